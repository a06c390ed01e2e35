/-! Layer 2: houses, the reference's tables -/
theorem zh_D_bd {m : Nat → Nat} {cap M k s : Nat} (hm : ∀ p, p < 256 → m p ≤ M) (hs : s < 256) : zh_D m cap k s ≤ 1 + k * M := by
  rw [zh_DM k s hs]
  obtain ⟨j, j1, j2⟩ := zh_M_at (m := m) (cap := cap) (s := s) k
  rw [j2]
  have := zh_E_bd (cap := cap) hm j s hs
  have : j * M ≤ k * M := Nat.mul_le_mul_right _ j1
  omega
theorem zh_g_bd {m : Nat → Nat} {cap M k s p : Nat} (hm : ∀ p, p < 256 → m p ≤ M) (hs : s < 256) (hp : p < 256) : zh_g m cap (zh_D m cap k) s p ≤ 1 + (k + 1) * M := by
  have ih := zh_D_bd (cap := cap) (k := k) hm (Nat.xor_lt_two_pow (n := 8) hs hp)
  have hp8 := hm p hp
  unfold zh_g zh_f
  rw [Nat.succ_mul]
  repeat' split
  all_goals omega
theorem zh_R_set {m : Nat → Nat} {cap M k s F : Nat} {r : g_St} {K7 K15 : Int32 → g_St → Option (Int32 × g_St)} (hM : M ≤ 25500000) (hm : ∀ p, p < 256 → m p ≤ M) (hs : s < 256) (hk : k < 6) (hcap : cap < 100) (h42 : ∀ q, q ≤ s → r.1 42 q = nI (m q)) (hD : ∀ j, j + 1 = k → ∀ t, t ≤ s → r.1 45 (256 * j + t) = zE (zh_D m cap j t)) (hF : 300 < F) : mm_livesOut_47 F (nI cap) (nI k) (nI s) (nI s &&& (-nI s)) K7 K15 F (zE (if s = 0 then 1 else 0)) (nI s) r = K15 (nI (s + 1)) (g_sI r 45 (256 * k + s) (zE (zh_D m cap k s))) := by
  have w143 : ∀ v : Int32, mm_livesOut_143 F K7 K15 (nI cap) (nI k) (nI s) v r = K15 (nI (s + 1)) (g_sI r 45 (256 * k + s) v) := by
    intro v
    unfold mm_livesOut_143
    rw [show (256 : Int32) = nI 256 from rfl, z_mul, nI_add, z_wr (by omega) (by omega), z_sbind, nI_1]
  rw [z_low s hs]
  cases k with
  | zero =>
    obtain ⟨F', rfl⟩ : ∃ f, F = f + 1 := ⟨F - 1, by omega⟩
    show mm_livesOut_47_b (F' + 1) (nI cap) (nI 0) (nI s) (nI (z_lw s)) K7 K15 _ (zE (if s = 0 then 1 else 0)) (nI s) r = _
    unfold mm_livesOut_47_b
    rw [w143, if_neg (show ¬ (0 : Int32) < nI 0 by decide)]
    split <;> rfl
  | succ k =>
    have bk : (k + 1) * M ≤ 6 * 25500000 := Nat.mul_le_mul (by omega) hM
    have key := z_subs (A := fun f q n => mm_livesOut_47 F (nI cap) (nI (k + 1)) (nI s) (nI (z_lw s)) K7 K15 f (zE n) (nI q) r) (s := s) (g := fun n q => max n (zh_g m cap (zh_D m cap k) s q)) (R := fun n => K15 (nI (s + 1)) (g_sI r 45 (256 * (k + 1) + s) (zE n))) (fun n => n ≤ 160000000) (fun f q n hq0 hqs hin hn => ?_) (fun n q hqs hn => ?_) (fun f n hn => ?_) F s (if s = 0 then 1 else 0) (by split <;> omega) (Nat.le_refl _) (z_in_self _) (by omega)
    · rw [key]
      congr 3
      show _ = (if s = 0 then 1 else z_mx (zh_g m cap (zh_D m cap k) s) 0 (z_ss s s))
      by_cases e : s = 0
      · subst e; rfl
      · rw [if_neg e, if_neg e]; rfl
    · show mm_livesOut_47_b F (nI cap) (nI (k + 1)) (nI s) (nI (z_lw s)) K7 K15 _ (zE n) (nI q) r = _
      have hq8 : q < 256 := by omega
      have hl8 : q &&& z_lw s < 256 := Nat.lt_of_le_of_lt Nat.and_le_left hq8
      have pc := z_pc_le q
      have bm := hm q hq8
      have hx8 := z_xor_lt8 hs hin
      have hxs : s ^^^ q ≤ s := z_in_le (z_in_xor hin)
      have bD := zh_D_bd (cap := cap) (k := k) hm hx8
      have bD2 : k * M ≤ 5 * 25500000 := Nat.mul_le_mul (by omega) hM
      have ex : s ^^^ (s &&& q) = s ^^^ q := by
        unfold z_in at hin
        rw [Nat.and_comm, hin]
      have nxt : (nI q - (1 : Int32)) &&& nI s = nI ((q - 1) &&& s) := by rw [show (1 : Int32) = nI 1 from rfl, z_sub (by omega), z_and]
      have rd45 : g_rd r 45 1536 (((256 : Int32) * (nI (k + 1) - (1 : Int32))) + (nI s &&& (nI q ^^^ (-1 : Int32)))) = some (zE (zh_D m cap k (s ^^^ q))) := by
        rw [show (1 : Int32) = nI 1 from rfl, z_sub (by omega), show (256 : Int32) = nI 256 from rfl, z_mul, z_andn, ex, nI_add, z_rd (by omega) (by omega), show k + 1 - 1 = k from rfl, hD k rfl _ hxs]
      unfold mm_livesOut_47_b
      rw [if_pos (show (0 : Int32) < nI q from nI_lt (a := 0) (by omega) (by omega)), if_pos (show (0 : Int32) < nI (k + 1) from nI_lt (a := 0) (by omega) (by omega)), nxt, z_and, z_bits (by omega) (by omega), z_sbind, rd45, z_sbind, z_rd hq8 (by omega), z_sbind, z_sbind, h42 q hqs]
      show _ = mm_livesOut_47 F (nI cap) (nI (k + 1)) (nI s) (nI (z_lw s)) K7 K15 f (zE (max n (zh_g m cap (zh_D m cap k) s q))) (nI ((q - 1) &&& s)) r
      unfold zh_g zh_f
      by_cases a1 : q &&& z_lw s = 0
      · rw [if_pos (show nI (q &&& z_lw s) = (0 : Int32) from by rw [a1]; rfl), if_pos a1, Nat.max_eq_left (Nat.zero_le _)]
      · rw [if_neg (show ¬ nI (q &&& z_lw s) = (0 : Int32) from by show ¬ _ = nI 0; rw [z_eq (by omega) (by omega)]; exact a1), if_neg a1]
        by_cases a2 : z_pc q ≤ cap
        · rw [if_pos (nI_le a2 (by omega))]
          by_cases a3 : zh_D m cap k (s ^^^ q) = 0
          · rw [if_pos (show zE (zh_D m cap k (s ^^^ q)) < (0 : Int32) from by rw [a3]; decide), if_neg (fun x => x.2 a3), Nat.max_eq_left (Nat.zero_le _)]
          · rw [if_neg (show ¬ zE (zh_D m cap k (s ^^^ q)) < (0 : Int32) from by show ¬ _ < nI 0; rw [zE_lt0 (by omega)]; exact a3), if_pos ⟨a2, a3⟩, zE_pos a3, nI_add, show nI (m q + (zh_D m cap k (s ^^^ q) - 1)) = zE (zh_D m cap k (s ^^^ q) + m q) from by rw [zE_pos (by omega)]; exact congrArg nI (by omega), zE_max (by omega) (by omega)]
        · rw [if_neg (by rw [z_le (by omega) (by omega)]; exact a2), if_neg (fun x => a2 x.1), Nat.max_eq_left (Nat.zero_le _)]
    · have := zh_g_bd (cap := cap) (k := k) (p := q) hm hs (by omega)
      exact Nat.max_le.mpr ⟨hn, by omega⟩
    · show mm_livesOut_47_b F (nI cap) (nI (k + 1)) (nI s) (nI (z_lw s)) K7 K15 _ (zE n) (nI 0) r = _
      unfold mm_livesOut_47_b
      rw [if_neg (by decide), w143]
theorem zh_R_out {m : Nat → Nat} {cap pp pl M F : Nat} {r : g_St} (hM : M ≤ 25500000) (hm : ∀ p, p < 256 → m p ≤ M) (hp8 : pp ≤ 8) (hpl : pl ≤ 5) (hcap : cap < 100) (h4 : r.1 4 0 = nI pp) (h2 : r.1 2 0 = nI pl) (h42 : ∀ q, q < 2 ^ pp → r.1 42 q = nI (m q)) (hF : 400 < F) :
    z_w (mm_livesOut_7 F (nI cap) F 0 r) (fun y => y.1 = nI (if zh_D m cap pl (2 ^ pp - 1) = 0 then 0 else 1) ∧ z_f (fun id => id ≠ 45) r y.2 ∧ ∀ k, k < 6 → ∀ s, s < 2 ^ pp → y.2.1 45 (256 * k + s) = zE (zh_D m cap k s)) := by
  have h28 : (2 : Nat) ^ pp ≤ 256 := Nat.pow_le_pow_right (n := 2) (by omega) hp8
  have h20 : 0 < (2 : Nat) ^ pp := Nat.two_pow_pos _
  refine z_cw (n := 6) (A := fun f k s => mm_livesOut_7 F (nI cap) f (nI k) s) (fun k s => z_f (fun id => id ≠ 45) r s ∧ ∀ j, j < k → ∀ t, t < 2 ^ pp → s.1 45 (256 * j + t) = zE (zh_D m cap j t)) ?_ ?_ F 0 r (by omega) ⟨z_f_refl, fun j hj => absurd hj (by omega)⟩ (by omega)
  · intro f k s hk ⟨hz, hD⟩ hK
    show z_w (mm_livesOut_7_b F (nI cap) _ (nI k) s) _
    unfold mm_livesOut_7_b
    rw [if_pos (show nI k < (6 : Int32) from nI_lt (b := 6) hk (by omega))]
    refine z_cw (n := 2 ^ pp) (A := fun f2 t s => mm_livesOut_15 F (nI cap) (nI k) (mm_livesOut_7 F (nI cap) f) f2 (nI t) s) (fun t s => z_f (fun id => id ≠ 45) r s ∧ (∀ j, j < k → ∀ t, t < 2 ^ pp → s.1 45 (256 * j + t) = zE (zh_D m cap j t)) ∧ ∀ u, u < t → s.1 45 (256 * k + u) = zE (zh_D m cap k u)) ?_ ?_ F 0 s (by omega) ⟨hz, hD, fun u hu => absurd hu (by omega)⟩ (by omega)
    · intro f2 t s2 ht ⟨gz, gD, gE⟩ gK
      have g4 : g_rd s2 4 2 (0 : Int32) = some (nI pp) := by rw [show (0 : Int32) = nI 0 from rfl, z_rd (by omega) (by omega), gz.1 4 (by omega), h4]
      have set := zh_R_set (m := m) (cap := cap) (k := k) (s := t) (F := F) (r := s2) (K7 := mm_livesOut_7 F (nI cap) f) (K15 := mm_livesOut_15 F (nI cap) (nI k) (mm_livesOut_7 F (nI cap) f) f2) hM hm (by omega) hk hcap (fun q hq => by rw [gz.1 42 (by omega)]; exact h42 q (by omega)) (fun j hj u hu => gD j (by omega) u (by omega)) (by omega)
      have b : mm_livesOut_15_b F (nI cap) (nI k) (mm_livesOut_7 F (nI cap) f) (mm_livesOut_15 F (nI cap) (nI k) (mm_livesOut_7 F (nI cap) f) f2) (nI t) s2 = mm_livesOut_15 F (nI cap) (nI k) (mm_livesOut_7 F (nI cap) f) f2 (nI (t + 1)) (g_sI s2 45 (256 * k + t) (zE (zh_D m cap k t))) := by
        unfold mm_livesOut_15_b
        rw [g4, z_sbind, z_tp (by omega), if_pos (nI_lt ht (by omega)), ← set]
        by_cases e : t = 0
        · subst e; rw [if_pos z_e0]; rfl
        · rw [if_neg (show ¬ nI t = (0 : Int32) from by show ¬ _ = nI 0; rw [z_eq (by omega) (by omega)]; exact e), if_neg e]; rfl
      show z_w (mm_livesOut_15_b F (nI cap) (nI k) (mm_livesOut_7 F (nI cap) f) (mm_livesOut_15 F (nI cap) (nI k) (mm_livesOut_7 F (nI cap) f) f2) (nI t) s2) _
      rw [b]
      refine gK _ ⟨z_f_trans gz (z_f_sI (P := fun id => id ≠ 45) (fun q => q rfl)) (fun _ q => q) (fun _ q => q), fun j hj u hu => ?_, fun u hu => ?_⟩
      · rw [z_sI_k (by omega)]; exact gD j hj u hu
      · by_cases e : u = t
        · rw [e, z_sI_same]
        · rw [z_sI_k (by omega)]; exact gE u (by omega)
    · intro f2 s2 ⟨gz, gD, gE⟩
      have g4 : g_rd s2 4 2 (0 : Int32) = some (nI pp) := by rw [show (0 : Int32) = nI 0 from rfl, z_rd (by omega) (by omega), gz.1 4 (by omega), h4]
      show z_w (mm_livesOut_15_b F (nI cap) (nI k) _ _ (nI (2 ^ pp)) s2) _
      unfold mm_livesOut_15_b
      rw [g4, z_sbind, z_tp (by omega), if_neg (by rw [z_lt (by omega) (by omega)]; omega), nI_1]
      refine hK _ ⟨gz, fun j hj u hu => ?_⟩
      by_cases e : j = k
      · rw [e]; exact gE u hu
      · exact gD j (by omega) u hu
  · intro f s ⟨hz, hD⟩
    have g4 : g_rd s 4 2 (0 : Int32) = some (nI pp) := by rw [show (0 : Int32) = nI 0 from rfl, z_rd (by omega) (by omega), hz.1 4 (by omega), h4]
    have g2 : g_rd s 2 2 (0 : Int32) = some (nI pl) := by rw [show (0 : Int32) = nI 0 from rfl, z_rd (by omega) (by omega), hz.1 2 (by omega), h2]
    have hd := hD pl (by omega) (2 ^ pp - 1) (by omega)
    have bD : zh_D m cap pl (2 ^ pp - 1) ≤ 1 + pl * M := zh_D_bd hm (by omega)
    have bD2 : pl * M ≤ 5 * 25500000 := Nat.mul_le_mul hpl hM
    show z_w (mm_livesOut_7_b F (nI cap) _ (nI 6) s) _
    unfold mm_livesOut_7_b
    rw [if_neg (by decide), g2, g4, z_sbind, z_sbind, z_tp (by omega), show (256 : Int32) = nI 256 from rfl, z_mul, nI_add, show (1 : Int32) = nI 1 from rfl, z_sub (by omega), show 256 * pl + 2 ^ pp - 1 = 256 * pl + (2 ^ pp - 1) by omega, z_rd (by omega) (by omega), z_sbind, hd]
    by_cases e : zh_D m cap pl (2 ^ pp - 1) = 0
    · rw [if_neg (show ¬ (0 : Int32) ≤ zE (zh_D m cap pl (2 ^ pp - 1)) from by rw [e]; decide)]
      exact z_w_some ⟨by rw [if_pos e]; rfl, hz, hD⟩
    · rw [if_pos (show (0 : Int32) ≤ zE (zh_D m cap pl (2 ^ pp - 1)) from by show nI 0 ≤ _; rw [zE_le0 (by omega)]; exact e)]
      exact z_w_some ⟨by rw [if_neg e], hz, hD⟩
