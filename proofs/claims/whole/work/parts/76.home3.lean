/-! Layer 2: houses, the class's tables -/
theorem zh_E_bd {m : Nat → Nat} {cap M : Nat} (hm : ∀ p, p < 256 → m p ≤ M) : ∀ k s, s < 256 → zh_E m cap k s ≤ 1 + k * M
  | 0, s, _ => by show (if s = 0 then 1 else 0) ≤ _; split <;> omega
  | k + 1, s, hs => by
    by_cases h0 : s = 0
    · subst h0; show (if 0 = 0 then 0 else _) ≤ _; rw [if_pos rfl]; exact Nat.zero_le _
    · rw [zh_E_le hs h0]
      intro p hp
      have ih := zh_E_bd (cap := cap) hm k (s ^^^ p) (z_xor_lt8 hs hp.1)
      have hp8 := hm p (Nat.lt_of_le_of_lt (z_in_le hp.1) hs)
      unfold zh_f
      rw [Nat.succ_mul]
      split <;> omega
theorem zh_f_bd {m : Nat → Nat} {cap M k s p : Nat} (hm : ∀ p, p < 256 → m p ≤ M) (hs : s < 256) (hp : p < 256) : zh_f m cap (zh_E m cap k) s p ≤ 1 + (k + 1) * M := by
  have ih := zh_E_bd (cap := cap) hm k (s ^^^ p) (Nat.xor_lt_two_pow (n := 8) hs hp)
  have hp8 := hm p hp
  unfold zh_f
  rw [Nat.succ_mul]
  split <;> omega
theorem zh_C_group {m : Nat → Nat} {cap k s p M : Nat} {c : g_St} (hM : M ≤ 25500000) (hm : ∀ p, p < 256 → m p ≤ M) (hs : s < 256) (hp : z_in p s) (hk : k < 6) (hcap : cap < 100) (hE : ∀ t, z_in t s → c.1 (93 + k) t = zE (zh_E m cap k t)) (h78 : c.1 78 p = nI (m p)) (h2 : c.1 91 2 = nI cap) : oh_withGroup c (nI (k + 1)) (nI s) (nI p) = some (zE (zh_f m cap (zh_E m cap k) s p)) := by
  have hp8 : p < 256 := Nat.lt_of_le_of_lt (z_in_le hp) hs
  have hr8 := z_xor_lt8 hs hp
  have bd := zh_E_bd (cap := cap) hm k (s ^^^ p) hr8
  have bm := hm p hp8
  have bk : k * M ≤ 5 * 25500000 := Nat.mul_le_mul (by omega) hM
  have pc := z_pc_le p
  have e1 : nI (k + 1) - (1 : Int32) = nI k := by rw [show (1 : Int32) = nI 1 from rfl, z_sub (by omega)]; rfl
  unfold oh_withGroup
  rw [e1, z_rr (by omega) (by omega), z_sbind, z_xor, z_rd hr8 (by omega), z_sbind, hE _ (z_in_xor hp), z_bc hp8, z_sbind, h2]
  unfold zh_f
  by_cases a1 : z_pc p ≤ cap
  · rw [if_pos (nI_le a1 (by omega))]
    by_cases a2 : zh_E m cap k (s ^^^ p) = 0
    · rw [if_pos (show zE (zh_E m cap k (s ^^^ p)) = (-1 : Int32) from by rw [a2]; rfl), if_neg (fun q => q.2 a2)]; rfl
    · rw [if_neg (show ¬ zE (zh_E m cap k (s ^^^ p)) = (-1 : Int32) from fun q => a2 (by have : zE (zh_E m cap k (s ^^^ p)) = -nI 1 := q; rwa [zE_m1 (by omega)] at this)), if_pos ⟨a1, a2⟩, z_rd hp8 (by omega), z_sbind, h78, zE_pos a2, zE_pos (by omega), nI_add]
      exact congrArg (fun x => some (nI x)) (by omega)
  · rw [if_neg (by rw [z_le (by omega) (by omega)]; exact a1), if_neg (fun q => a1 q.1)]; rfl
theorem zh_C_split {m : Nat → Nat} {cap k s M F : Nat} {c : g_St} (hM : M ≤ 25500000) (hm : ∀ p, p < 256 → m p ≤ M) (hs : s < 256) (h0 : s ≠ 0) (hk : k < 6) (hcap : cap < 100) (hE : ∀ t, z_in t s → c.1 (93 + k) t = zE (zh_E m cap k t)) (h78 : ∀ p, z_in p s → c.1 78 p = nI (m p)) (h2 : c.1 91 2 = nI cap) (hF : 300 < F) : oh_bestSplit F c (nI (k + 1)) (nI s) = some (zE (zh_E m cap (k + 1) s)) := by
  have hl := z_lw_in hs h0
  have hl8 : z_lw s < 256 := Nat.lt_of_le_of_lt (z_in_le hl) hs
  have hr := z_in_xor hl
  have hr8 := z_xor_lt8 hs hl
  have bk : (k + 1) * M ≤ 6 * 25500000 := Nat.mul_le_mul (by omega) hM
  have fb : ∀ q, z_in q (s ^^^ z_lw s) → zh_f m cap (zh_E m cap k) s (q ||| z_lw s) ≤ 160000000 := fun q hq => by
    have := zh_f_bd (cap := cap) (k := k) (p := q ||| z_lw s) hm hs (Nat.or_lt_two_pow (n := 8) (Nat.lt_of_le_of_lt (z_in_le hq) hr8) hl8)
    omega
  obtain ⟨F', rfl⟩ : ∃ f, F = f + 1 := ⟨F - 1, by omega⟩
  unfold oh_bestSplit
  rw [z_low s hs, z_xor]
  have step : ∀ (f n q : Nat), n ≤ 160000000 → z_in q (s ^^^ z_lw s) → oh_bestSplit_19 (F' + 1) c (nI (k + 1)) (nI s) (nI (z_lw s)) (nI (s ^^^ z_lw s)) (f + 1) (zE n) (nI q) = if nI q = (0 : Int32) then oh_bestSplit_19 (F' + 1) c (nI (k + 1)) (nI s) (nI (z_lw s)) (nI (s ^^^ z_lw s)) f (zE (max n (zh_f m cap (zh_E m cap k) s (q ||| z_lw s)))) (-1) else oh_bestSplit_19 (F' + 1) c (nI (k + 1)) (nI s) (nI (z_lw s)) (nI (s ^^^ z_lw s)) f (zE (max n (zh_f m cap (zh_E m cap k) s (q ||| z_lw s)))) ((nI q - 1) &&& nI (s ^^^ z_lw s)) := by
    intro f n q hn hq
    have hq8 : q < 256 := Nat.lt_of_le_of_lt (z_in_le hq) hr8
    have hin := z_in_or (z_in_trans hq hr) hl
    have b := fb q hq
    show oh_bestSplit_19_b (F' + 1) c (nI (k + 1)) (nI s) (nI (z_lw s)) (nI (s ^^^ z_lw s)) _ (zE n) (nI q) = _
    unfold oh_bestSplit_19_b
    rw [if_pos (nI_pos' (by omega)), z_or, zh_C_group hM hm hs hin hk hcap hE (h78 _ hin) h2, z_sbind, zE_max (by omega) (by omega)]
  have key := z_subs (A := fun f q n => oh_bestSplit_19 (F' + 1) c (nI (k + 1)) (nI s) (nI (z_lw s)) (nI (s ^^^ z_lw s)) (f + 1) (zE n) (nI q)) (s := s ^^^ z_lw s) (g := fun n q => max n (zh_f m cap (zh_E m cap k) s (q ||| z_lw s))) (R := fun n => some (zE (max n (zh_f m cap (zh_E m cap k) s (0 ||| z_lw s))))) (fun n => n ≤ 160000000) (fun f q n hq0 hqs hin hn => ?_) (fun n q hqs hn => ?_) (fun f n hn => ?_) F' (s ^^^ z_lw s) 0 (by omega) (Nat.le_refl _) (z_in_self _) (by omega)
  · have key : oh_bestSplit_19 (F' + 1) c (nI (k + 1)) (nI s) (nI (z_lw s)) (nI (s ^^^ z_lw s)) (F' + 1) (-1) (nI (s ^^^ z_lw s)) = _ := key
    rw [key]
    show _ = some (zE (if s = 0 then 0 else z_mx (zh_f m cap (zh_E m cap k) s) 0 (zh_l s)))
    rw [if_neg h0]
    unfold z_mx zh_l
    rw [List.foldl_map, List.foldl_append]
    rfl
  · have hq8 : q < 256 := Nat.lt_of_le_of_lt hqs hr8
    have st := step (f + 1) n q hn hin
    refine st.trans ?_
    rw [if_neg (show ¬ nI q = (0 : Int32) from by show ¬ nI q = nI 0; rw [z_eq (by omega) (by omega)]; exact hq0), show (1 : Int32) = nI 1 from rfl, z_sub (by omega), z_and]
  · show max n (zh_f m cap (zh_E m cap k) s (q ||| z_lw s)) ≤ 160000000
    have := zh_f_bd (cap := cap) (k := k) (p := q ||| z_lw s) hm hs (Nat.or_lt_two_pow (n := 8) (Nat.lt_of_le_of_lt hqs hr8) hl8)
    exact Nat.max_le.mpr ⟨hn, by omega⟩
  · have st := step (f + 1) n 0 hn (Nat.zero_and _)
    refine st.trans ?_
    rw [if_pos z_e0]
    show oh_bestSplit_19_b (F' + 1) c (nI (k + 1)) (nI s) (nI (z_lw s)) (nI (s ^^^ z_lw s)) _ _ (-1) = _
    unfold oh_bestSplit_19_b
    rw [if_neg (by decide)]
/-- the best number of houses so far: (worth + 1, houses + 1) -/
def zh_b (m : Nat → Nat) (cap A : Nat) : Nat → Nat × Nat
  | 0 => (0, 0)
  | k + 1 => if (zh_b m cap A k).1 < zh_E m cap (k + 1) A then (zh_E m cap (k + 1) A, k + 2) else zh_b m cap A k
theorem zh_b_le {m : Nat → Nat} {cap A : Nat} : ∀ k, (zh_b m cap A k).2 ≤ k + 1
  | 0 => Nat.zero_le _
  | k + 1 => by
    have := zh_b_le (m := m) (cap := cap) (A := A) k
    unfold zh_b
    split
    · exact Nat.le_refl _
    · omega
theorem zh_b_bd {m : Nat → Nat} {cap A M : Nat} (hm : ∀ p, p < 256 → m p ≤ M) (hA : A < 256) : ∀ k, (zh_b m cap A k).1 ≤ 1 + k * M
  | 0 => Nat.zero_le _
  | k + 1 => by
    have := zh_b_bd (cap := cap) hm hA k
    have e := zh_E_bd (cap := cap) hm (k + 1) A hA
    unfold zh_b
    split
    · exact e
    · rw [Nat.succ_mul]; omega
def zh_id (id : Nat) : Prop := id ≠ 91 ∧ (id < 93 ∨ 98 < id)
def zh_C (m : Nat → Nat) (cap A pl n : Nat) (c : g_St) : Prop := c.1 91 1 = nI A ∧ c.1 91 2 = nI cap ∧ c.1 91 3 = nI pl ∧ c.1 91 4 = zE (zh_b m cap A n).1 ∧ c.1 91 5 = zE (zh_b m cap A n).2 ∧ ∀ k, k ≤ n → ∀ s, s ≤ A → c.1 (93 + k) s = zE (zh_E m cap k s)
theorem zh_C_fill {m : Nat → Nat} {cap A pl M F : Nat} {c : g_St} (hM : M ≤ 25500000) (hm : ∀ p, p < 256 → m p ≤ M) (hA : A < 256) (hA0 : A ≠ 0) (hpl : pl ≤ 5) (hcap : cap < 100) (h78 : ∀ p, p ≤ A → c.1 78 p = nI (m p)) (hF : 400 < F) : z_w (oh_fill F (nI A) (nI cap) (nI pl) c) (fun s => z_f zh_id c s ∧ zh_C m cap A pl pl s) := by
  unfold oh_fill
  rw [z_sbind, z_sbind, z_sbind, z_sbind, z_sbind, show (-1 : Int32) = -nI 1 from rfl, show g_rr (fun j => 93 + j) 6 (0 : Int32) = some 93 from z_rr (i := 0) (by omega) (by omega), z_sbind, z_fill _ (by omega) (by omega), z_sbind, z_sbind, show g_wr _ 93 256 (0 : Int32) (0 : Int32) = some _ from z_wr (i := 0) (by omega) (by omega), z_sbind]
  have bk : pl * M ≤ 5 * 25500000 := Nat.mul_le_mul hpl hM
  have z0 : z_f zh_id c (g_sI (z_fl (g_sI (g_sI (g_sI (g_sI (g_sI c 91 1 (nI A)) 91 2 (nI cap)) 91 3 (nI pl)) 91 4 (-nI 1)) 91 5 (-nI 1)) 93 256 (-nI 1)) 93 0 0) := by
    refine ⟨fun id q => ?_, rfl⟩
    unfold zh_id at q
    rw [z_sI_f (by omega)]
    funext j
    show (if id = 93 ∧ j < 256 then _ else _) = _
    rw [if_neg (by omega)]
    simp (disch := omega) only [z_sI_id]
  have c0 : zh_C m cap A pl 0 (g_sI (z_fl (g_sI (g_sI (g_sI (g_sI (g_sI c 91 1 (nI A)) 91 2 (nI cap)) 91 3 (nI pl)) 91 4 (-nI 1)) 91 5 (-nI 1)) 93 256 (-nI 1)) 93 0 0) := by
    have fl : ∀ (μ : g_St) (j : Nat), (z_fl μ 93 256 (-nI 1)).1 91 j = μ.1 91 j := fun μ j => by rw [z_fl_ta, z_ta_o (by omega)]
    refine ⟨?_, ?_, ?_, ?_, ?_, fun k hk s hs => ?_⟩
    · rw [z_sI_id (by omega), fl]; simp (disch := omega) only [z_sI_k, z_sI_same]
    · rw [z_sI_id (by omega), fl]; simp (disch := omega) only [z_sI_k, z_sI_same]
    · rw [z_sI_id (by omega), fl]; simp (disch := omega) only [z_sI_k, z_sI_same]
    · rw [z_sI_id (by omega), fl]; simp (disch := omega) only [z_sI_k, z_sI_same]; rfl
    · rw [z_sI_id (by omega), fl]; simp (disch := omega) only [z_sI_k, z_sI_same]; rfl
    · have : k = 0 := by omega
      subst this
      show (g_sI _ 93 0 0).1 93 s = zE (if s = 0 then 1 else 0)
      by_cases e : s = 0
      · subst e; rw [z_sI_same]; rfl
      · rw [z_sI_k e, if_neg e]
        show (if 93 = 93 ∧ s < 256 then _ else _) = _
        rw [if_pos ⟨rfl, by omega⟩]; rfl
  refine z_cw (n := pl) (A := fun f k s => oh_fill_48 F f (nI (k + 1)) s) (fun k s => z_f zh_id c s ∧ zh_C m cap A pl k s) ?_ ?_ F 0 _ (by omega) ⟨z0, c0⟩ (by omega)
  · intro f k s hk ⟨hz, hC⟩ hK
    obtain ⟨d1, d2, d3, d4, d5, dE⟩ := hC
    have bk2 : (k + 1) * M ≤ 5 * 25500000 := Nat.mul_le_mul (by omega) hM
    have bb := zh_b_bd (cap := cap) hm hA k
    have bb2 : k * M ≤ 5 * 25500000 := Nat.mul_le_mul (by omega) hM
    have bE := zh_E_bd (cap := cap) hm (k + 1) A hA
    show z_w (oh_fill_48_b F _ (nI (k + 1)) s) _
    unfold oh_fill_48_b
    rw [d3, if_pos (nI_le (by omega) (by omega)), z_rr (by omega) (by omega), z_sbind, show g_wr s (93 + (k + 1)) 256 (0 : Int32) (-1 : Int32) = some (g_sI s (93 + (k + 1)) 0 (-1)) from z_wr (i := 0) (by omega) (by omega), z_sbind]
    refine z_cw (n := A) (A := fun f2 t s => oh_fill_70 F (nI (k + 1)) (oh_fill_48 F f) f2 (nI (t + 1)) s) (fun t s => z_f zh_id c s ∧ zh_C m cap A pl k s ∧ ∀ u, u ≤ t → s.1 (93 + (k + 1)) u = zE (zh_E m cap (k + 1) u)) ?_ ?_ F 0 _ (by omega) ⟨?_, ?_, ?_⟩ (by omega)
    · intro f2 t s2 ht ⟨gz, gC, gE⟩ gK
      obtain ⟨e1, e2, e3, e4, e5, eE⟩ := gC
      show z_w (oh_fill_70_b F (nI (k + 1)) _ _ (nI (t + 1)) s2) _
      unfold oh_fill_70_b
      rw [e1, if_pos (nI_le (by omega) (by omega)), z_rr (by omega) (by omega), z_sbind, zh_C_split (m := m) hM hm (by omega) (by omega) (by omega) hcap (fun u hu => eE k (Nat.le_refl k) u (by have := z_in_le hu; omega)) (fun p hp => by rw [gz.1 78 (by unfold zh_id; omega)]; exact h78 p (by have := z_in_le hp; omega)) e2 (by omega), z_sbind, z_wr (by omega) (by omega), z_sbind, nI_1]
      refine gK _ ⟨z_f_trans gz (z_f_sI (P := zh_id) (by unfold zh_id; omega)) (fun _ q => q) (fun _ q => q), ⟨?_, ?_, ?_, ?_, ?_, fun j hj u hu => ?_⟩, fun u hu => ?_⟩
      · rw [z_sI_id (by omega)]; exact e1
      · rw [z_sI_id (by omega)]; exact e2
      · rw [z_sI_id (by omega)]; exact e3
      · rw [z_sI_id (by omega)]; exact e4
      · rw [z_sI_id (by omega)]; exact e5
      · rw [z_sI_id (by omega)]; exact eE j hj u hu
      · by_cases e : u = t + 1
        · rw [e, z_sI_same]
        · rw [z_sI_k e]; exact gE u (by omega)
    · intro f2 s2 ⟨gz, gC, gE⟩
      obtain ⟨e1, e2, e3, e4, e5, eE⟩ := gC
      show z_w (oh_fill_70_b F (nI (k + 1)) _ _ (nI (A + 1)) s2) _
      unfold oh_fill_70_b
      rw [e1, if_neg (by rw [z_le (by omega) (by omega)]; omega), z_rr (by omega) (by omega), z_sbind, z_rd hA (by omega), z_sbind, gE A (Nat.le_refl A), e4, z_sbind, nI_1]
      have eb : zh_b m cap A (k + 1) = if (zh_b m cap A k).1 < zh_E m cap (k + 1) A then (zh_E m cap (k + 1) A, k + 2) else zh_b m cap A k := rfl
      have eE2 : ∀ j, j ≤ k + 1 → ∀ u, u ≤ A → s2.1 (93 + j) u = zE (zh_E m cap j u) := by
        intro j hj u hu
        by_cases e : j = k + 1
        · rw [e]; exact gE u hu
        · exact eE j (by omega) u hu
      by_cases a : (zh_b m cap A k).1 < zh_E m cap (k + 1) A
      · rw [if_pos (by rw [zE_lt (by omega) (by omega)]; exact a), z_rd hA (by omega), z_sbind, z_sbind, z_sbind, gE A (Nat.le_refl A)]
        rw [if_pos a] at eb
        refine hK _ ⟨z_f_trans (z_f_trans gz (z_f_sI (P := zh_id) (by unfold zh_id; omega)) (fun _ q => q) (fun _ q => q)) (z_f_sI (P := zh_id) (by unfold zh_id; omega)) (fun _ q => q) (fun _ q => q), ⟨?_, ?_, ?_, ?_, ?_, fun j hj u hu => ?_⟩⟩
        · simp (disch := omega) only [z_sI_k]; exact e1
        · simp (disch := omega) only [z_sI_k]; exact e2
        · simp (disch := omega) only [z_sI_k]; exact e3
        · simp (disch := omega) only [z_sI_k, z_sI_same]; rw [eb]
        · rw [z_sI_same, eb]; exact (zE_s (k + 1)).symm
        · simp (disch := omega) only [z_sI_id]; exact eE2 j hj u hu
      · rw [if_neg (by rw [zE_lt (by omega) (by omega)]; exact a)]
        rw [if_neg a] at eb
        exact hK _ ⟨gz, e1, e2, e3, by rw [eb]; exact e4, by rw [eb]; exact e5, eE2⟩
    · exact z_f_trans hz (z_f_sI (P := zh_id) (by unfold zh_id; omega)) (fun _ q => q) (fun _ q => q)
    · refine ⟨?_, ?_, ?_, ?_, ?_, fun j hj u hu => ?_⟩
      · rw [z_sI_id (by omega)]; exact d1
      · rw [z_sI_id (by omega)]; exact d2
      · rw [z_sI_id (by omega)]; exact d3
      · rw [z_sI_id (by omega)]; exact d4
      · rw [z_sI_id (by omega)]; exact d5
      · rw [z_sI_id (by omega)]; exact dE j hj u hu
    · intro u hu
      have : u = 0 := by omega
      subst this
      rw [z_sI_same]; rfl
  · intro f s ⟨hz, hC⟩
    have d3 := hC.2.2.1
    show z_w (oh_fill_48_b F _ (nI (pl + 1)) s) _
    unfold oh_fill_48_b
    rw [d3, if_neg (by rw [z_le (by omega) (by omega)]; omega)]
    exact z_w_some ⟨hz, hC⟩
