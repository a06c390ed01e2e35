/-! Layer 2: BESIDE, as an operation -/
theorem zh_R_bs {m : Nat → Nat} {cap A pl M F pr : Nat} {r : g_St} (hM : M ≤ 25500000) (hm : ∀ p, p < 256 → m p ≤ M) (hA : A < 256) (hpl : pl ≤ 5) (hpl0 : pl ≠ 0) (hcap : cap < 100) (hpr8 : pr < 256) (hp0 : pr ≠ 0) (h2 : r.1 2 0 = nI pl) (h42 : ∀ q, q ≤ A → r.1 42 q = nI (m q)) (h45 : ∀ k, k < 6 → ∀ s, s ≤ A → r.1 45 (256 * k + s) = zE (zh_D m cap k s)) (hF : 400 < F) : ((∃ v, v ≠ 0 ∧ v ≤ A ∧ z_in v A ∧ zh_bd m cap A pl pr v) → mm_beside_61 F (nI cap) (nI A) (nI pr) F (nI A) r = some (1, r)) ∧ (¬ (∃ v, v ≠ 0 ∧ v ≤ A ∧ z_in v A ∧ zh_bd m cap A pl pr v) → mm_beside_61 F (nI cap) (nI A) (nI pr) F (nI A) r = some (0, r)) := by
  have rl : g_rd r 2 2 (0 : Int32) = some (nI pl) := by rw [show (0 : Int32) = nI 0 from rfl, z_rd (by omega) (by omega), h2]
  have bD : ∀ i, i < 6 → ∀ s, s < 256 → zh_D m cap i s ≤ 1 + 5 * 25500000 := fun i hi s hs => by
    have := zh_D_bd (cap := cap) (k := i) hm hs
    have : i * M ≤ 5 * 25500000 := Nat.mul_le_mul (by omega) hM
    omega
  have bod : ∀ f v, v ≠ 0 → v ≤ A → z_in v A → (zh_bd m cap A pl pr v → mm_beside_61 F (nI cap) (nI A) (nI pr) (f + 1) (nI v) r = some (1, r)) ∧ (¬ zh_bd m cap A pl pr v → mm_beside_61 F (nI cap) (nI A) (nI pr) (f + 1) (nI v) r = mm_beside_61 F (nI cap) (nI A) (nI pr) f (nI ((v - 1) &&& A)) r) := by
    intro f v v0 v1 hin
    have hv8 : v < 256 := by omega
    have hx8 := z_xor_lt8 hA hin
    have hxs : A ^^^ v ≤ A := z_in_le (z_in_xor hin)
    have pc := z_pc_le v
    have bm := hm v hv8
    have b1 := bD (pl - 1) (by omega) _ hx8
    have b2 := bD pl (by omega) A hA
    have ex : A ^^^ (A &&& v) = A ^^^ v := by
      unfold z_in at hin
      rw [Nat.and_comm, hin]
    have hl8 : v &&& pr < 256 := Nat.lt_of_le_of_lt Nat.and_le_left hv8
    have rx : g_rd r 45 1536 (((256 : Int32) * (nI pl - (1 : Int32))) + (nI A &&& (nI v ^^^ (-1 : Int32)))) = some (zE (zh_D m cap (pl - 1) (A ^^^ v))) := by
      rw [show (1 : Int32) = nI 1 from rfl, z_sub (by omega), show (256 : Int32) = nI 256 from rfl, z_mul, z_andn, ex, nI_add, z_rd (by omega) (by omega), h45 _ (by omega) _ hxs]
    have ra : g_rd r 45 1536 (((256 : Int32) * nI pl) + nI A) = some (zE (zh_D m cap pl A)) := by
      rw [show (256 : Int32) = nI 256 from rfl, z_mul, nI_add, z_rd (by omega) (by omega), h45 _ (by omega) _ (Nat.le_refl A)]
    have nxt : (nI v - (1 : Int32)) &&& nI A = nI ((v - 1) &&& A) := by rw [show (1 : Int32) = nI 1 from rfl, z_sub (by omega), z_and]
    have b : mm_beside_61 F (nI cap) (nI A) (nI pr) (f + 1) (nI v) r = if nI (v &&& pr) = nI pr then (if nI cap < nI (z_pc v) then mm_beside_61 F (nI cap) (nI A) (nI pr) f (nI ((v - 1) &&& A)) r else if 0 ≤ zE (zh_D m cap (pl - 1) (A ^^^ v)) then (if zE (zh_D m cap (pl - 1) (A ^^^ v)) + nI (m v) = zE (zh_D m cap pl A) then some (1, r) else mm_beside_61 F (nI cap) (nI A) (nI pr) f (nI ((v - 1) &&& A)) r) else mm_beside_61 F (nI cap) (nI A) (nI pr) f (nI ((v - 1) &&& A)) r) else mm_beside_61 F (nI cap) (nI A) (nI pr) f (nI ((v - 1) &&& A)) r := by
      show mm_beside_61_b F (nI cap) (nI A) (nI pr) _ (nI v) r = _
      unfold mm_beside_61_b
      rw [if_pos (show (0 : Int32) < nI v from nI_lt (a := 0) (by omega) (by omega)), z_and, nxt, z_bits (by omega) (by omega), z_sbind, rl, z_sbind, rx, z_sbind, z_rd hv8 (by omega), z_sbind, z_sbind, ra, z_sbind, h42 v v1]
    rw [b]
    have eand : (nI (v &&& pr) = nI pr) = z_in pr v := by
      rw [z_eq (by omega) (by omega)]
      unfold z_in
      rw [Nat.and_comm]
    unfold zh_bd
    by_cases a1 : z_in pr v
    · rw [if_pos (by rw [eand]; exact a1)]
      by_cases a2 : z_pc v ≤ cap
      · rw [if_neg (by rw [z_lt (by omega) (by omega)]; omega)]
        by_cases a3 : zh_D m cap (pl - 1) (A ^^^ v) = 0
        · rw [if_neg (show ¬ (0 : Int32) ≤ zE (zh_D m cap (pl - 1) (A ^^^ v)) from by rw [a3]; decide)]
          exact ⟨fun q => absurd a3 q.2.2.1, fun _ => rfl⟩
        · rw [if_pos (show (0 : Int32) ≤ zE (zh_D m cap (pl - 1) (A ^^^ v)) from by show nI 0 ≤ _; rw [zE_le0 (by omega)]; exact a3), zE_pos a3, nI_add, show nI (zh_D m cap (pl - 1) (A ^^^ v) - 1 + m v) = zE (zh_D m cap (pl - 1) (A ^^^ v) + m v) from by rw [zE_pos (by omega)]; exact congrArg nI (by omega)]
          by_cases a4 : zh_D m cap (pl - 1) (A ^^^ v) + m v = zh_D m cap pl A
          · rw [if_pos (by rw [a4])]
            exact ⟨fun _ => rfl, fun q => absurd ⟨a1, a2, a3, a4⟩ q⟩
          · rw [if_neg (by rw [zE_inj (by omega) (by omega)]; exact a4)]
            exact ⟨fun q => absurd q.2.2.2 a4, fun _ => rfl⟩
      · rw [if_pos (nI_lt (by omega) (by omega))]
        exact ⟨fun q => absurd q.2.1 a2, fun _ => rfl⟩
    · rw [if_neg (by rw [eand]; exact a1)]
      exact ⟨fun q => absurd q.1 a1, fun _ => rfl⟩
  exact z_subs_ex (A := fun f v => mm_beside_61 F (nI cap) (nI A) (nI pr) f (nI v) r) (s := A) (hit := fun v => zh_bd m cap A pl pr v) (X := some (1, r)) (R := some (0, r)) (fun f p q1 q2 q3 q4 => (bod f p q1 q2 q3).1 q4) (fun f p q1 q2 q3 q4 => (bod f p q1 q2 q3).2 q4) (fun f => by
    show mm_beside_61_b F (nI cap) (nI A) (nI pr) _ (nI 0) r = _
    unfold mm_beside_61_b
    rw [if_neg (by decide)]) F A (Nat.le_refl _) (z_in_self _) (by omega)
theorem zo_beside {F : Nat} (hF : 4000 < F) {c r : g_St} (h : zi c r) (v1 v2 v3 : Int32) : zo_s c r (oo_beside F v1 v2 v3 c) (mm_beside F v1 v2 v3 r) := by
  obtain ⟨L, U, W, h⟩ := h
  have h0 := zo_0 h
  have ho := h.1
  have h5 := ho.1
  have h8 := ho.2.2.1
  have h28 := zo_p28 ho
  have hal := zv_all_lt ho
  unfold oo_beside mm_beside
  rw [z_sbind]
  generalize g_sI r 0 0 0 = r0 at h0 ⊢
  have can := zo_can h (v := v1)
  have two := zo_two h (v := v2) (w := v3)
  have q2 := zo_person h0 (v := v2)
  have q3 := zo_person h0 (v := v3)
  have bad : ∀ x : Option (Int32 × g_St), (∃ r2, x = some (-1, r2) ∧ zi_I L U W c r2) → ¬ (z_is v2 (zl_pp L) ∧ z_is v3 (zl_pp L) ∧ v2 ≠ v3) → zo_s c r0 ((oo_canLive c v1).bind fun x1 => if x1 = 0 then some ((-1 : Int32), c) else (oo_areTwo c v2 v3).bind fun x2 => if x2 = 0 then some ((-1 : Int32), c) else (oo_anywhere F c).bind fun μ3 => (oo_everybody μ3).bind fun x4 => (g_ql μ3 0).bind fun b5 => (oh_fill F x4 v1 (μ3.1 b5 0) μ3).bind fun μ6 => (oh_together F μ6 (((1 : Int32) <<< (v2 &&& 31)) ||| ((1 : Int32) <<< (v3 &&& 31)))).bind fun x7 => if x7 = 0 then some ((0 : Int32), μ6) else some ((1 : Int32), μ6)) x := by
    rintro x ⟨r2, rfl, i⟩ hn
    rw [two.2 hn, z_sbind, if_pos z_e0]
    rcases Classical.em (∃ k, 1 ≤ k ∧ k ≤ 8 ∧ v1 = nI k ∧ zl_pp L ≠ 0 ∧ zl_pp L ≤ k * zl_pl L) with b | b
    · rw [can.1 b, z_sbind, if_neg z_e1]; exact zo_s_of rfl rfl i
    · rw [can.2 b, z_sbind, if_pos z_e0]; exact zo_s_of rfl rfl i
  by_cases b2 : z_is v2 (zl_pp L)
  · rw [(q2.1 b2).2, z_sbind, if_neg z_e1]
    by_cases b3 : z_is v3 (zl_pp L)
    · rw [(q3.1 b3).2, z_sbind, if_neg z_e1]
      by_cases e : v2 = v3
      · rw [if_pos e]; exact bad _ ⟨r0, rfl, h0⟩ (fun q => q.2.2 e)
      · rw [if_neg e, two.1 ⟨b2, b3, e⟩, z_sbind, if_neg z_e1]
        by_cases b1 : ∃ k, 1 ≤ k ∧ k ≤ 8 ∧ v1 = nI k ∧ zl_pp L ≠ 0 ∧ zl_pp L ≤ k * zl_pl L
        · rw [can.1 b1, z_sbind, if_neg z_e1]
          obtain ⟨k, k1, k2, rfl, a, k4⟩ := b1
          obtain ⟨p, hp, rfl⟩ := b2
          obtain ⟨q, hq, rfl⟩ := b3
          obtain ⟨m, c2, c3, r3, hm, x1, i2, x2, x3, i3, i4, hC, h45, h42, h78⟩ := zo_houses (cap := k) h0 (by omega) a hF
          have h22 : 2 ≤ (2 : Nat) ^ zl_pp L := Nat.le_trans (by decide) (Nat.pow_le_pow_right (n := 2) (by omega) (by omega : 1 ≤ zl_pp L))
          have hal0 : zv_all L ≠ 0 := by unfold zv_all; omega
          have halp : ∀ u, u ≤ zv_all L → u < 2 ^ zl_pp L := fun u hu => by unfold zv_all at hu; omega
          have hnz : zh_D m k (zl_pl L) (zv_all L) ≠ 0 := by rw [zh_can ho k1]; exact k4
          have hpl0 : zl_pl L ≠ 0 := fun q => by rw [q] at k4; omega
          rw [if_neg hnz] at x3
          have pl2 : ∀ j, j < zl_pp L → (2 : Nat) ^ j < 2 ^ zl_pp L := fun j hj => Nat.pow_lt_pow_right (by omega) hj
          have prl : 2 ^ p ||| 2 ^ q < 2 ^ zl_pp L := Nat.or_lt_two_pow (pl2 p hp) (pl2 q hq)
          have prA : z_in (2 ^ p ||| 2 ^ q) (zv_all L) := z_in_all prl
          have pr0 : 2 ^ p ||| 2 ^ q ≠ 0 := by
            intro x
            have := congrArg (fun y => y.testBit p) x
            simp only [Nat.testBit_or, Nat.testBit_two_pow_self, Bool.true_or, Nat.zero_testBit] at this
            cases this
          have rp : g_rd r3 4 2 (0 : Int32) = some (nI (zl_pp L)) := by rw [show (0 : Int32) = nI 0 from rfl, z_rd (by omega) (by omega), i4.2.2.2.1.1.2.2.1]
          have eal : ((1 : Int32) <<< (nI (zl_pp L) &&& 31)) - (1 : Int32) = nI (zv_all L) := by
            rw [z_tp (by omega), show (1 : Int32) = nI 1 from rfl, z_sub (by omega)]; rfl
          have cpl : c2.1 (c2.2.2 0) 0 = nI (zl_pl L) := i2.2.2.1.2.2.1.1
          have kc := zh_C_bs (F := F) (pr := 2 ^ p ||| 2 ^ q) (Nat.le_refl 25500000) hm hal h5 (by omega) hC (fun u hu => h78 u (halp u hu)) prA (by omega)
          have kr := zh_R_bs (F := F) (pr := 2 ^ p ||| 2 ^ q) (Nat.le_refl 25500000) hm hal h5 hpl0 (show k < 100 by omega) (by omega) pr0 i4.2.2.2.1.1.1 (fun u hu => h42 u (halp u hu)) (fun j hj u hu => h45 j hj u (halp u hu)) (by omega)
          have both := zh_bs_bd (m := m) (cap := k) hal hal0 hpl0 prA pr0 hnz
          rw [x1, z_sbind, zo_all ho i2.2.2.1, z_sbind, z_ql i2.2.2.1.1, z_sbind, cpl, x2, z_sbind, zo_living1 h0 ⟨k1, k2⟩ a x3, z_sbind, if_neg (show ¬ (1 : Int32) = 0 by decide)]
          dsimp only
          rw [rp, z_sbind, z_sbind, eal, z_sbind, z_tp (by omega), z_tp (by omega), z_or]
          rcases Classical.em (zh_bs m k (zv_all L) (zl_pl L) (2 ^ p ||| 2 ^ q)) with b | b
          · rw [kc.1 b, kr.1 (both.mp b), z_sbind, if_neg (show ¬ (1 : Int32) = 0 by decide)]; exact zo_s_of rfl rfl i3
          · rw [kc.2 b, kr.2 (fun x => b (both.mpr x)), z_sbind, if_pos rfl]; exact zo_s_of rfl rfl i3
        · rw [can.2 b1, z_sbind, if_pos z_e0]
          obtain ⟨r2, x, i⟩ := zo_living hF h0 b1
          rw [x, z_sbind, if_pos rfl]; exact zo_s_of rfl rfl i
    · rw [(q3.2 b3).2, z_sbind, if_pos z_e0]; exact bad _ ⟨r0, rfl, h0⟩ (fun q => b3 q.2.1)
  · rw [(q2.2 b2).2, z_sbind, if_pos z_e0]; exact bad _ ⟨r0, rfl, h0⟩ (fun q => b2 q.1)
