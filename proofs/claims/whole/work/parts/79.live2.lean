/-! Layer 2: LIVE, as an operation -/
theorem z_pc_A {L : zl_T} (ho : zl_ok L) : z_pc (zv_all L) = zl_pp L := z_pc_all _ (by have := ho.2.2.1; omega)
theorem zh_can {L : zl_T} {m : Nat → Nat} {cap : Nat} (ho : zl_ok L) (hc : 1 ≤ cap) : (zh_D m cap (zl_pl L) (zv_all L) ≠ 0) = (zl_pp L ≤ cap * zl_pl L) := by
  rw [zh_DM _ _ (zv_all_lt ho), zh_M_can hc (zv_all_lt ho), z_pc_A ho]
theorem zo_living {L : zl_T} {U : zu_T} {W : zw_T} {c r : g_St} {F : Nat} {v : Int32} (hF : 4000 < F) (h : zi_I L U W c r) (hn : ¬ (∃ k, 1 ≤ k ∧ k ≤ 8 ∧ v = nI k ∧ zl_pp L ≠ 0 ∧ zl_pp L ≤ k * zl_pl L)) : ∃ r2, mm_isLiving F v r = some (0, r2) ∧ zi_I L U W c r2 := by
  have ho := h.1
  have h8 := ho.2.2.1
  have r4 : g_rd r 4 2 (0 : Int32) = some (nI (zl_pp L)) := by rw [show (0 : Int32) = nI 0 from rfl, z_rd (by omega) (by omega), h.2.2.2.1.1.2.2.1]
  have w := zo_within1 (μ := r) (v := v) (n := 8) (by omega)
  unfold mm_isLiving
  rw [r4, z_sbind]
  by_cases a : zl_pp L = 0
  · rw [if_neg (show ¬ (0 : Int32) < nI (zl_pp L) from by rw [a]; decide)]
    exact ⟨r, rfl, h⟩
  · rw [if_pos (show (0 : Int32) < nI (zl_pp L) from nI_lt (a := 0) (by omega) (by omega)), show (8 : Int32) = nI 8 from rfl]
    by_cases b : ∃ j, 1 ≤ j ∧ j ≤ 8 ∧ v = nI j
    · rw [w.1 b, z_sbind, if_neg z_e1]
      obtain ⟨k, k1, k2, rfl⟩ := b
      obtain ⟨m, c2, c3, r3, hm, e1, i2, e2, e3, i3, i4, hC, h45, h42, h78⟩ := zo_houses (cap := k) h (by omega) a hF
      have hz : zh_D m k (zl_pl L) (zv_all L) = 0 := by
        refine Decidable.byContradiction (fun q => hn ⟨k, k1, k2, rfl, a, ?_⟩)
        rw [← zh_can (m := m) ho k1]; exact q
      rw [hz, if_pos rfl] at e3
      rw [e3, z_sbind, if_pos z_e0]
      exact ⟨r3, rfl, i4⟩
    · rw [w.2 b, z_sbind, if_pos z_e0]
      exact ⟨r, rfl, h⟩
theorem zo_living1 {L : zl_T} {U : zu_T} {W : zw_T} {c r r3 : g_St} {F k : Nat} (h : zi_I L U W c r) (hk : 1 ≤ k ∧ k ≤ 8) (hp : zl_pp L ≠ 0) (e : mm_livesOut F (nI k) r = some (nI 1, r3)) : mm_isLiving F (nI k) r = some (1, r3) := by
  have ho := h.1
  have h8 := ho.2.2.1
  have r4 : g_rd r 4 2 (0 : Int32) = some (nI (zl_pp L)) := by rw [show (0 : Int32) = nI 0 from rfl, z_rd (by omega) (by omega), h.2.2.2.1.1.2.2.1]
  have w := zo_within1 (μ := r) (v := nI k) (n := 8) (by omega)
  unfold mm_isLiving
  rw [r4, z_sbind, if_pos (show (0 : Int32) < nI (zl_pp L) from nI_lt (a := 0) (by omega) (by omega)), show (8 : Int32) = nI 8 from rfl, w.1 ⟨k, hk.1, hk.2, rfl⟩, z_sbind, if_neg z_e1, e, z_sbind, if_neg z_e1]
theorem zo_live {F : Nat} (hF : 4000 < F) {c r : g_St} (h : zi c r) (v1 v2 : Int32) : zo_s c r (oo_live F v1 v2 c) (mm_live F v1 v2 r) := by
  obtain ⟨L, U, W, h⟩ := h
  have h0 := zo_0 h
  have ho := h.1
  have h5 := ho.1
  have h8 := ho.2.2.1
  have h28 := zo_p28 ho
  have hal := zv_all_lt ho
  unfold oo_live mm_live
  rw [z_sbind]
  generalize g_sI r 0 0 0 = r0 at h0 ⊢
  have can := zo_can h (v := v1)
  have w := zo_within (μ := r0) (v := v2) (n := 1) (by omega)
  have w' : ∀ x, mm_within r0 v2 0 (nI 1) = x → mm_within r0 v2 0 1 = x := fun _ q => q
  have e1 : ∀ {α : Type} {a b : α}, (if 0 ≤ v2 then if (1 : Int32) < v2 then b else a else b) = (if 0 ≤ v2 then if nI 1 < v2 then b else a else b) := fun {α a b} => rfl
  by_cases b1 : ∃ k, 1 ≤ k ∧ k ≤ 8 ∧ v1 = nI k ∧ zl_pp L ≠ 0 ∧ zl_pp L ≤ k * zl_pl L
  · rw [can.1 b1, z_sbind, if_neg z_e1, e1]
    by_cases b2 : z_is v2 2
    · rw [w' _ (w.1 b2), z_sbind, if_neg z_e1, (z_ask4 (by omega)).1 b2]
      obtain ⟨k, k1, k2, rfl, a, k4⟩ := b1
      obtain ⟨j, hj, rfl⟩ := b2
      obtain ⟨m, c2, c3, r3, hm, x1, i2, x2, x3, i3, i4, hC, h45, h42, h78⟩ := zo_houses (cap := k) h0 (by omega) a hF
      have h22 : 2 ≤ (2 : Nat) ^ zl_pp L := Nat.le_trans (by decide) (Nat.pow_le_pow_right (n := 2) (by omega) (by omega : 1 ≤ zl_pp L))
      have hal0 : zv_all L ≠ 0 := by unfold zv_all; omega
      have halp : zv_all L < 2 ^ zl_pp L := by unfold zv_all; omega
      have hnz : zh_D m k (zl_pl L) (zv_all L) ≠ 0 := by rw [zh_can ho k1]; exact k4
      rw [if_neg hnz] at x3
      have dM := zh_DM (m := m) (cap := k) (zl_pl L) (zv_all L) hal
      have bM := zh_b_M (m := m) (cap := k) hal0 (zl_pl L)
      have bf := zh_b_first (m := m) (cap := k) hal0 (zl_pl L) (by rw [← dM]; exact hnz)
      have bl := zh_b_le (m := m) (cap := k) (A := zv_all L) (zl_pl L)
      have bD : ∀ i, i < 6 → zh_D m k i (zv_all L) < 2147483648 := fun i hi => by
        have := zh_D_bd (cap := k) (k := i) (s := zv_all L) hm hal
        have : i * 25500000 ≤ 5 * 25500000 := Nat.mul_le_mul_right _ (by omega)
        omega
      have rp : g_rd r3 4 2 (0 : Int32) = some (nI (zl_pp L)) := by rw [show (0 : Int32) = nI 0 from rfl, z_rd (by omega) (by omega), i4.2.2.2.1.1.2.2.1]
      have rl : g_rd r3 2 2 (0 : Int32) = some (nI (zl_pl L)) := by rw [show (0 : Int32) = nI 0 from rfl, z_rd (by omega) (by omega), i4.2.2.2.1.1.1]
      have eal : ((1 : Int32) <<< (nI (zl_pp L) &&& 31)) - (1 : Int32) = nI (zv_all L) := by
        rw [z_tp (by omega), show (1 : Int32) = nI 1 from rfl, z_sub (by omega)]; rfl
      have rd : ∀ i, i < 6 → g_rd r3 45 1536 (((256 : Int32) * nI i) + nI (zv_all L)) = some (zE (zh_D m k i (zv_all L))) := fun i hi => by
        rw [show (256 : Int32) = nI 256 from rfl, z_mul, nI_add, z_rd (by omega) (by omega), h45 i hi _ halp]
      have cpl : c2.1 (c2.2.2 0) 0 = nI (zl_pl L) := i2.2.2.1.2.2.1.1
      rw [x1, z_sbind, zo_all ho i2.2.2.1, z_sbind, z_ql i2.2.2.1.1, z_sbind, cpl, x2, z_sbind, hC.2.2.2.1, hC.2.2.2.2.1, zo_living1 h0 ⟨k1, k2⟩ a x3, z_sbind, if_neg (show ¬ (1 : Int32) = 0 by decide)]
      dsimp only
      rw [rp, z_sbind, z_sbind, eal, rl, z_sbind, rd _ (by omega), z_sbind]
      rcases (by omega : j = 0 ∨ j = 1) with rfl | rfl
      · rw [if_pos z_e0, if_pos z_e0, bM, ← dM]; exact zo_s_of rfl rfl i3
      · rw [if_neg z_e1, if_neg z_e1]
        have lp : mm_live_64 F (nI (zv_all L)) (zE (zh_D m k (zl_pl L) (zv_all L))) F 0 r3 = some (nI ((zh_b m k (zv_all L) (zl_pl L)).2 - 1), r3) := by
          refine z_cnt0 (n := (zh_b m k (zv_all L) (zl_pl L)).2 - 1) (A := fun f i => mm_live_64 F (nI (zv_all L)) (zE (zh_D m k (zl_pl L) (zv_all L))) f (nI i) r3) (fun f i hi => ?_) (fun f => ?_) (by omega)
          · show mm_live_64_b F (nI (zv_all L)) (zE (zh_D m k (zl_pl L) (zv_all L))) _ (nI i) r3 = _
            have lt := bf.2.2 i hi
            rw [← dM, ← zh_DM i _ hal] at lt
            have b1 := bD i (by omega)
            have b2 := bD (zl_pl L) (by omega)
            unfold mm_live_64_b
            rw [rd i (by omega), z_sbind, if_neg (by rw [zE_inj b1 b2]; omega), nI_1]
          · show mm_live_64_b F (nI (zv_all L)) (zE (zh_D m k (zl_pl L) (zv_all L))) _ (nI ((zh_b m k (zv_all L) (zl_pl L)).2 - 1)) r3 = _
            have e := bf.2.1
            rw [← dM, ← zh_DM _ _ hal] at e
            unfold mm_live_64_b
            rw [rd _ (by omega), z_sbind, e, if_pos rfl]
        rw [lp, zE_pos bf.1]; exact zo_s_of rfl rfl i3
    · rw [w' _ (w.2 b2), z_sbind, if_pos z_e0, (z_ask4 (by omega)).2 b2]; exact zo_s_of rfl rfl h0
  · rw [can.2 b1, z_sbind, if_pos z_e0]
    by_cases b2 : z_is v2 2
    · rw [w' _ (w.1 b2), z_sbind, if_neg z_e1]
      obtain ⟨r2, x, i⟩ := zo_living hF h0 b1
      rw [x, z_sbind, if_pos rfl]; exact zo_s_of rfl rfl i
    · rw [w' _ (w.2 b2), z_sbind, if_pos z_e0]; exact zo_s_of rfl rfl h0
