/-! Layer 2: AT, who is visited, FAR -/
theorem zo_at {F : Nat} (hF : 4000 < F) {c r : g_St} (h : zi c r) (v1 : Int32) : zo_s c r (oo_at F v1 c) (mm_at F v1 r) := by
  obtain ⟨L, U, W, h⟩ := h
  have h0 := zo_0 h
  have ho := h.1
  have how := h.2.1
  have h8 := ho.2.2.1
  have h5 := ho.1
  have h28 := zo_p28 ho
  unfold oo_at mm_at
  rw [z_sbind]
  generalize g_sI r 0 0 0 = r0 at h0 ⊢
  have p1 := zo_place h (v := v1)
  have q1 := zo_place h0 (v := v1)
  by_cases b1 : z_is v1 (zl_pl L)
  · rw [(p1.1 b1).1, (q1.1 b1).2, z_sbind, z_sbind, if_neg z_e1, if_neg z_e1]
    obtain ⟨pl, hpl, rfl⟩ := b1
    have T : ∃ T : Nat → Nat, T = fun n => z_bs (fun p => decide (zw_pc W p = pl)) n := ⟨_, rfl⟩
    have D : ∃ D : Nat → Nat, D = fun n => z_bs (fun p => decide (zl_hm L p = pl)) n := ⟨_, rfl⟩
    obtain ⟨T, hT⟩ := T
    obtain ⟨D, hD⟩ := D
    have Tl : T (zl_pp L) < 2 ^ zl_pp L := by rw [hT]; exact z_bs_lt _ _
    have Dl : D (zl_pp L) < 2 ^ zl_pp L := by rw [hD]; exact z_bs_lt _ _
    have Ts : ∀ i, T (i + 1) = if zw_pc W i = pl then T i ||| 2 ^ i else T i := by
      intro i; rw [hT]
      show z_bs (fun p => decide (zw_pc W p = pl)) i ||| (if decide (zw_pc W i = pl) = true then 2 ^ i else 0) = _
      by_cases e : zw_pc W i = pl
      · rw [if_pos e, if_pos (decide_eq_true e)]
      · rw [if_neg e, if_neg (by rw [decide_eq_false e]; decide), Nat.or_zero]
    have Ds : ∀ i, D (i + 1) = if zl_hm L i = pl then D i ||| 2 ^ i else D i := by
      intro i; rw [hD]
      show z_bs (fun p => decide (zl_hm L p = pl)) i ||| (if decide (zl_hm L i = pl) = true then 2 ^ i else 0) = _
      by_cases e : zl_hm L i = pl
      · rw [if_pos e, if_pos (decide_eq_true e)]
      · rw [if_neg e, if_neg (by rw [decide_eq_false e]; decide), Nat.or_zero]
    have hC := h.2.2.1
    have hbu := hC.2.1
    unfold g_isRule at hbu
    have w1 : c.1 61 1 = nI (zw_lf W) := hC.2.2.2.2.2.1
    obtain ⟨c2, hc2, n1, n2⟩ := zc_find (F := F) (A := T (zl_pp L)) (ds := D (zl_pp L)) (br := 81) (lf := zw_lf W) hC ho how (by omega) (by omega) (by omega) how.2.1 (by omega)
    have kC : zi_kC c c2 := zi_kC_f n1 (fun id q => by unfold zc_id; omega)
    have hz2 : zi_I L U W c2 r0 := zi_C h0 kC (zi_ca_f h0.2.2.2.2.2.2.2 (by rw [n1.1 0 (by unfold zc_id; omega)]) (fun id q1 q2 => n1.1 id (by unfold zc_id; omega)))
    obtain ⟨r2, e2, h3, z3⟩ := zo_works (F := F) (ds := D (zl_pp L)) hz2 (by omega) (by omega)
    obtain ⟨b, -, -, -, b4, b5⟩ := zr_same (by omega) n2 z3
    have m := (b4 _ Tl).1
    have d : c2.1 88 (T (zl_pp L)) = nI (zm_f b 256 (T (zl_pp L))).1 := (b5 _ (by omega) (z_in_self _)).1
    have x1 : oo_at_17 F (nI pl) F (nI 0) (nI 0) (nI 0) c = some (nI (zm_f b 256 (T (zl_pp L))).1, c2) := by
      have t0 : T 0 = 0 := by rw [hT]; rfl
      have d0 : D 0 = 0 := by rw [hD]; rfl
      have hz := z_cnt0 (n := zl_pp L) (X := some (nI (zm_f b 256 (T (zl_pp L))).1, c2)) (A := fun f i => oo_at_17 F (nI pl) f (nI (T i)) (nI (D i)) (nI i) c) (F := F) (fun f i hi => ?_) (fun f => ?_) (by omega)
      · have hz : oo_at_17 F (nI pl) F (nI (T 0)) (nI (D 0)) (nI 0) c = _ := hz
        rw [t0, d0] at hz; exact hz
      · show oo_at_17_b F (nI pl) _ (nI (T i)) (nI (D i)) (nI i) c = _
        have cw : c.1 68 i = nI (zw_pc W i) := (hC.2.2.2.2.2.2.2 i hi).2
        have ow := (how.2.2.2 i hi).2
        have ch := (hC.2.2.1.2.2.2.2.2 i hi).1
        have oh := (ho.2.2.2.2.2 i hi).1
        unfold oo_at_17_b oo_at_50
        simp (disch := omega) only [nI_lit, z_ql hC.1, z_sbind, hC.2.2.1.2.2.1, z_lt, hi, if_true, z_rd, cw, ch, z_eq, z_and, z_or, z_xor, z_n31, z_shr, z_shl1, z_bit_and, z_andn, nI_add]
        show _ = oo_at_17 F (nI pl) f (nI (T (i + 1))) (nI (D (i + 1))) (nI (i + 1)) c
        rw [Ts, Ds]
        by_cases a1 : zw_pc W i = pl <;> by_cases a2 : zl_hm L i = pl <;> simp only [a1, a2, if_true, if_false]
      · show oo_at_17_b F (nI pl) _ (nI (T (zl_pp L))) (nI (D (zl_pp L))) (nI (zl_pp L)) c = _
        unfold oo_at_17_b
        rw [z_ql hC.1, z_sbind, hC.2.2.1.2.2.1, if_neg (by rw [z_lt (by omega) (by omega)]; omega), w1, hc2, z_sbind, z_rd (by omega) (by omega), z_sbind, d]
    have x2 : mm_at_22 F (nI pl) F (nI 0) (nI 0) (nI 0) r0 = some (nI (zm_f b 256 (T (zl_pp L))).1, r2) := by
      have t0 : T 0 = 0 := by rw [hT]; rfl
      have d0 : D 0 = 0 := by rw [hD]; rfl
      have hR := h0.2.2.2.1
      have hz := z_cnt0 (n := zl_pp L) (X := some (nI (zm_f b 256 (T (zl_pp L))).1, r2)) (A := fun f i => mm_at_22 F (nI pl) f (nI (D i)) (nI (T i)) (nI i) r0) (F := F) (fun f i hi => ?_) (fun f => ?_) (by omega)
      · have hz : mm_at_22 F (nI pl) F (nI (D 0)) (nI (T 0)) (nI 0) r0 = _ := hz
        rw [t0, d0] at hz; exact hz
      · show mm_at_22_b F (nI pl) _ (nI (D i)) (nI (T i)) (nI i) r0 = _
        have cw := (hR.2.2.2.2.2 i hi).2
        have ow := (how.2.2.2 i hi).2
        have ch := (hR.1.2.2.2.2.2 i hi).1
        have oh := (ho.2.2.2.2.2 i hi).1
        unfold mm_at_22_b mm_at_53
        simp (disch := omega) only [nI_lit, z_sbind, hR.1.2.2.1, z_lt, hi, if_true, z_rd, cw, ch, z_eq, z_and, z_or, z_xor, z_n31, z_shr, z_shl1, z_bit_and, z_andn, nI_add, Nat.or_zero]
        show _ = mm_at_22 F (nI pl) f (nI (D (i + 1))) (nI (T (i + 1))) (nI (i + 1)) r0
        rw [Ts, Ds]
        by_cases a1 : zw_pc W i = pl <;> by_cases a2 : zl_hm L i = pl <;> simp only [a1, a2, if_true, if_false]
      · show mm_at_22_b F (nI pl) _ (nI (D (zl_pp L))) (nI (T (zl_pp L))) (nI (zl_pp L)) r0 = _
        unfold mm_at_22_b
        rw [show (0 : Int32) = nI 0 from rfl, z_rd (by omega) (by omega), z_sbind, hR.1.2.2.1, if_neg (by rw [z_lt (by omega) (by omega)]; omega), e2, z_sbind, z_rd (by omega) (by omega), z_sbind, m]
    exact zo_s_of x1 x2 h3
  · rw [(p1.2 b1).1, (q1.2 b1).2, z_sbind, z_sbind, if_pos z_e0, if_pos z_e0]; exact zo_s_of rfl rfl h0
theorem zo_dv {a b : Nat} (ha : a < 2147483648) (hb : b < 2147483648) (h0 : b ≠ 0) : g_dv (nI a) (nI b) = some (nI (a / b)) := by
  unfold g_dv
  rw [if_neg (fun q => h0 (by have : nI b = nI 0 := q; rw [z_eq hb (by omega)] at this; exact this))]
  exact congrArg some (Int32.ofNat_div ha hb).symm
theorem zo_within1 {μ : g_St} {v : Int32} {n : Nat} (hn : n < 2147483647) : ((∃ j, 1 ≤ j ∧ j ≤ n ∧ v = nI j) → mm_within μ v 1 (nI n) = some (nI 1)) ∧ (¬ (∃ j, 1 ≤ j ∧ j ≤ n ∧ v = nI j) → mm_within μ v 1 (nI n) = some (nI 0)) := by
  refine ⟨?_, fun hv => ?_⟩
  · rintro ⟨j, hj, hj2, rfl⟩
    unfold mm_within
    simp (disch := omega) only [nI_lit, z_le, hj, hj2, if_true]
  · unfold mm_within
    by_cases h0 : (1 : Int32) ≤ v
    · rw [if_pos h0, if_neg]; rfl
      intro h1
      obtain ⟨j, hj, rfl⟩ := nI_of (x := v) (by rw [Int32.lt_iff_toInt_lt]; rw [Int32.le_iff_toInt_le] at h0; have : (0 : Int32).toInt = 0 := rfl; have : (1 : Int32).toInt = 1 := rfl; omega)
      rw [z_le (by omega) (by omega)] at h1
      rw [show (1 : Int32) = nI 1 from rfl, z_le (by omega) (by omega)] at h0
      exact hv ⟨j, h0, h1, rfl⟩
    · rw [if_neg h0]; rfl
theorem z_ask5 {α : Type} {v : Int32} {n : Nat} (hn : n < 2147483647) {a b : α} : ((∃ j, 1 ≤ j ∧ j ≤ n ∧ v = nI j) → (if 1 ≤ v then if v ≤ nI n then a else b else b) = a) ∧ (¬ (∃ j, 1 ≤ j ∧ j ≤ n ∧ v = nI j) → (if 1 ≤ v then if v ≤ nI n then a else b else b) = b) := by
  refine ⟨?_, fun hv => ?_⟩
  · rintro ⟨j, hj, hj2, rfl⟩
    rw [if_pos (show (1 : Int32) ≤ nI j from nI_le (a := 1) hj (by omega)), if_pos (nI_le hj2 (by omega))]
  · by_cases h0 : (1 : Int32) ≤ v
    · rw [if_pos h0, if_neg]
      intro h1
      obtain ⟨j, hj, rfl⟩ := nI_of (x := v) (by rw [Int32.lt_iff_toInt_lt]; rw [Int32.le_iff_toInt_le] at h0; have : (0 : Int32).toInt = 0 := rfl; have : (1 : Int32).toInt = 1 := rfl; omega)
      rw [z_le (by omega) (by omega)] at h1
      rw [show (1 : Int32) = nI 1 from rfl, z_le (by omega) (by omega)] at h0
      exact hv ⟨j, h0, h1, rfl⟩
    · rw [if_neg h0]
theorem zo_far {F : Nat} (hF : 4000 < F) {c r : g_St} (h : zi c r) (v1 v2 v3 v4 : Int32) : zo_p c r (oo_far F c v1 v2 v3 v4) (mm_far F v1 v2 v3 v4 r) := by
  obtain ⟨L, U, W, h⟩ := h
  have h0 := zo_0 h
  have kk : zi_kR r (g_sI r 0 0 0) := zo_k0
  have ho := h.1
  have h6 := ho.2.1
  have h5 := ho.1
  have h8 := ho.2.2.1
  unfold oo_far mm_far
  rw [z_sbind]
  generalize g_sI r 0 0 0 = r0 at h0 kk ⊢
  have p1 := zo_person h (v := v1)
  have q1 := zo_person h0 (v := v1)
  have p2 := zo_good h (v := v2)
  have q2 := zo_good h0 (v := v2)
  have w3 := zo_within1 (μ := r0) (v := v3) (n := 99) (by omega)
  have w := zo_within (μ := r0) (v := v4) (n := 1) (by omega)
  by_cases b1 : z_is v1 (zl_pp L)
  · rw [(p1.1 b1).1, (q1.1 b1).2, z_sbind, z_sbind, if_neg z_e1, if_neg z_e1]
    by_cases b2 : z_is v2 (zl_gd L)
    · rw [(p2.1 b2).1, (q2.1 b2).2, z_sbind, z_sbind, if_neg z_e1, if_neg z_e1, show (99 : Int32) = nI 99 from rfl]
      by_cases b3 : ∃ j, 1 ≤ j ∧ j ≤ 99 ∧ v3 = nI j
      · rw [w3.1 b3, z_sbind, if_neg z_e1, (z_ask5 (by omega)).1 b3]
        have e1 : ∀ {α : Type} {a b : α}, (if 0 ≤ v4 then if (1 : Int32) < v4 then b else a else b) = (if 0 ≤ v4 then if nI 1 < v4 then b else a else b) := fun {α a b} => rfl
        by_cases b4 : z_is v4 2
        · have w4 : mm_within r0 v4 0 1 = some (nI 1) := w.1 b4
          rw [w4, z_sbind, if_neg z_e1, e1, (z_ask4 (by omega)).1 b4]
          obtain ⟨p, hp, rfl⟩ := b1
          obtain ⟨g, hg, rfl⟩ := b2
          obtain ⟨pr, hpr, hpr2, rfl⟩ := b3
          obtain ⟨k, hk, rfl⟩ := b4
          have ww := zl_wk_le ho hp (g := g) (by omega) 0
          have cw := zl_C_wk (k := 0) h.2.2.1.2.2.1 ho hp (g := g) (by omega) (by omega)
          have rw0 := (h0.2.2.2.1.1.2.2.2.2.2 p hp).2.2 (3 * g) (by omega)
          have ew : zl_wk L p g 0 = zl_wo L p (3 * g) := by unfold zl_wk; rw [if_pos (by omega)]; rfl
          rw [ew] at cw ww
          have hq : zl_wo L p (3 * g) / pr ≤ 999 := Nat.le_trans (Nat.div_le_self _ _) ww
          have em1 : g_min (nI (zl_wo L p (3 * g) / pr)) 999 = nI (zl_wo L p (3 * g) / pr) := by
            rw [show (999 : Int32) = nI 999 from rfl, z_min (by omega) (by omega), Nat.min_eq_left hq]
          have em2 : g_min 999 (nI (zl_wo L p (3 * g) / pr)) = nI (zl_wo L p (3 * g) / pr) := by
            rw [show (999 : Int32) = nI 999 from rfl, z_min (by omega) (by omega), Nat.min_eq_right hq]
          generalize hH : zl_wo L p (3 * g) / pr = H at *
          have hm : mm_far_72 F (nI p) (nI g) (nI k) (nI H) F (nI 0) (nI 0) r0 = some (if k = 0 then nI H else nI (zl_mw L p g H (zl_pp L)), r0) := by
            have hR := h0.2.2.2.1
            refine z_cnt0 (n := zl_pp L) (A := fun f i => mm_far_72 F (nI p) (nI g) (nI k) (nI H) f (nI (zl_mw L p g H i)) (nI i) r0) (fun f i hi => ?_) (fun f => ?_) (by omega)
            · show mm_far_72_b F (nI p) (nI g) (nI k) (nI H) _ (nI (zl_mw L p g H i)) (nI i) r0 = mm_far_72 F (nI p) (nI g) (nI k) (nI H) f (nI (zl_mw L p g H (i + 1))) (nI (i + 1)) r0
              have ri := hR.1.2.2.2.2.2 i hi
              have rp := hR.1.2.2.2.2.2 p hp
              have li := (ho.2.2.2.2.2 i hi).1
              have lp := (ho.2.2.2.2.2 p hp).1
              have hmk := zl_mk_lt ho hi
              have hbl := z_bit_lt (zl_mk L i) g
              have hw := hR.1.2.2.2.1 _ _ lp li
              have hw2 := ho.2.2.2.1 _ _ lp li
              have es : zl_mw L p g H (i + 1) = zl_mw L p g H i + (if i ≠ p ∧ z_bit (zl_mk L i) g = 1 ∧ zl_wy L (zl_hm L p) (zl_hm L i) < 999 ∧ 2 * zl_wy L (zl_hm L p) (zl_hm L i) ≤ H then 1 else 0) := rfl
              unfold mm_far_72_b mm_isWay
              simp (disch := omega) only [nI_lit, z_rd, z_sbind, hR.1.2.2.1, z_lt, hi, if_true, z_eq, ri.1, ri.2.1, rp.1, z_and, z_or, z_xor, z_n31, z_shr, z_shl1, z_bit_and, z_andn, z_mul, nI_add, hw, z_le, Nat.add_zero, es]
              by_cases a1 : i = p
              · rw [if_pos a1, if_neg (fun q => q.1 a1)]; rfl
              · rw [if_neg a1]
                by_cases a2 : z_bit (zl_mk L i) g = 1
                · rw [if_pos a2]
                  by_cases a3 : zl_wy L (zl_hm L p) (zl_hm L i) < 999
                  · rw [if_pos a3, z_sbind, if_neg (by decide)]
                    by_cases a4 : 2 * zl_wy L (zl_hm L p) (zl_hm L i) ≤ H
                    · rw [if_pos a4, if_pos ⟨a1, a2, a3, a4⟩]
                    · rw [if_neg a4, if_neg (fun q => a4 q.2.2.2)]; rfl
                  · rw [if_neg a3, z_sbind, if_pos rfl, if_neg (fun q => a3 q.2.2.1)]; rfl
                · rw [if_neg a2, if_neg (fun q => a2 q.2.1)]; rfl
            · show mm_far_72_b F (nI p) (nI g) (nI k) (nI H) _ (nI (zl_mw L p g H (zl_pp L))) (nI (zl_pp L)) r0 = _
              unfold mm_far_72_b
              rw [show (0 : Int32) = nI 0 from rfl, z_rd (by omega) (by omega), z_sbind, hR.1.2.2.1, if_neg (by rw [z_lt (by omega) (by omega)]; omega)]
              rcases (by omega : k = 0 ∨ k = 1) with rfl | rfl
              · rw [if_pos rfl, if_pos rfl]
              · rw [if_neg (by decide), if_neg (by omega)]
          have cw' : ol_worthOf (c.2.2 0) c (nI p) (nI g) 0 = some (nI (zl_wo L p (3 * g))) := cw
          rw [z_ql h.2.2.1.1, z_sbind, cw', z_sbind, zo_dv (by omega) (by omega) (by omega), z_sbind, hH, em1, z_sbind, zl_C_mw h.2.2.1.2.2.1 ho hp (by omega) (by omega) (by omega), z_sbind]
          simp (disch := omega) only [nI_lit, z_mul, nI_add, z_rd, z_sbind]
          rw [rw0, zo_dv (by omega) (by omega) (by omega), z_sbind, hH, show (nI 999 : Int32) = 999 from rfl, em2, hm]
          rcases (by omega : k = 0 ∨ k = 1) with rfl | rfl
          · rw [if_pos rfl, if_pos rfl]; exact zo_p_of h rfl rfl kk
          · rw [if_neg (by decide), if_neg (by omega)]; exact zo_p_of h rfl rfl kk
        · have w4 : mm_within r0 v4 0 1 = some (nI 0) := w.2 b4
          rw [w4, z_sbind, if_pos z_e0, e1, (z_ask4 (by omega)).2 b4]; exact zo_p_of h rfl rfl kk
      · rw [w3.2 b3, z_sbind, if_pos z_e0, (z_ask5 (by omega)).2 b3]; exact zo_p_of h rfl rfl kk
    · rw [(p2.2 b2).1, (q2.2 b2).2, z_sbind, z_sbind, if_pos z_e0, if_pos z_e0]; exact zo_p_of h rfl rfl kk
  · rw [(p1.2 b1).1, (q1.2 b1).2, z_sbind, z_sbind, if_pos z_e0, if_pos z_e0]; exact zo_p_of h rfl rfl kk
