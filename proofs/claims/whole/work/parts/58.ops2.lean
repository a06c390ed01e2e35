/-! Layer 2: calls that ask of the WEEK; GO -/
theorem z_isn {v : Int32} {n k : Nat} (h : ¬ z_is v n) (hk : k < n) : ¬ v = nI k := fun e => h ⟨k, hk, e⟩
theorem zo_s_of {L : zl_T} {U : zu_T} {W : zw_T} {c c2 r r2 : g_St} {x : Int32} {f m : Option (Int32 × g_St)} (hf : f = some (x, c2)) (hm : m = some (x, r2)) (h : zi_I L U W c2 r2) : zo_s c r f m := ⟨x, c2, r2, hf, hm, L, U, W, h⟩
theorem zo_C_happy {L : zl_T} {U : zu_T} {W : zw_T} {c : g_St} {F p : Nat} (hC : zk_C L U W c) (ho : zl_ok L) (how : zw_ok L W) (hp : p < zl_pp L) (hF : 50 < F) : oo_happyOf F c (nI p) = some (nI (zw_hap L W p (zl_gd L))) := by
  have h8 := ho.2.2.1
  have h6 := ho.2.1
  unfold oo_happyOf
  refine z_cnt0 (n := zl_gd L) (A := fun f i => oo_happyOf_4 F c (nI p) f (nI (zw_hap L W p i)) (nI i)) (fun f i hi => ?_) (fun f => ?_) (by omega)
  · show oo_happyOf_4_b F c (nI p) _ _ (nI i) = _
    have hh := zw_held_le W p i (zw_n W)
    have := how.1
    unfold oo_happyOf_4_b
    rw [z_ql hC.1, z_sbind, hC.2.2.1.2.1, if_pos (nI_lt hi (by omega)), z_sbind, zw_C_held hC.2.2.2.2 how (by omega) (by omega) ⟨h8, h6⟩ (by omega), z_sbind, zl_C_some hC.2.2.1 ho hp (by omega) (by omega) (by omega), z_sbind, nI_add, nI_1]
    rfl
  · show oo_happyOf_4_b F c (nI p) _ _ (nI (zl_gd L)) = _
    unfold oo_happyOf_4_b
    rw [z_ql hC.1, z_sbind, hC.2.2.1.2.1, if_neg (by rw [z_lt (by omega) (by omega)]; omega)]
theorem zo_counts {L : zl_T} {U : zu_T} {W : zw_T} {c r : g_St} {F : Nat} (h : zi_I L U W c r) (hF : 50 < F) : ∃ r2, mm_counts F r = some r2 ∧ zi_I L U W c r2 ∧ zi_kR r r2 ∧ r2.1 0 = r.1 0 ∧ ∀ p g, p < 8 → g < 6 → r2.1 37 (6 * p + g) = nI (zw_held W p g (zw_n W)) := by
  have hk : zi_kR r (z_ta r 37 48 (fun j => nI (zw_held W (j / 6) (j % 6) (zw_n W)))) := zi_kR_f (z_ta_f (P := fun id => id ≠ 37) (fun q => q rfl)) (fun id q => by omega)
  exact ⟨_, zw_R_counts h.2.2.2.1.2.2 h.2.1 ⟨h.1.2.2.1, h.1.2.1⟩ hF, zi_R h hk, hk, z_ta_o (by omega), fun p g hp hg => zw_many hp hg⟩
theorem zo_personq {F : Nat} (hF : 4000 < F) {c r : g_St} (h : zi c r) (v1 v2 : Int32) : zo_p c r (oo_person F c v1 v2) (mm_person F v1 v2 r) := by
  obtain ⟨L, U, W, h⟩ := h
  have h0 := zo_0 h
  have ho := h.1
  have how := h.2.1
  have h8 := ho.2.2.1
  have h6 := ho.2.1
  have p1 := zo_person h (v := v1)
  have q1 := zo_person h0 (v := v1)
  have w := zo_within (μ := g_sI r 0 0 0) (v := v2) (n := 5) (by omega)
  unfold oo_person mm_person
  rw [z_sbind]
  by_cases b1 : z_is v1 (zl_pp L)
  · rw [(p1.1 b1).1, (q1.1 b1).2, z_sbind, z_sbind, if_neg z_e1, if_neg z_e1, show (5 : Int32) = nI 5 from rfl]
    obtain ⟨p, hp, rfl⟩ := b1
    by_cases b2 : z_is v2 6
    · rw [w.1 b2, z_sbind, if_neg z_e1]
      obtain ⟨r2, e2, h2, k2, -, m2⟩ := zo_counts h0 (F := F) (by omega)
      have kk := zi_kR_trans (zo_k0 (r := r) (v := 0)) k2
      rw [e2, z_sbind]
      obtain ⟨k, hk, rfl⟩ := b2
      have cp := h.2.2.1.2.2.1.2.2.2.2.2 p hp
      have rp := h2.2.2.2.1.1.2.2.2.2.2 p hp
      have cw := h.2.2.1.2.2.2.2.2.2.2 p hp
      have rw' := h2.2.2.2.1.2.2.2.2.2 p hp
      have cw1 : c.1 68 p = nI (zw_pc W p) := cw.2
      have cw2 : c.1 67 p = nI (zw_ck W p) := cw.1
      have hC := h.2.2.1
      have hB := zw_C_by (F := F) (k := p + 1) hC.2.2.2.2 how (by omega) h8 (by omega)
      rw [zE_s] at hB
      rcases (by omega : k = 0 ∨ k = 1 ∨ k = 2 ∨ k = 3 ∨ k = 4 ∨ k = 5) with rfl | rfl | rfl | rfl | rfl | rfl
      · simp (disch := omega) only [nI_lit, z_eq, if_true, z_ql hC.1, z_sbind, z_rd, cp.1, rp.1]
        exact zo_p_of h rfl rfl kk
      · simp (disch := omega) only [nI_lit, z_eq, show ¬ (1 = 0) by omega, if_true, if_false, z_sbind, z_rd, cw1, rw'.2]
        exact zo_p_of h rfl rfl kk
      · simp (disch := omega) only [nI_lit, z_eq, show ¬ (2 = 0) by omega, show ¬ (2 = 1) by omega, if_true, if_false, z_sbind, z_rd, cw2, rw'.1]
        exact zo_p_of h rfl rfl kk
      · simp (disch := omega) only [nI_lit, z_eq, show ¬ (3 = 0) by omega, show ¬ (3 = 1) by omega, show ¬ (3 = 2) by omega, if_true, if_false]
        rw [zo_C_happy hC ho how hp (by omega), zw_R_happy h2.2.2.2.1.1 m2 ho how hp (by omega), z_sbind, z_sbind]
        exact zo_p_of h rfl rfl kk
      · simp (disch := omega) only [nI_lit, z_eq, show ¬ (4 = 0) by omega, show ¬ (4 = 1) by omega, show ¬ (4 = 2) by omega, show ¬ (4 = 3) by omega, if_true, if_false]
        rw [hB, zw_R_by m2 h6 how (by omega) (by omega), z_sbind, z_sbind]
        exact zo_p_of h rfl rfl kk
      · simp (disch := omega) only [nI_lit, z_eq, show ¬ (5 = 0) by omega, show ¬ (5 = 1) by omega, show ¬ (5 = 2) by omega, show ¬ (5 = 3) by omega, show ¬ (5 = 4) by omega, if_true, if_false, z_ql hC.1, z_sbind, z_rd, cp.2.1, rp.2.1]
        exact zo_p_of h rfl rfl kk
    · rw [w.2 b2, z_sbind, if_pos z_e0, if_neg (show ¬ v2 = (0 : Int32) from z_isn b2 (show 0 < 6 by omega)), if_neg (show ¬ v2 = (1 : Int32) from z_isn b2 (show 1 < 6 by omega)), if_neg (show ¬ v2 = (2 : Int32) from z_isn b2 (show 2 < 6 by omega)), if_neg (show ¬ v2 = (3 : Int32) from z_isn b2 (show 3 < 6 by omega)), if_neg (show ¬ v2 = (4 : Int32) from z_isn b2 (show 4 < 6 by omega)), if_neg (z_isn b2 (show 5 < 6 by omega))]
      exact zo_p_of h rfl rfl zo_k0
  · rw [(p1.2 b1).1, (q1.2 b1).2, z_sbind, z_sbind, if_pos z_e0, if_pos z_e0]; exact zo_p_of h rfl rfl zo_k0
/-- a THING -/
def zo_t (c r : g_St) (f : Option ((Int32 ⊕ Nat) × g_St)) (m : Option (Int32 × g_St)) : Prop := ∃ x c2 r2, m = some (x, r2) ∧ ((f = some (.inl x, c2) ∧ r2.1 0 0 = 0) ∨ (∃ t, f = some (.inr t, c2) ∧ r2.1 0 0 = 1)) ∧ zi c2 r2
theorem zo_thingq {c r : g_St} (h : zi c r) (v1 v2 : Int32) : zo_t c r (oo_thing v1 v2 c) (mm_thing v1 v2 r) := by
  obtain ⟨L, U, W, h⟩ := h
  have how := h.2.1
  have h40 := how.1
  have t1 := zo_thing h (v := v1)
  have w := zo_within (μ := r) (v := v2) (n := 4) (by omega)
  have rn := h.2.2.2.1.2.2.1
  have bad : zo_t c r (some (.inr 8, c)) (mm_thing_26 v1 v2 r) := by
    unfold mm_thing_26 mm_thing_27
    rw [z_sbind, if_pos (z_sI_same _ _ _ _)]
    exact ⟨0, c, _, rfl, Or.inr ⟨8, rfl, z_sI_same _ _ _ _⟩, L, U, W, zi_R h zo_k0⟩
  have bad2 : zo_t c r (some (.inr 102, c)) (mm_thing_26 v1 v2 r) := by
    unfold mm_thing_26 mm_thing_27
    rw [z_sbind, if_pos (z_sI_same _ _ _ _)]
    exact ⟨0, c, _, rfl, Or.inr ⟨102, rfl, z_sI_same _ _ _ _⟩, L, U, W, zi_R h zo_k0⟩
  unfold oo_thing mm_thing
  by_cases b1 : z_is v1 (zw_n W)
  · rw [t1.1 b1, z_sbind, if_neg z_e1]
    obtain ⟨t, ht, rfl⟩ := b1
    rw [if_pos (nI_pos' (by omega)), rn, if_pos (nI_lt ht (by omega)), show (4 : Int32) = nI 4 from rfl]
    by_cases b2 : z_is v2 5
    · rw [w.1 b2, z_sbind, if_neg z_e1]
      obtain ⟨k, hk, rfl⟩ := b2
      have h0 := zi_R h (zo_k0 (v := 0))
      have ct := h.2.2.1.2.2.2.2.2.2.1 t ht
      have rt := h0.2.2.2.1.2.2.2.2.1 t ht
      have c1 : c.1 62 t = nI (zw_gd W t) := ct.1
      have c2 : c.1 63 t = nI (zw_so W t) := ct.2.1
      have c3 : c.1 64 t = nI (zw_mk W t) := ct.2.2.1
      have c4 : c.1 65 t = zE (zw_ho W t) := ct.2.2.2.1
      have c5 : c.1 66 t = nI (zw_dn W t) := ct.2.2.2.2
      unfold mm_thing_27
      rw [z_sbind, if_neg (show ¬ (g_sI r 0 0 0).1 0 0 = (1 : Int32) from by rw [z_sI_same]; decide)]
      have e00 : (g_sI r 0 0 0).1 0 0 = 0 := z_sI_same _ _ _ _
      rcases (by omega : k = 0 ∨ k = 1 ∨ k = 2 ∨ k = 3 ∨ k = 4) with rfl | rfl | rfl | rfl | rfl
      · rw [if_pos z_e0, if_pos z_e0, z_rd (by omega) (by omega), z_rd (by omega) (by omega), z_sbind, z_sbind, c1, rt.1]
        exact ⟨_, c, _, rfl, Or.inl ⟨rfl, e00⟩, L, U, W, h0⟩
      · rw [if_neg z_e1, if_neg z_e1, if_pos (show nI 1 = (1 : Int32) from rfl), if_pos (show nI 1 = (1 : Int32) from rfl), z_rd (by omega) (by omega), z_rd (by omega) (by omega), z_sbind, z_sbind, c2, rt.2.1]
        exact ⟨_, c, _, rfl, Or.inl ⟨rfl, e00⟩, L, U, W, h0⟩
      · rw [if_neg (show ¬ nI 2 = (0 : Int32) from by decide), if_neg (show ¬ nI 2 = (0 : Int32) from by decide), if_neg (show ¬ nI 2 = (1 : Int32) from by decide), if_neg (show ¬ nI 2 = (1 : Int32) from by decide), if_pos (show nI 2 = (2 : Int32) from rfl), if_pos (show nI 2 = (2 : Int32) from rfl), z_rd (by omega) (by omega), z_rd (by omega) (by omega), z_sbind, z_sbind, c3, rt.2.2.1]
        exact ⟨_, c, _, rfl, Or.inl ⟨rfl, e00⟩, L, U, W, h0⟩
      · rw [if_neg (show ¬ nI 3 = (0 : Int32) from by decide), if_neg (show ¬ nI 3 = (0 : Int32) from by decide), if_neg (show ¬ nI 3 = (1 : Int32) from by decide), if_neg (show ¬ nI 3 = (1 : Int32) from by decide), if_neg (show ¬ nI 3 = (2 : Int32) from by decide), if_neg (show ¬ nI 3 = (2 : Int32) from by decide), if_pos (show nI 3 = (3 : Int32) from rfl), if_pos (show nI 3 = (3 : Int32) from rfl), z_rd (by omega) (by omega), z_rd (by omega) (by omega), z_sbind, z_sbind, c4, rt.2.2.2.1]
        exact ⟨_, c, _, rfl, Or.inl ⟨rfl, e00⟩, L, U, W, h0⟩
      · rw [if_neg (show ¬ nI 4 = (0 : Int32) from by decide), if_neg (show ¬ nI 4 = (0 : Int32) from by decide), if_neg (show ¬ nI 4 = (1 : Int32) from by decide), if_neg (show ¬ nI 4 = (1 : Int32) from by decide), if_neg (show ¬ nI 4 = (2 : Int32) from by decide), if_neg (show ¬ nI 4 = (2 : Int32) from by decide), if_neg (show ¬ nI 4 = (3 : Int32) from by decide), if_neg (show ¬ nI 4 = (3 : Int32) from by decide), if_pos rfl, z_rd (by omega) (by omega), z_rd (by omega) (by omega), z_sbind, z_sbind, c5, rt.2.2.2.2]
        exact ⟨_, c, _, rfl, Or.inl ⟨rfl, e00⟩, L, U, W, h0⟩
    · rw [w.2 b2, z_sbind, if_pos z_e0, if_neg (show ¬ v2 = (0 : Int32) from z_isn b2 (show 0 < 5 by omega)), if_neg (show ¬ v2 = (1 : Int32) from z_isn b2 (show 1 < 5 by omega)), if_neg (show ¬ v2 = (2 : Int32) from z_isn b2 (show 2 < 5 by omega)), if_neg (show ¬ v2 = (3 : Int32) from z_isn b2 (show 3 < 5 by omega)), if_neg (z_isn b2 (show 4 < 5 by omega))]
      exact bad2
  · rw [t1.2 b1, z_sbind, if_pos z_e0, rn]
    have e : (if (0 : Int32) ≤ v1 then if v1 < nI (zw_n W) then (mm_within r v2 0 4).bind fun x1 => if x1 = 0 then mm_thing_26 v1 v2 r else mm_thing_27 v1 v2 0 r else mm_thing_26 v1 v2 r else mm_thing_26 v1 v2 r) = mm_thing_26 v1 v2 r := z_ask (by omega) b1
    rw [e]; exact bad
/-- what is held of a gift -/
theorem zo_heldBy {L : zl_T} {U : zu_T} {W : zw_T} {c r : g_St} (h : zi_I L U W c r) {v1 v2 v3 : Int32} : (z_is v1 (zl_pp L) ∧ z_is v2 (zl_pp L) ∧ v1 ≠ v2 ∧ z_is v3 (zw_n W) ∧ c.1 65 v3.toNatClampNeg = v1 → oo_isHeldBy c v1 v2 v3 = some (nI 1) ∧ mm_areGift r v1 v2 v3 = some (nI 1)) ∧ (¬ (z_is v1 (zl_pp L) ∧ z_is v2 (zl_pp L) ∧ v1 ≠ v2 ∧ z_is v3 (zw_n W) ∧ c.1 65 v3.toNatClampNeg = v1) → oo_isHeldBy c v1 v2 v3 = some (nI 0) ∧ mm_areGift r v1 v2 v3 = some (nI 0)) := by
  have h40 := h.2.1.1
  have two := zo_two h (v := v1) (w := v2)
  have p1 := zo_person h (v := v1)
  have p2 := zo_person h (v := v2)
  have t3 := zo_thing h (v := v3)
  have rn := h.2.2.2.1.2.2.1
  have main : ∀ x : Int32, (x = nI 1 ∧ (z_is v1 (zl_pp L) ∧ z_is v2 (zl_pp L) ∧ v1 ≠ v2 ∧ z_is v3 (zw_n W) ∧ c.1 65 v3.toNatClampNeg = v1)) ∨ (x = nI 0 ∧ ¬ (z_is v1 (zl_pp L) ∧ z_is v2 (zl_pp L) ∧ v1 ≠ v2 ∧ z_is v3 (zw_n W) ∧ c.1 65 v3.toNatClampNeg = v1)) → oo_isHeldBy c v1 v2 v3 = some x ∧ mm_areGift r v1 v2 v3 = some x := by
    intro x hx
    unfold oo_isHeldBy mm_areGift
    by_cases b1 : z_is v1 (zl_pp L)
    · rw [(p1.1 b1).2, z_sbind, if_neg z_e1]
      by_cases b2 : z_is v2 (zl_pp L)
      · rw [(p2.1 b2).2, z_sbind, if_neg z_e1]
        by_cases e : v1 = v2
        · rw [two.2 (fun q => q.2.2 e), z_sbind, if_pos z_e0, if_pos e]
          rcases hx with ⟨-, q⟩ | ⟨rfl, -⟩
          · exact absurd e q.2.2.1
          · exact ⟨rfl, rfl⟩
        · rw [two.1 ⟨b1, b2, e⟩, z_sbind, if_neg z_e1, if_neg e]
          by_cases b3 : z_is v3 (zw_n W)
          · rw [t3.1 b3, z_sbind, if_neg z_e1]
            obtain ⟨t, ht, rfl⟩ := b3
            have ct := (h.2.2.1.2.2.2.2.2.2.1 t ht).2.2.2.1
            have rt := (h.2.2.2.1.2.2.2.2.1 t ht).2.2.2.1
            have c4 : c.1 65 t = zE (zw_ho W t) := ct
            rw [if_pos (nI_pos' (by omega)), rn, if_pos (nI_lt ht (by omega)), z_rd (by omega) (by omega), z_rd (by omega) (by omega), z_sbind, z_sbind, rt, c4]
            rw [z_cl (by omega), c4] at hx
            by_cases e2 : zE (zw_ho W t) = v1
            · rw [if_pos e2]
              rcases hx with ⟨rfl, -⟩ | ⟨-, q⟩
              · exact ⟨rfl, rfl⟩
              · exact absurd ⟨b1, b2, e, ⟨t, ht, rfl⟩, e2⟩ q
            · rw [if_neg e2]
              rcases hx with ⟨-, q⟩ | ⟨rfl, -⟩
              · exact absurd q.2.2.2.2 e2
              · exact ⟨rfl, rfl⟩
          · rw [t3.2 b3, z_sbind, if_pos z_e0, rn]
            rcases hx with ⟨-, q⟩ | ⟨rfl, -⟩
            · exact absurd q.2.2.2.1 b3
            · exact ⟨rfl, z_ask (by omega) b3⟩
      · rw [(p2.2 b2).2, z_sbind, if_pos z_e0, two.2 (fun q => b2 q.2.1), z_sbind, if_pos z_e0]
        rcases hx with ⟨-, q⟩ | ⟨rfl, -⟩
        · exact absurd q.2.1 b2
        · exact ⟨rfl, rfl⟩
    · rw [(p1.2 b1).2, z_sbind, if_pos z_e0, two.2 (fun q => b1 q.1), z_sbind, if_pos z_e0]
      rcases hx with ⟨-, q⟩ | ⟨rfl, -⟩
      · exact absurd q.1 b1
      · exact ⟨rfl, rfl⟩
  exact ⟨fun q => main _ (Or.inl ⟨rfl, q⟩), fun q => main _ (Or.inr ⟨rfl, q⟩)⟩
/-- LAWFUL now, with what both states are then -/
theorem zo_now {L : zl_T} {U : zu_T} {W : zw_T} {c r : g_St} {F p q t : Nat} (h : zi_I L U W c r) (hp : p < zl_pp L) (hq : q < zl_pp L) (ht : t < zw_n W) (hF : 1010 < F) : ∃ c2 r2, oo_isLawfulNow F (nI p) (nI q) (nI t) c = some (nI (zw_now L U W p q t).toNat, c2) ∧ mm_isLawfulNow F (nI p) (nI q) (nI t) r = some (nI (zw_now L U W p q t).toNat, r2) ∧ zi_I L U W c2 r2 ∧ zi_kR r r2 ∧ r2.1 0 = r.1 0 := by
  have hC := h.2.2.1
  have hbu := hC.2.1
  unfold g_isRule at hbu
  obtain ⟨x, hx, hx1, hx2⟩ := zf_C_now hC.1 hC.2.1 hC.2.2.1 hC.2.2.2.1 hC.2.2.2.2 h.1 h.2.1 hp hq ht hF
  obtain ⟨y, hy, hy1, hy2⟩ := zf_R_now h.2.2.2.1.1 h.2.2.2.1.2.1 h.2.2.2.1.2.2 h.1 h.2.1 hp hq ht hF
  have kR : zi_kR r y.2 := zi_kR_f hy2 (fun id q => by unfold zf_idR; omega)
  have kC : zi_kC c x.2 := zi_kC_f hx2 (fun id q => by unfold zf_idC; omega)
  refine ⟨x.2, y.2, ?_, ?_, zi_R (zi_C h kC (zi_ca_f h.2.2.2.2.2.2.2 (by rw [hx2.1 0 (by unfold zf_idC; omega)]) (fun id q1 q2 => hx2.1 id (by unfold zf_idC; omega)))) kR, kR, hy2.1 0 (by unfold zf_idR; omega)⟩
  · rw [hx, ← hx1]
  · rw [hy, ← hy1]
theorem zo_lawful {F : Nat} (hF : 4000 < F) {c r : g_St} (h : zi c r) (v1 v2 v3 : Int32) : zo_s c r (oo_lawful F v1 v2 v3 c) (mm_lawful F v1 v2 v3 r) := by
  obtain ⟨L, U, W, h⟩ := h
  have h0 := zo_0 h
  have hb := zo_heldBy h (v1 := v1) (v2 := v2) (v3 := v3)
  have hb0 := zo_heldBy h0 (v1 := v1) (v2 := v2) (v3 := v3)
  unfold oo_lawful mm_lawful
  rw [z_sbind]
  by_cases b : z_is v1 (zl_pp L) ∧ z_is v2 (zl_pp L) ∧ v1 ≠ v2 ∧ z_is v3 (zw_n W) ∧ c.1 65 v3.toNatClampNeg = v1
  · rw [(hb.1 b).1, (hb0.1 b).2, z_sbind, z_sbind, if_neg z_e1, if_neg z_e1]
    obtain ⟨⟨p, hp, rfl⟩, ⟨q, hq, rfl⟩, -, ⟨t, ht, rfl⟩, -⟩ := b
    obtain ⟨c2, r2, e1, e2, h2, k2, -⟩ := zo_now h0 (F := F) hp hq ht (by omega)
    rw [e1, e2, z_sbind, z_sbind]
    cases zw_now L U W p q t with
    | false => exact zo_s_of (if_pos z_e0) (if_pos z_e0) h2
    | true => exact zo_s_of (if_neg z_e1) (if_neg z_e1) h2
  · rw [(hb.2 b).1, (hb0.2 b).2, z_sbind, z_sbind, if_pos z_e0, if_pos z_e0]
    exact zo_s_of rfl rfl h0
