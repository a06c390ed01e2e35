/-! Layer 2: GO, GIVE, LIFTED, what is counted -/
theorem zi_w {L : zl_T} {U : zu_T} {W W2 : zw_T} {c c2 r r2 : g_St} (h : zi_I L U W c r) (hok : zw_ok L W2) (hc : z_f (fun id => (1 ≤ id ∧ id < 61) ∨ 68 < id) c c2) (h07 : c2.1 0 7 = c.1 0 7) (hwC : zw_C L W2 c2 61) (hr : ∀ id, ((1 ≤ id ∧ id < 19) ∨ id = 47 ∨ id = 48) → r2.1 id = r.1 id) (h01 : r2.1 0 1 = r.1 0 1) (h022 : r2.1 0 22 = r.1 0 22) (hwR : zw_R L W2 r2) (hca : zi_ca L U W2 c2) : zi_I L U W2 c2 r2 := by
  obtain ⟨ho, how, hC, hR, hq, hT, hM, -⟩ := h
  have bl := hC.1
  have bu := hC.2.1
  unfold g_isLand at bl
  unfold g_isRule at bu
  refine ⟨ho, hok, ?_, ?_, ?_, ?_, ?_, hca⟩
  · obtain ⟨h1, h2, h3, h4, h5⟩ := hC
    unfold zk_C
    rw [hc.2]
    refine ⟨h1, h2, zl_C_f h3 ⟨ho.2.2.1, ho.1⟩ hc (fun id q1 q2 => by omega), ?_, hwC⟩
    unfold zu_C at *
    rw [hc.1 (c.2.2 2) (by omega), hc.1 (c.2.2 2 + 2) (by omega), hc.1 (c.2.2 2 + 1) (by omega)]
    exact h4
  · obtain ⟨h1, h2, h3⟩ := hR
    refine ⟨?_, ?_, hwR⟩
    · unfold zl_R at *
      rw [hr 2 (by omega), hr 3 (by omega), hr 4 (by omega), hr 8 (by omega), hr 9 (by omega), hr 10 (by omega), hr 11 (by omega), hr 12 (by omega), hr 13 (by omega)]; exact h1
    · unfold zu_R at *
      rw [h022, hr 14 (by omega), hr 15 (by omega), hr 16 (by omega)]; exact h2
  · unfold zi_q at *; rw [hc.2]; exact hq
  · unfold zt_I at *; rw [hc.1 1 (by omega), hc.1 3 (by omega), hc.2, h01, hr 1 (by omega)]; exact hT
  · obtain ⟨ld, m1, m2, m3⟩ := hM
    refine ⟨ld, m1, by rw [h07, m2], fun m hm => ?_⟩
    rw [hr 47 (by omega)]
    refine ⟨(m3 m hm).1, fun hb => ?_⟩
    obtain ⟨W3, w1, w2, w3⟩ := (m3 m hm).2 hb
    refine ⟨W3, w1, zw_C_f w2 (fun k hk => hc.1 _ (by omega)), ?_⟩
    unfold zw_M at *; rw [hr 48 (by omega)]; exact w3
theorem zc_can_congr {L : zl_T} {U : zu_T} {W W2 : zw_T} {A ds lf : Nat} (e1 : zw_ho W2 = zw_ho W) (e2 : zw_gd W2 = zw_gd W) (e3 : zw_so W2 = zw_so W) (e4 : zw_mk W2 = zw_mk W) : ∀ n, zc_can L U W2 A ds lf n = zc_can L U W A ds lf n := by
  have hh : ∀ t p q g, zc_hit L U W2 A ds lf t p q g = zc_hit L U W A ds lf t p q g := by
    intro t p q g; unfold zc_hit; rw [e1, e2, e3, e4]
  intro n
  induction n with
  | zero => rfl
  | succ n ih =>
    funext p q g
    show (zc_can L U W2 A ds lf n p q g || zc_hit L U W2 A ds lf n p q g) = (zc_can L U W A ds lf n p q g || zc_hit L U W A ds lf n p q g)
    rw [ih, hh]
theorem zc_X_congr {L : zl_T} {U : zu_T} {W W2 : zw_T} {A ds lf : Nat} (e0 : zw_n W2 = zw_n W) (e1 : zw_ho W2 = zw_ho W) (e2 : zw_gd W2 = zw_gd W) (e3 : zw_so W2 = zw_so W) (e4 : zw_mk W2 = zw_mk W) : zc_X L U W2 A ds lf = zc_X L U W A ds lf := by
  have hh : zc_h W2 A (zw_n W2) = zc_h W A (zw_n W) := by
    funext p g; unfold zc_h zw_held; rw [e0, e1, e2]
  unfold zc_X; rw [zc_can_congr e1 e2 e3 e4, e0, ← e0, hh, e0]
def zw_go (W : zw_T) (p h q : Nat) : zw_T := (W.1, W.2.1, W.2.2.1, W.2.2.2.1, W.2.2.2.2.1, W.2.2.2.2.2.1, (fun i => if i = p then h else zw_ck W i), (fun i => if i = p then q else zw_pc W i))
theorem zo_go {c r : g_St} (h : zi c r) (v1 v2 : Int32) : zo_s c r (oo_go v1 v2 c) (mm_go v1 v2 r) := by
  obtain ⟨L, U, W, h⟩ := h
  have h0 := zo_0 h
  have ho := h.1
  have how := h.2.1
  have h5 := ho.1
  have h8 := ho.2.2.1
  unfold oo_go mm_go
  rw [z_sbind]
  generalize g_sI r 0 0 0 = r0 at h0 ⊢
  have p1 := zo_person h (v := v1)
  have q1 := zo_person h0 (v := v1)
  have p2 := zo_place h (v := v2)
  have q2 := zo_place h0 (v := v2)
  by_cases b1 : z_is v1 (zl_pp L)
  · rw [(p1.1 b1).1, (q1.1 b1).2, z_sbind, z_sbind, if_neg z_e1, if_neg z_e1]
    by_cases b2 : z_is v2 (zl_pl L)
    · rw [(p2.1 b2).1, (q2.1 b2).2, z_sbind, z_sbind, if_neg z_e1, if_neg z_e1]
      obtain ⟨p, hp, rfl⟩ := b1
      obtain ⟨y, hy, rfl⟩ := b2
      have cw := h.2.2.1.2.2.2.2.2.2.2 p hp
      have rw' := h0.2.2.2.1.2.2.2.2.2 p hp
      have ow := how.2.2.2 p hp
      have cw1 : c.1 68 p = nI (zw_pc W p) := cw.2
      have cw2 : c.1 67 p = nI (zw_ck W p) := cw.1
      have hw := ho.2.2.2.1 _ y ow.2 hy
      have c1 := h.2.2.1.2.2.1.2.2.2.1 _ y ow.2 hy
      have r1 := h0.2.2.2.1.1.2.2.2.1 _ y ow.2 hy
      unfold mm_isWay
      simp (disch := omega) only [nI_lit, z_ql h.2.2.1.1, z_sbind, z_rd, z_rr, z_wr, cw1, cw2, rw'.1, rw'.2, z_mul, nI_add, c1, r1, z_lt]
      by_cases h9 : zl_wy L (zw_pc W p) y < 999
      · rw [if_pos h9, if_pos h9, z_sbind, if_neg (show ¬ nI 1 = nI 0 from by decide)]
        by_cases h168 : 168 < zw_ck W p + zl_wy L (zw_pc W p) y
        · rw [if_pos h168, if_pos h168]
          exact zo_s_of rfl rfl h0
        · rw [if_neg h168, if_neg h168]
          refine zo_s_of rfl rfl (zi_w (W2 := zw_go W p (zw_ck W p + zl_wy L (zw_pc W p) y) y) h0 ?_ ?_ ?_ ?_ ?_ ?_ ?_ ?_ ?_)
          · refine ⟨how.1, how.2.1, how.2.2.1, fun i hi => ?_⟩
            show (if i = p then _ else zw_ck W i) ≤ 168 ∧ (if i = p then y else zw_pc W i) < zl_pl L
            by_cases e : i = p
            · rw [if_pos e, if_pos e]; exact ⟨by omega, hy⟩
            · rw [if_neg e, if_neg e]; exact how.2.2.2 i hi
          · exact z_f_trans (z_f_sI (P := fun id => (1 ≤ id ∧ id < 61) ∨ 68 < id) (by omega)) (z_f_sI (P := fun id => (1 ≤ id ∧ id < 61) ∨ 68 < id) (by omega)) (fun _ q => q) (fun _ q => q)
          · rw [z_sI_id (by omega), z_sI_id (by omega)]
          · have hw0 := h.2.2.1.2.2.2.2
            refine ⟨by rw [z_sI_id (by omega), z_sI_id (by omega)]; exact hw0.1, by rw [z_sI_id (by omega), z_sI_id (by omega)]; exact hw0.2.1, fun t ht => ?_, fun i hi => ?_⟩
            · have := hw0.2.2.1 t ht
              simp only [z_sI]
              exact this
            · have := hw0.2.2.2 i hi
              show _ = nI (if i = p then _ else zw_ck W i) ∧ _ = nI (if i = p then y else zw_pc W i)
              by_cases e : i = p
              · rw [if_pos e, if_pos e, e, z_sI_id (by omega), z_sI_same, z_sI_same]; exact ⟨rfl, rfl⟩
              · rw [if_neg e, if_neg e, z_sI_k e, z_sI_k e, z_sI_k e, z_sI_k e]; exact this
          · intro id q
            rw [z_sI_f (by omega), z_sI_f (by omega)]
          · rw [z_sI_id (by omega), z_sI_id (by omega)]
          · rw [z_sI_id (by omega), z_sI_id (by omega)]
          · have hw0 := h0.2.2.2.1.2.2
            refine ⟨by rw [z_sI_id (by omega), z_sI_id (by omega)]; exact hw0.1, fun g hg => by rw [z_sI_id (by omega), z_sI_id (by omega)]; exact hw0.2.1 g hg, fun t ht => ?_, fun i hi => ?_⟩
            · rw [z_sI_f (by omega), z_sI_f (by omega), z_sI_f (by omega), z_sI_f (by omega), z_sI_f (by omega), z_sI_f (by omega), z_sI_f (by omega), z_sI_f (by omega), z_sI_f (by omega), z_sI_f (by omega)]
              exact hw0.2.2.1 t ht
            · have := hw0.2.2.2 i hi
              show _ = nI (if i = p then _ else zw_ck W i) ∧ _ = nI (if i = p then y else zw_pc W i)
              by_cases e : i = p
              · rw [if_pos e, if_pos e, e, z_sI_id (by omega), z_sI_same, z_sI_same]; exact ⟨rfl, rfl⟩
              · rw [if_neg e, if_neg e, z_sI_k e, z_sI_k e, z_sI_k e, z_sI_k e]; exact this
          · have hca := h.2.2.2.2.2.2.2
            unfold zi_ca at *
            rw [z_sI_id (by omega), z_sI_id (by omega)]
            refine hca.imp id (fun q => ⟨q.1, ?_⟩)
            rw [show zw_lf (zw_go W p (zw_ck W p + zl_wy L (zw_pc W p) y) y) = zw_lf W from rfl, zc_X_congr (W2 := zw_go W p (zw_ck W p + zl_wy L (zw_pc W p) y) y) (W := W) rfl rfl rfl rfl rfl]
            exact zr_C_f q.2 (fun k h1 h2 => by rw [z_sI_f (by omega), z_sI_f (by omega)])
      · rw [if_neg h9, if_neg h9, z_sbind, if_pos rfl]
        exact zo_s_of rfl rfl h0
    · rw [(p2.2 b2).1, (q2.2 b2).2, z_sbind, z_sbind, if_pos z_e0, if_pos z_e0]; exact zo_s_of rfl rfl h0
  · rw [(p1.2 b1).1, (q1.2 b1).2, z_sbind, z_sbind, if_pos z_e0, if_pos z_e0]; exact zo_s_of rfl rfl h0
