/-! Layer 2: RULE, the end -/
theorem zg_t196 {F : Nat} {r : g_St} (hF : 1100 < F) : z_w (mm_rule_196 F F (0 : Int32) r) (fun q => q.1 = nI 0 ∧ (∀ k, k < 1000 → q.2.1 16 k = r.1 16 (1000 + k)) ∧ (∀ id, id ≠ 16 → q.2.1 id = r.1 id) ∧ q.2.2 = r.2) := by
  refine z_cw (n := 1000) (A := fun f i s => mm_rule_196 F f (nI i) s) (fun i s => (∀ k, k < i → s.1 16 k = r.1 16 (1000 + k)) ∧ (∀ k, 1000 ≤ k → s.1 16 k = r.1 16 k) ∧ (∀ id, id ≠ 16 → s.1 id = r.1 id) ∧ s.2 = r.2) ?_ ?_ F 0 r (Nat.zero_le _) ⟨fun m q => by omega, fun _ _ => rfl, fun _ _ => rfl, rfl⟩ (by omega)
  · intro f i s hi ⟨h1, h2, h3, h4⟩ go
    show z_w (mm_rule_196_b F _ (nI i) s) _
    unfold mm_rule_196_b
    rw [if_pos (show nI i < (1000 : Int32) from nI_lt (b := 1000) hi (by omega)), show (1000 : Int32) = nI 1000 from rfl, nI_add, z_rd (by omega) (by omega), z_sbind, z_wr (by omega) (by omega), z_sbind, nI_1]
    refine go _ ⟨fun k hk => ?_, fun k hk => ?_, fun id q => by rw [z_sI_f q]; exact h3 id q, h4⟩
    · rw [z_sI]
      by_cases e : k = i
      · rw [if_pos ⟨rfl, e⟩, e]; exact h2 _ (by omega)
      · rw [if_neg (fun q => e q.2)]; exact h1 k (by omega)
    · rw [z_sI_k (by omega)]; exact h2 k hk
  · intro f s ⟨h1, h2, h3, h4⟩
    show z_w (mm_rule_196_b F _ (nI 1000) s) _
    unfold mm_rule_196_b
    rw [if_neg (by decide)]
    exact z_w_some ⟨rfl, h1, h3, h4⟩
theorem zg_t144 {F : Nat} {r : g_St} (hF : 1100 < F) : z_w (mm_rule_144 F F (0 : Int32) r) (fun q => q.1 = nI 0 ∧ (∀ k, k < 6 → q.2.1 14 k = r.1 14 (6 + k) - nI 1000 ∧ q.2.1 15 k = r.1 15 (6 + k) - nI 1000) ∧ (∀ k, k < 1000 → q.2.1 16 k = r.1 16 (1000 + k)) ∧ (∀ id, id ≠ 14 → id ≠ 15 → id ≠ 16 → q.2.1 id = r.1 id) ∧ q.2.2 = r.2) := by
  refine z_cw (n := 6) (A := fun f i s => mm_rule_144 F f (nI i) s) (fun i s => (∀ k, k < i → s.1 14 k = r.1 14 (6 + k) - nI 1000 ∧ s.1 15 k = r.1 15 (6 + k) - nI 1000) ∧ (∀ k, 6 ≤ k → s.1 14 k = r.1 14 k ∧ s.1 15 k = r.1 15 k) ∧ (∀ id, id ≠ 14 → id ≠ 15 → s.1 id = r.1 id) ∧ s.2 = r.2) ?_ ?_ F 0 r (Nat.zero_le _) ⟨fun m q => by omega, fun _ _ => ⟨rfl, rfl⟩, fun _ _ _ => rfl, rfl⟩ (by omega)
  · intro f i s hi ⟨h1, h2, h3, h4⟩ go
    have g2 := h2 (6 + i) (by omega)
    show z_w (mm_rule_144_b F _ (nI i) s) _
    unfold mm_rule_144_b
    rw [if_pos (show nI i < (6 : Int32) from nI_lt (b := 6) hi (by omega)), show (6 : Int32) = nI 6 from rfl, nI_add, z_rd (by omega) (by omega), z_sbind, z_wr (by omega) (by omega), z_sbind, z_rd (by omega) (by omega), z_sbind, z_wr (by omega) (by omega), z_sbind, nI_1, z_sI_id (a := 15) (by omega), g2.1, g2.2]
    refine go _ ⟨fun k hk => ?_, fun k hk => ?_, fun id q1 q2 => by rw [z_sI_f q2, z_sI_f q1]; exact h3 id q1 q2, h4⟩
    · by_cases e : k = i
      · subst e
        rw [z_sI_id (by omega), z_sI_same, z_sI_same]; exact ⟨rfl, rfl⟩
      · rw [z_sI_id (by omega), z_sI_k e, z_sI_k e, z_sI_id (by omega)]; exact h1 k (by omega)
    · rw [z_sI_id (by omega), z_sI_k (by omega), z_sI_k (by omega), z_sI_id (by omega)]; exact h2 k hk
  · intro f s ⟨h1, h2, h3, h4⟩
    show z_w (mm_rule_144_b F _ (nI 6) s) _
    unfold mm_rule_144_b
    rw [if_neg (by decide)]
    refine z_w_mono (zg_t196 hF) (fun q ⟨q1, q2, q3, q4⟩ => ⟨q1, fun k hk => ?_, fun k hk => ?_, fun id e1 e2 e3 => ?_, by rw [q4]; exact h4⟩)
    · rw [q3 14 (by omega), q3 15 (by omega)]; exact h1 k hk
    · rw [q2 k hk, h3 16 (by omega) (by omega)]
    · rw [q3 id e3, h3 id e1 e2]
theorem zi_rk {L : zl_T} {U U2 : zu_T} {W : zw_T} {c r c2 r1 r2 : g_St} {bu : Nat} (h : zi_I L U W c r) (hbu : bu = c.2.2 3) (hc1 : ∀ id, 6 < id → (id < bu ∨ bu + 4 ≤ id) → c2.1 id = c.1 id) (hc0 : c2.1 0 7 = c.1 0 7) (hc3 : c2.1 1 2 = nI 0) (hc4 : c2.2.1 2 = c.2.1 2) (hq2 : c2.2.2 0 = c.2.2 0 ∧ c2.2.2 1 = c.2.2 1) (hq3 : (c2.2.2 2 = c.2.2 2 ∧ c2.2.2 3 = c.2.2 3) ∨ (c2.2.2 2 = c.2.2 3 ∧ c2.2.2 3 = c.2.2 2))
    (hU : zu_C U2 c2 (c2.2.2 2)) (hR2 : zu_R U2 r2) (hca2 : zi_ca L U2 W c2) (hr : ∀ id, (id < 14 ∨ 18 < id) → id ≠ 0 → r2.1 id = r.1 id) (h01 : r2.1 0 1 = nI 0) (h39 : r2.1 0 39 = r.1 0 39) : zi_I L U2 W c2 r2 := by
  obtain ⟨ho, how, hC, hR, hq, hT, hm, hca⟩ := h
  have cid := hc1
  have hq' := hq
  unfold zi_q at hq'
  have h5 := ho.1
  have h6 := ho.2.1
  have h8 := ho.2.2.1
  refine ⟨ho, how, ⟨?_, ?_, ?_, hU, ?_⟩, ⟨?_, hR2, ?_⟩, ?_, ?_, ?_, hca2⟩
  · rw [hq2.1]; exact hC.1
  · unfold g_isRule; omega
  · obtain ⟨k1, k2, k3, k4, k5⟩ := hC
    have lb := k1
    unfold g_isLand at lb
    unfold zl_C at *
    rw [hq2.1, cid _ (by omega) (by omega), cid (_ + 10) (by omega) (by omega), cid (_ + 11) (by omega) (by omega), cid (_ + 12) (by omega) (by omega), cid (_ + 13) (by omega) (by omega)]
    refine ⟨k3.1, k3.2.1, k3.2.2.1, fun x y hx hy => ?_, k3.2.2.2.2.1, fun p hp => ?_⟩
    · rw [cid _ (by omega) (by omega)]; exact k3.2.2.2.1 x y hx hy
    · refine ⟨(k3.2.2.2.2.2 p hp).1, (k3.2.2.2.2.2 p hp).2.1, fun j hj => ?_⟩
      rw [cid _ (by omega) (by omega)]; exact (k3.2.2.2.2.2 p hp).2.2 j hj
  · exact zw_C_f hC.2.2.2.2 (fun k hk => cid _ (by omega) (by omega))
  · have h1' := hR.1
    unfold zl_R at *
    rw [hr 2 (by omega) (by omega), hr 3 (by omega) (by omega), hr 4 (by omega) (by omega), hr 8 (by omega) (by omega), hr 9 (by omega) (by omega), hr 10 (by omega) (by omega), hr 11 (by omega) (by omega), hr 12 (by omega) (by omega), hr 13 (by omega) (by omega)]
    exact h1'
  · have h3 := hR.2.2
    unfold zw_R at *
    rw [h39, hr 36 (by omega) (by omega), hr 29 (by omega) (by omega), hr 30 (by omega) (by omega), hr 31 (by omega) (by omega), hr 32 (by omega) (by omega), hr 33 (by omega) (by omega), hr 34 (by omega) (by omega), hr 35 (by omega) (by omega)]; exact h3
  · unfold zi_q
    rw [hq2.1, hq2.2]
    refine ⟨hq.1, ?_⟩
    omega
  · obtain ⟨n, n1, n2, n3, n4, n5⟩ := hT
    exact ⟨0, by omega, hc3, h01, fun i hi => by omega, fun k hk => by rw [hc4]; exact n5 k hk⟩
  · obtain ⟨ld, l1, l2, l3⟩ := hm
    refine ⟨ld, l1, by rw [hc0]; exact l2, fun m hm => ?_⟩
    rw [hr 47 (by omega) (by omega)]
    refine ⟨(l3 m hm).1, fun q => ?_⟩
    obtain ⟨W2, w1, w2, w3⟩ := (l3 m hm).2 q
    refine ⟨W2, w1, zw_C_f w2 (fun k hk => cid _ (by omega) (by omega)), ?_⟩
    unfold zw_M at *
    rw [hr 48 (by omega) (by omega)]
    exact w3
theorem zo_rule {F : Nat} (hF : 4000 < F) {c r : g_St} (h : zi c r) : zo_s c r (oo_rule F c) (mm_rule F r) := by
  obtain ⟨L, U, W, h⟩ := h
  have hT := h.2.2.2.2.2.1
  have hq := h.2.2.2.2.1
  unfold zi_q at hq
  obtain ⟨n, s, hA, hr1, ht⟩ := zt_get hT
  have hn := hA.1
  obtain ⟨bu, hbu⟩ : ∃ bu, bu = c.2.2 3 := ⟨_, rfl⟩
  have hb7 : bu = 53 ∨ bu = 57 := by omega
  have hisr : g_isRule (c.2.2 3) := by unfold g_isRule; omega
  have z1 : ∀ id, id ≠ 0 → (zp_r1 n r).1 id = r.1 id := fun id q => by unfold zp_r1; rw [z_sI_f q, z_sI_f q, z_sI_f q, z_sI_f q]
  have z2 : (zp_r1 n r).1 0 1 = nI 0 := by unfold zp_r1; rw [z_sI_k (by omega), z_sI_same]; rfl
  have z3 : ∀ k, 4 < k → (zp_r1 n r).1 0 k = r.1 0 k := fun k q => by unfold zp_r1; rw [z_sI_k (by omega), z_sI_k (by omega), z_sI_k (by omega), z_sI_k (by omega)]
  unfold oo_rule mm_rule
  rw [z_qr hisr, z_sbind, ← hbu, z_sbind]
  unfold oe_read ou_clear
  rw [z_sbind, z_sbind, z_sbind]
  have a2 : ∀ id, id ≠ bu → (g_sI (g_sI c bu 2 (0 : Int32)) bu 3 (0 : Int32)).1 id = c.1 id := fun id q => by rw [z_sI_f q, z_sI_f q]
  have a3 : (g_sI (g_sI c bu 2 (0 : Int32)) bu 3 (0 : Int32)).2 = c.2 := rfl
  have a4 : (g_sI (g_sI c bu 2 (0 : Int32)) bu 3 (0 : Int32)).1 bu 2 = nI 0 := by rw [z_sI_k (by omega), z_sI_same]; rfl
  have a5 : (g_sI (g_sI c bu 2 (0 : Int32)) bu 3 (0 : Int32)).1 bu 3 = nI 0 := by rw [z_sI_same]; rfl
  generalize g_sI (g_sI c bu 2 (0 : Int32)) bu 3 (0 : Int32) = c1 at a2 a3 a4 a5
  have hA1 : zn_A n s c1 := ⟨hn, by rw [a2 1 (by omega)]; exact hA.2.1, fun i hi => by rw [a2 3 (by omega)]; exact hA.2.2.1 i hi, fun k hk => by rw [a3]; exact hA.2.2.2 k hk⟩
  obtain ⟨c2, b1, T, m, b2, b3⟩ := zn_open (F := F) hA1 (by omega)
  rw [b1, z_sbind]
  obtain ⟨r2, s1, s2, s3, s4⟩ := zp_starts (F := F) hn hr1 ht b2.2.1 (by omega)
  rw [s1, z_sbind, z_sbind]
  have cf : ∀ id, id ≠ 1 → id ≠ 4 → id ≠ 5 → c2.1 id = c1.1 id := fun id q1 q2 q3 => by rw [b3.1 id q1 q2 q3, z_sI_f q1]
  obtain ⟨Y, hY⟩ : ∃ Y : zp_S, Y = ((c, zp_r1 n r, bu), (n, s, T, m)) := ⟨_, rfl⟩
  have x26 : (g_sI r2 0 26 (1000 : Int32)).1 0 26 = nI (1000 + 0) := by rw [z_sI_same]; rfl
  have hV : zg_V Y 0 c2 (g_sI r2 0 26 (1000 : Int32)) := by
    subst hY
    refine ⟨b2, zn_R_w s2 (z_sI_f (by omega)) (fun k q1 q2 => z_sI_k (by omega)) rfl, hb7, by rw [b3.2.1 10 (by omega), z_sI_same]; rfl, ?_, ?_⟩
    · refine ⟨fun id q1 q2 => ?_, fun id q1 => ?_, ?_, ?_, ?_⟩
      · have q2 : id < bu ∨ bu + 4 ≤ id := q2
        rw [cf id (by omega) (by omega) (by omega), a2 id (by omega)]
      · rw [b3.2.2.1 id (by omega) (by omega)]; show c1.2.1 id = _; rw [a3]
      · rw [b3.2.2.2]; show c1.2.2 = _; rw [a3]
      · rw [b3.2.1 2 (by omega), z_sI_k (by omega), a2 1 (by omega)]
      · rw [b3.2.2.1 2 (by omega) (by omega)]; show c1.2.1 2 = _; rw [a3]
    · have e : ∀ id, id ≠ 0 → (g_sI r2 0 26 (1000 : Int32)).1 id = (zp_r1 n r).1 id := fun id q => by rw [z_sI_f q]; exact s4 id q
      refine ⟨fun id _ q => e id q, fun k _ => ?_, fun k _ => ?_, fun k q q2 => ?_⟩
      · rw [e 14 (by omega), e 15 (by omega)]; exact ⟨rfl, rfl⟩
      · rw [e 16 (by omega)]
      · rw [z_sI_k q2]; exact s3.2.2.2.2.2.2 k q
  have hm : m ≤ n := b2.2.1.2.2.2.2
  have hYb : Y.1.2.2 = bu := by rw [hY]
  have hYc : Y.1.1 = c := by rw [hY]
  have hYr : Y.1.2.1 = zp_r1 n r := by rw [hY]
  have hln : zg_ln Y 0 (fun _ _ => nI 0) c2 (g_sI r2 0 26 (1000 : Int32)) 0 0 := by
    refine ⟨by omega, ?_, ⟨fun _ => 0, rfl, rfl, fun k hk => by omega⟩, fun k hk => by omega⟩
    rw [hYb, cf bu (by omega) (by omega) (by omega)]; exact a5
  have hpp : zg_p Y 0 c2 (g_sI r2 0 26 (1000 : Int32)) 0 0 := ⟨by rw [hYb, cf bu (by omega) (by omega) (by omega)]; exact a4, x26, Nat.le_refl _, Nat.le_refl _⟩
  have lp := zg_lines (Y := Y) (F := F) (by omega) m 0 0 F F 0 0 0 _ c2 _ (by rw [hY]; rfl) (Nat.le_refl _) (by omega) (by omega) hV hpp hln
  rcases lp with ⟨c3, r5, l1, l2, l3⟩ | ⟨c3, r5, n2, U2, j2, q2, g2, l1, l2, l3, l4, l5⟩
  · obtain ⟨⟨f, f1, f2, f3, f4⟩, f5, f6⟩ := l3
    rw [hYb] at l1 f5
    rw [hYc] at f5
    rw [hYr] at f6
    rw [show oe_read_10 F bu F (0 : Int32) c2 = _ from l1, show mm_rule_18 F F (0 : Int32) (g_sI r2 0 26 (1000 : Int32)) = _ from l2]
    unfold oe_read_44 ot_close
    rw [z_sbind, z_sbind]
    have ft : (g_sI c3 1 2 (0 : Int32)).1 1 10 = nI f := by rw [z_sI_k (by omega)]; exact f3
    rw [ft, z_sbind]
    dsimp only
    rw [if_neg (show ¬ nI f = (0 : Int32) by show ¬ nI f = nI 0; rw [z_eq (by omega) (by omega)]; omega), f4]
    have hU := h.2.2.1.2.2.2.1
    have hR := h.2.2.2.1.2.1
    have g22 : (g_sI c3 1 2 (0 : Int32)).2.2 = c.2.2 := f5.2.2.1
    have h2r := h.2.2.1.2.1
    unfold g_isRule at h2r
    have ci : ∀ id, 6 < id → (id < bu ∨ bu + 4 ≤ id) → (g_sI c3 1 2 (0 : Int32)).1 id = c.1 id := fun id q1 q2 => by rw [z_sI_f (by omega)]; exact f5.1 id (by omega) q2
    have c0 : (g_sI c3 1 2 (0 : Int32)).1 0 = c.1 0 := by rw [z_sI_f (by omega)]; exact f5.1 0 (by omega) (by omega)
    refine zo_s_of rfl rfl (zi_rk (bu := bu) (r1 := r) (U2 := U) h hbu ci (by rw [c0]) ?_ ?_ ⟨by rw [g22], by rw [g22]⟩ (Or.inl ⟨by rw [g22], by rw [g22]⟩) ?_ ?_ ?_ (fun id q1 q2 => by rw [f6.1 id q1 q2, z1 id q2]) ?_ ?_)
    · rw [z_sI_same]; rfl
    · show c3.2.1 2 = _; rw [f5.2.2.2.2]
    · rw [g22]
      unfold zu_C at *
      rw [ci (c.2.2 2) (by omega) (by omega), ci (c.2.2 2 + 1) (by omega) (by omega), ci (c.2.2 2 + 2) (by omega) (by omega)]; exact hU
    · obtain ⟨u1, u2, u3⟩ := hR
      refine ⟨u1, by rw [f6.2.2.2 22 (by omega) (by omega), z3 22 (by omega)]; exact u2, fun k hk => ?_⟩
      obtain ⟨a, b, v1, v2, v3, v4, v5⟩ := u3 k hk
      refine ⟨a, b, by rw [(f6.2.1 k (by omega)).1, z1 14 (by omega)]; exact v1, by rw [(f6.2.1 k (by omega)).2, z1 15 (by omega)]; exact v2, v3, v4, fun S' hS => v5 S' (fun i hi => ?_)⟩
      rw [hS i hi, f6.2.2.1 i hi, z1 16 (by omega)]
    · exact zi_ca_f h.2.2.2.2.2.2.2 (by rw [c0]) (fun id q1 q2 => ci id (by omega) (by omega))
    · rw [f6.2.2.2 1 (by omega) (by omega)]; exact z2
    · rw [f6.2.2.2 39 (by omega) (by omega)]; exact z3 39 (by omega)
  · rw [hYb] at l1
    obtain ⟨v1, v2, v3, v4, v5, v6⟩ := l3
    rw [hYb, hYc] at v5
    rw [hYr] at v6
    obtain ⟨x1, x2, ⟨e, x3, x4, x5⟩, x6⟩ := l5
    rw [hYb] at x2 x5
    obtain ⟨p1, p2, p3, p4⟩ := l4
    have jm : j2 ≤ m ∧ m ≤ 1000 := by
      have := v1.2.2.1
      rw [hY] at this
      have this : j2 ≤ m := this
      omega
    rw [show oe_read_10 F bu F (0 : Int32) c2 = _ from l1, show mm_rule_18 F F (0 : Int32) (g_sI r2 0 26 (1000 : Int32)) = _ from l2]
    unfold oe_read_44 ot_close
    rw [z_sbind, z_sbind]
    have ft : (g_sI c3 1 2 (0 : Int32)).1 1 10 = nI 0 := by rw [z_sI_k (by omega)]; exact v4
    rw [ft, z_sbind]
    dsimp only
    have g22 : (g_sI c3 1 2 (0 : Int32)).2.2 = c.2.2 := v5.2.2.1
    have h2r := h.2.2.1.2.1
    rw [if_pos zn_p0, z_qr (by rw [g22]; exact hisr), z_sbind, z_qr (by rw [g22]; exact h2r), z_sbind, z_sbind, z_sbind, z_sbind, g22, ← hbu]
    unfold g_isRule at h2r
    have q0 : (g_sI (g_sQ (g_sQ (g_sI c3 1 2 (0 : Int32)) 3 (c.2.2 2)) 2 bu) 0 14 (0 : Int32)).2.2 2 = bu := rfl
    have q1 : (g_sI (g_sQ (g_sQ (g_sI c3 1 2 (0 : Int32)) 3 (c.2.2 2)) 2 bu) 0 14 (0 : Int32)).2.2 3 = c.2.2 2 := rfl
    have q2' : (g_sI (g_sQ (g_sQ (g_sI c3 1 2 (0 : Int32)) 3 (c.2.2 2)) 2 bu) 0 14 (0 : Int32)).2.2 0 = c.2.2 0 := by show (g_sI c3 1 2 (0 : Int32)).2.2 0 = _; rw [g22]
    have q3 : (g_sI (g_sQ (g_sQ (g_sI c3 1 2 (0 : Int32)) 3 (c.2.2 2)) 2 bu) 0 14 (0 : Int32)).2.2 1 = c.2.2 1 := by show (g_sI c3 1 2 (0 : Int32)).2.2 1 = _; rw [g22]
    have q4 : ∀ id, id ≠ 0 → (g_sI (g_sQ (g_sQ (g_sI c3 1 2 (0 : Int32)) 3 (c.2.2 2)) 2 bu) 0 14 (0 : Int32)).1 id = (g_sI c3 1 2 (0 : Int32)).1 id := fun id q => by rw [z_sI_f q]; rfl
    have q5 : (g_sI (g_sQ (g_sQ (g_sI c3 1 2 (0 : Int32)) 3 (c.2.2 2)) 2 bu) 0 14 (0 : Int32)).2.1 = c3.2.1 := rfl
    have q6 : (g_sI (g_sQ (g_sQ (g_sI c3 1 2 (0 : Int32)) 3 (c.2.2 2)) 2 bu) 0 14 (0 : Int32)).1 0 7 = c.1 0 7 := by
      rw [z_sI_k (by omega)]
      show (g_sI c3 1 2 (0 : Int32)).1 0 7 = _
      rw [z_sI_id (by omega), v5.1 0 (by omega) (by omega)]
    have q7 : (g_sI (g_sQ (g_sQ (g_sI c3 1 2 (0 : Int32)) 3 (c.2.2 2)) 2 bu) 0 14 (0 : Int32)).1 0 14 = nI 0 := by rw [z_sI_same]; rfl
    generalize g_sI (g_sQ (g_sQ (g_sI c3 1 2 (0 : Int32)) 3 (c.2.2 2)) 2 bu) 0 14 (0 : Int32) = c6 at q0 q1 q2' q3 q4 q5 q6 q7
    have ce : ∀ id, id ≠ 0 → id ≠ 1 → c6.1 id = c3.1 id := fun id z1 z2 => by rw [q4 id z1, z_sI_f z2]
    obtain ⟨⟨x7, r7⟩, t1, t2, t3, t4, t5, t6⟩ := zg_t144 (F := F) (r := g_sI r5 0 22 (nI n2)) (by omega)
    rw [t1]
    have t2 : x7 = nI 0 := t2
    subst t2
    have t22 : r7.1 0 22 = nI n2 := by rw [t5 0 (by omega) (by omega) (by omega), z_sI_same]
    have t0 : ∀ k, k ≠ 22 → r7.1 0 k = r5.1 0 k := fun k z => by rw [t5 0 (by omega) (by omega) (by omega), z_sI_k z]
    have t5 : ∀ id, id ≠ 0 → id ≠ 14 → id ≠ 15 → id ≠ 16 → r7.1 id = r5.1 id := fun id z0 z1 z2 z3 => by rw [t5 id z1 z2 z3, z_sI_f z0]
    refine zo_s_of rfl rfl (zi_rk (bu := bu) (r1 := r) (U2 := (n2, U2)) h hbu (fun id z1 z2 => ?_) q6 ?_ ?_ ⟨q2', q3⟩ (Or.inr ⟨by rw [q0]; exact hbu, q1⟩) ?_ ?_ (Or.inl q7) (fun id z1' z2 => ?_) ?_ ?_)
    · rw [ce id (by omega) (by omega)]; exact v5.1 id (by omega) z2
    · rw [q4 1 (by omega), z_sI_same]; rfl
    · rw [q5]; exact v5.2.2.2.2
    · rw [q0]
      refine ⟨x1, by rw [ce bu (by omega) (by omega)]; exact x2, e, x3, fun k hk => ?_⟩
      have := x5 k hk
      rw [ce (bu + 2) (by omega) (by omega), ce (bu + 1) (by omega) (by omega)]
      exact ⟨this.1, by omega, this.2.2.2 _ (fun _ _ _ => rfl)⟩
    · refine ⟨x1, t22, fun k hk => ?_⟩
      have hk : k < n2 := hk
      obtain ⟨a, b, y1, y2, y3, y4⟩ := x6 k hk
      have tk := t3 k (by omega)
      rw [z_sI_id (by omega), z_sI_id (by omega), y1, y2, z_sub (by omega), z_sub (by omega), show 1000 + a - 1000 = a by omega, show 1000 + b - 1000 = b by omega] at tk
      refine ⟨a, b, tk.1, tk.2, y4.1, by omega, fun S' hS => y4.2 S' (fun i z1 z2 => ?_)⟩
      rw [hS i (by omega), t4 i (by omega), z_sI_id (by omega)]
    · by_cases e22 : id = 0
      · exact absurd e22 z2
      · rw [t5 id z2 (by omega) (by omega) (by omega), v6.1 id z1' z2, z1 id z2]
    · rw [t0 1 (by omega), v6.2.2.2 1 (by omega) (by omega)]; exact z2
    · rw [t0 39 (by omega), v6.2.2.2 39 (by omega) (by omega)]; exact z3 39 (by omega)
