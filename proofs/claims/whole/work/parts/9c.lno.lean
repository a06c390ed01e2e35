/-! Layer 2: LAND -/
theorem zt_get {c r : g_St} (h : zt_I c r) : ∃ n s, zn_A n s c ∧ r.1 0 1 = nI n ∧ ∀ i, i < n → r.1 1 i = nI (s i) ∧ zt_ok (s i) := by
  obtain ⟨n, n1, n2, n3, n4, n5⟩ := h
  refine ⟨n, fun i => (c.1 3 i).toNatClampNeg, ⟨n1, n2, fun i hi => ?_, n5⟩, n3, fun i hi => ?_⟩
  · obtain ⟨s, s1, s2, s3⟩ := n4 i hi
    show c.1 3 i = nI (c.1 3 i).toNatClampNeg ∧ zt_ok (c.1 3 i).toNatClampNeg
    rw [s1, z_cl (by omega)]; exact ⟨rfl, s3⟩
  · obtain ⟨s, s1, s2, s3⟩ := n4 i hi
    show r.1 1 i = nI (c.1 3 i).toNatClampNeg ∧ zt_ok (c.1 3 i).toNatClampNeg
    rw [s1, z_cl (by omega)]; exact ⟨s2, s3⟩
def zp_r1 (n : Nat) (r : g_St) : g_St := g_sI (g_sI (g_sI (g_sI r 0 0 (0 : Int32)) 0 3 (nI n)) 0 1 (0 : Int32)) 0 4 (0 : Int32)
theorem zp_starts {F n m : Nat} {s : Nat → Nat} {T : Nat → zn_K} {r : g_St} (hn : n ≤ 1000) (h1 : r.1 0 1 = nI n) (ht : ∀ i, i < n → r.1 1 i = nI (s i) ∧ zt_ok (s i)) (ho : zn_ok n s T m) (hF : 1100 < F) : z_w (mm_starts F (g_sI r 0 0 (0 : Int32))) (fun r2 => zn_R n s T m 0 r2 ∧ zp_FR (zp_r1 n r) r2 ∧ ∀ id, id ≠ 0 → r2.1 id = (zp_r1 n r).1 id) := by
  have e : (g_sI r 0 0 (0 : Int32)).1 0 1 = nI n := by rw [z_sI_k (by omega)]; exact h1
  have hB : zn_B n s (zp_r1 n r) := by
    unfold zp_r1
    refine ⟨hn, fun i hi => ?_, ?_⟩
    · rw [z_sI_id (by omega), z_sI_id (by omega), z_sI_id (by omega), z_sI_id (by omega)]; exact ht i hi
    · rw [z_sI_k (by omega), z_sI_k (by omega), z_sI_same]
  have h4 : (zp_r1 n r).1 0 4 = nI 0 := by unfold zp_r1; rw [z_sI_same]; rfl
  unfold mm_starts
  rw [z_sbind, z_sbind, z_sbind, e]
  show z_w ((mm_nextToken F (zp_r1 n r)).bind fun μ4 => some μ4) _
  obtain ⟨r2, q1, q2, q3⟩ := zn_R_0 hB ho h4 hF
  rw [q1, z_sbind]
  exact z_w_some ⟨q2, zp_FR_k zp_FR_refl q3.1 (fun k q => q3.2.1 k (by omega) (by omega) (by omega) (by omega)), q3.1⟩
theorem zi_lk {L : zl_T} {U : zu_T} {W : zw_T} {c r c2 r1 r2 : g_St} {bl : Nat} (h : zi_I L U W c r) (hbl : bl = c.2.2 1) (hc1 : ∀ id, (id = 0 ∨ 6 < id) → (id < bl ∨ bl + 23 ≤ id) → c2.1 id = c.1 id) (hc2 : c2.2.2 = c.2.2) (hc3 : c2.1 1 2 = nI 0) (hc4 : c2.2.1 2 = c.2.1 2) (hr : zp_FR r1 r2) (h1 : ∀ id, id ≠ 0 → r1.1 id = r.1 id) (h01 : r1.1 0 1 = nI 0) (h22 : r1.1 0 22 = r.1 0 22) (h39 : r1.1 0 39 = r.1 0 39) : zi_I L U W c2 r2 := by
  obtain ⟨ho, how, hC, hR, hq, hT, hm, hca⟩ := h
  have cid := hc1
  have hq' := hq
  unfold zi_q at hq'
  have h5 := ho.1
  have h6 := ho.2.1
  have h8 := ho.2.2.1
  refine ⟨ho, how, ?_, ?_, ?_, ?_, ?_, ?_⟩
  · obtain ⟨k1, k2, k3, k4, k5⟩ := hC
    have lb := k1
    unfold g_isLand at lb
    have rb := k2
    unfold g_isRule at rb
    refine ⟨by rw [hc2]; exact k1, by rw [hc2]; exact k2, ?_, ?_, ?_⟩
    · unfold zl_C at *
      rw [hc2, cid _ (by omega) (by omega), cid (_ + 10) (by omega) (by omega), cid (_ + 11) (by omega) (by omega), cid (_ + 12) (by omega) (by omega), cid (_ + 13) (by omega) (by omega)]
      refine ⟨k3.1, k3.2.1, k3.2.2.1, fun x y hx hy => ?_, k3.2.2.2.2.1, fun p hp => ?_⟩
      · rw [cid _ (by omega) (by omega)]; exact k3.2.2.2.1 x y hx hy
      · refine ⟨(k3.2.2.2.2.2 p hp).1, (k3.2.2.2.2.2 p hp).2.1, fun j hj => ?_⟩
        rw [cid _ (by omega) (by omega)]; exact (k3.2.2.2.2.2 p hp).2.2 j hj
    · unfold zu_C at *
      rw [hc2, cid (c.2.2 2) (by omega) (by omega), cid (c.2.2 2 + 1) (by omega) (by omega), cid (c.2.2 2 + 2) (by omega) (by omega)]
      exact k4
    · exact zw_C_f k5 (fun k hk => cid _ (by omega) (by omega))
  · obtain ⟨h1', h2, h3⟩ := hR
    obtain ⟨f1, ⟨f2, f3, f4⟩, f5, f6, f7, f8, f9⟩ := hr
    have fid : ∀ id, 13 < id → r2.1 id = r.1 id := fun id q => by rw [f1 id (by omega), h1 id (by omega)]
    refine ⟨?_, ?_, ?_⟩
    · unfold zl_R at *
      rw [f2, f3, f4, h1 2 (by omega), h1 3 (by omega), h1 4 (by omega)]
      refine ⟨h1'.1, h1'.2.1, h1'.2.2.1, fun x y hx hy => ?_, fun g hg => ?_, fun p hp => ?_⟩
      · rw [f5 _ (by omega), h1 8 (by omega)]; exact h1'.2.2.2.1 x y hx hy
      · rw [(f6 g (by omega)).1, (f6 g (by omega)).2, h1 9 (by omega), h1 10 (by omega)]; exact h1'.2.2.2.2.1 g hg
      · rw [(f7 p (by omega)).1, (f7 p (by omega)).2, h1 11 (by omega), h1 12 (by omega)]
        refine ⟨(h1'.2.2.2.2.2 p hp).1, (h1'.2.2.2.2.2 p hp).2.1, fun j hj => ?_⟩
        rw [f8 _ (by omega), h1 13 (by omega)]; exact (h1'.2.2.2.2.2 p hp).2.2 j hj
    · unfold zu_R at *
      rw [f9 22 (by omega), h22, fid 14 (by omega), fid 15 (by omega), fid 16 (by omega)]; exact h2
    · unfold zw_R at *
      rw [f9 39 (by omega), h39, fid 36 (by omega), fid 29 (by omega), fid 30 (by omega), fid 31 (by omega), fid 32 (by omega), fid 33 (by omega), fid 34 (by omega), fid 35 (by omega)]; exact h3
  · unfold zi_q at *; rw [hc2]; exact hq
  · obtain ⟨n, n1, n2, n3, n4, n5⟩ := hT
    exact ⟨0, by omega, hc3, by rw [hr.2.2.2.2.2.2 1 (by omega)]; exact h01, fun i hi => by omega, fun k hk => by rw [hc4]; exact n5 k hk⟩
  · obtain ⟨ld, l1, l2, l3⟩ := hm
    refine ⟨ld, l1, by rw [cid 0 (by omega) (by omega)]; exact l2, fun m hm => ?_⟩
    rw [hr.1 47 (by omega), h1 47 (by omega)]
    refine ⟨(l3 m hm).1, fun q => ?_⟩
    obtain ⟨W2, w1, w2, w3⟩ := (l3 m hm).2 q
    refine ⟨W2, w1, zw_C_f w2 (fun k hk => cid _ (by omega) (by omega)), ?_⟩
    unfold zw_M at *
    rw [hr.1 48 (by omega), h1 48 (by omega)]
    exact w3
  · exact zi_ca_f hca (by rw [cid 0 (by omega) (by omega)]) (fun id q1 q2 => cid id (by omega) (by omega))
/-- the land that was read -/
def zp_LF (P : zp_T) : zl_T := ((zl_pl P.1, zl_gd P.1, zl_pp P.1), zs_vm (zl_pl P.1) (zl_wy P.1) (zl_pl P.1), P.1.2.2)
def zp_WF (P : zp_T) : zw_T := ((0, 0), (fun _ => 0), (fun _ => 0), (fun _ => 0), (fun _ => 0), (fun _ => 0), (fun _ => 0), zl_hm P.1)
theorem zi_new {L : zl_T} {U : zu_T} {W : zw_T} {P : zp_T} {c r c2 c3 r1 r2 r3 : g_St} {bl : Nat} (h : zi_I L U W c r) (hbl : bl = c.2.2 1) (hL : zp_L bl P c2 r2) (hc1 : zp_FC c bl c2) (hr1 : zp_FR r1 r2) (h1 : ∀ id, id ≠ 0 → r1.1 id = r.1 id) (h01 : r1.1 0 1 = nI 0) (h22 : r1.1 0 22 = r.1 0 22)
    (d1 : ∀ id, (bl ≤ id ∧ id < bl + 23) → (id < bl + 5 ∨ bl + 10 ≤ id) → c3.1 id = c2.1 id) (d2 : ∀ x y, x < 5 → y < 5 → zs_vm (zl_pl P.1) (zl_wy P.1) (zl_pl P.1) x y ≤ 999 ∧ c3.1 (bl + 5 + x) y = nI (zs_vm (zl_pl P.1) (zl_wy P.1) (zl_pl P.1) x y)) (d3 : ∀ id, 53 ≤ id → id < 61 → c3.1 id = c2.1 id) (d4 : c3.1 61 0 = nI 0 ∧ c3.1 61 1 = nI 0 ∧ ∀ p, p < zl_pp P.1 → c3.1 67 p = nI 0 ∧ c3.1 68 p = c2.1 (bl + 12) p)
    (d5 : c3.1 1 2 = nI 0) (d6 : c3.2.1 2 = c2.2.1 2) (d7 : c3.2.2 0 = bl ∧ c3.2.2 1 = c.2.2 0 ∧ c3.2.2 2 = c.2.2 2 ∧ c3.2.2 3 = c.2.2 3) (d8 : c3.1 0 7 = nI 0 ∧ c3.1 0 14 = nI 0) (e0 : r3.1 2 0 = nI (zl_pl P.1) ∧ r3.1 3 0 = nI (zl_gd P.1) ∧ r3.1 4 0 = nI (zl_pp P.1)) (e1 : zp_rF (zl_wy P.1) r2 r3 ∨ True)
    (e2 : (∀ x y, x < 5 → y < 5 → zs_vm 5 (zl_wy P.1) 5 x y ≤ 999 ∧ r3.1 8 (5 * x + y) = nI (zs_vm 5 (zl_wy P.1) 5 x y)) ∧ (∀ g, g < 6 → r3.1 9 g = r2.1 9 (6 + g) ∧ r3.1 10 g = r2.1 10 (6 + g) ∧ r3.1 36 g = nI 0) ∧ (∀ p, p < 8 → r3.1 11 p = r2.1 11 (8 + p) ∧ r3.1 12 p = r2.1 12 (8 + p) ∧ r3.1 34 p = r2.1 11 (8 + p) ∧ r3.1 35 p = nI 0) ∧ (∀ k, k < 144 → r3.1 13 k = r2.1 13 (144 + k)) ∧ r3.1 0 39 = nI 0 ∧ (∀ m, m < 4 → r3.1 47 m = nI 0) ∧ (∀ id, (13 < id ∧ id < 34) → r3.1 id = r2.1 id) ∧ (∀ k, k ≠ 39 → r3.1 0 k = r2.1 0 k)) :
    zi_I (zp_LF P) U (zp_WF P) c3 r3 := by
  obtain ⟨ho, how, hC, hR, hq, hT, hm, hca⟩ := h
  obtain ⟨⟨⟨x1, x2, x3⟩, -, b1, b2, b3⟩, -, hw, hg, hp, hz⟩ := hL
  obtain ⟨e3, e4, e5, e6, e7, e8, e9, e10⟩ := e2
  have hq' := hq
  unfold zi_q at hq'
  have hI : zs_I (zl_pl P.1) (zl_wy P.1) (zl_wy P.1) := ⟨fun _ _ _ _ => rfl, fun x y hx hy => ⟨(hw x y hx hy).1, (hw x y hx hy).2.2.2⟩⟩
  have hI2 := (zs_I_m hI b1 5 (Nat.le_refl _)).1
  rw [show min 5 (zl_pl P.1) = zl_pl P.1 by omega] at hI2
  refine ⟨⟨b1, b2, b3, fun a b ha hb => ?_, fun g hg2 => ?_, fun p hp2 => ?_⟩, ⟨by show 0 ≤ 40; omega, by show 0 < 64; omega, fun t ht => ?_, fun p hp2 => ?_⟩, ⟨?_, ?_, ?_, ?_, ?_⟩, ⟨?_, ?_, ?_⟩, ?_, ?_, ?_, ?_⟩
  · have ha : a < zl_pl P.1 := ha
    have hb : b < zl_pl P.1 := hb
    exact (d2 a b (by omega) (by omega)).1
  · exact (hg g hg2).1
  · have := hp p hp2
    exact ⟨this.1.1, this.1.2, fun j hj => (this.2.2 j hj).1⟩
  · have ht : t < 0 := ht
    omega
  · exact ⟨by show 0 ≤ 168; omega, (hp p hp2).1.1⟩
  · rw [d7.1]; unfold g_isLand; omega
  · rw [d7.2.2.1]; exact hC.2.1
  · rw [d7.1]
    refine ⟨?_, ?_, ?_, fun x y hx hy => ?_, fun g hg2 => ?_, fun p hp2 => ?_⟩
    · rw [d1 bl (by omega) (by omega)]; exact x1
    · rw [d1 bl (by omega) (by omega)]; exact x2
    · rw [d1 bl (by omega) (by omega)]; exact x3
    · have hx : x < zl_pl P.1 := hx
      have hy : y < zl_pl P.1 := hy
      exact (d2 x y (by omega) (by omega)).2
    · rw [d1 (bl + 10) (by omega) (by omega), d1 (bl + 11) (by omega) (by omega)]
      exact ⟨(hg g hg2).2.1, (hg g hg2).2.2.1⟩
    · have hp3 : p < zl_pp P.1 := hp2
      rw [d1 (bl + 12) (by omega) (by omega), d1 (bl + 13) (by omega) (by omega), d1 (bl + 15 + p) (by omega) (by omega)]
      exact ⟨(hp p hp2).2.1.1, (hp p hp2).2.1.2.1, fun j hj => ((hp p hp2).2.2 j hj).2.1⟩
  · obtain ⟨k1, k2, k3, k4, k5⟩ := hC
    unfold g_isRule at k2
    rw [d7.2.2.1]
    unfold zu_C at *
    rw [d3 (c.2.2 2) (by omega) (by omega), d3 (c.2.2 2 + 1) (by omega) (by omega), d3 (c.2.2 2 + 2) (by omega) (by omega), hc1.1 (c.2.2 2) (by omega) (by omega), hc1.1 (c.2.2 2 + 1) (by omega) (by omega), hc1.1 (c.2.2 2 + 2) (by omega) (by omega)]
    exact k4
  · refine ⟨d4.1, d4.2.1, fun t ht => ?_, fun p hp2 => ?_⟩
    · have ht : t < 0 := ht
      omega
    · have := d4.2.2 p hp2
      refine ⟨this.1, ?_⟩
      show c3.1 68 p = nI (zl_hm P.1 p)
      rw [this.2]; exact (hp p hp2).2.1.1
  · refine ⟨e0.1, e0.2.1, e0.2.2, fun x y hx hy => ?_, fun g hg2 => ?_, fun p hp2 => ?_⟩
    · have hx : x < zl_pl P.1 := hx
      have hy : y < zl_pl P.1 := hy
      have := (e3 x y (by omega) (by omega)).2
      rw [hI2 x y hx hy] at this
      exact this
    · have hg3 : g < zl_gd P.1 := hg2
      rw [(e4 g (by omega)).1, (e4 g (by omega)).2.1]
      exact ⟨(hg g hg2).2.2.2.1, (hg g hg2).2.2.2.2⟩
    · have hp3 : p < zl_pp P.1 := hp2
      rw [(e5 p (by omega)).1, (e5 p (by omega)).2.1]
      refine ⟨(hp p hp2).2.1.2.2.1, (hp p hp2).2.1.2.2.2, fun j hj => ?_⟩
      rw [e6 _ (by omega), show 144 + (18 * p + j) = 18 * (8 + p) + j by omega]
      exact ((hp p hp2).2.2 j hj).2.2
  · have h2 := hR.2.1
    unfold zu_R at *
    rw [e10 22 (by omega), hr1.2.2.2.2.2.2 22 (by omega), h22, e9 14 (by omega), e9 15 (by omega), e9 16 (by omega), hr1.1 14 (by omega), hr1.1 15 (by omega), hr1.1 16 (by omega), h1 14 (by omega), h1 15 (by omega), h1 16 (by omega)]; exact h2
  · refine ⟨e7, fun g hg2 => ?_, fun t ht => ?_, fun p hp2 => ?_⟩
    · rw [(e4 g hg2).2.2]
      show nI 0 = nI (z_bit 0 g)
      rw [show z_bit 0 g = 0 by unfold z_bit; simp]
    · have ht : t < 0 := ht
      omega
    · have hp3 : p < zl_pp P.1 := hp2
      rw [(e5 p (by omega)).2.2.1, (e5 p (by omega)).2.2.2]
      exact ⟨rfl, (hp p hp2).2.1.2.2.1⟩
  · unfold zi_q
    rw [d7.1, d7.2.1, d7.2.2.1, d7.2.2.2]
    omega
  · obtain ⟨n, n1, n2, n3, n4, n5⟩ := hT
    exact ⟨0, by omega, d5, by rw [e10 1 (by omega), hr1.2.2.2.2.2.2 1 (by omega)]; exact h01, fun i hi => by omega, fun k hk => by rw [d6, hc1.2.2.2.2]; exact n5 k hk⟩
  · refine ⟨0, by omega, d8.1, fun m hm => ⟨?_, fun q => ?_⟩⟩
    · rw [e8 m hm, show z_bit 0 m = 0 by unfold z_bit; simp]
    · rw [show z_bit 0 m = 0 by unfold z_bit; simp] at q; omega
  · exact Or.inl d8.2
theorem zo_land {F : Nat} (hF : 4000 < F) {c r : g_St} (h : zi c r) : zo_s c r (oo_land F c) (mm_land F r) := by
  obtain ⟨L, U, W, h⟩ := h
  have hT := h.2.2.2.2.2.1
  have hq := h.2.2.2.2.1
  unfold zi_q at hq
  obtain ⟨n, s, hA, hr1, ht⟩ := zt_get hT
  have hn := hA.1
  obtain ⟨bl, hbl⟩ : ∃ bl, bl = c.2.2 1 := ⟨_, rfl⟩
  have hb7 : bl = 7 ∨ bl = 30 := by omega
  have hisl : g_isLand (c.2.2 1) := by unfold g_isLand; omega
  unfold oo_land mm_land
  rw [z_ql hisl, z_sbind, ← hbl, z_sbind]
  unfold od_read
  obtain ⟨c1, a1, a2, a3, a4, a5, a6⟩ := zp_clear (F := F) (bl := bl) (c := c) (by omega)
  rw [a1, z_sbind]
  have hA1 : zn_A n s c1 := ⟨hn, by rw [a2 1 (by omega)]; exact hA.2.1, fun i hi => by rw [a2 3 (by omega)]; exact hA.2.2.1 i hi, fun k hk => by rw [a3]; exact hA.2.2.2 k hk⟩
  obtain ⟨c2, b1, T, m, b2, b3⟩ := zn_open (F := F) hA1 (by omega)
  rw [b1, z_sbind]
  obtain ⟨r2, s1, s2, s3, -⟩ := zp_starts (F := F) hn hr1 ht b2.2.1 (by omega)
  rw [s1, z_sbind]
  have cf : ∀ id, id ≠ 1 → id ≠ 4 → id ≠ 5 → c2.1 id = c1.1 id := fun id q1 q2 q3 => by rw [b3.1 id q1 q2 q3, z_sI_f q1]
  unfold mm_readsLand
  rw [show g_wr r2 2 2 (1 : Int32) (0 : Int32) = some (g_sI r2 2 1 (0 : Int32)) from z_wr (i := 1) (by omega) (by omega), z_sbind, show g_wr (g_sI r2 2 1 (0 : Int32)) 3 2 (1 : Int32) (0 : Int32) = some (g_sI (g_sI r2 2 1 (0 : Int32)) 3 1 (0 : Int32)) from z_wr (i := 1) (by omega) (by omega), z_sbind, show g_wr (g_sI (g_sI r2 2 1 (0 : Int32)) 3 1 (0 : Int32)) 4 2 (1 : Int32) (0 : Int32) = some (g_sI (g_sI (g_sI r2 2 1 (0 : Int32)) 3 1 (0 : Int32)) 4 1 (0 : Int32)) from z_wr (i := 1) (by omega) (by omega), z_sbind]
  obtain ⟨r4, u1, u2, u3, u4, u5⟩ := zp_rIn (F := F) (r0 := r2) 25 0 F (g_sI (g_sI (g_sI r2 2 1 (0 : Int32)) 3 1 (0 : Int32)) 4 1 (0 : Int32)) (by omega) (by omega) (by omega) (zp_KR_t (zp_KR_t (zp_KR_I (by omega)) (zp_KR_I (by omega))) (zp_KR_I (by omega))) (fun i hi => by omega) ⟨by rw [z_sI_id (by omega), z_sI_id (by omega), z_sI_same]; rfl, by rw [z_sI_id (by omega), z_sI_same]; rfl, by rw [z_sI_same]; rfl⟩
  rw [show mm_readsLand_24 F F (25 : Int32) (g_sI (g_sI (g_sI r2 2 1 (0 : Int32)) 3 1 (0 : Int32)) 4 1 (0 : Int32)) = _ from u1]
  obtain ⟨Y, hY⟩ : ∃ Y : zp_S, Y = ((c, zp_r1 n r, bl), (n, s, T, m)) := ⟨_, rfl⟩
  have hV : zp_V Y 0 c2 r4 := by
    subst hY
    refine ⟨b2, zn_R_w s2 (u2.1.1 1 (by omega)) (fun k _ _ => by rw [u2.2.1]) (by rw [u2.2.2]), hb7, ⟨0, by omega, ?_, ?_⟩, ?_, zp_FR_t s3 u2.1⟩
    · show c2.1 bl 0 = nI 0
      rw [cf bl (by omega) (by omega) (by omega)]; exact a4.1
    · rw [b3.2.1 10 (by omega), z_sI_same]; rfl
    · refine ⟨fun id q1 q2 => ?_, fun id q1 q2 => ?_, ?_, ?_, ?_⟩
      · rw [cf id (by omega) (by omega) (by omega), a2 id q2]
      · rw [b3.2.2.1 id (by omega) (by omega)]; show c1.2.1 id = _; rw [a3]
      · rw [b3.2.2.2]; show c1.2.2 = _; rw [a3]
      · rw [b3.2.1 2 (by omega), z_sI_k (by omega), a2 1 (by omega)]
      · rw [b3.2.2.1 2 (by omega) (by omega)]; show c1.2.1 2 = _; rw [a3]
  have hL : zp_L Y.1.2.2 zp_L0 c2 r4 := by
    subst hY
    refine ⟨⟨⟨?_, ?_, ?_⟩, u4, by show 0 ≤ 5; omega, by show 0 ≤ 6; omega, by show 0 ≤ 8; omega⟩, ⟨fun i hi => ?_, fun i hi => ?_, fun i hi => ?_⟩, fun x y hx hy => ?_, fun g hg => ?_, fun p hp => ?_, fun p q1 q2 j hj => ?_⟩
    · show c2.1 bl 0 = nI 0; rw [cf bl (by omega) (by omega) (by omega)]; exact a4.1
    · show c2.1 bl 1 = nI 0; rw [cf bl (by omega) (by omega) (by omega)]; exact a4.2.1
    · show c2.1 bl 2 = nI 0; rw [cf bl (by omega) (by omega) (by omega)]; exact a4.2.2
    · have hi : i < 0 := hi; omega
    · have hi : i < 0 := hi; omega
    · have hi : i < 0 := hi; omega
    · show (if x = y then 0 else 999) ≤ 999 ∧ c2.1 (bl + 5 + x) y = nI (if x = y then 0 else 999) ∧ r4.1 8 (25 + 5 * x + y) = nI (if x = y then 0 else 999) ∧ _
      refine ⟨by split <;> omega, ?_, ?_, fun _ => rfl⟩
      · rw [cf _ (by omega) (by omega) (by omega)]; exact a5 x y hx hy
      · rw [show 25 + 5 * x + y = 25 + (5 * x + y) by omega, u3 _ (by omega), show (5 * x + y) / 5 = x by omega, show (5 * x + y) % 5 = y by omega]
    · have hg : g < 0 := hg; omega
    · have hp : p < 0 := hp; omega
    · show c2.1 (bl + 15 + p) j = nI 0 ∧ (_ → (0 : Nat) = 0)
      rw [cf _ (by omega) (by omega) (by omega)]; exact ⟨a6 p j q2 hj, fun _ => rfl⟩
  have hm : m ≤ n := b2.2.1.2.2.2.2
  have lp := zp_loop (Y := Y) (F := F) (by omega) m 0 0 F F zp_L0 c2 r4 (by rw [hY]; rfl) (Nat.le_refl _) (by omega) (by omega) hV hL (fun _ _ _ => rfl)
  have hYb : Y.1.2.2 = bl := by rw [hY]
  have hYc : Y.1.1 = c := by rw [hY]
  have hYr : Y.1.2.1 = zp_r1 n r := by rw [hY]
  have z1 : ∀ id, id ≠ 0 → (zp_r1 n r).1 id = r.1 id := fun id q => by unfold zp_r1; rw [z_sI_f q, z_sI_f q, z_sI_f q, z_sI_f q]
  have z2 : (zp_r1 n r).1 0 1 = nI 0 := by unfold zp_r1; rw [z_sI_k (by omega), z_sI_same]; rfl
  have z3 : ∀ k, 4 < k → (zp_r1 n r).1 0 k = r.1 0 k := fun k q => by unfold zp_r1; rw [z_sI_k (by omega), z_sI_k (by omega), z_sI_k (by omega), z_sI_k (by omega)]
  rcases lp with ⟨c3, r5, l1, l2, l3⟩ | ⟨P, j2, c3, r5, l1, l2, l3, l4, -⟩
  · obtain ⟨⟨f, f1, f2, f3, f4⟩, f5, f6, k, k1, k2⟩ := l3
    rw [hYb] at l1 k2 f5
    rw [hYc] at f5
    rw [hYr] at f6
    rw [show od_read_10 F bl F (0 : Int32) c2 = _ from l1, l2, z_sbind, if_pos (show (0 : Int32) = 0 from rfl)]
    unfold od_read_44 ot_close
    rw [zs_C k1 k2 (by omega), z_sbind, z_sbind, z_sbind]
    have kk := zs_m_k (bl := bl) (N := k) (c := c3) k1 k
    generalize zs_m bl k c3 k = c4 at kk
    dsimp only
    have ft : (g_sI c4 1 2 (0 : Int32)).1 1 10 = nI f := by rw [z_sI_k (by omega), kk.1 1 (by omega)]; exact f3
    rw [ft, z_sbind, if_neg (show ¬ nI f = (0 : Int32) by show ¬ nI f = nI 0; rw [z_eq (by omega) (by omega)]; omega), f4]
    refine zo_s_of rfl rfl (zi_lk (bl := bl) (r1 := zp_r1 n r) h hbl (fun id q1 q2 => ?_) ?_ ?_ ?_ f6 z1 z2 (z3 22 (by omega)) (z3 39 (by omega)))
    · rw [z_sI_f (by omega), kk.1 id (by omega), f5.1 id q1 q2]
    · show c4.2.2 = _; rw [kk.2, f5.2.2.1]
    · rw [z_sI_same]; rfl
    · show c4.2.1 2 = _; rw [kk.2, f5.2.2.2.2]
  · rw [hYb] at l1 l4
    obtain ⟨v1, v2, v3, ⟨k, k1, k2, k10⟩, v5, v6⟩ := l3
    rw [hYb, hYc] at v5
    rw [hYr] at v6
    rw [show od_read_10 F bl F (0 : Int32) c2 = _ from l1, l2, z_sbind, if_neg zn_p1]
    have p5 := l4.1.2.2.1
    have p8 := l4.1.2.2.2.2
    unfold od_read_44 ot_close
    rw [zs_C p5 l4.1.1.1 (by omega), z_sbind, z_sbind, z_sbind]
    have kk := zs_m_k (bl := bl) (N := zl_pl P.1) (c := c3) p5 (zl_pl P.1)
    have kw := zs_m_C (bl := bl) (N := zl_pl P.1) (w := zl_wy P.1) (c := c3) (fun x y hx hy => ⟨(l4.2.2.1 x y hx hy).1, (l4.2.2.1 x y hx hy).2.1⟩) p5 (zl_pl P.1) p5
    generalize zs_m bl (zl_pl P.1) c3 (zl_pl P.1) = c4 at kk kw
    dsimp only
    have ft : (g_sI c4 1 2 (0 : Int32)).1 1 10 = nI 0 := by rw [z_sI_k (by omega), kk.1 1 (by omega)]; exact k10
    have g22 : (g_sI c4 1 2 (0 : Int32)).2.2 = c.2.2 := by show c4.2.2 = _; rw [kk.2, v5.2.2.1]
    rw [ft, z_sbind, if_pos zn_p0]
    dsimp only
    rw [z_ql (by rw [g22]; exact hisl), z_sbind, z_ql (by rw [g22]; unfold g_isLand; omega), z_sbind, z_sbind, z_sbind, g22, ← hbl]
    have q0 : (g_sQ (g_sQ (g_sI c4 1 2 (0 : Int32)) 1 (c.2.2 0)) 0 bl).2.2 0 = bl := rfl
    have q1 : (g_sQ (g_sQ (g_sI c4 1 2 (0 : Int32)) 1 (c.2.2 0)) 0 bl).2.2 1 = c.2.2 0 := rfl
    have q2 : (g_sQ (g_sQ (g_sI c4 1 2 (0 : Int32)) 1 (c.2.2 0)) 0 bl).2.2 2 = c.2.2 2 := by show (g_sI c4 1 2 (0 : Int32)).2.2 2 = _; rw [g22]
    have q3 : (g_sQ (g_sQ (g_sI c4 1 2 (0 : Int32)) 1 (c.2.2 0)) 0 bl).2.2 3 = c.2.2 3 := by show (g_sI c4 1 2 (0 : Int32)).2.2 3 = _; rw [g22]
    have q4 : (g_sQ (g_sQ (g_sI c4 1 2 (0 : Int32)) 1 (c.2.2 0)) 0 bl).1 = (g_sI c4 1 2 (0 : Int32)).1 := rfl
    have q5 : (g_sQ (g_sQ (g_sI c4 1 2 (0 : Int32)) 1 (c.2.2 0)) 0 bl).2.1 = c4.2.1 := rfl
    generalize g_sQ (g_sQ (g_sI c4 1 2 (0 : Int32)) 1 (c.2.2 0)) 0 bl = c5 at q0 q1 q2 q3 q4 q5
    have x0 : ∀ id, id ≠ 1 → c5.1 id = c4.1 id := fun id q => by rw [q4, z_sI_f q]
    rw [z_ql (by rw [q0]; exact hb7), z_sbind, q0]
    have hpp : c5.1 bl 2 = nI (zl_pp P.1) := by rw [x0 bl (by omega), kk.1 bl (by omega)]; exact l4.1.1.2.2
    obtain ⟨c6, w1, w2, w3, w4, w5, w6⟩ := zp_begin (F := F) (show g_isLand bl from hb7) p8 hpp (by omega)
    rw [w1, z_sbind, z_sbind, z_sbind]
    -- the reference
    have e4 : r5.1 2 1 = nI (zl_pl P.1) := l4.1.2.1.1
    have e5 : r5.1 3 1 = nI (zl_gd P.1) := l4.1.2.1.2.1
    have e6 : r5.1 4 1 = nI (zl_pp P.1) := l4.1.2.1.2.2
    rw [show g_rd r5 2 2 (1 : Int32) = some (nI (zl_pl P.1)) from (z_rd (i := 1) (n := 2) (by omega) (by omega)).trans (congrArg some e4), z_sbind, show g_wr r5 2 2 (0 : Int32) (nI (zl_pl P.1)) = some (g_sI r5 2 0 (nI (zl_pl P.1))) from z_wr (i := 0) (by omega) (by omega), z_sbind, show g_rd (g_sI r5 2 0 (nI (zl_pl P.1))) 3 2 (1 : Int32) = some (nI (zl_gd P.1)) from (z_rd (i := 1) (n := 2) (by omega) (by omega)).trans (congrArg some ((z_sI_id (by omega)).trans e5)), z_sbind, show g_wr (g_sI r5 2 0 (nI (zl_pl P.1))) 3 2 (0 : Int32) (nI (zl_gd P.1)) = some (g_sI (g_sI r5 2 0 (nI (zl_pl P.1))) 3 0 (nI (zl_gd P.1))) from z_wr (i := 0) (by omega) (by omega), z_sbind, show g_rd (g_sI (g_sI r5 2 0 (nI (zl_pl P.1))) 3 0 (nI (zl_gd P.1))) 4 2 (1 : Int32) = some (nI (zl_pp P.1)) from (z_rd (i := 1) (n := 2) (by omega) (by omega)).trans (congrArg some ((z_sI_id (by omega)).trans ((z_sI_id (by omega)).trans e6))), z_sbind, show g_wr (g_sI (g_sI r5 2 0 (nI (zl_pl P.1))) 3 0 (nI (zl_gd P.1))) 4 2 (0 : Int32) (nI (zl_pp P.1)) = some (g_sI (g_sI (g_sI r5 2 0 (nI (zl_pl P.1))) 3 0 (nI (zl_gd P.1))) 4 0 (nI (zl_pp P.1))) from z_wr (i := 0) (by omega) (by omega), z_sbind]
    have y0 : (g_sI (g_sI (g_sI r5 2 0 (nI (zl_pl P.1))) 3 0 (nI (zl_gd P.1))) 4 0 (nI (zl_pp P.1))).1 2 0 = nI (zl_pl P.1) ∧ (g_sI (g_sI (g_sI r5 2 0 (nI (zl_pl P.1))) 3 0 (nI (zl_gd P.1))) 4 0 (nI (zl_pp P.1))).1 3 0 = nI (zl_gd P.1) ∧ (g_sI (g_sI (g_sI r5 2 0 (nI (zl_pl P.1))) 3 0 (nI (zl_gd P.1))) 4 0 (nI (zl_pp P.1))).1 4 0 = nI (zl_pp P.1) := ⟨by rw [z_sI_id (by omega), z_sI_id (by omega), z_sI_same], by rw [z_sI_id (by omega), z_sI_same], by rw [z_sI_same]⟩
    have y1 : ∀ id, id ≠ 2 → id ≠ 3 → id ≠ 4 → (g_sI (g_sI (g_sI r5 2 0 (nI (zl_pl P.1))) 3 0 (nI (zl_gd P.1))) 4 0 (nI (zl_pp P.1))).1 id = r5.1 id := fun id q1 q2 q3 => by rw [z_sI_f q3, z_sI_f q2, z_sI_f q1]
    generalize g_sI (g_sI (g_sI r5 2 0 (nI (zl_pl P.1))) 3 0 (nI (zl_gd P.1))) 4 0 (nI (zl_pp P.1)) = r6 at y0 y1
    obtain ⟨⟨x7, r7⟩, t1, t2, t3, t4, t5, t6, t7, t8, t9, t10, t11⟩ := zp_t59 (F := F) (r := r6) (w := zl_wy P.1) (fun x y hx hy => ⟨(l4.2.2.1 x y hx hy).1, by rw [y1 8 (by omega) (by omega) (by omega)]; exact (l4.2.2.1 x y hx hy).2.2.1⟩) (by omega)
    rw [t1]
    have t2 : x7 = nI 0 := t2
    subst t2
    rw [y1 9 (by omega) (by omega) (by omega), y1 10 (by omega) (by omega) (by omega)] at t4
    rw [y1 11 (by omega) (by omega) (by omega), y1 12 (by omega) (by omega) (by omega)] at t5
    rw [y1 13 (by omega) (by omega) (by omega)] at t6
    rw [y1 0 (by omega) (by omega) (by omega)] at t10
    have cc : ∀ id, id ≠ 0 → id ≠ 1 → id ≠ 61 → id ≠ 67 → id ≠ 68 → (g_sI (g_sI c6 0 7 (0 : Int32)) 0 14 (0 : Int32)).1 id = c4.1 id := fun id q1 q2 q3 q4 q5 => by rw [z_sI_f q1, z_sI_f q1, w5 id q3 q4 q5, x0 id q2]
    refine zo_s_of rfl rfl (zi_new (bl := bl) (r1 := zp_r1 n r) (c2 := c3) (r2 := r5) (P := P) h hbl l4 v5 v6 z1 z2 (z3 22 (by omega)) (fun id q1 q2 => ?_) (fun x y hx hy => ?_) (fun id q1 q2 => ?_) ⟨?_, ?_, fun p hp => ?_⟩ ?_ ?_ ⟨?_, ?_, ?_, ?_⟩ ⟨?_, ?_⟩ ⟨?_, ?_, ?_⟩ (Or.inr trivial) ⟨t3, t4, t5, t6, t7, t8, fun id q => ?_, t10⟩)
    · rw [cc id (by omega) (by omega) (by omega) (by omega) (by omega), kk.1 id q2]
    · rw [cc _ (by omega) (by omega) (by omega) (by omega) (by omega)]; exact kw x y hx hy
    · rw [cc id (by omega) (by omega) (by omega) (by omega) (by omega), kk.1 id (by omega)]
    · rw [z_sI_id (by omega), z_sI_id (by omega)]; exact w2
    · rw [z_sI_id (by omega), z_sI_id (by omega)]; exact w3
    · rw [z_sI_id (by omega), z_sI_id (by omega), z_sI_id (by omega), z_sI_id (by omega)]
      refine ⟨(w4 p hp).1, ?_⟩
      rw [(w4 p hp).2, x0 (bl + 12) (by omega), kk.1 (bl + 12) (by omega)]
    · rw [z_sI_id (by omega), z_sI_id (by omega), w5 1 (by omega) (by omega) (by omega), q4, z_sI_same]; rfl
    · show c6.2.1 2 = _; rw [w6, q5, kk.2]
    · show c6.2.2 0 = _; rw [w6, q0]
    · show c6.2.2 1 = _; rw [w6, q1]
    · show c6.2.2 2 = _; rw [w6, q2]
    · show c6.2.2 3 = _; rw [w6, q3]
    · rw [z_sI_k (by omega), z_sI_same]; rfl
    · rw [z_sI_same]; rfl
    · rw [t9 2 (by omega)]; exact y0.1
    · rw [t9 3 (by omega)]; exact y0.2.1
    · rw [t9 4 (by omega)]; exact y0.2.2
    · rw [t9 id (by omega), y1 id (by omega) (by omega) (by omega)]
