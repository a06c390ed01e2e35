/-! Layer 2: what holds between the two programs' states; what of them may change meanwhile -/
def zv_all (L : zl_T) : Nat := 2 ^ zl_pp L - 1
def zt_wd (k : Nat) : Int64 := [(17171557 : Int64), 23609, 245220, 8902227, 215533, 542723566, 52, 13675699, 24165011, 404462252, 762030, 1476, 498, 14836, 16110, 525908, 638548, 146930, 56377, 215205].getD k 0
def zt_I (c r : g_St) : Prop := ∃ n, n ≤ 1000 ∧ c.1 1 2 = nI n ∧ r.1 0 1 = nI n ∧ (∀ i, i < n → ∃ s, c.1 3 i = nI s ∧ r.1 1 i = nI s ∧ (s = 10 ∨ (32 ≤ s ∧ s ≤ 126))) ∧ ∀ k, k < 20 → c.2.1 2 k = zt_wd k
def zw_M (L : zl_T) (W : zw_T) (r : g_St) (m : Nat) : Prop := r.1 48 (250 * m) = nI (zw_n W) ∧ (∀ t, t < zw_n W → r.1 48 (250 * m + 1 + t) = nI (zw_gd W t) ∧ r.1 48 (250 * m + 41 + t) = nI (zw_so W t) ∧ r.1 48 (250 * m + 81 + t) = nI (zw_mk W t) ∧ r.1 48 (250 * m + 121 + t) = zE (zw_ho W t) ∧ r.1 48 (250 * m + 161 + t) = nI (zw_dn W t)) ∧ (∀ p, p < zl_pp L → r.1 48 (250 * m + 201 + p) = nI (zw_pc W p) ∧ r.1 48 (250 * m + 209 + p) = nI (zw_ck W p)) ∧ ∀ g, g < 6 → r.1 48 (250 * m + 217 + g) = nI (z_bit (zw_lf W) g)
def zi_m (L : zl_T) (c r : g_St) : Prop := ∃ ld, ld < 16 ∧ c.1 0 7 = nI ld ∧ ∀ m, m < 4 → r.1 47 m = nI (z_bit ld m) ∧ (z_bit ld m = 1 → ∃ W, zw_ok L W ∧ zw_C L W c (101 + 8 * m) ∧ zw_M L W r m)
def zi_ca (L : zl_T) (U : zu_T) (W : zw_T) (c : g_St) : Prop := c.1 0 14 = nI 0 ∨ (c.1 0 14 = nI 1 ∧ zr_C (zc_X L U W (zv_all L) 0 (zw_lf W)) (zv_all L) 71 c)
def zi_q (c : g_St) : Prop := ((c.2.2 0 = 7 ∧ c.2.2 1 = 30) ∨ (c.2.2 0 = 30 ∧ c.2.2 1 = 7)) ∧ ((c.2.2 2 = 53 ∧ c.2.2 3 = 57) ∨ (c.2.2 2 = 57 ∧ c.2.2 3 = 53))
def zi_I (L : zl_T) (U : zu_T) (W : zw_T) (c r : g_St) : Prop := zl_ok L ∧ zw_ok L W ∧ zk_C L U W c ∧ zk_R L U W r ∧ zi_q c ∧ zt_I c r ∧ zi_m L c r ∧ zi_ca L U W c
def zi (c r : g_St) : Prop := ∃ L U W, zi_I L U W c r
/-- what of the reference's state is kept -/
def zi_kR (r r2 : g_St) : Prop := (∀ id, ((1 ≤ id ∧ id < 19) ∨ (28 < id ∧ id < 37) ∨ id = 47 ∨ id = 48) → r2.1 id = r.1 id) ∧ r2.1 0 1 = r.1 0 1 ∧ r2.1 0 22 = r.1 0 22 ∧ r2.1 0 39 = r.1 0 39
theorem zi_kR_refl {r : g_St} : zi_kR r r := ⟨fun _ _ => rfl, rfl, rfl, rfl⟩
theorem zi_kR_trans {r r2 r3 : g_St} (h : zi_kR r r2) (h2 : zi_kR r2 r3) : zi_kR r r3 :=
  ⟨fun id q => by rw [h2.1 id q, h.1 id q], by rw [h2.2.1, h.2.1], by rw [h2.2.2.1, h.2.2.1], by rw [h2.2.2.2, h.2.2.2]⟩
theorem zi_kR_f {r r2 : g_St} {P : Nat → Prop} (h : z_f P r r2) (hP : ∀ id, (id < 19 ∨ (28 < id ∧ id < 37) ∨ id = 47 ∨ id = 48) → P id) : zi_kR r r2 :=
  ⟨fun id q => h.1 id (hP id (by omega)), by rw [h.1 0 (hP 0 (by omega))], by rw [h.1 0 (hP 0 (by omega))], by rw [h.1 0 (hP 0 (by omega))]⟩
theorem zi_kR_0 {r : g_St} {k : Nat} {v : Int32} (h : k ≠ 1 ∧ k ≠ 22 ∧ k ≠ 39) : zi_kR r (g_sI r 0 k v) :=
  ⟨fun id q => z_sI_f (by omega), z_sI_k (by omega), z_sI_k (by omega), z_sI_k (by omega)⟩
theorem zk_R_k {L : zl_T} {U : zu_T} {W : zw_T} {r r2 : g_St} (h : zk_R L U W r) (hz : zi_kR r r2) : zk_R L U W r2 := by
  obtain ⟨h1, h2, h3⟩ := h
  obtain ⟨e, e1, e22, e39⟩ := hz
  unfold zk_R zl_R zu_R zw_R at *
  rw [e22, e39, e 2 (by omega), e 3 (by omega), e 4 (by omega), e 8 (by omega), e 9 (by omega), e 10 (by omega), e 11 (by omega), e 12 (by omega), e 13 (by omega), e 14 (by omega), e 15 (by omega), e 16 (by omega), e 29 (by omega), e 30 (by omega), e 31 (by omega), e 32 (by omega), e 33 (by omega), e 34 (by omega), e 35 (by omega), e 36 (by omega)]
  exact ⟨h1, h2, h3⟩
theorem zi_R {L : zl_T} {U : zu_T} {W : zw_T} {c r r2 : g_St} (h : zi_I L U W c r) (hz : zi_kR r r2) : zi_I L U W c r2 := by
  obtain ⟨ho, how, hC, hR, hq, hT, hM, hca⟩ := h
  refine ⟨ho, how, hC, zk_R_k hR hz, hq, ?_, ?_, hca⟩
  · unfold zt_I at *; rw [hz.2.1, hz.1 1 (by omega)]; exact hT
  · unfold zi_m zw_M at *; rw [hz.1 47 (by omega), hz.1 48 (by omega)]; exact hM
/-- what of the class's state is kept; the rounds are told apart -/
def zi_kC (c c2 : g_St) : Prop := (∀ id, ((1 ≤ id ∧ id < 70 ∧ id ≠ 56 ∧ id ≠ 60) ∨ 100 < id) → c2.1 id = c.1 id) ∧ c2.2 = c.2 ∧ c2.1 0 7 = c.1 0 7
theorem zi_kC_f {c c2 : g_St} {P : Nat → Prop} (h : z_f P c c2) (hP : ∀ id, (id < 70 ∧ id ≠ 56 ∧ id ≠ 60) ∨ 100 < id → P id) : zi_kC c c2 :=
  ⟨fun id q => h.1 id (hP id (by omega)), h.2, by rw [h.1 0 (hP 0 (by omega))]⟩
theorem zi_kC_refl {c : g_St} : zi_kC c c := ⟨fun _ _ => rfl, rfl, rfl⟩
theorem zi_kC_trans {c c2 c3 : g_St} (h : zi_kC c c2) (h2 : zi_kC c2 c3) : zi_kC c c3 :=
  ⟨fun id q => by rw [h2.1 id q, h.1 id q], by rw [h2.2.1, h.2.1], by rw [h2.2.2, h.2.2]⟩
theorem zi_kC_14 {c : g_St} {v : Int32} : zi_kC c (g_sI c 0 14 v) := ⟨fun id q => z_sI_f (by omega), rfl, z_sI_k (by omega)⟩
theorem zk_C_k {L : zl_T} {U : zu_T} {W : zw_T} {c c2 : g_St} (h : zk_C L U W c) (ho : zl_ok L) (hz : zi_kC c c2) : zk_C L U W c2 := by
  have hb := h.2.1
  unfold g_isRule at hb
  obtain ⟨h1, h2, h3, h4, h5⟩ := h
  have b1 := h1
  unfold g_isLand at b1
  unfold zk_C
  rw [hz.2.1]
  refine ⟨h1, h2, ?_, ?_, zw_C_f h5 (fun k hk => hz.1 _ (by omega))⟩
  · obtain ⟨q1, q2, q3, q4, q5, q6⟩ := h3
    have h8 := ho.2.2.1
    have h5' := ho.1
    refine ⟨by rw [hz.1 _ (by omega), q1], by rw [hz.1 _ (by omega), q2], by rw [hz.1 _ (by omega), q3], fun x y hx hy => ?_, fun g hg => ?_, fun p hp => ⟨?_, ?_, fun j hj => ?_⟩⟩
    · rw [hz.1 _ (by omega), q4 x y hx hy]
    · rw [hz.1 _ (by omega), hz.1 _ (by omega)]; exact q5 g hg
    · rw [hz.1 _ (by omega)]; exact (q6 p hp).1
    · rw [hz.1 _ (by omega)]; exact (q6 p hp).2.1
    · rw [hz.1 _ (by omega)]; exact (q6 p hp).2.2 j hj
  · unfold zu_C at *
    rw [hz.1 (c.2.2 2) (by omega), hz.1 (c.2.2 2 + 2) (by omega), hz.1 (c.2.2 2 + 1) (by omega)]
    exact h4
theorem zi_C {L : zl_T} {U : zu_T} {W : zw_T} {c c2 r : g_St} (h : zi_I L U W c r) (hz : zi_kC c c2) (hca2 : zi_ca L U W c2) : zi_I L U W c2 r := by
  obtain ⟨ho, how, hC, hR, hq, hT, hM, hca⟩ := h
  refine ⟨ho, how, zk_C_k hC ho hz, hR, ?_, ?_, ?_, hca2⟩
  · unfold zi_q at *; rw [hz.2.1]; exact hq
  · unfold zt_I at *; rw [hz.1 1 (by omega), hz.1 3 (by omega), hz.2.1]; exact hT
  · obtain ⟨ld, m1, m2, m3⟩ := hM
    refine ⟨ld, m1, by rw [hz.2.2, m2], fun m hm => ⟨(m3 m hm).1, fun hb => ?_⟩⟩
    obtain ⟨W2, w1, w2, w3⟩ := (m3 m hm).2 hb
    exact ⟨W2, w1, zw_C_f w2 (fun k hk => hz.1 _ (by omega)), w3⟩
theorem zr_C_f {X : zx_T} {A br : Nat} {c c2 : g_St} (h : zr_C X A br c) (e : ∀ k, 5 < k → k < 10 → c2.1 (br + k) = c.1 (br + k)) : zr_C X A br c2 := by
  obtain ⟨b, h1, h2, h3⟩ := h
  refine ⟨b, h1, ?_, ?_⟩
  · unfold zb_B at *; rw [e 6 (by omega) (by omega)]; exact h2
  · unfold zm_C at *; rw [e 7 (by omega) (by omega), e 8 (by omega) (by omega), e 9 (by omega) (by omega)]; exact h3
theorem zi_ca_f {L : zl_T} {U : zu_T} {W : zw_T} {c c2 : g_St} (h : zi_ca L U W c) (e0 : c2.1 0 14 = c.1 0 14) (e : ∀ id, 76 < id → id < 81 → c2.1 id = c.1 id) : zi_ca L U W c2 := by
  unfold zi_ca at *
  rw [e0]
  exact h.imp id (fun q => ⟨q.1, zr_C_f q.2 (fun k h1 h2 => e _ (by omega) (by omega))⟩)
/-- the small questions -/
theorem zo_n {L : zl_T} {c : g_St} (hC : zl_C L c (c.2.2 0)) (hl : g_isLand (c.2.2 0)) : g_ql c 0 = some (c.2.2 0) := z_ql hl
theorem zo_place {L : zl_T} {U : zu_T} {W : zw_T} {c r : g_St} (h : zi_I L U W c r) {v : Int32} : (z_is v (zl_pl L) → oo_isPlace c v = some (nI 1) ∧ mm_isPlace r v = some (nI 1)) ∧ (¬ z_is v (zl_pl L) → oo_isPlace c v = some (nI 0) ∧ mm_isPlace r v = some (nI 0)) := by
  obtain ⟨ho, how, hC, hR, -⟩ := h
  have h5 := ho.1
  refine ⟨?_, fun hv => ?_⟩
  · rintro ⟨j, hj, rfl⟩
    unfold oo_isPlace mm_isPlace
    simp (disch := omega) only [nI_lit, z_le, Nat.zero_le, if_true, z_ql hC.1, z_sbind, hC.2.2.1.1, z_rd, hR.1.1, z_lt, hj]
    exact ⟨trivial, trivial⟩
  · unfold oo_isPlace mm_isPlace
    simp (disch := omega) only [nI_lit, z_ql hC.1, z_sbind, hC.2.2.1.1, z_rd, hR.1.1]
    exact ⟨z_ask (by omega) hv, z_ask (by omega) hv⟩
theorem zo_good {L : zl_T} {U : zu_T} {W : zw_T} {c r : g_St} (h : zi_I L U W c r) {v : Int32} : (z_is v (zl_gd L) → oo_isGood c v = some (nI 1) ∧ mm_isGood r v = some (nI 1)) ∧ (¬ z_is v (zl_gd L) → oo_isGood c v = some (nI 0) ∧ mm_isGood r v = some (nI 0)) := by
  obtain ⟨ho, how, hC, hR, -⟩ := h
  have h5 := ho.2.1
  refine ⟨?_, fun hv => ?_⟩
  · rintro ⟨j, hj, rfl⟩
    unfold oo_isGood mm_isGood
    simp (disch := omega) only [nI_lit, z_le, Nat.zero_le, if_true, z_ql hC.1, z_sbind, hC.2.2.1.2.1, z_rd, hR.1.2.1, z_lt, hj]
    exact ⟨trivial, trivial⟩
  · unfold oo_isGood mm_isGood
    simp (disch := omega) only [nI_lit, z_ql hC.1, z_sbind, hC.2.2.1.2.1, z_rd, hR.1.2.1]
    exact ⟨z_ask (by omega) hv, z_ask (by omega) hv⟩
theorem zo_person {L : zl_T} {U : zu_T} {W : zw_T} {c r : g_St} (h : zi_I L U W c r) {v : Int32} : (z_is v (zl_pp L) → oo_isPerson c v = some (nI 1) ∧ mm_isPerson r v = some (nI 1)) ∧ (¬ z_is v (zl_pp L) → oo_isPerson c v = some (nI 0) ∧ mm_isPerson r v = some (nI 0)) := by
  obtain ⟨ho, how, hC, hR, -⟩ := h
  have h5 := ho.2.2.1
  refine ⟨?_, fun hv => ?_⟩
  · rintro ⟨j, hj, rfl⟩
    unfold oo_isPerson mm_isPerson
    simp (disch := omega) only [nI_lit, z_le, Nat.zero_le, if_true, z_ql hC.1, z_sbind, hC.2.2.1.2.2.1, z_rd, hR.1.2.2.1, z_lt, hj]
    exact ⟨trivial, trivial⟩
  · unfold oo_isPerson mm_isPerson
    simp (disch := omega) only [nI_lit, z_ql hC.1, z_sbind, hC.2.2.1.2.2.1, z_rd, hR.1.2.2.1]
    exact ⟨z_ask (by omega) hv, z_ask (by omega) hv⟩
theorem zo_all {L : zl_T} {U : zu_T} {W : zw_T} {c : g_St} (ho : zl_ok L) (hC : zk_C L U W c) : oo_everybody c = some (nI (zv_all L)) := by
  have h8 := ho.2.2.1
  have h28 : (2 : Nat) ^ zl_pp L ≤ 256 := Nat.pow_le_pow_right (by omega) h8 (n := 2)
  have h20 : 0 < (2 : Nat) ^ zl_pp L := Nat.two_pow_pos _
  unfold oo_everybody zv_all
  rw [z_ql hC.1, z_sbind, hC.2.2.1.2.2.1]
  simp (disch := omega) only [nI_lit, z_and, z_or, z_xor, z_n31, z_shr, z_shl1, z_bit_and, z_andn, z_sub]
theorem zo_set {L : zl_T} {U : zu_T} {W : zw_T} {c r : g_St} (h : zi_I L U W c r) {v : Int32} : (z_is v (2 ^ zl_pp L) → oo_isSet c v = some (nI 1) ∧ mm_areThem r v = some (nI 1)) ∧ (¬ z_is v (2 ^ zl_pp L) → oo_isSet c v = some (nI 0) ∧ mm_areThem r v = some (nI 0)) := by
  have ho := h.1
  have h8 := ho.2.2.1
  have h28 : (2 : Nat) ^ zl_pp L ≤ 256 := Nat.pow_le_pow_right (by omega) h8 (n := 2)
  have h20 : 0 < (2 : Nat) ^ zl_pp L := Nat.two_pow_pos _
  have ha := zo_all ho h.2.2.1
  have hR := h.2.2.2.1
  refine ⟨?_, fun hv => ?_⟩
  · rintro ⟨j, hj, rfl⟩
    have hja : j ≤ zv_all L := by unfold zv_all; omega
    have hal : zv_all L < 256 := by unfold zv_all; omega
    unfold oo_isSet mm_areThem
    rw [ha]
    simp (disch := omega) only [nI_lit, z_le, Nat.zero_le, if_true, z_sbind, hja, z_rd, hR.1.2.2.1, z_and, z_or, z_xor, z_n31, z_shr, z_shl1, z_bit_and, z_andn, z_lt, hj]
    exact ⟨trivial, trivial⟩
  · unfold oo_isSet mm_areThem
    rw [ha]
    have hal : zv_all L < 256 := by unfold zv_all; omega
    simp (disch := omega) only [nI_lit, z_sbind, z_rd, hR.1.2.2.1, z_and, z_or, z_xor, z_n31, z_shr, z_shl1, z_bit_and, z_andn]
    refine ⟨?_, z_ask (by omega) hv⟩
    by_cases h0 : nI 0 ≤ v
    · rw [if_pos h0, if_neg]
      intro h1
      obtain ⟨j, hj, rfl⟩ := nI_of (x := v) (by rw [Int32.lt_iff_toInt_lt]; have := h0; rw [Int32.le_iff_toInt_le, nI_toInt (by omega)] at this; show ¬ v.toInt < 0; omega)
      rw [z_le (by omega) (by omega)] at h1
      exact hv ⟨j, by unfold zv_all at h1; omega, rfl⟩
    · rw [if_neg h0]
theorem zo_two {L : zl_T} {U : zu_T} {W : zw_T} {c r : g_St} (h : zi_I L U W c r) {v w : Int32} : (z_is v (zl_pp L) ∧ z_is w (zl_pp L) ∧ v ≠ w → oo_areTwo c v w = some (nI 1)) ∧ (¬ (z_is v (zl_pp L) ∧ z_is w (zl_pp L) ∧ v ≠ w) → oo_areTwo c v w = some (nI 0)) := by
  have p1 := zo_person h (v := v)
  have p2 := zo_person h (v := w)
  have e1 : ¬ (nI 1 = (0 : Int32)) := by decide
  have e0 : nI 0 = (0 : Int32) := rfl
  unfold oo_areTwo
  by_cases hv : z_is v (zl_pp L)
  · rw [(p1.1 hv).1, z_sbind, if_neg e1]
    by_cases hw : z_is w (zl_pp L)
    · rw [(p2.1 hw).1, z_sbind, if_neg e1]
      by_cases e : v = w
      · rw [if_pos e]; exact ⟨fun q => absurd e q.2.2, fun _ => rfl⟩
      · rw [if_neg e]; exact ⟨fun _ => rfl, fun q => absurd ⟨hv, hw, e⟩ q⟩
    · rw [(p2.2 hw).1, z_sbind, if_pos e0]; exact ⟨fun q => absurd q.2.1 hw, fun _ => rfl⟩
  · rw [(p1.2 hv).1, z_sbind, if_pos e0]; exact ⟨fun q => absurd q.1 hv, fun _ => rfl⟩
theorem zo_thing {L : zl_T} {U : zu_T} {W : zw_T} {c r : g_St} (h : zi_I L U W c r) {v : Int32} : (z_is v (zw_n W) → oo_isThing c v = some (nI 1)) ∧ (¬ z_is v (zw_n W) → oo_isThing c v = some (nI 0)) := by
  obtain ⟨ho, how, hC, hR, -⟩ := h
  have h5 := how.1
  have hn := hC.2.2.2.2.1
  refine ⟨?_, fun hv => ?_⟩
  · rintro ⟨j, hj, rfl⟩
    unfold oo_isThing
    simp (disch := omega) only [nI_lit, z_le, Nat.zero_le, if_true, hn, z_lt, hj]
  · unfold oo_isThing
    rw [hn]
    exact z_ask (by omega) hv
