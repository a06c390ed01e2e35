/-! Layer 2: COUNT, LIFT -/
theorem zw_by_all {L : zl_T} {W : zw_T} (how : zw_ok L W) : z_sum (fun p => zw_by W (p + 1) (zw_n W)) (zl_pp L) + zw_by W 0 (zw_n W) = zw_n W := by
  have e : z_sum (fun p => zw_by W (p + 1) (zw_n W)) (zl_pp L) = z_sum (fun t => z_sum (fun p => if zw_ho W t = p + 1 then 1 else 0) (zl_pp L)) (zw_n W) := by
    unfold zw_by; exact z_sum_swap _ _ _
  have e2 : zw_by W 0 (zw_n W) = z_sum (fun t => if zw_ho W t = 0 then 1 else 0) (zw_n W) := rfl
  rw [e, e2, ← z_sum_add]
  have e3 : z_sum (fun t => z_sum (fun p => if zw_ho W t = p + 1 then 1 else 0) (zl_pp L) + (if zw_ho W t = 0 then 1 else 0)) (zw_n W) = z_sum (fun _ => 1) (zw_n W) := by
    refine z_sum_congr (fun t ht => ?_)
    have := (how.2.2.1 t ht).2.2.2.1
    by_cases h0 : zw_ho W t = 0
    · rw [if_pos h0, z_sum_zero (fun p _ => if_neg (by omega))]
    · rw [if_neg h0]
      obtain ⟨k, hk⟩ : ∃ k, zw_ho W t = k + 1 := ⟨zw_ho W t - 1, by omega⟩
      rw [hk]
      have : z_sum (fun p => if k + 1 = p + 1 then 1 else 0) (zl_pp L) = z_sum (fun p => if k = p then 1 else 0) (zl_pp L) := by
        refine z_sum_congr (fun p _ => ?_)
        by_cases q : k = p
        · rw [if_pos q, if_pos (by omega)]
        · rw [if_neg q, if_neg (by omega)]
      rw [this, z_sum_one (by omega)]
  rw [e3]
  have e4 : ∀ n, z_sum (fun _ => 1) n = n := by
    intro n
    induction n with
    | zero => rfl
    | succ n ih => show z_sum (fun _ => 1) n + 1 = n + 1; rw [ih]
  exact e4 _
def zw_haps (L : zl_T) (W : zw_T) (n : Nat) : Nat := z_sum (fun p => zw_hap L W p (zl_gd L)) n
theorem zo_C_haps {L : zl_T} {U : zu_T} {W : zw_T} {c : g_St} {F : Nat} (hC : zk_C L U W c) (ho : zl_ok L) (how : zw_ok L W) (hF : 50 < F) : oo_happyOfAll F c = some (nI (zw_haps L W (zl_pp L))) := by
  have h8 := ho.2.2.1
  unfold oo_happyOfAll
  refine z_cnt0 (n := zl_pp L) (A := fun f i => oo_happyOfAll_4 F c f (nI (zw_haps L W i)) (nI i)) (fun f i hi => ?_) (fun f => ?_) (by omega)
  · show oo_happyOfAll_4_b F c _ (nI (zw_haps L W i)) (nI i) = oo_happyOfAll_4 F c f (nI (zw_haps L W (i + 1))) (nI (i + 1))
    unfold oo_happyOfAll_4_b
    rw [z_ql hC.1, z_sbind, hC.2.2.1.2.2.1, if_pos (nI_lt hi (by omega)), zo_C_happy hC ho how hi hF, z_sbind, nI_add, nI_1]
    rfl
  · show oo_happyOfAll_4_b F c _ (nI (zw_haps L W (zl_pp L))) (nI (zl_pp L)) = _
    unfold oo_happyOfAll_4_b
    rw [z_ql hC.1, z_sbind, hC.2.2.1.2.2.1, if_neg (by rw [z_lt (by omega) (by omega)]; omega)]
def zo_cnt (L : zl_T) (U : zu_T) (W : zw_T) (n k : Nat) : Int32 := if k = 0 then nI (zl_pl L) else if k = 1 then nI (zl_gd L) else if k = 2 then nI (zl_pp L) else if k = 3 then nI (zw_n W) else if k = 4 then nI (z_sum (fun p => zw_by W (p + 1) (zw_n W)) (zl_pp L)) else if k = 5 then nI U.1 else if k = 6 then nI n else nI (zw_haps L W (zl_pp L))
theorem zo_R_cnt {L : zl_T} {U : zu_T} {W : zw_T} {c r : g_St} {F n k : Nat} (h : zi_I L U W c r) (hm : ∀ p g, p < 8 → g < 6 → r.1 37 (6 * p + g) = nI (zw_held W p g (zw_n W))) (hn : r.1 0 1 = nI n) (hk : k < 8) (hF : 50 < F) : mm_count_28 F (nI k) F 0 0 0 r = some (zo_cnt L U W n k, r) := by
  have ho := h.1
  have how := h.2.1
  have h8 := ho.2.2.1
  have hR := h.2.2.2.1
  refine z_cnt0 (n := zl_pp L) (A := fun f i => mm_count_28 F (nI k) f (nI (z_sum (fun p => zw_by W (p + 1) (zw_n W)) i)) (nI (zw_haps L W i)) (nI i) r) (fun f i hi => ?_) (fun f => ?_) (by omega)
  · show mm_count_28_b F (nI k) _ (nI (z_sum (fun p => zw_by W (p + 1) (zw_n W)) i)) (nI (zw_haps L W i)) (nI i) r = mm_count_28 F (nI k) f (nI (z_sum (fun p => zw_by W (p + 1) (zw_n W)) (i + 1))) (nI (zw_haps L W (i + 1))) (nI (i + 1)) r
    unfold mm_count_28_b
    rw [show g_rd r 4 2 (0 : Int32) = some (r.1 4 0) from z_rd (i := 0) (by omega) (by omega), z_sbind, hR.1.2.2.1, if_pos (nI_lt hi (by omega)), zw_R_by hm ho.2.1 how (by omega) hF, z_sbind, zw_R_happy hR.1 hm ho how hi hF, z_sbind, nI_add, nI_add, nI_1]
    rfl
  · show mm_count_28_b F (nI k) _ (nI (z_sum (fun p => zw_by W (p + 1) (zw_n W)) (zl_pp L))) (nI (zw_haps L W (zl_pp L))) (nI (zl_pp L)) r = _
    unfold mm_count_28_b zo_cnt
    rw [show g_rd r 4 2 (0 : Int32) = some (r.1 4 0) from z_rd (i := 0) (by omega) (by omega), show g_rd r 3 2 (0 : Int32) = some (r.1 3 0) from z_rd (i := 0) (by omega) (by omega), show g_rd r 2 2 (0 : Int32) = some (r.1 2 0) from z_rd (i := 0) (by omega) (by omega), z_sbind, z_sbind, z_sbind, z_sbind, hR.1.2.2.1, if_neg (by rw [z_lt (by omega) (by omega)]; omega), hR.1.2.1, hR.1.1, hR.2.2.1, hR.2.1.2.1, hn]
    rcases (by omega : k = 0 ∨ k = 1 ∨ k = 2 ∨ k = 3 ∨ k = 4 ∨ k = 5 ∨ k = 6 ∨ k = 7) with rfl | rfl | rfl | rfl | rfl | rfl | rfl | rfl <;> rfl
theorem zo_C_cnt {L : zl_T} {U : zu_T} {W : zw_T} {c r : g_St} {F n k : Nat} (h : zi_I L U W c r) (hn : c.1 1 2 = nI n) (hk : k < 8) (hF : 50 < F) : oo_count F c (nI k) = some (zo_cnt L U W n k) := by
  have ho := h.1
  have how := h.2.1
  have h8 := ho.2.2.1
  have hC := h.2.2.1
  have hat : ow_heldAtAll F 61 c = some (nI (z_sum (fun p => zw_by W (p + 1) (zw_n W)) (zl_pp L))) := by
    unfold ow_heldAtAll
    have w0 : c.1 61 0 = nI (zw_n W) := hC.2.2.2.2.1
    have e := zw_by_all how
    rw [show (-1 : Int32) = zE 0 from rfl, zw_C_by hC.2.2.2.2 how (by omega) h8 hF, z_sbind, w0, z_sub (by omega)]
    exact congrArg (fun x => some (nI x)) (by omega)
  have w0 : c.1 61 0 = nI (zw_n W) := hC.2.2.2.2.1
  have hu : c.1 (c.2.2 2) 3 = nI U.1 := hC.2.2.2.1.2.1
  unfold oo_count zo_cnt
  rw [z_ql hC.1, z_qr hC.2.1, hat, zo_C_haps hC ho how hF, z_sbind, z_sbind, z_sbind, z_sbind, z_sbind, z_sbind, hC.2.2.1.1, hC.2.2.1.2.1, hC.2.2.1.2.2.1, w0, hu, hn]
  rcases (by omega : k = 0 ∨ k = 1 ∨ k = 2 ∨ k = 3 ∨ k = 4 ∨ k = 5 ∨ k = 6 ∨ k = 7) with rfl | rfl | rfl | rfl | rfl | rfl | rfl | rfl <;> rfl
theorem zo_count {F : Nat} (hF : 4000 < F) {c r : g_St} (h : zi c r) (v1 : Int32) : zo_p c r (oo_count F c v1) (mm_count F v1 r) := by
  obtain ⟨L, U, W, h⟩ := h
  have h0 := zo_0 h
  have kk : zi_kR r (g_sI r 0 0 0) := zo_k0
  unfold mm_count
  rw [z_sbind]
  generalize g_sI r 0 0 0 = r0 at h0 kk ⊢
  have w := zo_within (μ := r0) (v := v1) (n := 7) (by omega)
  rw [show (7 : Int32) = nI 7 from rfl]
  by_cases b1 : z_is v1 8
  · rw [w.1 b1, z_sbind, if_neg z_e1]
    obtain ⟨k, hk, rfl⟩ := b1
    obtain ⟨r2, e2, h2, k2, -, m2⟩ := zo_counts h0 (F := F) (by omega)
    obtain ⟨n, -, n1, n2, -⟩ := h2.2.2.2.2.2.1
    rw [e2, z_sbind]
    exact zo_p_of h (zo_C_cnt h n1 hk (by omega)) (zo_R_cnt h2 m2 n2 hk (by omega)) (zi_kR_trans kk k2)
  · rw [w.2 b1, z_sbind, if_pos z_e0]
    have hx : ∀ k, k < 8 → v1 ≠ nI k := fun k hk e => b1 ⟨k, hk, e⟩
    have x : oo_count F c v1 = some (-1) := by
      unfold oo_count
      rw [if_neg (show ¬ v1 = (0 : Int32) from hx 0 (by omega)), if_neg (show ¬ v1 = (1 : Int32) from hx 1 (by omega)), if_neg (show ¬ v1 = (2 : Int32) from hx 2 (by omega)), if_neg (show ¬ v1 = (3 : Int32) from hx 3 (by omega)), if_neg (show ¬ v1 = (4 : Int32) from hx 4 (by omega)), if_neg (show ¬ v1 = (5 : Int32) from hx 5 (by omega)), if_neg (show ¬ v1 = (6 : Int32) from hx 6 (by omega)), if_neg (show ¬ v1 = (7 : Int32) from hx 7 (by omega))]
    exact zo_p_of h x rfl kk
/-- LIFT -/
theorem zo_lset {L : zl_T} {U : zu_T} {W : zw_T} {c r : g_St} {g l x : Nat} (h : zi_I L U W c r) (hl : l < 64) (hb : ∀ j, j < 6 → z_bit l j = if j = g then x else z_bit (zw_lf W) j) : zi_I L U (zw_lt W l) (g_sI (g_sI c 61 1 (nI l)) 0 14 0) (g_sI r 36 g (nI x)) := by
  have how := h.2.1
  refine zi_w (W2 := zw_lt W l) h ⟨how.1, hl, how.2.2⟩ ?_ ?_ ?_ ?_ ?_ ?_ ?_ (Or.inl (z_sI_same _ _ _ _))
  · exact z_f_trans (z_f_sI (P := fun id => (1 ≤ id ∧ id < 61) ∨ 68 < id) (by omega)) (z_f_sI (P := fun id => (1 ≤ id ∧ id < 61) ∨ 68 < id) (by omega)) (fun _ q => q) (fun _ q => q)
  · rw [z_sI_k (by omega), z_sI_id (by omega)]
  · have hw0 := h.2.2.1.2.2.2.2
    refine ⟨by rw [z_sI_id (by omega), z_sI_k (by omega)]; exact hw0.1, by rw [z_sI_id (by omega), z_sI_same]; rfl, fun i hi => ?_, fun i hi => ?_⟩
    · simp (disch := omega) only [z_sI_id]; exact hw0.2.2.1 i hi
    · simp (disch := omega) only [z_sI_id]; exact hw0.2.2.2 i hi
  · intro id q; rw [z_sI_f (by omega)]
  · rw [z_sI_id (by omega)]
  · rw [z_sI_id (by omega)]
  · have hw0 := h.2.2.2.1.2.2
    refine ⟨by rw [z_sI_id (by omega)]; exact hw0.1, fun j hj => ?_, fun i hi => ?_, fun i hi => ?_⟩
    · show _ = nI (z_bit l j)
      rw [hb j hj]
      by_cases e : j = g
      · rw [if_pos e, e, z_sI_same]
      · rw [if_neg e, z_sI_k e]; exact hw0.2.1 j hj
    · simp (disch := omega) only [z_sI_id]; exact hw0.2.2.1 i hi
    · simp (disch := omega) only [z_sI_id]; exact hw0.2.2.2 i hi
/-- the class's worth of rounds, the lifted given -/
theorem zo_mostWith {L : zl_T} {U : zu_T} {W : zw_T} {c r : g_St} {F l : Nat} (h : zi_I L U W c r) (hl : l < 64) (hF : 1010 < F) : ∃ br c', 71 ≤ br ∧ oo_mostWith F (nI l) c = some (c'.1 (br + 7) (zv_all L), c') ∧ zi_I L U W c' r ∧ zr_C (zc_X L U W (zv_all L) 0 l) (zv_all L) br c' := by
  have ho := h.1
  have how := h.2.1
  have hC := h.2.2.1
  have hal := zv_all_lt ho
  have hbu := hC.2.1
  unfold g_isRule at hbu
  have e31 : ∃ br c', 71 ≤ br ∧ oo_mostWith_31 F (nI l) c = some (c'.1 (br + 7) (zv_all L), c') ∧ zi_I L U W c' r ∧ zr_C (zc_X L U W (zv_all L) 0 l) (zv_all L) br c' := by
    obtain ⟨c2, hc2, n1, n2⟩ := zc_find (F := F) (A := zv_all L) (ds := 0) (br := 81) (lf := l) hC ho how (by omega) hal (by omega) hl hF
    have kC : zi_kC c c2 := zi_kC_f n1 (fun id q => by unfold zc_id; omega)
    have h2 : zi_I L U W c2 r := zi_C h kC (zi_ca_f h.2.2.2.2.2.2.2 (by rw [n1.1 0 (by unfold zc_id; omega)]) (fun id q1 q2 => n1.1 id (by unfold zc_id; omega)))
    refine ⟨81, c2, by omega, ?_, h2, n2⟩
    have hc2 : oo_findRounds F 81 (nI (zv_all L)) 0 (nI l) c = some c2 := hc2
    unfold oo_mostWith_31
    rw [zo_all ho hC, z_sbind, hc2, z_sbind, zo_all ho h2.2.2.1, z_sbind, z_rd (by omega) (by omega), z_sbind]
  unfold oo_mostWith
  rcases h.2.2.2.2.2.2.2 with h14 | ⟨h14, hr⟩
  · rw [h14, if_pos z_e0]; exact e31
  · have w1 : c.1 61 1 = nI (zw_lf W) := hC.2.2.2.2.2.1
    have hlf := how.2.1
    rw [h14, if_neg z_e1, w1]
    by_cases e : l = zw_lf W
    · rw [if_pos (by rw [e])]
      refine ⟨71, c, by omega, ?_, h, by rw [e]; exact hr⟩
      rw [zo_all ho hC, z_sbind, z_rd (by omega) (by omega), z_sbind]
    · rw [if_neg (by rw [z_eq (by omega) (by omega)]; exact e)]; exact e31
theorem zo_lift {F : Nat} (hF : 4000 < F) {c r : g_St} (h : zi c r) (v1 : Int32) : zo_s c r (oo_lift F v1 c) (mm_lift F v1 r) := by
  obtain ⟨L, U, W, h⟩ := h
  have h0 := zo_0 h
  have ho := h.1
  have how := h.2.1
  have h6 := ho.2.1
  have h8 := ho.2.2.1
  have hlf := how.2.1
  have hal := zv_all_lt ho
  have h28 := zo_p28 ho
  have h20 : 0 < (2 : Nat) ^ zl_pp L := Nat.two_pow_pos _
  unfold oo_lift mm_lift
  rw [z_sbind]
  generalize g_sI r 0 0 0 = r0 at h0 ⊢
  have p1 := zo_good h (v := v1)
  have q1 := zo_good h0 (v := v1)
  by_cases b1 : z_is v1 (zl_gd L)
  · rw [(p1.1 b1).1, (q1.1 b1).2, z_sbind, z_sbind, if_neg z_e1, if_neg z_e1]
    obtain ⟨g, hg, rfl⟩ := b1
    have hg2 : (2 : Nat) ^ g < 64 := Nat.pow_lt_pow_right (n := 6) (by omega) (by omega)
    have l1 : zw_lf W ||| 2 ^ g < 64 := Nat.or_lt_two_pow (n := 6) hlf hg2
    have l2 : zw_lf W ^^^ (zw_lf W &&& 2 ^ g) < 64 := Nat.xor_lt_two_pow (n := 6) hlf (Nat.lt_of_le_of_lt Nat.and_le_left hlf)
    have t1 : ∀ j, j < 6 → z_bit (zw_lf W ||| 2 ^ g) j = if j = g then 1 else z_bit (zw_lf W) j := by
      intro j hj
      rw [z_bit_tb, z_bit_tb, Nat.testBit_or, Nat.testBit_two_pow]
      by_cases e : j = g
      · subst e; rw [if_pos rfl, decide_eq_true rfl, Bool.or_true]; rfl
      · rw [if_neg e, decide_eq_false (fun q => e q.symm), Bool.or_false]
    have t2 : ∀ j, j < 6 → z_bit (zw_lf W ^^^ (zw_lf W &&& 2 ^ g)) j = if j = g then 0 else z_bit (zw_lf W) j := by
      intro j hj
      rw [z_bit_tb, z_bit_tb, Nat.testBit_xor, Nat.testBit_and, Nat.testBit_two_pow]
      by_cases e : j = g
      · subst e; rw [if_pos rfl, decide_eq_true rfl]; cases (zw_lf W).testBit j <;> rfl
      · rw [if_neg e, decide_eq_false (fun q => e q.symm)]; cases (zw_lf W).testBit j <;> rfl
    -- the class
    have w1 : c.1 61 1 = nI (zw_lf W) := h.2.2.1.2.2.2.2.2.1
    obtain ⟨br1, c1, g1, x1, i1, z1⟩ := zo_mostWith (F := F) h0 l1 (by omega)
    have w2 : c1.1 61 1 = nI (zw_lf W) := i1.2.2.1.2.2.2.2.2.1
    obtain ⟨br2, c2, g2, x2, i2, z2⟩ := zo_mostWith (F := F) i1 l2 (by omega)
    have xc : (oo_mostWith F ((c.1 61 1) ||| ((1 : Int32) <<< (nI g &&& 31))) c).bind (fun q2 => (oo_mostWith F ((q2.2.1 61 1) &&& (((1 : Int32) <<< (nI g &&& 31)) ^^^ (-1 : Int32))) q2.2).bind fun q3 => (some ((q2.1 - q3.1), q3.2))) = some (c1.1 (br1 + 7) (zv_all L) - c2.1 (br2 + 7) (zv_all L), c2) := by
      have eg : (1 : Int32) <<< (nI g &&& 31) = nI (2 ^ g) := by rw [show (31 : Int32) = nI 31 from rfl, z_and, z_n31 (by omega), show (1 : Int32) = nI 1 from rfl, z_shl1 (by omega)]
      rw [eg, w1, z_or, x1, z_sbind, w2, show (-1 : Int32) = -nI 1 from rfl, z_andn, x2, z_sbind]
    rw [xc]
    -- the reference
    have r36 : r0.1 36 g = nI (z_bit (zw_lf W) g) := h0.2.2.2.1.2.2.2.1 g (by omega)
    have s1 := zo_lset h0 l1 t1
    obtain ⟨r7, e7, n1, f1⟩ := zr_works (F := F) (ds := 0) s1.2.2.2.1 ho s1.2.1 (by omega) (by omega)
    have s7 : zi_I L U (zw_lt W (zw_lf W ||| 2 ^ g)) _ r7 := zi_R s1 (zi_kR_f n1 (fun id q => by unfold zr_id; omega))
    have s2 := zo_lset (l := zw_lf W ^^^ (zw_lf W &&& 2 ^ g)) (x := 0) (g := g) s7 l2 (fun j hj => by
      rw [t2 j hj]
      by_cases e : j = g
      · rw [if_pos e, if_pos e]
      · rw [if_neg e, if_neg e]; show _ = z_bit (zw_lf W ||| 2 ^ g) j; rw [t1 j hj, if_neg e])
    obtain ⟨r10, e10, n2, f2⟩ := zr_works (F := F) (ds := 0) s2.2.2.2.1 ho s2.2.1 (by omega) (by omega)
    have e7 : mm_works F 0 (g_sI r0 36 g (nI 1)) = some r7 := e7
    have e10 : mm_works F 0 (g_sI r7 36 g (nI 0)) = some r10 := e10
    have kR : zi_kR r0 (g_sI r10 36 g (r0.1 36 g)) := by
      have ne : ∀ id, zr_id id → id ≠ 36 → (g_sI r10 36 g (r0.1 36 g)).1 id = r0.1 id := by
        intro id q1 q2
        rw [z_sI_f q2, n2.1 id q1, z_sI_f q2, n1.1 id q1, z_sI_f q2]
      refine ⟨fun id q => ?_, ?_, ?_, ?_⟩
      · by_cases e : id = 36
        · subst e
          funext j
          by_cases e2 : j = g
          · subst e2; rw [z_sI_same]
          · rw [z_sI_k e2, n2.1 36 (by unfold zr_id; omega), z_sI_k e2, n1.1 36 (by unfold zr_id; omega), z_sI_k e2]
        · exact ne id (by unfold zr_id; omega) e
      · rw [ne 0 (by unfold zr_id; omega) (by omega)]
      · rw [ne 0 (by unfold zr_id; omega) (by omega)]
      · rw [ne 0 (by unfold zr_id; omega) (by omega)]
    have fin : zi_I L U W c2 (g_sI r10 36 g (r0.1 36 g)) := zi_R i2 kR
    have f1' : zr_R (zc_X L U W 255 0 (zw_lf W ||| 2 ^ g)) (zl_pp L) r7 := by
      rw [zc_X_congr (W := W) (W2 := zw_lt W (zw_lf W ||| 2 ^ g)) rfl rfl rfl rfl rfl] at f1; exact f1
    have f2' : zr_R (zc_X L U W 255 0 (zw_lf W ^^^ (zw_lf W &&& 2 ^ g))) (zl_pp L) r10 := by
      rw [zc_X_congr (W := W) (W2 := zw_lt (zw_lt W (zw_lf W ||| 2 ^ g)) (zw_lf W ^^^ (zw_lf W &&& 2 ^ g))) rfl rfl rfl rfl rfl] at f2; exact f2
    obtain ⟨b, -, -, -, b4, b5⟩ := zr_same hal z1 f1'
    obtain ⟨d, -, -, -, d4, d5⟩ := zr_same hal z2 f2'
    have ha2 : zv_all L < 2 ^ zl_pp L := by unfold zv_all; omega
    have m1 : r7.1 42 (zv_all L) = _ := (b4 _ ha2).1
    have m2 : r10.1 42 (zv_all L) = _ := (d4 _ ha2).1
    have k1 : c1.1 (br1 + 7) (zv_all L) = _ := (b5 _ hal (z_in_self _)).1
    have k2 : c2.1 (br2 + 7) (zv_all L) = _ := (d5 _ hal (z_in_self _)).1
    have nz1 : g_nz (1 : Int32) = nI 1 := rfl
    have nz0 : g_nz (0 : Int32) = nI 0 := rfl
    have nzx : g_nz (r0.1 36 g) = r0.1 36 g := by
      rw [r36]
      have := z_bit_lt (zw_lf W) g
      rcases (by omega : z_bit (zw_lf W) g = 0 ∨ z_bit (zw_lf W) g = 1) with e | e <;> rw [e] <;> rfl
    have e4 : r0.1 4 0 = nI (zl_pp L) := h0.2.2.2.1.1.2.2.1
    have eal : ((1 : Int32) <<< (nI (zl_pp L) &&& 31)) - (1 : Int32) = nI (zv_all L) := by
      rw [show (31 : Int32) = nI 31 from rfl, z_and, z_n31 (by omega), show (1 : Int32) = nI 1 from rfl, z_shl1 (by omega), z_sub (by omega)]
      rfl
    rw [z_rd (by omega) (by omega), z_sbind, show g_rd r0 4 2 (0 : Int32) = some (r0.1 4 0) from z_rd (i := 0) (by omega) (by omega), z_sbind, z_sbind, e4, eal, z_wr (by omega) (by omega), z_sbind, nz1, e7, z_sbind, z_rd (by omega) (by omega), z_sbind, z_wr (by omega) (by omega), z_sbind, nz0, e10, z_sbind, z_wr (by omega) (by omega), z_sbind, nzx, z_rd (by omega) (by omega), z_sbind, z_sI_id (by omega), m1, m2, k1, k2]
    exact zo_s_of rfl rfl fin
  · rw [(p1.2 b1).1, (q1.2 b1).2, z_sbind, z_sbind, if_pos z_e0, if_pos z_e0]; exact zo_s_of rfl rfl h0
