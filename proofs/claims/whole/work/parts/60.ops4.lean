/-! Layer 2: GIVE, LIFTED, what is counted -/
def zw_gv (W : zw_T) (p q t h : Nat) : zw_T := (W.1, W.2.1, W.2.2.1, W.2.2.2.1, (fun i => if i = t then q + 1 else zw_ho W i), W.2.2.2.2.2.1, (fun i => if i = p ∨ i = q then h else zw_ck W i), W.2.2.2.2.2.2.2)
theorem zo_give {F : Nat} (hF : 4000 < F) {c r : g_St} (h : zi c r) (v1 v2 v3 : Int32) : zo_s c r (oo_give F v1 v2 v3 c) (mm_give F v1 v2 v3 r) := by
  obtain ⟨L, U, W, h⟩ := h
  have h0 := zo_0 h
  have ho := h.1
  have how := h.2.1
  have h5 := ho.1
  have h8 := ho.2.2.1
  have h40 := how.1
  unfold oo_give mm_give
  rw [z_sbind]
  generalize g_sI r 0 0 0 = r0 at h0 ⊢
  have two := zo_two h (v := v1) (w := v2)
  have q1 := zo_person h0 (v := v1)
  have q2 := zo_person h0 (v := v2)
  have t3 := zo_thing h (v := v3)
  have rn := h0.2.2.2.1.2.2.1
  by_cases b1 : z_is v1 (zl_pp L)
  · rw [(q1.1 b1).2, z_sbind, if_neg z_e1]
    by_cases b2 : z_is v2 (zl_pp L)
    · rw [(q2.1 b2).2, z_sbind, if_neg z_e1]
      by_cases e : v1 = v2
      · rw [two.2 (fun q => q.2.2 e), z_sbind, if_pos z_e0, if_pos e]; exact zo_s_of rfl rfl h0
      · rw [two.1 ⟨b1, b2, e⟩, z_sbind, if_neg z_e1, if_neg e, rn]
        by_cases b3 : z_is v3 (zw_n W)
        · rw [t3.1 b3, z_sbind, if_neg z_e1]
          obtain ⟨p, hp, rfl⟩ := b1
          obtain ⟨q, hq, rfl⟩ := b2
          obtain ⟨t, ht, rfl⟩ := b3
          have hpq : p ≠ q := fun e2 => e (by rw [e2])
          have cp := (h.2.2.1.2.2.2.2.2.2.2 p hp).2
          have cq := (h.2.2.1.2.2.2.2.2.2.2 q hq).2
          have rp := (h0.2.2.2.1.2.2.2.2.2 p hp).2
          have rq := (h0.2.2.2.1.2.2.2.2.2 q hq).2
          have cp' : c.1 68 p = nI (zw_pc W p) := cp
          have cq' : c.1 68 q = nI (zw_pc W q) := cq
          have op := how.2.2.2 p hp
          have oq := how.2.2.2 q hq
          have ct : c.1 65 t = zE (zw_ho W t) := (h.2.2.1.2.2.2.2.2.2.1 t ht).2.2.2.1
          have rt := (h0.2.2.2.1.2.2.2.2.1 t ht).2.2.2.1
          have ot := how.2.2.1 t ht
          rw [if_pos (nI_pos' (by omega)), if_neg (by rw [z_le (by omega) (by omega)]; omega)]
          simp (disch := omega) only [z_rd, z_sbind, cp', cq', rp, rq, z_eq, ct, rt, zE_n]
          by_cases e2 : zw_pc W p = zw_pc W q
          · rw [if_pos e2, if_pos e2]
            by_cases e3 : zw_ho W t = p + 1
            · rw [if_pos e3, if_pos e3]
              obtain ⟨c2, r2, x1, x2, h2, k2, -⟩ := zo_now h0 (F := F) hp hq ht (by omega)
              rw [x1, x2, z_sbind, z_sbind]
              have ckp := (h2.2.2.1.2.2.2.2.2.2.2 p hp).1
              have ckq := (h2.2.2.1.2.2.2.2.2.2.2 q hq).1
              have ckp' : c2.1 67 p = nI (zw_ck W p) := ckp
              have ckq' : c2.1 67 q = nI (zw_ck W q) := ckq
              have rkp := (h2.2.2.2.1.2.2.2.2.2 p hp).1
              have rkq := (h2.2.2.2.1.2.2.2.2.2 q hq).1
              cases zw_now L U W p q t with
              | false => rw [if_pos (show nI (false).toNat = (0 : Int32) from rfl), if_pos (show nI (false).toNat = (0 : Int32) from rfl)]; exact zo_s_of rfl rfl h2
              | true =>
                rw [if_neg (show ¬ nI (true).toNat = (0 : Int32) from by decide), if_neg (show ¬ nI (true).toNat = (0 : Int32) from by decide)]
                unfold ow_laterClock ow_setClocks
                simp (disch := omega) only [nI_lit, z_rd, z_wr, z_sbind, ckp', ckq', z_sI_id, rkp, rkq, z_max, z_sI_same]
                refine zo_s_of rfl rfl (zi_w (W2 := zw_gv W p q t (max (zw_ck W p) (zw_ck W q))) h2 ?_ ?_ ?_ ?_ ?_ ?_ ?_ ?_ (Or.inl (z_sI_same _ _ _ _)))
                · refine ⟨how.1, how.2.1, fun i hi => ?_, fun i hi => ?_⟩
                  · have := how.2.2.1 i hi
                    refine ⟨this.1, this.2.1, this.2.2.1, ?_, this.2.2.2.2⟩
                    show (if i = t then q + 1 else zw_ho W i) ≤ _
                    split
                    · omega
                    · exact this.2.2.2.1
                  · have := how.2.2.2 i hi
                    refine ⟨?_, this.2⟩
                    show (if i = p ∨ i = q then _ else zw_ck W i) ≤ 168
                    split
                    · exact Nat.max_le.mpr ⟨op.1, oq.1⟩
                    · exact this.1
                · have s : ∀ {μ : g_St} {id k : Nat} {v : Int32}, ¬ ((1 ≤ id ∧ id < 61) ∨ 68 < id) → z_f (fun id => (1 ≤ id ∧ id < 61) ∨ 68 < id) μ (g_sI μ id k v) := fun h => z_f_sI h
                  have t : ∀ {μ ν ξ : g_St}, z_f (fun id => (1 ≤ id ∧ id < 61) ∨ 68 < id) μ ν → z_f (fun id => (1 ≤ id ∧ id < 61) ∨ 68 < id) ν ξ → z_f (fun id => (1 ≤ id ∧ id < 61) ∨ 68 < id) μ ξ := fun h1 h2 => z_f_trans h1 h2 (fun _ q => q) (fun _ q => q)
                  exact t (t (t (s (by omega)) (s (by omega))) (s (by omega))) (s (by omega))
                · rw [z_sI_k (by omega), z_sI_id (by omega), z_sI_id (by omega), z_sI_id (by omega)]
                · have hw0 := h2.2.2.1.2.2.2.2
                  refine ⟨by simp (disch := omega) only [z_sI_id]; exact hw0.1, by simp (disch := omega) only [z_sI_id]; exact hw0.2.1, fun i hi => ?_, fun i hi => ?_⟩
                  · have := hw0.2.2.1 i hi
                    have h4 : c2.1 65 i = zE (zw_ho W i) := this.2.2.2.1
                    refine ⟨by simp (disch := omega) only [z_sI_id]; exact this.1, by simp (disch := omega) only [z_sI_id]; exact this.2.1, by simp (disch := omega) only [z_sI_id]; exact this.2.2.1, ?_, by simp (disch := omega) only [z_sI_id]; exact this.2.2.2.2⟩
                    show _ = zE (if i = t then q + 1 else zw_ho W i)
                    rw [z_sI_id (by omega)]
                    by_cases e4 : i = t
                    · rw [if_pos e4, e4, z_sI_same, zE_s]
                    · rw [if_neg e4, z_sI_k e4, z_sI_id (by omega), z_sI_id (by omega)]; exact h4
                  · have := hw0.2.2.2 i hi
                    have h4 : c2.1 67 i = nI (zw_ck W i) := this.1
                    refine ⟨?_, by simp (disch := omega) only [z_sI_id]; exact this.2⟩
                    show _ = nI (if i = p ∨ i = q then _ else zw_ck W i)
                    rw [z_sI_id (by omega), z_sI_id (by omega)]
                    by_cases e4 : i = q
                    · rw [if_pos (Or.inr e4), e4, z_sI_same]
                    · rw [z_sI_k e4]
                      by_cases e5 : i = p
                      · rw [if_pos (Or.inl e5), e5, z_sI_same]
                      · rw [if_neg (by omega), z_sI_k e5]; exact h4
                · intro id q; simp (disch := omega) only [z_sI_f]
                · simp (disch := omega) only [z_sI_id]
                · simp (disch := omega) only [z_sI_id]
                · have hw0 := h2.2.2.2.1.2.2
                  refine ⟨by simp (disch := omega) only [z_sI_id]; exact hw0.1, fun g hg => by simp (disch := omega) only [z_sI_id]; exact hw0.2.1 g hg, fun i hi => ?_, fun i hi => ?_⟩
                  · have := hw0.2.2.1 i hi
                    refine ⟨by simp (disch := omega) only [z_sI_id]; exact this.1, by simp (disch := omega) only [z_sI_id]; exact this.2.1, by simp (disch := omega) only [z_sI_id]; exact this.2.2.1, ?_, by simp (disch := omega) only [z_sI_id]; exact this.2.2.2.2⟩
                    show _ = zE (if i = t then q + 1 else zw_ho W i)
                    rw [z_sI_id (by omega), z_sI_id (by omega)]
                    by_cases e4 : i = t
                    · rw [if_pos e4, e4, z_sI_same, zE_s]
                    · rw [if_neg e4, z_sI_k e4]; exact this.2.2.2.1
                  · have := hw0.2.2.2 i hi
                    refine ⟨?_, by simp (disch := omega) only [z_sI_id]; exact this.2⟩
                    show _ = nI (if i = p ∨ i = q then _ else zw_ck W i)
                    by_cases e4 : i = q
                    · rw [if_pos (Or.inr e4), e4, z_sI_same]
                    · rw [z_sI_k e4]
                      by_cases e5 : i = p
                      · rw [if_pos (Or.inl e5), e5, z_sI_same]
                      · rw [if_neg (by omega), z_sI_k e5, z_sI_id (by omega)]; exact this.1
            · rw [if_neg e3, if_neg e3]; exact zo_s_of rfl rfl h0
          · rw [if_neg e2, if_neg e2]; exact zo_s_of rfl rfl h0
        · rw [t3.2 b3, z_sbind, if_pos z_e0, (z_ask3 (by omega)).2 b3]; exact zo_s_of rfl rfl h0
    · rw [(q2.2 b2).2, z_sbind, if_pos z_e0, two.2 (fun q => b2 q.2.1), z_sbind, if_pos z_e0]; exact zo_s_of rfl rfl h0
  · rw [(q1.2 b1).2, z_sbind, if_pos z_e0, two.2 (fun q => b1 q.1), z_sbind, if_pos z_e0]; exact zo_s_of rfl rfl h0
/-- LIFTED -/
def zw_lt (W : zw_T) (l : Nat) : zw_T := ((W.1.1, l), W.2)
theorem zo_liftedq {c r : g_St} (h : zi c r) (v1 : Int32) (b : Bool) : zo_s c r (oo_lifted v1 (nI b.toNat) c) (mm_lifted v1 (nI b.toNat) r) := by
  obtain ⟨L, U, W, h⟩ := h
  have h0 := zo_0 h
  have ho := h.1
  have how := h.2.1
  have h6 := ho.2.1
  have hlf := how.2.1
  unfold oo_lifted mm_lifted
  simp only [z_sbind]
  generalize g_sI r 0 0 0 = r0 at h0 ⊢
  have p1 := zo_good h (v := v1)
  have q1 := zo_good h0 (v := v1)
  by_cases b1 : z_is v1 (zl_gd L)
  · rw [(p1.1 b1).1, (q1.1 b1).2, z_sbind, z_sbind, if_neg z_e1, if_neg z_e1]
    obtain ⟨g, hg, rfl⟩ := b1
    have c1 : c.1 61 1 = nI (zw_lf W) := h.2.2.1.2.2.2.2.2.1
    have hg2 : (2 : Nat) ^ g < 64 := by
      have : (2 : Nat) ^ g ≤ 2 ^ 5 := Nat.pow_le_pow_right (by omega) (by omega)
      omega
    have key : ∀ (l : Nat), l < 64 → (∀ j, j < 6 → z_bit l j = if j = g then b.toNat else z_bit (zw_lf W) j) → zo_s c r (some ((1 : Int32), g_sI (g_sI c 61 1 (nI l)) 0 14 0)) (some ((1 : Int32), g_sI r0 36 g (nI b.toNat))) := by
      intro l hl hb
      refine zo_s_of rfl rfl (zi_w (W2 := zw_lt W l) h0 ⟨how.1, hl, how.2.2⟩ ?_ ?_ ?_ ?_ ?_ ?_ ?_ (Or.inl (z_sI_same _ _ _ _)))
      · exact z_f_trans (z_f_sI (P := fun id => (1 ≤ id ∧ id < 61) ∨ 68 < id) (by omega)) (z_f_sI (P := fun id => (1 ≤ id ∧ id < 61) ∨ 68 < id) (by omega)) (fun _ q => q) (fun _ q => q)
      · rw [z_sI_k (by omega), z_sI_id (by omega)]
      · have hw0 := h.2.2.1.2.2.2.2
        refine ⟨by rw [z_sI_id (by omega), z_sI_k (by omega)]; exact hw0.1, by rw [z_sI_id (by omega), z_sI_same]; rfl, fun i hi => ?_, fun i hi => ?_⟩
        · simp (disch := omega) only [z_sI_id]; exact hw0.2.2.1 i hi
        · simp (disch := omega) only [z_sI_id]; exact hw0.2.2.2 i hi
      · intro id q; rw [z_sI_f (by omega)]
      · rw [z_sI_id (by omega)]
      · rw [z_sI_id (by omega)]
      · have hw0 := h0.2.2.2.1.2.2
        refine ⟨by rw [z_sI_id (by omega)]; exact hw0.1, fun j hj => ?_, fun i hi => ?_, fun i hi => ?_⟩
        · show _ = nI (z_bit l j)
          rw [hb j hj]
          by_cases e : j = g
          · rw [if_pos e, e, z_sI_same]
          · rw [if_neg e, z_sI_k e]; exact hw0.2.1 j hj
        · simp (disch := omega) only [z_sI_id]; exact hw0.2.2.1 i hi
        · simp (disch := omega) only [z_sI_id]; exact hw0.2.2.2 i hi
    have hnz : g_nz (nI b.toNat) = nI b.toNat := by cases b <;> rfl
    rw [c1, z_wr (by omega) (by omega), z_sbind, hnz]
    simp (disch := omega) only [nI_lit, z_n31, z_and, z_shl1]
    cases b with
    | false =>
      rw [if_pos (show nI (false).toNat = nI 0 from rfl), z_andn]
      refine key _ (Nat.lt_of_lt_of_le (Nat.xor_lt_two_pow (n := 6) hlf (Nat.lt_of_le_of_lt Nat.and_le_left hlf)) (by omega)) (fun j hj => ?_)
      rw [z_bit_tb, z_bit_tb, Nat.testBit_xor, Nat.testBit_and, Nat.testBit_two_pow]
      by_cases e : j = g
      · subst e; rw [if_pos rfl]; cases (zw_lf W).testBit j <;> simp
      · rw [if_neg e, decide_eq_false (fun q => e q.symm)]; cases (zw_lf W).testBit j <;> rfl
    | true =>
      rw [if_neg (show ¬ nI (true).toNat = nI 0 from by decide), z_or]
      refine key _ (Nat.lt_of_lt_of_le (Nat.or_lt_two_pow (n := 6) hlf hg2) (by omega)) (fun j hj => ?_)
      rw [z_bit_tb, z_bit_tb, Nat.testBit_or, Nat.testBit_two_pow]
      by_cases e : j = g
      · subst e; rw [if_pos rfl, decide_eq_true rfl, Bool.or_true]
      · rw [if_neg e, decide_eq_false (fun q => e q.symm), Bool.or_false]
  · rw [(p1.2 b1).1, (q1.2 b1).2, z_sbind, z_sbind, if_pos z_e0, if_pos z_e0]; exact zo_s_of rfl rfl h0
