/-! Layer 2: MARK, as an operation -/
theorem zw_M_f {L : zl_T} {W : zw_T} {r r2 : g_St} {m : Nat} (h : zw_M L W r m) (h40 : zw_n W ≤ 40) (h8 : zl_pp L ≤ 8) (e : ∀ j, 250 * m ≤ j → j < 250 * m + 223 → r2.1 48 j = r.1 48 j) : zw_M L W r2 m := by
  obtain ⟨h1, h2, h3, h4⟩ := h
  refine ⟨by rw [e _ (by omega) (by omega)]; exact h1, fun t ht => ?_, fun p hp => ?_, fun g hg => ?_⟩
  · rw [e _ (by omega) (by omega), e _ (by omega) (by omega), e _ (by omega) (by omega), e _ (by omega) (by omega), e _ (by omega) (by omega)]; exact h2 t ht
  · rw [e _ (by omega) (by omega), e _ (by omega) (by omega)]; exact h3 p hp
  · rw [e _ (by omega) (by omega)]; exact h4 g hg
theorem zw_M_of {L : zl_T} {W : zw_T} {r s : g_St} {m : Nat} (h : zw_R L W r) (h40 : zw_n W ≤ 40) (h8 : zl_pp L ≤ 8) (h1 : zk_1 r (250 * m) 40 s) (h2 : zk_2 r (250 * m) 8 s) (h3 : zk_3 r (250 * m) 6 s) : zw_M L W s m := by
  obtain ⟨q1, q2, q3, q4⟩ := h
  refine ⟨by rw [h1.1]; exact q1, fun t ht => ?_, fun p hp => ?_, fun g hg => ?_⟩
  · have a := h1.2 t (by omega)
    have b := q3 t ht
    exact ⟨by rw [a.1]; exact b.1, by rw [a.2.1]; exact b.2.1, by rw [a.2.2.1]; exact b.2.2.1, by rw [a.2.2.2.1]; exact b.2.2.2.1, by rw [a.2.2.2.2]; exact b.2.2.2.2⟩
  · have a := h2 p (by omega)
    have b := q4 p hp
    exact ⟨by rw [a.1]; exact b.2, by rw [a.2]; exact b.1⟩
  · rw [h3 g hg]; exact q2 g hg
theorem zw_R_of {L : zl_T} {W : zw_T} {r s : g_St} {m : Nat} (h : zw_M L W r m) (h40 : zw_n W ≤ 40) (h8 : zl_pp L ≤ 8) (h1 : zk_4 r (250 * m) 40 s) (h2 : zk_5 r (250 * m) 8 s) (h3 : zk_6 r (250 * m) 6 s) : zw_R L W s := by
  obtain ⟨q1, q2, q3, q4⟩ := h
  refine ⟨by rw [h1.1]; exact q1, fun g hg => ?_, fun t ht => ?_, fun p hp => ?_⟩
  · rw [h3 g hg, q4 g hg]
    have := z_bit_lt (zw_lf W) g
    rcases (by omega : z_bit (zw_lf W) g = 0 ∨ z_bit (zw_lf W) g = 1) with e | e <;> rw [e] <;> rfl
  · have a := h1.2 t (by omega)
    have b := q2 t ht
    exact ⟨by rw [a.1]; exact b.1, by rw [a.2.1]; exact b.2.1, by rw [a.2.2.1]; exact b.2.2.1, by rw [a.2.2.2.1]; exact b.2.2.2.1, by rw [a.2.2.2.2]; exact b.2.2.2.2⟩
  · have a := h2 p (by omega)
    have b := q3 p hp
    exact ⟨by rw [a.2]; exact b.2, by rw [a.1]; exact b.1⟩
theorem zo_mark_s {F : Nat} (hF : 4000 < F) {L : zl_T} {U : zu_T} {W : zw_T} {c r : g_St} {m : Nat} (h : zi_I L U W c r) (hm : m < 4) : zo_s c r (oo_mark_26 (nI m) 0 c) (mm_mark_29 F (nI m) 0 r) := by
  have ho := h.1
  have how := h.2.1
  have h40 := how.1
  have h8 := ho.2.2.1
  have hC := h.2.2.1
  have bu := hC.2.1
  unfold g_isRule at bu
  have hR := h.2.2.2.1
  obtain ⟨y, hy, y1, hS, s1, s2, s3⟩ := zk_save (r := r) (F := F) hm (fun g hg => by
    have := hR.2.2.2.1 g hg
    have l := z_bit_lt (zw_lf W) g
    rw [this]
    rcases (by omega : z_bit (zw_lf W) g = 0 ∨ z_bit (zw_lf W) g = 1) with e | e <;> rw [e]
    · exact Or.inl rfl
    · exact Or.inr rfl) (by omega)
  obtain ⟨c1, hc1, hw1, hz1⟩ := zw_copy (a := 61) (b := 101 + 8 * m) hC.2.2.2.2 how h8 (by omega)
  obtain ⟨ld, hld, l1, l2⟩ := h.2.2.2.2.2.2.1
  have hm2 : (2 : Nat) ^ m < 16 := Nat.pow_lt_pow_right (n := 4) (by omega) hm
  have l07 : c1.1 0 7 = nI ld := by rw [hz1.1 0 (by omega)]; exact l1
  have x1 : oo_mark_26 (nI m) 0 c = some (1, g_sI c1 0 7 (nI (ld ||| 2 ^ m))) := by
    unfold oo_mark_26
    rw [if_pos rfl, z_rr (by omega) (by omega), z_sbind, hc1, z_sbind, l07, show ((1 : Int32) <<< (nI m &&& 31)) = nI (2 ^ m) from by rw [show (31 : Int32) = nI 31 from rfl, z_and, z_n31 (by omega), show (1 : Int32) = nI 1 from rfl, z_shl1 (by omega)], z_or, z_sbind]
  obtain ⟨y1v, s⟩ := y
  have y1 : y1v = 1 := y1
  subst y1
  refine zo_s_of (c2 := g_sI c1 0 7 (nI (ld ||| 2 ^ m))) (r2 := s) x1 hy (L := L) (U := U) (W := W) ?_
  have hS : zk_S (g_sI r 47 m 1) (250 * m) s := hS
  have er : ∀ id, id ≠ 47 → id ≠ 48 → s.1 id = r.1 id := fun id q1 q2 => by rw [hS.1 id q2, z_sI_f q1]
  have ec : ∀ id, id ≠ 0 → (id < 101 + 8 * m ∨ 101 + 8 * m + 8 ≤ id) → (g_sI c1 0 7 (nI (ld ||| 2 ^ m))).1 id = c.1 id := fun id q1 q2 => by rw [z_sI_f q1, hz1.1 id q2]
  have ec2 : (g_sI c1 0 7 (nI (ld ||| 2 ^ m))).2 = c.2 := hz1.2
  have zr : z_f (fun id => id ≠ 47 ∧ id ≠ 48) r s := ⟨fun id q => er id q.1 q.2, hS.2.1⟩
  have zc : z_f (fun id => id ≠ 0 ∧ id < 101) c (g_sI c1 0 7 (nI (ld ||| 2 ^ m))) := ⟨fun id q => ec id q.1 (by omega), ec2⟩
  refine ⟨ho, how, zk_C_f hC ho zc (fun id a b d => ⟨by omega, by omega⟩), zk_R_f hR zr (fun id q => ⟨by omega, by omega⟩), ?_, ?_, ?_, ?_⟩
  · have hq := h.2.2.2.2.1
    unfold zi_q at *
    rw [ec2]; exact hq
  · have hT := h.2.2.2.2.2.1
    unfold zt_I at *
    rw [ec 1 (by omega) (by omega), ec 3 (by omega) (by omega), ec2, er 0 (by omega) (by omega), er 1 (by omega) (by omega)]; exact hT
  · refine ⟨ld ||| 2 ^ m, Nat.or_lt_two_pow (n := 4) hld hm2, z_sI_same _ _ _ _, fun k hk => ?_⟩
    have tb : z_bit (ld ||| 2 ^ m) k = if k = m then 1 else z_bit ld k := by
      rw [z_bit_tb, z_bit_tb, Nat.testBit_or, Nat.testBit_two_pow]
      by_cases e : k = m
      · subst e; rw [if_pos rfl, decide_eq_true rfl, Bool.or_true]; rfl
      · rw [if_neg e, decide_eq_false (fun q => e q.symm), Bool.or_false]
    rw [tb]
    by_cases e : k = m
    · subst e
      rw [if_pos rfl]
      refine ⟨by rw [hS.1 47 (by omega), z_sI_same]; rfl, fun _ => ⟨W, how, zw_C_f hw1 (fun j hj => z_sI_f (by omega)), zw_M_of hR.2.2 h40 h8 s1 s2 s3⟩⟩
    · rw [if_neg e]
      have hk2 := l2 k hk
      refine ⟨by rw [hS.1 47 (by omega), z_sI_k e]; exact hk2.1, fun hb => ?_⟩
      obtain ⟨W2, w1, w2, w3⟩ := hk2.2 hb
      refine ⟨W2, w1, zw_C_f w2 (fun j hj => ec _ (by omega) (by omega)), zw_M_f w3 w1.1 h8 (fun j j1 j2 => ?_)⟩
      rw [hS.2.2 j (by omega), z_sI_id (by omega)]
  · refine zi_ca_f h.2.2.2.2.2.2.2 ?_ (fun id q1 q2 => ec id (by omega) (by omega))
    rw [z_sI_k (by omega), hz1.1 0 (by omega)]
theorem zo_mark_b {F : Nat} (hF : 4000 < F) {L : zl_T} {U : zu_T} {W : zw_T} {c r : g_St} {m ld : Nat} {v2 : Int32} (h : zi_I L U W c r) (hm : m < 4) (hv : v2 ≠ 0) (h47 : r.1 47 m = 1) (hM : ∃ W, zw_ok L W ∧ zw_C L W c (101 + 8 * m) ∧ zw_M L W r m) : zo_s c r (oo_mark_26 (nI m) v2 c) (mm_mark_29 F (nI m) v2 r) := by
  have ho := h.1
  have h8 := ho.2.2.1
  obtain ⟨W2, how2, hw2, hm2⟩ := hM
  obtain ⟨y, hy, y1, hT, s4, s5, s6⟩ := zk_back (r := r) (F := F) hv hm h47 (by omega)
  obtain ⟨c1, hc1, hw1, hz1⟩ := zw_copy (a := 101 + 8 * m) (b := 61) hw2 how2 h8 (by omega)
  have x1 : oo_mark_26 (nI m) v2 c = some (1, g_sI c1 0 14 0) := by
    unfold oo_mark_26
    rw [if_neg hv, z_rr (by omega) (by omega), z_sbind, hc1, z_sbind, z_sbind]
  obtain ⟨y1v, s⟩ := y
  have y1 : y1v = 1 := y1
  subst y1
  have hT : zk_T r s := hT
  refine zo_s_of (c2 := g_sI c1 0 14 0) (r2 := s) x1 hy (L := L) (U := U) (W := W2) ?_
  refine zi_w h how2 ?_ ?_ ?_ ?_ ?_ ?_ (zw_R_of hm2 how2.1 h8 s4 s5 s6) (Or.inl (z_sI_same _ _ _ _))
  · exact ⟨fun id q => by rw [z_sI_f (by omega), hz1.1 id (by omega)], hz1.2⟩
  · rw [z_sI_k (by omega), hz1.1 0 (by omega)]
  · exact zw_C_f hw1 (fun k hk => z_sI_f (by omega))
  · exact fun id q => hT.1 id (by omega) (by omega)
  · exact hT.2.1 1 (by omega)
  · exact hT.2.1 22 (by omega)
theorem zo_mark {F : Nat} (hF : 4000 < F) {c r : g_St} (h : zi c r) (v1 v2 : Int32) : zo_s c r (oo_mark v1 v2 c) (mm_mark F v1 v2 r) := by
  obtain ⟨L, U, W, h⟩ := h
  have h0 := zo_0 h
  unfold oo_mark mm_mark
  rw [z_sbind]
  generalize g_sI r 0 0 0 = r0 at h0 ⊢
  have w := zo_within (μ := r0) (v := v1) (n := 3) (by omega)
  rw [show (3 : Int32) = nI 3 from rfl]
  by_cases b1 : z_is v1 4
  · rw [w.1 b1, z_sbind, if_neg z_e1]
    obtain ⟨m, hm, rfl⟩ := b1
    rw [if_pos (nI_pos' (by omega)), if_pos (show nI m < (4 : Int32) from nI_lt (b := 4) hm (by omega))]
    by_cases a : v2 = 0
    · subst a
      rw [if_pos rfl, if_pos rfl]
      exact zo_mark_s hF h0 hm
    · rw [if_neg a, if_neg a, z_rd hm (by omega), z_sbind]
      obtain ⟨ld, hld, l1, l2⟩ := h0.2.2.2.2.2.2.1
      have hk := l2 m hm
      have hb := z_bit_lt ld m
      rw [l1, hk.1, show ((nI ld >>> (nI m &&& 31)) &&& (1 : Int32)) = nI (z_bit ld m) from by rw [show (31 : Int32) = nI 31 from rfl, z_and, z_n31 (by omega), z_shr (by omega) (by omega), show (1 : Int32) = nI 1 from rfl, z_and, z_bit_and]]
      rcases (by omega : z_bit ld m = 0 ∨ z_bit ld m = 1) with e | e
      · rw [e, if_pos z_e0, if_pos z_e0]; exact zo_s_of rfl rfl h0
      · rw [e, if_neg z_e1, if_neg z_e1]
        exact zo_mark_b (ld := ld) hF h0 hm a (by rw [hk.1, e]; rfl) (hk.2 e)
  · rw [w.2 b1, z_sbind, if_pos z_e0]
    have e : ∀ x : Option (Int32 × g_St), (if 0 ≤ v1 then if v1 < (4 : Int32) then x else some (0, c) else some (0, c)) = some (0, c) := by
      intro x
      have := z_ask (v := v1) (n := 4) (a := x) (b := some (0, c)) (by omega) b1
      exact this
    rw [e]
    exact zo_s_of rfl rfl h0
