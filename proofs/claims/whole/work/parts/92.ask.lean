/-! Layer 2: what both programs ask of a TOKEN -/
theorem zn_a0 : nI 0 &&& (1 : Int32) = nI 0 := by decide
theorem zn_a1 : nI 1 &&& (1 : Int32) = nI 1 := by decide
def zn_kd (n : Nat) (s : Nat → Nat) (t : zn_K) : Prop := (zn_isw (zn_k t) ∧ zn_dg (zn_w t) ∧ (zn_w t).length ≤ 8 ∧ zn_k t = zn_kn (zn_w t) ∧ zn_x t = iL (ze 32 (zn_w t) : Nat)) ∨ (zn_k t = 201 ∧ zn_n t < 10000 ∧ zn_x t = iL (zn_n t : Nat)) ∨ zn_k t = 202 ∨ zn_k t = 203 ∨ (zn_si (zn_k t) ∧ s (zn_b t) = zn_k t ∧ zn_b t < n)
theorem zn_kd_of {n : Nat} {s : Nat → Nat} {t : zn_K} (h : zn_tk n s t ∨ t = zn_end n) : zn_kd n s t := by
  rcases h with ⟨hb, h⟩ | h
  · rcases h with ⟨h1, ⟨e1, e2, e3, e4⟩, h3⟩ | ⟨h1, ⟨e1, e2, e3, e4⟩, h3⟩ | ⟨h1, h2, h3, h4, h5⟩
    · rcases h3 with ⟨t1, t2, t3, t4⟩ | ⟨t1, t2⟩
      · refine Or.inl ⟨by rw [t3]; exact zn_kn_w _, ?_, ?_, t3, t4⟩
        · rw [t2]; exact zn_u_dg (fun i q1 q2 => e3 i q1 (by omega))
        · rw [t2, zn_u_len]; exact t1
      · exact Or.inr (Or.inr (Or.inr (Or.inl t2)))
    · rcases h3 with ⟨t1, t2, t3, t4⟩ | ⟨t1, t2⟩
      · refine Or.inr (Or.inl ⟨t2, ?_, t4⟩)
        have hv := zn_v_lt (s := s) (b := zn_b t) (m := zn_e t - zn_b t) (fun i q1 q2 => e3 i q1 (by omega))
        have hv2 : (10 : Nat) ^ (zn_e t - zn_b t) ≤ 10 ^ 4 := Nat.pow_le_pow_right (by omega) t1
        rw [t3]; omega
      · exact Or.inr (Or.inr (Or.inr (Or.inl t2)))
    · rcases h5 with ⟨q1, q2⟩ | ⟨q1, q2⟩
      · exact Or.inr (Or.inr (Or.inr (Or.inr ⟨by rw [q2]; exact q1, q2.symm, hb⟩)))
      · exact Or.inr (Or.inr (Or.inr (Or.inl q2)))
  · rw [h]; exact Or.inr (Or.inr (Or.inl rfl))
theorem zn_kd_lt {n : Nat} {s : Nat → Nat} {t : zn_K} (h : zn_kd n s t) : zn_k t < 204 := by
  unfold zn_kd zn_isw zn_si at h; omega
abbrev zn_nm (k : Nat) : Prop := k = 200 ∨ (8 < k ∧ k < 20)
theorem zn_nm_w {n : Nat} {s : Nat → Nat} {t : zn_K} (h : zn_kd n s t) (hn : zn_nm (zn_k t)) : zn_dg (zn_w t) ∧ (zn_w t).length ≤ 8 ∧ zn_x t = iL (ze 32 (zn_w t) : Nat) := by
  rcases h with h | h | h | h | h
  · exact ⟨h.2.1, h.2.2.1, h.2.2.2.2⟩
  · unfold zn_nm at hn; omega
  · unfold zn_nm at hn; omega
  · unfold zn_nm at hn; omega
  · have := h.1; unfold zn_nm at hn; unfold zn_si at this; omega
theorem zn_isName {c : g_St} {k : Nat} (h : c.1 1 8 = nI k) (hk : k < 204) : ot_isName c = some (if zn_nm k then nI 1 else nI 0) := by
  unfold ot_isName zn_nm
  rw [h]
  simp (disch := omega) only [↓reduceIte, nI_lit, z_sbind, z_rd, z_rl, z_rr, z_wr, z_wl, nI_add, z_mul, z_lt, z_le, z_eq, z_ltm1, z_m1lt, z_eqm1, z_m1eq, z_lem1, z_m1le, if_true, if_false, ite_true, ite_false]
  repeat' split
  all_goals first | rfl | omega
theorem zn_at_w {n : Nat} {s : Nat → Nat} {t : zn_K} {r : g_St} (h : zn_at t r) (hk : zn_kd n s t) : (zn_isw (zn_k t) → r.1 0 6 = nI 1) ∧ (¬ zn_isw (zn_k t) → ∃ v, v ≠ 1 ∧ v < 10 ∧ r.1 0 6 = nI v) := by
  have h6 := h.2.2.1
  unfold zn_rk at h6
  refine ⟨fun q => by rw [if_pos q] at h6; exact h6, fun q => ?_⟩
  rw [if_neg q] at h6
  refine ⟨_, ?_, ?_, h6⟩
  · repeat' split
    all_goals omega
  · repeat' split
    all_goals omega
theorem zn_isWord {n i : Nat} {s : Nat → Nat} {t : zn_K} {r : g_St} (h : zn_at t r) (hk : zn_kd n s t) (hi : i < 20) : mm_isWord r (zn_wd27 i) = some (if zn_k t = i then nI 1 else nI 0) := by
  unfold mm_isWord
  by_cases q : zn_isw (zn_k t)
  · rcases hk with a | a | a | a | a
    · rw [if_pos (show r.1 0 6 = (1 : Int32) from (zn_at_w h (n := n) (s := s) (Or.inl a)).1 q), h.2.2.2.1 q, zn_wu_27 i hi]
      simp only [zn_cmp]
      have h1 := ze_lt8 (k := 27) (u := zn_w t) (by omega) a.2.1 a.2.2.1
      have h2 := ze_lt8 (k := 27) (u := zn_wu i) (by omega) (zn_wu_dg hi) (zn_wu_d i hi).2.1
      by_cases e : zn_k t = i
      · rw [if_pos e]
        have : zn_w t = zn_wu i := by rw [← zn_kn_eq hi, ← a.2.2.2.1]; exact e
        rw [if_pos (by rw [this])]; rfl
      · rw [if_neg e, if_neg]
        · rfl
        · intro g
          have := ze_inj (by omega) _ _ a.2.1 (zn_wu_dg hi) (iL_inj (by omega) (by omega) g)
          rw [← zn_kn_eq hi, ← a.2.2.2.1] at this
          exact e this
    · unfold zn_isw at q; omega
    · unfold zn_isw at q; omega
    · unfold zn_isw at q; omega
    · have := a.1; unfold zn_isw at q; unfold zn_si at this; omega
  · obtain ⟨v, v1, v2, v3⟩ := (zn_at_w h hk).2 q
    rw [v3, if_neg (show ¬ nI v = (1 : Int32) by show ¬ nI v = nI 1; rw [z_eq (by omega) (by omega)]; exact v1), if_neg (show ¬ zn_k t = i by unfold zn_isw at q; omega)]; rfl
theorem zn_isSign {n i : Nat} {s : Nat → Nat} {t : zn_K} {r : g_St} (hB : zn_B n s r) (h : zn_at t r) (hk : zn_kd n s t) (hi : zn_si i) : mm_isSign r (nI i) = some (if zn_k t = i then nI 1 else nI 0) := by
  have hn := hB.1
  have h6 := h.2.2.1
  have hi2 := hi
  unfold zn_si at hi2
  have no : ∀ v, v ≠ 3 → v < 10 → zn_rk (zn_k t) = v → ¬ zn_k t = i → mm_isSign r (nI i) = some (if zn_k t = i then nI 1 else nI 0) := by
    intro v v1 v2 v3 v4
    unfold mm_isSign
    rw [h6, v3, if_neg (show ¬ nI v = (3 : Int32) by show ¬ nI v = nI 3; rw [z_eq (by omega) (by omega)]; exact v1), if_neg v4]; rfl
  rcases hk with a | a | a | a | a
  · have := a.1
    unfold zn_isw at this
    exact no 1 (by omega) (by omega) (by unfold zn_rk; rw [if_pos this]) (by omega)
  · exact no 2 (by omega) (by omega) (by rw [a.1]; rfl) (by omega)
  · exact no 0 (by omega) (by omega) (by rw [a]; rfl) (by omega)
  · exact no 4 (by omega) (by omega) (by rw [a]; rfl) (by omega)
  · obtain ⟨a1, a2, a3⟩ := a
    have a1' := a1
    unfold zn_si at a1'
    have h127 := (hB.2.1 _ a3).2
    unfold zt_ok at h127
    have e3 : zn_rk (zn_k t) = 3 := by unfold zn_rk; rw [if_neg (by omega), if_neg (by omega), if_neg (by omega), if_neg (by omega)]
    unfold mm_isSign
    rw [h6, e3, if_pos (show nI 3 = (3 : Int32) from rfl), h.2.1, z_rd (by omega) (by omega), z_sbind, (hB.2.1 _ a3).1, a2]
    simp (disch := omega) only [↓reduceIte, nI_lit, z_sbind, z_rd, z_rl, z_rr, z_wr, z_wl, nI_add, z_mul, z_lt, z_le, z_eq, z_ltm1, z_m1lt, z_eqm1, z_m1eq, z_lem1, z_m1le, if_true, if_false, ite_true, ite_false]
    split <;> rfl
theorem zn_isKept {n : Nat} {s : Nat → Nat} {t : zn_K} {r : g_St} (h : zn_at t r) (hk : zn_kd n s t) : mm_isKept r = some (if zn_nm (zn_k t) then nI 0 else nI 1) := by
  by_cases q : zn_isw (zn_k t)
  · have h6 : r.1 0 6 = (1 : Int32) := (zn_at_w h hk).1 q
    have w : ∀ i, i < 20 → (lg_cmp (r.2.1 0 7) (zn_wd27 i) = 0) = (zn_k t = i) := by
      intro i hi
      have := zn_isWord h hk hi
      unfold mm_isWord at this
      rw [if_pos h6] at this
      apply propext
      constructor
      · intro g
        rw [if_pos g] at this
        by_cases e : zn_k t = i
        · exact e
        · rw [if_neg e] at this; exact absurd this (by decide)
      · intro e
        rw [if_pos e] at this
        by_cases g : lg_cmp (r.2.1 0 7) (zn_wd27 i) = 0
        · exact g
        · rw [if_neg g] at this; exact absurd this (by decide)
    unfold mm_isKept
    rw [if_pos h6]
    have w0 := w 0 (by omega); have w1 := w 1 (by omega); have w2 := w 2 (by omega); have w3 := w 3 (by omega); have w4 := w 4 (by omega)
    have w5 := w 5 (by omega); have w6 := w 6 (by omega); have w7 := w 7 (by omega); have w8 := w 8 (by omega)
    simp only [show zn_wd27 0 = 8740067 from rfl, show zn_wd27 1 = 16819 from rfl, show zn_wd27 2 = 149125 from rfl, show zn_wd27 3 = 4562587 from rfl, show zn_wd27 4 = 131638 from rfl, show zn_wd27 5 = 232608281 from rfl, show zn_wd27 6 = 47 from rfl, show zn_wd27 7 = 6936589 from rfl, show zn_wd27 8 = 12253591 from rfl] at w0 w1 w2 w3 w4 w5 w6 w7 w8
    simp only [w0, w1, w2, w3, w4, w5, w6, w7, w8]
    unfold zn_isw at q
    unfold zn_nm
    repeat' split
    all_goals first | rfl | omega
  · obtain ⟨v, v1, v2, v3⟩ := (zn_at_w h hk).2 q
    unfold mm_isKept
    rw [v3, if_neg (show ¬ nI v = (1 : Int32) by show ¬ nI v = nI 1; rw [z_eq (by omega) (by omega)]; exact v1), if_neg (show ¬ zn_nm (zn_k t) by unfold zn_isw at q; unfold zn_nm; omega)]; rfl
/-- FAULTS -/
def zn_ft (f b : Nat) : Int32 := nI (f + 16 * b)
theorem zn_wrong {n m j f : Nat} {s : Nat → Nat} {T : Nat → zn_K} {c : g_St} (h : zn_C n s T m j c) : ot_wrong (nI f) c = some (nI 0, g_sI c 1 10 (zn_ft f (zn_b (T j)))) := by
  obtain ⟨hA, ho, hj, h6, hr, h7, h8, h9⟩ := h
  have hm := ho.2.2.2.2
  have hn := hA.1
  unfold ot_wrong zn_ft
  rw [h7, z_rd (by omega) (by omega), z_sbind, (hr j (by omega)).2.1, show (16 : Int32) = nI 16 from rfl, z_mul, nI_add, z_sbind]; rfl
theorem zn_fails {f : Nat} {t : zn_K} {r : g_St} (h : zn_at t r) : mm_fails (nI f) r = some (nI 0, g_sI r 0 9 (zn_ft f (zn_b t))) := by
  unfold mm_fails zn_ft
  rw [h.2.1, show (16 : Int32) = nI 16 from rfl, z_mul, nI_add, z_sbind]; rfl
theorem zn_C_kd {n m j : Nat} {s : Nat → Nat} {T : Nat → zn_K} {c : g_St} (h : zn_C n s T m j c) : zn_kd n s (T j) := zn_kd_of (zn_ok_t h.2.1 h.2.2.1)
theorem zn_C_w {n m j : Nat} {s : Nat → Nat} {T : Nat → zn_K} {c c2 : g_St} (h : zn_C n s T m j c) (e1 : ∀ id, 0 < id → id < 7 → c2.1 id = c.1 id) (e2 : ∀ id, 0 < id → id < 7 → c2.2.1 id = c.2.1 id) : zn_C n s T m j c2 := by
  obtain ⟨hA, ho, hj, h6, hr, h7, h8, h9⟩ := h
  refine ⟨⟨hA.1, by rw [e1 1 (by omega) (by omega)]; exact hA.2.1, fun i hi => by rw [e1 3 (by omega) (by omega)]; exact hA.2.2.1 i hi, fun k q => by rw [e2 2 (by omega) (by omega)]; exact hA.2.2.2 k q⟩, ho, hj, by rw [e1 1 (by omega) (by omega)]; exact h6, fun i hi => ?_, by rw [e1 1 (by omega) (by omega)]; exact h7, by rw [e1 1 (by omega) (by omega)]; exact h8, by rw [e2 1 (by omega) (by omega)]; exact h9⟩
  rw [e1 4 (by omega) (by omega), e1 5 (by omega) (by omega), e2 6 (by omega) (by omega)]
  exact hr i hi
theorem zn_R_w {n m j : Nat} {s : Nat → Nat} {T : Nat → zn_K} {r r2 : g_St} (h : zn_R n s T m j r) (e1 : r2.1 1 = r.1 1) (e0 : ∀ k, 2 < k → k < 9 → r2.1 0 k = r.1 0 k) (e2 : r2.2.1 0 7 = r.2.1 0 7) : zn_R n s T m j r2 := by
  obtain ⟨hB, ho, hj, ha⟩ := h
  refine ⟨⟨hB.1, by rw [e1]; exact hB.2.1, by rw [e0 3 (by omega) (by omega)]; exact hB.2.2⟩, ho, hj, ?_⟩
  unfold zn_at at *
  rw [e0 4 (by omega) (by omega), e0 5 (by omega) (by omega), e0 6 (by omega) (by omega), e0 8 (by omega) (by omega), e2]
  exact ha
/-- the class's numbers -/
theorem zn_takeNumber {n m j lo hi : Nat} {s : Nat → Nat} {T : Nat → zn_K} {c : g_St} (h : zn_C n s T m j c) (hlo : lo < 10000) (hhi : hi < 10000) : (zn_k (T j) = 201 ∧ lo ≤ zn_n (T j) ∧ zn_n (T j) ≤ hi → ot_takeNumber (nI lo) (nI hi) c = (ot_advance c).bind fun μ => some (nI (zn_n (T j)), μ)) ∧ (¬ (zn_k (T j) = 201 ∧ lo ≤ zn_n (T j) ∧ zn_n (T j) ≤ hi) → ot_takeNumber (nI lo) (nI hi) c = some (-1, g_sI c 1 10 (zn_ft (if zn_k (T j) = 201 then 4 else 1) (zn_b (T j))))) := by
  have hk := zn_C_kd h
  have k4 := zn_kd_lt hk
  have h8 := h.2.2.2.2.2.2.1
  have h9 := h.2.2.2.2.2.2.2
  have e201 : (c.1 1 8 = (201 : Int32)) = (zn_k (T j) = 201) := by rw [h8]; show (nI _ = nI 201) = _; rw [z_eq (by omega) (by omega)]
  have cmp : ∀ a b : Nat, a < 10000 → b < 10000 → (0 ≤ lg_cmp (iL (a : Nat)) ((nI b).toInt64)) = (b ≤ a) ∧ (0 < lg_cmp (iL (a : Nat)) ((nI b).toInt64)) = (b < a) := by
    intro a b ha hb
    rw [zy_of (by omega)]
    constructor
    · apply propext
      rw [lg_cmp_ge, Int64.le_iff_toInt_le, Int64.toInt_ofInt_of_le (by omega) (by omega), Int64.toInt_ofInt_of_le (by omega) (by omega)]; omega
    · apply propext
      rw [lg_cmp_gt, Int64.lt_iff_toInt_lt, Int64.toInt_ofInt_of_le (by omega) (by omega), Int64.toInt_ofInt_of_le (by omega) (by omega)]; omega
  have bad : ot_takeNumber_30 c = some (-1, g_sI c 1 10 (zn_ft (if zn_k (T j) = 201 then 4 else 1) (zn_b (T j)))) := by
    unfold ot_takeNumber_30 ot_takeNumber_46
    by_cases e : zn_k (T j) = 201
    · rw [if_pos (by rw [e201]; exact e), if_pos e, show (4 : Int32) = nI 4 from rfl, zn_wrong h, z_sbind]
    · rw [if_neg (by rw [e201]; exact e), if_neg e, show (1 : Int32) = nI 1 from rfl, zn_wrong h, z_sbind]
  unfold ot_takeNumber
  by_cases e : zn_k (T j) = 201
  · rcases hk with a | a | a | a | a
    · have := a.1; unfold zn_isw at this; omega
    · rw [if_pos (by rw [e201]; exact e), h9, a.2.2]
      simp only [(cmp _ lo a.2.1 hlo).1, (cmp _ hi a.2.1 hhi).2]
      refine ⟨fun q => ?_, fun q => ?_⟩
      · rw [if_pos q.2.1, if_neg (by omega)]
        rw [zy_back]
      · by_cases q1 : lo ≤ zn_n (T j)
        · rw [if_pos q1, if_pos (by omega)]; exact bad
        · rw [if_neg q1]; exact bad
    · omega
    · omega
    · have := a.1; unfold zn_si at this; omega
  · rw [if_neg (by rw [e201]; exact e)]
    exact ⟨fun q => absurd q.1 e, fun _ => bad⟩
theorem zn_needsNumber {n lo hi : Nat} {s : Nat → Nat} {t : zn_K} {r : g_St} (h : zn_at t r) (hk : zn_kd n s t) (hlo : lo < 10000) (hhi : hi < 10000) : (zn_k t = 201 ∧ lo ≤ zn_n t ∧ zn_n t ≤ hi → mm_needsNumber (nI lo) (nI hi) r = some (nI 1, r) ∧ r.1 0 8 = nI (zn_n t)) ∧ (¬ (zn_k t = 201 ∧ lo ≤ zn_n t ∧ zn_n t ≤ hi) → mm_needsNumber (nI lo) (nI hi) r = some (nI 0, g_sI r 0 9 (zn_ft (if zn_k t = 201 then 4 else 1) (zn_b t)))) := by
  unfold mm_needsNumber
  by_cases e : zn_k t = 201
  · have h6 : r.1 0 6 = (2 : Int32) := by rw [h.2.2.1, e]; rfl
    have h8 := h.2.2.2.2 e
    have hn : zn_n t < 10000 := by
      rcases hk with a | a | a | a | a
      · have := a.1; unfold zn_isw at this; omega
      · exact a.2.1
      · omega
      · omega
      · have := a.1; unfold zn_si at this; omega
    rw [if_pos h6, h8]
    unfold mm_within
    refine ⟨fun q => ⟨?_, rfl⟩, fun q => ?_⟩
    · simp (disch := omega) only [↓reduceIte, nI_lit, z_sbind, z_rd, z_rl, z_rr, z_wr, z_wl, nI_add, z_mul, z_lt, z_le, z_eq, z_ltm1, z_m1lt, z_eqm1, z_m1eq, z_lem1, z_m1le, if_true, if_false, ite_true, ite_false, q.2.1, q.2.2]
      rw [if_neg (by decide)]
    · simp (disch := omega) only [↓reduceIte, nI_lit, z_sbind, z_rd, z_rl, z_rr, z_wr, z_wl, nI_add, z_mul, z_lt, z_le, z_eq, z_ltm1, z_m1lt, z_eqm1, z_m1eq, z_lem1, z_m1le, if_true, if_false, ite_true, ite_false]
      by_cases q1 : lo ≤ zn_n t
      · rw [if_pos q1, if_neg (by omega), z_sbind, if_pos rfl, zn_fails h, z_sbind, if_pos rfl, if_pos e]
      · rw [if_neg q1, z_sbind, if_pos rfl, zn_fails h, z_sbind, if_pos rfl, if_pos e]
  · have : ¬ r.1 0 6 = (2 : Int32) := by
      rw [h.2.2.1]
      show ¬ nI _ = nI 2
      unfold zn_rk
      repeat' split
      all_goals first | (rw [z_eq (by omega) (by omega)]; omega) | omega
    rw [if_neg this]
    refine ⟨fun q => absurd q.1 e, fun _ => ?_⟩
    have h1 : mm_fails (1 : Int32) r = some (nI 0, g_sI r 0 9 (zn_ft 1 (zn_b t))) := zn_fails h
    rw [h1, z_sbind, if_neg e]
    show some (nI 0 &&& (1 : Int32), _) = _
    rw [zn_a0]
