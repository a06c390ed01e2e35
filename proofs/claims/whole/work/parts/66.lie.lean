/-! Layer 2: a LIE -/
abbrev iI (T : Int) : Int32 := Int32.ofInt T
abbrev iL (T : Int) : Int64 := Int64.ofInt T
theorem iI_n (n : Nat) : nI n = iI n := Int32.ofInt_eq_ofNat.symm
theorem iI_to {T : Int} (h : -1000000 ≤ T ∧ T ≤ 1000000) : (iI T).toInt = T := Int32.toInt_ofInt_of_le (by omega) (by omega)
theorem iL_to {T : Int} (h : -1000000 ≤ T ∧ T ≤ 1000000) : (iL T).toInt = T := Int64.toInt_ofInt_of_le (by omega) (by omega)
theorem iI_eq0 {T : Int} (h : -1000000 ≤ T ∧ T ≤ 1000000) : (iI T = 0) = (T = 0) := by
  apply propext; constructor
  · intro e; have := congrArg Int32.toInt e; rw [iI_to h] at this; exact this
  · intro e; rw [e]; rfl
theorem iL_eq0 {T : Int} (h : -1000000 ≤ T ∧ T ≤ 1000000) : (iL T = 0) = (T = 0) := by
  apply propext; constructor
  · intro e; have := congrArg Int64.toInt e; rw [iL_to h] at this; exact this
  · intro e; rw [e]; rfl
theorem iI_dv {T k : Int} (hT : -1000000 ≤ T ∧ T ≤ 1000000) (hk : 1 ≤ k ∧ k ≤ 1000000) : g_dv (iI T) (iI k) = some (iI (T.tdiv k)) := by
  unfold g_dv
  rw [if_neg (by rw [iI_eq0 (by omega)]; omega)]
  exact congrArg some (Int32.ofInt_tdiv (by show (-2147483648 : Int) ≤ T; omega) (by show T ≤ (2147483647 : Int); omega) (by show (-2147483648 : Int) ≤ k; omega) (by show k ≤ (2147483647 : Int); omega)).symm
theorem iL_dv {T k : Int} (hT : -1000000 ≤ T ∧ T ≤ 1000000) (hk : 1 ≤ k ∧ k ≤ 1000000) : g_dvL (iL T) (iL k) = some (iL (T.tdiv k)) := by
  unfold g_dvL
  rw [if_neg (by rw [iL_eq0 (by omega)]; omega)]
  exact congrArg some (Int64.ofInt_tdiv (by show (-9223372036854775808 : Int) ≤ T; omega) (by show T ≤ (9223372036854775807 : Int); omega) (by show (-9223372036854775808 : Int) ≤ k; omega) (by show k ≤ (9223372036854775807 : Int); omega)).symm
theorem iI_rm {T k : Int} (hT : -1000000 ≤ T ∧ T ≤ 1000000) (hk : 1 ≤ k ∧ k ≤ 1000000) : g_rm (iI T) (iI k) = some (iI (T.tmod k)) := by
  unfold g_rm
  rw [if_neg (by rw [iI_eq0 (by omega)]; omega)]
  rw [show iI T / iI k = iI (T.tdiv k) from (Int32.ofInt_tdiv (by show (-2147483648 : Int) ≤ T; omega) (by show T ≤ (2147483647 : Int); omega) (by show (-2147483648 : Int) ≤ k; omega) (by show k ≤ (2147483647 : Int); omega)).symm]
  rw [← Int32.ofInt_mul, ← Int32.ofInt_sub, Int.tmod_def, Int.mul_comm k]
theorem iL_rm {T k : Int} (hT : -1000000 ≤ T ∧ T ≤ 1000000) (hk : 1 ≤ k ∧ k ≤ 1000000) : g_rmL (iL T) (iL k) = some (iL (T.tmod k)) := by
  unfold g_rmL
  rw [if_neg (by rw [iL_eq0 (by omega)]; omega)]
  rw [show iL T / iL k = iL (T.tdiv k) from (Int64.ofInt_tdiv (by show (-9223372036854775808 : Int) ≤ T; omega) (by show T ≤ (9223372036854775807 : Int); omega) (by show (-9223372036854775808 : Int) ≤ k; omega) (by show k ≤ (9223372036854775807 : Int); omega)).symm]
  rw [← Int64.ofInt_mul, ← Int64.ofInt_sub, Int.tmod_def, Int.mul_comm k]
theorem i_tm {T k : Int} (hk : 1 ≤ k) : (T.tmod k = 0) = (T % k = 0) := by
  apply propext; constructor
  · intro h; exact Int.emod_eq_zero_of_dvd (Int.dvd_of_tmod_eq_zero h)
  · intro h; exact Int.tmod_eq_zero_of_dvd (Int.dvd_of_emod_eq_zero h)
theorem i_td {T k : Int} (h : T % k = 0) : T.tdiv k = T / k := Int.tdiv_eq_ediv_of_dvd (Int.dvd_of_emod_eq_zero h)
theorem i_tl {T k : Int} (hk : 1 ≤ k ∧ k ≤ 1000000) (hT : -1000000 ≤ T ∧ T ≤ 1000000) : -1000000 ≤ T.tmod k ∧ T.tmod k ≤ 1000000 := by
  have h1 := Int.tmod_lt_of_pos T (b := k) (by omega)
  have h2 := Int.lt_tmod_of_pos T (b := k) (by omega)
  omega
/-- a part of ten -/
def zo_pt (T : Int) (k : Int32) : Int32 := if T % 10 = 0 then (if k = 0 then iI (T / 10) else iI 1) else if T % 2 = 0 then (if k = 0 then iI (T / 2) else iI 5) else if T % 5 = 0 then (if k = 0 then iI (T / 5) else iI 2) else (if k = 0 then iI T else iI 10)
theorem zo_C_pt {μ : g_St} {T : Int} {k : Int32} (h : -200000 ≤ T ∧ T ≤ 200000) : oo_partOfTen μ (iI T) k = some (zo_pt T k) := by
  have e33 : ∀ (a b : Int32), oo_partOfTen_33 μ k a b = some (if k = 0 then a else b) := by
    intro a b; unfold oo_partOfTen_33; split <;> rfl
  have k2 := i_tl (T := T) (k := 2) (by omega) (by omega)
  have k5 := i_tl (T := T) (k := 5) (by omega) (by omega)
  unfold oo_partOfTen oo_partOfTen_19
  rw [show (2 : Int32) = iI 2 from rfl, show (5 : Int32) = iI 5 from rfl, show (10 : Int32) = iI 10 from rfl, iI_rm (by omega) (by omega), z_sbind]
  unfold zo_pt
  by_cases a2 : T % 2 = 0
  · have k25 := i_tl (T := T / 2) (k := 5) (by omega) (by omega)
    rw [if_pos (by rw [iI_eq0 (by omega), i_tm (by omega)]; exact a2), iI_dv (by omega) (by omega), z_sbind, iI_dv (by omega) (by omega), z_sbind, i_td a2, iI_rm (by omega) (by omega), z_sbind]
    by_cases a5 : T / 2 % 5 = 0
    · rw [if_pos (by rw [iI_eq0 (by omega), i_tm (by omega)]; exact a5), iI_dv (by omega) (by omega), z_sbind, show ((10 : Int).tdiv 2) = 5 from rfl, iI_dv (by omega) (by omega), z_sbind, i_td a5, e33, if_pos (show T % 10 = 0 by omega), show T / 2 / 5 = T / 10 by omega]
      rfl
    · rw [if_neg (by rw [iI_eq0 (by omega), i_tm (by omega)]; exact a5), e33, if_neg (show ¬ T % 10 = 0 by omega), if_pos a2]
      rfl
  · rw [if_neg (by rw [iI_eq0 (by omega), i_tm (by omega)]; exact a2), iI_rm (by omega) (by omega), z_sbind]
    by_cases a5 : T % 5 = 0
    · rw [if_pos (by rw [iI_eq0 (by omega), i_tm (by omega)]; exact a5), iI_dv (by omega) (by omega), z_sbind, iI_dv (by omega) (by omega), z_sbind, i_td a5, e33, if_neg (show ¬ T % 10 = 0 by omega), if_neg a2, if_pos a5]
      rfl
    · rw [if_neg (by rw [iI_eq0 (by omega), i_tm (by omega)]; exact a5), e33, if_neg (show ¬ T % 10 = 0 by omega), if_neg a2, if_neg a5]
theorem zo_lws {F : Nat} {μ : g_St} {v0 v2 v5 v7 x : Int64} {v4 : Int32} {f : Nat} (h : ¬ lg_cmp v7 0 = 0) (hx : g_rmL v5 v7 = some x) : mm_lowest_17 F μ v0 v2 v4 (f + 1) v5 v7 = mm_lowest_17 F μ v0 v2 v4 f v7 x := by
  show mm_lowest_17_b F μ v0 v2 v4 _ v5 v7 = _
  unfold mm_lowest_17_b
  rw [if_neg h, hx, z_sbind]
theorem zo_lwe {F : Nat} {μ : g_St} {v0 v2 v5 : Int64} {v4 : Int32} {f : Nat} : mm_lowest_17 F μ v0 v2 v4 (f + 1) v5 0 = if v4 = 0 then g_dvL v0 v5 else g_dvL v2 v5 := by
  show mm_lowest_17_b F μ v0 v2 v4 _ v5 0 = _
  unfold mm_lowest_17_b
  rw [if_pos (by decide)]
  have e : ∀ o : Option Int64, (o.bind fun x => some x) = o := fun o => by cases o <;> rfl
  rw [e, e]
def zo_g10 (r : Nat) : Int := if r = 0 then 10 else if r % 2 = 0 then 2 else if r = 5 then 5 else 1
theorem zo_lwr {F : Nat} {μ : g_St} {v0 v2 : Int64} {v4 : Int32} {f : Nat} : ∀ r : Nat, r < 10 → mm_lowest_17 F μ v0 v2 v4 (f + 6) 10 (iL r) = if v4 = 0 then g_dvL v0 (iL (zo_g10 r)) else g_dvL v2 (iL (zo_g10 r)) := by
  intro r hr
  rcases (by omega : r = 0 ∨ r = 1 ∨ r = 2 ∨ r = 3 ∨ r = 4 ∨ r = 5 ∨ r = 6 ∨ r = 7 ∨ r = 8 ∨ r = 9) with rfl | rfl | rfl | rfl | rfl | rfl | rfl | rfl | rfl | rfl
  · exact zo_lwe
  · rw [zo_lws (x := 0) (by decide) (by decide)]; exact zo_lwe
  · rw [zo_lws (x := 0) (by decide) (by decide)]; exact zo_lwe
  · rw [zo_lws (x := 1) (by decide) (by decide), zo_lws (x := 0) (by decide) (by decide)]; exact zo_lwe
  · rw [zo_lws (x := 2) (by decide) (by decide), zo_lws (x := 0) (by decide) (by decide)]; exact zo_lwe
  · rw [zo_lws (x := 0) (by decide) (by decide)]; exact zo_lwe
  · rw [zo_lws (x := 4) (by decide) (by decide), zo_lws (x := 2) (by decide) (by decide), zo_lws (x := 0) (by decide) (by decide)]; exact zo_lwe
  · rw [zo_lws (x := 3) (by decide) (by decide), zo_lws (x := 1) (by decide) (by decide), zo_lws (x := 0) (by decide) (by decide)]; exact zo_lwe
  · rw [zo_lws (x := 2) (by decide) (by decide), zo_lws (x := 0) (by decide) (by decide)]; exact zo_lwe
  · rw [zo_lws (x := 1) (by decide) (by decide), zo_lws (x := 0) (by decide) (by decide)]; exact zo_lwe
theorem zo_cmp0 {T : Int} (h : -1000000 ≤ T ∧ T ≤ 1000000) : (lg_cmp (iL T) 0 < 0) = (T < 0) := by
  have e : (iL T > 0) = (0 < T) := by
    apply propext; show (0 : Int64) < iL T ↔ _; rw [Int64.lt_iff_toInt_lt, iL_to h]; exact Iff.rfl
  have e2 := iL_eq0 h
  unfold lg_cmp
  apply propext
  by_cases a1 : 0 < T
  · rw [if_pos (by rw [e]; exact a1)]
    exact ⟨fun q => absurd q (by decide), fun q => absurd q (by omega)⟩
  · rw [if_neg (by rw [e]; exact a1)]
    by_cases a2 : T = 0
    · rw [if_pos (by rw [e2]; exact a2)]
      exact ⟨fun q => absurd q (by decide), fun q => absurd q (by omega)⟩
    · rw [if_neg (by rw [e2]; exact a2)]
      exact ⟨fun _ => by omega, fun _ => by decide⟩
theorem zo_R_pt {μ : g_St} {T : Int} {k : Int32} {F : Nat} (h : -200000 ≤ T ∧ T ≤ 200000) (hF : 20 < F) : (mm_lowest F μ (iL T) 10 k).bind (fun x => some x.toInt32) = some (zo_pt T k) := by
  obtain ⟨f, rfl⟩ : ∃ f, F = f + 7 := ⟨F - 7, by omega⟩
  have main : ∀ N : Int, 0 ≤ N → N ≤ 200000 → (N = T ∨ N = -T) → (mm_lowest_17 (f + 7) μ (iL T) 10 k (f + 7) (iL N) 10).bind (fun x => some x.toInt32) = some (zo_pt T k) := by
    intro N h1 h2 h3
    obtain ⟨r, hr⟩ : ∃ r : Nat, N % 10 = r := ⟨(N % 10).toNat, by omega⟩
    have e : mm_lowest_17 (f + 7) μ (iL T) 10 k (f + 7) (iL N) 10 = mm_lowest_17 (f + 7) μ (iL T) 10 k (f + 6) 10 (iL r) := by
      refine zo_lws (by decide) ?_
      have := iL_rm (T := N) (k := 10) (by omega) (by omega)
      rw [Int.tmod_eq_emod_of_nonneg h1, hr] at this
      exact this
    rw [e, zo_lwr r (by omega)]
    have g1 : 1 ≤ zo_g10 r ∧ zo_g10 r ≤ 1000000 := by
      unfold zo_g10
      repeat' split
      all_goals omega
    rw [iL_dv (by omega) g1, show (10 : Int64) = iL 10 from rfl, iL_dv (by omega) g1]
    have cases : (T % 10 = 0 ∧ zo_g10 r = 10) ∨ (T % 10 ≠ 0 ∧ T % 2 = 0 ∧ zo_g10 r = 2) ∨ (T % 10 ≠ 0 ∧ T % 2 ≠ 0 ∧ T % 5 = 0 ∧ zo_g10 r = 5) ∨ (T % 10 ≠ 0 ∧ T % 2 ≠ 0 ∧ T % 5 ≠ 0 ∧ zo_g10 r = 1) := by
      unfold zo_g10
      rcases (by omega : r = 0 ∨ r = 1 ∨ r = 2 ∨ r = 3 ∨ r = 4 ∨ r = 5 ∨ r = 6 ∨ r = 7 ∨ r = 8 ∨ r = 9) with rfl | rfl | rfl | rfl | rfl | rfl | rfl | rfl | rfl | rfl <;> simp <;> omega
    unfold zo_pt
    rcases cases with ⟨c1, c2⟩ | ⟨c1, c2, c3⟩ | ⟨c1, c2, c3, c4⟩ | ⟨c1, c2, c3, c4⟩
    · rw [if_pos c1, c2, i_td c1]
      by_cases hk : k = 0
      · rw [if_pos hk, if_pos hk]; exact congrArg some Int64.toInt32_ofInt
      · rw [if_neg hk, if_neg hk]; rfl
    · rw [if_neg c1, if_pos c2, c3, i_td c2]
      by_cases hk : k = 0
      · rw [if_pos hk, if_pos hk]; exact congrArg some Int64.toInt32_ofInt
      · rw [if_neg hk, if_neg hk]; rfl
    · rw [if_neg c1, if_neg c2, if_pos c3, c4, i_td c3]
      by_cases hk : k = 0
      · rw [if_pos hk, if_pos hk]; exact congrArg some Int64.toInt32_ofInt
      · rw [if_neg hk, if_neg hk]; rfl
    · rw [if_neg c1, if_neg c2, if_neg c3, c4, i_td (T := T) (k := 1) (by omega), Int.ediv_one]
      by_cases hk : k = 0
      · rw [if_pos hk, if_pos hk]; exact congrArg some Int64.toInt32_ofInt
      · rw [if_neg hk, if_neg hk]; rfl
  unfold mm_lowest
  by_cases hn : T < 0
  · rw [if_pos (by rw [zo_cmp0 (by omega)]; exact hn), Int64.neg_ofInt]
    exact main (-T) (by omega) (by omega) (Or.inr rfl)
  · rw [if_neg (by rw [zo_cmp0 (by omega)]; exact hn)]
    exact main T (by omega) (by omega) (Or.inl rfl)
theorem zo_fine {μ : g_St} {T : Int32} {k : Nat} (hk : k ≤ 10) : oo_leastFine μ T (nI k) = (if T ≤ 0 then some 0 else if nI k = 0 then some (-1) else (g_dv ((T + nI k) - (1 : Int32)) (nI k)).bind fun x => if (9999 : Int32) < x then some (-1) else some x) := by
  unfold oo_leastFine
  by_cases a1 : T ≤ 0
  · rw [if_pos a1, if_pos a1]
  · rw [if_neg a1, if_neg a1]
    by_cases a2 : k = 0
    · subst a2; rw [if_pos (by decide), if_pos z_e0]
    · rw [if_neg (show ¬ nI k ≤ (0 : Int32) from by show ¬ nI k ≤ nI 0; rw [z_le (by omega) (by omega)]; omega), if_neg (show ¬ nI k = (0 : Int32) from by show ¬ nI k = nI 0; rw [z_eq (by omega) (by omega)]; exact a2)]
      congr 1
      funext x
      by_cases a3 : x ≤ 9999
      · rw [if_pos a3, if_neg (Int32.not_lt.mpr a3)]
      · rw [if_neg a3, if_pos (Int32.not_le.mp a3)]
theorem zo_lieT {k m x y : Nat} (hk : k ≤ 10) (hm : m ≤ 9999) (hx : x ≤ 999) (hy : y ≤ 999) : ∃ T : Int, (-200000 ≤ T ∧ T ≤ 200000) ∧ (((10 : Int32) - nI k) * (nI x - nI y)) - (nI k * nI m) = iI T := by
  refine ⟨(10 - (k : Int)) * ((x : Int) - y) - k * m, ?_, ?_⟩
  · rcases (by omega : k = 0 ∨ k = 1 ∨ k = 2 ∨ k = 3 ∨ k = 4 ∨ k = 5 ∨ k = 6 ∨ k = 7 ∨ k = 8 ∨ k = 9 ∨ k = 10) with rfl | rfl | rfl | rfl | rfl | rfl | rfl | rfl | rfl | rfl | rfl <;> omega
  · rw [iI_n, iI_n, iI_n, iI_n, show (10 : Int32) = iI 10 from rfl, ← Int32.ofInt_sub, ← Int32.ofInt_sub, ← Int32.ofInt_mul, ← Int32.ofInt_mul, ← Int32.ofInt_sub]
theorem z_ask6 {α : Type} {v : Int32} {n : Nat} (hn : n < 2147483647) {a b : α} : (z_is v (n + 1) → (if 0 ≤ v then if v ≤ nI n then a else b else b) = a) ∧ (¬ z_is v (n + 1) → (if 0 ≤ v then if v ≤ nI n then a else b else b) = b) := by
  have e : (if 0 ≤ v then if v ≤ nI n then a else b else b) = (if 0 ≤ v then if nI n < v then b else a else b) := by
    by_cases h0 : (0 : Int32) ≤ v
    · rw [if_pos h0, if_pos h0]
      by_cases h1 : v ≤ nI n
      · rw [if_pos h1, if_neg (Int32.not_lt.mpr h1)]
      · rw [if_neg h1, if_pos (Int32.not_le.mp h1)]
    · rw [if_neg h0, if_neg h0]
  rw [e]; exact z_ask4 hn
theorem zo_lie {F : Nat} (hF : 4000 < F) {c r : g_St} (h : zi c r) (v1 v2 v3 v4 v5 v6 : Int32) : zo_t c r (oo_lie F v1 v2 v3 v4 v5 v6 c) (mm_lie F v1 v2 v3 v4 v5 v6 r) := by
  obtain ⟨L, U, W, h⟩ := h
  have hb := zo_heldBy h (v1 := v1) (v2 := v2) (v3 := v3)
  have w4 := zo_within (μ := r) (v := v4) (n := 10) (by omega)
  have w5 := zo_within (μ := r) (v := v5) (n := 9999) (by omega)
  have w6 := zo_within (μ := r) (v := v6) (n := 2) (by omega)
  have badm : mm_lie_48 F v1 v2 v3 v4 v5 v6 r = some (0, g_sI r 0 0 1) := by
    unfold mm_lie_48 mm_lie_49
    rw [z_sbind, if_neg (by rw [z_sI_same]; decide)]
    unfold mm_lie_74
    rw [if_pos (z_sI_same _ _ _ _)]
  have bad : zo_t c r (some (.inr 68, c)) (mm_lie_48 F v1 v2 v3 v4 v5 v6 r) := by
    rw [badm]
    exact ⟨0, c, _, rfl, Or.inr ⟨68, rfl, z_sI_same _ _ _ _⟩, L, U, W, zi_R h zo_k0⟩
  have bad0 : zo_t c r (oo_lie_40 F v1 v2 v3 v4 v5 v6 c) (mm_lie_48 F v1 v2 v3 v4 v5 v6 r) := by
    unfold oo_lie_40 oo_lie_41
    rw [if_pos rfl]; exact bad
  unfold oo_lie
  rw [show (10 : Int32) = nI 10 from rfl, show (9999 : Int32) = nI 9999 from rfl, show (2 : Int32) = nI 2 from rfl]
  by_cases b : z_is v1 (zl_pp L) ∧ z_is v2 (zl_pp L) ∧ v1 ≠ v2 ∧ z_is v3 (zw_n W) ∧ c.1 65 v3.toNatClampNeg = v1
  · have e1 : mm_lie F v1 v2 v3 v4 v5 v6 r = (mm_within r v4 0 (nI 10)).bind fun x2 => if x2 = 0 then mm_lie_48 F v1 v2 v3 v4 v5 v6 r else (mm_within r v5 0 (nI 9999)).bind fun x3 => if x3 = 0 then mm_lie_48 F v1 v2 v3 v4 v5 v6 r else (mm_within r v6 0 (nI 2)).bind fun x4 => if x4 = 0 then mm_lie_48 F v1 v2 v3 v4 v5 v6 r else mm_lie_49 F v1 v2 v3 v4 v5 v6 0 r := by
      unfold mm_lie
      rw [(hb.1 b).2, z_sbind, if_neg z_e1]
      rfl
    by_cases b4 : z_is v4 11
    · rw [w4.1 b4, z_sbind, if_neg z_e1] at e1
      rw [(z_ask6 (by omega)).1 b4]
      by_cases b5 : z_is v5 10000
      · rw [w5.1 b5, z_sbind, if_neg z_e1] at e1
        rw [(z_ask6 (by omega)).1 b5]
        by_cases b6 : z_is v6 3
        · rw [w6.1 b6, z_sbind, if_neg z_e1] at e1
          rw [(z_ask6 (by omega)).1 b6, e1]
          unfold oo_lie_41
          rw [if_neg (show ¬ (1 : Int32) = 0 by decide), (hb.1 b).1, z_sbind, if_neg z_e1]
          obtain ⟨⟨p, hp, rfl⟩, ⟨q, hq, rfl⟩, -, ⟨t, ht, rfl⟩, -⟩ := b
          have h0 := zi_R h (zo_k0 (v := 0))
          have e00 : (g_sI r 0 0 0).1 0 0 = 0 := z_sI_same _ _ _ _
          unfold mm_lie_49
          rw [z_sbind, if_pos e00]
          generalize g_sI r 0 0 0 = r0 at h0 e00 ⊢
          obtain ⟨c2, r2, x1, x2, h2, k2, f2⟩ := zo_now h0 (F := F) hp hq ht (by omega)
          rw [x1, x2, z_sbind, z_sbind]
          cases zw_now L U W p q t with
          | true =>
            rw [if_neg (show ¬ nI (true).toNat = (0 : Int32) from by decide), if_neg (show ¬ nI (true).toNat = (0 : Int32) from by decide), z_sbind]
            unfold mm_lie_74
            rw [if_pos (z_sI_same _ _ _ _)]
            exact ⟨0, c2, _, rfl, Or.inr ⟨68, rfl, z_sI_same _ _ _ _⟩, L, U, W, zi_R h2 zo_k0⟩
          | false =>
            rw [if_pos (show nI (false).toNat = (0 : Int32) from rfl), if_pos (show nI (false).toNat = (0 : Int32) from rfl)]
            have ho := h2.1
            have how := h2.2.1
            have h8 := ho.2.2.1
            have h6 := ho.2.1
            have h40 := how.1
            have hC := h2.2.2.1
            have cg : c2.1 62 t = nI (zw_gd W t) := (hC.2.2.2.2.2.2.1 t ht).1
            have og := (how.2.2.1 t ht).1
            have f00 : r2.1 0 0 = 0 := by rw [f2]; exact e00
            obtain ⟨r3, x3, h3, k3, f3, m3⟩ := zo_counts h2 (F := F) (by omega)
            have rg : r3.1 29 t = nI (zw_gd W t) := (h3.2.2.2.1.2.2.2.2.1 t ht).1
            have nq := zw_held_le W q (zw_gd W t) (zw_n W)
            have np := zw_held_le W p (zw_gd W t) (zw_n W)
            have lx := zl_wk_le ho hq (g := zw_gd W t) (by omega) (zw_held W q (zw_gd W t) (zw_n W))
            have ly : zl_wl L p (zw_gd W t) (zw_held W p (zw_gd W t) (zw_n W)) ≤ 999 := by
              unfold zl_wl
              split
              · omega
              · exact zl_wk_le ho hp (by omega) _
            unfold mm_lie_74
            rw [if_neg (show ¬ r2.1 0 0 = (1 : Int32) from by rw [f00]; decide), x3, z_sbind]
            dsimp only
            rw [z_rd (μ := r3) (id := 29) (by omega) (by omega), z_sbind, rg, show (6 : Int32) = nI 6 from rfl, z_mul, nI_add, z_rd (μ := r3) (by omega) (by omega), z_sbind, m3 q _ (by omega) (by omega), zl_R_wk h3.2.2.2.1.1 ho hq (by omega) (by omega), z_sbind, z_mul, nI_add, z_rd (μ := r3) (by omega) (by omega), z_sbind, m3 p _ (by omega) (by omega), show (1 : Int32) = nI 1 from rfl, zl_R_wl h3.2.2.2.1.1 ho hp (by omega) (by omega), z_sbind, z_sbind]
            rw [z_rd (by omega) (by omega), z_sbind, cg, z_ql hC.1, z_sbind, zw_C_held hC.2.2.2.2 how (by omega) (by omega) ⟨h8, h6⟩ (by omega), z_sbind, zl_C_wk hC.2.2.1 ho hq (by omega) (by omega), z_sbind, z_sbind, zw_C_held hC.2.2.2.2 how (by omega) (by omega) ⟨h8, h6⟩ (by omega), z_sbind, zl_C_wl hC.2.2.1 ho hp (by omega) (by omega), z_sbind]
            generalize zl_wk L q (zw_gd W t) (zw_held W q (zw_gd W t) (zw_n W)) = x at lx ⊢
            generalize zl_wl L p (zw_gd W t) (zw_held W p (zw_gd W t) (zw_n W)) = y at ly ⊢
            obtain ⟨k, hk, rfl⟩ := b4
            obtain ⟨m, hm5, rfl⟩ := b5
            obtain ⟨w, hw, rfl⟩ := b6
            have g00 : r3.1 0 0 = 0 := by rw [f3]; exact f00
            have fin : ∀ z : Int32, zo_t c r (some (.inl z, c2)) (some (z, r3)) := fun z => ⟨z, c2, r3, rfl, Or.inl ⟨rfl, g00⟩, L, U, W, h3⟩
            by_cases a : w = 2
            · subst a
              rw [if_neg (show ¬ nI 2 < (2 : Int32) from by decide), if_pos (show nI 2 = (2 : Int32) from rfl), zo_fine (by omega)]
              by_cases a1 : ((10 : Int32) - nI k) * (nI x - nI y) ≤ 0
              · rw [if_pos a1, if_pos a1, z_sbind]; exact fin _
              · rw [if_neg a1, if_neg a1]
                by_cases a2 : nI k = (0 : Int32)
                · rw [if_pos a2, if_pos a2, z_sbind]; exact fin _
                · rw [if_neg a2, if_neg a2]
                  have dv : ∀ z, g_dv z (nI k) = some (z / nI k) := fun z => by unfold g_dv; rw [if_neg a2]
                  rw [show (nI 1 : Int32) = 1 from rfl, dv, z_sbind, z_sbind]
                  by_cases a3 : (9999 : Int32) < (((10 : Int32) - nI k) * (nI x - nI y) + nI k - 1) / nI k
                  · rw [if_pos a3, if_pos a3, z_sbind]; exact fin _
                  · rw [if_neg a3, if_neg a3, z_sbind]; exact fin _
            · rw [if_pos (show nI w < (2 : Int32) from nI_lt (b := 2) (by omega) (by omega)), if_neg (show ¬ nI w = (2 : Int32) from by show ¬ nI w = nI 2; rw [z_eq (by omega) (by omega)]; exact a)]
              obtain ⟨T, hT, eT⟩ := zo_lieT (k := k) (m := m) (by omega) (by omega) lx ly
              rw [eT, zo_C_pt hT, z_sbind]
              rw [show (iI T).toInt64 = iL T from Int32.toInt64_ofInt (by show (-2147483648 : Int) ≤ T; omega) (by show T ≤ (2147483647 : Int); omega)]
              have := zo_R_pt (μ := r3) (T := T) (k := nI w) (F := F) hT (by omega)
              cases e : mm_lowest F r3 (iL T) 10 (nI w) with
              | none => rw [e] at this; cases this
              | some z =>
                rw [e, z_sbind] at this
                rw [z_sbind]
                have this := Option.some.inj this
                rw [← this]
                exact fin _
        · rw [w6.2 b6, z_sbind, if_pos z_e0] at e1
          rw [(z_ask6 (by omega)).2 b6, e1]; exact bad0
      · rw [w5.2 b5, z_sbind, if_pos z_e0] at e1
        rw [(z_ask6 (by omega)).2 b5, e1]; exact bad0
    · rw [w4.2 b4, z_sbind, if_pos z_e0] at e1
      rw [(z_ask6 (by omega)).2 b4, e1]; exact bad0
  · have e1 : mm_lie F v1 v2 v3 v4 v5 v6 r = mm_lie_48 F v1 v2 v3 v4 v5 v6 r := by
      unfold mm_lie
      rw [(hb.2 b).2, z_sbind, if_pos z_e0]
    rw [e1]
    have e41 : oo_lie_41 F v1 v2 v3 v4 v5 v6 1 c = some (.inr 68, c) := by
      unfold oo_lie_41
      rw [if_neg (by decide), (hb.2 b).1, z_sbind, if_pos z_e0]
    rw [e41]
    repeat' split
    all_goals first | exact bad | exact bad0
