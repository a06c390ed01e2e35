/-! Layer 2: YEARS, the next number drawn -/
def zy_s (n : Nat) : Nat := (n * 1103515245 + 12345) % 2147483648
theorem zy_s_lt (n : Nat) : zy_s n < 2147483648 := Nat.mod_lt _ (by omega)
theorem zy_L0 {T : Int} (h : -4611686018427387904 ≤ T ∧ T ≤ 4611686018427387904) (h0 : T ≠ 0) : iL T ≠ 0 := by
  intro e
  have := congrArg Int64.toInt e
  rw [Int64.toInt_ofInt_of_le (by omega) (by omega)] at this
  exact h0 this
theorem zy_rm {a b : Nat} (ha : a < 4611686018427387904) (hb : 1 ≤ b ∧ b < 4611686018427387904) : g_rmL (iL a) (iL b) = some (iL (a % b : Nat)) := by
  unfold g_rmL
  rw [if_neg (zy_L0 (by omega) (by omega))]
  rw [show iL (a : Int) / iL (b : Int) = iL ((a : Int).tdiv b) from (Int64.ofInt_tdiv (by show (-9223372036854775808 : Int) ≤ a; omega) (by show (a : Int) ≤ (9223372036854775807 : Int); omega) (by show (-9223372036854775808 : Int) ≤ b; omega) (by show (b : Int) ≤ (9223372036854775807 : Int); omega)).symm]
  rw [← Int64.ofInt_mul, ← Int64.ofInt_sub, Int.mul_comm, ← Int.tmod_def, Int.tmod_eq_emod_of_nonneg (by omega)]
  rfl
theorem zy_dv {a b : Nat} (ha : a < 4611686018427387904) (hb : 1 ≤ b ∧ b < 4611686018427387904) : g_dvL (iL a) (iL b) = some (iL (a / b : Nat)) := by
  unfold g_dvL
  rw [if_neg (zy_L0 (by omega) (by omega))]
  rw [show iL (a : Int) / iL (b : Int) = iL ((a : Int).tdiv b) from (Int64.ofInt_tdiv (by show (-9223372036854775808 : Int) ≤ a; omega) (by show (a : Int) ≤ (9223372036854775807 : Int); omega) (by show (-9223372036854775808 : Int) ≤ b; omega) (by show (b : Int) ≤ (9223372036854775807 : Int); omega)).symm]
  rw [Int.tdiv_eq_ediv_of_nonneg (by omega)]
  rfl
theorem zy_lcg {n : Nat} (h : n < 2147483648) : g_rmL ((iL n * (1103515245 : Int64)) + (12345 : Int64)) (2147483648 : Int64) = some (iL (zy_s n)) := by
  have e : (iL n * (1103515245 : Int64)) + (12345 : Int64) = iL ((n * 1103515245 + 12345 : Nat)) := by
    rw [show (1103515245 : Int64) = iL (1103515245 : Int) from rfl, show (12345 : Int64) = iL (12345 : Int) from rfl, ← Int64.ofInt_mul, ← Int64.ofInt_add]
    rfl
  rw [e, show (2147483648 : Int64) = iL ((2147483648 : Nat) : Int) from rfl]
  exact zy_rm (by omega) (by omega)
theorem zy_of {n : Nat} (h : n < 2147483648) : (nI n).toInt64 = iL n := by
  rw [iI_n]
  exact Int32.toInt64_ofInt (by show (-2147483648 : Int) ≤ n; omega) (by show (n : Int) ≤ (2147483647 : Int); omega)
/-- which of k is drawn, and the number after -/
def zy_d (n k : Nat) : Nat := zy_s n / 65536 % k
theorem zy_back (a : Nat) : (iL a).toInt32 = nI a := by
  rw [Int64.toInt32_ofInt]; exact Int32.ofInt_eq_ofNat
theorem zy_draws {r : g_St} {n k : Nat} (h : n < 2147483648) (hk : 1 ≤ k ∧ k < 100) (e : r.2.1 0 59 = iL n) : mm_draws (nI k) r = some (nI (zy_d n k), g_sL r 0 59 (iL (zy_s n))) := by
  have hs := zy_s_lt n
  have e2 : (g_sL r 0 59 (iL (zy_s n))).2.1 0 59 = iL (zy_s n) := by rw [z_sL, if_pos ⟨rfl, rfl⟩]
  unfold mm_draws
  rw [e, zy_lcg h, z_sbind, z_sbind, e2, show (65536 : Int64) = iL ((65536 : Nat) : Int) from rfl, zy_dv (by omega) (by omega), z_sbind, zy_of (by omega), zy_rm (by omega) (by omega), z_sbind, zy_back]
  rfl
