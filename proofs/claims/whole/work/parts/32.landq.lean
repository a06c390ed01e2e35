/-! Layer 2: what is asked of the LAND alone -/
/-- worths -/
theorem zl_C_worthOf {L : zl_T} {c : g_St} {b p g k : Nat} (hC : zl_C L c b) (ho : zl_ok L) (hp : p < zl_pp L) (hg : g < 6) (hk : k < 3) : ol_worthOf b c (nI p) (nI g) (nI k) = some (nI (zl_wo L p (3 * g + k))) := by
  have h8 := ho.2.2.1
  have hw := (hC.2.2.2.2.2 p hp).2.2 (g * 3 + k) (by omega)
  unfold ol_worthOf
  simp (disch := omega) only [↓reduceIte, nI_lit, z_sbind, z_rd, z_rl, z_rr, z_wr, z_wl, nI_add, z_mul, z_lt, z_le, z_eq, z_ltm1, z_m1lt, z_eqm1, z_m1eq, z_lem1, z_m1le, if_true, if_false, ite_true, ite_false, Nat.zero_le]
  rw [if_pos hk, hw, Nat.mul_comm]
theorem zl_R_more {L : zl_T} {r : g_St} {p g k : Nat} (hC : zl_R L r) (ho : zl_ok L) (hp : p < zl_pp L) (hg : g < 6) (hk : k < 3) : mm_more r (nI p) (nI g) (nI k) = some (nI (zl_wo L p (3 * g + k))) := by
  have h8 := ho.2.2.1
  have hw := (hC.2.2.2.2.2 p hp).2.2 (3 * g + k) (by omega)
  unfold mm_more
  simp (disch := omega) only [↓reduceIte, nI_lit, z_sbind, z_rd, z_rl, z_rr, z_wr, z_wl, nI_add, z_mul, z_lt, z_le, z_eq, z_ltm1, z_m1lt, z_eqm1, z_m1eq, z_lem1, z_m1le, if_true, if_false, ite_true, ite_false, Nat.zero_le]
  rw [if_pos hk, show 18 * p + 3 * g + k = 18 * p + (3 * g + k) from by omega, hw]
/-- of so many -/
def zl_wk (L : zl_T) (p g k : Nat) : Nat := if k < 3 then zl_wo L p (3 * g + k) else 0
theorem zl_wk_le {L : zl_T} (ho : zl_ok L) {p g : Nat} (hp : p < zl_pp L) (hg : g < 6) (k : Nat) : zl_wk L p g k ≤ 999 := by
  unfold zl_wk
  split
  · exact (ho.2.2.2.2.2 p hp).2.2 _ (by omega)
  · omega
theorem zl_C_wk {L : zl_T} {c : g_St} {b p g k : Nat} (hC : zl_C L c b) (ho : zl_ok L) (hp : p < zl_pp L) (hg : g < 6) (hk : k < 2147483648) : ol_worthOf b c (nI p) (nI g) (nI k) = some (nI (zl_wk L p g k)) := by
  unfold zl_wk
  by_cases h3 : k < 3
  · rw [if_pos h3]; exact zl_C_worthOf hC ho hp hg h3
  · rw [if_neg h3]; unfold ol_worthOf; simp (disch := omega) only [↓reduceIte, nI_lit, z_sbind, z_rd, z_rl, z_rr, z_wr, z_wl, nI_add, z_mul, z_lt, z_le, z_eq, z_ltm1, z_m1lt, z_eqm1, z_m1eq, z_lem1, z_m1le, if_true, if_false, ite_true, ite_false, Nat.zero_le, h3]
theorem zl_C_wkm {L : zl_T} {c : g_St} {b : Nat} {x y : Int32} : ol_worthOf b c x y (-nI 1) = some (nI 0) := by
  unfold ol_worthOf
  rw [if_neg (by decide)]
  rfl
theorem zl_R_wk {L : zl_T} {r : g_St} {p g k : Nat} (hC : zl_R L r) (ho : zl_ok L) (hp : p < zl_pp L) (hg : g < 6) (hk : k < 2147483648) : mm_more r (nI p) (nI g) (nI k) = some (nI (zl_wk L p g k)) := by
  unfold zl_wk
  by_cases h3 : k < 3
  · rw [if_pos h3]; exact zl_R_more hC ho hp hg h3
  · rw [if_neg h3]; unfold mm_more; simp (disch := omega) only [↓reduceIte, nI_lit, z_sbind, z_rd, z_rl, z_rr, z_wr, z_wl, nI_add, z_mul, z_lt, z_le, z_eq, z_ltm1, z_m1lt, z_eqm1, z_m1eq, z_lem1, z_m1le, if_true, if_false, ite_true, ite_false, Nat.zero_le, h3]
theorem zl_R_wkm {r : g_St} {x y : Int32} : mm_more r x y (-nI 1) = some (nI 0) := by
  unfold mm_more
  rw [if_neg (by decide)]
  rfl
/-- what is had -/
def zl_hstep (L : zl_T) (s h g : Nat) : Nat := if zl_mkrs L g &&& s = 0 then h else if zl_fr L g &&& h = zl_fr L g then h ||| 2 ^ g else h
def zl_had (L : zl_T) (s : Nat) : Nat → Nat
  | 0 => 0
  | g + 1 => zl_hstep L s (zl_had L s g) g
theorem zl_mkrs_lt {L : zl_T} (ho : zl_ok L) (g : Nat) : zl_mkrs L g < 256 := by
  refine z_ors_lt (k := 8) (fun i hi => ?_)
  have h8 := ho.2.2.1
  have := z_bit_lt (zl_mk L i) g
  have h2 : (2 : Nat) ^ i ≤ 2 ^ 7 := Nat.pow_le_pow_right (by omega) (by omega)
  rw [Nat.shiftLeft_eq]
  calc z_bit (zl_mk L i) g * 2 ^ i ≤ 1 * 2 ^ 7 := Nat.mul_le_mul (by omega) h2
    _ < _ := by decide
theorem zl_had_lt (L : zl_T) (s : Nat) : ∀ g, zl_had L s g < 2 ^ g
  | 0 => by show (0 : Nat) < 1; omega
  | g + 1 => by
    have h := zl_had_lt L s g
    have h1 : zl_had L s g < 2 ^ (g + 1) := by rw [Nat.pow_succ]; omega
    have h2 : zl_had L s g ||| 2 ^ g < 2 ^ (g + 1) := Nat.or_lt_two_pow h1 (by rw [Nat.pow_succ]; have := Nat.two_pow_pos g; omega)
    show zl_hstep L s (zl_had L s g) g < _
    unfold zl_hstep
    split
    · exact h1
    · split
      · exact h2
      · exact h1
theorem zl_C_hadIn {L : zl_T} {c : g_St} {b F s : Nat} (hC : zl_C L c b) (ho : zl_ok L) (hs : s < 256) (hF : 10 < F) : ol_hadIn F b c (nI s) = some (nI (zl_had L s (zl_gd L))) := by
  have h6 := ho.2.1
  unfold ol_hadIn
  refine z_cnt0 (n := zl_gd L) (A := fun f i => ol_hadIn_4 F b c (nI s) f (nI (zl_had L s i)) (nI i)) (fun f i hi => ?_) (fun f => ?_) (by omega)
  · show ol_hadIn_4_b F b c (nI s) _ _ (nI i) = _
    have hf := (hC.2.2.2.2.1 i hi).2
    have h1 := zl_mkrs_lt ho i
    have h2 : zl_mkrs L i &&& s < 256 := Nat.and_lt_two_pow _ (n := 8) hs
    have h3 := zl_fr_lt ho hi
    have h4 : zl_fr L i ^^^ (zl_fr L i &&& zl_had L s i) < 256 := Nat.xor_lt_two_pow (n := 8) (by omega) (Nat.and_lt_two_pow _ (by have := zl_had_lt L s i; have : (2:Nat)^i ≤ 2^6 := Nat.pow_le_pow_right (by omega) (by omega); omega))
    unfold ol_hadIn_4_b
    simp (disch := omega) only [↓reduceIte, nI_lit, z_sbind, z_rd, z_rl, z_rr, z_wr, z_wl, nI_add, z_mul, z_lt, z_le, z_eq, z_ltm1, z_m1lt, z_eqm1, z_m1eq, z_lem1, z_m1le, if_true, if_false, ite_true, ite_false, hC.2.1, hi, zl_C_makersOf hC ho, z_and, z_or, z_xor, z_n31, z_shr, z_shl1, z_bit_and, z_andn, hf, z_sub_iff, zl_had, zl_hstep]
    split
    · rfl
    · split <;> rfl
  · show ol_hadIn_4_b F b c (nI s) _ _ (nI (zl_gd L)) = _
    unfold ol_hadIn_4_b
    simp (disch := omega) only [↓reduceIte, nI_lit, z_sbind, z_rd, z_rl, z_rr, z_wr, z_wl, nI_add, z_mul, z_lt, z_le, z_eq, z_ltm1, z_m1lt, z_eqm1, z_m1eq, z_lem1, z_m1le, if_true, if_false, ite_true, ite_false, hC.2.1, Nat.lt_irrefl]
theorem zl_had_tb {L : zl_T} {s : Nat} : ∀ {n m j : Nat}, j < m → m ≤ n → (zl_had L s n).testBit j = (zl_had L s m).testBit j := by
  intro n
  induction n with
  | zero => intro m j h1 h2; omega
  | succ n ih =>
    intro m j h1 h2
    by_cases h : m = n + 1
    · rw [h]
    · rw [← ih h1 (by omega)]
      show (zl_hstep L s (zl_had L s n) n).testBit j = _
      unfold zl_hstep
      split
      · rfl
      · split
        · rw [Nat.testBit_or, Nat.testBit_two_pow]; simp [show ¬ n = j by omega]
        · rfl
theorem zl_hfix {L : zl_T} {s n g : Nat} (hg : g < n) (hf : zl_fr L g < 2 ^ g) : zl_hstep L s (zl_had L s n) g = zl_had L s n := by
  unfold zl_hstep
  split
  · rfl
  · rename_i h1
    split
    · rename_i h2
      have hb : (zl_had L s n).testBit g = true := by
        rw [zl_had_tb (m := g + 1) (by omega) (by omega)]
        show (zl_hstep L s (zl_had L s g) g).testBit g = true
        unfold zl_hstep
        rw [if_neg h1, if_pos]
        · rw [Nat.testBit_or, Nat.testBit_two_pow_self, Bool.or_true]
        · apply Nat.eq_of_testBit_eq
          intro j
          have h3 := congrArg (fun x => x.testBit j) h2
          simp only [Nat.testBit_and] at h3 ⊢
          cases hj : (zl_fr L g).testBit j with
          | false => simp
          | true =>
            rw [hj, Bool.true_and] at h3
            have hjg : j < g := by
              refine Nat.lt_of_not_le (fun hle => ?_)
              have h5 : zl_fr L g < 2 ^ j := Nat.lt_of_lt_of_le hf (Nat.pow_le_pow_right (by omega) hle)
              rw [Nat.testBit_lt_two_pow h5] at hj; cases hj
            rw [Bool.true_and, ← zl_had_tb (n := n) hjg (by omega)]
            exact h3
      apply Nat.eq_of_testBit_eq
      intro j
      rw [Nat.testBit_or, Nat.testBit_two_pow]
      by_cases hj : g = j
      · subst hj; simp [hb]
      · simp [hj]
    · rfl
def zl_pass (L : zl_T) (s h : Nat) : Nat → Nat
  | 0 => h
  | g + 1 => zl_hstep L s (zl_pass L s h g) g
theorem zl_pass_0 (L : zl_T) (s : Nat) : ∀ g, zl_pass L s 0 g = zl_had L s g
  | 0 => rfl
  | g + 1 => by show zl_hstep L s _ g = zl_hstep L s _ g; rw [zl_pass_0 L s g]
theorem zl_pass_fix {L : zl_T} (ho : zl_ok L) (s : Nat) : ∀ g, g ≤ zl_gd L → zl_pass L s (zl_had L s (zl_gd L)) g = zl_had L s (zl_gd L)
  | 0, _ => rfl
  | g + 1, h => by show zl_hstep L s _ g = _; rw [zl_pass_fix ho s g (by omega)]; exact zl_hfix h (ho.2.2.2.2.1 g h).2
theorem zl_pass_lt {L : zl_T} (ho : zl_ok L) {s h : Nat} (hh : h < 64) : ∀ g, g ≤ zl_gd L → zl_pass L s h g < 64
  | 0, _ => hh
  | g + 1, h9 => by
    have := zl_pass_lt ho hh (s := s) g (by omega)
    have h6 := ho.2.1
    have h2 : (2 : Nat) ^ g ≤ 2 ^ 5 := Nat.pow_le_pow_right (by omega) (by omega)
    show zl_hstep L s (zl_pass L s h g) g < _
    unfold zl_hstep
    split
    · exact this
    · split
      · exact Nat.or_lt_two_pow (n := 6) this (by omega)
      · exact this
/-- one of the reference's six rounds -/
theorem zl_R_pass {L : zl_T} {r : g_St} {F s h : Nat} {v3 : Int32} {K : Int32 → Int32 → Option Int32} (hC : zl_R L r) (ho : zl_ok L) (hs : s < 256) (hh : h < 64) (hF : 10 < F) : mm_hadBy_13 F r (nI s) v3 K F (nI h) (nI 0) = K (nI (zl_pass L s h (zl_gd L))) (v3 + 1) := by
  have h6 := ho.2.1
  refine z_cnt0 (n := zl_gd L) (A := fun f i => mm_hadBy_13 F r (nI s) v3 K f (nI (zl_pass L s h i)) (nI i)) (fun f i hi => ?_) (fun f => ?_) (by omega)
  · show mm_hadBy_13_b F r (nI s) v3 K _ _ (nI i) = _
    have hf := (hC.2.2.2.2.1 i hi).2
    have h1 := zl_mkrs_lt ho i
    have h2 : zl_mkrs L i &&& s < 256 := Nat.and_lt_two_pow _ (n := 8) hs
    have h3 := zl_fr_lt ho hi
    have h5 := zl_pass_lt ho hh (s := s) i (by omega)
    have h4 : zl_fr L i ^^^ (zl_fr L i &&& zl_pass L s h i) < 256 := Nat.xor_lt_two_pow (n := 8) (by omega) (Nat.and_lt_two_pow _ (by omega))
    unfold mm_hadBy_13_b
    simp (disch := omega) only [↓reduceIte, nI_lit, z_sbind, z_rd, z_rl, z_rr, z_wr, z_wl, nI_add, z_mul, z_lt, z_le, z_eq, z_ltm1, z_m1lt, z_eqm1, z_m1eq, z_lem1, z_m1le, if_true, if_false, ite_true, ite_false, hC.2.1, hi, zl_R_makersOf hC ho, z_and, z_or, z_xor, z_n31, z_shr, z_shl1, z_bit_and, z_andn, hf, z_sub_iff, zl_pass, zl_hstep, Nat.pos_iff_ne_zero, ne_eq, ite_not]
    split
    · rfl
    · split <;> rfl
  · show mm_hadBy_13_b F r (nI s) v3 K _ _ (nI (zl_gd L)) = _
    unfold mm_hadBy_13_b
    simp (disch := omega) only [↓reduceIte, nI_lit, z_sbind, z_rd, z_rl, z_rr, z_wr, z_wl, nI_add, z_mul, z_lt, z_le, z_eq, z_ltm1, z_m1lt, z_eqm1, z_m1eq, z_lem1, z_m1le, if_true, if_false, ite_true, ite_false, hC.2.1, Nat.lt_irrefl]
def zl_rnd (L : zl_T) (s : Nat) : Nat → Nat
  | 0 => 0
  | n + 1 => zl_pass L s (zl_rnd L s n) (zl_gd L)
theorem zl_rnd_s {L : zl_T} (ho : zl_ok L) (s : Nat) : ∀ n, zl_rnd L s (n + 1) = zl_had L s (zl_gd L)
  | 0 => zl_pass_0 L s _
  | n + 1 => by show zl_pass L s (zl_rnd L s (n + 1)) _ = _; rw [zl_rnd_s ho s n]; exact zl_pass_fix ho s _ (Nat.le_refl _)
theorem zl_rnd_lt {L : zl_T} (ho : zl_ok L) (s : Nat) : ∀ n, zl_rnd L s n < 64
  | 0 => by show (0 : Nat) < 64; omega
  | n + 1 => zl_pass_lt ho (zl_rnd_lt ho s n) _ (Nat.le_refl _)
theorem zl_R_hadBy {L : zl_T} {r : g_St} {F s : Nat} (hC : zl_R L r) (ho : zl_ok L) (hs : s < 256) (hF : 10 < F) : mm_hadBy F r (nI s) = some (nI (zl_had L s (zl_gd L))) := by
  unfold mm_hadBy
  refine z_cnt0 (n := 6) (A := fun f i => mm_hadBy_4 F r (nI s) f (nI (zl_rnd L s i)) (nI i)) (fun f i hi => ?_) (fun f => ?_) (by omega)
  · show mm_hadBy_4_b F r (nI s) _ _ (nI i) = _
    unfold mm_hadBy_4_b
    simp (disch := omega) only [↓reduceIte, nI_lit, z_sbind, z_rd, z_rl, z_rr, z_wr, z_wl, nI_add, z_mul, z_lt, z_le, z_eq, z_ltm1, z_m1lt, z_eqm1, z_m1eq, z_lem1, z_m1le, if_true, if_false, ite_true, ite_false, hi]
    rw [zl_R_pass hC ho hs (zl_rnd_lt ho s i) hF, nI_1]
    rfl
  · show mm_hadBy_4_b F r (nI s) _ _ (nI 6) = _
    unfold mm_hadBy_4_b
    simp (disch := omega) only [↓reduceIte, nI_lit, z_sbind, z_rd, z_rl, z_rr, z_wr, z_wl, nI_add, z_mul, z_lt, z_le, z_eq, z_ltm1, z_m1lt, z_eqm1, z_m1eq, z_lem1, z_m1le, if_true, if_false, ite_true, ite_false, Nat.lt_irrefl]
    rw [zl_rnd_s ho s 5]
