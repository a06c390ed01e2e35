/-! Layer 2: the LAND as a value, and what both programs answer of it -/
abbrev zl_T : Type := (Nat × Nat × Nat) × (Nat → Nat → Nat) × (Nat → Nat) × (Nat → Nat) × (Nat → Nat) × (Nat → Nat) × (Nat → Nat → Nat)
def zl_pl (L : zl_T) : Nat := L.1.1
def zl_gd (L : zl_T) : Nat := L.1.2.1
def zl_pp (L : zl_T) : Nat := L.1.2.2
def zl_wy (L : zl_T) : Nat → Nat → Nat := L.2.1
def zl_hr (L : zl_T) : Nat → Nat := L.2.2.1
def zl_fr (L : zl_T) : Nat → Nat := L.2.2.2.1
def zl_hm (L : zl_T) : Nat → Nat := L.2.2.2.2.1
def zl_mk (L : zl_T) : Nat → Nat := L.2.2.2.2.2.1
def zl_wo (L : zl_T) : Nat → Nat → Nat := L.2.2.2.2.2.2
def zl_ok (L : zl_T) : Prop := zl_pl L ≤ 5 ∧ zl_gd L ≤ 6 ∧ zl_pp L ≤ 8 ∧ (∀ a b, a < zl_pl L → b < zl_pl L → zl_wy L a b ≤ 999) ∧ (∀ g, g < zl_gd L → zl_hr L g ≤ 24 ∧ zl_fr L g < 2 ^ g) ∧ (∀ p, p < zl_pp L → zl_hm L p < zl_pl L ∧ zl_mk L p < 2 ^ zl_gd L ∧ ∀ j, j < 18 → zl_wo L p j ≤ 999)
def zl_C (L : zl_T) (c : g_St) (b : Nat) : Prop := c.1 b 0 = nI (zl_pl L) ∧ c.1 b 1 = nI (zl_gd L) ∧ c.1 b 2 = nI (zl_pp L) ∧ (∀ x y, x < zl_pl L → y < zl_pl L → c.1 (b + 5 + x) y = nI (zl_wy L x y)) ∧ (∀ g, g < zl_gd L → c.1 (b + 10) g = nI (zl_hr L g) ∧ c.1 (b + 11) g = nI (zl_fr L g)) ∧ (∀ p, p < zl_pp L → c.1 (b + 12) p = nI (zl_hm L p) ∧ c.1 (b + 13) p = nI (zl_mk L p) ∧ ∀ j, j < 18 → c.1 (b + 15 + p) j = nI (zl_wo L p j))
def zl_R (L : zl_T) (r : g_St) : Prop := r.1 2 0 = nI (zl_pl L) ∧ r.1 3 0 = nI (zl_gd L) ∧ r.1 4 0 = nI (zl_pp L) ∧ (∀ x y, x < zl_pl L → y < zl_pl L → r.1 8 (5 * x + y) = nI (zl_wy L x y)) ∧ (∀ g, g < zl_gd L → r.1 9 g = nI (zl_hr L g) ∧ r.1 10 g = nI (zl_fr L g)) ∧ (∀ p, p < zl_pp L → r.1 11 p = nI (zl_hm L p) ∧ r.1 12 p = nI (zl_mk L p) ∧ ∀ j, j < 18 → r.1 13 (18 * p + j) = nI (zl_wo L p j))
theorem zl_mk_lt {L : zl_T} (h : zl_ok L) {p : Nat} (hp : p < zl_pp L) : zl_mk L p < 64 := by
  have h1 := (h.2.2.2.2.2 p hp).2.1
  have h2 : (2 : Nat) ^ zl_gd L ≤ 2 ^ 6 := Nat.pow_le_pow_right (by omega) h.2.1
  omega
theorem zl_fr_lt {L : zl_T} (h : zl_ok L) {g : Nat} (hg : g < zl_gd L) : zl_fr L g < 64 := by
  have h1 := (h.2.2.2.2.1 g hg).2
  have h2 : (2 : Nat) ^ g ≤ 2 ^ 6 := Nat.pow_le_pow_right (by omega) (by have := h.2.1; omega)
  omega
/-- who is among 0 .. n-1 -/
def z_is (v : Int32) (n : Nat) : Prop := ∃ j, j < n ∧ v = nI j
theorem z_is_of {v : Int32} {n : Nat} (hn : n < 2147483648) (h0 : 0 ≤ v) (h1 : v < nI n) : z_is v n := by
  obtain ⟨j, hj, rfl⟩ := nI_of (x := v) (by rw [Int32.lt_iff_toInt_lt]; rw [Int32.le_iff_toInt_le] at h0; omega)
  rw [z_lt hj hn] at h1
  exact ⟨j, h1, rfl⟩
theorem z_is_0 {j n : Nat} (h : j < n) (hn : n < 2147483648) : 0 ≤ nI j ∧ nI j < nI n := ⟨nI_pos' (by omega), nI_lt h (by omega)⟩
/-- what both programs ask first -/
theorem z_ask {α : Type} {v : Int32} {n : Nat} (hn : n < 2147483648) {a b : α} (h : ¬ z_is v n) : (if nI 0 ≤ v then if v < nI n then a else b else b) = b := by
  by_cases h0 : nI 0 ≤ v
  · rw [if_pos h0]
    by_cases h1 : v < nI n
    · exact absurd (z_is_of hn h0 h1) h
    · rw [if_neg h1]
  · rw [if_neg h0]
def zl_mkrs (L : zl_T) (g : Nat) : Nat := z_ors (fun p => z_bit (zl_mk L p) g <<< p) (zl_pp L)
theorem zl_C_makersOf {L : zl_T} {c : g_St} {b F g : Nat} (hC : zl_C L c b) (ho : zl_ok L) (hg : g < 32) (hF : 10 < F) : ol_makersOf F b c (nI g) = some (nI (zl_mkrs L g)) := by
  have h8 := ho.2.2.1
  unfold ol_makersOf
  refine z_cnt0 (n := zl_pp L) (A := fun f i => ol_makersOf_4 F b c (nI g) f (nI (z_ors (fun p => z_bit (zl_mk L p) g <<< p) i)) (nI i)) (fun f i hi => ?_) (fun f => ?_) (by omega)
  · show ol_makersOf_4_b F b c (nI g) _ _ (nI i) = _
    have hm := hC.2.2.2.2.2 i hi
    have hm2 := zl_mk_lt ho hi
    have hb := z_bit_lt (zl_mk L i) g
    have hs : z_bit (zl_mk L i) g * 2 ^ i < 4294967296 := by
      have : (2 : Nat) ^ i ≤ 2 ^ 8 := Nat.pow_le_pow_right (by omega) (by omega)
      calc z_bit (zl_mk L i) g * 2 ^ i ≤ 1 * 2 ^ 8 := Nat.mul_le_mul (by omega) this
        _ < _ := by omega
    unfold ol_makersOf_4_b
    simp (disch := omega) only [↓reduceIte, nI_lit, z_sbind, z_rd, z_rl, z_rr, z_wr, z_wl, nI_add, z_mul, z_lt, z_le, z_eq, z_ltm1, z_m1lt, z_eqm1, z_m1eq, z_lem1, z_m1le, if_true, if_false, ite_true, ite_false, hC.2.2.1, hi, hm.2.1, z_and, z_or, z_xor, z_n31, z_shr, z_shl1, z_bit_and, z_andn, z_shl, z_ors]
  · show ol_makersOf_4_b F b c (nI g) _ _ (nI (zl_pp L)) = _
    unfold ol_makersOf_4_b
    simp (disch := omega) only [↓reduceIte, nI_lit, z_sbind, z_rd, z_rl, z_rr, z_wr, z_wl, nI_add, z_mul, z_lt, z_le, z_eq, z_ltm1, z_m1lt, z_eqm1, z_m1eq, z_lem1, z_m1le, if_true, if_false, ite_true, ite_false, hC.2.2.1, Nat.lt_irrefl, zl_mkrs]
theorem zl_R_makersOf {L : zl_T} {r : g_St} {F g : Nat} (hC : zl_R L r) (ho : zl_ok L) (hg : g < 32) (hF : 10 < F) : mm_makersOf F r (nI g) = some (nI (zl_mkrs L g)) := by
  have h8 := ho.2.2.1
  unfold mm_makersOf
  refine z_cnt0 (n := zl_pp L) (A := fun f i => mm_makersOf_4 F r (nI g) f (nI (z_ors (fun p => z_bit (zl_mk L p) g <<< p) i)) (nI i)) (fun f i hi => ?_) (fun f => ?_) (by omega)
  · show mm_makersOf_4_b F r (nI g) _ _ (nI i) = _
    have hm := hC.2.2.2.2.2 i hi
    have hm2 := zl_mk_lt ho hi
    have hb := z_bit_lt (zl_mk L i) g
    have hs : z_bit (zl_mk L i) g * 2 ^ i < 4294967296 := by
      have : (2 : Nat) ^ i ≤ 2 ^ 8 := Nat.pow_le_pow_right (by omega) (by omega)
      calc z_bit (zl_mk L i) g * 2 ^ i ≤ 1 * 2 ^ 8 := Nat.mul_le_mul (by omega) this
        _ < _ := by omega
    unfold mm_makersOf_4_b
    simp (disch := omega) only [↓reduceIte, nI_lit, z_sbind, z_rd, z_rl, z_rr, z_wr, z_wl, nI_add, z_mul, z_lt, z_le, z_eq, z_ltm1, z_m1lt, z_eqm1, z_m1eq, z_lem1, z_m1le, if_true, if_false, ite_true, ite_false, hC.2.2.1, hi, hm.2.1, z_and, z_or, z_xor, z_n31, z_shr, z_shl1, z_bit_and, z_andn, z_shl, z_ors]
  · show mm_makersOf_4_b F r (nI g) _ _ (nI (zl_pp L)) = _
    unfold mm_makersOf_4_b
    simp (disch := omega) only [↓reduceIte, nI_lit, z_sbind, z_rd, z_rl, z_rr, z_wr, z_wl, nI_add, z_mul, z_lt, z_le, z_eq, z_ltm1, z_m1lt, z_eqm1, z_m1eq, z_lem1, z_m1le, if_true, if_false, ite_true, ite_false, hC.2.2.1, Nat.lt_irrefl, zl_mkrs]
