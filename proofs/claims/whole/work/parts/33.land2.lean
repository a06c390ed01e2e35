/-! Layer 2: more of the LAND -/
/-- who is wanted, what is never had -/
def zl_wset (L : zl_T) (p : Nat) (n : Nat) : Nat := z_ors (fun g => if 0 < zl_wo L p (3 * g) then 2 ^ g else 0) n
def zl_want (L : zl_T) (s n : Nat) : Nat := z_ors (fun p => if z_bit s p = 1 then zl_wset L p (zl_gd L) else 0) n
def zl_nev (L : zl_T) (s : Nat) : Nat := zl_want L s (zl_pp L) ^^^ (zl_want L s (zl_pp L) &&& zl_had L s (zl_gd L))
theorem zl_wset_lt {L : zl_T} (ho : zl_ok L) (p : Nat) {n : Nat} (hn : n ≤ zl_gd L) : zl_wset L p n < 64 := by
  refine z_ors_lt (k := 6) (fun i hi => ?_)
  have h6 := ho.2.1
  have h2 : (2 : Nat) ^ i ≤ 2 ^ 5 := Nat.pow_le_pow_right (by omega) (by omega)
  split <;> omega
theorem zl_want_lt {L : zl_T} (ho : zl_ok L) (s n : Nat) : zl_want L s n < 64 := by
  refine z_ors_lt (k := 6) (fun i hi => ?_)
  have := zl_wset_lt ho i (Nat.le_refl _)
  split <;> omega
theorem zl_nev_lt {L : zl_T} (ho : zl_ok L) (s : Nat) : zl_nev L s < 64 :=
  Nat.xor_lt_two_pow (n := 6) (zl_want_lt ho s _) (Nat.lt_of_le_of_lt Nat.and_le_left (zl_want_lt ho s _))
theorem zl_C_wset {L : zl_T} {c : g_St} {b F s p a : Nat} {K4 : Int32 → Int32 → Option Int32} (hC : zl_C L c b) (ho : zl_ok L) (hs : s < 256) (hp : p < zl_pp L) (hF : 10 < F) : ol_lackedIn_15 F b c (nI s) (nI p) K4 F (nI a) (nI 0) = K4 (nI (a ||| (if z_bit s p = 1 then zl_wset L p (zl_gd L) else 0))) (nI (p + 1)) := by
  have h6 := ho.2.1
  have h8 := ho.2.2.1
  by_cases hb : z_bit s p = 1
  · rw [if_pos hb]
    have h := z_cnt0 (n := zl_gd L) (X := K4 (nI (a ||| zl_wset L p (zl_gd L))) (nI (p + 1))) (A := fun f i => ol_lackedIn_15 F b c (nI s) (nI p) K4 f (nI (a ||| zl_wset L p i)) (nI i)) (fun f i hi => ?_) (fun f => ?_) (F := F) (by omega)
    · simp only [zl_wset, z_ors, Nat.or_zero] at h ⊢; exact h
    · show ol_lackedIn_15_b F b c (nI s) (nI p) K4 _ _ (nI i) = _
      have hw := (ho.2.2.2.2.2 p hp).2.2 (3 * i) (by omega)
      unfold ol_lackedIn_15_b
      simp (disch := omega) only [↓reduceIte, nI_lit, z_sbind, z_rd, z_rl, z_rr, z_wr, z_wl, nI_add, z_mul, z_lt, z_le, z_eq, z_ltm1, z_m1lt, z_eqm1, z_m1eq, z_lem1, z_m1le, if_true, if_false, ite_true, ite_false, z_and, z_or, z_xor, z_n31, z_shr, z_shl1, z_bit_and, z_andn, hC.2.1, hi, hb, zl_C_worthOf hC ho, Nat.add_zero, zl_wset, z_ors]
      split
      · rw [Nat.or_assoc]
      · rw [Nat.or_zero, Nat.or_zero]
    · show ol_lackedIn_15_b F b c (nI s) (nI p) K4 _ _ (nI (zl_gd L)) = _
      unfold ol_lackedIn_15_b
      simp (disch := omega) only [↓reduceIte, nI_lit, z_sbind, z_rd, z_rl, z_rr, z_wr, z_wl, nI_add, z_mul, z_lt, z_le, z_eq, z_ltm1, z_m1lt, z_eqm1, z_m1eq, z_lem1, z_m1le, if_true, if_false, ite_true, ite_false, hC.2.1, Nat.lt_irrefl]
  · rw [if_neg hb]
    obtain ⟨F, rfl⟩ : ∃ f, F = f + 1 := ⟨F - 1, by omega⟩
    show ol_lackedIn_15_b (F + 1) b c (nI s) (nI p) K4 _ _ (nI 0) = _
    have hb2 := z_bit_lt s p
    unfold ol_lackedIn_15_b
    simp (disch := omega) only [↓reduceIte, nI_lit, z_sbind, z_rd, z_rl, z_rr, z_wr, z_wl, nI_add, z_mul, z_lt, z_le, z_eq, z_ltm1, z_m1lt, z_eqm1, z_m1eq, z_lem1, z_m1le, if_true, if_false, ite_true, ite_false, z_and, z_or, z_xor, z_n31, z_shr, z_shl1, z_bit_and, z_andn, hC.2.1, hb, Nat.or_zero, ite_self]
theorem zl_C_lacked {L : zl_T} {c : g_St} {b F s : Nat} (hC : zl_C L c b) (ho : zl_ok L) (hs : s < 256) (hF : 10 < F) : ol_lackedIn F b c (nI s) = some (nI (zl_nev L s)) := by
  have h8 := ho.2.2.1
  unfold ol_lackedIn
  refine z_cnt0 (n := zl_pp L) (A := fun f i => ol_lackedIn_4 F b c (nI s) f (nI (zl_want L s i)) (nI i)) (fun f i hi => ?_) (fun f => ?_) (by omega)
  · show ol_lackedIn_4_b F b c (nI s) _ _ (nI i) = _
    unfold ol_lackedIn_4_b
    simp (disch := omega) only [↓reduceIte, nI_lit, z_sbind, z_rd, z_rl, z_rr, z_wr, z_wl, nI_add, z_mul, z_lt, z_le, z_eq, z_ltm1, z_m1lt, z_eqm1, z_m1eq, z_lem1, z_m1le, if_true, if_false, ite_true, ite_false, hC.2.2.1, hi, zl_C_wset hC ho hs hi hF, zl_want, z_ors]
  · show ol_lackedIn_4_b F b c (nI s) _ _ (nI (zl_pp L)) = _
    unfold ol_lackedIn_4_b
    simp (disch := omega) only [↓reduceIte, nI_lit, z_sbind, z_rd, z_rl, z_rr, z_wr, z_wl, nI_add, z_mul, z_lt, z_le, z_eq, z_ltm1, z_m1lt, z_eqm1, z_m1eq, z_lem1, z_m1le, if_true, if_false, ite_true, ite_false, z_and, z_or, z_xor, z_n31, z_shr, z_shl1, z_bit_and, z_andn, hC.2.2.1, Nat.lt_irrefl, zl_C_hadIn hC ho hs hF, zl_nev]
theorem zl_R_wset {L : zl_T} {r : g_St} {F s p a : Nat} {K4 : Int32 → Int32 → Option Int32} (hC : zl_R L r) (ho : zl_ok L) (hs : s < 256) (hp : p < zl_pp L) (hF : 10 < F) : mm_neverBy_17 F r (nI s) (nI p) K4 F (nI a) (nI 0) = K4 (nI (a ||| (if z_bit s p = 1 then zl_wset L p (zl_gd L) else 0))) (nI (p + 1)) := by
  have h6 := ho.2.1
  have h8 := ho.2.2.1
  have h := z_cnt0 (n := zl_gd L) (X := K4 (nI (a ||| (if z_bit s p = 1 then zl_wset L p (zl_gd L) else 0))) (nI (p + 1))) (A := fun f i => mm_neverBy_17 F r (nI s) (nI p) K4 f (nI (a ||| (if z_bit s p = 1 then zl_wset L p i else 0))) (nI i)) (fun f i hi => ?_) (fun f => ?_) (F := F) (by omega)
  · simp only [zl_wset, z_ors, Nat.or_zero, ite_self] at h ⊢; exact h
  · show mm_neverBy_17_b F r (nI s) (nI p) K4 _ _ (nI i) = _
    have hw := (ho.2.2.2.2.2 p hp).2.2 (3 * i) (by omega)
    have hw2 := (hC.2.2.2.2.2 p hp).2.2 (3 * i) (by omega)
    have hb2 := z_bit_lt s p
    unfold mm_neverBy_17_b
    simp (disch := omega) only [↓reduceIte, nI_lit, z_sbind, z_rd, z_rl, z_rr, z_wr, z_wl, nI_add, z_mul, z_lt, z_le, z_eq, z_ltm1, z_m1lt, z_eqm1, z_m1eq, z_lem1, z_m1le, if_true, if_false, ite_true, ite_false, z_and, z_or, z_xor, z_n31, z_shr, z_shl1, z_bit_and, z_andn, hC.2.1, hi, hw2, zl_wset, z_ors]
    by_cases hb : z_bit s p = 1
    · simp only [hb, if_true]
      split
      · rw [Nat.or_assoc]
      · rw [Nat.or_zero, Nat.or_zero]
    · simp only [hb, if_false, Nat.or_zero]
  · show mm_neverBy_17_b F r (nI s) (nI p) K4 _ _ (nI (zl_gd L)) = _
    unfold mm_neverBy_17_b
    simp (disch := omega) only [↓reduceIte, nI_lit, z_sbind, z_rd, z_rl, z_rr, z_wr, z_wl, nI_add, z_mul, z_lt, z_le, z_eq, z_ltm1, z_m1lt, z_eqm1, z_m1eq, z_lem1, z_m1le, if_true, if_false, ite_true, ite_false, hC.2.1, Nat.lt_irrefl]
theorem zl_R_never {L : zl_T} {r : g_St} {F s : Nat} (hC : zl_R L r) (ho : zl_ok L) (hs : s < 256) (hF : 10 < F) : mm_neverBy F r (nI s) = some (nI (zl_nev L s)) := by
  have h8 := ho.2.2.1
  unfold mm_neverBy
  refine z_cnt0 (n := zl_pp L) (A := fun f i => mm_neverBy_4 F r (nI s) f (nI (zl_want L s i)) (nI i)) (fun f i hi => ?_) (fun f => ?_) (by omega)
  · show mm_neverBy_4_b F r (nI s) _ _ (nI i) = _
    unfold mm_neverBy_4_b
    simp (disch := omega) only [↓reduceIte, nI_lit, z_sbind, z_rd, z_rl, z_rr, z_wr, z_wl, nI_add, z_mul, z_lt, z_le, z_eq, z_ltm1, z_m1lt, z_eqm1, z_m1eq, z_lem1, z_m1le, if_true, if_false, ite_true, ite_false, hC.2.2.1, hi, zl_R_wset hC ho hs hi hF, zl_want, z_ors]
  · show mm_neverBy_4_b F r (nI s) _ _ (nI (zl_pp L)) = _
    unfold mm_neverBy_4_b
    simp (disch := omega) only [↓reduceIte, nI_lit, z_sbind, z_rd, z_rl, z_rr, z_wr, z_wl, nI_add, z_mul, z_lt, z_le, z_eq, z_ltm1, z_m1lt, z_eqm1, z_m1eq, z_lem1, z_m1le, if_true, if_false, ite_true, ite_false, z_and, z_or, z_xor, z_n31, z_shr, z_shl1, z_bit_and, z_andn, hC.2.2.1, Nat.lt_irrefl, zl_R_hadBy hC ho hs hF, zl_nev]
/-- who comes, what the ways are -/
def zl_near (L : zl_T) (pl h p : Nat) : Bool := decide (zl_wy L (zl_hm L p) pl < 999) && decide (2 * zl_wy L (zl_hm L p) pl ≤ h)
def zl_com (L : zl_T) (pl h n : Nat) : Nat := z_ors (fun p => if zl_near L pl h p = true then 2 ^ p else 0) n
def zl_hto (L : zl_T) (pl s n : Nat) : Nat := z_sum (fun p => if z_bit s p = 1 then 2 * zl_wy L (zl_hm L p) pl else 0) n
theorem zl_com_lt {L : zl_T} (pl h : Nat) {n : Nat} (hn : n ≤ 8) : zl_com L pl h n < 2 ^ n := by
  refine z_ors_lt (fun i hi => ?_)
  split
  · exact Nat.pow_lt_pow_right (by omega) hi
  · exact Nat.two_pow_pos _
theorem z_within {μ : g_St} {a h : Nat} (ha : a ≤ 999) (hh : h < 2147483648) : ol_isWithin μ (nI a) (nI h) = some (nI (if a < 999 ∧ 2 * a ≤ h then 1 else 0)) := by
  unfold ol_isWithin
  simp (disch := omega) only [↓reduceIte, nI_lit, z_sbind, z_rd, z_rl, z_rr, z_wr, z_wl, nI_add, z_mul, z_lt, z_le, z_eq, z_ltm1, z_m1lt, z_eqm1, z_m1eq, z_lem1, z_m1le, if_true, if_false, ite_true, ite_false]
  by_cases h1 : a < 999 <;> by_cases h2 : 2 * a ≤ h <;> simp [h1, h2]
theorem zl_C_com {L : zl_T} {c : g_St} {b F pl h : Nat} (hC : zl_C L c b) (ho : zl_ok L) (hpl : pl < zl_pl L) (hh : h < 2147483648) (hF : 10 < F) : ol_comersTo F b c (nI pl) (nI h) = some (nI (zl_com L pl h (zl_pp L))) := by
  have h5 := ho.1
  have h8 := ho.2.2.1
  unfold ol_comersTo
  refine z_cnt0 (n := zl_pp L) (A := fun f i => ol_comersTo_5 F b c (nI pl) (nI h) f (nI (zl_com L pl h i)) (nI i)) (fun f i hi => ?_) (fun f => ?_) (by omega)
  · show ol_comersTo_5_b F b c (nI pl) (nI h) _ _ (nI i) = _
    have hm := hC.2.2.2.2.2 i hi
    have hl := (ho.2.2.2.2.2 i hi).1
    have hw := hC.2.2.2.1 _ _ hl hpl
    have hw2 := ho.2.2.2.1 _ _ hl hpl
    unfold ol_comersTo_5_b
    simp (disch := omega) only [↓reduceIte, nI_lit, z_sbind, z_rd, z_rl, z_rr, z_wr, z_wl, nI_add, z_mul, z_lt, z_le, z_eq, z_ltm1, z_m1lt, z_eqm1, z_m1eq, z_lem1, z_m1le, if_true, if_false, ite_true, ite_false, z_and, z_or, z_xor, z_n31, z_shr, z_shl1, z_bit_and, z_andn, hC.2.2.1, hi, hm.1, hw, z_within, zl_com, z_ors, zl_near]
    by_cases h1 : zl_wy L (zl_hm L i) pl < 999 <;> by_cases h2 : 2 * zl_wy L (zl_hm L i) pl ≤ h <;> simp [h1, h2, z_10]
  · show ol_comersTo_5_b F b c (nI pl) (nI h) _ _ (nI (zl_pp L)) = _
    unfold ol_comersTo_5_b
    simp (disch := omega) only [↓reduceIte, nI_lit, z_sbind, z_rd, z_rl, z_rr, z_wr, z_wl, nI_add, z_mul, z_lt, z_le, z_eq, z_ltm1, z_m1lt, z_eqm1, z_m1eq, z_lem1, z_m1le, if_true, if_false, ite_true, ite_false, hC.2.2.1, Nat.lt_irrefl]
theorem zl_hto_le {L : zl_T} (ho : zl_ok L) {pl s n : Nat} (hpl : pl < zl_pl L) (hn : n ≤ zl_pp L) : zl_hto L pl s n ≤ 16000 := by
  have h := z_sum_le (f := fun p => if z_bit s p = 1 then 2 * zl_wy L (zl_hm L p) pl else 0) (M := 1998) (n := n) (fun i hi => ?_)
  · have h8 := ho.2.2.1
    have : n * 1998 ≤ 8 * 1998 := Nat.mul_le_mul_right _ (by omega)
    unfold zl_hto; omega
  · have := ho.2.2.2.1 _ _ (ho.2.2.2.2.2 i (by omega)).1 hpl
    show (if z_bit s i = 1 then 2 * zl_wy L (zl_hm L i) pl else 0) ≤ 1998
    split <;> omega
theorem zl_C_hto {L : zl_T} {c : g_St} {b F pl s : Nat} (hC : zl_C L c b) (ho : zl_ok L) (hpl : pl < zl_pl L) (hs : s < 256) (hF : 10 < F) : ol_hoursTo F b c (nI pl) (nI s) = some (nI (zl_hto L pl s (zl_pp L))) := by
  have h5 := ho.1
  have h8 := ho.2.2.1
  unfold ol_hoursTo
  refine z_cnt0 (n := zl_pp L) (A := fun f i => ol_hoursTo_5 F b c (nI pl) (nI s) f (nI (zl_hto L pl s i)) (nI i)) (fun f i hi => ?_) (fun f => ?_) (by omega)
  · show ol_hoursTo_5_b F b c (nI pl) (nI s) _ _ (nI i) = _
    have hm := hC.2.2.2.2.2 i hi
    have hl := (ho.2.2.2.2.2 i hi).1
    have hw := hC.2.2.2.1 _ _ hl hpl
    have hb2 := z_bit_lt s i
    unfold ol_hoursTo_5_b
    simp (disch := omega) only [↓reduceIte, nI_lit, z_sbind, z_rd, z_rl, z_rr, z_wr, z_wl, nI_add, z_mul, z_lt, z_le, z_eq, z_ltm1, z_m1lt, z_eqm1, z_m1eq, z_lem1, z_m1le, if_true, if_false, ite_true, ite_false, z_and, z_or, z_xor, z_n31, z_shr, z_shl1, z_bit_and, z_andn, hC.2.2.1, hi, hm.1, hw, zl_hto, z_sum]
    split <;> rfl
  · show ol_hoursTo_5_b F b c (nI pl) (nI s) _ _ (nI (zl_pp L)) = _
    unfold ol_hoursTo_5_b
    simp (disch := omega) only [↓reduceIte, nI_lit, z_sbind, z_rd, z_rl, z_rr, z_wr, z_wl, nI_add, z_mul, z_lt, z_le, z_eq, z_ltm1, z_m1lt, z_eqm1, z_m1eq, z_lem1, z_m1le, if_true, if_false, ite_true, ite_false, hC.2.2.1, Nat.lt_irrefl]
/-- makers within so many hours -/
def zl_mw (L : zl_T) (p g h n : Nat) : Nat := z_sum (fun i => if i ≠ p ∧ z_bit (zl_mk L i) g = 1 ∧ zl_wy L (zl_hm L p) (zl_hm L i) < 999 ∧ 2 * zl_wy L (zl_hm L p) (zl_hm L i) ≤ h then 1 else 0) n
theorem zl_C_mw {L : zl_T} {c : g_St} {b F p g h : Nat} (hC : zl_C L c b) (ho : zl_ok L) (hp : p < zl_pp L) (hg : g < 6) (hh : h < 2147483648) (hF : 10 < F) : ol_makersWithin F b c (nI p) (nI g) (nI h) = some (nI (zl_mw L p g h (zl_pp L))) := by
  have h5 := ho.1
  have h8 := ho.2.2.1
  unfold ol_makersWithin
  refine z_cnt0 (n := zl_pp L) (A := fun f i => ol_makersWithin_6 F b c (nI p) (nI g) (nI h) f (nI (zl_mw L p g h i)) (nI i)) (fun f i hi => ?_) (fun f => ?_) (by omega)
  · show ol_makersWithin_6_b F b c (nI p) (nI g) (nI h) _ _ (nI i) = _
    have hm := hC.2.2.2.2.2 i hi
    have hm2 := hC.2.2.2.2.2 p hp
    have hl := (ho.2.2.2.2.2 i hi).1
    have hl2 := (ho.2.2.2.2.2 p hp).1
    have hmk := zl_mk_lt ho hi
    have hw := hC.2.2.2.1 _ _ hl2 hl
    have hw2 := ho.2.2.2.1 _ _ hl2 hl
    have hb2 := z_bit_lt (zl_mk L i) g
    unfold ol_makersWithin_6_b ol_makersWithin_40 ol_makersWithin_41 ol_away
    simp (disch := omega) only [↓reduceIte, nI_lit, z_sbind, z_rd, z_rl, z_rr, z_wr, z_wl, nI_add, z_mul, z_lt, z_le, z_eq, z_ltm1, z_m1lt, z_eqm1, z_m1eq, z_lem1, z_m1le, if_true, if_false, ite_true, ite_false, z_and, z_or, z_xor, z_n31, z_shr, z_shl1, z_bit_and, z_andn, hC.2.2.1, hi, hm.1, hm.2.1, hm2.1, hw, z_within, zl_mw, z_sum]
    by_cases h1 : i = p
    · simp [h1]
    · by_cases h2 : z_bit (zl_mk L i) g = 1
      · by_cases h3 : zl_wy L (zl_hm L p) (zl_hm L i) < 999 <;> by_cases h4 : 2 * zl_wy L (zl_hm L p) (zl_hm L i) ≤ h <;> simp [h1, h2, h3, h4, z_10]
      · simp [h1, h2]
  · show ol_makersWithin_6_b F b c (nI p) (nI g) (nI h) _ _ (nI (zl_pp L)) = _
    unfold ol_makersWithin_6_b
    simp (disch := omega) only [↓reduceIte, nI_lit, z_sbind, z_rd, z_rl, z_rr, z_wr, z_wl, nI_add, z_mul, z_lt, z_le, z_eq, z_ltm1, z_m1lt, z_eqm1, z_m1eq, z_lem1, z_m1le, if_true, if_false, ite_true, ite_false, hC.2.2.1, Nat.lt_irrefl]
