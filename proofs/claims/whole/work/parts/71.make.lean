/-! Layer 2: MAKE -/
theorem zl_mkrs_tb {L : zl_T} {g j : Nat} : (zl_mkrs L g).testBit j = (decide (j < zl_pp L) && (zl_mk L j).testBit g) := by
  have e : zl_mkrs L g = z_bs (fun p => (zl_mk L p).testBit g) (zl_pp L) := by
    unfold zl_mkrs z_bs
    refine z_ors_congr (fun p hp => ?_)
    show z_bit (zl_mk L p) g <<< p = if (zl_mk L p).testBit g = true then 2 ^ p else 0
    rw [z_bit_tb]
    cases (zl_mk L p).testBit g with
    | false => rw [if_neg (by decide)]; show 0 <<< p = 0; exact Nat.zero_shiftLeft _
    | true => rw [if_pos rfl]; show 1 <<< p = 2 ^ p; exact Nat.one_shiftLeft _
  rw [e, z_bs_tb]
theorem zo_mkr {L : zl_T} {p q g : Nat} (hp : p < zl_pp L) (hq : q < zl_pp L) : (zl_mkrs L g &&& (2 ^ p ||| 2 ^ q) = 0) = (z_bit (zl_mk L p) g = 0 ∧ z_bit (zl_mk L q) g = 0) := by
  rw [z_bit_zero, z_bit_zero]
  apply propext; constructor
  · intro h
    constructor
    · have := congrArg (fun x => x.testBit p) h
      simp only [Nat.testBit_and, Nat.testBit_or, Nat.testBit_two_pow_self, Bool.true_or, Bool.and_true, Nat.zero_testBit, zl_mkrs_tb, decide_eq_true hp, Bool.true_and] at this
      exact this
    · have := congrArg (fun x => x.testBit q) h
      simp only [Nat.testBit_and, Nat.testBit_or, Nat.testBit_two_pow_self, Bool.or_true, Bool.and_true, Nat.zero_testBit, zl_mkrs_tb, decide_eq_true hq, Bool.true_and] at this
      exact this
  · rintro ⟨h1, h2⟩
    apply Nat.eq_of_testBit_eq
    intro j
    rw [Nat.testBit_and, Nat.testBit_or, Nat.testBit_two_pow, Nat.testBit_two_pow, Nat.zero_testBit, zl_mkrs_tb]
    by_cases e1 : p = j
    · subst e1; rw [h1, Bool.and_false, Bool.false_and]
    · by_cases e2 : q = j
      · subst e2; rw [h2, Bool.and_false, Bool.false_and]
      · rw [decide_eq_false e1, decide_eq_false e2]; simp
theorem zo_mkr2 {a b g : Nat} : (z_bit (a ||| b) g = 0) = (z_bit a g = 0 ∧ z_bit b g = 0) := by
  rw [z_bit_zero, z_bit_zero, z_bit_zero, Nat.testBit_or, Bool.or_eq_false_iff]
/-- one holds each of them -/
def zw_hs (W : zw_T) (p fr : Nat) : Nat → Bool
  | 0 => true
  | j + 1 => zw_hs W p fr j && (decide (z_bit fr j = 0) || decide (zw_fh W p j (zw_n W) ≠ 0))
theorem zw_hs_at {W : zw_T} {p fr : Nat} : ∀ {n : Nat}, zw_hs W p fr n = true → ∀ j, j < n → z_bit fr j = 1 → zw_fh W p j (zw_n W) ≠ 0
  | 0, _, j, hj, _ => absurd hj (by omega)
  | n + 1, h, j, hj, hb => by
    have h : (zw_hs W p fr n && (decide (z_bit fr n = 0) || decide (zw_fh W p n (zw_n W) ≠ 0))) = true := h
    rw [Bool.and_eq_true, Bool.or_eq_true, decide_eq_true_eq, decide_eq_true_eq] at h
    by_cases e : j = n
    · subst e
      rcases h.2 with q | q
      · omega
      · exact q
    · exact zw_hs_at h.1 j (by omega) hb
theorem zw_C_has {L : zl_T} {W : zw_T} {c : g_St} {F p fr : Nat} (hC : zw_C L W c 61) (how : zw_ok L W) (hp : p < 8) (h8 : zl_pp L ≤ 8 ∧ zl_gd L ≤ 6) (hfr : fr < 64) (hF : 60 < F) : ow_holdsOfEach F 61 c (nI p) (nI fr) = some (nI (zw_hs W p fr 6).toNat) := by
  have h40 := how.1
  unfold ow_holdsOfEach
  refine z_cnt (n := 6) (fun i => zw_hs W p fr i = true) (A := fun f i => ow_holdsOfEach_2 F 61 c (nI p) (nI fr) f (nI i)) (fun f i hi hI => ?_) (fun f hI => ?_) F 0 (by omega) rfl (by omega)
  · have e : zw_hs W p fr (i + 1) = (decide (z_bit fr i = 0) || decide (zw_fh W p i (zw_n W) ≠ 0)) := by
      show (zw_hs W p fr i && (decide (z_bit fr i = 0) || decide (zw_fh W p i (zw_n W) ≠ 0))) = _
      rw [hI, Bool.true_and]
    have fl := zw_fh_le (W := W) (p := p) (g := i) (zw_n W)
    have bl := z_bit_lt fr i
    have x : ow_holdsOfEach_2 F 61 c (nI p) (nI fr) (f + 1) (nI i) = if z_bit fr i = 1 ∧ zw_fh W p i (zw_n W) = 0 then some 0 else ow_holdsOfEach_2 F 61 c (nI p) (nI fr) f (nI (i + 1)) := by
      show ow_holdsOfEach_2_b F 61 c (nI p) (nI fr) _ (nI i) = _
      unfold ow_holdsOfEach_2_b
      rw [if_pos (show nI i < (6 : Int32) from nI_lt (b := 6) hi (by omega)), zw_C_first hC how hp hi h8 (by omega), z_sbind, show ((nI fr >>> (nI i &&& 31)) &&& (1 : Int32)) = nI (z_bit fr i) from by rw [show (31 : Int32) = nI 31 from rfl, z_and, z_n31 (by omega), z_shr (by omega) (by omega), show (1 : Int32) = nI 1 from rfl, z_and, z_bit_and], nI_1]
      by_cases a1 : z_bit fr i = 1
      · rw [if_pos (show nI (z_bit fr i) = (1 : Int32) from by rw [a1]; rfl)]
        by_cases a2 : zw_fh W p i (zw_n W) = 0
        · rw [if_pos (show zE (zw_fh W p i (zw_n W)) = (-1 : Int32) from by rw [a2]; rfl), if_pos ⟨a1, a2⟩]
        · rw [if_neg (show ¬ zE (zw_fh W p i (zw_n W)) = (-1 : Int32) from fun q => a2 (by have : zE (zw_fh W p i (zw_n W)) = -nI 1 := q; rwa [zE_m1 (by omega)] at this)), if_neg (fun q => a2 q.2)]
      · rw [if_neg (show ¬ nI (z_bit fr i) = (1 : Int32) from fun q => a1 (by have : nI (z_bit fr i) = nI 1 := q; rwa [z_eq (by omega) (by omega)] at this)), if_neg (fun q => a1 q.1)]
    by_cases h : z_bit fr i = 1 ∧ zw_fh W p i (zw_n W) = 0
    · left
      rw [if_pos h] at x
      show ow_holdsOfEach_2 F 61 c (nI p) (nI fr) (f + 1) (nI i) = _
      rw [x]
      cases e6 : zw_hs W p fr 6 with
      | false => rfl
      | true => exact absurd h.2 (zw_hs_at e6 i hi h.1)
    · right
      rw [if_neg h] at x
      refine ⟨?_, x⟩
      show zw_hs W p fr (i + 1) = true
      rw [e, Bool.or_eq_true, decide_eq_true_eq, decide_eq_true_eq]
      by_cases a : z_bit fr i = 0
      · exact Or.inl a
      · exact Or.inr (fun q => h ⟨by omega, q⟩)
  · show ow_holdsOfEach_2_b F 61 c (nI p) (nI fr) _ (nI 6) = _
    have hI : zw_hs W p fr 6 = true := hI
    unfold ow_holdsOfEach_2_b
    rw [if_neg (by decide), hI]
    rfl
theorem zw_R_has {L : zl_T} {W : zw_T} {r : g_St} {F p fr : Nat} (hR : zw_R L W r) (how : zw_ok L W) (hp : p < 8) (h8 : zl_pp L ≤ 8 ∧ zl_gd L ≤ 6) (hfr : fr < 64) (hF : 60 < F) : mm_hasAll F r (nI p) (nI fr) = some (nI (zw_hs W p fr 6).toNat) := by
  have h40 := how.1
  unfold mm_hasAll
  refine z_cnt (n := 6) (fun i => zw_hs W p fr i = true) (A := fun f i => mm_hasAll_2 F r (nI p) (nI fr) f (nI i)) (fun f i hi hI => ?_) (fun f hI => ?_) F 0 (by omega) rfl (by omega)
  · have e : zw_hs W p fr (i + 1) = (decide (z_bit fr i = 0) || decide (zw_fh W p i (zw_n W) ≠ 0)) := by
      show (zw_hs W p fr i && (decide (z_bit fr i = 0) || decide (zw_fh W p i (zw_n W) ≠ 0))) = _
      rw [hI, Bool.true_and]
    have fl := zw_fh_le (W := W) (p := p) (g := i) (zw_n W)
    have bl := z_bit_lt fr i
    have x : mm_hasAll_2 F r (nI p) (nI fr) (f + 1) (nI i) = if z_bit fr i = 1 ∧ zw_fh W p i (zw_n W) = 0 then some 0 else mm_hasAll_2 F r (nI p) (nI fr) f (nI (i + 1)) := by
      show mm_hasAll_2_b F r (nI p) (nI fr) _ (nI i) = _
      unfold mm_hasAll_2_b
      rw [if_pos (show nI i < (6 : Int32) from nI_lt (b := 6) hi (by omega)), zw_R_first hR how hp hi h8 (by omega), z_sbind, show ((nI fr >>> (nI i &&& 31)) &&& (1 : Int32)) = nI (z_bit fr i) from by rw [show (31 : Int32) = nI 31 from rfl, z_and, z_n31 (by omega), z_shr (by omega) (by omega), show (1 : Int32) = nI 1 from rfl, z_and, z_bit_and], nI_1]
      by_cases a1 : z_bit fr i = 1
      · rw [if_pos (show nI (z_bit fr i) = (1 : Int32) from by rw [a1]; rfl)]
        by_cases a2 : zw_fh W p i (zw_n W) = 0
        · rw [if_pos (show zE (zw_fh W p i (zw_n W)) < (0 : Int32) from by rw [a2]; decide), if_pos ⟨a1, a2⟩]
        · rw [if_neg (show ¬ zE (zw_fh W p i (zw_n W)) < (0 : Int32) from fun q => a2 (by have : zE (zw_fh W p i (zw_n W)) < nI 0 := q; rwa [zE_lt0 (by omega)] at this)), if_neg (fun q => a2 q.2)]
      · rw [if_neg (show ¬ nI (z_bit fr i) = (1 : Int32) from fun q => a1 (by have : nI (z_bit fr i) = nI 1 := q; rwa [z_eq (by omega) (by omega)] at this)), if_neg (fun q => a1 q.1)]
    by_cases h : z_bit fr i = 1 ∧ zw_fh W p i (zw_n W) = 0
    · left
      rw [if_pos h] at x
      show mm_hasAll_2 F r (nI p) (nI fr) (f + 1) (nI i) = _
      rw [x]
      cases e6 : zw_hs W p fr 6 with
      | false => rfl
      | true => exact absurd h.2 (zw_hs_at e6 i hi h.1)
    · right
      rw [if_neg h] at x
      refine ⟨?_, x⟩
      show zw_hs W p fr (i + 1) = true
      rw [e, Bool.or_eq_true, decide_eq_true_eq, decide_eq_true_eq]
      by_cases a : z_bit fr i = 0
      · exact Or.inl a
      · exact Or.inr (fun q => h ⟨by omega, q⟩)
  · show mm_hasAll_2_b F r (nI p) (nI fr) _ (nI 6) = _
    have hI : zw_hs W p fr 6 = true := hI
    unfold mm_hasAll_2_b
    rw [if_neg (by decide), hI]
    rfl
/-- they are used up -/
def zw_sh (W : zw_T) (ho : Nat → Nat) : zw_T := (W.1, W.2.1, W.2.2.1, W.2.2.2.1, ho, W.2.2.2.2.2)
def zw_us (W : zw_T) (p fr : Nat) : Nat → zw_T
  | 0 => W
  | j + 1 => if z_bit fr j = 1 then zw_sh (zw_us W p fr j) (fun i => if i = zw_fh (zw_us W p fr j) p j (zw_n W) - 1 then 0 else zw_ho (zw_us W p fr j) i) else zw_us W p fr j
theorem zw_us_s {W : zw_T} {p fr j : Nat} : zw_us W p fr (j + 1) = if z_bit fr j = 1 then zw_sh (zw_us W p fr j) (fun i => if i = zw_fh (zw_us W p fr j) p j (zw_n W) - 1 then 0 else zw_ho (zw_us W p fr j) i) else zw_us W p fr j := rfl
theorem zw_us_k {W : zw_T} {p fr : Nat} : ∀ j, zw_n (zw_us W p fr j) = zw_n W ∧ zw_lf (zw_us W p fr j) = zw_lf W ∧ zw_gd (zw_us W p fr j) = zw_gd W ∧ zw_so (zw_us W p fr j) = zw_so W ∧ zw_mk (zw_us W p fr j) = zw_mk W ∧ zw_dn (zw_us W p fr j) = zw_dn W ∧ zw_ck (zw_us W p fr j) = zw_ck W ∧ zw_pc (zw_us W p fr j) = zw_pc W
  | 0 => ⟨rfl, rfl, rfl, rfl, rfl, rfl, rfl, rfl⟩
  | j + 1 => by
    have ih := zw_us_k (W := W) (p := p) (fr := fr) j
    rw [zw_us_s]
    split
    · exact ih
    · exact ih
theorem zw_us_ho {W : zw_T} {p fr : Nat} : ∀ j i, zw_ho (zw_us W p fr j) i = zw_ho W i ∨ zw_ho (zw_us W p fr j) i = 0
  | 0, i => Or.inl rfl
  | j + 1, i => by
    have ih := zw_us_ho (W := W) (p := p) (fr := fr) j i
    rw [zw_us_s]
    split
    · show (if i = _ then 0 else zw_ho (zw_us W p fr j) i) = _ ∨ (if i = _ then 0 else zw_ho (zw_us W p fr j) i) = 0
      split
      · exact Or.inr rfl
      · exact ih
    · exact ih
theorem zw_fh_congr {W V : zw_T} {p g : Nat} (hg : zw_gd V = zw_gd W) : ∀ {n : Nat}, (∀ i, i < n → zw_gd W i = g → zw_ho V i = zw_ho W i) → zw_fh V p g n = zw_fh W p g n
  | 0, _ => rfl
  | n + 1, h => by
    have ih := zw_fh_congr hg (p := p) (g := g) (n := n) (fun i hi => h i (by omega))
    show (if zw_fh V p g n ≠ 0 then zw_fh V p g n else if zw_ho V n = p + 1 ∧ zw_gd V n = g then n + 1 else 0) = (if zw_fh W p g n ≠ 0 then zw_fh W p g n else if zw_ho W n = p + 1 ∧ zw_gd W n = g then n + 1 else 0)
    rw [ih, hg]
    by_cases e : zw_gd W n = g
    · rw [h n (by omega) e]
    · simp only [e, and_false]
theorem zw_us_fh {W : zw_T} {p fr : Nat} (hs : zw_hs W p fr 6 = true) : ∀ j, j ≤ 6 → ∀ g, j ≤ g → zw_fh (zw_us W p fr j) p g (zw_n W) = zw_fh W p g (zw_n W)
  | 0, _, _, _ => rfl
  | j + 1, hj, g, hg => by
    have ih := zw_us_fh hs j (by omega)
    have k := zw_us_k (W := W) (p := p) (fr := fr) j
    by_cases e : z_bit fr j = 1
    · have e2 : zw_us W p fr (j + 1) = zw_sh (zw_us W p fr j) (fun i => if i = zw_fh (zw_us W p fr j) p j (zw_n W) - 1 then 0 else zw_ho (zw_us W p fr j) i) := by
        show (if z_bit fr j = 1 then _ else _) = _
        rw [if_pos e]
      rw [e2, ← ih g (by omega)]
      refine zw_fh_congr (V := zw_sh (zw_us W p fr j) (fun i => if i = zw_fh (zw_us W p fr j) p j (zw_n W) - 1 then 0 else zw_ho (zw_us W p fr j) i)) (W := zw_us W p fr j) rfl (fun i hi hgi => ?_)
      show (if i = _ then 0 else zw_ho (zw_us W p fr j) i) = zw_ho (zw_us W p fr j) i
      rw [if_neg]
      intro q
      have h1 : zw_fh (zw_us W p fr j) p j (zw_n W) ≠ 0 := by rw [ih j (by omega)]; exact zw_hs_at hs j (by omega) e
      have h2 := zw_fh_hit h1
      rw [← q] at h2
      omega
    · have e2 : zw_us W p fr (j + 1) = zw_us W p fr j := by
        show (if z_bit fr j = 1 then _ else _) = _
        rw [if_neg e]
      rw [e2]; exact ih g (by omega)
theorem zw_us_ok {L : zl_T} {W : zw_T} {p fr j : Nat} (how : zw_ok L W) : zw_ok L (zw_us W p fr j) := by
  obtain ⟨k1, k2, k3, k4, k5, k6, k7, k8⟩ := zw_us_k (W := W) (p := p) (fr := fr) j
  unfold zw_ok
  rw [k1, k2, k3, k4, k5, k6, k7, k8]
  refine ⟨how.1, how.2.1, fun t ht => ?_, how.2.2.2⟩
  have a := how.2.2.1 t ht
  refine ⟨a.1, a.2.1, a.2.2.1, ?_, a.2.2.2.2⟩
  rcases zw_us_ho (W := W) (p := p) (fr := fr) j t with e | e <;> rw [e]
  · exact a.2.2.2.1
  · exact Nat.zero_le _
