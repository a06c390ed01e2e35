/-! Layer 2: what rounds there are of the THINGS now: the class lays it out and finds them -/
def zk_C (L : zl_T) (U : zu_T) (W : zw_T) (c : g_St) : Prop := g_isLand (c.2.2 0) ∧ g_isRule (c.2.2 2) ∧ zl_C L c (c.2.2 0) ∧ zu_C U c (c.2.2 2) ∧ zw_C L W c 61
theorem zw_C_f {L : zl_T} {W : zw_T} {c c2 : g_St} {b : Nat} (h : zw_C L W c b) (e : ∀ k, k < 8 → c2.1 (b + k) = c.1 (b + k)) : zw_C L W c2 b := by
  unfold zw_C at *
  rw [show c2.1 b = c.1 b from e 0 (by omega), e 1 (by omega), e 2 (by omega), e 3 (by omega), e 4 (by omega), e 5 (by omega), e 6 (by omega), e 7 (by omega)]
  exact h
theorem zk_C_f {L : zl_T} {U : zu_T} {W : zw_T} {c c2 : g_St} {P : Nat → Prop} (h : zk_C L U W c) (ho : zl_ok L) (hz : z_f P c c2) (hP : ∀ id, 7 ≤ id → id < 69 → id ≠ c.2.2 2 + 3 → P id) : zk_C L U W c2 := by
  obtain ⟨h1, h2, h3, h4, h5⟩ := h
  have b1 := h1
  have b2 := h2
  unfold g_isLand at b1
  unfold g_isRule at b2
  unfold zk_C
  rw [hz.2]
  refine ⟨h1, h2, zl_C_f h3 ⟨ho.2.2.1, ho.1⟩ hz (fun id q1 q2 => hP id (by omega) (by omega) (by omega)), ?_, zw_C_f h5 (fun k hk => hz.1 _ (hP _ (by omega) (by omega) (by omega)))⟩
  unfold zu_C at *
  rw [hz.1 (c.2.2 2) (hP _ (by omega) (by omega) (by omega)), hz.1 (c.2.2 2 + 2) (hP _ (by omega) (by omega) (by omega)), hz.1 (c.2.2 2 + 1) (hP _ (by omega) (by omega) (by omega))]
  exact h4
/-- THING t may be given by p to q, as a g -/
def zc_hit (L : zl_T) (U : zu_T) (W : zw_T) (A ds lf t p q g : Nat) : Bool := decide (zw_ho W t = p + 1) && decide (zw_gd W t = g) && A.testBit p && A.testBit q && decide (q ≠ p) && decide (q < zl_pp L) && zf_law L U p q g (zw_so W t) (zw_mk W t) (z_bit ds p) (z_bit lf g)
def zc_can (L : zl_T) (U : zu_T) (W : zw_T) (A ds lf : Nat) : Nat → Nat → Nat → Nat → Bool
  | 0, _, _, _ => false
  | t + 1, p, q, g => zc_can L U W A ds lf t p q g || zc_hit L U W A ds lf t p q g
def zc_h (W : zw_T) (A n p g : Nat) : Nat := if A.testBit p = true then zw_held W p g n else 0
theorem zc_hit_t {L : zl_T} {U : zu_T} {W : zw_T} {A ds lf t p q g : Nat} (h : zc_hit L U W A ds lf t p q g = true) : zw_ho W t = p + 1 ∧ zw_gd W t = g ∧ A.testBit p = true ∧ A.testBit q = true ∧ q ≠ p ∧ q < zl_pp L ∧ zf_law L U p q g (zw_so W t) (zw_mk W t) (z_bit ds p) (z_bit lf g) = true := by
  unfold zc_hit at h
  simp only [Bool.and_eq_true, decide_eq_true_eq] at h
  exact ⟨h.1.1.1.1.1.1, h.1.1.1.1.1.2, h.1.1.1.1.2, h.1.1.1.2, h.1.1.2, h.1.2, h.2⟩
theorem zc_can_t {L : zl_T} {U : zu_T} {W : zw_T} {A ds lf p q g : Nat} : ∀ {n : Nat}, zc_can L U W A ds lf n p q g = true ↔ ∃ t, t < n ∧ zc_hit L U W A ds lf t p q g = true
  | 0 => by constructor
            · intro h; cases h
            · rintro ⟨t, h, -⟩; omega
  | n + 1 => by
    show (zc_can L U W A ds lf n p q g || zc_hit L U W A ds lf n p q g) = true ↔ _
    rw [Bool.or_eq_true, zc_can_t]
    constructor
    · rintro (⟨t, h1, h2⟩ | h)
      · exact ⟨t, by omega, h2⟩
      · exact ⟨n, by omega, h⟩
    · rintro ⟨t, h1, h2⟩
      by_cases e : t = n
      · subst e; exact Or.inr h2
      · exact Or.inl ⟨t, by omega, h2⟩
theorem zc_can_ok {L : zl_T} {U : zu_T} {W : zw_T} {A ds lf : Nat} (how : zw_ok L W) : ∀ p q g, zc_can L U W A ds lf (zw_n W) p q g = true → p < zl_pp L ∧ q < zl_pp L ∧ g < zl_gd L ∧ p ≠ q := by
  intro p q g h
  rw [zc_can_t] at h
  obtain ⟨t, h1, h2⟩ := h
  have h3 := zc_hit_t h2
  have h4 := how.2.2.1 t h1
  exact ⟨by omega, h3.2.2.2.2.2.1, by omega, fun e => h3.2.2.2.2.1 e.symm⟩
theorem z_bs_or {P : Nat → Bool} {g n : Nat} (hg : g < n) : z_bs P n ||| 2 ^ g = z_bs (fun j => P j || decide (j = g)) n := by
  apply Nat.eq_of_testBit_eq
  intro j
  rw [Nat.testBit_or, z_bs_tb, z_bs_tb, Nat.testBit_two_pow]
  by_cases h : j = g
  · subst h; simp [hg]
  · simp [h, show ¬ g = j from fun e => h e.symm]
theorem z_bs_congr {P Q : Nat → Bool} {n : Nat} (h : ∀ j, j < n → P j = Q j) : z_bs P n = z_bs Q n := by
  apply Nat.eq_of_testBit_eq
  intro j
  rw [z_bs_tb, z_bs_tb]
  by_cases hj : j < n
  · rw [h j hj]
  · simp [hj]
def zc_id (bu br id : Nat) : Prop := id ≠ 70 ∧ id ≠ bu + 3 ∧ (id < br + 1 ∨ br + 9 < id)
def zc_X (L : zl_T) (U : zu_T) (W : zw_T) (A ds lf : Nat) : zx_T := zx_mk L (zc_can L U W A ds lf (zw_n W)) (zc_h W A (zw_n W))
theorem zc_h_s {W : zw_T} {A i p g : Nat} : zc_h W A (i + 1) p g = zc_h W A i p g + (if A.testBit p = true ∧ zw_ho W i = p + 1 ∧ zw_gd W i = g then 1 else 0) := by
  unfold zc_h
  by_cases h : A.testBit p = true
  · simp only [h, if_true, true_and]; rfl
  · simp [h]
theorem zc_clear {c : g_St} {F br : Nat} (hF : 300 < F) : og_clear F br c = some (z_fl (z_fl (z_fl (z_fl (z_fl (z_fl c (br + 1) 64 (nI 0)) (br + 2) 48 (nI 0)) (br + 6) 256 (-nI 1)) (br + 7) 256 (nI 0)) (br + 8) 256 (nI 0)) (br + 9) 256 (nI 0)) := by
  unfold og_clear
  rw [show (-1 : Int32) = -nI 1 from rfl, show (0 : Int32) = nI 0 from rfl, z_fill _ (by omega) (by omega), z_sbind, z_fill _ (by omega) (by omega), z_sbind, z_fill _ (by omega) (by omega), z_sbind, z_fill _ (by omega) (by omega), z_sbind, z_fill _ (by omega) (by omega), z_sbind, z_fill _ (by omega) (by omega), z_sbind]
theorem zc_find {L : zl_T} {U : zu_T} {W : zw_T} {c : g_St} {F br A ds lf : Nat} (hk0 : zk_C L U W c) (ho : zl_ok L) (how : zw_ok L W) (hbr : 71 ≤ br) (hA : A < 256) (hds : ds < 256) (hlf : lf < 64) (hF : 1010 < F) :
    z_w (oo_findRounds F br (nI A) (nI ds) (nI lf) c) (fun ν => z_f (zc_id (c.2.2 2) br) c ν ∧ zr_C (zc_X L U W A ds lf) A br ν) := by
  have h8 := ho.2.2.1
  have h6 := ho.2.1
  have h40 := how.1
  have hbu := hk0.2.1
  have hbl := hk0.1
  unfold g_isRule at hbu
  unfold g_isLand at hbl
  have hne : ∀ k, br + k ≠ 70 ∧ br + k ≠ c.2.2 2 + 3 := fun k => by omega
  unfold oo_findRounds
  rw [zc_clear (by omega), z_sbind]
  generalize hc1 : z_fl (z_fl (z_fl (z_fl (z_fl (z_fl c (br + 1) 64 (nI 0)) (br + 2) 48 (nI 0)) (br + 6) 256 (-nI 1)) (br + 7) 256 (nI 0)) (br + 8) 256 (nI 0)) (br + 9) 256 (nI 0) = c1
  have g1 : ∀ id, id < br + 1 ∨ br + 9 < id → c1.1 id = c.1 id := by
    intro id h; rw [← hc1]; funext j; unfold z_fl; simp [show id ≠ br + 1 by omega, show id ≠ br + 2 by omega, show id ≠ br + 6 by omega, show id ≠ br + 7 by omega, show id ≠ br + 8 by omega, show id ≠ br + 9 by omega]
  have gz : z_f (zc_id (c.2.2 2) br) c c1 := ⟨fun id h => g1 id h.2.2, by rw [← hc1]; rfl⟩
  have g2 : (∀ j, j < 64 → c1.1 (br + 1) j = nI 0) ∧ (∀ j, j < 48 → c1.1 (br + 2) j = nI 0) ∧ (∀ j, j < 256 → c1.1 (br + 6) j = -nI 1 ∧ c1.1 (br + 7) j = nI 0 ∧ c1.1 (br + 8) j = nI 0 ∧ c1.1 (br + 9) j = nI 0) := by
    rw [← hc1]
    refine ⟨fun j hj => ?_, fun j hj => ?_, fun j hj => ⟨?_, ?_, ?_, ?_⟩⟩ <;> (unfold z_fl; simp [hj])
  have hk1 := zk_C_f hk0 ho gz (fun id a b d => ⟨by omega, d, by omega⟩)
  have e2 : c1.2 = c.2 := gz.2
  refine z_cw (n := zw_n W) (A := fun n i s => oo_findRounds_7 F br (nI A) (nI ds) (nI lf) n (nI i) s) (fun i s => z_f (zc_id (c.2.2 2) br) c s ∧ (∀ p q, p < 8 → q < 8 → s.1 (br + 1) (8 * p + q) = nI (z_bs (zc_can L U W A ds lf i p q) 6)) ∧ (∀ p g, p < 8 → g < 6 → s.1 (br + 2) (6 * p + g) = nI (zc_h W A i p g)) ∧ ∀ j, j < 256 → s.1 (br + 6) j = -nI 1 ∧ s.1 (br + 7) j = nI 0 ∧ s.1 (br + 8) j = nI 0 ∧ s.1 (br + 9) j = nI 0) ?_ ?_ F 0 c1 (by omega) ⟨gz, fun p q hp hq => ?_, fun p g hp hg => ?_, g2.2.2⟩ (by omega)
  · intro n i s hi hI hk
    obtain ⟨a1, a2, a3, a4⟩ := hI
    have hks := zk_C_f hk0 ho a1 (fun id a b d => ⟨by omega, d, by omega⟩)
    have wi := hks.2.2.2.2.2.2.1 i hi
    have w0 : s.1 61 0 = nI (zw_n W) := hks.2.2.2.2.1
    have oi := how.2.2.1 i hi
    have wh : s.1 65 i = zE (zw_ho W i) := wi.2.2.2.1
    have wg : s.1 62 i = nI (zw_gd W i) := wi.1
    show z_w (oo_findRounds_7_b F br (nI A) (nI ds) (nI lf) _ (nI i) s) _
    unfold oo_findRounds_7_b
    rw [w0, if_pos (nI_lt hi (by omega)), z_rd (by omega) (by omega), z_sbind, wh, show (-1 : Int32) = -nI 1 from rfl]
    simp only [zE_m1 (show zw_ho W i < 2147483648 by omega)]
    have same : ∀ (_ : ¬ ∃ p, zw_ho W i = p + 1 ∧ A.testBit p = true), z_w (oo_findRounds_7 F br (nI A) (nI ds) (nI lf) n (nI i + 1) s) (fun ν => z_f (zc_id (c.2.2 2) br) c ν ∧ zr_C (zc_X L U W A ds lf) A br ν) := by
      intro hno
      rw [nI_1]
      refine hk s ⟨a1, fun p q hp hq => ?_, fun p g hp hg => ?_, a4⟩
      · rw [a2 p q hp hq]; congr 1
        refine z_bs_congr (fun j _ => ?_)
        show _ = (zc_can L U W A ds lf i p q j || zc_hit L U W A ds lf i p q j)
        cases e : zc_hit L U W A ds lf i p q j with
        | false => rw [Bool.or_false]
        | true => have := zc_hit_t e; exact absurd ⟨p, this.1, this.2.2.1⟩ hno
      · rw [a3 p g hp hg, zc_h_s, if_neg (fun q => hno ⟨p, q.2.1, q.1⟩)]; rfl
    by_cases h0 : zw_ho W i = 0
    · rw [if_pos h0]
      exact same (fun ⟨p, q, _⟩ => by omega)
    · rw [if_neg h0]
      obtain ⟨p, hp⟩ : ∃ p, zw_ho W i = p + 1 := ⟨zw_ho W i - 1, by omega⟩
      have hp8 : p < zl_pp L := by omega
      have hbl2 := z_bit_lt A p
      rw [hp, zE_s]
      simp (disch := omega) only [nI_lit, z_and, z_or, z_xor, z_n31, z_shr, z_shl1, z_bit_and, z_andn, z_eq]
      by_cases hb : z_bit A p = 0
      · rw [if_pos hb]
        rw [z_bit_zero] at hb
        exact same (fun ⟨p2, q, q2⟩ => by rw [show p2 = p by omega, hb] at q2; cases q2)
      · rw [if_neg hb]
        have hAp : A.testBit p = true := by
          cases e : A.testBit p with
          | true => rfl
          | false => exact absurd (by rw [z_bit_zero]; exact e) hb
        rw [z_rd (by omega) (by omega), z_sbind, wg]
        have hh := a3 p (zw_gd W i) (by omega) (by omega)
        -- hold
        unfold og_hold
        rw [show (6 : Int32) = nI 6 from rfl, show (1 : Int32) = nI 1 from rfl, z_mul, nI_add, Nat.mul_comm p 6, z_rd (by omega) (by omega), z_sbind, hh, nI_add, z_wr (by omega) (by omega), z_sbind, z_sbind]
        have z1 : z_f (zc_id (c.2.2 2) br) c (g_sI s (br + 2) (6 * p + zw_gd W i) (nI (zc_h W A i p (zw_gd W i) + 1))) := z_f_trans a1 (z_f_sI (P := zc_id (c.2.2 2) br) (fun q => by unfold zc_id at q; omega)) (fun _ q => q) (fun _ q => q)
        -- the receivers
        refine z_cw (n := zl_pp L) (A := fun m j s => oo_findRounds_72 F br (nI A) (nI ds) (nI lf) (nI i) (nI p) (nI (zw_gd W i)) (oo_findRounds_7 F br (nI A) (nI ds) (nI lf) n) m (nI j) s) (fun j s => z_f (zc_id (c.2.2 2) br) c s ∧ (∀ p2 q, p2 < 8 → q < 8 → s.1 (br + 1) (8 * p2 + q) = nI (z_bs (fun g => zc_can L U W A ds lf i p2 q g || (decide (q < j) && zc_hit L U W A ds lf i p2 q g)) 6)) ∧ (∀ p g, p < 8 → g < 6 → s.1 (br + 2) (6 * p + g) = nI (zc_h W A (i + 1) p g)) ∧ ∀ j, j < 256 → s.1 (br + 6) j = -nI 1 ∧ s.1 (br + 7) j = nI 0 ∧ s.1 (br + 8) j = nI 0 ∧ s.1 (br + 9) j = nI 0) ?_ ?_ F 0 _ (by omega) ⟨z1, fun p2 q hp2 hq => ?_, fun p2 g hp2 hg => ?_, fun j hj => ?_⟩ (by omega)
        · intro m j s2 hj hI2 hk2
          obtain ⟨b1, b2, b3, b4⟩ := hI2
          have hks2 := zk_C_f hk0 ho b1 (fun id a b d => ⟨by omega, d, by omega⟩)
          have hpl : s2.1 (s2.2.2 0) 2 = nI (zl_pp L) := hks2.2.2.1.2.2.1
          show z_w (oo_findRounds_72_b F br (nI A) (nI ds) (nI lf) (nI i) (nI p) (nI (zw_gd W i)) _ _ (nI j) s2) _
          have row := b2 p j (by omega) (by omega)
          have hbl3 := z_bit_lt A j
          -- nothing more at j
          have next : ∀ s3, z_f (zc_id (c.2.2 2) br) c s3 → (∀ p2 q, p2 < 8 → q < 8 → s3.1 (br + 1) (8 * p2 + q) = nI (z_bs (fun g => zc_can L U W A ds lf i p2 q g || (decide (q < j) && zc_hit L U W A ds lf i p2 q g)) 6)) → s3.1 (br + 2) = s2.1 (br + 2) → s3.1 (br + 6) = s2.1 (br + 6) → s3.1 (br + 7) = s2.1 (br + 7) → s3.1 (br + 8) = s2.1 (br + 8) → s3.1 (br + 9) = s2.1 (br + 9) → (∀ g, g < 6 → zc_hit L U W A ds lf i p j g = true → zc_can L U W A ds lf i p j g = true) → z_w (oo_findRounds_72 F br (nI A) (nI ds) (nI lf) (nI i) (nI p) (nI (zw_gd W i)) (oo_findRounds_7 F br (nI A) (nI ds) (nI lf) n) m (nI (j + 1)) s3) (fun ν => z_f (zc_id (c.2.2 2) br) c ν ∧ zr_C (zc_X L U W A ds lf) A br ν) := by
            intro s3 c1 c2 c3 c6 c7 c8 c9 c10
            refine hk2 s3 ⟨c1, fun p2 q hp2 hq => ?_, by rw [c3]; exact b3, by rw [c6, c7, c8, c9]; exact b4⟩
            rw [c2 p2 q hp2 hq]; congr 1
            refine z_bs_congr (fun g hg => ?_)
            by_cases e : q = j
            · subst e
              rw [decide_eq_false (Nat.lt_irrefl q), decide_eq_true (Nat.lt_succ_self q), Bool.false_and, Bool.or_false, Bool.true_and]
              cases e2 : zc_hit L U W A ds lf i p2 q g with
              | false => rw [Bool.or_false]
              | true =>
                have := zc_hit_t e2
                have e3 : p2 = p := by omega
                subst e3
                rw [c10 g hg e2]; rfl
            · have e4 : decide (q < j) = decide (q < j + 1) := by
                by_cases e5 : q < j
                · rw [decide_eq_true e5, decide_eq_true (by omega)]
                · rw [decide_eq_false e5, decide_eq_false (by omega)]
              rw [e4]
          unfold oo_findRounds_72_b oo_findRounds_118
          rw [z_ql hks2.1, z_sbind, hpl, if_pos (nI_lt hj (by omega))]
          by_cases hjp : j = p
          · subst hjp
            rw [if_pos rfl]
            unfold oo_findRounds_119
            rw [if_pos rfl, nI_1]
            refine next s2 b1 b2 rfl rfl rfl rfl rfl (fun g hg hh => ?_)
            have := zc_hit_t hh
            exact absurd rfl this.2.2.2.2.1
          · rw [if_neg (by rw [z_eq (by omega) (by omega)]; exact hjp)]
            simp (disch := omega) only [nI_lit, z_and, z_or, z_xor, z_n31, z_shr, z_shl1, z_bit_and, z_andn, z_eq]
            by_cases hbj : z_bit A j = 1
            · rw [if_pos hbj]
              have hAj : A.testBit j = true := by rw [z_bit_one] at hbj; exact hbj
              have hzb : z_bs (fun g => zc_can L U W A ds lf i p j g || (decide (j < j) && zc_hit L U W A ds lf i p j g)) 6 = z_bs (zc_can L U W A ds lf i p j) 6 := z_bs_congr (fun g _ => by rw [decide_eq_false (Nat.lt_irrefl j), Bool.false_and, Bool.or_false])
              rw [hzb] at row
              have hbs := z_bs_lt (zc_can L U W A ds lf i p j) 6
              have hbl4 := z_bit_lt (z_bs (zc_can L U W A ds lf i p j) 6) (zw_gd W i)
              unfold og_mayGive
              rw [show (8 : Int32) = nI 8 from rfl, z_mul, nI_add, Nat.mul_comm p 8, z_rd (by omega) (by omega), z_sbind, row]
              simp (disch := omega) only [nI_lit, z_and, z_or, z_xor, z_n31, z_shr, z_shl1, z_bit_and, z_andn, z_eq]
              by_cases hm : z_bit (z_bs (zc_can L U W A ds lf i p j) 6) (zw_gd W i) = 1
              · rw [if_pos hm, z_sbind, if_neg (by rw [z_10]; exact fun h => h)]
                unfold oo_findRounds_119
                rw [if_pos (show nI 0 = (0 : Int32) from rfl), nI_1]
                refine next s2 b1 b2 rfl rfl rfl rfl rfl (fun g hg hh => ?_)
                have := zc_hit_t hh
                rw [z_bit_one, z_bs_tb] at hm
                rw [← this.2.1]
                simp only [Bool.and_eq_true] at hm
                exact hm.2
              · rw [if_neg hm, z_sbind, if_pos rfl]
                unfold oo_findRounds_119
                rw [if_neg (show ¬ nI 1 = (0 : Int32) from by decide)]
                refine z_w_call (zf_C (ds := ds) (lf := lf) hks2.1 hks2.2.1 hks2.2.2.1 hks2.2.2.2.1 hks2.2.2.2.2 ho how hp8 hj hi hds hlf hF) (fun x hx => ?_)
                obtain ⟨hx1, hx2⟩ := hx
                have e22 : s2.2.2 2 = c.2.2 2 := by rw [b1.2]
                rw [e22] at hx2
                have z3 : z_f (zc_id (c.2.2 2) br) c x.2 := z_f_trans b1 hx2 (fun _ q => q) (fun id q => ⟨q.1, q.2.1⟩)
                have k1 : x.2.1 (br + 1) = s2.1 (br + 1) := hx2.1 (br + 1) (hne 1)
                have k2 : x.2.1 (br + 2) = s2.1 (br + 2) := hx2.1 (br + 2) (hne 2)
                have k6 : x.2.1 (br + 6) = s2.1 (br + 6) := hx2.1 (br + 6) (hne 6)
                have k7 : x.2.1 (br + 7) = s2.1 (br + 7) := hx2.1 (br + 7) (hne 7)
                have k8 : x.2.1 (br + 8) = s2.1 (br + 8) := hx2.1 (br + 8) (hne 8)
                have k9 : x.2.1 (br + 9) = s2.1 (br + 9) := hx2.1 (br + 9) (hne 9)
                cases hlaw : zf_law L U p j (zw_gd W i) (zw_so W i) (zw_mk W i) (z_bit ds p) (z_bit lf (zw_gd W i)) with
                | false =>
                  rw [hx1, hlaw, if_pos (show nI (false).toNat = (0 : Int32) from rfl), nI_1]
                  refine next x.2 z3 (by rw [k1]; exact b2) k2 k6 k7 k8 k9 (fun g hg hh => ?_)
                  have := zc_hit_t hh
                  rw [← this.2.1, hlaw] at this; exact absurd this.2.2.2.2.2.2 (by decide)
                | true =>
                  rw [hx1, hlaw, if_neg (show ¬ nI (true).toNat = (0 : Int32) from by decide)]
                  have hx8 : x.2.1 (br + 1) (8 * p + j) = nI (z_bs (zc_can L U W A ds lf i p j) 6) := by rw [k1]; exact row
                  unfold og_allow
                  rw [show (8 : Int32) = nI 8 from rfl, z_mul, nI_add, Nat.mul_comm p 8, z_rd (by omega) (by omega), z_sbind, hx8]
                  simp (disch := omega) only [nI_lit, z_and, z_or, z_xor, z_n31, z_shr, z_shl1, z_bit_and, z_andn, z_wr, z_sbind, nI_add]
                  refine hk2 _ ⟨z_f_trans z3 (z_f_sI (P := zc_id (c.2.2 2) br) (fun q => by unfold zc_id at q; omega)) (fun _ q => q) (fun _ q => q), fun p2 q hp2 hq => ?_, fun p2 g hp2 hg => ?_, fun j2 hj2 => ?_⟩
                  · by_cases e : p2 = p ∧ q = j
                    · obtain ⟨rfl, rfl⟩ := e
                      rw [z_sI_same, z_bs_or (by omega)]; congr 1
                      refine z_bs_congr (fun g hg => ?_)
                      have ehit : zc_hit L U W A ds lf i p2 q g = decide (g = zw_gd W i) := by
                        by_cases e2 : g = zw_gd W i
                        · subst e2
                          unfold zc_hit
                          rw [hp, hAp, hAj, hlaw]
                          simp [hjp, hj]
                        · cases e3 : zc_hit L U W A ds lf i p2 q g with
                          | false => rw [decide_eq_false e2]
                          | true => exact absurd (zc_hit_t e3).2.1.symm e2
                      rw [decide_eq_true (Nat.lt_succ_self q), Bool.true_and, ehit]
                    · rw [z_sI_k (by omega), k1, b2 p2 q hp2 hq]; congr 1
                      refine z_bs_congr (fun g hg => ?_)
                      cases e3 : zc_hit L U W A ds lf i p2 q g with
                      | false => rw [Bool.and_false, Bool.and_false]
                      | true =>
                        have := zc_hit_t e3
                        have e4 : q ≠ j := fun e5 => e ⟨by omega, e5⟩
                        rw [Bool.and_true, Bool.and_true]
                        by_cases e5 : q < j
                        · rw [decide_eq_true e5, decide_eq_true (by omega)]
                        · rw [decide_eq_false e5, decide_eq_false (by omega)]
                  · rw [z_sI_id (by omega), k2]; exact b3 p2 g hp2 hg
                  · rw [z_sI_id (by omega), z_sI_id (by omega), z_sI_id (by omega), z_sI_id (by omega), k6, k7, k8, k9]; exact b4 j2 hj2
            · rw [if_neg hbj]
              unfold oo_findRounds_119
              rw [if_pos (show nI 0 = (0 : Int32) from rfl), nI_1]
              refine next s2 b1 b2 rfl rfl rfl rfl rfl (fun g hg hh => ?_)
              have := zc_hit_t hh
              exact absurd (by rw [z_bit_one]; exact this.2.2.2.1) hbj
        · intro m s2 hI2
          obtain ⟨b1, b2, b3, b4⟩ := hI2
          have hks2 := zk_C_f hk0 ho b1 (fun id a b d => ⟨by omega, d, by omega⟩)
          have hpl : s2.1 (s2.2.2 0) 2 = nI (zl_pp L) := hks2.2.2.1.2.2.1
          show z_w (oo_findRounds_72_b F br (nI A) (nI ds) (nI lf) (nI i) (nI p) (nI (zw_gd W i)) _ _ (nI (zl_pp L)) s2) _
          unfold oo_findRounds_72_b
          rw [z_ql hks2.1, z_sbind, hpl, if_neg (by rw [z_lt (by omega) (by omega)]; omega), nI_1]
          refine hk s2 ⟨b1, fun p2 q hp2 hq => ?_, b3, b4⟩
          rw [b2 p2 q hp2 hq]; congr 1
          refine z_bs_congr (fun g hg => ?_)
          show _ = (zc_can L U W A ds lf i p2 q g || zc_hit L U W A ds lf i p2 q g)
          cases e3 : zc_hit L U W A ds lf i p2 q g with
          | false => rw [Bool.and_false]
          | true => have := zc_hit_t e3; rw [decide_eq_true this.2.2.2.2.2.1, Bool.true_and]
        · rw [z_sI_id (by omega), a2 p2 q hp2 hq]; congr 1
          exact z_bs_congr (fun g _ => by rw [decide_eq_false (by omega), Bool.false_and, Bool.or_false])
        · rw [zc_h_s]
          by_cases e : p2 = p ∧ g = zw_gd W i
          · obtain ⟨rfl, rfl⟩ := e
            rw [z_sI_same, if_pos ⟨hAp, hp, rfl⟩]
          · rw [z_sI_k (by omega), a3 p2 g hp2 hg, if_neg (fun q => e ⟨by omega, q.2.2.symm⟩)]; rfl
        · rw [z_sI_id (by omega), z_sI_id (by omega), z_sI_id (by omega), z_sI_id (by omega)]; exact a4 j hj
  · intro n s hI
    obtain ⟨a1, a2, a3, a4⟩ := hI
    have hks := zk_C_f hk0 ho a1 (fun id a b d => ⟨by omega, d, by omega⟩)
    have w0 : s.1 61 0 = nI (zw_n W) := hks.2.2.2.2.1
    have hbl2 := hks.1
    unfold g_isLand at hbl2
    show z_w (oo_findRounds_7_b F br (nI A) (nI ds) (nI lf) _ (nI (zw_n W)) s) _
    unfold oo_findRounds_7_b
    rw [w0, if_neg (by rw [z_lt (by omega) (by omega)]; omega), z_ql hks.1, z_sbind]
    refine z_w_call (zx_find (can := zc_can L U W A ds lf (zw_n W)) (h := zc_h W A (zw_n W)) ho (zc_can_ok how) hks.2.2.1 (by omega) (fun p q hp hq => a2 p q (by omega) hq) (fun p g hp hg => ⟨a3 p g (by omega) (by omega), ?_⟩) a4 hA (by omega)) (fun ν hν => z_w_some ⟨z_f_trans a1 hν.1 (fun _ q => q) (fun id q => by unfold zc_id at q; unfold zx_id; omega), hν.2⟩)
    unfold zc_h
    split
    · have := zw_held_le W p g (zw_n W); omega
    · omega
  · rw [g2.1 _ (by omega)]; congr 1
    have : z_bs (zc_can L U W A ds lf 0 p q) 6 = z_bs (fun _ => false) 6 := z_bs_congr (fun _ _ => rfl)
    rw [this]; rfl
  · rw [g2.2.1 _ (by omega)]; congr 1
    unfold zc_h zw_held z_sum; split <;> rfl
