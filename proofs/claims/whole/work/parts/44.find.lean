/-! Layer 2: the class weighs, starts rings, finds them all -/
theorem z_pc_two0 : ∀ a, a < 8 → ∀ b, b < 8 → a < b → z_pc (2 ^ a ||| 2 ^ b) = 2 := by decide +kernel
theorem z_p8 {a : Nat} (h : a < 8) : (2 : Nat) ^ a < 256 := by
  have : (2 : Nat) ^ a ≤ 2 ^ 7 := Nat.pow_le_pow_right (by omega) (by omega)
  omega
/-- all rings whose first one is this -/
def zx_st (X : zx_T) (first s w : Nat) : Prop := ∃ q g, first < q ∧ zx_can X first q g = true ∧ zx_cd X 3 (2 ^ first ||| 2 ^ q) first g q g 0 s w
theorem zx_start {X : zx_T} {br gd F first : Nat} {c : g_St} {b : Nat → Nat} (ho : zx_ok X gd) (hC : zx_C X c br gd) (hB : zb_B br b c) (hf : first < zx_pp X) (hF : 20 < F) :
    z_w (og_startRings F br (nI first) c) (fun q => ∃ any : Bool, q.1 = nI any.toNat ∧ zg_I X br gd c b (zx_st X first) q.2 any) := by
  have h8 := ho.1
  have h6 := ho.2.1
  unfold og_startRings
  rw [show (1 : Int32) = nI 1 from rfl, nI_add]
  have T : ∃ T : Nat → Nat → Nat → Prop, T = fun i s w => ∃ q g, first < q ∧ q < i ∧ zx_can X first q g = true ∧ zx_cd X 3 (2 ^ first ||| 2 ^ q) first g q g 0 s w := ⟨_, rfl⟩
  obtain ⟨T, hT⟩ := T
  refine z_cw (n := 8) (A := fun m i (s : Bool × g_St) => og_startRings_6 F br (nI first) m (nI s.1.toNat) (nI i) s.2) (fun i s => first < i ∧ zg_I X br gd c b (T i) s.2 s.1) ?_ ?_ F (first + 1) (false, c) (by omega) ⟨by omega, ?_⟩ (by omega)
  · intro m q s hq hI hk
    obtain ⟨hfq, hI⟩ := hI
    obtain ⟨a, ν⟩ := s
    have hC2 : zx_C X ν br gd := by obtain ⟨b', -, -, -, hb4⟩ := hI; exact zx_C_f hC hb4
    have r2 := hC2.1 first q hf hq
    show z_w (og_startRings_6_b F br (nI first) _ (nI a.toNat) (nI q) ν) _
    unfold og_startRings_6_b
    rw [show (8 : Int32) = nI 8 from rfl, if_pos (nI_lt hq (by omega)), z_mul, nI_add, Nat.mul_comm first 8, z_rd (by omega) (by omega), z_sbind, r2]
    generalize hG : z_bs (zx_can X first q) 6 = G
    have hGt : ∀ g, G.testBit g = (decide (g < 6) && zx_can X first q g) := fun g => by rw [← hG, z_bs_tb]
    have hGl : G < 64 := by rw [← hG]; exact z_bs_lt _ 6
    have S : ∃ S : Nat → Nat → Nat → Prop, S = fun i s w => T q s w ∨ ∃ g, g < i ∧ zx_can X first q g = true ∧ zx_cd X 3 (2 ^ first ||| 2 ^ q) first g q g 0 s w := ⟨_, rfl⟩
    obtain ⟨S, hS⟩ := S
    have hexit : ∀ i ν a, (∀ g, i ≤ g → g < 6 → G.testBit g = false) → zg_I X br gd c b (S i) ν a → zg_I X br gd c b (T (q + 1)) ν a := by
      intro i ν a hn hI
      refine zg_I_iff hI (fun s w => ?_)
      rw [hS, hT]
      constructor
      · rintro ⟨q2, g, h1, h2, h3, h4⟩
        by_cases e : q2 = q
        · subst e
          refine Or.inr ⟨g, ?_, h3, h4⟩
          have a := ho.2.2.1 _ _ _ h3
          refine Nat.lt_of_not_le (fun hle => ?_)
          have := hn g hle (by omega)
          rw [hGt, h3] at this
          simp [show g < 6 by omega] at this
        · exact Or.inl ⟨q2, g, h1, by omega, h3, h4⟩
      · rintro (⟨q2, g, h1, h2, h3, h4⟩ | ⟨g, h1, h2, h3⟩)
        · exact ⟨q2, g, h1, by omega, h3, h4⟩
        · exact ⟨q, g, hfq, by omega, h2, h3⟩
    refine z_cw (n := 6) (A := fun n i (s : Bool × g_St) => og_startRings_28 F br (nI first) (nI q) (nI G) (og_startRings_6 F br (nI first) m) n (nI s.1.toNat) (nI i) s.2) (fun i s => zg_I X br gd c b (S i) s.2 s.1) ?_ ?_ F 0 (a, ν) (by omega) ?_ (by omega)
    · intro n i s hi hI hkk
      obtain ⟨a, ν⟩ := s
      show z_w (og_startRings_28_b F br (nI first) (nI q) (nI G) _ _ (nI a.toNat) (nI i) ν) _
      have hGs : G >>> i < 64 := Nat.lt_of_le_of_lt (Nat.shiftRight_le G i) hGl
      have hbl := z_bit_lt G i
      unfold og_startRings_28_b
      simp (disch := omega) only [↓reduceIte, nI_lit, z_lt, hi, z_and, z_or, z_xor, z_n31, z_shr, z_shl1, z_bit_and, z_andn, z_eq]
      by_cases h0 : G >>> i = 0
      · rw [if_pos h0, nI_add]
        exact hk (a, ν) ⟨by omega, hexit i ν a (fun g h1 _ => z_shr_none h0 g h1) hI⟩
      · rw [if_neg h0]
        by_cases h1 : z_bit G i = 1
        · rw [if_pos h1]
          have hcan : zx_can X first q i = true := by
            rw [z_bit_one, hGt] at h1; simp only [Bool.and_eq_true] at h1; exact h1.2
          have aa := ho.2.2.1 _ _ _ hcan
          obtain ⟨b', hb1, hb2, hb3, hb4⟩ := hI
          have hC2 := zx_C_f hC hb4
          refine z_w_call (zx_goOn ho hF 3 9 (by omega) (2 ^ first ||| 2 ^ q) first i q i 0 ν b' hC2 hb1 (z_or_lt8 (z_p8 (by omega)) hq) (by rw [z_pc_two0 first (by omega) q hq hfq]) hf aa.2.1 aa.2.2.1 aa.2.2.1 (by omega)) (fun x hx => ?_)
          obtain ⟨a2, hx1, hx2⟩ := hx
          rw [hx1, z_or_b, nI_add]
          refine hkk (a || a2, x.2) (zg_I_trans hb2 hb3 hb4 hx2 (fun s w => ?_))
          rw [hS]
          constructor
          · rintro (q1 | ⟨g, q1, q2, q3⟩)
            · exact Or.inl (Or.inl q1)
            · by_cases e : g = i
              · subst e; exact Or.inr q3
              · exact Or.inl (Or.inr ⟨g, by omega, q2, q3⟩)
          · rintro ((q1 | ⟨g, q1, q2⟩) | q1)
            · exact Or.inl q1
            · exact Or.inr ⟨g, by omega, q2⟩
            · exact Or.inr ⟨i, by omega, hcan, q1⟩
        · rw [if_neg h1, nI_add]
          refine hkk (a, ν) (zg_I_iff hI (fun s w => ?_))
          rw [hS]
          constructor
          · rintro (q1 | ⟨g, q1, q2, q3⟩)
            · exact Or.inl q1
            · refine Or.inr ⟨g, ?_, q2, q3⟩
              by_cases e : g = i
              · subst e
                have aa := ho.2.2.1 _ _ _ q2
                exact absurd (by rw [z_bit_one, hGt, q2]; simp [show g < 6 by omega]) h1
              · omega
          · rintro (q1 | ⟨g, q1, q2⟩)
            · exact Or.inl q1
            · exact Or.inr ⟨g, by omega, q2⟩
    · intro n s hI
      show z_w (og_startRings_28_b F br (nI first) (nI q) (nI G) _ _ (nI s.1.toNat) (nI 6) s.2) _
      unfold og_startRings_28_b
      simp (disch := omega) only [↓reduceIte, nI_lit, z_lt, Nat.lt_irrefl, nI_add]
      exact hk (s.1, s.2) ⟨by omega, hexit 6 s.2 s.1 (fun g h1 h2 => absurd h1 (by omega)) hI⟩
    · refine zg_I_iff hI (fun s w => ?_)
      rw [hS]
      constructor
      · rintro (q1 | ⟨g, q1, -⟩)
        · exact q1
        · omega
      · exact fun q1 => Or.inl q1
  · intro m s hI
    show z_w (og_startRings_6_b F br (nI first) _ (nI s.1.toNat) (nI 8) s.2) _
    unfold og_startRings_6_b
    simp (disch := omega) only [↓reduceIte, nI_lit, z_lt, Nat.lt_irrefl]
    refine z_w_some ⟨s.1, z_and_b _, zg_I_iff hI.2 (fun s w => ?_)⟩
    rw [hT]
    constructor
    · rintro ⟨q, g, h1, h2, h3⟩
      have a := ho.2.2.1 _ _ _ h2
      exact ⟨q, g, h1, by omega, h2, h3⟩
    · rintro ⟨q, g, h1, h2, h3⟩
      exact ⟨q, g, h1, h3⟩
  · refine ⟨b, hB, zx_up_none (fun s w hw => ?_), fun _ s w hw => ?_, z_f_refl⟩
    · rw [hT] at hw; obtain ⟨q, g, h1, h2, -⟩ := hw; omega
    · rw [hT] at hw; obtain ⟨q, g, h1, h2, -⟩ := hw; omega
/-- what one has is weighed -/
def zl_wl (L : zl_T) (p g k : Nat) : Nat := if k = 0 then 0 else zl_wk L p g (k - 1)
theorem zl_C_wl {L : zl_T} {c : g_St} {b p g k : Nat} (hC : zl_C L c b) (ho : zl_ok L) (hp : p < zl_pp L) (hg : g < 6) (hk : k < 2147483648) : ol_worthOf b c (nI p) (nI g) (nI k - nI 1) = some (nI (zl_wl L p g k)) := by
  unfold zl_wl
  by_cases h : k = 0
  · subst h; rw [if_pos rfl]; exact zl_C_wkm (L := L)
  · rw [if_neg h, z_sub (by omega)]; exact zl_C_wk hC ho hp hg (by omega)
theorem zl_R_wl {L : zl_T} {r : g_St} {p g k : Nat} (hC : zl_R L r) (ho : zl_ok L) (hp : p < zl_pp L) (hg : g < 6) (hk : k < 2147483648) : mm_more r (nI p) (nI g) (nI k - nI 1) = some (nI (zl_wl L p g k)) := by
  unfold zl_wl
  by_cases h : k = 0
  · subst h; rw [if_pos rfl]; exact zl_R_wkm
  · rw [if_neg h, z_sub (by omega)]; exact zl_R_wk hC ho hp hg (by omega)
def zx_mk (L : zl_T) (can : Nat → Nat → Nat → Bool) (h : Nat → Nat → Nat) : zx_T := (zl_pp L, can, fun p g => zl_wk L p g (h p g), fun p g => zl_wl L p g (h p g))
def zx_row (X : zx_T) (c : g_St) (br gd p : Nat) : Prop := ∀ g, g < gd → c.1 (br + 3) (6 * p + g) = nI (zx_mo X p g) ∧ c.1 (br + 4) (6 * p + g) = nI (zx_la X p g) ∧ c.1 (br + 5) (6 * p + g) = nI (z_bs (zx_gl X p g) gd)
def zx_w3 (br id : Nat) : Prop := id ≠ br + 3 ∧ id ≠ br + 4 ∧ id ≠ br + 5
theorem zl_C_f {L : zl_T} {c c2 : g_St} {b : Nat} {P : Nat → Prop} (hC : zl_C L c b) (h8 : zl_pp L ≤ 8 ∧ zl_pl L ≤ 5) (hz : z_f P c c2) (hP : ∀ id, b ≤ id → id < b + 23 → P id) : zl_C L c2 b := by
  obtain ⟨h1, h2, h3, h4, h5, h6⟩ := hC
  refine ⟨by rw [hz.1 b (hP b (by omega) (by omega)), h1], by rw [hz.1 b (hP b (by omega) (by omega)), h2], by rw [hz.1 b (hP b (by omega) (by omega)), h3], fun x y hx hy => ?_, fun g hg => ?_, fun p hp => ⟨?_, ?_, fun j hj => ?_⟩⟩
  · rw [hz.1 _ (hP _ (by omega) (by omega)), h4 x y hx hy]
  · rw [hz.1 _ (hP _ (by omega) (by omega)), hz.1 _ (hP _ (by omega) (by omega))]; exact h5 g hg
  · rw [hz.1 _ (hP _ (by omega) (by omega))]; exact (h6 p hp).1
  · rw [hz.1 _ (hP _ (by omega) (by omega))]; exact (h6 p hp).2.1
  · rw [hz.1 _ (hP _ (by omega) (by omega))]; exact (h6 p hp).2.2 j hj
theorem zx_weigh {L : zl_T} {can : Nat → Nat → Nat → Bool} {h : Nat → Nat → Nat} {c : g_St} {br bl F p : Nat} (ho : zl_ok L) (hL : zl_C L c bl) (hbl : bl + 23 ≤ br) (hh : ∀ g, g < zl_gd L → c.1 (br + 2) (6 * p + g) = nI (h p g) ∧ h p g ≤ 1000) (hp : p < zl_pp L) (hF : 20 < F) :
    z_w (og_weigh F br bl (nI p) c) (fun ν => z_f (zx_w3 br) c ν ∧ zx_row (zx_mk L can h) ν br (zl_gd L) p ∧ ∀ id q g, q ≠ p → g < 6 → ν.1 id (6 * q + g) = c.1 id (6 * q + g)) := by
  have h8 := ho.2.2.1
  have h6 := ho.2.1
  have h5 := ho.1
  have h85 : zl_pp L ≤ 8 ∧ zl_pl L ≤ 5 := ⟨h8, h5⟩
  unfold og_weigh
  rw [show (6 : Int32) = nI 6 from rfl, z_mul, Nat.mul_comm p 6]
  -- the second loop
  have second : ∀ μ, z_f (zx_w3 br) c μ → (∀ g, g < zl_gd L → μ.1 (br + 3) (6 * p + g) = nI (zl_wk L p g (h p g)) ∧ μ.1 (br + 4) (6 * p + g) = nI (zl_wl L p g (h p g))) → (∀ id q g, q ≠ p → g < 6 → μ.1 id (6 * q + g) = c.1 id (6 * q + g)) →
      z_w (og_weigh_78 F br bl (nI (6 * p)) F (nI 0) μ) (fun ν => z_f (zx_w3 br) c ν ∧ zx_row (zx_mk L can h) ν br (zl_gd L) p ∧ ∀ id q g, q ≠ p → g < 6 → ν.1 id (6 * q + g) = c.1 id (6 * q + g)) := by
    intro μ hz hr hq
    refine z_cw (n := zl_gd L) (A := fun n i s => og_weigh_78 F br bl (nI (6 * p)) n (nI i) s) (fun i s => z_f (zx_w3 br) c s ∧ (∀ g, g < zl_gd L → s.1 (br + 3) (6 * p + g) = nI (zl_wk L p g (h p g)) ∧ s.1 (br + 4) (6 * p + g) = nI (zl_wl L p g (h p g))) ∧ (∀ g, g < i → s.1 (br + 5) (6 * p + g) = nI (z_bs (zx_gl (zx_mk L can h) p g) (zl_gd L))) ∧ ∀ id q g, q ≠ p → g < 6 → s.1 id (6 * q + g) = c.1 id (6 * q + g)) ?_ ?_ F 0 μ (by omega) ⟨hz, hr, fun g hg => absurd hg (by omega), hq⟩ (by omega)
    · intro n i s hi hI hk
      obtain ⟨a1, a2, a3, a4⟩ := hI
      have hL2 := zl_C_f hL h85 a1 (fun id b1 b2 => by unfold zx_w3; omega)
      show z_w (og_weigh_78_b F br bl (nI (6 * p)) _ (nI i) s) _
      unfold og_weigh_78_b
      rw [hL2.2.1, if_pos (nI_lt hi (by omega)), show (0 : Int32) = nI 0 from rfl]
      have inner : og_weigh_93 F br bl (nI (6 * p)) (nI i) (og_weigh_78 F br bl (nI (6 * p)) n) F (nI 0) (nI 0) s = og_weigh_78 F br bl (nI (6 * p)) n (nI (i + 1)) (g_sI s (br + 5) (6 * p + i) (nI (z_bs (zx_gl (zx_mk L can h) p i) (zl_gd L)))) := by
        refine z_cnt0 (n := zl_gd L) (A := fun f j => og_weigh_93 F br bl (nI (6 * p)) (nI i) (og_weigh_78 F br bl (nI (6 * p)) n) f (nI (z_bs (zx_gl (zx_mk L can h) p i) j)) (nI j) s) (fun f j hj => ?_) (fun f => ?_) (by omega)
        · show og_weigh_93_b F br bl (nI (6 * p)) (nI i) _ _ (nI (z_bs (zx_gl (zx_mk L can h) p i) j)) (nI j) s = _
          have e1 := (a2 i hi).1
          have e2 := (a2 j hj).2
          have b1 := zl_wk_le ho hp (g := i) (by omega) (h p i)
          have b2 : zl_wl L p j (h p j) ≤ 999 := by unfold zl_wl; split; omega; exact zl_wk_le ho hp (by omega) _
          have eg : zx_gl (zx_mk L can h) p i j = (decide (j ≠ i) && decide (zl_wl L p j (h p j) < zl_wk L p i (h p i))) := rfl
          have es : z_bs (zx_gl (zx_mk L can h) p i) (j + 1) = z_bs (zx_gl (zx_mk L can h) p i) j ||| (if zx_gl (zx_mk L can h) p i j = true then 2 ^ j else 0) := rfl
          unfold og_weigh_93_b og_weigh_134 og_weigh_135
          simp (disch := omega) only [↓reduceIte, nI_lit, z_sbind, z_rd, z_rl, z_rr, z_wr, z_wl, nI_add, z_mul, z_lt, z_le, z_eq, z_ltm1, z_m1lt, z_eqm1, z_m1eq, z_lem1, z_m1le, if_true, if_false, ite_true, ite_false, hL2.2.1, hj, e1, e2, z_and, z_or, z_xor, z_n31, z_shr, z_shl1, z_bit_and, z_andn, es, eg, z_10]
          by_cases q1 : j = i
          · simp [q1]
          · by_cases q2 : zl_wl L p j (h p j) < zl_wk L p i (h p i)
            · simp [q1, q2]
            · simp [q1, q2]
        · show og_weigh_93_b F br bl (nI (6 * p)) (nI i) _ _ (nI (z_bs (zx_gl (zx_mk L can h) p i) (zl_gd L))) (nI (zl_gd L)) s = _
          unfold og_weigh_93_b
          simp (disch := omega) only [↓reduceIte, nI_lit, z_sbind, z_rd, z_rl, z_rr, z_wr, z_wl, nI_add, z_mul, z_lt, z_le, z_eq, z_ltm1, z_m1lt, z_eqm1, z_m1eq, z_lem1, z_m1le, if_true, if_false, ite_true, ite_false, hL2.2.1, Nat.lt_irrefl]
      rw [inner]
      refine hk _ ⟨z_f_trans a1 (z_f_sI (P := zx_w3 br) (fun q => q.2.2 rfl)) (fun _ q => q) (fun _ q => q), fun g hg => ?_, fun g hg => ?_, fun id q g hq hg => ?_⟩
      · rw [z_sI_id (by omega), z_sI_id (by omega)]; exact a2 g hg
      · by_cases e : g = i
        · subst e; exact z_sI_same _ _ _ _
        · rw [z_sI_k (by omega)]; exact a3 g (by omega)
      · rw [z_sI_k (by omega)]; exact a4 id q g hq hg
    · intro n s hI
      obtain ⟨a1, a2, a3, a4⟩ := hI
      have hL2 := zl_C_f hL h85 a1 (fun id b1 b2 => by unfold zx_w3; omega)
      show z_w (og_weigh_78_b F br bl (nI (6 * p)) _ (nI (zl_gd L)) s) _
      unfold og_weigh_78_b
      simp (disch := omega) only [↓reduceIte, nI_lit, z_sbind, z_rd, z_rl, z_rr, z_wr, z_wl, nI_add, z_mul, z_lt, z_le, z_eq, z_ltm1, z_m1lt, z_eqm1, z_m1eq, z_lem1, z_m1le, if_true, if_false, ite_true, ite_false, hL2.2.1, Nat.lt_irrefl]
      exact z_w_some ⟨a1, fun g hg => ⟨(a2 g hg).1, (a2 g hg).2, a3 g hg⟩, a4⟩
  refine z_cw (n := zl_gd L) (A := fun n i s => og_weigh_8 F br bl (nI p) (nI (6 * p)) n (nI i) s) (fun i s => z_f (zx_w3 br) c s ∧ (∀ g, g < i → s.1 (br + 3) (6 * p + g) = nI (zl_wk L p g (h p g)) ∧ s.1 (br + 4) (6 * p + g) = nI (zl_wl L p g (h p g))) ∧ ∀ id q g, q ≠ p → g < 6 → s.1 id (6 * q + g) = c.1 id (6 * q + g)) ?_ ?_ F 0 c (by omega) ⟨z_f_refl, fun g hg => absurd hg (by omega), fun _ _ _ _ _ => rfl⟩ (by omega)
  · intro n i s hi hI hk
    obtain ⟨a1, a2, a4⟩ := hI
    have hL2 := zl_C_f hL h85 a1 (fun id b1 b2 => by unfold zx_w3; omega)
    have e2 : s.1 (br + 2) (6 * p + i) = nI (h p i) := by rw [a1.1 (br + 2) (by unfold zx_w3; omega)]; exact (hh i hi).1
    have hb := (hh i hi).2
    show z_w (og_weigh_8_b F br bl (nI p) (nI (6 * p)) _ (nI i) s) _
    have z1 : z_f (zx_w3 br) c (g_sI s (br + 3) (6 * p + i) (nI (zl_wk L p i (h p i)))) := z_f_trans a1 (z_f_sI (P := zx_w3 br) (fun q => q.1 rfl)) (fun _ q => q) (fun _ q => q)
    have hL3 := zl_C_f hL h85 z1 (fun id b1 b2 => by unfold zx_w3; omega)
    unfold og_weigh_8_b
    rw [hL2.2.1, if_pos (nI_lt hi (by omega)), nI_add, z_rd (by omega) (by omega), z_sbind, e2, zl_C_wk hL2 ho hp (by omega) (by omega), z_sbind, z_wr (by omega) (by omega), z_sbind, z_rd (by omega) (by omega), z_sbind, z_sI_id (by omega), e2, show (1 : Int32) = nI 1 from rfl, zl_C_wl hL3 ho hp (by omega) (by omega), z_sbind, z_wr (by omega) (by omega), z_sbind, nI_add]
    refine hk _ ⟨z_f_trans z1 (z_f_sI (P := zx_w3 br) (fun q => q.2.1 rfl)) (fun _ q => q) (fun _ q => q), fun g hg => ?_, fun id q g hq hg => ?_⟩
    · by_cases e : g = i
      · subst e
        exact ⟨by rw [z_sI_id (by omega), z_sI_same], z_sI_same _ _ _ _⟩
      · rw [z_sI_id (by omega), z_sI_k (by omega), z_sI_k (by omega), z_sI_id (by omega)]; exact a2 g (by omega)
    · rw [z_sI_k (by omega), z_sI_k (by omega)]; exact a4 id q g hq hg
  · intro n s hI
    obtain ⟨a1, a2, a4⟩ := hI
    have hL2 := zl_C_f hL h85 a1 (fun id b1 b2 => by unfold zx_w3; omega)
    show z_w (og_weigh_8_b F br bl (nI p) (nI (6 * p)) _ (nI (zl_gd L)) s) _
    unfold og_weigh_8_b
    rw [hL2.2.1, if_neg (by rw [z_lt (by omega) (by omega)]; omega)]
    exact second s a1 a2 a4
