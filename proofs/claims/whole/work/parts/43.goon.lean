/-! Layer 2: the class walks on in a ring; all rings of one first one -/
theorem z_pc_or0 : ∀ r, r < 256 → ∀ q, q < 8 → z_bit r q = 0 → z_pc (r ||| 2 ^ q) = z_pc r + 1 := by decide +kernel
theorem z_pc_or {r q : Nat} (hr : r < 256) (hq : q < 8) (h : r.testBit q = false) : z_pc (r ||| 2 ^ q) = z_pc r + 1 := z_pc_or0 r hr q hq (by rw [z_bit_zero]; exact h)
theorem z_or_lt8 {r q : Nat} (hr : r < 256) (hq : q < 8) : r ||| 2 ^ q < 256 := Nat.or_lt_two_pow (n := 8) hr (by have : (2 : Nat) ^ q ≤ 2 ^ 7 := Nat.pow_le_pow_right (by omega) (by omega); omega)
/-- some goods G are given on to q, each with what a walk W says -/
theorem zx_goods {X : zx_T} {br gd F : Nat} {rec : Int32 → Int32 → Int32 → Int32 → Int32 → Int32 → g_St → Option (Int32 × g_St)} {ring first gave one got gain q G : Nat} {v7 : Int32} {K : Int32 → Int32 → g_St → Option (Int32 × g_St)} {Q : Int32 × g_St → Prop} {c : g_St} {b : Nat → Nat} {T0 T1 : Nat → Nat → Prop} {W : Nat → Nat → Nat → Prop}
    (ho : zx_ok X gd) (hC : zx_C X c br gd) (hr : ring < 256) (hq : q < 8) (hone : one < zx_pp X) (hgot : got < gd) (hgain : gain ≤ 10000) (hG : G < 64) (hG2 : ∀ g, G.testBit g = true → g < gd ∧ zx_la X one g < zx_mo X one got)
    (hrec : ∀ g, G.testBit g = true → ∀ (μ : g_St) (b' : Nat → Nat), z_f (fun id => id ≠ br + 6) c μ → zb_B br b' μ → z_w (rec (nI (ring ||| 2 ^ q)) (nI first) (nI gave) (nI q) (nI g) (nI (gain + zx_mo X one got - zx_la X one g)) μ) (fun x => ∃ any : Bool, x.1 = nI any.toNat ∧ zg_I X br gd μ b' (W g) x.2 any))
    (hT : ∀ s w, T1 s w ↔ T0 s w ∨ ∃ g, G.testBit g = true ∧ W g s w) (hF : 20 < F)
    (hk : ∀ (any : Bool) (μ : g_St), zg_I X br gd c b T1 μ any → z_w (K (nI any.toNat) (nI (q + 1)) μ) Q)
    {any : Bool} {μ : g_St} (h : zg_I X br gd c b T0 μ any) :
    z_w (og_goOn_119 F br rec (nI ring) (nI first) (nI gave) (nI one) v7 (nI (gain + zx_mo X one got)) (nI q) (nI G) K F (nI any.toNat) (nI 0) μ) Q := by
  have h8 := ho.1
  have h6 := ho.2.1
  have hm1 := (ho.2.2.2 one got hone (by omega)).1
  have S : ∃ S : Nat → Nat → Nat → Prop, S = fun i s w => T0 s w ∨ ∃ g, g < i ∧ G.testBit g = true ∧ W g s w := ⟨_, rfl⟩
  obtain ⟨S, hS⟩ := S
  have hexit : ∀ i ν a, (∀ g, i ≤ g → g < 6 → G.testBit g = false) → zg_I X br gd c b (S i) ν a → z_w (K (nI a.toNat) (nI (q + 1)) ν) Q := by
    intro i ν a hn hI
    refine hk a ν (zg_I_iff hI (fun s w => ?_))
    rw [hT, hS]
    constructor
    · rintro (q1 | ⟨g, q2, q3⟩)
      · exact Or.inl q1
      · refine Or.inr ⟨g, ?_, q2, q3⟩
        refine Nat.lt_of_not_le (fun hle => ?_)
        rw [hn g hle (by have := (hG2 g q2).1; omega)] at q2; cases q2
    · rintro (q1 | ⟨g, q1, q2, q3⟩)
      · exact Or.inl q1
      · exact Or.inr ⟨g, q2, q3⟩
  refine z_cw (n := 6) (A := fun n i (s : Bool × g_St) => og_goOn_119 F br rec (nI ring) (nI first) (nI gave) (nI one) v7 (nI (gain + zx_mo X one got)) (nI q) (nI G) K n (nI s.1.toNat) (nI i) s.2) (fun i s => zg_I X br gd c b (S i) s.2 s.1) ?_ ?_ F 0 (any, μ) (by omega) ?_ (by omega)
  · intro n i s hi hI hkk
    obtain ⟨a, ν⟩ := s
    show z_w (og_goOn_119_b F br rec (nI ring) (nI first) (nI gave) (nI one) v7 (nI (gain + zx_mo X one got)) (nI q) (nI G) K _ (nI a.toNat) (nI i) ν) Q
    have hGs : G >>> i < 64 := Nat.lt_of_le_of_lt (Nat.shiftRight_le G i) hG
    have hbl := z_bit_lt G i
    unfold og_goOn_119_b
    simp (disch := omega) only [↓reduceIte, nI_lit, z_lt, hi, z_and, z_or, z_xor, z_n31, z_shr, z_shl1, z_bit_and, z_andn, z_eq]
    by_cases h0 : G >>> i = 0
    · rw [if_pos h0, nI_add]
      exact hexit i ν a (fun g h1 _ => z_shr_none h0 g h1) hI
    · rw [if_neg h0]
      by_cases h1 : z_bit G i = 1
      · rw [if_pos h1]
        rw [z_bit_one] at h1
        obtain ⟨hgd, hla⟩ := hG2 i h1
        obtain ⟨b', hb1, hb2, hb3, hb4⟩ := hI
        have hC2 := zx_C_f hC hb4
        have r4 := (hC2.2 one i hone hgd).2.1
        rw [z_mul, nI_add, Nat.mul_comm one 6, z_rd (by omega) (by omega), z_sbind, r4, z_sub (by omega)]
        refine z_w_call (hrec i h1 ν b' hb4 hb1) (fun x hx => ?_)
        obtain ⟨a2, hx1, hx2⟩ := hx
        rw [hx1, z_or_b, nI_add]
        refine hkk (a || a2, x.2) (zg_I_trans hb2 hb3 hb4 hx2 (fun s w => ?_))
        rw [hS]
        constructor
        · rintro (q1 | ⟨g, q1, q2, q3⟩)
          · exact Or.inl (Or.inl q1)
          · by_cases e : g = i
            · subst e; exact Or.inr q3
            · exact Or.inl (Or.inr ⟨g, by omega, q2, q3⟩)
        · rintro ((q1 | ⟨g, q1, q2⟩) | q1)
          · exact Or.inl q1
          · exact Or.inr ⟨g, by omega, q2⟩
          · exact Or.inr ⟨i, by omega, h1, q1⟩
      · rw [if_neg h1, nI_add]
        refine hkk (a, ν) (zg_I_iff hI (fun s w => ?_))
        rw [hS]
        constructor
        · rintro (q1 | ⟨g, q1, q2, q3⟩)
          · exact Or.inl q1
          · refine Or.inr ⟨g, ?_, q2, q3⟩
            by_cases e : g = i
            · subst e; exact absurd (by rw [z_bit_one]; exact q2) h1
            · omega
        · rintro (q1 | ⟨g, q1, q2⟩)
          · exact Or.inl q1
          · exact Or.inr ⟨g, by omega, q2⟩
  · intro n s hI
    show z_w (og_goOn_119_b F br rec (nI ring) (nI first) (nI gave) (nI one) v7 (nI (gain + zx_mo X one got)) (nI q) (nI G) K _ (nI s.1.toNat) (nI 6) s.2) Q
    unfold og_goOn_119_b
    simp (disch := omega) only [↓reduceIte, nI_lit, z_lt, Nat.lt_irrefl, nI_add]
    exact hexit 6 s.2 s.1 (fun g h1 h2 => absurd h1 (by omega)) hI
  · refine zg_I_iff h (fun s w => ?_)
    rw [hS]
    constructor
    · rintro (q1 | ⟨g, q1, -⟩)
      · exact q1
      · omega
    · exact fun q1 => Or.inl q1
theorem zx_goOn {X : zx_T} {br gd F : Nat} (ho : zx_ok X gd) (hF : 20 < F) : ∀ (n D : Nat), n < D → ∀ (ring first gave one got gain : Nat) (c : g_St) (b : Nat → Nat), zx_C X c br gd → zb_B br b c → ring < 256 → z_pc ring + n = 5 → first < zx_pp X → one < zx_pp X → got < gd → gave < gd → gain + 1000 * n ≤ 5000 →
    z_w (og_goOn F br D (nI ring) (nI first) (nI gave) (nI one) (nI got) (nI gain) c) (fun q => ∃ any : Bool, q.1 = nI any.toNat ∧ zg_I X br gd c b (zx_cd X n ring first gave one got gain) q.2 any) := by
  have h8 := ho.1
  have h6 := ho.2.1
  intro n
  induction n with
  | zero =>
    intro D hD ring first gave one got gain c b hC hB hr hpc hf hone hgot hgave hg
    obtain ⟨D, rfl⟩ : ∃ k, D = k + 1 := ⟨D - 1, by omega⟩
    show z_w (og_goOn_b F br _ (nI ring) (nI first) (nI gave) (nI one) (nI got) (nI gain) c) _
    unfold og_goOn_b
    have r := hC.2 one got hone hgot
    have r1 := hC.1 one first hone (by omega)
    rw [show (6 : Int32) = nI 6 from rfl, show (8 : Int32) = nI 8 from rfl, z_mul, nI_add, Nat.mul_comm one 6, z_rd (by omega) (by omega), z_sbind, r.2.2, z_rd (by omega) (by omega), z_sbind, r.1, z_mul, nI_add, Nat.mul_comm one 8, z_rd (by omega) (by omega), z_sbind, r1, z_and, nI_add]
    refine z_w_call (zx_close ho hC hB hr hf hone hgot hgave (by omega) hF) (fun x hx => ?_)
    obtain ⟨any, hx1, hx2⟩ := hx
    rw [z_bc hr, z_sbind, hx1, show z_pc ring = 5 by omega, if_pos (show (5 : Int32) ≤ nI 5 from by decide)]
    exact z_w_some ⟨any, z_and_b any, hx2⟩
  | succ n ih =>
    intro D hD ring first gave one got gain c b hC hB hr hpc hf hone hgot hgave hg
    obtain ⟨D, rfl⟩ : ∃ k, D = k + 1 := ⟨D - 1, by omega⟩
    show z_w (og_goOn_b F br (og_goOn F br D) (nI ring) (nI first) (nI gave) (nI one) (nI got) (nI gain) c) _
    unfold og_goOn_b
    have r := hC.2 one got hone hgot
    have r1 := hC.1 one first hone (by omega)
    have hm1 := (ho.2.2.2 one got hone (by omega)).1
    rw [show (6 : Int32) = nI 6 from rfl, show (8 : Int32) = nI 8 from rfl, z_mul, nI_add, Nat.mul_comm one 6, z_rd (by omega) (by omega), z_sbind, r.2.2, z_rd (by omega) (by omega), z_sbind, r.1, z_mul, nI_add, Nat.mul_comm one 8, z_rd (by omega) (by omega), z_sbind, r1, z_and, nI_add]
    refine z_w_call (zx_close ho hC hB hr hf hone hgot hgave (by omega) hF) (fun x hx => ?_)
    obtain ⟨any, hx1, hx2⟩ := hx
    rw [z_bc hr, z_sbind, hx1, if_neg (show ¬ (5 : Int32) ≤ nI (z_pc ring) from by rw [show (5 : Int32) = nI 5 from rfl, z_le (by omega) (by omega)]; omega), show (1 : Int32) = nI 1 from rfl, nI_add]
    have T : ∃ T : Nat → Nat → Nat → Prop, T = fun i s w => zx_cl X ring first gave one got gain s w ∨ ∃ q g, first < q ∧ q < i ∧ ring.testBit q = false ∧ zx_can X one q g = true ∧ zx_gl X one got g = true ∧ zx_cd X n (ring ||| 2 ^ q) first gave q g (gain + zx_mo X one got - zx_la X one g) s w := ⟨_, rfl⟩
    obtain ⟨T, hT⟩ := T
    refine z_cw (n := 8) (A := fun m i (s : Bool × g_St) => og_goOn_77 F br (og_goOn F br D) (nI ring) (nI first) (nI gave) (nI one) (nI (z_bs (zx_gl X one got) gd)) (nI (gain + zx_mo X one got)) m (nI s.1.toNat) (nI i) s.2) (fun i s => first < i ∧ zg_I X br gd c b (T i) s.2 s.1) ?_ ?_ F (first + 1) (any, x.2) (by omega) ⟨by omega, ?_⟩ (by omega)
    · intro m q s hq hI hk
      obtain ⟨hfq, hI⟩ := hI
      obtain ⟨a, ν⟩ := s
      have hC2 : zx_C X ν br gd := by obtain ⟨b', -, -, -, hb4⟩ := hI; exact zx_C_f hC hb4
      show z_w (og_goOn_77_b F br (og_goOn F br D) (nI ring) (nI first) (nI gave) (nI one) (nI (z_bs (zx_gl X one got) gd)) (nI (gain + zx_mo X one got)) _ (nI a.toNat) (nI q) ν) _
      have hbl := z_bit_lt ring q
      have r2 := hC2.1 one q hone hq
      unfold og_goOn_77_b
      simp (disch := omega) only [↓reduceIte, nI_lit, z_lt, hq, z_and, z_or, z_xor, z_n31, z_shr, z_shl1, z_bit_and, z_andn, z_eq]
      by_cases hb : z_bit ring q = 1
      · rw [if_pos hb]
        refine zx_goods (T0 := T q) (T1 := T (q + 1)) (W := fun _ _ _ => False) ho hC hr hq hone hgot (by omega) (by omega) (fun g h => by rw [Nat.zero_testBit] at h; cases h) (fun g h => by rw [Nat.zero_testBit] at h; cases h) (fun s w => ?_) hF (fun a2 μ2 h2 => hk (a2, μ2) ⟨by omega, h2⟩) hI
        rw [z_bit_one] at hb
        rw [hT]
        constructor
        · rintro (q1 | ⟨q2, g, q3, q4, q5, q6⟩)
          · exact Or.inl (Or.inl q1)
          · refine Or.inl (Or.inr ⟨q2, g, q3, ?_, q5, q6⟩)
            by_cases e : q2 = q
            · subst e; rw [hb] at q5; cases q5
            · omega
        · rintro ((q1 | ⟨q2, g, q3, q4, q5⟩) | ⟨g, -, q7⟩)
          · exact Or.inl q1
          · exact Or.inr ⟨q2, g, q3, by omega, q5⟩
          · exact q7.elim
      · rw [if_neg hb, z_mul, nI_add, Nat.mul_comm one 8, z_rd (by omega) (by omega), z_sbind, r2, z_and]
        have hb0 : ring.testBit q = false := by rw [z_bit_one] at hb; cases e : ring.testBit q with
          | false => rfl
          | true => exact absurd e hb
        have hGt : ∀ g, (z_bs (zx_gl X one got) gd &&& z_bs (zx_can X one q) 6).testBit g = ((decide (g < gd) && zx_gl X one got g) && (decide (g < 6) && zx_can X one q g)) := fun g => by rw [Nat.testBit_and, z_bs_tb, z_bs_tb]
        have hGs : ∀ g, (z_bs (zx_gl X one got) gd &&& z_bs (zx_can X one q) 6).testBit g = true → zx_gl X one got g = true ∧ zx_can X one q g = true ∧ g < gd := by
          intro g h
          rw [hGt] at h
          simp only [Bool.and_eq_true, decide_eq_true_eq] at h
          exact ⟨h.1.2, h.2.2, h.1.1⟩
        refine zx_goods (T0 := T q) (T1 := T (q + 1)) (W := fun g => zx_cd X n (ring ||| 2 ^ q) first gave q g (gain + zx_mo X one got - zx_la X one g)) ho hC hr hq hone hgot (by omega) (Nat.lt_of_le_of_lt Nat.and_le_right (z_bs_lt _ 6)) (fun g h => ⟨(hGs g h).2.2, zx_gl_lt (hGs g h).1⟩) (fun g h μ2 b2 hz2 hB2 => ?_) (fun s w => ?_) hF (fun a2 μ2 h2 => hk (a2, μ2) ⟨by omega, h2⟩) hI
        · obtain ⟨g1, g2, g3⟩ := hGs g h
          have a := ho.2.2.1 _ _ _ g2
          have hp := z_pc_or hr hq hb0
          exact ih D (by omega) (ring ||| 2 ^ q) first gave q g (gain + zx_mo X one got - zx_la X one g) μ2 b2 (zx_C_f hC hz2) hB2 (z_or_lt8 hr hq) (by omega) hf a.2.1 g3 hgave (by omega)
        · rw [hT]
          constructor
          · rintro (q1 | ⟨q2, g, q3, q4, q5, q6, q7, q8⟩)
            · exact Or.inl (Or.inl q1)
            · by_cases e : q2 = q
              · subst e
                have a := ho.2.2.1 _ _ _ q6
                exact Or.inr ⟨g, by rw [hGt, q6, q7]; simp [show g < gd by omega, show g < 6 by omega], q8⟩
              · exact Or.inl (Or.inr ⟨q2, g, q3, by omega, q5, q6, q7, q8⟩)
          · rintro ((q1 | ⟨q2, g, q3, q4, q5⟩) | ⟨g, q6, q7⟩)
            · exact Or.inl q1
            · exact Or.inr ⟨q2, g, q3, by omega, q5⟩
            · obtain ⟨g1, g2, g3⟩ := hGs g q6
              exact Or.inr ⟨q, g, hfq, by omega, hb0, g2, g1, q7⟩
    · intro m s hI
      show z_w (og_goOn_77_b F br (og_goOn F br D) (nI ring) (nI first) (nI gave) (nI one) (nI (z_bs (zx_gl X one got) gd)) (nI (gain + zx_mo X one got)) _ (nI s.1.toNat) (nI 8) s.2) _
      unfold og_goOn_77_b
      simp (disch := omega) only [↓reduceIte, nI_lit, z_lt, Nat.lt_irrefl]
      refine z_w_some ⟨s.1, z_and_b _, zg_I_iff hI.2 (fun s w => ?_)⟩
      rw [hT]
      constructor
      · rintro (q1 | ⟨q2, g, q3, q4, q5, q6⟩)
        · exact Or.inl q1
        · have a := ho.2.2.1 _ _ _ q5
          exact Or.inr ⟨q2, g, q3, by omega, q4, q5, q6⟩
      · rintro (q1 | ⟨q2, g, q3, q4, q5⟩)
        · exact Or.inl q1
        · exact Or.inr ⟨q2, g, q3, q5⟩
    · refine zg_I_iff hx2 (fun s w => ?_)
      rw [hT]
      constructor
      · rintro (q1 | ⟨q2, g, q3, q4, q5⟩)
        · exact q1
        · omega
      · exact fun q1 => Or.inl q1
