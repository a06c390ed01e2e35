/-! Layer 2: rings: what they are worth, as sets of (set, worth + 1); the class closes a ring -/
def z_bs (P : Nat → Bool) (n : Nat) : Nat := z_ors (fun g => if P g = true then 2 ^ g else 0) n
theorem z_bs_lt (P : Nat → Bool) (n : Nat) : z_bs P n < 2 ^ n := by
  refine z_ors_lt (fun i hi => ?_)
  split
  · exact Nat.pow_lt_pow_right (by omega) hi
  · exact Nat.two_pow_pos _
theorem z_bs_tb (P : Nat → Bool) (j : Nat) : ∀ n, (z_bs P n).testBit j = (decide (j < n) && P j)
  | 0 => by show (0 : Nat).testBit j = _; simp
  | n + 1 => by
    have ih := z_bs_tb P j n
    show (z_bs P n ||| (if P n = true then 2 ^ n else 0)).testBit j = _
    rw [Nat.testBit_or, ih]
    by_cases h : P n = true
    · rw [if_pos h, Nat.testBit_two_pow]
      by_cases h2 : n = j
      · subst h2; simp [h]
      · by_cases h3 : j < n
        · simp [h3, h2, show j < n + 1 by omega]
        · simp [h3, h2, show ¬ j < n + 1 by omega]
    · rw [if_neg h, Nat.zero_testBit, Bool.or_false]
      by_cases h2 : n = j
      · subst h2; simp [h]
      · by_cases h3 : j < n
        · simp [h3, show j < n + 1 by omega]
        · simp [h3, show ¬ j < n + 1 by omega]
theorem z_shr_none {a i : Nat} (h : a >>> i = 0) : ∀ g, i ≤ g → a.testBit g = false := by
  intro g hg
  have h2 := congrArg (fun x => x.testBit (g - i)) h
  simp only [Nat.testBit_shiftRight, Nat.zero_testBit] at h2
  rw [show i + (g - i) = g by omega] at h2; exact h2
/-- what rings are made of: how many people, who can give whom what, what one more is worth, what the last one is -/
abbrev zx_T : Type := Nat × (Nat → Nat → Nat → Bool) × (Nat → Nat → Nat) × (Nat → Nat → Nat)
def zx_pp (X : zx_T) : Nat := X.1
def zx_can (X : zx_T) : Nat → Nat → Nat → Bool := X.2.1
def zx_mo (X : zx_T) : Nat → Nat → Nat := X.2.2.1
def zx_la (X : zx_T) : Nat → Nat → Nat := X.2.2.2
def zx_ok (X : zx_T) (gd : Nat) : Prop := zx_pp X ≤ 8 ∧ gd ≤ 6 ∧ (∀ p q g, zx_can X p q g = true → p < zx_pp X ∧ q < zx_pp X ∧ g < gd ∧ p ≠ q) ∧ ∀ p g, p < zx_pp X → g < 6 → zx_mo X p g ≤ 999 ∧ zx_la X p g ≤ 999
def zx_gl (X : zx_T) (p got gave : Nat) : Bool := decide (gave ≠ got) && decide (zx_la X p gave < zx_mo X p got)
theorem zx_gl_lt {X : zx_T} {p a b : Nat} (h : zx_gl X p a b = true) : zx_la X p b < zx_mo X p a := by
  unfold zx_gl at h; rw [Bool.and_eq_true] at h; exact of_decide_eq_true h.2
def zx_cl (X : zx_T) (ring first gave one got gain s w : Nat) : Prop := s = ring ∧ ∃ g, zx_can X one first g = true ∧ zx_gl X one got g = true ∧ zx_gl X first g gave = true ∧ w = gain + zx_mo X one got - zx_la X one g + (zx_mo X first g - zx_la X first gave) + 1
def zx_cd (X : zx_T) : Nat → Nat → Nat → Nat → Nat → Nat → Nat → Nat → Nat → Prop
  | 0, ring, first, gave, one, got, gain, s, w => zx_cl X ring first gave one got gain s w
  | n + 1, ring, first, gave, one, got, gain, s, w => zx_cl X ring first gave one got gain s w ∨ ∃ q g, first < q ∧ ring.testBit q = false ∧ zx_can X one q g = true ∧ zx_gl X one got g = true ∧ zx_cd X n (ring ||| 2 ^ q) first gave q g (gain + zx_mo X one got - zx_la X one g) s w
/-- a row of bests is brought up to a set of candidates -/
def zx_up (S : Nat → Nat → Prop) (b b' : Nat → Nat) : Prop := ∀ s, b s ≤ b' s ∧ (∀ w, S s w → w ≤ b' s) ∧ (b' s = b s ∨ S s (b' s))
theorem zx_up_none {S : Nat → Nat → Prop} {b : Nat → Nat} (h : ∀ s w, ¬ S s w) : zx_up S b b := fun s => ⟨Nat.le_refl _, fun w hw => absurd hw (h s w), Or.inl rfl⟩
theorem zx_up_trans {S T R : Nat → Nat → Prop} {b b' b'' : Nat → Nat} (h : zx_up S b b') (h2 : zx_up T b' b'') (hr : ∀ s w, R s w ↔ S s w ∨ T s w) : zx_up R b b'' := by
  intro s
  obtain ⟨a1, a2, a3⟩ := h s
  obtain ⟨c1, c2, c3⟩ := h2 s
  refine ⟨Nat.le_trans a1 c1, fun w hw => ?_, ?_⟩
  · rcases (hr s w).mp hw with h4 | h4
    · exact Nat.le_trans (a2 w h4) c1
    · exact c2 w h4
  · rcases c3 with h4 | h4
    · rcases a3 with h5 | h5
      · exact Or.inl (by rw [h4, h5])
      · exact Or.inr ((hr _ _).mpr (Or.inl (by rw [h4]; exact h5)))
    · exact Or.inr ((hr _ _).mpr (Or.inr h4))
theorem zx_up_iff {S T : Nat → Nat → Prop} {b b' : Nat → Nat} (h : zx_up S b b') (hr : ∀ s w, T s w ↔ S s w) : zx_up T b b' :=
  fun s => ⟨(h s).1, fun w hw => (h s).2.1 w ((hr s w).mp hw), (h s).2.2.imp id (fun q => (hr _ _).mpr q)⟩
theorem zx_up_one {b : Nat → Nat} {s0 w0 : Nat} : zx_up (fun s w => s = s0 ∧ w = w0) b (fun s => if s = s0 then max (b s) w0 else b s) := by
  intro s
  show b s ≤ (if s = s0 then max (b s) w0 else b s) ∧ (∀ w, s = s0 ∧ w = w0 → w ≤ (if s = s0 then max (b s) w0 else b s)) ∧ ((if s = s0 then max (b s) w0 else b s) = b s ∨ (s = s0 ∧ (if s = s0 then max (b s) w0 else b s) = w0))
  by_cases h : s = s0
  · rw [if_pos h]
    refine ⟨Nat.le_max_left _ _, fun w hw => by rw [hw.2]; exact Nat.le_max_right _ _, ?_⟩
    rcases Nat.le_total (b s) w0 with h2 | h2
    · right; exact ⟨h, Nat.max_eq_right h2⟩
    · left; exact Nat.max_eq_left h2
  · rw [if_neg h]
    exact ⟨Nat.le_refl _, fun w hw => absurd hw.1 h, Or.inl rfl⟩
theorem zx_up_uni {S : Nat → Nat → Prop} {b b1 b2 : Nat → Nat} (h1 : zx_up S b b1) (h2 : zx_up S b b2) : b1 = b2 := by
  funext s
  obtain ⟨a1, a2, a3⟩ := h1 s
  obtain ⟨c1, c2, c3⟩ := h2 s
  apply Nat.le_antisymm
  · rcases a3 with h | h
    · rw [h]; exact c1
    · exact c2 _ h
  · rcases c3 with h | h
    · rw [h]; exact a1
    · exact a2 _ h
theorem zx_up_dom {S T : Nat → Nat → Prop} {b b' : Nat → Nat} (h : zx_up S b b') (h1 : ∀ s w, T s w → S s w) (h2 : ∀ s w, S s w → ∃ w', w ≤ w' ∧ T s w') : zx_up T b b' := by
  intro s
  obtain ⟨a1, a2, a3⟩ := h s
  refine ⟨a1, fun w hw => a2 w (h1 s w hw), ?_⟩
  rcases a3 with h4 | h4
  · exact Or.inl h4
  · obtain ⟨w', h5, h6⟩ := h2 s _ h4
    have := a2 w' (h1 s w' h6)
    exact Or.inr (by rw [show b' s = w' by omega]; exact h6)
set_option maxRecDepth 20000 in
/-- the bound of what is worth -/
theorem zx_cd_le {X : zx_T} {gd : Nat} (ho : zx_ok X gd) : ∀ {n ring first gave one got gain s w : Nat}, first < zx_pp X → one < zx_pp X → got < 6 → gave < 6 → zx_cd X n ring first gave one got gain s w → w ≤ gain + 999 * (n + 1) + 1000 := by
  have base : ∀ {ring first gave one got gain s w : Nat}, first < zx_pp X → one < zx_pp X → got < 6 → gave < 6 → zx_cl X ring first gave one got gain s w → w ≤ gain + 999 + 1000 := by
    intro ring first gave one got gain s w hf hone hgot hgave ⟨_, g, h1, h2, h3, h4⟩
    have a := ho.2.2.1 _ _ _ h1
    have b1 := (ho.2.2.2 one got hone hgot).1
    have b2 := (ho.2.2.2 first g hf (by have := ho.2.1; omega)).1
    omega
  intro n
  induction n with
  | zero => intro ring first gave one got gain s w hf hone hgot hgave h; have := base hf hone hgot hgave h; omega
  | succ n ih =>
    intro ring first gave one got gain s w hf hone hgot hgave h
    rcases h with h | ⟨q, g, h1, h2, h3, h4, h5⟩
    · have := base hf hone hgot hgave h; omega
    · have a := ho.2.2.1 _ _ _ h3
      have b1 := (ho.2.2.2 one got hone hgot).1
      have := ih hf a.2.1 (by have := ho.2.1; omega) hgave h5
      omega
/-- the class's rows -/
def zx_C (X : zx_T) (c : g_St) (br gd : Nat) : Prop := (∀ p q, p < zx_pp X → q < 8 → c.1 (br + 1) (8 * p + q) = nI (z_bs (zx_can X p q) 6)) ∧ ∀ p g, p < zx_pp X → g < gd → c.1 (br + 3) (6 * p + g) = nI (zx_mo X p g) ∧ c.1 (br + 4) (6 * p + g) = nI (zx_la X p g) ∧ c.1 (br + 5) (6 * p + g) = nI (z_bs (zx_gl X p g) gd)
theorem zx_C_f {X : zx_T} {c c2 : g_St} {br gd : Nat} (h : zx_C X c br gd) (hz : z_f (fun id => id ≠ br + 6) c c2) : zx_C X c2 br gd := by
  unfold zx_C at *
  rw [hz.1 (br + 1) (by omega), hz.1 (br + 3) (by omega), hz.1 (br + 4) (by omega), hz.1 (br + 5) (by omega)]
  exact h
def zb_B (br : Nat) (b : Nat → Nat) (c : g_St) : Prop := ∀ s, s < 256 → c.1 (br + 6) s = zE (b s) ∧ b s < 100000
def zg_I (X : zx_T) (br gd : Nat) (c : g_St) (b : Nat → Nat) (S : Nat → Nat → Prop) (μ : g_St) (any : Bool) : Prop := ∃ b', zb_B br b' μ ∧ zx_up S b b' ∧ (any = false → ∀ s w, ¬ S s w) ∧ z_f (fun id => id ≠ br + 6) c μ
theorem zg_I_iff {X : zx_T} {br gd : Nat} {c μ : g_St} {b : Nat → Nat} {S T : Nat → Nat → Prop} {any : Bool} (h : zg_I X br gd c b S μ any) (hr : ∀ s w, T s w ↔ S s w) : zg_I X br gd c b T μ any := by
  obtain ⟨b', h1, h2, h3, h4⟩ := h
  exact ⟨b', h1, zx_up_iff h2 hr, fun ha s w hw => h3 ha s w ((hr s w).mp hw), h4⟩
theorem zg_I_trans {X : zx_T} {br gd : Nat} {c μ ν : g_St} {b b' : Nat → Nat} {S T R : Nat → Nat → Prop} {a1 a2 : Bool} (u : zx_up S b b') (n : a1 = false → ∀ s w, ¬ S s w) (z : z_f (fun id => id ≠ br + 6) c μ) (h : zg_I X br gd μ b' T ν a2) (hr : ∀ s w, R s w ↔ S s w ∨ T s w) : zg_I X br gd c b R ν (a1 || a2) := by
  obtain ⟨b2, h1, h2, h3, h4⟩ := h
  refine ⟨b2, h1, zx_up_trans u h2 hr, fun ha s w hw => ?_, z_f_trans z h4 (fun _ q => q) (fun _ q => q)⟩
  have ha2 : a1 = false ∧ a2 = false := by revert ha; cases a1 <;> cases a2 <;> simp
  rcases (hr s w).mp hw with q | q
  · exact n ha2.1 s w q
  · exact h3 ha2.2 s w q
theorem z_or_b (a b : Bool) : nI a.toNat ||| nI b.toNat = nI (a || b).toNat := by
  rw [z_or]; cases a <;> cases b <;> rfl
theorem z_and_b (a : Bool) : nI a.toNat &&& nI 1 = nI a.toNat := by
  rw [z_and]; cases a <;> rfl
theorem z_and_b2 (a : Bool) : nI (a.toNat &&& 1) = nI a.toNat := by cases a <;> rfl
/-- the class closes a ring -/
theorem zx_close {X : zx_T} {br gd F ring first gave one got gain : Nat} {c : g_St} {b : Nat → Nat} (ho : zx_ok X gd) (hC : zx_C X c br gd) (hB : zb_B br b c) (hr : ring < 256) (hf : first < zx_pp X) (hone : one < zx_pp X) (hgot : got < gd) (hgave : gave < gd) (hg : gain ≤ 10000) (hF : 20 < F) :
    z_w (og_closeRing F br (nI ring) (nI first) (nI gave) (nI (z_bs (zx_gl X one got) gd &&& z_bs (zx_can X one first) 6)) (nI one) (nI (gain + zx_mo X one got)) c) (fun q => ∃ any : Bool, q.1 = nI any.toNat ∧ zg_I X br gd c b (zx_cl X ring first gave one got gain) q.2 any) := by
  have h8 := ho.1
  have h6 := ho.2.1
  generalize hG : z_bs (zx_gl X one got) gd &&& z_bs (zx_can X one first) 6 = G
  have hGt : ∀ g, G.testBit g = ((decide (g < gd) && zx_gl X one got g) && (decide (g < 6) && zx_can X one first g)) := fun g => by rw [← hG, Nat.testBit_and, z_bs_tb, z_bs_tb]
  have hGl : G < 64 := by rw [← hG]; exact Nat.lt_of_le_of_lt Nat.and_le_right (z_bs_lt _ 6)
  have hm1 := (ho.2.2.2 one got hone (by omega)).1
  -- candidates with a good below i
  have S : ∃ S : Nat → Nat → Nat → Prop, S = fun i s w => s = ring ∧ ∃ g, g < i ∧ zx_can X one first g = true ∧ zx_gl X one got g = true ∧ zx_gl X first g gave = true ∧ w = gain + zx_mo X one got - zx_la X one g + (zx_mo X first g - zx_la X first gave) + 1 := ⟨_, rfl⟩
  obtain ⟨S, hS⟩ := S
  have hexit : ∀ i μ any, (∀ g, i ≤ g → g < 6 → G.testBit g = false) → zg_I X br gd c b (S i) μ any → zg_I X br gd c b (zx_cl X ring first gave one got gain) μ any := by
    intro i μ any hn h
    refine zg_I_iff h (fun s w => ?_)
    rw [hS]
    unfold zx_cl
    constructor
    · rintro ⟨h1, g, h2, h3, h4, h5⟩
      refine ⟨h1, g, ?_, h2, h3, h4, h5⟩
      refine Nat.lt_of_not_le (fun hle => ?_)
      have a := ho.2.2.1 _ _ _ h2
      have := hn g hle (by omega)
      rw [hGt, h2, h3] at this
      simp [show g < gd by omega, show g < 6 by omega] at this
    · rintro ⟨h1, g, h0, h2, h3, h4, h5⟩
      exact ⟨h1, g, h2, h3, h4, h5⟩
  unfold og_closeRing
  rw [show (6 : Int32) = nI 6 from rfl, z_mul, Nat.mul_comm first 6]
  refine z_cw (n := 6) (A := fun n i (s : Bool × g_St) => og_closeRing_12 F br (nI ring) (nI gave) (nI G) (nI one) (nI (gain + zx_mo X one got)) (nI (6 * first)) n (nI s.1.toNat) (nI i) s.2) (fun i s => zg_I X br gd c b (S i) s.2 s.1) ?_ ?_ F 0 (false, c) (by omega) ?_ (by omega)
  · intro n i s hi hI hk
    obtain ⟨any, μ⟩ := s
    obtain ⟨b', hb1, hb2, hb3, hb4⟩ := hI
    have hC2 := zx_C_f hC hb4
    show z_w (og_closeRing_12_b F br (nI ring) (nI gave) (nI G) (nI one) (nI (gain + zx_mo X one got)) (nI (6 * first)) _ (nI any.toNat) (nI i) μ) _
    unfold og_closeRing_12_b
    have hGs : G >>> i < 64 := Nat.lt_of_le_of_lt (Nat.shiftRight_le G i) hGl
    have hbl := z_bit_lt G i
    simp (disch := omega) only [↓reduceIte, nI_lit, z_lt, hi, z_and, z_or, z_xor, z_n31, z_shr, z_shl1, z_bit_and, z_andn, z_eq]
    by_cases h0 : G >>> i = 0
    · rw [if_pos h0]
      exact z_w_some ⟨any, z_and_b2 any, hexit i μ any (fun g h1 _ => z_shr_none h0 g h1) ⟨b', hb1, hb2, hb3, hb4⟩⟩
    · rw [if_neg h0]
      have skip : ∀ _ : ¬ (zx_can X one first i = true ∧ zx_gl X one got i = true ∧ zx_gl X first i gave = true), zg_I X br gd c b (S (i + 1)) μ any := by
        intro hno
        refine zg_I_iff ⟨b', hb1, hb2, hb3, hb4⟩ (fun s w => ?_)
        rw [hS]
        constructor
        · rintro ⟨h1, g, h2, h3, h4, h5, h6⟩
          refine ⟨h1, g, ?_, h3, h4, h5, h6⟩
          by_cases e : g = i
          · subst e; exact absurd ⟨h3, h4, h5⟩ hno
          · omega
        · rintro ⟨h1, g, h2, h3⟩
          exact ⟨h1, g, by omega, h3⟩
      by_cases h1 : z_bit G i = 1
      · rw [if_pos (by rw [h1])]
        have h1b := h1
        rw [z_bit_one, hGt] at h1b
        have hgd : i < gd := by simp only [Bool.and_eq_true, decide_eq_true_eq] at h1b; exact h1b.1.1
        have hgl : zx_gl X one got i = true := by simp only [Bool.and_eq_true] at h1b; exact h1b.1.2
        have hcan : zx_can X one first i = true := by simp only [Bool.and_eq_true] at h1b; exact h1b.2.2
        have r5 := (hC2.2 first i hf hgd).2.2
        have r3 := (hC2.2 first i hf hgd).1
        have r4 := (hC2.2 first gave hf hgave).2.1
        have r4b := (hC2.2 one i hone hgd).2.1
        have hgb : z_bs (zx_gl X first i) gd < 64 := Nat.lt_of_lt_of_le (z_bs_lt _ gd) (Nat.pow_le_pow_right (by omega) h6 : 2 ^ gd ≤ 2 ^ 6)
        have hbl2 := z_bit_lt (z_bs (zx_gl X first i) gd) gave
        rw [nI_add, z_rd (by omega) (by omega), z_sbind, r5]
        simp (disch := omega) only [↓reduceIte, nI_lit, z_and, z_or, z_xor, z_n31, z_shr, z_shl1, z_bit_and, z_andn, z_eq]
        by_cases h2 : z_bit (z_bs (zx_gl X first i) gd) gave = 1
        · rw [if_pos h2]
          rw [z_bit_one, z_bs_tb] at h2
          have hgl2 : zx_gl X first i gave = true := by simp only [Bool.and_eq_true] at h2; exact h2.2
          have l1 := zx_gl_lt hgl
          have l2 := zx_gl_lt hgl2
          have bm := (ho.2.2.2 first i hf (by omega)).1
          have rb := hb1 ring hr
          have hw : (zE (gain + zx_mo X one got - zx_la X one i + (zx_mo X first i - zx_la X first gave) + 1)) = nI (gain + zx_mo X one got - zx_la X one i + (zx_mo X first i - zx_la X first gave)) := zE_s _
          have hx := ho.2.2.2 one i hone (by omega)
          rw [nI_add, z_rd (by omega) (by omega), z_sbind, r3, nI_add, z_rd (by omega) (by omega), z_sbind, r4, z_rd (by omega) (by omega), z_sbind, rb.1, z_mul, nI_add, Nat.mul_comm one 6, z_rd (by omega) (by omega), z_sbind, r4b, z_sub (by omega), z_sub (by omega), nI_add, ← hw, zE_max (by omega) (by omega), z_wr (by omega) (by omega), z_sbind]
          refine hk (true, g_sI μ (br + 6) ring (zE (max (b' ring) (gain + zx_mo X one got - zx_la X one i + (zx_mo X first i - zx_la X first gave) + 1)))) ?_
          refine ⟨fun s => if s = ring then max (b' s) (gain + zx_mo X one got - zx_la X one i + (zx_mo X first i - zx_la X first gave) + 1) else b' s, ?_, zx_up_trans hb2 (zx_up_one (b := b') (s0 := ring) (w0 := gain + zx_mo X one got - zx_la X one i + (zx_mo X first i - zx_la X first gave) + 1)) (fun s w => ?_), (fun h => by cases h), z_f_trans hb4 (z_f_sI (P := fun id => id ≠ br + 6) (fun q => q rfl)) (fun _ q => q) (fun _ q => q)⟩
          · intro s hs
            by_cases e : s = ring
            · subst e; simp only [if_true]; exact ⟨z_sI_same _ _ _ _, by have := (hb1 s hs).2; omega⟩
            · simp only [if_neg e]; exact ⟨by rw [z_sI_k e]; exact (hb1 s hs).1, (hb1 s hs).2⟩
          · rw [hS]
            constructor
            · rintro ⟨q1, g, q2, q3, q4, q5, q6⟩
              by_cases e : g = i
              · subst e; exact Or.inr ⟨q1, q6⟩
              · exact Or.inl ⟨q1, g, by omega, q3, q4, q5, q6⟩
            · rintro (⟨q1, g, q2, q3⟩ | ⟨q1, q2⟩)
              · exact ⟨q1, g, by omega, q3⟩
              · exact ⟨q1, i, by omega, hcan, hgl, hgl2, q2⟩
        · rw [if_neg h2, nI_add]
          refine hk (any, μ) (skip (fun q => h2 ?_))
          rw [z_bit_one, z_bs_tb, q.2.2]; simp [hgave]
      · rw [if_neg h1, nI_add]
        refine hk (any, μ) (skip (fun q => h1 ?_))
        have a := ho.2.2.1 _ _ _ q.1
        rw [z_bit_one, hGt, q.1, q.2.1]; simp [show i < gd by omega, show i < 6 by omega]
  · intro n s hI
    show z_w (og_closeRing_12_b F br (nI ring) (nI gave) (nI G) (nI one) (nI (gain + zx_mo X one got)) (nI (6 * first)) _ (nI s.1.toNat) (nI 6) s.2) _
    unfold og_closeRing_12_b
    simp (disch := omega) only [↓reduceIte, nI_lit, z_lt, Nat.lt_irrefl]
    exact z_w_some ⟨s.1, z_and_b _, hexit 6 s.2 s.1 (fun g h1 h2 => absurd h1 (by omega)) hI⟩
  · refine ⟨b, hB, zx_up_none (fun s w hw => ?_), fun _ s w hw => ?_, z_f_refl⟩
    · rw [hS] at hw; obtain ⟨-, g, h, -⟩ := hw; omega
    · rw [hS] at hw; obtain ⟨-, g, h, -⟩ := hw; omega
