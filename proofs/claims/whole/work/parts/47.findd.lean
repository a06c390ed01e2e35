/-! Layer 2: the class finds all rounds -/
theorem zx_mk_ok {L : zl_T} {can : Nat → Nat → Nat → Bool} {h : Nat → Nat → Nat} (ho : zl_ok L) (hc : ∀ p q g, can p q g = true → p < zl_pp L ∧ q < zl_pp L ∧ g < zl_gd L ∧ p ≠ q) : zx_ok (zx_mk L can h) (zl_gd L) := by
  refine ⟨ho.2.2.1, ho.2.1, hc, fun p g hp hg => ⟨zl_wk_le ho hp hg _, ?_⟩⟩
  show zl_wl L p g (h p g) ≤ 999
  unfold zl_wl
  split
  · omega
  · exact zl_wk_le ho hp hg _
def zx_id (br id : Nat) : Prop := id < br + 3 ∨ br + 9 < id
theorem zx_find {L : zl_T} {can : Nat → Nat → Nat → Bool} {h : Nat → Nat → Nat} {c : g_St} {br bl F A : Nat} (ho : zl_ok L) (hc : ∀ p q g, can p q g = true → p < zl_pp L ∧ q < zl_pp L ∧ g < zl_gd L ∧ p ≠ q)
    (hL : zl_C L c bl) (hbl : bl + 23 ≤ br) (hg1 : ∀ p q, p < zl_pp L → q < 8 → c.1 (br + 1) (8 * p + q) = nI (z_bs (can p q) 6)) (hh : ∀ p g, p < zl_pp L → g < zl_gd L → c.1 (br + 2) (6 * p + g) = nI (h p g) ∧ h p g ≤ 1000)
    (hb : ∀ s, s < 256 → c.1 (br + 6) s = -nI 1 ∧ c.1 (br + 7) s = nI 0 ∧ c.1 (br + 8) s = nI 0 ∧ c.1 (br + 9) s = nI 0) (hA : A < 256) (hF : 300 < F) :
    z_w (og_find F br bl (nI A) c) (fun ν => z_f (zx_id br) c ν ∧ zr_C (zx_mk L can h) A br ν) := by
  have h8 := ho.2.2.1
  have h6 := ho.2.1
  have h5 := ho.1
  have h85 : zl_pp L ≤ 8 ∧ zl_pl L ≤ 5 := ⟨h8, h5⟩
  have hX := zx_mk_ok (h := h) ho hc
  -- the sets, when the rings are known
  have third : ∀ (any : Bool) (b : Nat → Nat) (μ : g_St), z_f (zx_id br) c μ → zb_B br b μ → zx_up (zx_all (zx_mk L can h) A) (fun _ => 0) b → (any = false → ∀ s w, ¬ zx_all (zx_mk L can h) A s w) → (∀ s, s < 256 → μ.1 (br + 7) s = nI 0 ∧ μ.1 (br + 8) s = nI 0 ∧ μ.1 (br + 9) s = nI 0) →
      z_w (og_find_72 F br bl (nI A) (nI any.toNat) F (nI 1) μ) (fun ν => z_f (zx_id br) c ν ∧ zr_C (zx_mk L can h) A br ν) := by
    intro any b μ hz hB hu hn h0
    cases any with
    | false =>
      have hb0 : ∀ s, b s = 0 := by
        intro s
        rcases (hu s).2.2 with e | e
        · exact e
        · exact absurd e (hn rfl _ _)
      obtain ⟨F', rfl⟩ : ∃ k, F = k + 1 := ⟨F - 1, by omega⟩
      show z_w (og_find_72_b (F' + 1) br bl (nI A) (nI 0) _ (nI 1) μ) _
      unfold og_find_72_b
      rw [if_pos (show nI 0 = (0 : Int32) from rfl)]
      refine z_w_some ⟨hz, b, hu, hB, fun s hs hin => ?_⟩
      have e := zm_f_none (b := b) (A := A) (fun p _ _ => hb0 p) 256 s (Nat.le_refl _) hin
      unfold zm_C; rw [e]; exact h0 s hs
    | true =>
      have hbb : ∀ s, s < 256 → b s < 100000 := fun s hs => (hB s hs).2
      refine z_cw (n := A + 1) (A := fun n i s => og_find_72 F br bl (nI A) (nI 1) n (nI i) s) (fun i s => 0 < i ∧ z_f (zm_w3 br) μ s ∧ ∀ j, j < i → z_in j A → zm_C br (zm_f b i) j s) ?_ ?_ F 1 μ (by omega) ⟨by omega, z_f_refl, fun j hj _ => ?_⟩ (by omega)
      · intro n i s hi hI hk
        obtain ⟨hi0, hz2, ht⟩ := hI
        show z_w (og_find_72_b F br bl (nI A) (nI 1) _ (nI i) s) _
        unfold og_find_72_b
        rw [if_neg (show ¬ nI 1 = (0 : Int32) from by decide), if_pos (nI_le (show i ≤ A by omega) (by omega)), show (-1 : Int32) = -nI 1 from rfl, z_andn, show (0 : Int32) = nI 0 from rfl, show (1 : Int32) = nI 1 from rfl, nI_add]
        have hxl : i ^^^ (i &&& A) < 256 := Nat.xor_lt_two_pow (n := 8) (by omega) (Nat.lt_of_le_of_lt Nat.and_le_left (by omega))
        simp only [z_eq (show i ^^^ (i &&& A) < 2147483648 by omega) (show 0 < 2147483648 by omega), z_sub_iff]
        by_cases hin : i &&& A = i
        · rw [if_pos hin]
          have hB2 : zb_B br b s := fun x hx => by rw [hz2.1 (br + 6) (by unfold zm_w3; omega)]; exact hB x hx
          refine z_w_call (zm_findMost (A := A) hB2 (by omega) (by omega) hin ht hF) (fun ν hν => ?_)
          obtain ⟨n1, n2, n3⟩ := hν
          refine hk ν ⟨by omega, z_f_trans hz2 n1 (fun _ q => q) (fun _ q => q), fun j hj hjA => ?_⟩
          by_cases e : j = i
          · subst e; exact n2
          · have := ht j (by omega) hjA
            unfold zm_C at *
            rw [n3 _ j e, n3 _ j e, n3 _ j e, zm_f_up (show j < i by omega) (show i ≤ i + 1 by omega)]; exact this
        · rw [if_neg hin]
          refine hk s ⟨by omega, hz2, fun j hj hjA => ?_⟩
          have e : j ≠ i := fun e => hin (e ▸ hjA)
          have := ht j (by omega) hjA
          unfold zm_C at *
          rw [zm_f_up (show j < i by omega) (show i ≤ i + 1 by omega)]; exact this
      · intro n s hI
        obtain ⟨hi0, hz2, ht⟩ := hI
        show z_w (og_find_72_b F br bl (nI A) (nI 1) _ (nI (A + 1)) s) _
        unfold og_find_72_b
        rw [if_neg (show ¬ nI 1 = (0 : Int32) from by decide), if_neg (by rw [z_le (by omega) (by omega)]; omega)]
        refine z_w_some ⟨z_f_trans hz hz2 (fun _ q => q) (fun id q => by unfold zx_id at q; unfold zm_w3; omega), b, hu, fun x hx => by rw [hz2.1 (br + 6) (by unfold zm_w3; omega)]; exact hB x hx, fun x hx hin => ?_⟩
        have hl := z_in_le hin
        have := ht x (by omega) hin
        unfold zm_C at *
        rw [zm_f_up (show x < A + 1 by omega) (show A + 1 ≤ 256 by omega)]; exact this
      · have : j = 0 := by omega
        subst this
        unfold zm_C; rw [zm_f_0]; exact h0 0 (by omega)
  -- the rings
  have secnd : ∀ μ, z_f (zx_w3 br) c μ → zx_C (zx_mk L can h) μ br (zl_gd L) → z_w (og_find_27 F br bl (nI A) F (nI 0) (nI 0) μ) (fun ν => z_f (zx_id br) c ν ∧ zr_C (zx_mk L can h) A br ν) := by
    intro μ hz hC
    have hB0 : zb_B br (fun _ => 0) μ := fun s hs => ⟨by rw [hz.1 (br + 6) (by unfold zx_w3; omega), (hb s hs).1]; rfl, by show (0 : Nat) < 100000; omega⟩
    have T : ∃ T : Nat → Nat → Nat → Prop, T = fun i s w => ∃ first, first < i ∧ A.testBit first = true ∧ zx_st (zx_mk L can h) first s w := ⟨_, rfl⟩
    obtain ⟨T, hT⟩ := T
    refine z_cw (n := zl_pp L) (A := fun n i (s : Bool × g_St) => og_find_27 F br bl (nI A) n (nI s.1.toNat) (nI i) s.2) (fun i s => zg_I (zx_mk L can h) br (zl_gd L) μ (fun _ => 0) (T i) s.2 s.1) ?_ ?_ F 0 (false, μ) (by omega) ?_ (by omega)
    · intro n i s hi hI hk
      obtain ⟨a, ν⟩ := s
      obtain ⟨b', hb1, hb2, hb3, hb4⟩ := hI
      have hC2 := zx_C_f hC hb4
      have hL2 : zl_C L ν bl := zl_C_f (zl_C_f hL h85 hz (fun id b1 b2 => by unfold zx_w3; omega)) h85 hb4 (fun id b1 b2 => by omega)
      have hbl2 := z_bit_lt A i
      show z_w (og_find_27_b F br bl (nI A) _ (nI a.toNat) (nI i) ν) _
      unfold og_find_27_b
      rw [hL2.2.2.1, if_pos (nI_lt hi (by omega))]
      simp (disch := omega) only [nI_lit, z_and, z_or, z_xor, z_n31, z_shr, z_shl1, z_bit_and, z_andn, z_eq, nI_add, Nat.or_zero]
      by_cases h1 : z_bit A i = 1
      · rw [if_pos h1]
        rw [z_bit_one] at h1
        refine z_w_call (zx_start hX hC2 hb1 hi (by omega)) (fun x hx => ?_)
        obtain ⟨a2, hx1, hx2⟩ := hx
        have hcomb := zg_I_trans hb2 hb3 hb4 hx2 (R := T (i + 1)) (fun s w => by
          rw [hT]
          constructor
          · rintro ⟨f, q1, q2, q3⟩
            by_cases e : f = i
            · subst e; exact Or.inr q3
            · exact Or.inl ⟨f, by omega, q2, q3⟩
          · rintro (⟨f, q1, q2⟩ | q1)
            · exact ⟨f, by omega, q2⟩
            · exact ⟨i, by omega, h1, q1⟩)
        rw [hx1]
        cases a2 with
        | false =>
          rw [if_pos (show nI (false).toNat = nI 0 from rfl)]
          have := hk (a || false, x.2) hcomb
          rw [Bool.or_false] at this; exact this
        | true =>
          rw [if_neg (show ¬ nI (true).toNat = nI 0 from by decide)]
          have := hk (a || true, x.2) hcomb
          rw [show a.toNat ||| 1 = (a || true).toNat from by cases a <;> rfl]; exact this
      · rw [if_neg h1]
        refine hk (a, ν) (zg_I_iff ⟨b', hb1, hb2, hb3, hb4⟩ (fun s w => ?_))
        rw [hT]
        constructor
        · rintro ⟨f, q1, q2, q3⟩
          refine ⟨f, ?_, q2, q3⟩
          by_cases e : f = i
          · subst e; exact absurd (by rw [z_bit_one]; exact q2) h1
          · omega
        · rintro ⟨f, q1, q2⟩
          exact ⟨f, by omega, q2⟩
    · intro n s hI
      obtain ⟨a, ν⟩ := s
      obtain ⟨b', hb1, hb2, hb3, hb4⟩ := hI
      have hL2 : zl_C L ν bl := zl_C_f (zl_C_f hL h85 hz (fun id b1 b2 => by unfold zx_w3; omega)) h85 hb4 (fun id b1 b2 => by omega)
      show z_w (og_find_27_b F br bl (nI A) _ (nI a.toNat) (nI (zl_pp L)) ν) _
      unfold og_find_27_b
      rw [hL2.2.2.1, if_neg (by rw [z_lt (by omega) (by omega)]; omega)]
      have hTe : ∀ s w, zx_all (zx_mk L can h) A s w ↔ T (zl_pp L) s w := by intro s w; rw [hT]; exact Iff.rfl
      refine third a b' ν (z_f_trans hz hb4 (fun id q => by unfold zx_id at q; unfold zx_w3; omega) (fun id q => by unfold zx_id at q; omega)) hb1 (zx_up_iff hb2 hTe) (fun ha s w hw => hb3 ha s w ((hTe s w).mp hw)) (fun s hs => ?_)
      have e := hb s hs
      rw [hb4.1 (br + 7) (by omega), hb4.1 (br + 8) (by omega), hb4.1 (br + 9) (by omega), hz.1 (br + 7) (by unfold zx_w3; omega), hz.1 (br + 8) (by unfold zx_w3; omega), hz.1 (br + 9) (by unfold zx_w3; omega)]
      exact e.2
    · refine ⟨fun _ => 0, hB0, zx_up_none (fun s w hw => ?_), fun _ s w hw => ?_, z_f_refl⟩
      · rw [hT] at hw; obtain ⟨f, q, -⟩ := hw; omega
      · rw [hT] at hw; obtain ⟨f, q, -⟩ := hw; omega
  -- the weighing
  unfold og_find
  refine z_cw (n := zl_pp L) (A := fun n i s => og_find_2 F br bl (nI A) n (nI i) s) (fun i s => z_f (zx_w3 br) c s ∧ ∀ p, p < i → zx_row (zx_mk L can h) s br (zl_gd L) p) ?_ ?_ F 0 c (by omega) ⟨z_f_refl, fun p hp => absurd hp (by omega)⟩ (by omega)
  · intro n i s hi hI hk
    obtain ⟨a1, a2⟩ := hI
    have hL2 := zl_C_f hL h85 a1 (fun id b1 b2 => by unfold zx_w3; omega)
    show z_w (og_find_2_b F br bl (nI A) _ (nI i) s) _
    unfold og_find_2_b
    rw [hL2.2.2.1, if_pos (nI_lt hi (by omega)), nI_1]
    refine z_w_call (zx_weigh (can := can) (h := h) ho hL2 hbl (fun g hg => by rw [a1.1 (br + 2) (by unfold zx_w3; omega)]; exact hh i g hi hg) hi (by omega)) (fun ν hν => ?_)
    obtain ⟨n1, n2, n3⟩ := hν
    refine hk ν ⟨z_f_trans a1 n1 (fun _ q => q) (fun _ q => q), fun p hp => ?_⟩
    by_cases e : p = i
    · subst e; exact n2
    · intro g hg
      have := a2 p (by omega) g hg
      rw [n3 _ p g e (by omega), n3 _ p g e (by omega), n3 _ p g e (by omega)]; exact this
  · intro n s hI
    obtain ⟨a1, a2⟩ := hI
    have hL2 := zl_C_f hL h85 a1 (fun id b1 b2 => by unfold zx_w3; omega)
    show z_w (og_find_2_b F br bl (nI A) _ (nI (zl_pp L)) s) _
    unfold og_find_2_b
    rw [hL2.2.2.1, if_neg (by rw [z_lt (by omega) (by omega)]; omega)]
    exact secnd s a1 ⟨fun p q hp hq => by rw [a1.1 (br + 1) (by unfold zx_w3; omega)]; exact hg1 p q hp hq, fun p g hp hg => a2 p hp g hg⟩
