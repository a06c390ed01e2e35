/-! Layer 2: all rings of the reference -/
def zj_t1 (X : zx_T) (p q k : Nat) : Nat := if k % 7 = 0 ∧ zx_can X p q (k / 7) = true then 1 else 0
theorem zj_rings {X : zx_T} {gd F : Nat} {r : g_St} (ho : zx_ok X gd) (hX : zj_X X r) (hF : 300 < F) : z_w (mm_rings F r) (fun ν => ∃ b, zj_B b ν ∧ zx_up (zx_all X 255) (fun _ => 0) b ∧ z_f zj_P r ν) := by
  have h8 := ho.1
  have h6 := ho.2.1
  have t255 : ∀ k, k < 8 → (255 : Nat).testBit k = true := by decide
  have walk : ∀ μ, zj_B (fun _ => 0) μ → z_f zj_P r μ → z_w (mm_rings_24 F F (nI 0) μ) (fun ν => ∃ b, zj_B b ν ∧ zx_up (zx_all X 255) (fun _ => 0) b ∧ z_f zj_P r ν) := by
    intro μ hB hz
    have T : ∃ T : Nat → Nat → Nat → Prop, T = fun i s w => ∃ first, first < i ∧ zx_st X first s w := ⟨_, rfl⟩
    obtain ⟨T, hT⟩ := T
    refine z_cw (n := zx_pp X) (A := fun n i s => mm_rings_24 F n (nI i) s) (fun i s => ∃ b, zj_B b s ∧ zx_up (T i) (fun _ => 0) b ∧ z_f zj_P r s) ?_ ?_ F 0 μ (by omega) ⟨fun _ => 0, hB, zx_up_none (fun s w hw => ?_), hz⟩ (by omega)
    · intro n p s hp hI hk
      obtain ⟨b, d1, d2, d3⟩ := hI
      have hXs := zj_X_f hX d3
      show z_w (mm_rings_24_b F _ (nI p) s) _
      unfold mm_rings_24_b
      rw [show (0 : Int32) = nI 0 from rfl, z_rd (by omega) (by omega), z_sbind, hXs.1, if_pos (nI_lt hp (by omega)), z_wr (by omega) (by omega), z_sbind]
      simp (disch := omega) only [z_and, z_or, z_xor, z_n31, z_shr, z_shl1, z_bit_and, z_andn, nI_lit]
      have z1 : z_f zj_P r (g_sI s 40 0 (nI p)) := z_f_trans d3 (z_f_sI (P := zj_P) (fun q => by unfold zj_P at q; omega)) (fun _ q => q) (fun _ q => q)
      have B1 : zj_B b (g_sI s 40 0 (nI p)) := fun x hx => by rw [z_sI_id (by omega)]; exact d1 x hx
      have G : z_w (mm_goesOn F 9 (nI 0) (nI (2 ^ p)) (g_sI s 40 0 (nI p))) (fun ν => ∃ b', zj_B b' ν ∧ zx_up (zx_st X p) b b' ∧ z_f zj_P r ν) := by
        show z_w (mm_goesOn_b F (mm_goesOn F 8) (nI 0) (nI (2 ^ p)) (g_sI s 40 0 (nI p))) _
        unfold mm_goesOn_b
        rw [if_neg (show ¬ (0 : Int32) < nI 0 from by decide), show (0 : Int32) = nI 0 from rfl, z_rd (by omega) (by omega), z_sbind, z_sI_same, show (1 : Int32) = nI 1 from rfl, nI_add]
        have C : ∃ C : Nat → Nat → Nat → Prop, C = fun i s w => ∃ q g, p < q ∧ q < i ∧ zx_can X p q g = true ∧ zx_cd X 3 (2 ^ p ||| 2 ^ q) p g q g 0 s w := ⟨_, rfl⟩
        obtain ⟨C, hC⟩ := C
        refine z_cw (n := zx_pp X) (A := fun m i s => mm_goesOn_19 F (mm_goesOn F 8) (nI 0) (nI (2 ^ p)) m (nI i) s) (fun i μ => p < i ∧ ∃ b', zj_B b' μ ∧ zx_up (C i) b b' ∧ z_f zj_P r μ ∧ μ.1 40 0 = nI p) ?_ ?_ F (p + 1) _ (by omega) ⟨by omega, b, B1, zx_up_none (fun s w hw => ?_), z1, z_sI_same _ _ _ _⟩ (by omega)
        · intro m q μ2 hq hI2 hk2
          obtain ⟨hpq, b1, e1, e2, e3, e4⟩ := hI2
          have hX2 := zj_X_f hX e3
          have hbl := z_bit_lt (2 ^ p) q
          have hp8 := z_p8 (show p < 8 by omega)
          show z_w (mm_goesOn_19_b F (mm_goesOn F 8) (nI 0) (nI (2 ^ p)) _ (nI q) μ2) _
          unfold mm_goesOn_19_b
          rw [show (0 : Int32) = nI 0 from rfl, z_rd (by omega) (by omega), z_sbind, hX2.1, if_pos (nI_lt hq (by omega)), if_pos (show nI 0 < (4 : Int32) from by decide)]
          simp (disch := omega) only [z_and, z_or, z_xor, z_n31, z_shr, z_shl1, z_bit_and, z_andn, nI_lit, z_eq]
          have hb : ¬ z_bit (2 ^ p) q = 1 := by rw [z_bit_one, Nat.testBit_two_pow]; simp [show ¬ p = q by omega]
          rw [if_neg hb, if_pos trivial]
          -- the row is laid
          have row : ∀ μ3, z_f (fun id => id ≠ 41) μ2 μ3 → (∀ k, k < 36 → μ3.1 41 (36 + k) = zE 0) → z_w (mm_goesOn_78 F (mm_goesOn F 8) (nI 0) (nI (2 ^ p)) (nI q) (mm_goesOn_19 F (mm_goesOn F 8) (nI 0) (nI (2 ^ p)) m) F (nI 0) μ3) (fun ν => ∃ b', zj_B b' ν ∧ zx_up (zx_st X p) b b' ∧ z_f zj_P r ν) := by
            intro μ3 f3 r3
            refine z_cw (n := 6) (A := fun n i s => mm_goesOn_78 F (mm_goesOn F 8) (nI 0) (nI (2 ^ p)) (nI q) (mm_goesOn_19 F (mm_goesOn F 8) (nI 0) (nI (2 ^ p)) m) n (nI i) s) (fun i s => z_f (fun id => id ≠ 41) μ2 s ∧ ∀ k, k < 36 → s.1 41 (36 + k) = zE (if k < 7 * i then zj_t1 X p q k else 0)) ?_ ?_ F 0 μ3 (by omega) ⟨f3, fun k hk => by rw [if_neg (by omega)]; exact r3 k hk⟩ (by omega)
            · intro n2 g s4 hg hI4 hk4
              obtain ⟨a1, a2⟩ := hI4
              have e40 : s4.1 40 = μ2.1 40 := a1.1 _ (by omega)
              have e38 : s4.1 38 = μ2.1 38 := a1.1 _ (by omega)
              have hcn := hX2.2.1 p q g (by omega) (by omega) hg
              show z_w (mm_goesOn_78_b F (mm_goesOn F 8) (nI 0) (nI (2 ^ p)) (nI q) _ _ (nI g) s4) _
              unfold mm_goesOn_78_b
              have key : ∀ k, k < 36 → ∀ v, (k = 7 * g → v = zj_t1 X p q k) → (if k = 7 * g then zE v else zE (if k < 7 * g then zj_t1 X p q k else 0)) = zE (if k < 7 * (g + 1) then zj_t1 X p q k else 0) := by
                intro k hk v hv
                by_cases e : k = 7 * g
                · rw [if_pos e, if_pos (by omega), hv e]
                · rw [if_neg e]
                  by_cases e2 : k < 7 * g
                  · rw [if_pos e2, if_pos (by omega)]
                  · rw [if_neg e2]
                    by_cases e3 : k < 7 * (g + 1)
                    · rw [if_pos e3]; unfold zj_t1; rw [if_neg (by omega)]
                    · rw [if_neg e3]
              rw [show (6 : Int32) = nI 6 from rfl, if_pos (nI_lt hg (by omega)), show (0 : Int32) = nI 0 from rfl, z_rd (by omega) (by omega), z_sbind, e40, e4, show (48 : Int32) = nI 48 from rfl, z_mul, z_mul, nI_add, nI_add, z_rd (by omega) (by omega), z_sbind, e38, hcn]
              have hm7 : 7 * g % 7 = 0 := Nat.mul_mod_right 7 g
              have hd7 : 7 * g / 7 = g := Nat.mul_div_cancel_left g (by omega)
              cases hcan : zx_can X p q g with
              | false =>
                rw [if_pos (show nI (false).toNat = nI 0 from rfl), nI_1]
                refine hk4 s4 ⟨a1, fun k hk => ?_⟩
                rw [← key k hk 0 (fun e => by subst e; unfold zj_t1; rw [hd7, hcan]; simp), a2 k hk]
                by_cases e : k = 7 * g
                · rw [if_pos e, if_neg (by omega)]
                · rw [if_neg e]
              | true =>
                rw [if_neg (show ¬ nI (true).toNat = nI 0 from by decide), show (36 : Int32) = nI 36 from rfl, show (7 : Int32) = nI 7 from rfl, z_mul, nI_add, z_wr (by omega) (by omega), z_sbind, nI_1]
                refine hk4 _ ⟨z_f_trans a1 (z_f_sI (P := fun id => id ≠ 41) (fun q => q rfl)) (fun _ q => q) (fun _ q => q), fun k hk => ?_⟩
                rw [← key k hk 1 (fun e => by subst e; unfold zj_t1; rw [hd7, hcan, hm7]; simp)]
                by_cases e : k = 7 * g
                · rw [if_pos e, e, z_sI_same]; rfl
                · rw [if_neg e, z_sI_k (by omega)]; exact a2 k hk
            · intro n2 s4 hI4
              obtain ⟨a1, a2⟩ := hI4
              have e40 : s4.1 40 = μ2.1 40 := a1.1 _ (by omega)
              show z_w (mm_goesOn_78_b F (mm_goesOn F 8) (nI 0) (nI (2 ^ p)) (nI q) _ _ (nI 6) s4) _
              unfold mm_goesOn_78_b
              rw [show (6 : Int32) = nI 6 from rfl, if_neg (by rw [z_lt (by omega) (by omega)]; omega)]
              have z4 : z_f zj_P r s4 := z_f_trans e3 a1 (fun _ q => q) (fun id q => by unfold zj_P at q; omega)
              have B4 : zj_B b1 s4 := fun x hx => by rw [a1.1 39 (by omega)]; exact e1 x hx
              have row4 : ∀ k, k < 36 → s4.1 41 (36 * (0 + 1) + k) = zE (zj_t1 X p q k) ∧ zj_t1 X p q k ≤ 1 := by
                intro k hk
                refine ⟨?_, by unfold zj_t1; split <;> omega⟩
                have := a2 k hk
                rw [if_pos (by omega)] at this
                exact this
              have conv : ∀ s w, zj_tc X 3 (2 ^ p ||| 2 ^ q) p q (zj_t1 X p q) s w ↔ ∃ g, zx_can X p q g = true ∧ zx_cd X 3 (2 ^ p ||| 2 ^ q) p g q g 0 s w := by
                intro s w
                unfold zj_tc
                constructor
                · rintro ⟨a, b2, h, p1, p2, p3, p4⟩
                  unfold zj_t1 at p3
                  by_cases e : (6 * a + b2) % 7 = 0 ∧ zx_can X p q ((6 * a + b2) / 7) = true
                  · rw [if_pos e] at p3
                    have eab : b2 = a := by omega
                    subst eab
                    have e5 : (6 * b2 + b2) / 7 = b2 := by omega
                    rw [e5] at e
                    have h0 : h = 0 := by omega
                    subst h0
                    exact ⟨b2, e.2, p4⟩
                  · rw [if_neg e] at p3; omega
                · rintro ⟨g, p1, p2⟩
                  have hg6 : g < 6 := by have := ho.2.2.1 _ _ _ p1; omega
                  refine ⟨g, g, 0, hg6, hg6, ?_, p2⟩
                  unfold zj_t1
                  rw [if_pos ⟨by omega, by rw [show (6 * g + g) / 7 = g by omega]; exact p1⟩]
              refine zj_139 (X := X) (gd := gd) (n := 3) (first := p) (last := p) (d := 0) (r := s4) (S0 := fun _ _ => False) (S1 := zj_tc X 3 (2 ^ p ||| 2 ^ q) p q (zj_t1 X p q)) (T := zj_tc X 3 (2 ^ p ||| 2 ^ q) p q (zj_t1 X p q)) (R := fun _ => True) (tn := zj_t1 X p q) (b := b1) (by omega) (by omega) (fun ξ b2 x1 x2 x3 x4 x5 => ?_) ⟨b1, B4, zx_up_none (fun _ _ h => h), z_f_refl, fun _ _ => rfl, fun _ _ => rfl⟩ (fun k hk => ⟨(row4 k hk).1, by have := (row4 k hk).2; omega⟩) (fun h0 s w hw => ?_) (fun s w => by simp) (by omega) (fun ξ hξ => ?_)
              · exact zj_goes ho (by omega) 3 1 8 (by omega) (by omega) (by omega) (2 ^ p ||| 2 ^ q) p q (zj_t1 X p q) ξ b2 (zj_X_f (zj_X_f hX z4) x2) x1 (fun k hk => ⟨by rw [x5]; exact (row4 k hk).1, by have := (row4 k hk).2; omega⟩) (fun k hk => by have := (row4 k hk).2; omega) (by rw [x4 0 (by omega), e40, e4]) x3 (z_or_lt8 hp8 (by omega)) hp hq
              · obtain ⟨a, b2, h, p1, p2, p3, p4⟩ := hw
                rw [h0 _ (by omega)] at p3; omega
              · obtain ⟨b2, y1, y2, y3⟩ := hξ
                refine hk2 ξ ⟨by omega, b2, y1, zx_up_trans e2 y2 (fun s w => ?_), z_f_trans z4 y3.1 (fun _ q => q) (fun _ q => q), by rw [y3.2.1 0 (by omega), e40, e4]⟩
                rw [conv, hC]
                constructor
                · rintro ⟨q2, g, p1, p2, p3, p4⟩
                  by_cases e : q2 = q
                  · subst e; exact Or.inr ⟨g, p3, p4⟩
                  · exact Or.inl ⟨q2, g, p1, by omega, p3, p4⟩
                · rintro (⟨q2, g, p1, p2, p3⟩ | ⟨g, p1, p2⟩)
                  · exact ⟨q2, g, p1, by omega, p3⟩
                  · exact ⟨q, g, hpq, by omega, p1, p2⟩
          refine z_cw (n := 72) (A := fun n i s => mm_goesOn_54 F (mm_goesOn F 8) (nI 0) (nI (2 ^ p)) (nI q) (mm_goesOn_19 F (mm_goesOn F 8) (nI 0) (nI (2 ^ p)) m) n (nI i) s) (fun i s => 36 ≤ i ∧ z_f (fun id => id ≠ 41) μ2 s ∧ ∀ k, 36 + k < i → s.1 41 (36 + k) = zE 0) ?_ ?_ F 36 μ2 (by omega) ⟨by omega, z_f_refl, fun k hk => absurd hk (by omega)⟩ (by omega)
          · intro n2 i s4 hi hI4 hk4
            obtain ⟨a0, a1, a2⟩ := hI4
            show z_w (mm_goesOn_54_b F (mm_goesOn F 8) (nI 0) (nI (2 ^ p)) (nI q) _ _ (nI i) s4) _
            unfold mm_goesOn_54_b
            rw [show (72 : Int32) = nI 72 from rfl, if_pos (nI_lt hi (by omega)), z_wr (by omega) (by omega), z_sbind, nI_1]
            refine hk4 _ ⟨by omega, z_f_trans a1 (z_f_sI (P := fun id => id ≠ 41) (fun q => q rfl)) (fun _ q => q) (fun _ q => q), fun k hk => ?_⟩
            by_cases e : 36 + k = i
            · rw [e, z_sI_same]; rfl
            · rw [z_sI_k e]; exact a2 k (by omega)
          · intro n2 s4 hI4
            obtain ⟨a0, a1, a2⟩ := hI4
            show z_w (mm_goesOn_54_b F (mm_goesOn F 8) (nI 0) (nI (2 ^ p)) (nI q) _ _ (nI 72) s4) _
            unfold mm_goesOn_54_b
            rw [show (72 : Int32) = nI 72 from rfl, if_neg (by rw [z_lt (by omega) (by omega)]; omega)]
            exact row s4 a1 (fun k hk => a2 k (by omega))
        · intro m μ2 hI2
          obtain ⟨hpq, b1, e1, e2, e3, e4⟩ := hI2
          have hX2 := zj_X_f hX e3
          show z_w (mm_goesOn_19_b F (mm_goesOn F 8) (nI 0) (nI (2 ^ p)) _ (nI (zx_pp X)) μ2) _
          unfold mm_goesOn_19_b
          rw [show (0 : Int32) = nI 0 from rfl, z_rd (by omega) (by omega), z_sbind, hX2.1, if_neg (by rw [z_lt (by omega) (by omega)]; omega)]
          refine z_w_some ⟨b1, e1, zx_up_iff e2 (fun s w => ?_), e3⟩
          rw [hC]
          constructor
          · rintro ⟨q, g, p1, p2, p3⟩
            exact ⟨q, g, p1, (ho.2.2.1 _ _ _ p2).2.1, p2, p3⟩
          · rintro ⟨q, g, p1, p2, p3⟩
            exact ⟨q, g, p1, p3⟩
        · rw [hC] at hw
          obtain ⟨q, g, p1, p2, -⟩ := hw
          omega
      refine z_w_call G (fun ν hν => ?_)
      obtain ⟨b', y1, y2, y3⟩ := hν
      rw [nI_add]
      refine hk ν ⟨b', y1, zx_up_trans d2 y2 (fun s w => ?_), y3⟩
      rw [hT]
      constructor
      · rintro ⟨f, p1, p2⟩
        by_cases e : f = p
        · subst e; exact Or.inr p2
        · exact Or.inl ⟨f, by omega, p2⟩
      · rintro (⟨f, p1, p2⟩ | p1)
        · exact ⟨f, by omega, p2⟩
        · exact ⟨p, by omega, p1⟩
    · intro n s hI
      obtain ⟨b, d1, d2, d3⟩ := hI
      have hXs := zj_X_f hX d3
      show z_w (mm_rings_24_b F _ (nI (zx_pp X)) s) _
      unfold mm_rings_24_b
      rw [show (0 : Int32) = nI 0 from rfl, z_rd (by omega) (by omega), z_sbind, hXs.1, if_neg (by rw [z_lt (by omega) (by omega)]; omega)]
      refine z_w_some ⟨b, d1, zx_up_iff d2 (fun s w => ?_), d3⟩
      rw [hT]
      constructor
      · rintro ⟨f, p1, p2, p3⟩; exact ⟨f, p1, p3⟩
      · rintro ⟨f, p1, p2⟩; exact ⟨f, p1, t255 f (by omega), p2⟩
    · rw [hT] at hw; obtain ⟨f, p1, -⟩ := hw; omega
  unfold mm_rings
  refine z_cw (n := 256) (A := fun n i s => mm_rings_2 F n (nI i) s) (fun i s => z_f zj_P r s ∧ ∀ x, x < i → s.1 39 x = zE 0) ?_ ?_ F 0 r (by omega) ⟨z_f_refl, fun x hx => absurd hx (by omega)⟩ (by omega)
  · intro n i s hi hI hk
    obtain ⟨a1, a2⟩ := hI
    show z_w (mm_rings_2_b F _ (nI i) s) _
    unfold mm_rings_2_b
    rw [show (256 : Int32) = nI 256 from rfl, if_pos (nI_lt hi (by omega)), z_wr (by omega) (by omega), z_sbind, nI_1]
    refine hk _ ⟨z_f_trans a1 (z_f_sI (P := zj_P) (fun q => by unfold zj_P at q; omega)) (fun _ q => q) (fun _ q => q), fun x hx => ?_⟩
    by_cases e : x = i
    · subst e; rw [z_sI_same]; rfl
    · rw [z_sI_k e]; exact a2 x (by omega)
  · intro n s hI
    obtain ⟨a1, a2⟩ := hI
    show z_w (mm_rings_2_b F _ (nI 256) s) _
    unfold mm_rings_2_b
    rw [show (256 : Int32) = nI 256 from rfl, if_neg (by rw [z_lt (by omega) (by omega)]; omega)]
    exact walk s (fun x hx => ⟨a2 x hx, by show (0 : Nat) < 100000; omega⟩) a1
