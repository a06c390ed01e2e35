/-! Layer 2: the reference lengthens a ring; whether it is alive -/
def zj_ls (X : zx_T) (tb : Nat → Nat) (last q a0 b0 g0 k w : Nat) : Prop := ∃ a b g h, zj_lx a0 b0 g0 a b g ∧ a < 6 ∧ b < 6 ∧ g < 6 ∧ k = 6 * a + g ∧ tb (6 * a + b) = h + 1 ∧ zx_can X last q g = true ∧ zx_gl X last b g = true ∧ w = h + zx_mo X last b - zx_la X last g + 1
def zj_LS (X : zx_T) (tb : Nat → Nat) (last q k w : Nat) : Prop := ∃ a b g h, a < 6 ∧ b < 6 ∧ g < 6 ∧ k = 6 * a + g ∧ tb (6 * a + b) = h + 1 ∧ zx_can X last q g = true ∧ zx_gl X last b g = true ∧ w = h + zx_mo X last b - zx_la X last g + 1
def zj_L (d : Nat) (r : g_St) (S : Nat → Nat → Prop) (μ : g_St) : Prop := ∃ tn, (∀ k, k < 36 → μ.1 41 (36 * (d + 1) + k) = zE (tn k) ∧ tn k ≤ 1000 * (d + 1)) ∧ zx_up S (fun _ => 0) tn ∧ z_f (fun id => id ≠ 41) r μ ∧ ∀ k, k < 36 * (d + 1) → μ.1 41 k = r.1 41 k
theorem zj_L_iff {d : Nat} {r μ : g_St} {S T : Nat → Nat → Prop} (h : zj_L d r S μ) (hr : ∀ s w, T s w ↔ S s w) : zj_L d r T μ := by
  obtain ⟨tn, h1, h2, h3, h4⟩ := h
  exact ⟨tn, h1, zx_up_iff h2 hr, h3, h4⟩
theorem zj_len {X : zx_T} {gd F d last q : Nat} {tb : Nat → Nat} {r : g_St} (ho : zx_ok X gd) (hX : zj_X X r) (hT : zj_T d tb r) (htb : ∀ k, k < 36 → tb k ≤ 1000 * d) (hpd : r.1 40 d = nI last) (hd : d < 5) (hl : last < zx_pp X) (hq : q < 8) (hF : 50 < F) :
    z_w (mm_lengthens F (nI d) (nI q) r) (zj_L d r (zj_LS X tb last q)) := by
  have h8 := ho.1
  have h6 := ho.2.1
  have hP : ∀ {μ : g_St}, z_f (fun id => id ≠ 41) r μ → z_f zj_P r μ := fun h => z_f_mono h (fun id q => by unfold zj_P at q; omega)
  unfold mm_lengthens
  rw [z_rd (by omega) (by omega), z_sbind, hpd]
  -- the loops
  have loops : ∀ μ, zj_L d r (zj_ls X tb last q 0 0 0) μ → z_w (mm_lengthens_41 F (nI d) (nI q) (nI last) F (nI 0) μ) (zj_L d r (zj_LS X tb last q)) := by
    intro μ hμ
    refine z_cw (n := 6) (A := fun n i s => mm_lengthens_41 F (nI d) (nI q) (nI last) n (nI i) s) (fun i s => zj_L d r (zj_ls X tb last q i 0 0) s) ?_ ?_ F 0 μ (by omega) hμ (by omega)
    · intro n a s ha hI hk
      show z_w (mm_lengthens_41_b F (nI d) (nI q) (nI last) _ (nI a) s) _
      unfold mm_lengthens_41_b
      rw [show (6 : Int32) = nI 6 from rfl, if_pos (nI_lt ha (by omega)), show (0 : Int32) = nI 0 from rfl]
      refine z_cw (n := 6) (A := fun n2 i s => mm_lengthens_51 F (nI d) (nI q) (nI last) (nI a) (mm_lengthens_41 F (nI d) (nI q) (nI last) n) n2 (nI i) s) (fun i s => zj_L d r (zj_ls X tb last q a i 0) s) ?_ ?_ F 0 s (by omega) hI (by omega)
      · intro n2 b2 s2 hb2 hI2 hk2
        have hrow : s2.1 41 (36 * d + 6 * a + b2) = zE (tb (6 * a + b2)) := by
          obtain ⟨tn, q1, q2, q3, q4⟩ := hI2
          rw [q4 _ (by omega), show 36 * d + 6 * a + b2 = 36 * d + (6 * a + b2) by omega]
          exact (hT _ (by omega)).1
        have htl := (hT (6 * a + b2) (by omega)).2
        have htl2 := htb (6 * a + b2) (by omega)
        show z_w (mm_lengthens_51_b F (nI d) (nI q) (nI last) (nI a) _ _ (nI b2) s2) _
        unfold mm_lengthens_51_b
        rw [show (6 : Int32) = nI 6 from rfl, if_pos (nI_lt hb2 (by omega)), show (36 : Int32) = nI 36 from rfl, z_mul, z_mul, nI_add, nI_add, z_rd (by omega) (by omega), z_sbind, hrow, show (0 : Int32) = nI 0 from rfl]
        have hexit : ∀ g0 s3, (tb (6 * a + b2) = 0 ∨ g0 = 6) → zj_L d r (zj_ls X tb last q a b2 g0) s3 → z_w (mm_lengthens_51 F (nI d) (nI q) (nI last) (nI a) (mm_lengthens_41 F (nI d) (nI q) (nI last) n) n2 (nI (b2 + 1)) s3) (zj_L d r (zj_LS X tb last q)) := by
          intro g0 s3 hg hI3
          refine hk2 s3 (zj_L_iff hI3 (fun s w => ?_))
          unfold zj_ls
          constructor
          · rintro ⟨a', b', g', h', q2, q3, q4, q5, q6, q7, q8⟩
            refine ⟨a', b', g', h', ?_, q3, q4, q5, q6, q7, q8⟩
            unfold zj_lx at *
            rcases hg with hg | hg
            · by_cases e : a' = a ∧ b' = b2
              · rw [e.1, e.2, hg] at q7; omega
              · omega
            · omega
          · rintro ⟨a', b', g', h', q2, q3⟩
            refine ⟨a', b', g', h', ?_, q3⟩
            unfold zj_lx at *; omega
        refine z_cw (n := 6) (A := fun n3 i s => mm_lengthens_81 F (nI d) (nI q) (nI last) (nI a) (nI b2) (zE (tb (6 * a + b2))) (mm_lengthens_41 F (nI d) (nI q) (nI last) n) (mm_lengthens_51 F (nI d) (nI q) (nI last) (nI a) (mm_lengthens_41 F (nI d) (nI q) (nI last) n) n2) n3 (nI i) s) (fun i s => zj_L d r (zj_ls X tb last q a b2 i) s) ?_ ?_ F 0 s2 (by omega) hI2 (by omega)
        · intro n3 g s3 hg hI3 hk3
          obtain ⟨tn, q1, q2, q3, q4⟩ := hI3
          have hX3 := zj_X_f hX (hP q3)
          show z_w (mm_lengthens_81_b F (nI d) (nI q) (nI last) (nI a) (nI b2) (zE (tb (6 * a + b2))) _ _ _ (nI g) s3) _
          unfold mm_lengthens_81_b
          rw [show (6 : Int32) = nI 6 from rfl, if_pos (nI_lt hg (by omega)), show (0 : Int32) = nI 0 from rfl]
          simp only [zE_le0 (show tb (6 * a + b2) < 2147483648 by omega)]
          by_cases h0 : tb (6 * a + b2) = 0
          · rw [if_neg (fun q => q h0), nI_1]
            exact hexit g s3 (Or.inl h0) ⟨tn, q1, q2, q3, q4⟩
          · rw [if_pos h0]
            obtain ⟨hh, hhe⟩ : ∃ hh, tb (6 * a + b2) = hh + 1 := ⟨tb (6 * a + b2) - 1, by omega⟩
            have hcn := hX3.2.1 last q g (by omega) hq hg
            have skip : ¬ (zx_can X last q g = true ∧ zx_gl X last b2 g = true) → z_w (mm_lengthens_81 F (nI d) (nI q) (nI last) (nI a) (nI b2) (zE (tb (6 * a + b2))) (mm_lengthens_41 F (nI d) (nI q) (nI last) n) (mm_lengthens_51 F (nI d) (nI q) (nI last) (nI a) (mm_lengthens_41 F (nI d) (nI q) (nI last) n) n2) n3 (nI (g + 1)) s3) (zj_L d r (zj_LS X tb last q)) := by
              intro hno
              refine hk3 s3 (zj_L_iff ⟨tn, q1, q2, q3, q4⟩ (fun s w => ?_))
              unfold zj_ls
              constructor
              · rintro ⟨a', b3, g', h', p2, p3, p4, p5, p6, p7, p8, p9, p10⟩
                refine ⟨a', b3, g', h', ?_, p3, p4, p5, p6, p7, p8, p9, p10⟩
                by_cases e : a' = a ∧ b3 = b2 ∧ g' = g
                · obtain ⟨rfl, rfl, rfl⟩ := e; exact absurd ⟨p8, p9⟩ hno
                · unfold zj_lx at *; omega
              · rintro ⟨a', b3, g', h', p2, p3⟩
                refine ⟨a', b3, g', h', ?_, p3⟩
                unfold zj_lx at *; omega
            rw [show (48 : Int32) = nI 48 from rfl, z_mul, z_mul, nI_add, nI_add, z_rd (by omega) (by omega), z_sbind, hcn]
            cases hcan : zx_can X last q g with
            | false =>
              rw [if_pos (show nI (false).toNat = nI 0 from rfl)]
              unfold mm_lengthens_126
              rw [z_sbind, if_neg (show ¬ (0 : Int32) < nI 0 from by decide), nI_1]
              exact skip (fun q => by rw [hcan] at q; cases q.1)
            | true =>
              rw [if_neg (show ¬ nI (true).toNat = nI 0 from by decide), hX3.2.2 last b2 g hl hb2 hg, z_sbind]
              unfold mm_lengthens_126
              rw [z_sbind, show (0 : Int32) = nI 0 from rfl]
              simp only [zj_pos ho hl hb2 hg]
              by_cases g1 : zx_gl X last b2 g = true
              · rw [if_pos g1, zj_val g1]
                have l1 := zx_gl_lt g1
                have m1 := (ho.2.2.2 last b2 hl hb2).1
                have tq := q1 (6 * a + g) (by omega)
                have e9 : hh + (zx_mo X last b2 - zx_la X last g) = hh + zx_mo X last b2 - zx_la X last g := by omega
                rw [show (36 : Int32) = nI 36 from rfl, show (6 : Int32) = nI 6 from rfl, show (1 : Int32) = nI 1 from rfl, nI_add, z_mul, z_mul, nI_add, nI_add, z_rd (by omega) (by omega), z_sbind, show 36 * (d + 1) + 6 * a + g = 36 * (d + 1) + (6 * a + g) by omega, tq.1, hhe, zE_s hh, nI_add, e9, ← zE_s (hh + zx_mo X last b2 - zx_la X last g), zE_max (by omega) (by omega), z_wr (by omega) (by omega), z_sbind, nI_add]
                have hk3' := hk3
                rw [hhe, zE_s] at hk3'
                refine hk3' (g_sI s3 41 (36 * (d + 1) + (6 * a + g)) (zE (max (tn (6 * a + g)) (hh + zx_mo X last b2 - zx_la X last g + 1)))) ⟨fun k => if k = 6 * a + g then max (tn k) (hh + zx_mo X last b2 - zx_la X last g + 1) else tn k, fun k hk => ?_, zx_up_trans q2 (zx_up_one (b := tn) (s0 := 6 * a + g) (w0 := hh + zx_mo X last b2 - zx_la X last g + 1)) (fun s w => ?_), z_f_trans q3 (z_f_sI (P := fun id => id ≠ 41) (fun q => q rfl)) (fun _ q => q) (fun _ q => q), fun k hk => by rw [z_sI_k (by omega)]; exact q4 k hk⟩
                · by_cases e : k = 6 * a + g
                  · subst e; simp only [if_true]; exact ⟨z_sI_same _ _ _ _, by omega⟩
                  · simp only [if_neg e]; exact ⟨by rw [z_sI_k (by omega)]; exact (q1 k hk).1, (q1 k hk).2⟩
                · unfold zj_ls
                  constructor
                  · rintro ⟨a', b3, g', h', p2, p3, p4, p5, p6, p7, p8, p9, p10⟩
                    by_cases e : a' = a ∧ b3 = b2 ∧ g' = g
                    · obtain ⟨rfl, rfl, rfl⟩ := e
                      have : h' = hh := by omega
                      subst this
                      exact Or.inr ⟨p6, p10⟩
                    · refine Or.inl ⟨a', b3, g', h', ?_, p3, p4, p5, p6, p7, p8, p9, p10⟩
                      unfold zj_lx at *; omega
                  · rintro (⟨a', b3, g', h', p2, p3⟩ | ⟨p1, p2⟩)
                    · refine ⟨a', b3, g', h', ?_, p3⟩
                      unfold zj_lx at *; omega
                    · exact ⟨a, b2, g, hh, by unfold zj_lx; omega, ha, hb2, hg, p1, hhe, hcan, g1, p2⟩
              · rw [if_neg g1, nI_1]; exact skip (fun q => g1 q.2)
        · intro n3 s3 hI3
          show z_w (mm_lengthens_81_b F (nI d) (nI q) (nI last) (nI a) (nI b2) (zE (tb (6 * a + b2))) _ _ _ (nI 6) s3) _
          unfold mm_lengthens_81_b
          rw [show (6 : Int32) = nI 6 from rfl, if_neg (by rw [z_lt (by omega) (by omega)]; omega), nI_1]
          exact hexit 6 s3 (Or.inr rfl) hI3
      · intro n2 s2 hI2
        show z_w (mm_lengthens_51_b F (nI d) (nI q) (nI last) (nI a) _ _ (nI 6) s2) _
        unfold mm_lengthens_51_b
        rw [show (6 : Int32) = nI 6 from rfl, if_neg (by rw [z_lt (by omega) (by omega)]; omega), nI_1]
        refine hk s2 (zj_L_iff hI2 (fun s w => ?_))
        unfold zj_ls
        constructor
        · rintro ⟨a', b3, g', h', p2, p3⟩
          refine ⟨a', b3, g', h', ?_, p3⟩
          unfold zj_lx at *; omega
        · rintro ⟨a', b3, g', h', p2, p3⟩
          refine ⟨a', b3, g', h', ?_, p3⟩
          unfold zj_lx at *; omega
    · intro n s hI
      show z_w (mm_lengthens_41_b F (nI d) (nI q) (nI last) _ (nI 6) s) _
      unfold mm_lengthens_41_b
      rw [show (6 : Int32) = nI 6 from rfl, if_neg (by rw [z_lt (by omega) (by omega)]; omega)]
      refine z_w_some (zj_L_iff hI (fun s w => ?_))
      unfold zj_ls zj_LS
      constructor
      · rintro ⟨a', b3, g', h', p2, p3⟩
        exact ⟨a', b3, g', h', by unfold zj_lx; omega, p2, p3⟩
      · rintro ⟨a', b3, g', h', p2, p3⟩
        exact ⟨a', b3, g', h', p3⟩
  refine z_cw (n := 36) (A := fun n i s => mm_lengthens_10 F (nI d) (nI q) (nI last) n (nI i) s) (fun i s => z_f (fun id => id ≠ 41) r s ∧ (∀ k, k < 36 * (d + 1) → s.1 41 k = r.1 41 k) ∧ ∀ k, k < i → s.1 41 (36 * (d + 1) + k) = zE 0) ?_ ?_ F 0 r (by omega) ⟨z_f_refl, fun _ _ => rfl, fun k hk => absurd hk (by omega)⟩ (by omega)
  · intro n i s hi hI hk
    obtain ⟨a1, a2, a3⟩ := hI
    show z_w (mm_lengthens_10_b F (nI d) (nI q) (nI last) _ (nI i) s) _
    unfold mm_lengthens_10_b
    rw [show (36 : Int32) = nI 36 from rfl, if_pos (nI_lt hi (by omega)), show (1 : Int32) = nI 1 from rfl, nI_add, z_mul, nI_add, z_wr (by omega) (by omega), z_sbind, nI_add]
    refine hk _ ⟨z_f_trans a1 (z_f_sI (P := fun id => id ≠ 41) (fun q => q rfl)) (fun _ q => q) (fun _ q => q), fun k hk => by rw [z_sI_k (by omega)]; exact a2 k hk, fun k hk => ?_⟩
    by_cases e : k = i
    · subst e; rw [z_sI_same]; rfl
    · rw [z_sI_k (by omega)]; exact a3 k (by omega)
  · intro n s hI
    obtain ⟨a1, a2, a3⟩ := hI
    show z_w (mm_lengthens_10_b F (nI d) (nI q) (nI last) _ (nI 36) s) _
    unfold mm_lengthens_10_b
    rw [show (36 : Int32) = nI 36 from rfl, if_neg (by rw [z_lt (by omega) (by omega)]; omega)]
    refine loops s ⟨fun _ => 0, fun k hk => ⟨a3 k hk, Nat.zero_le _⟩, zx_up_none (fun s w hw => ?_), a1, a2⟩
    obtain ⟨a', b3, g', h', p2, -⟩ := hw
    unfold zj_lx at p2; omega
/-- whether some entry is there -/
theorem zj_alive {F d : Nat} {tn : Nat → Nat} {r : g_St} (hT : ∀ k, k < 36 → r.1 41 (36 * d + k) = zE (tn k) ∧ tn k ≤ 20000) (hd : d < 6) (hF : 50 < F) : z_w (mm_isAlive F r (nI d)) (fun x => (x = nI 1 ∧ ∃ k, k < 36 ∧ tn k ≠ 0) ∨ (x = nI 0 ∧ ∀ k, k < 36 → tn k = 0)) := by
  unfold mm_isAlive
  rw [show (36 : Int32) = nI 36 from rfl, z_mul]
  have h := z_cw (n := 36) (A := fun n i (_ : Unit) => mm_isAlive_5 F r (nI d) n (nI (36 * d + i))) (Q := fun x => (x = nI 1 ∧ ∃ k, k < 36 ∧ tn k ≠ 0) ∨ (x = nI 0 ∧ ∀ k, k < 36 → tn k = 0)) (fun i _ => ∀ k, k < i → tn k = 0) ?_ ?_ F 0 () (by omega) (fun k hk => absurd hk (by omega)) (by omega)
  · exact h
  · intro n i _ hi hI hk
    have ht := hT i hi
    show z_w (mm_isAlive_5_b F r (nI d) _ (nI (36 * d + i))) _
    unfold mm_isAlive_5_b
    rw [show (36 : Int32) = nI 36 from rfl, z_mul, nI_add, if_pos (nI_lt (by omega) (by omega)), z_rd (by omega) (by omega), z_sbind, ht.1, show (0 : Int32) = nI 0 from rfl]
    simp only [zE_le0 (show tn i < 2147483648 by omega)]
    by_cases h0 : tn i = 0
    · rw [if_neg (fun q => q h0), nI_1]
      refine hk () (fun k hk2 => ?_)
      by_cases e : k = i
      · subst e; exact h0
      · exact hI k (by omega)
    · rw [if_pos h0]
      exact z_w_some (Or.inl ⟨rfl, i, hi, h0⟩)
  · intro n _ hI
    show z_w (mm_isAlive_5_b F r (nI d) _ (nI (36 * d + 36))) _
    unfold mm_isAlive_5_b
    rw [show (36 : Int32) = nI 36 from rfl, z_mul, nI_add, if_neg (by rw [z_lt (by omega) (by omega)]; omega)]
    exact z_w_some (Or.inr ⟨rfl, hI⟩)
