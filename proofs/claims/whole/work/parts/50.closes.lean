/-! Layer 2: the reference's rings: gains, closing -/
theorem z_subpos {a b : Nat} (ha : a < 1000000000) (hb : b < 1000000000) : (nI 0 < nI a - nI b) = (b < a) := by
  have e : (nI a - nI b : Int32).toInt = (a : Int) - b := by
    rw [Int32.toInt_sub, nI_toInt (by omega), nI_toInt (by omega)]
    exact Int.bmod_eq_of_le (by omega) (by omega)
  rw [Int32.lt_iff_toInt_lt, e, nI_toInt (by omega)]
  exact propext (by omega)
def zj_X (X : zx_T) (r : g_St) : Prop := r.1 4 0 = nI (zx_pp X) ∧ zj_can (zx_can X) r ∧ ∀ p a b, p < zx_pp X → a < 6 → b < 6 → mm_gains r (nI p) (nI a) (nI b) = some (if a = b then nI 0 else nI (zx_mo X p a) - nI (zx_la X p b))
def zj_P (id : Nat) : Prop := id < 39 ∨ 41 < id
theorem zj_X_f {X : zx_T} {r r2 : g_St} (h : zj_X X r) (hz : z_f zj_P r r2) : zj_X X r2 := by
  have e4 : r2.1 4 = r.1 4 := hz.1 _ (by unfold zj_P; omega)
  have e38 : r2.1 38 = r.1 38 := hz.1 _ (by unfold zj_P; omega)
  have e37 : r2.1 37 = r.1 37 := hz.1 _ (by unfold zj_P; omega)
  have e13 : r2.1 13 = r.1 13 := hz.1 _ (by unfold zj_P; omega)
  unfold zj_X zj_can at *
  rw [e4, e38]
  refine ⟨h.1, h.2.1, fun p a b hp ha hb => ?_⟩
  rw [← h.2.2 p a b hp ha hb]
  unfold mm_gains mm_more g_rd
  rw [e37, e13]
theorem zj_gains {L : zl_T} {can : Nat → Nat → Nat → Bool} {h : Nat → Nat → Nat} {r : g_St} (hL : zl_R L r) (ho : zl_ok L) (hm : ∀ p g, p < 8 → g < 6 → r.1 37 (6 * p + g) = nI (h p g) ∧ h p g < 1000) (hc : zj_can can r) : zj_X (zx_mk L can h) r := by
  have h8 := ho.2.2.1
  refine ⟨hL.2.2.1, hc, fun p a b hp ha hb => ?_⟩
  have hp' : p < zl_pp L := hp
  have m1 := hm p a (by omega) ha
  have m2 := hm p b (by omega) hb
  unfold mm_gains
  rw [show (6 : Int32) = nI 6 from rfl, z_mul, nI_add, nI_add]
  by_cases e : a = b
  · rw [if_pos e, if_pos (by rw [e])]; rfl
  · rw [if_neg (by rw [z_eq (by omega) (by omega)]; exact e), if_neg e, z_rd (by omega) (by omega), z_sbind, m1.1, zl_R_wk hL ho hp' ha (by omega), z_sbind, z_rd (by omega) (by omega), z_sbind, m2.1, show (1 : Int32) = nI 1 from rfl, zl_R_wl hL ho hp' hb (by omega), z_sbind]
    rfl
theorem zj_pos {X : zx_T} {gd p a b : Nat} (ho : zx_ok X gd) (hp : p < zx_pp X) (ha : a < 6) (hb : b < 6) : (nI 0 < (if a = b then nI 0 else nI (zx_mo X p a) - nI (zx_la X p b))) = (zx_gl X p a b = true) := by
  have h1 := (ho.2.2.2 p a hp ha).1
  have h2 := (ho.2.2.2 p b hp hb).2
  unfold zx_gl
  by_cases e : a = b
  · subst e; rw [if_pos rfl]; simp
  · rw [if_neg e, z_subpos (by omega) (by omega)]
    simp [show ¬ b = a from fun q => e q.symm]
theorem zj_val {X : zx_T} {p a b : Nat} (h : zx_gl X p a b = true) : (if a = b then nI 0 else nI (zx_mo X p a) - nI (zx_la X p b)) = nI (zx_mo X p a - zx_la X p b) := by
  have h2 := zx_gl_lt h
  have hne : ¬ a = b := by
    unfold zx_gl at h; simp only [Bool.and_eq_true, decide_eq_true_eq] at h; exact fun e => h.1 e.symm
  rw [if_neg hne, z_sub (by omega)]
def zj_B (b : Nat → Nat) (r : g_St) : Prop := ∀ s, s < 256 → r.1 39 s = zE (b s) ∧ b s < 100000
def zj_I (r : g_St) (b : Nat → Nat) (S : Nat → Nat → Prop) (μ : g_St) : Prop := ∃ b', zj_B b' μ ∧ zx_up S b b' ∧ z_f (fun id => id ≠ 39) r μ
theorem zj_I_iff {r μ : g_St} {b : Nat → Nat} {S T : Nat → Nat → Prop} (h : zj_I r b S μ) (hr : ∀ s w, T s w ↔ S s w) : zj_I r b T μ := by
  obtain ⟨b', h1, h2, h3⟩ := h
  exact ⟨b', h1, zx_up_iff h2 hr, h3⟩
/-- a row of the table at depth d -/
def zj_T (d : Nat) (tb : Nat → Nat) (r : g_St) : Prop := ∀ k, k < 36 → r.1 41 (36 * d + k) = zE (tb k) ∧ tb k ≤ 20000
def zj_lx (a0 b0 g0 a b g : Nat) : Prop := a < a0 ∨ (a = a0 ∧ (b < b0 ∨ (b = b0 ∧ g < g0)))
def zj_cs (X : zx_T) (tb : Nat → Nat) (used first last a0 b0 g0 s w : Nat) : Prop := s = used ∧ ∃ a b g h, zj_lx a0 b0 g0 a b g ∧ a < 6 ∧ b < 6 ∧ tb (6 * a + b) = h + 1 ∧ zx_can X last first g = true ∧ zx_gl X last b g = true ∧ zx_gl X first g a = true ∧ w = h + zx_mo X last b - zx_la X last g + (zx_mo X first g - zx_la X first a) + 1
theorem zj_closes {X : zx_T} {gd F d used first last : Nat} {tb : Nat → Nat} {r : g_St} {b : Nat → Nat} (ho : zx_ok X gd) (hX : zj_X X r) (hB : zj_B b r) (hT : zj_T d tb r) (hp0 : r.1 40 0 = nI first) (hpd : r.1 40 d = nI last) (hd : d < 5) (hu : used < 256) (hf : first < zx_pp X) (hl : last < zx_pp X) (hF : 20 < F) :
    z_w (mm_closes F (nI d) (nI used) r) (zj_I r b (fun s w => ∃ a b2 h, a < 6 ∧ b2 < 6 ∧ tb (6 * a + b2) = h + 1 ∧ zx_cl X used first a last b2 h s w)) := by
  have h8 := ho.1
  have h6 := ho.2.1
  have hP : ∀ {μ : g_St}, z_f (fun id => id ≠ 39) r μ → z_f zj_P r μ := fun h => z_f_mono h (fun id q => by unfold zj_P at q; omega)
  have can6 : ∀ g, zx_can X last first g = true → g < 6 := fun g h => by have := ho.2.2.1 _ _ _ h; omega
  unfold mm_closes
  rw [show (0 : Int32) = nI 0 from rfl, z_rd (by omega) (by omega), z_sbind, hp0, z_rd (by omega) (by omega), z_sbind, hpd]
  refine z_cw (n := 6) (A := fun n i s => mm_closes_18 F (nI d) (nI used) (nI first) (nI last) n (nI i) s) (fun i s => zj_I r b (zj_cs X tb used first last i 0 0) s) ?_ ?_ F 0 r (by omega) ⟨b, hB, zx_up_none (fun s w hw => ?_), z_f_refl⟩ (by omega)
  · intro n a s ha hI hk
    show z_w (mm_closes_18_b F (nI d) (nI used) (nI first) (nI last) _ (nI a) s) _
    unfold mm_closes_18_b
    rw [show (6 : Int32) = nI 6 from rfl, if_pos (nI_lt ha (by omega)), show (0 : Int32) = nI 0 from rfl]
    refine z_cw (n := 6) (A := fun n i s => mm_closes_28 F (nI d) (nI used) (nI first) (nI last) (nI a) (mm_closes_18 F (nI d) (nI used) (nI first) (nI last) _) n (nI i) s) (fun i s => zj_I r b (zj_cs X tb used first last a i 0) s) ?_ ?_ F 0 s (by omega) hI (by omega)
    · intro n2 b2 s2 hb2 hI2 hk2
      have z2 : z_f (fun id => id ≠ 39) r s2 := by obtain ⟨b', q1, q2, q3⟩ := hI2; exact q3
      have hX2 := zj_X_f hX (hP z2)
      have e41 : s2.1 41 = r.1 41 := z2.1 _ (by omega)
      have ht := hT (6 * a + b2) (by omega)
      show z_w (mm_closes_28_b F (nI d) (nI used) (nI first) (nI last) (nI a) _ _ (nI b2) s2) _
      unfold mm_closes_28_b
      rw [show (6 : Int32) = nI 6 from rfl, if_pos (nI_lt hb2 (by omega)), show (36 : Int32) = nI 36 from rfl, z_mul, z_mul, nI_add, nI_add, z_rd (by omega) (by omega), z_sbind, e41, show 36 * d + 6 * a + b2 = 36 * d + (6 * a + b2) by omega, ht.1, show (0 : Int32) = nI 0 from rfl]
      -- out of the innermost loop
      have hexit : ∀ g0 s3, (tb (6 * a + b2) = 0 ∨ g0 = 6) → zj_I r b (zj_cs X tb used first last a b2 g0) s3 → z_w (mm_closes_28 F (nI d) (nI used) (nI first) (nI last) (nI a) (mm_closes_18 F (nI d) (nI used) (nI first) (nI last) n) n2 (nI (b2 + 1)) s3) (zj_I r b (fun s w => ∃ a b2 h, a < 6 ∧ b2 < 6 ∧ tb (6 * a + b2) = h + 1 ∧ zx_cl X used first a last b2 h s w)) := by
        intro g0 s3 hg hI3
        refine hk2 s3 (zj_I_iff hI3 (fun s w => ?_))
        unfold zj_cs
        constructor
        · rintro ⟨q1, a', b', g', h', q2, q3, q4, q5, q6, q7⟩
          refine ⟨q1, a', b', g', h', ?_, q3, q4, q5, q6, q7⟩
          have := can6 g' q6
          unfold zj_lx at *
          rcases hg with hg | hg
          · by_cases e : a' = a ∧ b' = b2
            · rw [e.1, e.2, hg] at q5; omega
            · omega
          · omega
        · rintro ⟨q1, a', b', g', h', q2, q3⟩
          refine ⟨q1, a', b', g', h', ?_, q3⟩
          unfold zj_lx at *; omega
      refine z_cw (n := 6) (A := fun n i s => mm_closes_58 F (nI d) (nI used) (nI first) (nI last) (nI a) (nI b2) (zE (tb (6 * a + b2))) (mm_closes_18 F (nI d) (nI used) (nI first) (nI last) _) (mm_closes_28 F (nI d) (nI used) (nI first) (nI last) (nI a) (mm_closes_18 F (nI d) (nI used) (nI first) (nI last) _) n2) n (nI i) s) (fun i s => zj_I r b (zj_cs X tb used first last a b2 i) s) ?_ ?_ F 0 s2 (by omega) hI2 (by omega)
      · intro n3 g s3 hg hI3 hk3
        obtain ⟨b', q1, q2, q3⟩ := hI3
        have hX3 := zj_X_f hX (hP q3)
        show z_w (mm_closes_58_b F (nI d) (nI used) (nI first) (nI last) (nI a) (nI b2) (zE (tb (6 * a + b2))) _ _ _ (nI g) s3) _
        unfold mm_closes_58_b
        rw [show (6 : Int32) = nI 6 from rfl, if_pos (nI_lt hg (by omega)), show (0 : Int32) = nI 0 from rfl]
        simp only [zE_le0 (show tb (6 * a + b2) < 2147483648 by omega)]
        by_cases h0 : tb (6 * a + b2) = 0
        · rw [if_neg (fun q => q h0), nI_1]
          exact hexit g s3 (Or.inl h0) ⟨b', q1, q2, q3⟩
        · rw [if_pos h0]
          obtain ⟨hh, hhe⟩ : ∃ hh, tb (6 * a + b2) = hh + 1 := ⟨tb (6 * a + b2) - 1, by omega⟩
          have hcn := hX3.2.1 last first g (by omega) (by omega) hg
          -- nothing at g
          have skip : ¬ (zx_can X last first g = true ∧ zx_gl X last b2 g = true ∧ zx_gl X first g a = true) → z_w (mm_closes_58 F (nI d) (nI used) (nI first) (nI last) (nI a) (nI b2) (zE (tb (6 * a + b2))) (mm_closes_18 F (nI d) (nI used) (nI first) (nI last) n) (mm_closes_28 F (nI d) (nI used) (nI first) (nI last) (nI a) (mm_closes_18 F (nI d) (nI used) (nI first) (nI last) n) n2) n3 (nI (g + 1)) s3) (zj_I r b (fun s w => ∃ a b2 h, a < 6 ∧ b2 < 6 ∧ tb (6 * a + b2) = h + 1 ∧ zx_cl X used first a last b2 h s w)) := by
            intro hno
            refine hk3 s3 (zj_I_iff ⟨b', q1, q2, q3⟩ (fun s w => ?_))
            unfold zj_cs
            constructor
            · rintro ⟨p1, a', b3, g', h', p2, p3, p4, p5, p6, p7, p8, p9⟩
              refine ⟨p1, a', b3, g', h', ?_, p3, p4, p5, p6, p7, p8, p9⟩
              by_cases e : a' = a ∧ b3 = b2 ∧ g' = g
              · obtain ⟨rfl, rfl, rfl⟩ := e; exact absurd ⟨p6, p7, p8⟩ hno
              · unfold zj_lx at *; omega
            · rintro ⟨p1, a', b3, g', h', p2, p3⟩
              refine ⟨p1, a', b3, g', h', ?_, p3⟩
              unfold zj_lx at *; omega
          rw [show (48 : Int32) = nI 48 from rfl, z_mul, z_mul, nI_add, nI_add, z_rd (by omega) (by omega), z_sbind, hcn]
          cases hcan : zx_can X last first g with
          | false => rw [if_pos (show nI (false).toNat = nI 0 from rfl), nI_1]; exact skip (fun q => by rw [hcan] at q; cases q.1)
          | true =>
            rw [if_neg (show ¬ nI (true).toNat = nI 0 from by decide), hX3.2.2 last b2 g hl hb2 hg, z_sbind, hX3.2.2 first g a hf hg ha, z_sbind]
            simp only [zj_pos ho hl hb2 hg, zj_pos ho hf hg ha]
            by_cases g1 : zx_gl X last b2 g = true
            · rw [if_pos g1]
              by_cases g2 : zx_gl X first g a = true
              · rw [if_pos g2, zj_val g1, zj_val g2, z_rd (by omega) (by omega), z_sbind, (q1 used hu).1, hhe, zE_s, nI_add, nI_add]
                have l1 := zx_gl_lt g1
                have l2 := zx_gl_lt g2
                have m1 := (ho.2.2.2 last b2 hl hb2).1
                have m2 := (ho.2.2.2 first g hf hg).1
                have bq := (q1 used hu).2
                have e9 : hh + (zx_mo X last b2 - zx_la X last g) + (zx_mo X first g - zx_la X first a) = hh + zx_mo X last b2 - zx_la X last g + (zx_mo X first g - zx_la X first a) := by omega
                rw [e9, ← zE_s (hh + zx_mo X last b2 - zx_la X last g + (zx_mo X first g - zx_la X first a)), zE_max (by omega) (by omega), z_wr (by omega) (by omega), z_sbind, nI_1]
                have hk3' := hk3
                rw [hhe, zE_s] at hk3'
                refine hk3' (g_sI s3 39 used (zE (max (b' used) (hh + zx_mo X last b2 - zx_la X last g + (zx_mo X first g - zx_la X first a) + 1)))) ⟨fun s => if s = used then max (b' s) (hh + zx_mo X last b2 - zx_la X last g + (zx_mo X first g - zx_la X first a) + 1) else b' s, ?_, zx_up_trans q2 (zx_up_one (b := b') (s0 := used) (w0 := hh + zx_mo X last b2 - zx_la X last g + (zx_mo X first g - zx_la X first a) + 1)) (fun s w => ?_), z_f_trans q3 (z_f_sI (P := fun id => id ≠ 39) (fun q => q rfl)) (fun _ q => q) (fun _ q => q)⟩
                · intro s hs
                  by_cases e : s = used
                  · subst e; simp only [if_true]; exact ⟨z_sI_same _ _ _ _, by omega⟩
                  · simp only [if_neg e]; exact ⟨by rw [z_sI_k e]; exact (q1 s hs).1, (q1 s hs).2⟩
                · unfold zj_cs
                  constructor
                  · rintro ⟨p1, a', b3, g', h', p2, p3, p4, p5, p6, p7, p8, p9⟩
                    by_cases e : a' = a ∧ b3 = b2 ∧ g' = g
                    · obtain ⟨rfl, rfl, rfl⟩ := e
                      have : h' = hh := by omega
                      subst this
                      exact Or.inr ⟨p1, p9⟩
                    · refine Or.inl ⟨p1, a', b3, g', h', ?_, p3, p4, p5, p6, p7, p8, p9⟩
                      unfold zj_lx at *; omega
                  · rintro (⟨p1, a', b3, g', h', p2, p3⟩ | ⟨p1, p2⟩)
                    · refine ⟨p1, a', b3, g', h', ?_, p3⟩
                      unfold zj_lx at *; omega
                    · exact ⟨p1, a, b2, g, hh, by unfold zj_lx; omega, ha, hb2, hhe, hcan, g1, g2, p2⟩
              · rw [if_neg g2, nI_1]; exact skip (fun q => g2 q.2.2)
            · rw [if_neg g1, nI_1]; exact skip (fun q => g1 q.2.1)
      · intro n3 s3 hI3
        show z_w (mm_closes_58_b F (nI d) (nI used) (nI first) (nI last) (nI a) (nI b2) (zE (tb (6 * a + b2))) _ _ _ (nI 6) s3) _
        unfold mm_closes_58_b
        rw [show (6 : Int32) = nI 6 from rfl, if_neg (by rw [z_lt (by omega) (by omega)]; omega), nI_1]
        exact hexit 6 s3 (Or.inr rfl) hI3
    · intro n2 s2 hI2
      show z_w (mm_closes_28_b F (nI d) (nI used) (nI first) (nI last) (nI a) _ _ (nI 6) s2) _
      unfold mm_closes_28_b
      rw [show (6 : Int32) = nI 6 from rfl, if_neg (by rw [z_lt (by omega) (by omega)]; omega), nI_1]
      refine hk s2 (zj_I_iff hI2 (fun s w => ?_))
      unfold zj_cs
      constructor
      · rintro ⟨p1, a', b3, g', h', p2, p3⟩
        refine ⟨p1, a', b3, g', h', ?_, p3⟩
        unfold zj_lx at *; omega
      · rintro ⟨p1, a', b3, g', h', p2, p3⟩
        refine ⟨p1, a', b3, g', h', ?_, p3⟩
        unfold zj_lx at *; omega
  · intro n s hI
    show z_w (mm_closes_18_b F (nI d) (nI used) (nI first) (nI last) _ (nI 6) s) _
    unfold mm_closes_18_b
    rw [show (6 : Int32) = nI 6 from rfl, if_neg (by rw [z_lt (by omega) (by omega)]; omega)]
    refine z_w_some (zj_I_iff hI (fun s w => ?_))
    unfold zj_cs zx_cl
    constructor
    · rintro ⟨a, b2, h, p1, p2, p3, p4, g, p5, p6, p7, p8⟩
      exact ⟨p4, a, b2, g, h, by unfold zj_lx; omega, p1, p2, p3, p5, p6, p7, p8⟩
    · rintro ⟨p1, a, b3, g, h, p2, p3, p4, p5, p6, p7, p8, p9⟩
      exact ⟨a, b3, h, p3, p4, p5, p1, g, p6, p7, p8, p9⟩
  · obtain ⟨-, a', b3, g', h', p2, -⟩ := hw
    unfold zj_lx at p2; omega
