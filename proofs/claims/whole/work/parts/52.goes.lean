/-! Layer 2: the reference goes on in a ring; all its rings -/
theorem zx_up_dom2 {S T : Nat → Nat → Prop} {b b' : Nat → Nat} (h : zx_up S b b') (h1 : ∀ s w, S s w → T s w) (h2 : ∀ s w, T s w → ∃ w', w ≤ w' ∧ S s w') : zx_up T b b' := by
  intro s
  obtain ⟨a1, a2, a3⟩ := h s
  refine ⟨a1, fun w hw => ?_, a3.imp id (h1 s _)⟩
  obtain ⟨w', q1, q2⟩ := h2 s w hw
  exact Nat.le_trans q1 (a2 w' q2)
theorem zx_cd_shift {X : zx_T} : ∀ {n ring first gave one got g1 g2 s w : Nat}, zx_cd X n ring first gave one got g1 s w → g1 ≤ g2 → zx_cd X n ring first gave one got g2 s (w + (g2 - g1)) := by
  have base : ∀ {ring first gave one got g1 g2 s w : Nat}, zx_cl X ring first gave one got g1 s w → g1 ≤ g2 → zx_cl X ring first gave one got g2 s (w + (g2 - g1)) := by
    rintro ring first gave one got g1 g2 s w ⟨h1, g, h2, h3, h4, h5⟩ hle
    have := zx_gl_lt h3
    exact ⟨h1, g, h2, h3, h4, by omega⟩
  intro n
  induction n with
  | zero => intro ring first gave one got g1 g2 s w h hle; exact base h hle
  | succ n ih =>
    intro ring first gave one got g1 g2 s w h hle
    rcases h with h | ⟨q, g, h1, h2, h3, h4, h5⟩
    · exact Or.inl (base h hle)
    · have := zx_gl_lt h4
      have h6 := ih h5 (show g1 + zx_mo X one got - zx_la X one g ≤ g2 + zx_mo X one got - zx_la X one g by omega)
      rw [show g2 + zx_mo X one got - zx_la X one g - (g1 + zx_mo X one got - zx_la X one g) = g2 - g1 by omega] at h6
      exact Or.inr ⟨q, g, h1, h2, h3, h4, h6⟩
/-- what may come of a row of the table -/
def zj_tc (X : zx_T) (n used first last : Nat) (tb : Nat → Nat) (s w : Nat) : Prop := ∃ a b h, a < 6 ∧ b < 6 ∧ tb (6 * a + b) = h + 1 ∧ zx_cd X n used first a last b h s w
/-- the walk's frame: rings, later rows of the table, later places of the path -/
def zj_W (d : Nat) (r μ : g_St) : Prop := z_f zj_P r μ ∧ (∀ i, i < d + 1 → μ.1 40 i = r.1 40 i) ∧ ∀ k, k < 36 * (d + 1) → μ.1 41 k = r.1 41 k
theorem zj_W_trans {d : Nat} {r μ ν : g_St} (h : zj_W d r μ) (h2 : zj_W d μ ν) : zj_W d r ν :=
  ⟨z_f_trans h.1 h2.1 (fun _ q => q) (fun _ q => q), fun i hi => by rw [h2.2.1 i hi, h.2.1 i hi], fun k hk => by rw [h2.2.2 k hk, h.2.2 k hk]⟩
theorem zj_W_refl {d : Nat} {r : g_St} : zj_W d r r := ⟨z_f_refl, fun _ _ => rfl, fun _ _ => rfl⟩
def zj_J (d : Nat) (r : g_St) (b : Nat → Nat) (S : Nat → Nat → Prop) (μ : g_St) : Prop := ∃ b', zj_B b' μ ∧ zx_up S b b' ∧ zj_W d r μ
theorem zj_J_iff {d : Nat} {r μ : g_St} {b : Nat → Nat} {S T : Nat → Nat → Prop} (h : zj_J d r b S μ) (hr : ∀ s w, T s w ↔ S s w) : zj_J d r b T μ := by
  obtain ⟨b', h1, h2, h3⟩ := h
  exact ⟨b', h1, zx_up_iff h2 hr, h3⟩
/-- is it alive, then on -/
theorem zj_139 {X : zx_T} {gd F d n used first last q D : Nat} {tn : Nat → Nat} {r s : g_St} {b : Nat → Nat} {S0 S1 T : Nat → Nat → Prop} {Q : g_St → Prop} {K : Int32 → g_St → Option g_St} {R : g_St → Prop}
    (hq : q < 8) (hd : d < 4)
    (hrec : ∀ (μ : g_St) (b' : Nat → Nat), zj_B b' μ → z_f zj_P r μ → μ.1 40 (d + 1) = nI q → (∀ i, i < d + 1 → μ.1 40 i = s.1 40 i) → (∀ k, μ.1 41 k = s.1 41 k) → z_w (mm_goesOn F D (nI (d + 1)) (nI (used ||| 2 ^ q)) μ) (zj_J (d + 1) μ b' T))
    (hs : ∃ b', zj_B b' s ∧ zx_up S0 b b' ∧ z_f zj_P r s ∧ (∀ i, i < d + 1 → s.1 40 i = r.1 40 i) ∧ ∀ k, k < 36 * (d + 1) → s.1 41 k = r.1 41 k)
    (hT : ∀ k, k < 36 → s.1 41 (36 * (d + 1) + k) = zE (tn k) ∧ tn k ≤ 20000) (hdead : (∀ k, k < 36 → tn k = 0) → ∀ s w, ¬ T s w) (hS : ∀ s w, S1 s w ↔ S0 s w ∨ T s w) (hF : 50 < F)
    (hk : ∀ μ, zj_J d r b S1 μ → z_w (K (nI (q + 1)) μ) Q) : z_w (mm_goesOn_139 F (mm_goesOn F D) K (nI d) (nI used) (nI q) s) Q := by
  obtain ⟨b', hb1, hb2, hz, hp, ht⟩ := hs
  unfold mm_goesOn_139
  rw [show (1 : Int32) = nI 1 from rfl, nI_add]
  refine z_w_call (zj_alive hT (by omega) hF) (fun x hx => ?_)
  rcases hx with ⟨rfl, -⟩ | ⟨rfl, h0⟩
  · rw [if_neg (show ¬ nI 1 = (0 : Int32) from by decide), z_wr (by omega) (by omega), z_sbind]
    simp (disch := omega) only [z_and, z_or, z_xor, z_n31, z_shr, z_shl1, z_bit_and, z_andn, nI_lit]
    have hB2 : zj_B b' (g_sI s 40 (d + 1) (nI q)) := fun x hx => by rw [z_sI_id (by omega)]; exact hb1 x hx
    refine z_w_call (hrec (g_sI s 40 (d + 1) (nI q)) b' hB2 (z_f_trans hz (z_f_sI (P := zj_P) (fun q => by unfold zj_P at q; omega)) (fun _ q => q) (fun _ q => q)) (z_sI_same _ _ _ _) (fun i hi => z_sI_k (by omega)) (fun k => z_sI_id (by omega))) (fun ν hν => ?_)
    obtain ⟨b2, c1, c2, c3⟩ := hν
    rw [nI_add]
    refine hk ν ⟨b2, c1, zx_up_trans hb2 c2 hS, z_f_trans hz (z_f_trans (z_f_sI (P := zj_P) (fun q => by unfold zj_P at q; omega)) c3.1 (fun _ q => q) (fun _ q => q)) (fun _ q => q) (fun _ q => q), fun i hi => ?_, fun k hk => ?_⟩
    · rw [c3.2.1 i (by omega), z_sI_k (by omega), hp i hi]
    · rw [c3.2.2 k (by omega), z_sI_id (by omega), ht k hk]
  · rw [if_pos (show nI 0 = (0 : Int32) from rfl), nI_add]
    refine hk s ⟨b', hb1, zx_up_iff hb2 (fun s w => ?_), hz, hp, ht⟩
    rw [hS]
    exact ⟨fun q => q.resolve_right (hdead h0 s w), Or.inl⟩
theorem zj_goes {X : zx_T} {gd F : Nat} (ho : zx_ok X gd) (hF : 50 < F) : ∀ (n d D : Nat), d + n = 4 → 1 ≤ d → n < D → ∀ (used first last : Nat) (tb : Nat → Nat) (r : g_St) (b : Nat → Nat), zj_X X r → zj_B b r → zj_T d tb r → (∀ k, k < 36 → tb k ≤ 1000 * d) → r.1 40 0 = nI first → r.1 40 d = nI last → used < 256 → first < zx_pp X → last < zx_pp X →
    z_w (mm_goesOn F D (nI d) (nI used) r) (zj_J d r b (zj_tc X n used first last tb)) := by
  have h8 := ho.1
  have h6 := ho.2.1
  intro n
  induction n with
  | zero =>
    intro d D hdn hd1 hD used first last tb r b hX hB hT htb hp0 hpd hu hf hl
    obtain ⟨D, rfl⟩ : ∃ k, D = k + 1 := ⟨D - 1, by omega⟩
    have hd4 : d = 4 := by omega
    subst hd4
    show z_w (mm_goesOn_b F (mm_goesOn F D) (nI 4) (nI used) r) _
    unfold mm_goesOn_b
    rw [if_pos (show (0 : Int32) < nI 4 from by decide)]
    refine z_w_call (zj_closes ho hX hB hT hp0 hpd (by omega) hu hf hl (by omega)) (fun ν hν => ?_)
    obtain ⟨b', c1, c2, c3⟩ := hν
    have e40 : ν.1 40 = r.1 40 := c3.1 _ (by omega)
    have e4 : ν.1 4 = r.1 4 := c3.1 _ (by omega)
    rw [show (0 : Int32) = nI 0 from rfl, z_rd (by omega) (by omega), z_sbind, e40, hp0, show (1 : Int32) = nI 1 from rfl, nI_add]
    obtain ⟨F', rfl⟩ : ∃ k, F = k + 1 := ⟨F - 1, by omega⟩
    show z_w (mm_goesOn_19_b (F' + 1) (mm_goesOn (F' + 1) D) (nI 4) (nI used) _ (nI (first + 1)) ν) _
    unfold mm_goesOn_19_b
    rw [show (0 : Int32) = nI 0 from rfl, z_rd (by omega) (by omega), z_sbind, e4, hX.1]
    have fin : zj_J 4 r b (zj_tc X 0 used first last tb) ν := ⟨b', c1, zx_up_iff c2 (fun s w => Iff.rfl), z_f_mono c3 (fun id q => by unfold zj_P at q; omega), fun i _ => by rw [e40], fun k _ => by rw [c3.1 41 (by omega)]⟩
    by_cases hq : first + 1 < zx_pp X
    · rw [if_pos (nI_lt hq (by omega)), if_neg (show ¬ nI 4 < (4 : Int32) from by decide)]; exact z_w_some fin
    · rw [if_neg (by rw [z_lt (by omega) (by omega)]; exact hq)]; exact z_w_some fin
  | succ n ih =>
    intro d D hdn hd1 hD used first last tb r b hX hB hT htb hp0 hpd hu hf hl
    obtain ⟨D, rfl⟩ : ∃ k, D = k + 1 := ⟨D - 1, by omega⟩
    show z_w (mm_goesOn_b F (mm_goesOn F D) (nI d) (nI used) r) _
    unfold mm_goesOn_b
    rw [if_pos (show (0 : Int32) < nI d from nI_lt (a := 0) (by omega) (by omega))]
    refine z_w_call (zj_closes ho hX hB hT hp0 hpd (by omega) hu hf hl (by omega)) (fun ν hν => ?_)
    obtain ⟨b', c1, c2, c3⟩ := hν
    have e40 : ν.1 40 = r.1 40 := c3.1 _ (by omega)
    rw [show (0 : Int32) = nI 0 from rfl, z_rd (by omega) (by omega), z_sbind, e40, hp0, show (1 : Int32) = nI 1 from rfl, nI_add]
    have C : ∃ C : Nat → Nat → Nat → Prop, C = fun i s w => (∃ a b2 h, a < 6 ∧ b2 < 6 ∧ tb (6 * a + b2) = h + 1 ∧ zx_cl X used first a last b2 h s w) ∨ ∃ q, first < q ∧ q < i ∧ used.testBit q = false ∧ ∃ a b2 h g, a < 6 ∧ b2 < 6 ∧ tb (6 * a + b2) = h + 1 ∧ zx_can X last q g = true ∧ zx_gl X last b2 g = true ∧ zx_cd X n (used ||| 2 ^ q) first a q g (h + zx_mo X last b2 - zx_la X last g) s w := ⟨_, rfl⟩
    obtain ⟨C, hC⟩ := C
    have fin : ∀ μ, zj_J d r b (C (zx_pp X)) μ → zj_J d r b (zj_tc X (n + 1) used first last tb) μ := by
      intro μ h
      refine zj_J_iff h (fun s w => ?_)
      rw [hC]
      unfold zj_tc
      constructor
      · rintro ⟨a, b2, h, q1, q2, q3, q4 | ⟨q, g, q4, q5, q6, q7, q8⟩⟩
        · exact Or.inl ⟨a, b2, h, q1, q2, q3, q4⟩
        · have aa := ho.2.2.1 _ _ _ q6
          exact Or.inr ⟨q, q4, aa.2.1, q5, a, b2, h, g, q1, q2, q3, q6, q7, q8⟩
      · rintro (⟨a, b2, h, q1, q2, q3, q4⟩ | ⟨q, q4, q9, q5, a, b2, h, g, q1, q2, q3, q6, q7, q8⟩)
        · exact ⟨a, b2, h, q1, q2, q3, Or.inl q4⟩
        · exact ⟨a, b2, h, q1, q2, q3, Or.inr ⟨q, g, q4, q5, q6, q7, q8⟩⟩
    have start : zj_J d r b (C (first + 1)) ν := by
      refine ⟨b', c1, zx_up_iff c2 (fun s w => ?_), z_f_mono c3 (fun id q => by unfold zj_P at q; omega), fun i _ => by rw [e40], fun k _ => by rw [c3.1 41 (by omega)]⟩
      rw [hC]
      constructor
      · rintro (q | ⟨q, q4, q9, -⟩)
        · exact q
        · omega
      · exact Or.inl
    by_cases hfe : first + 1 ≤ zx_pp X
    · refine z_cw (n := zx_pp X) (A := fun m i s => mm_goesOn_19 F (mm_goesOn F D) (nI d) (nI used) m (nI i) s) (fun i s => first < i ∧ zj_J d r b (C i) s) ?_ ?_ F (first + 1) ν hfe ⟨by omega, start⟩ (by omega)
      · intro m q s hq hI hk
        obtain ⟨hfq, hI⟩ := hI
        obtain ⟨b1, d1, d2, d3, d4, d5⟩ := hI
        have hXs := zj_X_f hX d3
        have hbl := z_bit_lt used q
        show z_w (mm_goesOn_19_b F (mm_goesOn F D) (nI d) (nI used) _ (nI q) s) _
        unfold mm_goesOn_19_b
        rw [show (0 : Int32) = nI 0 from rfl, z_rd (by omega) (by omega), z_sbind, hXs.1, if_pos (nI_lt hq (by omega)), if_pos (show nI d < (4 : Int32) from nI_lt (b := 4) (by omega) (by omega))]
        simp (disch := omega) only [z_and, z_or, z_xor, z_n31, z_shr, z_shl1, z_bit_and, z_andn, nI_lit, z_eq]
        by_cases hb : z_bit used q = 1
        · rw [if_pos hb, nI_add]
          rw [z_bit_one] at hb
          refine hk s ⟨by omega, zj_J_iff ⟨b1, d1, d2, d3, d4, d5⟩ (fun s w => ?_)⟩
          rw [hC]
          constructor
          · rintro (p | ⟨q2, p1, p2, p3, p4⟩)
            · exact Or.inl p
            · refine Or.inr ⟨q2, p1, ?_, p3, p4⟩
              by_cases e : q2 = q
              · subst e; rw [hb] at p3; cases p3
              · omega
          · rintro (p | ⟨q2, p1, p2, p3⟩)
            · exact Or.inl p
            · exact Or.inr ⟨q2, p1, by omega, p3⟩
        · have hb0 : used.testBit q = false := by rw [z_bit_one] at hb; cases e : used.testBit q with
            | false => rfl
            | true => exact absurd e hb
          rw [if_neg hb, if_neg (show ¬ d = 0 by omega)]
          have hTs : zj_T d tb s := fun k hk => by rw [d5 _ (by omega)]; exact hT k hk
          refine z_w_call (zj_len ho hXs hTs htb (by rw [d4 d (by omega), hpd]) (by omega) hl (by omega) hF) (fun μ hμ => ?_)
          obtain ⟨tn, t1, t2, t3, t4⟩ := hμ
          have hBμ : zj_B b1 μ := fun x hx => by rw [t3.1 39 (by omega)]; exact d1 x hx
          have zμ : z_f zj_P r μ := z_f_trans d3 t3 (fun _ q => q) (fun id q => by unfold zj_P at q; omega)
          have pμ : ∀ i, i < d + 1 → μ.1 40 i = r.1 40 i := fun i hi => by rw [t3.1 40 (by omega)]; exact d4 i hi
          -- the candidates of the new row are those of the old one
          have conv : ∀ {c c' : Nat → Nat}, zx_up (zj_tc X n (used ||| 2 ^ q) first q tn) c c' → zx_up (fun s w => ∃ a b2 h g, a < 6 ∧ b2 < 6 ∧ tb (6 * a + b2) = h + 1 ∧ zx_can X last q g = true ∧ zx_gl X last b2 g = true ∧ zx_cd X n (used ||| 2 ^ q) first a q g (h + zx_mo X last b2 - zx_la X last g) s w) c c' := by
            intro c c' hc
            refine zx_up_dom2 hc (fun s w hw => ?_) (fun s w hw => ?_)
            · obtain ⟨a, g, h', p1, p2, p3, p4⟩ := hw
              rcases (t2 (6 * a + g)).2.2 with e | ⟨a2, b2, g2, h, r1, r2, r3, r4, r5, r6, r7, r8⟩
              · rw [p3] at e; exact absurd e (Nat.succ_ne_zero _)
              · have ea : a2 = a := by omega
                have eg : g2 = g := by omega
                subst ea; subst eg
                exact ⟨a2, b2, h, g2, r1, r2, r5, r6, r7, by rw [show h + zx_mo X last b2 - zx_la X last g2 = h' by omega]; exact p4⟩
            · obtain ⟨a, b2, h, g, p1, p2, p3, p4, p5, p6⟩ := hw
              have hg6 : g < 6 := by have := ho.2.2.1 _ _ _ p4; omega
              have hle := (t2 (6 * a + g)).2.1 _ (show zj_LS X tb last q (6 * a + g) (h + zx_mo X last b2 - zx_la X last g + 1) from ⟨a, b2, g, h, p1, p2, hg6, rfl, p3, p4, p5, rfl⟩)
              obtain ⟨h', he⟩ : ∃ h', tn (6 * a + g) = h' + 1 := ⟨tn (6 * a + g) - 1, by omega⟩
              exact ⟨_, Nat.le_add_right _ _, a, g, h', p1, hg6, he, zx_cd_shift p6 (by omega)⟩
          refine zj_139 (X := X) (gd := gd) (n := n) (first := first) (last := last) (r := r) (S0 := C q) (S1 := C (q + 1)) (T := fun s w => ∃ a b2 h g, a < 6 ∧ b2 < 6 ∧ tb (6 * a + b2) = h + 1 ∧ zx_can X last q g = true ∧ zx_gl X last b2 g = true ∧ zx_cd X n (used ||| 2 ^ q) first a q g (h + zx_mo X last b2 - zx_la X last g) s w) (R := fun _ => True) (tn := tn) (b := b) (by omega) (by omega) (fun ξ b2 x1 x2 x3 x4 x5 => ?_) ⟨b1, hBμ, d2, zμ, pμ, fun k hk => by rw [t4 k hk]; exact d5 k hk⟩ (fun k hk => ⟨(t1 k hk).1, by have := (t1 k hk).2; omega⟩) (fun h0 s w hw => ?_) (fun s w => ?_) hF (fun ξ hξ => hk ξ ⟨by omega, hξ⟩)
          · have := ih (d + 1) D (by omega) (by omega) (by omega) (used ||| 2 ^ q) first q tn ξ b2 (zj_X_f hX x2) x1 (fun k hk => ⟨by rw [x5]; exact (t1 k hk).1, by have := (t1 k hk).2; omega⟩) (fun k hk => (t1 k hk).2) (by rw [x4 0 (by omega), pμ 0 (by omega), hp0]) x3 (z_or_lt8 hu (by omega)) hf hq
            obtain ⟨y, hy, b3, y1, y2, y3⟩ := this
            exact ⟨y, hy, b3, y1, conv y2, y3⟩
          · obtain ⟨a, b2, h, g, p1, p2, p3, p4, p5, p6⟩ := hw
            have hg6 : g < 6 := by have := ho.2.2.1 _ _ _ p4; omega
            have hle := (t2 (6 * a + g)).2.1 _ (show zj_LS X tb last q (6 * a + g) (h + zx_mo X last b2 - zx_la X last g + 1) from ⟨a, b2, g, h, p1, p2, hg6, rfl, p3, p4, p5, rfl⟩)
            rw [h0 _ (by omega)] at hle; omega
          · rw [hC]
            constructor
            · rintro (p | ⟨q2, p1, p2, p3, p4⟩)
              · exact Or.inl (Or.inl p)
              · by_cases e : q2 = q
                · subst e; exact Or.inr p4
                · exact Or.inl (Or.inr ⟨q2, p1, by omega, p3, p4⟩)
            · rintro ((p | ⟨q2, p1, p2, p3⟩) | p)
              · exact Or.inl p
              · exact Or.inr ⟨q2, p1, by omega, p3⟩
              · exact Or.inr ⟨q, hfq, by omega, hb0, p⟩
      · intro m s hI
        obtain ⟨hfq, b1, d1, d2, d3, d4, d5⟩ := hI
        have hXs := zj_X_f hX d3
        show z_w (mm_goesOn_19_b F (mm_goesOn F D) (nI d) (nI used) _ (nI (zx_pp X)) s) _
        unfold mm_goesOn_19_b
        rw [show (0 : Int32) = nI 0 from rfl, z_rd (by omega) (by omega), z_sbind, hXs.1, if_neg (by rw [z_lt (by omega) (by omega)]; omega)]
        exact z_w_some (fin s ⟨b1, d1, d2, d3, d4, d5⟩)
    · exact absurd (show first + 1 ≤ zx_pp X by omega) hfe
