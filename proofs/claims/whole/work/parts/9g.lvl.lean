/-! Layer 2: E, TEST, SUM, PRODUCT are read by both -/
def zg_cL (Y : zp_S) (F d l hC e18 : Nat) (Q : (Nat → Int32) → Nat → Nat → Nat → ((Nat → Int32) → Int32) → Prop) (N : Nat → g_St → Prop) : Prop := ∀ (D j : Nat) (c r : g_St) (q g : Nat), 6 * (5 - d) + 6 - l ≤ D → zg_V Y j c r → zg_p Y j c r q g → zg_o r d = d → (l ≤ 1 → r.1 18 d = nI 0) → zg_ok Y F d d e18 Q hC (6 - d) N (1 : Int32) j q g q g c r (oe_rp F Y.1.2.2 D true (nI l) (nI d) c)
theorem zg_ok_and {Y : zp_S} {F d e0 e18 : Nat} {Q : (Nat → Int32) → Nat → Nat → Nat → ((Nat → Int32) → Int32) → Prop} {hC hR : Nat} {N : Nat → g_St → Prop} {w : Int32} {j q g a a' : Nat} {c r : g_St} {x : Option (Int32 × g_St)} (h : zg_ok Y F d e0 e18 Q hC hR N w j q g a a' c r x) : zg_ok Y F d e0 e18 Q hC hR N w j q g a a' c r (x.bind fun q => some (q.1 &&& (1 : Int32), q.2)) := by
  rcases h with ⟨c2, r2, i1, i2⟩ | ⟨j2, c2, r2, q2, g2, φ, i1, i2⟩
  · left
    refine ⟨c2, r2, ?_, i2⟩
    rw [i1, z_sbind]
    show some (nI 0 &&& (1 : Int32), c2) = _
    rw [zn_a0]
  · right
    refine ⟨j2, c2, r2, q2, g2, φ, ?_, i2⟩
    rw [i1, z_sbind]
    show some (nI 1 &&& (1 : Int32), c2) = _
    rw [zn_a1]
theorem zg_L4 {Y : zp_S} {F d : Nat} (h : zg_cP Y F d) : zg_cL Y F d 4 (1 + 4 * (5 - d)) (d + 1) zq_P (fun _ _ => True) := by
  intro D j c r q g hD hV hp ho _
  obtain ⟨D, rfl⟩ : ∃ D', D = D' + 1 := ⟨D - 1, by omega⟩
  have x := h D j c r q g (by omega) hV hp
  rw [ho] at x
  have e : oe_rp F Y.1.2.2 (D + 1) true (nI 4) (nI d) c = oe_readJoined_b F Y.1.2.2 (oe_rp F Y.1.2.2 D) (nI 4) (nI d) c := rfl
  rw [e]
  unfold oe_readJoined_b
  rw [if_pos (show (3 : Int32) < nI 4 by decide)]
  exact zg_ok_and x
theorem zg_loop {Y : zp_S} {F d l hX hY e18 eY : Nat} {Q QY : (Nat → Int32) → Nat → Nat → Nat → ((Nat → Int32) → Int32) → Prop} {N NY : Nat → g_St → Prop} {op : Nat → Prop} (hF : 1100 < F) (hl : l ≤ 3)
    (hjo : ∀ μ k, k < 204 → (op k → oe_joins μ (nI k) (nI l) = some (nI 1)) ∧ (¬ op k → oe_joins μ (nI k) (nI l) = some (nI 0)))
    (hop : ∀ k, op k → k ≠ 202 ∧ k ≠ 13) (hh : hY + 1 ≤ hX) (h0 : 0 < hY)
    (turn : ∀ j c r g, zg_V Y j c r → r.1 0 26 = nI (1000 + g) → g < 1000 → op (zn_k (zp_t Y j)) → ∃ r', (∀ f, mm_reads_11 F (f + 1) (nI d) (0 : Int32) r = (mm_nextToken F r').bind fun μ => mm_reads_11 F f (nI d) (1 : Int32) μ) ∧ zg_V Y j c r' ∧ zg_KR g d e18 r r' ∧ r'.1 0 26 = nI (1000 + (g + 1)) ∧ (l + 1 ≤ 1 → r'.1 18 d = nI 0) ∧
      ∀ (S : Nat → Int32) (a b' : Nat) (φ ψ : (Nat → Int32) → Int32), Q S a g (6 - d) φ → S g = r'.1 16 (1000 + g) → QY S (g + 1) b' (6 - d) ψ → g + 1 ≤ b' → Q S a b' (6 - d) (fun f => zu_jn (zn_k (zp_t Y j)) (φ f) (ψ f)))
    (operand : zg_cL Y F d (l + 1) hY eY QY NY) (he : e18 ≤ eY) (hN : ∀ k r, NY k r → ¬ op k → N k r) :
    ∀ (n i j : Nat) (c r : g_St) (q g a a' : Nat) (φ : (Nat → Int32) → Int32) (fl D : Nat), Y.2.2.2.2 - j = n → i ≤ j → n < fl → 6 * (5 - d) + 6 - (l + 1) ≤ D → zg_V Y j c r → zg_p Y j c r q g → zg_o r d = d → zg_c (c.1 (Y.1.2.2 + 1)) a q hX φ → zg_r Q (r.1 16) a' g (6 - d) φ → NY (zn_k (zp_t Y j)) r →
      zg_ok Y F d d e18 Q hX (6 - d) N (0 : Int32) j q g a a' c r (oe_readJoined_43 F Y.1.2.2 (oe_rp F Y.1.2.2 D) (nI l) (nI d) (1000 : Int32) fl (nI i) c) := by
  intro n
  induction n using Nat.strongRecOn with
  | ind n ih =>
    intro i j c r q g a a' φ fl D hn hij hfl hD h hp ho hC hR hNY
    obtain ⟨fl, rfl⟩ : ∃ f', fl = f' + 1 := ⟨fl - 1, by omega⟩
    obtain ⟨p1, p2, p3, p4⟩ := hp
    have hb := zg_b53 h.2.2.1
    have kd := zg_V_kd h
    have k4 := zn_kd_lt kd
    have jm := zg_jm h
    have h8 : c.1 1 8 = nI (zn_k (zp_t Y j)) := h.1.2.2.2.2.2.2.1
    show zg_ok Y F d d e18 Q hX (6 - d) N (0 : Int32) j q g a a' c r (oe_readJoined_43_b F Y.1.2.2 (oe_rp F Y.1.2.2 D) (nI l) (nI d) (1000 : Int32) (oe_readJoined_43 F Y.1.2.2 (oe_rp F Y.1.2.2 D) (nI l) (nI d) (1000 : Int32) fl) (nI i) c)
    unfold oe_readJoined_43_b
    rw [h8]
    by_cases q1 : op (zn_k (zp_t Y j))
    · obtain ⟨nj, jlt⟩ := zg_n_lt h (hop _ q1).1
      obtain ⟨r', t1, t2, t3, t4, t5, t6⟩ := turn j c r g h p2 (by omega) q1
      obtain ⟨c1, r1, a1, a2, a3, a4, a5⟩ := zg_adv t2 hF
      rw [nj] at a3
      have kr1 : zg_KR g d e18 r r1 := zg_KR_t t3 (zg_KR_k (g := g) (d := d) (e := e18) a5) (Nat.le_refl _) (Nat.le_refl _) (Nat.le_refl _)
      have kc1 : zg_KC Y.1.2.2 q c c1 := zg_KC_k a4 (by omega)
      have o1 : zg_o r1 d = d := by rw [zg_o_c (r := r) (fun i hi => kr1.2.2.1 i hi)]; exact ho
      have pp1 : zg_p Y (j + 1) c1 r1 q (g + 1) := ⟨by rw [a4.1 _ (by omega) (by omega) (by omega)]; exact p1, by rw [a5.2.1 26 (by omega) (by omega) (by omega) (by omega)]; exact t4, by omega, by omega⟩
      have y := operand D (j + 1) c1 r1 q (g + 1) hD a3 pp1 o1 (fun z => by rw [a5.1 18 (by omega)]; exact t5 z)
      rw [if_pos (show nI i < (1000 : Int32) by show nI i < nI 1000; rw [z_lt (by omega) (by omega)]; omega), (hjo c _ k4).1 q1, z_sbind, if_neg zn_p1, a1, z_sbind, nI_1]
      rcases y with ⟨c2, r2, i1, i2, i3⟩ | ⟨j2, c2, r2, q2, g2, ψ, i1, i2, i3, i4, i5, i6, i7, i8, i9, i10, i11⟩
      · left
        refine ⟨c2, r2, by rw [i1, z_sbind, if_pos zn_p0]; rfl, fun f => ?_, i3⟩
        rw [show f + (Y.2.2.2.2 + 1 - j) = (f + (Y.2.2.2.2 + 1 - (j + 1))) + 1 by omega, t1, a2, z_sbind, i2]
      · have jm2 := zg_jm i4
        rw [i1, z_sbind, if_neg zn_p1]
        dsimp only
        rw [show (20000 : Int32) = nI 20000 from rfl, nI_add, zg_put i5.1 (by omega), z_sbind, nI_1]
        have kr2 : zg_KR g d e18 r r2 := zg_KR_t kr1 (zg_KR_m i8 (show g ≤ g + 1 by omega) (Nat.le_refl d) he) (Nat.le_refl _) (Nat.le_refl _) (Nat.le_refl _)
        have kc2 : zg_KC Y.1.2.2 q c (zg_pC Y.1.2.2 q2 (nI (20000 + zn_k (zp_t Y j))) c2) := zg_KC_t kc1 (zg_KC_t i7 (zg_KC_p (show q2 ≤ q2 from Nat.le_refl _)) i6.1) (Nat.le_refl _)
        have o2 : zg_o r2 d = d := by rw [zg_o_c (r := r) (fun i hi => kr2.2.2.1 i hi)]; exact ho
        have ev : zg_c ((zg_pC Y.1.2.2 q2 (nI (20000 + zn_k (zp_t Y j))) c2).1 (Y.1.2.2 + 1)) a (q2 + 1) hX (fun f => zu_jn (zn_k (zp_t Y j)) (φ f) (ψ f)) := by
          have := hC.1
          refine ⟨by omega, fun S' hS => ?_⟩
          have e1 : ∀ i, i < q2 → (zg_pC Y.1.2.2 q2 (nI (20000 + zn_k (zp_t Y j))) c2).1 (Y.1.2.2 + 1) i = c2.1 (Y.1.2.2 + 1) i := fun i hi => by unfold zg_pC; rw [z_sI_id (by omega), z_sI_k (by omega)]
          refine zu_cd_h (zu_cd_bin (hC.2 S' (fun i h1 h2 => ?_)) (i9.2 S' (fun i h1 h2 => ?_)) h0 (by omega) (hop _ q1).2 ?_) (by omega)
          · rw [hS i h1 (by omega), e1 i (by omega), i7.1 i h2, kc1.1 i h2]
          · rw [hS i (by omega) (by omega), e1 i h2]
          · rw [hS q2 (by omega) (by omega)]; unfold zg_pC; rw [z_sI_id (by omega), z_sI_same]
        have ev2 : zg_r Q (r2.1 16) a' g2 (6 - d) (fun f => zu_jn (zn_k (zp_t Y j)) (φ f) (ψ f)) := by
          have := hR.1
          refine ⟨by omega, fun S' hS => ?_⟩
          refine t6 S' a' g2 φ ψ (hR.2 S' (fun i h1 h2 => ?_)) ?_ (i10.2 S' (fun i h1 h2 => ?_)) i10.1
          · rw [hS i h1 (by omega), kr2.1 _ (by omega)]
          · rw [hS g (by omega) (by omega), i8.1 _ (by omega), a5.1 16 (by omega)]
          · rw [hS i (by omega) h2]
        have z := ih (Y.2.2.2.2 - j2) (by omega) (i + 1) j2 _ r2 (q2 + 1) g2 a a' _ fl D rfl (by omega) (by omega) hD (zg_V_pC (q := q2) (v := nI (20000 + zn_k (zp_t Y j))) i4) ⟨by unfold zg_pC; rw [z_sI_same], i5.2.1, by omega, by omega⟩ o2 ev ev2 i11
        rcases z with ⟨c3, r3, b1, b2, b3⟩ | ⟨j3, c3, r3, q3, g3, χ, b1, b2, b3, b4, b5, b6, b7, b8, b9, b10, b11⟩
        · left
          refine ⟨c3, r3, b1, fun f => ?_, b3⟩
          rw [show f + (Y.2.2.2.2 + 1 - j) = ((f + (Y.2.2.2.2 + 1 - j2)) + (j2 - (j + 1))) + 1 by omega, t1, a2, z_sbind, i2, b2]
        · right
          refine ⟨j3, c3, r3, q3, g3, χ, b1, fun f => ?_, by omega, b4, b5, ⟨by omega, by omega, by omega, by omega⟩, zg_KC_t kc2 b7 (by omega), zg_KR_t kr2 b8 (by omega) (Nat.le_refl _) (Nat.le_refl _), b9, b10, b11⟩
          rw [show f + (j3 - j) = ((f + (j3 - j2)) + (j2 - (j + 1))) + 1 by omega, t1, a2, z_sbind, i2, b2]
    · right
      refine ⟨j, c, r, q, g, φ, ?_, fun f => by rw [show f + (j - j) = f by omega], Nat.le_refl _, h, ⟨p1, p2, p3, p4⟩, ⟨by omega, by omega, by omega, by omega⟩, ⟨fun _ _ => rfl, rfl, rfl⟩, ⟨fun _ _ => rfl, ⟨rfl, rfl⟩, fun _ _ => rfl, fun _ _ => rfl⟩, hC, hR, hN _ _ hNY q1⟩
      rw [(hjo c _ k4).2 q1, z_sbind, if_pos zn_p0]
      split <;> rfl
theorem zg_lev {Y : zp_S} {F d l hX hY e18 eY : Nat} {Q QY : (Nat → Int32) → Nat → Nat → Nat → ((Nat → Int32) → Int32) → Prop} {N NY : Nat → g_St → Prop} (hF : 1100 < F) (hl : l ≤ 3) (hl1 : l ≠ 1) (hh : hY ≤ hX) (hQ : ∀ S a b φ, QY S a b (6 - d) φ → Q S a b (6 - d) φ) (he : e18 ≤ eY)
    (operand : zg_cL Y F d (l + 1) hY eY QY NY)
    (loop : ∀ (n i j : Nat) (c r : g_St) (q g a a' : Nat) (φ : (Nat → Int32) → Int32) (fl D : Nat), Y.2.2.2.2 - j = n → i ≤ j → n < fl → 6 * (5 - d) + 6 - (l + 1) ≤ D → zg_V Y j c r → zg_p Y j c r q g → zg_o r d = d → zg_c (c.1 (Y.1.2.2 + 1)) a q hX φ → zg_r Q (r.1 16) a' g (6 - d) φ → NY (zn_k (zp_t Y j)) r →
      zg_ok Y F d d e18 Q hX (6 - d) N (0 : Int32) j q g a a' c r (oe_readJoined_43 F Y.1.2.2 (oe_rp F Y.1.2.2 D) (nI l) (nI d) (1000 : Int32) fl (nI i) c)) : zg_cL Y F d l hX e18 Q N := by
  intro D j c r q g hD hV hp ho h18
  obtain ⟨D, rfl⟩ : ∃ D', D = D' + 1 := ⟨D - 1, by omega⟩
  have jm := zg_jm hV
  have x := operand D j c r q g (by omega) hV hp ho (fun z => h18 (by omega))
  have e : oe_rp F Y.1.2.2 (D + 1) true (nI l) (nI d) c = oe_readJoined_b F Y.1.2.2 (oe_rp F Y.1.2.2 D) (nI l) (nI d) c := rfl
  rw [e]
  unfold oe_readJoined_b
  rw [if_neg (show ¬ (3 : Int32) < nI l by show ¬ nI 3 < nI l; rw [z_lt (by omega) (by omega)]; omega), show nI l + (1 : Int32) = nI (l + 1) from nI_1 l]
  rcases x with ⟨c2, r2, i1, i2, i3⟩ | ⟨j2, c2, r2, q2, g2, ψ, i1, i2, i3, i4, i5, i6, i7, i8, i9, i10, i11⟩
  · left
    exact ⟨c2, r2, by rw [i1, z_sbind, if_pos zn_p0]; rfl, i2, i3⟩
  · rw [i1, z_sbind, if_neg zn_p1, if_neg (show ¬ nI l = (1 : Int32) by show ¬ nI l = nI 1; rw [z_eq (by omega) (by omega)]; exact hl1)]
    have o2 : zg_o r2 d = d := by rw [zg_o_c (r := r) (fun i hi => i8.2.2.1 i hi)]; exact ho
    have jm2 := zg_jm i4
    have z := loop _ 0 j2 c2 r2 q2 g2 q g ψ F D rfl (by omega) (by omega) (by omega) i4 i5 o2 ⟨i9.1, fun S' hS => zu_cd_h (i9.2 S' hS) hh⟩ ⟨i10.1, fun S' hS => hQ _ _ _ _ (i10.2 S' hS)⟩ i11
    rcases z with ⟨c3, r3, b1, b2, b3⟩ | ⟨j3, c3, r3, q3, g3, χ, b1, b2, b3, b4, b5, b6, b7, b8, b9, b10, b11⟩
    · left
      refine ⟨c3, r3, b1, fun f => ?_, b3⟩
      rw [show f + (Y.2.2.2.2 + 1 - j) = (f + (Y.2.2.2.2 + 1 - j2)) + (j2 - j) by omega, i2, b2]
    · right
      refine ⟨j3, c3, r3, q3, g3, χ, b1, fun f => ?_, by omega, b4, b5, ⟨by omega, by omega, by omega, by omega⟩, zg_KC_t i7 b7 (by omega), zg_KR_t (zg_KR_m i8 (Nat.le_refl _) (Nat.le_refl _) he) b8 (by omega) (Nat.le_refl _) (Nat.le_refl _), b9, b10, b11⟩
      rw [show f + (j3 - j) = (f + (j3 - j2)) + (j2 - j) by omega, i2, b2]
theorem zg_jo (l : Nat) (hl : l ≤ 3) (op : Nat → Prop) (ho : ∀ k, op k ↔ (l = 0 ∧ (k = 11 ∨ k = 12)) ∨ (l = 1 ∧ (k = 60 ∨ k = 61)) ∨ (l = 2 ∧ (k = 43 ∨ k = 45)) ∨ (l = 3 ∧ k = 42)) : ∀ μ k, k < 204 → (op k → oe_joins μ (nI k) (nI l) = some (nI 1)) ∧ (¬ op k → oe_joins μ (nI k) (nI l) = some (nI 0)) := by
  intro μ k hk
  rw [ho k]
  unfold oe_joins
  simp (disch := omega) only [↓reduceIte, nI_lit, z_sbind, z_rd, z_rl, z_rr, z_wr, z_wl, nI_add, z_mul, z_lt, z_le, z_eq, z_ltm1, z_m1lt, z_eqm1, z_m1eq, z_lem1, z_m1le, if_true, if_false, ite_true, ite_false]
  constructor
  · intro h
    repeat' split
    all_goals first | rfl | omega
  · intro h
    repeat' split
    all_goals first | rfl | omega
theorem zg_KR_18 {g d : Nat} {v : Int32} {r : g_St} : zg_KR g d d r (g_sI r 18 d v) := ⟨fun i _ => z_sI_id (by omega), ⟨z_sI_f (by omega), z_sI_f (by omega)⟩, fun i _ => z_sI_id (by omega), fun i hi => z_sI_k (by omega)⟩
theorem zg_pR_26 {g : Nat} {v : Int32} {r : g_St} : (zg_pR g v r).1 0 26 = nI (1000 + (g + 1)) := by unfold zg_pR; rw [z_sI_same]
theorem zg_pR_16 {g : Nat} {v : Int32} {r : g_St} : (zg_pR g v r).1 16 (1000 + g) = v := by unfold zg_pR; rw [z_sI_id (by omega), z_sI_same]
def zg_N3 (k : Nat) (_ : g_St) : Prop := ¬ (k = 42)
def zg_N2 (k : Nat) (_ : g_St) : Prop := ¬ (k = 42) ∧ ¬ (k = 43 ∨ k = 45)
def zg_N1 (d k : Nat) (r : g_St) : Prop := (¬ (k = 42) ∧ ¬ (k = 43 ∨ k = 45)) ∧ (¬ (k = 60 ∨ k = 61) ∨ r.1 18 d ≠ nI 0)
/-- PRODUCT -/
theorem zg_L3 {Y : zp_S} {F d : Nat} (hF : 1100 < F) (h : zg_cP Y F d) : zg_cL Y F d 3 (2 + 4 * (5 - d)) (d + 1) zq_M zg_N3 := by
  refine zg_lev hF (by omega) (by omega) (by omega) (fun S a b φ x => zq_M_P x) (Nat.le_refl _) (zg_L4 h) (zg_loop (op := fun k => k = 42) hF (by omega) (zg_jo 3 (by omega) _ (fun k => by omega)) (fun k hk => by omega) (by omega) (by omega) (fun j c r g hV h26 hg hk => ?_) (zg_L4 h) (Nat.le_refl _) (fun k r _ q => q))
  have hk : zn_k (zp_t Y j) = 42 := hk
  have ha : zn_at (zp_t Y j) r := hV.2.1.2.2.2
  have tn := fun f => zg_n4 (F := F) (f := f) (d := d) hV.2.1.1 ha (zg_V_kd hV) h26 hg (by omega)
  rw [if_neg (by omega), if_neg (by omega)] at tn
  refine ⟨_, tn, zg_V_pR hV, zg_KR_p (Nat.le_refl _), zg_pR_26, fun z => by omega, fun S a b' φ ψ x hS y hb => ?_⟩
  rw [hk]
  exact zq_M_mul x (by rw [hS, zg_pR_16]) y hb
/-- SUM -/
theorem zg_L2 {Y : zp_S} {F d : Nat} (hF : 1100 < F) (h : zg_cP Y F d) : zg_cL Y F d 2 (3 + 4 * (5 - d)) (d + 1) zq_S zg_N2 := by
  refine zg_lev hF (by omega) (by omega) (by omega) (fun S a b φ x => zq_S_M x) (Nat.le_refl _) (zg_L3 hF h) (zg_loop (op := fun k => k = 43 ∨ k = 45) hF (by omega) (zg_jo 2 (by omega) _ (fun k => by omega)) (fun k hk => by omega) (by omega) (by omega) (fun j c r g hV h26 hg hk => ?_) (zg_L3 hF h) (Nat.le_refl _) (fun k r n q => ⟨n, q⟩))
  have hk : zn_k (zp_t Y j) = 43 ∨ zn_k (zp_t Y j) = 45 := hk
  have ha : zn_at (zp_t Y j) r := hV.2.1.2.2.2
  have tn := fun f => zg_n4 (F := F) (f := f) (d := d) hV.2.1.1 ha (zg_V_kd hV) h26 hg (by omega)
  refine ⟨_, tn, zg_V_pR hV, zg_KR_p (Nat.le_refl _), zg_pR_26, fun z => by omega, fun S a b' φ ψ x hS y hb => ?_⟩
  rw [zg_pR_16] at hS
  rcases hk with e | e
  · rw [if_pos e] at hS
    have := zq_S_add x (Or.inl rfl) hS y hb
    rw [if_pos rfl] at this
    rw [e]; exact this
  · rw [if_neg (by omega), if_pos e] at hS
    have := zq_S_add x (Or.inr rfl) hS y hb
    rw [if_neg (by omega)] at this
    rw [e]; exact this
/-- TEST -/
theorem zg_L1 {Y : zp_S} {F d : Nat} (hF : 1100 < F) (hd : d ≤ 5) (h : zg_cP Y F d) : zg_cL Y F d 1 (4 + 4 * (5 - d)) d zq_T (zg_N1 d) := by
  intro D j c r q g hD hV hp ho h18
  obtain ⟨D, rfl⟩ : ∃ D', D = D' + 1 := ⟨D - 1, by omega⟩
  have h18 := h18 (by omega)
  have jm := zg_jm hV
  have hb := zg_b53 hV.2.2.1
  have x := zg_L2 hF h D j c r q g (by omega) hV hp ho (fun z => by omega)
  have e : oe_rp F Y.1.2.2 (D + 1) true (nI 1) (nI d) c = oe_readJoined_b F Y.1.2.2 (oe_rp F Y.1.2.2 D) (nI 1) (nI d) c := rfl
  rw [e]
  unfold oe_readJoined_b
  rw [if_neg (show ¬ (3 : Int32) < nI 1 by decide), show nI 1 + (1 : Int32) = nI 2 from nI_1 1]
  rcases x with ⟨c2, r2, i1, i2, i3⟩ | ⟨j2, c2, r2, q2, g2, φ, i1, i2, i3, i4, i5, i6, i7, i8, i9, i10, i11⟩
  · left
    exact ⟨c2, r2, by rw [i1, z_sbind, if_pos zn_p0]; rfl, i2, i3⟩
  · rw [i1, z_sbind, if_neg zn_p1, if_pos (show nI 1 = (1 : Int32) from rfl)]
    have o2 : zg_o r2 d = d := by rw [zg_o_c (r := r) (fun i hi => i8.2.2.1 i hi)]; exact ho
    have r18 : r2.1 18 d = nI 0 := by rw [i8.2.2.2 d (by omega)]; exact h18
    have jm2 := zg_jm i4
    have kd := zg_V_kd i4
    have k4 := zn_kd_lt kd
    have h8 : c2.1 1 8 = nI (zn_k (zp_t Y j2)) := i4.1.2.2.2.2.2.2.1
    have ha : zn_at (zp_t Y j2) r2 := i4.2.1.2.2.2
    obtain ⟨F', rfl⟩ : ∃ F', F = F' + 2 := ⟨F - 2, by omega⟩
    show zg_ok Y (F' + 2) d d d zq_T (4 + 4 * (5 - d)) (6 - d) (zg_N1 d) (1 : Int32) j q g q g c r (oe_readJoined_43_b (F' + 2) Y.1.2.2 (oe_rp (F' + 2) Y.1.2.2 D) (nI 1) (nI d) (1 : Int32) (oe_readJoined_43 (F' + 2) Y.1.2.2 (oe_rp (F' + 2) Y.1.2.2 D) (nI 1) (nI d) (1 : Int32) (F' + 1)) (0 : Int32) c2)
    unfold oe_readJoined_43_b
    rw [if_pos (show (0 : Int32) < 1 by decide), h8]
    have jo := zg_jo 1 (by omega) (fun k => k = 60 ∨ k = 61) (fun k => by omega) c2 (zn_k (zp_t Y j2)) k4
    by_cases q1 : zn_k (zp_t Y j2) = 60 ∨ zn_k (zp_t Y j2) = 61
    · obtain ⟨nj, jlt⟩ := zg_n_lt i4 (by omega)
      have tn := fun f => zg_n5 (F := F' + 2) (f := f) (d := d) i4.2.1.1 ha kd (by omega) i5.2.1 (show g2 < 1000 by have := i5.2.2.2; omega) q1 r18
      have hV' := zg_V_18 (id := 18) (k := d) (v := nI 1) (zg_V_pR (g := g2) (v := if zn_k (zp_t Y j2) = 60 then nI 24 else nI 25) i4) (Or.inr rfl)
      have kr' : zg_KR g2 d d r2 (g_sI (zg_pR g2 (if zn_k (zp_t Y j2) = 60 then nI 24 else nI 25) r2) 18 d (nI 1)) := zg_KR_t (zg_KR_p (d := d) (e := d) (Nat.le_refl g2)) (zg_KR_18 (g := g2)) (Nat.le_refl _) (Nat.le_refl _) (Nat.le_refl _)
      have c16 : (g_sI (zg_pR g2 (if zn_k (zp_t Y j2) = 60 then nI 24 else nI 25) r2) 18 d (nI 1)).1 16 (1000 + g2) = (if zn_k (zp_t Y j2) = 60 then nI 24 else nI 25) := by rw [z_sI_id (by omega), zg_pR_16]
      have c26 : (g_sI (zg_pR g2 (if zn_k (zp_t Y j2) = 60 then nI 24 else nI 25) r2) 18 d (nI 1)).1 0 26 = nI (1000 + (g2 + 1)) := by rw [z_sI_id (by omega), zg_pR_26]
      have c18 : (g_sI (zg_pR g2 (if zn_k (zp_t Y j2) = 60 then nI 24 else nI 25) r2) 18 d (nI 1)).1 18 d = nI 1 := by rw [z_sI_same]
      obtain ⟨c3, r3, a1, a2, a3, a4, a5⟩ := zg_adv hV' hF
      rw [nj] at a3
      have kr3 : zg_KR g2 d d r2 r3 := zg_KR_t kr' (zg_KR_k (g := g2) (d := d) (e := d) a5) (Nat.le_refl _) (Nat.le_refl _) (Nat.le_refl _)
      have kc3 : zg_KC Y.1.2.2 q2 c2 c3 := zg_KC_k a4 (by omega)
      have o3 : zg_o r3 d = d := by rw [zg_o_c (r := r2) (fun i hi => kr3.2.2.1 i hi)]; exact o2
      have pp3 : zg_p Y (j2 + 1) c3 r3 q2 (g2 + 1) := ⟨by rw [a4.1 _ (by omega) (by omega) (by omega)]; exact i5.1, by rw [a5.2.1 26 (by omega) (by omega) (by omega) (by omega)]; exact c26, by have := i5.2.2.1; omega, by have := i5.2.2.2; omega⟩
      have y := zg_L2 hF h D (j2 + 1) c3 r3 q2 (g2 + 1) (by omega) a3 pp3 o3 (fun z => by omega)
      rw [jo.1 q1, z_sbind, if_neg zn_p1, a1, z_sbind, show nI 1 + (1 : Int32) = nI 2 from nI_1 1]
      rcases y with ⟨c4, r4, b1, b2, b3⟩ | ⟨j4, c4, r4, q4, g4, ψ, b1, b2, b3, b4, b5, b6, b7, b8, b9, b10, b11⟩
      · left
        refine ⟨c4, r4, by rw [b1, z_sbind, if_pos zn_p0]; rfl, fun f => ?_, b3⟩
        rw [show f + (Y.2.2.2.2 + 1 - j) = ((f + (Y.2.2.2.2 + 1 - (j2 + 1))) + 1) + (j2 - j) by omega, i2, tn, a2, z_sbind, b2]
      · right
        have jm4 := zg_jm b4
        have i5q := i5.2.2.1
        have i5g := i5.2.2.2
        have b5q := b5.2.2.1
        have b5g := b5.2.2.2
        have kr4 : zg_KR g d d r r4 := zg_KR_t (zg_KR_m i8 (Nat.le_refl g) (Nat.le_refl d) (show d ≤ d + 1 by omega)) (zg_KR_t kr3 (zg_KR_m b8 (show g2 ≤ g2 + 1 by omega) (Nat.le_refl d) (show d ≤ d + 1 by omega)) (Nat.le_refl _) (Nat.le_refl _) (Nat.le_refl _)) i6.2.1 (Nat.le_refl _) (Nat.le_refl _)
        refine ⟨j4, zg_pC Y.1.2.2 q4 (nI (20000 + zn_k (zp_t Y j2))) c4, r4, q4 + 1, g4, (fun f => zu_jn (zn_k (zp_t Y j2)) (φ f) (ψ f)), ?_, fun f => ?_, by omega, zg_V_pC b4, ⟨by unfold zg_pC; rw [z_sI_same], b5.2.1, by omega, by omega⟩, ⟨by omega, by omega, by omega, by omega⟩, zg_KC_t i7 (zg_KC_t kc3 (zg_KC_t b7 (zg_KC_p (show q4 ≤ q4 from Nat.le_refl _)) b6.1) (Nat.le_refl _)) i6.1, kr4, ⟨by omega, fun S' hS => ?_⟩, ⟨by omega, fun S' hS => ?_⟩, ⟨b11, Or.inr ?_⟩⟩
        · rw [b1, z_sbind, if_neg zn_p1]
          dsimp only
          rw [show (20000 : Int32) = nI 20000 from rfl, nI_add, zg_put b5.1 (by omega), z_sbind]
          show oe_readJoined_43_b (F' + 2) Y.1.2.2 (oe_rp (F' + 2) Y.1.2.2 D) (nI 1) (nI d) (1 : Int32) (oe_readJoined_43 (F' + 2) Y.1.2.2 (oe_rp (F' + 2) Y.1.2.2 D) (nI 1) (nI d) (1 : Int32) F') ((0 : Int32) + 1) _ = _
          unfold oe_readJoined_43_b
          rw [if_neg (by decide)]; rfl
        · rw [show f + (j4 - j) = ((f + (j4 - (j2 + 1))) + 1) + (j2 - j) by omega, i2, tn, a2, z_sbind, b2]
        · have e1 : ∀ i, i < q4 → (zg_pC Y.1.2.2 q4 (nI (20000 + zn_k (zp_t Y j2))) c4).1 (Y.1.2.2 + 1) i = c4.1 (Y.1.2.2 + 1) i := fun i hi => by unfold zg_pC; rw [z_sI_id (by omega), z_sI_k (by omega)]
          refine zu_cd_h (zu_cd_bin (i9.2 S' (fun i h1 h2 => ?_)) (b9.2 S' (fun i h1 h2 => ?_)) (by omega) (by omega) (by omega) ?_) (by omega)
          · rw [hS i h1 (by omega), e1 i (by omega), b7.1 i h2, kc3.1 i h2]
          · rw [hS i (by omega) (by omega), e1 i h2]
          · rw [hS q4 (by omega) (by omega)]; unfold zg_pC; rw [z_sI_id (by omega), z_sI_same]
        · have x1 : zq_S S' g g2 (6 - d) φ := i10.2 S' (fun i h1 h2 => by rw [hS i h1 (by omega), b8.1 _ (by omega), kr3.1 _ (by omega)])
          have y1 : zq_S S' (g2 + 1) g4 (6 - d) ψ := b10.2 S' (fun i h1 h2 => by rw [hS i (by omega) h2])
          have s1 : S' g2 = (if zn_k (zp_t Y j2) = 60 then nI 24 else nI 25) := by rw [hS g2 (by omega) (by omega), b8.1 _ (by omega), a5.1 16 (by omega), c16]
          rcases q1 with e | e
          · rw [if_pos e] at s1
            have := zq_T_cmp x1 (Or.inl rfl) s1 y1 b10.1
            rw [if_pos rfl] at this
            rw [e]; exact this
          · rw [if_neg (by omega)] at s1
            have := zq_T_cmp x1 (Or.inr rfl) s1 y1 b10.1
            rw [if_neg (by omega)] at this
            rw [e]; exact this
        · rw [b8.2.2.2 d (by omega), a5.1 18 (by omega), c18, Ne, z_eq (by omega) (by omega)]; omega
    · right
      rw [jo.2 q1, z_sbind, if_pos zn_p0]
      exact ⟨j2, c2, r2, q2, g2, φ, rfl, i2, i3, i4, i5, i6, i7, zg_KR_m i8 (Nat.le_refl _) (Nat.le_refl _) (by omega), ⟨i9.1, fun S' hS => zu_cd_h (i9.2 S' hS) (by omega)⟩, ⟨i10.1, fun S' hS => zq_T_S (i10.2 S' hS)⟩, ⟨i11, Or.inl q1⟩⟩
/-- E -/
theorem zg_L0 {Y : zp_S} {F d : Nat} (hF : 1100 < F) (hd : d ≤ 5) (h : zg_cP Y F d) : zg_cL Y F d 0 (5 + 4 * (5 - d)) d zq_E (zg_N0 d) := by
  refine zg_lev hF (by omega) (by omega) (by omega) (fun S a b φ x => zq_E_T x) (Nat.le_refl _) (zg_L1 hF hd h) (zg_loop (op := fun k => k = 11 ∨ k = 12) hF (by omega) (zg_jo 0 (by omega) _ (fun k => by omega)) (fun k hk => by omega) (by omega) (by omega) (fun j c r g hV h26 hg hk => ?_) (zg_L1 hF hd h) (Nat.le_refl _) (fun k r n q => ⟨n, q⟩))
  have hk : zn_k (zp_t Y j) = 11 ∨ zn_k (zp_t Y j) = 12 := hk
  have ha : zn_at (zp_t Y j) r := hV.2.1.2.2.2
  have tn := fun f => zg_n6 (F := F) (f := f) (d := d) hV.2.1.1 ha (zg_V_kd hV) (by omega) h26 hg hk
  refine ⟨_, tn, zg_V_18 (zg_V_pR hV) (Or.inr rfl), zg_KR_t (zg_KR_p (d := d) (e := d) (Nat.le_refl g)) (zg_KR_18 (g := g)) (Nat.le_refl _) (Nat.le_refl _) (Nat.le_refl _), by rw [z_sI_id (by omega)]; exact zg_pR_26, fun z => by rw [z_sI_same], fun S a b' φ ψ x hS y hb => ?_⟩
  rw [z_sI_id (by omega), zg_pR_16] at hS
  rcases hk with e | e
  · rw [if_pos e] at hS
    have := zq_E_and x (Or.inl rfl) hS y hb
    rw [if_pos rfl] at this
    rw [e]; exact this
  · rw [if_neg (by omega)] at hS
    have := zq_E_and x (Or.inr rfl) hS y hb
    rw [if_neg (by omega)] at this
    rw [e]; exact this
theorem zg_E0 {Y : zp_S} {F d : Nat} (hF : 1100 < F) (hd : d ≤ 5) (h : zg_cP Y F d) : zg_cE Y F d :=
  fun D j c r q g hD hV hp ho h18 => zg_L0 hF hd h D j c r q g (by omega) hV hp ho (fun _ => h18)
theorem zg_all {Y : zp_S} {F : Nat} (hF : 1100 < F) : ∀ n d, 5 - d = n → d ≤ 5 → zg_cP Y F d := by
  intro n
  induction n with
  | zero => intro d h1 h2; exact zg_part hF h2 (fun q => by omega) (fun q => by omega)
  | succ n ih => intro d h1 h2; exact zg_part hF h2 (fun q => ih (d + 1) (by omega) (by omega)) (fun q => zg_E0 hF (by omega) (ih (d + 1) (by omega) (by omega)))
/-- a line's E -/
theorem zg_line {Y : zp_S} {F : Nat} (hF : 1100 < F) : zg_cE Y F 0 := zg_E0 hF (by omega) (zg_all hF 5 0 (by omega) (by omega))
