/-! Layer 2: a PART is read by both -/
def zg_p (Y : zp_S) (j : Nat) (c r : g_St) (q g : Nat) : Prop := c.1 Y.1.2.2 2 = nI q ∧ r.1 0 26 = nI (1000 + g) ∧ q ≤ j ∧ g ≤ j
def zg_KC (bu q : Nat) (c c2 : g_St) : Prop := (∀ i, i < q → c2.1 (bu + 1) i = c.1 (bu + 1) i) ∧ c2.1 (bu + 2) = c.1 (bu + 2) ∧ c2.1 bu 3 = c.1 bu 3
def zg_KR (g d e : Nat) (r r2 : g_St) : Prop := (∀ i, i < 1000 + g → r2.1 16 i = r.1 16 i) ∧ (r2.1 14 = r.1 14 ∧ r2.1 15 = r.1 15) ∧ (∀ i, i ≤ d → r2.1 17 i = r.1 17 i) ∧ ∀ i, i < e → r2.1 18 i = r.1 18 i
theorem zg_KC_t {bu q q2 : Nat} {a b c : g_St} (h : zg_KC bu q a b) (h2 : zg_KC bu q2 b c) (hq : q ≤ q2) : zg_KC bu q a c := ⟨fun i hi => by rw [h2.1 i (by omega), h.1 i hi], by rw [h2.2.1, h.2.1], by rw [h2.2.2, h.2.2]⟩
theorem zg_KR_t {g g2 d d2 e e2 : Nat} {a b c : g_St} (h : zg_KR g d e a b) (h2 : zg_KR g2 d2 e2 b c) (hg : g ≤ g2) (hd : d ≤ d2) (he : e ≤ e2) : zg_KR g d e a c := ⟨fun i hi => by rw [h2.1 i (by omega), h.1 i hi], ⟨by rw [h2.2.1.1, h.2.1.1], by rw [h2.2.1.2, h.2.1.2]⟩, fun i hi => by rw [h2.2.2.1 i (by omega), h.2.2.1 i hi], fun i hi => by rw [h2.2.2.2 i (by omega), h.2.2.2 i hi]⟩
theorem zg_KR_m {g g2 d d2 e e2 : Nat} {a b : g_St} (h : zg_KR g2 d2 e2 a b) (hg : g ≤ g2) (hd : d ≤ d2) (he : e ≤ e2) : zg_KR g d e a b := ⟨fun i hi => h.1 i (by omega), h.2.1, fun i hi => h.2.2.1 i (by omega), fun i hi => h.2.2.2 i (by omega)⟩
theorem zg_KC_k {bu q : Nat} {a b : g_St} (h : zn_kC a b) (hb : 6 < bu) : zg_KC bu q a b := ⟨fun i _ => by rw [h.1 _ (by omega) (by omega) (by omega)], h.1 _ (by omega) (by omega) (by omega), by rw [h.1 _ (by omega) (by omega) (by omega)]⟩
theorem zg_KR_k {g d e : Nat} {a b : g_St} (h : zn_kR a b) : zg_KR g d e a b := ⟨fun i _ => by rw [h.1 _ (by omega)], ⟨h.1 _ (by omega), h.1 _ (by omega)⟩, fun i _ => by rw [h.1 _ (by omega)], fun i _ => by rw [h.1 _ (by omega)]⟩
theorem zg_KC_p {bu q q2 : Nat} {v : Int32} {c : g_St} (h : q ≤ q2) : zg_KC bu q c (zg_pC bu q2 v c) := by
  unfold zg_pC
  exact ⟨fun i hi => by rw [z_sI_id (by omega), z_sI_k (by omega)], by rw [z_sI_f (by omega), z_sI_f (by omega)], by rw [z_sI_k (by omega), z_sI_id (by omega)]⟩
theorem zg_KR_p {g g2 d e : Nat} {v : Int32} {r : g_St} (h : g ≤ g2) : zg_KR g d e r (zg_pR g2 v r) := by
  unfold zg_pR
  exact ⟨fun i hi => by rw [z_sI_id (by omega), z_sI_k (by omega)], ⟨by rw [z_sI_f (by omega), z_sI_f (by omega)], by rw [z_sI_f (by omega), z_sI_f (by omega)]⟩, fun i _ => by rw [z_sI_id (by omega), z_sI_id (by omega)], fun i _ => by rw [z_sI_id (by omega), z_sI_id (by omega)]⟩
/-- what was read: the class's code, the reference's -/
def zg_c (S : Nat → Int32) (a b h : Nat) (φ : (Nat → Int32) → Int32) : Prop := a ≤ b ∧ ∀ S' : Nat → Int32, (∀ i, a ≤ i → i < b → S' i = S i) → zu_cd S' a b h φ
def zg_r (Q : (Nat → Int32) → Nat → Nat → Nat → ((Nat → Int32) → Int32) → Prop) (S : Nat → Int32) (a b h : Nat) (φ : (Nat → Int32) → Int32) : Prop := a ≤ b ∧ ∀ S' : Nat → Int32, (∀ i, a ≤ i → i < b → S' i = S (1000 + i)) → Q S' a b h φ
theorem zg_c_k {S S2 : Nat → Int32} {a b h : Nat} {φ : (Nat → Int32) → Int32} (x : zg_c S a b h φ) (e : ∀ i, i < b → S2 i = S i) : zg_c S2 a b h φ := ⟨x.1, fun S' q => x.2 S' (fun i h1 h2 => by rw [q i h1 h2, e i h2])⟩
theorem zg_r_k {Q : (Nat → Int32) → Nat → Nat → Nat → ((Nat → Int32) → Int32) → Prop} {S S2 : Nat → Int32} {a b h : Nat} {φ : (Nat → Int32) → Int32} (x : zg_r Q S a b h φ) (e : ∀ i, i < 1000 + b → S2 i = S i) : zg_r Q S2 a b h φ := ⟨x.1, fun S' q => x.2 S' (fun i h1 h2 => by rw [q i h1 h2, e _ (by omega)])⟩
theorem zu_cd_h {S : Nat → Int32} {a b h h2 : Nat} {φ : (Nat → Int32) → Int32} (x : zu_cd S a b h φ) (q : h ≤ h2) : zu_cd S a b h2 φ :=
  ⟨x.1, fun F bu top e f μ h1 h3 h4 h5 => x.2 F bu top e f μ h1 h3 h4 (by omega)⟩
/-- what reading comes to -/
def zg_ok (Y : zp_S) (F d e0 e18 : Nat) (Q : (Nat → Int32) → Nat → Nat → Nat → ((Nat → Int32) → Int32) → Prop) (hC hR : Nat) (N : Nat → g_St → Prop) (w : Int32) (j q g a a' : Nat) (c r : g_St) (x : Option (Int32 × g_St)) : Prop :=
  (∃ c2 r2, x = some (nI 0, c2) ∧ (∀ f, mm_reads_11 F (f + (Y.2.2.2.2 + 1 - j)) (nI d) w r = some (nI 0, r2)) ∧ zg_E Y c2 r2) ∨
  (∃ j2 c2 r2 q2 g2 φ, x = some (nI 1, c2) ∧ (∀ f, mm_reads_11 F (f + (j2 - j)) (nI d) w r = mm_reads_11 F f (nI e0) (0 : Int32) r2) ∧ j ≤ j2 ∧ zg_V Y j2 c2 r2 ∧ zg_p Y j2 c2 r2 q2 g2 ∧ (q ≤ q2 ∧ g ≤ g2 ∧ q2 + j ≤ q + j2 ∧ g2 + j ≤ g + j2) ∧ zg_KC Y.1.2.2 q c c2 ∧ zg_KR g d e18 r r2 ∧ zg_c (c2.1 (Y.1.2.2 + 1)) a q2 hC φ ∧ zg_r Q (r2.1 16) a' g2 hR φ ∧ N (zn_k (zp_t Y j2)) r2)
def zg_cP (Y : zp_S) (F d : Nat) : Prop := ∀ (D j : Nat) (c r : g_St) (q g : Nat), 6 * (5 - d) + 1 ≤ D → zg_V Y j c r → zg_p Y j c r q g → zg_ok Y F d (zg_o r d) (d + 1) zq_P (1 + 4 * (5 - d)) (6 - d) (fun _ _ => True) (1 : Int32) j q g q g c r (oe_rp F Y.1.2.2 D false 0 (nI d) c)
def zg_N0 (d k : Nat) (r : g_St) : Prop := ((¬ (k = 42) ∧ ¬ (k = 43 ∨ k = 45)) ∧ (¬ (k = 60 ∨ k = 61) ∨ r.1 18 d ≠ nI 0)) ∧ ¬ (k = 11 ∨ k = 12)
def zg_cE (Y : zp_S) (F d : Nat) : Prop := ∀ (D j : Nat) (c r : g_St) (q g : Nat), 6 * (6 - d) ≤ D → zg_V Y j c r → zg_p Y j c r q g → zg_o r d = d → r.1 18 d = nI 0 → zg_ok Y F d d d zq_E (5 + 4 * (5 - d)) (6 - d) (zg_N0 d) (1 : Int32) j q g q g c r (oe_rp F Y.1.2.2 D true 0 (nI d) c)
theorem zg_n_lt {Y : zp_S} {j : Nat} {c r : g_St} (h : zg_V Y j c r) (hk : zn_k (zp_t Y j) ≠ 202) : zp_n Y j = j + 1 ∧ j < Y.2.2.2.2 := by
  have hj := h.1.2.2.1
  have he := h.1.2.1.2.2.2.1
  unfold zp_n zn_nx
  by_cases e : j < Y.2.2.2.2
  · rw [if_pos e]; exact ⟨rfl, e⟩
  · exfalso
    have : j = Y.2.2.2.2 := by omega
    unfold zp_t at hk
    rw [this, he] at hk
    exact hk rfl
theorem zg_jm {Y : zp_S} {j : Nat} {c r : g_St} (h : zg_V Y j c r) : j ≤ Y.2.2.2.2 ∧ Y.2.2.2.2 ≤ 1000 := by
  have := h.1.2.2.1
  have := h.1.2.1.2.2.2.2
  have := h.1.1.1
  omega
theorem zg_isFact {μ : g_St} {k : Nat} (hk : k < 204) : (zu_fx k → oe_isFact μ (nI k) = some (nI 1)) ∧ (¬ zu_fx k → oe_isFact μ (nI k) = some (nI 0)) := by
  unfold oe_isFact zu_fx
  simp (disch := omega) only [↓reduceIte, nI_lit, z_sbind, z_rd, z_rl, z_rr, z_wr, z_wl, nI_add, z_mul, z_lt, z_le, z_eq, z_ltm1, z_m1lt, z_eqm1, z_m1eq, z_lem1, z_m1le, if_true, if_false, ite_true, ite_false]
  constructor
  · intro h
    repeat' split
    all_goals first | rfl | omega
  · intro h
    repeat' split
    all_goals first | rfl | omega
/-- a fault at the first TOKEN -/
theorem zg_ok_bad {Y : zp_S} {F d e0 e18 : Nat} {Q : (Nat → Int32) → Nat → Nat → Nat → ((Nat → Int32) → Int32) → Prop} {hC hR : Nat} {N : Nat → g_St → Prop} {w : Int32} {j q g a a' v : Nat} {c r : g_St} {x : Option (Int32 × g_St)} (h : zg_V Y j c r) (hv : 0 < v ∧ v < 16) (hx : x = ot_wrong (nI v) c) (hy : ∀ f, mm_reads_11 F (f + 1) (nI d) w r = mm_fails (nI v) r) : zg_ok Y F d e0 e18 Q hC hR N w j q g a a' c r x := by
  left
  have jm := zg_jm h
  refine ⟨_, _, by rw [hx]; exact (zg_wr h v).1, fun f => ?_, zg_bad h hv⟩
  rw [show f + (Y.2.2.2.2 + 1 - j) = (f + (Y.2.2.2.2 - j)) + 1 by omega, hy, (zg_wr h v).2]
theorem zg_part {Y : zp_S} {F d : Nat} (hF : 1100 < F) (hd : d ≤ 5) (hP : d < 5 → zg_cP Y F (d + 1)) (hE : d < 5 → zg_cE Y F (d + 1)) : zg_cP Y F d := by
  intro D j c r q g hD h hp
  obtain ⟨D, rfl⟩ : ∃ D', D = D' + 1 := ⟨D - 1, by omega⟩
  obtain ⟨p1, p2, p3, p4⟩ := hp
  have hb := zg_b53 h.2.2.1
  have kd := zg_V_kd h
  have k4 := zn_kd_lt kd
  have jm := zg_jm h
  have h8 : c.1 1 8 = nI (zn_k (zp_t Y j)) := h.1.2.2.2.2.2.2.1
  have h9 : c.2.1 1 9 = zn_x (zp_t Y j) := h.1.2.2.2.2.2.2.2
  have ha : zn_at (zp_t Y j) r := h.2.1.2.2.2
  have hB := h.2.1.1
  have ne : ∀ i, i < 300 → zn_k (zp_t Y j) ≠ i → ¬ nI (zn_k (zp_t Y j)) = nI i := fun i hi q => by rw [z_eq (by omega) (by omega)]; exact q
  have fa : ∀ v : Nat, ((ot_wrong (nI v) c).bind fun q => some (q.1 &&& (1 : Int32), q.2)) = ot_wrong (nI v) c := by
    intro v
    rw [(zg_wr h v).1, z_sbind]
    show some (nI 0 &&& (1 : Int32), _) = _
    rw [zn_a0]
  have cl : oe_rp F Y.1.2.2 (D + 1) false 0 (nI d) c = oe_readPart_b F Y.1.2.2 (oe_rp F Y.1.2.2 D) (nI d) c := rfl
  rw [cl]
  unfold oe_readPart_b
  rw [h8]
  by_cases any : zg_pt (zn_k (zp_t Y j)) ∨ zn_k (zp_t Y j) = 13 ∨ zn_k (zp_t Y j) = 40
  · -- what may stand there
    have c49 : ∀ s0 : Int32, ((zn_k (zp_t Y j) = 201 → s0 = 1) ∧ (zn_k (zp_t Y j) ≠ 201 → s0 = 0)) → zg_ok Y F d (zg_o r d) (d + 1) zq_P (1 + 4 * (5 - d)) (6 - d) (fun _ _ => True) (1 : Int32) j q g q g c r (oe_readPart_49 F Y.1.2.2 (oe_rp F Y.1.2.2 D) (nI d) (nI (zn_k (zp_t Y j))) s0 c) := by
      intro s0 hs0
      unfold oe_readPart_49
      by_cases d5 : d = 5
      · subst d5
        refine zg_ok_bad (v := 5) h (by omega) ?_ (fun f => zg_w5 hB ha kd hF any)
        rw [if_pos (show (5 : Int32) ≤ nI 5 by decide)]
        exact fa 5
      · have d4 : d < 5 := by omega
        have nend : zn_k (zp_t Y j) ≠ 202 := by unfold zg_pt zu_fx at any; omega
        obtain ⟨nj, jlt⟩ := zg_n_lt h nend
        rw [if_neg (show ¬ (5 : Int32) ≤ nI d by show ¬ nI 5 ≤ nI d; rw [z_le (by omega) (by omega)]; omega)]
        by_cases pt : zg_pt (zn_k (zp_t Y j))
        · -- a NUMBER, a fact
          have n13 : ¬ zn_k (zp_t Y j) = 13 := by unfold zg_pt zu_fx at pt; omega
          have n40 : ¬ zn_k (zp_t Y j) = 40 := by unfold zg_pt zu_fx at pt; omega
          have turn := fun f => zg_w1 (F := F) (f := f) hB ha kd d4 p2 (show g < 1000 by omega) pt hF
          have hV2 := zg_V_pR (g := g) (v := if zn_k (zp_t Y j) = 201 then nI (100 + zn_n (zp_t Y j)) else nI (zg_fk (zn_k (zp_t Y j)))) h
          obtain ⟨c2, r2, a1, a2, a3, a4, a5⟩ := zg_adv hV2 hF
          rw [nj] at a3
          have q2 : c2.1 Y.1.2.2 2 = nI q := by rw [a4.1 _ (by omega) (by omega) (by omega)]; exact p1
          have g2 : r2.1 0 26 = nI (1000 + (g + 1)) := by
            rw [a5.2.1 26 (by omega) (by omega) (by omega) (by omega)]
            unfold zg_pR; rw [z_sI_same]
          have fin : ∀ (v : Int32) (φ : (Nat → Int32) → Int32), (∀ S : Nat → Int32, S q = v → zu_cd S q (q + 1) 1 φ) → (∀ S : Nat → Int32, S g = (if zn_k (zp_t Y j) = 201 then nI (100 + zn_n (zp_t Y j)) else nI (zg_fk (zn_k (zp_t Y j)))) → zq_P S g (g + 1) 0 φ) → zg_ok Y F d (zg_o r d) (d + 1) zq_P (1 + 4 * (5 - d)) (6 - d) (fun _ _ => True) (1 : Int32) j q g q g c r (oe_readPart_78 F Y.1.2.2 (oe_rp F Y.1.2.2 D) (nI d) (nI (zn_k (zp_t Y j))) v c) := by
            intro v φ e1 e2
            right
            refine ⟨j + 1, zg_pC Y.1.2.2 q v c2, r2, q + 1, g + 1, φ, ?_, fun f => ?_, by omega, zg_V_pC a3, ⟨?_, g2, by omega, by omega⟩, ⟨by omega, by omega, by omega, by omega⟩, zg_KC_t (zg_KC_k a4 (by omega)) (zg_KC_p (Nat.le_refl _)) (Nat.le_refl _), zg_KR_t (zg_KR_p (Nat.le_refl _)) (zg_KR_k a5) (Nat.le_refl _) (Nat.le_refl _) (Nat.le_refl _), ⟨by omega, fun S' hS => ?_⟩, ⟨by omega, fun S' hS => ?_⟩, trivial⟩
            · unfold oe_readPart_78
              rw [a1, z_sbind, if_neg (show ¬ nI _ = (40 : Int32) from ne 40 (by omega) n40), if_neg (show ¬ nI _ = (13 : Int32) from ne 13 (by omega) n13)]
              unfold oe_readPart_141
              rw [zg_put q2 (by omega), z_sbind]; rfl
            · rw [show f + (j + 1 - j) = f + 1 by omega, turn f, a2, z_sbind]
            · unfold zg_pC; rw [z_sI_same]
            · refine zu_cd_h (e1 S' ?_) (by omega)
              rw [hS q (by omega) (by omega)]; unfold zg_pC; rw [z_sI_id (by omega), z_sI_same]
            · refine zq_P_h (e2 S' ?_) (by omega)
              rw [hS g (by omega) (by omega), a5.1 16 (by omega)]; unfold zg_pR; rw [z_sI_id (by omega), z_sI_same]
          by_cases e : zn_k (zp_t Y j) = 201
          · have hn : zn_n (zp_t Y j) < 10000 ∧ zn_x (zp_t Y j) = iL (zn_n (zp_t Y j) : Nat) := by
              rcases kd with b | b | b | b | b
              · have := b.1; unfold zn_isw at this; omega
              · exact b.2
              · omega
              · omega
              · have := b.1; unfold zn_si at this; omega
            rw [hs0.1 e, if_neg (by decide), h9, hn.2, zy_back]
            refine fin _ _ (fun S hS => zu_cd_num hn.1 hS) (fun S hS => ?_)
            rw [if_pos e] at hS
            exact zq_P_num hn.1 hS
          · have fx : zu_fx (zn_k (zp_t Y j)) := pt.resolve_left e
            rw [hs0.2 e, if_pos (show (0 : Int32) = 0 from rfl), show (10000 : Int32) = nI 10000 from rfl, nI_add]
            refine fin _ _ (fun S hS => zu_cd_fact fx hS) (fun S hS => ?_)
            rw [if_neg e] at hS
            exact zq_P_fact (by have := zg_fk_lt (zn_k (zp_t Y j)); omega) (zg_fk_f fx) hS
        · -- not, (
          have e1340 : zn_k (zp_t Y j) = 13 ∨ zn_k (zp_t Y j) = 40 := any.resolve_left pt
          have turn := fun f => zg_w2 (F := F) (f := f) hB ha kd d4 p2 (show g < 1000 by omega) e1340 hF
          rw [hs0.2 (by omega), if_pos (show (0 : Int32) = 0 from rfl)]
          have hV2 := zg_V_18 (id := 18) (k := d + 1) (v := nI 0) (zg_V_18 (id := 17) (k := d + 1) (v := if zn_k (zp_t Y j) = 13 then nI 1 else nI 2) (zg_V_pR (g := g) (v := if zn_k (zp_t Y j) = 13 then nI 30 else nI 28) h) (Or.inl rfl)) (Or.inr rfl)
          obtain ⟨c2, r2, a1, a2, a3, a4, a5⟩ := zg_adv hV2 hF
          rw [nj] at a3
          have q2 : c2.1 Y.1.2.2 2 = nI q := by rw [a4.1 _ (by omega) (by omega) (by omega)]; exact p1
          have g2 : r2.1 0 26 = nI (1000 + (g + 1)) := by
            rw [a5.2.1 26 (by omega) (by omega) (by omega) (by omega), z_sI_id (by omega), z_sI_id (by omega)]
            unfold zg_pR; rw [z_sI_same]
          have r17 : r2.1 17 (d + 1) = (if zn_k (zp_t Y j) = 13 then nI 1 else nI 2) := by rw [a5.1 17 (by omega), z_sI_id (by omega), z_sI_same]
          have r18 : r2.1 18 (d + 1) = nI 0 := by rw [a5.1 18 (by omega), z_sI_same]
          have kr : zg_KR g d (d + 1) r r2 := by
            refine zg_KR_t (zg_KR_t (zg_KR_p (v := if zn_k (zp_t Y j) = 13 then nI 30 else nI 28) (Nat.le_refl g)) ?_ (Nat.le_refl _) (Nat.le_refl _) (Nat.le_refl _)) (zg_KR_k a5) (Nat.le_refl g) (Nat.le_refl d) (Nat.le_refl (d + 1))
            exact ⟨fun i _ => by rw [z_sI_id (by omega), z_sI_id (by omega)], ⟨by rw [z_sI_f (by omega), z_sI_f (by omega)], by rw [z_sI_f (by omega), z_sI_f (by omega)]⟩, fun i hi => by rw [z_sI_id (by omega), z_sI_k (by omega)], fun i hi => by rw [z_sI_k (by omega), z_sI_id (by omega)]⟩
          have kc : zg_KC Y.1.2.2 q c c2 := zg_KC_k a4 (by omega)
          have od : zg_o r2 d = zg_o r d := zg_o_c (fun i hi => kr.2.2.1 i hi)
          have code : r2.1 16 (1000 + g) = (if zn_k (zp_t Y j) = 13 then nI 30 else nI 28) := by
            rw [a5.1 16 (by omega), z_sI_id (by omega), z_sI_id (by omega)]; unfold zg_pR; rw [z_sI_id (by omega), z_sI_same]
          have pp2 : zg_p Y (j + 1) c2 r2 q (g + 1) := ⟨q2, g2, by omega, by omega⟩
          unfold oe_readPart_78
          rw [a1, z_sbind]
          by_cases e : zn_k (zp_t Y j) = 13
          · -- not
            rw [if_pos e] at r17 code
            have o1 : zg_o r2 (d + 1) = zg_o r d := by
              show (if r2.1 17 (d + 1) = nI 1 then zg_o r2 d else d + 1) = _
              rw [if_pos r17, od]
            rw [if_neg (show ¬ nI _ = (40 : Int32) from ne 40 (by omega) (by omega)), if_pos (show nI _ = (13 : Int32) by rw [e]; rfl), nI_1]
            have ih := hP d4 D (j + 1) c2 r2 q (g + 1) (by omega) a3 pp2
            rcases ih with ⟨c3, r3, i1, i2, i3⟩ | ⟨j2, c3, r3, q3, g3, φ, i1, i2, i3, i4, i5, i6, i7, i8, i9, i10, -⟩
            · left
              refine ⟨c3, r3, by rw [i1, z_sbind, if_pos zn_p0]; rfl, fun f => ?_, i3⟩
              rw [show f + (Y.2.2.2.2 + 1 - j) = (f + (Y.2.2.2.2 + 1 - (j + 1))) + 1 by omega, turn, a2, z_sbind, i2]
            · right
              rw [o1] at i2
              have jm2 := zg_jm i4
              refine ⟨j2, zg_pC Y.1.2.2 q3 (20013 : Int32) c3, r3, q3 + 1, g3, (fun f => zq_nt (φ f)), ?_, fun f => ?_, by omega, zg_V_pC i4, ⟨?_, i5.2.1, by omega, by omega⟩, ⟨by omega, by omega, by omega, by omega⟩, zg_KC_t kc (zg_KC_t i7 (zg_KC_p (show q3 ≤ q3 from Nat.le_refl _)) (by omega)) (Nat.le_refl _), zg_KR_t kr i8 (by omega) (by omega) (by omega), ⟨by omega, fun S' hS => ?_⟩, ⟨by omega, fun S' hS => ?_⟩, trivial⟩
              · rw [i1, z_sbind, if_neg zn_p1]
                unfold oe_readPart_141
                dsimp only
                rw [zg_put i5.1 (by omega), z_sbind]; rfl
              · rw [show f + (j2 - j) = (f + (j2 - (j + 1))) + 1 by omega, turn, a2, z_sbind, i2]
              · unfold zg_pC; rw [z_sI_same]
              · refine zu_cd_not (zu_cd_h (i9.2 S' (fun i h1 h2 => ?_)) (by omega)) (by omega) ?_
                · rw [hS i h1 (by omega)]; unfold zg_pC; rw [z_sI_id (by omega), z_sI_k (by omega)]
                · rw [hS q3 (by omega) (by omega)]; unfold zg_pC; rw [z_sI_id (by omega), z_sI_same]; rfl
              · rw [show 6 - d = (6 - (d + 1)) + 1 by omega]
                refine zq_P_not ?_ (i10.2 S' (fun i h1 h2 => ?_)) i10.1
                · rw [hS g (by omega) (by omega), i8.1 _ (by omega)]; exact code
                · rw [hS i (by omega) h2]
          · -- ( E )
            have e40 : zn_k (zp_t Y j) = 40 := by omega
            rw [if_neg e] at r17 code
            have o1 : zg_o r2 (d + 1) = d + 1 := by
              show (if r2.1 17 (d + 1) = nI 1 then zg_o r2 d else d + 1) = _
              rw [if_neg (by rw [r17, z_eq (by omega) (by omega)]; omega)]
            rw [if_pos (show nI _ = (40 : Int32) by rw [e40]; rfl), nI_1]
            have ih := hE d4 D (j + 1) c2 r2 q (g + 1) (by omega) a3 pp2 o1 r18
            rcases ih with ⟨c3, r3, i1, i2, i3⟩ | ⟨j2, c3, r3, q3, g3, φ, i1, i2, i3, i4, i5, i6, i7, i8, i9, i10, ⟨⟨⟨n42, n43⟩, n60⟩, n11⟩⟩
            · left
              refine ⟨c3, r3, by rw [i1, z_sbind, if_pos zn_p0]; rfl, fun f => ?_, i3⟩
              rw [show f + (Y.2.2.2.2 + 1 - j) = (f + (Y.2.2.2.2 + 1 - (j + 1))) + 1 by omega, turn, a2, z_sbind, i2]
            · have jm2 := zg_jm i4
              have kd2 := zg_V_kd i4
              have k42 := zn_kd_lt kd2
              have h82 : c3.1 1 8 = nI (zn_k (zp_t Y j2)) := i4.1.2.2.2.2.2.2.1
              have ha2 : zn_at (zp_t Y j2) r3 := i4.2.1.2.2.2
              rw [i1, z_sbind, if_neg zn_p1]
              unfold ot_take
              dsimp only
              rw [h82]
              by_cases e41 : zn_k (zp_t Y j2) = 41
              · obtain ⟨nj2, j2lt⟩ := zg_n_lt i4 (by omega)
                have turn2 := fun f => zg_n7 (F := F) (f := f) (d := d) i4.2.1.1 ha2 kd2 (by omega) i5.2.1 (show g3 < 1000 by omega) e41 hF
                obtain ⟨c4, r4, b1, b2, b3, b4, b5⟩ := zg_adv (zg_V_pR (g := g3) (v := nI 29) i4) hF
                rw [nj2] at b3
                have od3 : zg_o r3 d = zg_o r d := by
                  rw [← od]; exact zg_o_c (fun i hi => i8.2.2.1 i (by omega))
                right
                rw [if_pos (show nI _ = (41 : Int32) by rw [e41]; rfl), b1, z_sbind, z_sbind, if_neg (show ¬ (1 : Int32) = 0 by decide)]
                refine ⟨j2 + 1, c4, r4, q3, g3 + 1, φ, rfl, fun f => ?_, by omega, b3, ⟨?_, ?_, by omega, by omega⟩, ⟨by omega, by omega, by omega, by omega⟩, zg_KC_t kc (zg_KC_t i7 (zg_KC_k (q := q3) b4 (by omega)) (by omega)) (Nat.le_refl _), zg_KR_t kr (zg_KR_t (zg_KR_m i8 (show g + 1 ≤ g + 1 from Nat.le_refl _) (show d ≤ d + 1 by omega) (show d + 1 ≤ d + 1 by omega)) (zg_KR_t (zg_KR_p (v := nI 29) (Nat.le_refl g3)) (zg_KR_k b5) (Nat.le_refl _) (Nat.le_refl d) (Nat.le_refl (d + 1))) (by omega) (Nat.le_refl _) (Nat.le_refl _)) (by omega) (Nat.le_refl _) (Nat.le_refl _), ⟨by omega, fun S' hS => ?_⟩, ⟨by omega, fun S' hS => ?_⟩, trivial⟩
                · rw [show f + (j2 + 1 - j) = ((f + 1) + (j2 - (j + 1))) + 1 by omega, turn, a2, z_sbind, i2, turn2, b2, z_sbind, od3]
                · rw [b4.1 _ (by omega) (by omega) (by omega)]; exact i5.1
                · rw [b5.2.1 26 (by omega) (by omega) (by omega) (by omega)]; unfold zg_pR; rw [z_sI_same]
                · rw [show 1 + 4 * (5 - d) = 5 + 4 * (5 - (d + 1)) by omega]
                  exact i9.2 S' (fun i h1 h2 => by rw [hS i h1 h2, b4.1 _ (by omega) (by omega) (by omega)])
                · rw [show 6 - d = (6 - (d + 1)) + 1 by omega]
                  refine zq_P_par ?_ (i10.2 S' (fun i h1 h2 => ?_)) i10.1 ?_
                  · rw [hS g (by omega) (by omega), b5.1 16 (by omega)]; unfold zg_pR; rw [z_sI_id (by omega), z_sI_k (by omega), i8.1 _ (by omega)]; exact code
                  · rw [hS i (by omega) (by omega), b5.1 16 (by omega)]; unfold zg_pR; rw [z_sI_id (by omega), z_sI_k (by omega)]
                  · rw [hS g3 (by omega) (by omega), b5.1 16 (by omega)]; unfold zg_pR; rw [z_sI_id (by omega), z_sI_same]
              · left
                have w1 := zg_wr i4 1
                rw [if_neg (show ¬ nI _ = (41 : Int32) by show ¬ nI _ = nI 41; rw [z_eq (by omega) (by omega)]; exact e41), show ot_wrong (1 : Int32) c3 = _ from w1.1, z_sbind, z_sbind]
                refine ⟨_, _, ?_, fun f => ?_, zg_bad (f := 1) i4 (by omega)⟩
                · show (if nI 0 &&& (1 : Int32) = 0 then _ else _) = _
                  rw [zn_a0, if_pos zn_p0]; rfl
                · rw [show f + (Y.2.2.2.2 + 1 - j) = (((f + (Y.2.2.2.2 - j2)) + 1) + (j2 - (j + 1))) + 1 by omega, turn, a2, z_sbind, i2, zg_n9 i4.2.1.1 ha2 kd2 (by omega) (by omega) n60 n11 (by omega) (by omega)]
                  exact w1.2
    unfold oe_readPart_17
    by_cases e : zn_k (zp_t Y j) = 201
    · rw [if_pos (show nI _ = (201 : Int32) by rw [e]; rfl), if_neg (by decide)]
      exact c49 1 ⟨fun _ => rfl, fun q => absurd e q⟩
    · have z := c49 0 ⟨fun q => absurd q e, fun _ => rfl⟩
      rw [if_neg (show ¬ nI _ = (201 : Int32) from ne 201 (by omega) e), if_pos (show (0 : Int32) = 0 from rfl)]
      by_cases fx : zu_fx (zn_k (zp_t Y j))
      · rw [(zg_isFact k4).1 fx, z_sbind, if_neg zn_p1]; exact z
      · rw [(zg_isFact k4).2 fx, z_sbind, if_pos zn_p0]
        by_cases e13 : zn_k (zp_t Y j) = 13
        · rw [if_pos (show nI _ = (13 : Int32) by rw [e13]; rfl)]; exact z
        · rw [if_neg (show ¬ nI _ = (13 : Int32) from ne 13 (by omega) e13), if_pos (show nI (zn_k (zp_t Y j)) = (40 : Int32) by rw [((any.resolve_left (fun q => q.elim e fx)).resolve_left e13)]; rfl)]; exact z
  · -- it can't stand there
    have e : ¬ zn_k (zp_t Y j) = 201 := fun q => any (Or.inl (Or.inl q))
    have fx : ¬ zu_fx (zn_k (zp_t Y j)) := fun q => any (Or.inl (Or.inr q))
    refine zg_ok_bad (v := 1) h (by omega) ?_ (fun f => zg_w3 hB ha kd (by omega) hF any)
    unfold oe_readPart_17
    rw [if_neg (show ¬ nI _ = (201 : Int32) from ne 201 (by omega) e), if_pos (show (0 : Int32) = 0 from rfl), (zg_isFact k4).2 fx, z_sbind, if_pos zn_p0, if_neg (show ¬ nI _ = (13 : Int32) from ne 13 (by omega) (fun q => any (Or.inr (Or.inl q)))), if_neg (show ¬ nI _ = (40 : Int32) from ne 40 (by omega) (fun q => any (Or.inr (Or.inr q))))]
    exact fa 1
