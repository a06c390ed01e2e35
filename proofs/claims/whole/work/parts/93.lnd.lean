/-! Layer 2: both programs read a LAND: what holds meanwhile -/
abbrev zp_T : Type := zl_T × (Nat → List Nat) × (Nat → List Nat) × (Nat → List Nat)
def zp_cn (bl : Nat) (L : zl_T) (c r : g_St) : Prop := (c.1 bl 0 = nI (zl_pl L) ∧ c.1 bl 1 = nI (zl_gd L) ∧ c.1 bl 2 = nI (zl_pp L)) ∧ (r.1 2 1 = nI (zl_pl L) ∧ r.1 3 1 = nI (zl_gd L) ∧ r.1 4 1 = nI (zl_pp L)) ∧ zl_pl L ≤ 5 ∧ zl_gd L ≤ 6 ∧ zl_pp L ≤ 8
def zp_N (a b o cnt : Nat) (N : Nat → List Nat) (c r : g_St) : Prop := ∀ i, i < cnt → zn_dg (N i) ∧ (N i).length ≤ 8 ∧ c.2.1 a i = iL (ze 32 (N i) : Nat) ∧ r.2.1 b (o + i) = iL (ze 27 (N i) : Nat)
def zp_wy (bl : Nat) (L : zl_T) (c r : g_St) : Prop := ∀ x y, x < 5 → y < 5 → zl_wy L x y ≤ 999 ∧ c.1 (bl + 5 + x) y = nI (zl_wy L x y) ∧ r.1 8 (25 + 5 * x + y) = nI (zl_wy L x y) ∧ (zl_pl L ≤ x ∨ zl_pl L ≤ y ∨ x = y → zl_wy L x y = if x = y then 0 else 999)
def zp_gd (bl : Nat) (L : zl_T) (c r : g_St) : Prop := ∀ g, g < zl_gd L → (zl_hr L g ≤ 24 ∧ zl_fr L g < 2 ^ g) ∧ c.1 (bl + 10) g = nI (zl_hr L g) ∧ c.1 (bl + 11) g = nI (zl_fr L g) ∧ r.1 9 (6 + g) = nI (zl_hr L g) ∧ r.1 10 (6 + g) = nI (zl_fr L g)
def zp_pp (bl : Nat) (L : zl_T) (c r : g_St) : Prop := ∀ p, p < zl_pp L → (zl_hm L p < zl_pl L ∧ zl_mk L p < 2 ^ zl_gd L) ∧ (c.1 (bl + 12) p = nI (zl_hm L p) ∧ c.1 (bl + 13) p = nI (zl_mk L p) ∧ r.1 11 (8 + p) = nI (zl_hm L p) ∧ r.1 12 (8 + p) = nI (zl_mk L p)) ∧ ∀ j, j < 18 → zl_wo L p j ≤ 999 ∧ c.1 (bl + 15 + p) j = nI (zl_wo L p j) ∧ r.1 13 (18 * (8 + p) + j) = nI (zl_wo L p j)
def zp_z (bl : Nat) (L : zl_T) (c : g_St) : Prop := ∀ p, zl_pp L ≤ p → p < 8 → ∀ j, j < 18 → c.1 (bl + 15 + p) j = nI (zl_wo L p j) ∧ (zl_pp L < p → zl_wo L p j = 0)
def zp_z0 (P : zp_T) : Prop := zl_pp P.1 < 8 → ∀ j, j < 18 → zl_wo P.1 (zl_pp P.1) j = 0
def zp_L (bl : Nat) (P : zp_T) (c r : g_St) : Prop := zp_cn bl P.1 c r ∧ (zp_N (bl + 1) 5 5 (zl_pl P.1) P.2.1 c r ∧ zp_N (bl + 2) 6 6 (zl_gd P.1) P.2.2.1 c r ∧ zp_N (bl + 3) 7 8 (zl_pp P.1) P.2.2.2 c r) ∧ zp_wy bl P.1 c r ∧ zp_gd bl P.1 c r ∧ zp_pp bl P.1 c r ∧ zp_z bl P.1 c
def zp_FC (c0 : g_St) (bl : Nat) (c : g_St) : Prop := (∀ id, (id = 0 ∨ 6 < id) → (id < bl ∨ bl + 23 ≤ id) → c.1 id = c0.1 id) ∧ (∀ id, 6 < id → (id < bl ∨ bl + 23 ≤ id) → c.2.1 id = c0.2.1 id) ∧ c.2.2 = c0.2.2 ∧ c.1 1 2 = c0.1 1 2 ∧ c.2.1 2 = c0.2.1 2
def zp_FR (r0 r : g_St) : Prop := (∀ id, (id = 1 ∨ 13 < id) → r.1 id = r0.1 id) ∧ (r.1 2 0 = r0.1 2 0 ∧ r.1 3 0 = r0.1 3 0 ∧ r.1 4 0 = r0.1 4 0) ∧ (∀ k, k < 25 → r.1 8 k = r0.1 8 k) ∧ (∀ k, k < 6 → r.1 9 k = r0.1 9 k ∧ r.1 10 k = r0.1 10 k) ∧ (∀ k, k < 8 → r.1 11 k = r0.1 11 k ∧ r.1 12 k = r0.1 12 k) ∧ (∀ k, k < 144 → r.1 13 k = r0.1 13 k) ∧ ∀ k, (k < 3 ∨ 9 < k) → r.1 0 k = r0.1 0 k
/-- where a reading stands -/
abbrev zp_S : Type := (g_St × g_St × Nat) × (Nat × (Nat → Nat) × (Nat → zn_K) × Nat)
def zp_V (Y : zp_S) (j : Nat) (c r : g_St) : Prop := zn_C Y.2.1 Y.2.2.1 Y.2.2.2.1 Y.2.2.2.2 j c ∧ zn_R Y.2.1 Y.2.2.1 Y.2.2.2.1 Y.2.2.2.2 j r ∧ g_isLand Y.1.2.2 ∧ (∃ k, k ≤ 5 ∧ c.1 Y.1.2.2 0 = nI k ∧ c.1 1 10 = nI 0) ∧ zp_FC Y.1.1 Y.1.2.2 c ∧ zp_FR Y.1.2.1 r
def zp_t (Y : zp_S) (j : Nat) : zn_K := Y.2.2.2.1 j
def zp_n (Y : zp_S) (j : Nat) : Nat := zn_nx Y.2.2.2.2 j
def zp_E (Y : zp_S) (c r : g_St) : Prop := (∃ f, 0 < f ∧ f < 100000 ∧ c.1 1 10 = nI f ∧ r.1 0 9 = nI f) ∧ zp_FC Y.1.1 Y.1.2.2 c ∧ zp_FR Y.1.2.1 r ∧ ∃ k, k ≤ 5 ∧ c.1 Y.1.2.2 0 = nI k
theorem zp_b7 {b : Nat} (h : g_isLand b) : b = 7 ∨ b = 30 := h
/-- what of the states a reading's step keeps -/
theorem zp_L_k {bl : Nat} {P : zp_T} {c r c2 r2 : g_St} (h : zp_L bl P c r) (hb : 6 < bl) (hc : ∀ id, 6 < id → c2.1 id = c.1 id ∧ c2.2.1 id = c.2.1 id) (hr : ∀ id, 1 < id → r2.1 id = r.1 id ∧ r2.2.1 id = r.2.1 id) : zp_L bl P c2 r2 := by
  obtain ⟨h1, ⟨n1, n2, n3⟩, h3, h4, h5, h6⟩ := h
  refine ⟨?_, ⟨?_, ?_, ?_⟩, ?_, ?_, ?_, ?_⟩
  · unfold zp_cn at *; rw [(hc bl hb).1, (hr 2 (by omega)).1, (hr 3 (by omega)).1, (hr 4 (by omega)).1]; exact h1
  · unfold zp_N at *; rw [(hc (bl + 1) (by omega)).2, (hr 5 (by omega)).2]; exact n1
  · unfold zp_N at *; rw [(hc (bl + 2) (by omega)).2, (hr 6 (by omega)).2]; exact n2
  · unfold zp_N at *; rw [(hc (bl + 3) (by omega)).2, (hr 7 (by omega)).2]; exact n3
  · intro x y hx hy; rw [(hc (bl + 5 + x) (by omega)).1, (hr 8 (by omega)).1]; exact h3 x y hx hy
  · intro g hg; rw [(hc (bl + 10) (by omega)).1, (hc (bl + 11) (by omega)).1, (hr 9 (by omega)).1, (hr 10 (by omega)).1]; exact h4 g hg
  · intro p hp; rw [(hc (bl + 12) (by omega)).1, (hc (bl + 13) (by omega)).1, (hc (bl + 15 + p) (by omega)).1, (hr 11 (by omega)).1, (hr 12 (by omega)).1, (hr 13 (by omega)).1]; exact h5 p hp
  · intro p q1 q2 j hj; rw [(hc (bl + 15 + p) (by omega)).1]; exact h6 p q1 q2 j hj
theorem zp_FC_k {c0 c c2 : g_St} {bl : Nat} (h : zp_FC c0 bl c) (hk : zn_kC c c2) (hb : 6 < bl) : zp_FC c0 bl c2 :=
  ⟨fun id q1 q2 => by rw [hk.1 id (by omega) (by omega) (by omega)]; exact h.1 id q1 q2, fun id q1 q2 => by rw [hk.2.2.1 id (by omega) (by omega)]; exact h.2.1 id q1 q2, by rw [hk.2.2.2]; exact h.2.2.1, by rw [hk.2.1 2 (by omega)]; exact h.2.2.2.1, by rw [hk.2.2.1 2 (by omega) (by omega)]; exact h.2.2.2.2⟩
theorem zp_FR_k {r0 r r2 : g_St} (h : zp_FR r0 r) (h1 : ∀ id, id ≠ 0 → r2.1 id = r.1 id) (h0 : ∀ k, (k < 3 ∨ 9 < k) → r2.1 0 k = r.1 0 k) : zp_FR r0 r2 := by
  unfold zp_FR at *
  rw [h1 2 (by omega), h1 3 (by omega), h1 4 (by omega), h1 8 (by omega), h1 9 (by omega), h1 10 (by omega), h1 11 (by omega), h1 12 (by omega), h1 13 (by omega)]
  exact ⟨fun id q => by rw [h1 id (by omega)]; exact h.1 id q, h.2.1, h.2.2.1, h.2.2.2.1, h.2.2.2.2.1, h.2.2.2.2.2.1, fun k q => by rw [h0 k q]; exact h.2.2.2.2.2.2 k q⟩
theorem zp_V_kd {Y : zp_S} {j : Nat} {c r : g_St} (h : zp_V Y j c r) : zn_kd Y.2.1 Y.2.2.1 (zp_t Y j) := zn_C_kd h.1
theorem zp_L_k2 {bl : Nat} {P : zp_T} {c r c2 r2 : g_St} (h : zp_L bl P c r) (hb : 6 < bl) (hc : zn_kC c c2) (hr : zn_kR r r2) : zp_L bl P c2 r2 :=
  zp_L_k h hb (fun id q => ⟨hc.1 id (by omega) (by omega) (by omega), hc.2.2.1 id (by omega) (by omega)⟩) (fun id q => ⟨hr.1 id (by omega), hr.2.2.1 id (by omega)⟩)
/-- both go on -/
theorem zp_adv {Y : zp_S} {j F : Nat} {c r : g_St} (h : zp_V Y j c r) (hF : 1100 < F) : ∃ c2 r2, ot_advance c = some c2 ∧ mm_nextToken F r = some r2 ∧ zp_V Y (zp_n Y j) c2 r2 ∧ zn_kC c c2 ∧ zn_kR r r2 := by
  obtain ⟨h1, h2, h3, ⟨k, k1, k2, k10⟩, h5, h6⟩ := h
  have hb := zp_b7 h3
  obtain ⟨c2, a1, a2, a3⟩ := zn_C_adv h1
  obtain ⟨r2, b1, b2, b3⟩ := zn_R_nx h2 hF
  exact ⟨c2, r2, a1, b1, ⟨a2, b2, h3, ⟨k, k1, by rw [a3.1 _ (by omega) (by omega) (by omega)]; exact k2, by rw [a3.2.1 10 (by omega)]; exact k10⟩, zp_FC_k h5 a3 (by omega), zp_FR_k h6 b3.1 (fun k q => b3.2.1 k (by omega) (by omega) (by omega) (by omega))⟩, a3, b3⟩
/-- both find a FAULT -/
theorem zp_bad {Y : zp_S} {j f : Nat} {c r : g_St} (h : zp_V Y j c r) (hf : 0 < f ∧ f < 16) : zp_E Y (g_sI c 1 10 (zn_ft f (zn_b (zp_t Y j)))) (g_sI r 0 9 (zn_ft f (zn_b (zp_t Y j)))) := by
  obtain ⟨h1, h2, h3, ⟨k, k1, k2, k10⟩, h5, h6⟩ := h
  have hb := zp_b7 h3
  have hbn : zn_b (zp_t Y j) ≤ 1000 := by
    have := h1.1.1
    rcases zn_ok_t h1.2.1 h1.2.2.1 with q | q
    · have := q.1; unfold zp_t; omega
    · unfold zp_t; rw [q]; show Y.2.1 ≤ 1000; omega
  refine ⟨⟨f + 16 * zn_b (zp_t Y j), by omega, by omega, by rw [z_sI_same]; rfl, by rw [z_sI_same]; rfl⟩, ?_, ?_, k, k1, by rw [z_sI_id (by omega)]; exact k2⟩
  · exact ⟨fun id q1 q2 => by rw [z_sI_f (by omega)]; exact h5.1 id q1 q2, h5.2.1, h5.2.2.1, by rw [z_sI_k (by omega)]; exact h5.2.2.2.1, h5.2.2.2.2⟩
  · exact zp_FR_k h6 (fun id q => z_sI_f q) (fun k q => z_sI_k (by omega))
theorem zp_wr {Y : zp_S} {j : Nat} {c r : g_St} (h : zp_V Y j c r) (f : Nat) : ot_wrong (nI f) c = some (nI 0, g_sI c 1 10 (zn_ft f (zn_b (zp_t Y j)))) ∧ mm_fails (nI f) r = some (nI 0, g_sI r 0 9 (zn_ft f (zn_b (zp_t Y j)))) := ⟨zn_wrong h.1, zn_fails h.2.1.2.2.2⟩
/-- both answer alike -/
def zp_q (Y : zp_S) (x y : Option (Int32 × g_St)) (Q : g_St → g_St → Prop) : Prop := ∃ v c2 r2, x = some (v, c2) ∧ y = some (v, r2) ∧ ((v = nI 1 ∧ Q c2 r2) ∨ (v = nI 0 ∧ zp_E Y c2 r2))
theorem zp_q_and {Y : zp_S} {x y : Option (Int32 × g_St)} {Q : g_St → g_St → Prop} (h : zp_q Y x y Q) : zp_q Y (x.bind fun q => some (q.1 &&& 1, q.2)) y Q := by
  obtain ⟨v, c2, r2, h1, h2, h3⟩ := h
  refine ⟨v, c2, r2, ?_, h2, h3⟩
  rw [h1, z_sbind]
  show some (v &&& (1 : Int32), c2) = _
  rcases h3 with ⟨e, -⟩ | ⟨e, -⟩
  · rw [e, zn_a1]
  · rw [e, zn_a0]
theorem zp_q_and2 {Y : zp_S} {x y : Option (Int32 × g_St)} {Q : g_St → g_St → Prop} (h : zp_q Y x y Q) : zp_q Y x (y.bind fun q => some (q.1 &&& 1, q.2)) Q := by
  obtain ⟨v, c2, r2, h1, h2, h3⟩ := h
  refine ⟨v, c2, r2, h1, ?_, h3⟩
  rw [h2, z_sbind]
  show some (v &&& (1 : Int32), r2) = _
  rcases h3 with ⟨e, -⟩ | ⟨e, -⟩
  · rw [e, zn_a1]
  · rw [e, zn_a0]
theorem zp_q_bad {Y : zp_S} {j f : Nat} {c r : g_St} {Q : g_St → g_St → Prop} (h : zp_V Y j c r) (hf : 0 < f ∧ f < 16) : zp_q Y (ot_wrong (nI f) c) (mm_fails (nI f) r) Q :=
  ⟨_, _, _, (zp_wr h f).1, (zp_wr h f).2, Or.inr ⟨rfl, zp_bad h hf⟩⟩
/-- a word or a sign that must stand there -/
theorem zp_word {Y : zp_S} {j F i : Nat} {c r : g_St} (h : zp_V Y j c r) (hi : i < 20) (hF : 1100 < F) : zp_q Y (ot_take (nI i) c) (mm_needsWord F (zn_wd27 i) r) (fun c2 r2 => zp_V Y (zp_n Y j) c2 r2 ∧ zn_kC c c2 ∧ zn_kR r r2) := by
  have k := zp_V_kd h
  have k4 := zn_kd_lt k
  have h8 : c.1 1 8 = nI (zn_k (zp_t Y j)) := h.1.2.2.2.2.2.2.1
  have ha : zn_at (zp_t Y j) r := h.2.1.2.2.2
  unfold ot_take mm_needsWord
  rw [zn_isWord ha k hi, z_sbind, h8]
  by_cases e : zn_k (zp_t Y j) = i
  · obtain ⟨c2, r2, a1, a2, a3, a4, a5⟩ := zp_adv h hF
    rw [if_pos (by rw [e]), a1, z_sbind, if_pos e, if_neg (by decide), a2, z_sbind]
    exact ⟨_, c2, r2, rfl, rfl, Or.inl ⟨rfl, a3, a4, a5⟩⟩
  · rw [if_neg (show ¬ nI _ = nI i by rw [z_eq (by omega) (by omega)]; exact e), if_neg e, if_pos (by rfl), show (1 : Int32) = nI 1 from rfl]
    exact zp_q_and2 (zp_q_and (zp_q_bad h (by omega)))
theorem zp_ends {Y : zp_S} {j F : Nat} {c r : g_St} (h : zp_V Y j c r) (hF : 1100 < F) : zp_q Y (ot_take (59 : Int32) c) (mm_ends F r) (fun c2 r2 => zp_V Y (zp_n Y j) c2 r2 ∧ zn_kC c c2 ∧ zn_kR r r2) := by
  have k := zp_V_kd h
  have k4 := zn_kd_lt k
  have h8 : c.1 1 8 = nI (zn_k (zp_t Y j)) := h.1.2.2.2.2.2.2.1
  have ha : zn_at (zp_t Y j) r := h.2.1.2.2.2
  unfold ot_take mm_ends
  rw [show (59 : Int32) = nI 59 from rfl, zn_isSign h.2.1.1 ha k (by unfold zn_si; omega), z_sbind, h8]
  by_cases e : zn_k (zp_t Y j) = 59
  · obtain ⟨c2, r2, a1, a2, a3, a4, a5⟩ := zp_adv h hF
    rw [if_pos (by rw [e]), a1, z_sbind, if_pos e, if_neg (by decide), a2, z_sbind]
    exact ⟨_, c2, r2, rfl, rfl, Or.inl ⟨rfl, a3, a4, a5⟩⟩
  · rw [if_neg (show ¬ nI _ = nI 59 by rw [z_eq (by omega) (by omega)]; exact e), if_neg e, if_pos (by rfl), show (1 : Int32) = nI 1 from rfl]
    exact zp_q_and2 (zp_q_and (zp_q_bad h (by omega)))
/-- names looked up -/
def zp_fi (N : Nat → List Nat) (u : List Nat) (cnt : Nat) : Nat := zn_fi (fun i => decide (N i = u)) cnt
theorem zp_idx {F a b o na cnt : Nat} {N : Nat → List Nat} {c r : g_St} {u : List Nat} (h : zp_N a b o cnt N c r) (hu : zn_dg u) (h8 : u.length ≤ 8) (hc : cnt ≤ na) (hn : na < 100000) (hF : cnt < F) : oo_indexIn F a na c (nI cnt) (iL (ze 32 u : Nat)) = some (zE (zp_fi N u cnt)) := by
  rw [zn_indexIn hc hn hF]
  unfold zp_fi
  congr 2
  refine zn_fi_c (fun i hi => ?_)
  obtain ⟨q1, q2, q3, q4⟩ := h i hi
  rw [q3]
  have h1 := ze_lt8 (k := 32) (u := u) (by omega) hu h8
  have h2 := ze_lt8 (k := 32) (u := N i) (by omega) q1 q2
  exact decide_eq_decide.2 ⟨fun q => ze_inj (by omega) _ _ q1 hu (iL_inj (by omega) (by omega) q), fun q => by rw [q]⟩
theorem zp_eq27 {a b o cnt i : Nat} {N : Nat → List Nat} {c r : g_St} {u : List Nat} (h : zp_N a b o cnt N c r) (hu : zn_dg u) (h8 : u.length ≤ 8) (hi : i < cnt) : (r.2.1 b (o + i) = iL (ze 27 u : Nat)) = (N i = u) := by
  obtain ⟨q1, q2, q3, q4⟩ := h i hi
  rw [q4]
  have h1 := ze_lt8 (k := 27) (u := u) (by omega) hu h8
  have h2 := ze_lt8 (k := 27) (u := N i) (by omega) q1 q2
  exact propext ⟨fun q => ze_inj (by omega) _ _ q1 hu (iL_inj (by omega) (by omega) q), fun q => by rw [q]⟩
theorem zp_fi_step {N : Nat → List Nat} {u : List Nat} {i cnt : Nat} (hi : i < cnt) (h0 : zp_fi N u i = 0) : (N i = u → zp_fi N u cnt = i + 1) ∧ (¬ N i = u → zp_fi N u (i + 1) = 0) := by
  unfold zp_fi at *
  constructor
  · intro e
    have e1 : zn_fi (fun i => decide (N i = u)) (i + 1) = i + 1 := by simp only [zn_fi]; rw [if_pos h0, if_pos (by simpa using e)]
    rw [zn_fi_m (i := i + 1) (by omega) cnt (by omega), e1]
  · intro e
    simp only [zn_fi]; rw [if_pos h0, if_neg (by simpa using e)]
theorem zp_placeOf {F bl : Nat} {P : zp_T} {c r : g_St} {u : List Nat} (h : zp_L bl P c r) (hu : zn_dg u) (h8 : u.length ≤ 8) (h7 : r.2.1 0 7 = iL (ze 27 u : Nat)) (hF : 20 < F) : mm_placeOf F r = some (zE (zp_fi P.2.1 u (zl_pl P.1))) := by
  have h5 := h.1.2.2.1
  have hN := h.2.1.1
  have hr := h.1.2.1.1
  unfold mm_placeOf
  refine z_cnt (n := zl_pl P.1) (A := fun f i => mm_placeOf_2 F r f (nI i)) (fun i => zp_fi P.2.1 u i = 0) (fun f i hi h0 => ?_) (fun f h0 => ?_) F 0 (Nat.zero_le _) rfl (by omega)
  · have st : mm_placeOf_2 F r (f + 1) (nI i) = if P.2.1 i = u then some (nI i) else mm_placeOf_2 F r f (nI (i + 1)) := by
      show mm_placeOf_2_b F r _ (nI i) = _
      unfold mm_placeOf_2_b
      rw [show (1 : Int32) = nI 1 from rfl, z_rd (by omega) (by omega), z_sbind, hr, if_pos (show nI i < nI _ by rw [z_lt (by omega) (by omega)]; exact hi), show (5 : Int32) = nI 5 from rfl, nI_add, nI_add, z_rl (by omega) (by omega), z_sbind, h7]
      simp only [zn_cmp, zp_eq27 hN hu h8 hi]
      try rfl
    rw [st]
    by_cases e : P.2.1 i = u
    · left; rw [if_pos e, (zp_fi_step hi h0).1 e, zE_s]
    · right; rw [if_neg e]; exact ⟨(zp_fi_step hi h0).2 e, rfl⟩
  · show mm_placeOf_2_b F r _ (nI (zl_pl P.1)) = _
    unfold mm_placeOf_2_b
    rw [show (1 : Int32) = nI 1 from rfl, z_rd (by omega) (by omega), z_sbind, hr, if_neg (show ¬ nI _ < nI _ by rw [z_lt (by omega) (by omega)]; omega), h0]; rfl
theorem zp_goodOf {F bl : Nat} {P : zp_T} {c r : g_St} {u : List Nat} (h : zp_L bl P c r) (hu : zn_dg u) (h8 : u.length ≤ 8) (h7 : r.2.1 0 7 = iL (ze 27 u : Nat)) (hF : 20 < F) : mm_goodOf F r = some (zE (zp_fi P.2.2.1 u (zl_gd P.1))) := by
  have h5 := h.1.2.2.2.1
  have hN := h.2.1.2.1
  have hr := h.1.2.1.2.1
  unfold mm_goodOf
  refine z_cnt (n := zl_gd P.1) (A := fun f i => mm_goodOf_2 F r f (nI i)) (fun i => zp_fi P.2.2.1 u i = 0) (fun f i hi h0 => ?_) (fun f h0 => ?_) F 0 (Nat.zero_le _) rfl (by omega)
  · have st : mm_goodOf_2 F r (f + 1) (nI i) = if P.2.2.1 i = u then some (nI i) else mm_goodOf_2 F r f (nI (i + 1)) := by
      show mm_goodOf_2_b F r _ (nI i) = _
      unfold mm_goodOf_2_b
      rw [show (1 : Int32) = nI 1 from rfl, z_rd (by omega) (by omega), z_sbind, hr, if_pos (show nI i < nI _ by rw [z_lt (by omega) (by omega)]; exact hi), show (6 : Int32) = nI 6 from rfl, nI_add, nI_add, z_rl (by omega) (by omega), z_sbind, h7]
      simp only [zn_cmp, zp_eq27 hN hu h8 hi]
      try rfl
    rw [st]
    by_cases e : P.2.2.1 i = u
    · left; rw [if_pos e, (zp_fi_step hi h0).1 e, zE_s]
    · right; rw [if_neg e]; exact ⟨(zp_fi_step hi h0).2 e, rfl⟩
  · show mm_goodOf_2_b F r _ (nI (zl_gd P.1)) = _
    unfold mm_goodOf_2_b
    rw [show (1 : Int32) = nI 1 from rfl, z_rd (by omega) (by omega), z_sbind, hr, if_neg (show ¬ nI _ < nI _ by rw [z_lt (by omega) (by omega)]; omega), h0]; rfl
theorem zp_isNew {F bl : Nat} {P : zp_T} {c r : g_St} {u : List Nat} (h : zp_L bl P c r) (hu : zn_dg u) (h8 : u.length ≤ 8) (h7 : r.2.1 0 7 = iL (ze 27 u : Nat)) (hF : 20 < F) : mm_isNew F r = some (if zp_fi P.2.1 u (zl_pl P.1) = 0 ∧ zp_fi P.2.2.1 u (zl_gd P.1) = 0 ∧ zp_fi P.2.2.2 u (zl_pp P.1) = 0 then nI 1 else nI 0) := by
  have h5 := h.1.2.2.2.2
  have hN := h.2.1.2.2
  have hr := h.1.2.1.2.2
  have l1 := zn_fi_le (p := fun i => decide (P.2.1 i = u)) (zl_pl P.1)
  have l2 := zn_fi_le (p := fun i => decide (P.2.2.1 i = u)) (zl_gd P.1)
  have b1 := h.1.2.2.1
  have b2 := h.1.2.2.2.1
  unfold mm_isNew
  refine z_cnt (n := zl_pp P.1) (A := fun f i => mm_isNew_2 F r f (nI i)) (fun i => zp_fi P.2.2.2 u i = 0) (fun f i hi h0 => ?_) (fun f h0 => ?_) F 0 (Nat.zero_le _) rfl (by omega)
  · have st : mm_isNew_2 F r (f + 1) (nI i) = if P.2.2.2 i = u then some (nI 0) else mm_isNew_2 F r f (nI (i + 1)) := by
      show mm_isNew_2_b F r _ (nI i) = _
      unfold mm_isNew_2_b
      rw [show (1 : Int32) = nI 1 from rfl, z_rd (by omega) (by omega), z_sbind, hr, if_pos (show nI i < nI _ by rw [z_lt (by omega) (by omega)]; exact hi), show (8 : Int32) = nI 8 from rfl, nI_add, nI_add, z_rl (by omega) (by omega), z_sbind, h7]
      simp only [zn_cmp, zp_eq27 hN hu h8 hi]
      try rfl
    rw [st]
    by_cases e : P.2.2.2 i = u
    · left; rw [if_pos e, if_neg (fun q => by rw [(zp_fi_step hi h0).1 e] at q; omega)]
    · right; rw [if_neg e]; exact ⟨(zp_fi_step hi h0).2 e, rfl⟩
  · show mm_isNew_2_b F r _ (nI (zl_pp P.1)) = _
    unfold mm_isNew_2_b
    rw [show (1 : Int32) = nI 1 from rfl, z_rd (by omega) (by omega), z_sbind, hr, if_neg (show ¬ nI _ < nI _ by rw [z_lt (by omega) (by omega)]; omega), zp_placeOf h hu h8 h7 hF, z_sbind]
    unfold zp_fi at *
    rw [show (0 : Int32) = nI 0 from rfl]
    simp only [zE_lt0 (show zn_fi (fun i => decide (P.2.1 i = u)) (zl_pl P.1) < 2147483648 by omega), zE_lt0 (show zn_fi (fun i => decide (P.2.2.1 i = u)) (zl_gd P.1) < 2147483648 by omega), zp_goodOf h hu h8 h7 hF, z_sbind]
    unfold zp_fi
    simp only [zE_lt0 (show zn_fi (fun i => decide (P.2.2.1 i = u)) (zl_gd P.1) < 2147483648 by omega), h0]
    by_cases e1 : zn_fi (fun i => decide (P.2.1 i = u)) (zl_pl P.1) = 0
    · by_cases e2 : zn_fi (fun i => decide (P.2.2.1 i = u)) (zl_gd P.1) = 0
      · rw [if_pos e1, if_pos e2, if_pos ⟨e1, e2, trivial⟩]
      · rw [if_pos e1, if_neg e2, if_neg (fun q => e2 q.2.1)]
    · rw [if_neg e1, if_neg (fun q => e1 q.1)]
