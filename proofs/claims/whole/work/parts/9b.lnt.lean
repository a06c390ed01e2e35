/-! Layer 2: LAND: what becomes of a reading, the reference; the week begins -/
theorem zp_nz0 : g_nz (0 : Int32) = nI 0 := by decide
theorem zp_t321 {F : Nat} {r : g_St} (hF : 1100 < F) : z_w (mm_land_321 F F (0 : Int32) r) (fun q => q.1 = nI 0 ∧ (∀ m, m < 4 → q.2.1 47 m = nI 0) ∧ (∀ id, id ≠ 47 → q.2.1 id = r.1 id) ∧ q.2.2 = r.2) := by
  refine z_cw (n := 4) (A := fun f i s => mm_land_321 F f (nI i) s) (fun i s => (∀ m, m < i → s.1 47 m = nI 0) ∧ (∀ id, id ≠ 47 → s.1 id = r.1 id) ∧ s.2 = r.2) ?_ ?_ F 0 r (Nat.zero_le _) ⟨fun m q => by omega, fun _ _ => rfl, rfl⟩ (by omega)
  · intro f i s hi ⟨h1, h2, h3⟩ go
    show z_w (mm_land_321_b F _ (nI i) s) _
    unfold mm_land_321_b
    rw [if_pos (show nI i < (4 : Int32) from nI_lt (b := 4) hi (by omega)), zp_nz0, z_wr hi (by omega), z_sbind, nI_1]
    refine go _ ⟨fun m hm => ?_, fun id q => by rw [z_sI_f q]; exact h2 id q, h3⟩
    rw [z_sI]
    by_cases e : m = i
    · rw [if_pos ⟨rfl, e⟩]
    · rw [if_neg (fun q => e q.2)]; exact h1 m (by omega)
  · intro f s ⟨h1, h2, h3⟩
    show z_w (mm_land_321_b F _ (nI 4) s) _
    unfold mm_land_321_b
    rw [if_neg (by decide)]
    exact z_w_some ⟨rfl, h1, h2, h3⟩
theorem zp_t285 {F : Nat} {r : g_St} (hF : 1100 < F) : z_w (mm_land_285 F F (0 : Int32) r) (fun q => q.1 = nI 0 ∧ (∀ k, k < 144 → q.2.1 13 k = r.1 13 (144 + k)) ∧ q.2.1 0 39 = nI 0 ∧ (∀ m, m < 4 → q.2.1 47 m = nI 0) ∧ (∀ id, id ≠ 0 → id ≠ 13 → id ≠ 47 → q.2.1 id = r.1 id) ∧ (∀ k, k ≠ 39 → q.2.1 0 k = r.1 0 k) ∧ q.2.2 = r.2) := by
  refine z_cw (n := 144) (A := fun f i s => mm_land_285 F f (nI i) s) (fun i s => (∀ k, k < i → s.1 13 k = r.1 13 (144 + k)) ∧ (∀ k, 144 ≤ k → s.1 13 k = r.1 13 k) ∧ (∀ id, id ≠ 13 → s.1 id = r.1 id) ∧ s.2 = r.2) ?_ ?_ F 0 r (Nat.zero_le _) ⟨fun m q => by omega, fun _ _ => rfl, fun _ _ => rfl, rfl⟩ (by omega)
  · intro f i s hi ⟨h1, h2, h3, h4⟩ go
    show z_w (mm_land_285_b F _ (nI i) s) _
    unfold mm_land_285_b
    rw [if_pos (show nI i < (144 : Int32) from nI_lt (b := 144) hi (by omega)), show (144 : Int32) = nI 144 from rfl, nI_add, z_rd (by omega) (by omega), z_sbind, z_wr (by omega) (by omega), z_sbind, nI_1]
    refine go _ ⟨fun k hk => ?_, fun k hk => ?_, fun id q => by rw [z_sI_f q]; exact h3 id q, h4⟩
    · rw [z_sI]
      by_cases e : k = i
      · rw [if_pos ⟨rfl, e⟩, e]; exact h2 _ (by omega)
      · rw [if_neg (fun q => e q.2)]; exact h1 k (by omega)
    · rw [z_sI_k (by omega)]; exact h2 k hk
  · intro f s ⟨h1, h2, h3, h4⟩
    show z_w (mm_land_285_b F _ (nI 144) s) _
    unfold mm_land_285_b
    rw [if_neg (by decide), z_sbind]
    refine z_w_mono (zp_t321 hF) (fun q ⟨q1, q2, q3, q4⟩ => ⟨q1, fun k hk => ?_, ?_, q2, fun id e1 e2 e3 => ?_, fun k hk => ?_, by rw [q4]; exact h4⟩)
    · rw [q3 13 (by omega), z_sI_id (by omega)]; exact h1 k hk
    · rw [q3 0 (by omega), z_sI_same]; rfl
    · rw [q3 id e3, z_sI_f e1]; exact h3 id e2
    · rw [q3 0 (by omega), z_sI_k hk, h3 0 (by omega)]
theorem zp_t222 {F : Nat} {r : g_St} (hF : 1100 < F) : z_w (mm_land_222 F F (0 : Int32) r) (fun q => q.1 = nI 0 ∧ (∀ p, p < 8 → q.2.1 11 p = r.1 11 (8 + p) ∧ q.2.1 12 p = r.1 12 (8 + p) ∧ q.2.1 34 p = r.1 11 (8 + p) ∧ q.2.1 35 p = nI 0) ∧ (∀ k, k < 144 → q.2.1 13 k = r.1 13 (144 + k)) ∧ q.2.1 0 39 = nI 0 ∧ (∀ m, m < 4 → q.2.1 47 m = nI 0) ∧ (∀ id, id ≠ 0 → id ≠ 11 → id ≠ 12 → id ≠ 13 → id ≠ 34 → id ≠ 35 → id ≠ 47 → q.2.1 id = r.1 id) ∧ (∀ k, k ≠ 39 → q.2.1 0 k = r.1 0 k) ∧ q.2.2 = r.2) := by
  refine z_cw (n := 8) (A := fun f i s => mm_land_222 F f (nI i) s) (fun i s => (∀ p, p < i → s.1 11 p = r.1 11 (8 + p) ∧ s.1 12 p = r.1 12 (8 + p) ∧ s.1 34 p = r.1 11 (8 + p) ∧ s.1 35 p = nI 0) ∧ (∀ k, 8 ≤ k → s.1 11 k = r.1 11 k ∧ s.1 12 k = r.1 12 k) ∧ (∀ id, id ≠ 11 → id ≠ 12 → id ≠ 34 → id ≠ 35 → s.1 id = r.1 id) ∧ s.2 = r.2) ?_ ?_ F 0 r (Nat.zero_le _) ⟨fun m q => by omega, fun _ _ => ⟨rfl, rfl⟩, fun _ _ _ _ _ => rfl, rfl⟩ (by omega)
  · intro f i s hi ⟨h1, h2, h3, h4⟩ go
    have g2 := h2 (8 + i) (by omega)
    show z_w (mm_land_222_b F _ (nI i) s) _
    unfold mm_land_222_b
    rw [if_pos (show nI i < (8 : Int32) from nI_lt (b := 8) hi (by omega)), show (8 : Int32) = nI 8 from rfl, nI_add, z_rd (by omega) (by omega), z_sbind, z_wr (by omega) (by omega), z_sbind, z_rd (by omega) (by omega), z_sbind, z_wr (by omega) (by omega), z_sbind, z_rd (by omega) (by omega), z_sbind, z_wr (by omega) (by omega), z_sbind, z_wr (by omega) (by omega), z_sbind, nI_1, z_sI_id (a := 12) (by omega), z_sI_id (a := 11) (by omega), z_sI_same, g2.1, g2.2]
    refine go _ ⟨fun p hp => ?_, fun k hk => ?_, fun id q1 q2 q3 q4 => ?_, h4⟩
    · have h1 := fun e : ¬ p = i => h1 p (by omega)
      simp only [z_sI]
      by_cases e : p = i
      · subst e
        simp
        rfl
      · have h1 := h1 e
        simp [e, h1]
    · have h2 := h2 k hk
      simp only [z_sI]
      have e : ¬ k = i := by omega
      simp [e, h2]
    · have h3 := h3 id q1 q2 q3 q4
      rw [z_sI_f q4, z_sI_f q3, z_sI_f q2, z_sI_f q1]; exact h3
  · intro f s ⟨h1, h2, h3, h4⟩
    show z_w (mm_land_222_b F _ (nI 8) s) _
    unfold mm_land_222_b
    rw [if_neg (by decide)]
    refine z_w_mono (zp_t285 hF) (fun q ⟨q1, q2, q3, q4, q5, q6, q7⟩ => ⟨q1, fun p hp => ?_, fun k hk => ?_, q3, q4, fun id e1 e2 e3 e4 e5 e6 e7 => ?_, fun k hk => ?_, by rw [q7]; exact h4⟩)
    · rw [q5 11 (by omega) (by omega) (by omega), q5 12 (by omega) (by omega) (by omega), q5 34 (by omega) (by omega) (by omega), q5 35 (by omega) (by omega) (by omega)]; exact h1 p hp
    · rw [q2 k hk, h3 13 (by omega) (by omega) (by omega) (by omega)]
    · rw [q5 id e1 e4 e7, h3 id e2 e3 e5 e6]
    · rw [q6 k hk, h3 0 (by omega) (by omega) (by omega) (by omega)]
theorem zp_t171 {F : Nat} {r : g_St} (hF : 1100 < F) : z_w (mm_land_171 F F (0 : Int32) r) (fun q => q.1 = nI 0 ∧ (∀ g, g < 6 → q.2.1 9 g = r.1 9 (6 + g) ∧ q.2.1 10 g = r.1 10 (6 + g) ∧ q.2.1 36 g = nI 0) ∧ (∀ p, p < 8 → q.2.1 11 p = r.1 11 (8 + p) ∧ q.2.1 12 p = r.1 12 (8 + p) ∧ q.2.1 34 p = r.1 11 (8 + p) ∧ q.2.1 35 p = nI 0) ∧ (∀ k, k < 144 → q.2.1 13 k = r.1 13 (144 + k)) ∧ q.2.1 0 39 = nI 0 ∧ (∀ m, m < 4 → q.2.1 47 m = nI 0) ∧ (∀ id, (0 < id ∧ id < 9) ∨ (13 < id ∧ id < 34) ∨ (36 < id ∧ id < 47) ∨ 47 < id → q.2.1 id = r.1 id) ∧ (∀ k, k ≠ 39 → q.2.1 0 k = r.1 0 k) ∧ q.2.2 = r.2) := by
  refine z_cw (n := 6) (A := fun f i s => mm_land_171 F f (nI i) s) (fun i s => (∀ g, g < i → s.1 9 g = r.1 9 (6 + g) ∧ s.1 10 g = r.1 10 (6 + g) ∧ s.1 36 g = nI 0) ∧ (∀ k, 6 ≤ k → s.1 9 k = r.1 9 k ∧ s.1 10 k = r.1 10 k) ∧ (∀ id, id ≠ 9 → id ≠ 10 → id ≠ 36 → s.1 id = r.1 id) ∧ s.2 = r.2) ?_ ?_ F 0 r (Nat.zero_le _) ⟨fun m q => by omega, fun _ _ => ⟨rfl, rfl⟩, fun _ _ _ _ => rfl, rfl⟩ (by omega)
  · intro f i s hi ⟨h1, h2, h3, h4⟩ go
    have g2 := h2 (6 + i) (by omega)
    show z_w (mm_land_171_b F _ (nI i) s) _
    unfold mm_land_171_b
    rw [if_pos (show nI i < (6 : Int32) from nI_lt (b := 6) hi (by omega)), zp_nz0, show (6 : Int32) = nI 6 from rfl, nI_add, z_rd (by omega) (by omega), z_sbind, z_wr (by omega) (by omega), z_sbind, z_rd (by omega) (by omega), z_sbind, z_wr (by omega) (by omega), z_sbind, z_wr (by omega) (by omega), z_sbind, nI_1, z_sI_id (a := 10) (by omega), g2.1, g2.2]
    refine go _ ⟨fun p hp => ?_, fun k hk => ?_, fun id q1 q2 q3 => ?_, h4⟩
    · have h1 := fun e : ¬ p = i => h1 p (by omega)
      simp only [z_sI]
      by_cases e : p = i
      · subst e
        simp
      · have h1 := h1 e
        simp [e, h1]
    · have h2 := h2 k hk
      simp only [z_sI]
      have e : ¬ k = i := by omega
      simp [e, h2]
    · have h3 := h3 id q1 q2 q3
      rw [z_sI_f q3, z_sI_f q2, z_sI_f q1]; exact h3
  · intro f s ⟨h1, h2, h3, h4⟩
    show z_w (mm_land_171_b F _ (nI 6) s) _
    unfold mm_land_171_b
    rw [if_neg (by decide)]
    refine z_w_mono (zp_t222 hF) (fun q ⟨q1, q2, q3, q4, q5, q6, q7, q8⟩ => ⟨q1, fun g hg => ?_, fun p hp => ?_, fun k hk => ?_, q4, q5, fun id e => ?_, fun k hk => ?_, by rw [q8]; exact h4⟩)
    · rw [q6 9 (by omega) (by omega) (by omega) (by omega) (by omega) (by omega) (by omega), q6 10 (by omega) (by omega) (by omega) (by omega) (by omega) (by omega) (by omega), q6 36 (by omega) (by omega) (by omega) (by omega) (by omega) (by omega) (by omega)]; exact h1 g hg
    · have := q2 p hp
      rw [h3 11 (by omega) (by omega) (by omega), h3 12 (by omega) (by omega) (by omega)] at this; exact this
    · rw [q3 k hk, h3 13 (by omega) (by omega) (by omega)]
    · rw [q6 id (by omega) (by omega) (by omega) (by omega) (by omega) (by omega) (by omega), h3 id (by omega) (by omega) (by omega)]
    · rw [q7 k hk, h3 0 (by omega) (by omega) (by omega)]
/-- all of it -/
def zp_rF (w : Nat → Nat → Nat) (r r2 : g_St) : Prop := (∀ x y, x < 5 → y < 5 → zs_vm 5 w 5 x y ≤ 999 ∧ r2.1 8 (5 * x + y) = nI (zs_vm 5 w 5 x y)) ∧ (∀ g, g < 6 → r2.1 9 g = r.1 9 (6 + g) ∧ r2.1 10 g = r.1 10 (6 + g) ∧ r2.1 36 g = nI 0) ∧ (∀ p, p < 8 → r2.1 11 p = r.1 11 (8 + p) ∧ r2.1 12 p = r.1 12 (8 + p) ∧ r2.1 34 p = r.1 11 (8 + p) ∧ r2.1 35 p = nI 0) ∧ (∀ k, k < 144 → r2.1 13 k = r.1 13 (144 + k)) ∧ r2.1 0 39 = nI 0 ∧ (∀ m, m < 4 → r2.1 47 m = nI 0) ∧ (∀ id, (0 < id ∧ id < 8) ∨ (13 < id ∧ id < 34) ∨ (36 < id ∧ id < 47) ∨ 47 < id → r2.1 id = r.1 id) ∧ (∀ k, k ≠ 39 → r2.1 0 k = r.1 0 k) ∧ r2.2 = r.2
theorem zp_t59 {F : Nat} {r : g_St} {w : Nat → Nat → Nat} (hw : ∀ x y, x < 5 → y < 5 → w x y ≤ 999 ∧ r.1 8 (25 + 5 * x + y) = nI (w x y)) (hF : 1100 < F) : z_w (mm_land_59 F F (0 : Int32) r) (fun q => q.1 = nI 0 ∧ zp_rF w r q.2) := by
  refine z_cw (n := 25) (A := fun f i s => mm_land_59 F f (nI i) s) (fun i s => (∀ k, k < i → s.1 8 k = r.1 8 (25 + k)) ∧ (∀ k, 25 ≤ k → s.1 8 k = r.1 8 k) ∧ (∀ id, id ≠ 8 → s.1 id = r.1 id) ∧ s.2 = r.2) ?_ ?_ F 0 r (Nat.zero_le _) ⟨fun m q => by omega, fun _ _ => rfl, fun _ _ => rfl, rfl⟩ (by omega)
  · intro f i s hi ⟨h1, h2, h3, h4⟩ go
    show z_w (mm_land_59_b F _ (nI i) s) _
    unfold mm_land_59_b
    rw [if_pos (show nI i < (25 : Int32) from nI_lt (b := 25) hi (by omega)), show (25 : Int32) = nI 25 from rfl, nI_add, z_rd (by omega) (by omega), z_sbind, z_wr (by omega) (by omega), z_sbind, nI_1]
    refine go _ ⟨fun k hk => ?_, fun k hk => ?_, fun id q => by rw [z_sI_f q]; exact h3 id q, h4⟩
    · rw [z_sI]
      by_cases e : k = i
      · rw [if_pos ⟨rfl, e⟩, e]; exact h2 _ (by omega)
      · rw [if_neg (fun q => e q.2)]; exact h1 k (by omega)
    · rw [z_sI_k (by omega)]; exact h2 k hk
  · intro f s ⟨h1, h2, h3, h4⟩
    show z_w (mm_land_59_b F _ (nI 25) s) _
    unfold mm_land_59_b
    rw [if_neg (by decide), zs_R (by omega)]
    have hR : zs_wR w s := fun x y hx hy => ⟨(hw x y hx hy).1, by rw [h1 _ (by omega), show 25 + (5 * x + y) = 25 + 5 * x + y by omega]; exact (hw x y hx hy).2⟩
    have hR2 := zs_m_R hR 5 (Nat.le_refl _)
    have hk := zs_mR_k (r := s) 5
    generalize zs_mR s 5 = t at hR2 hk
    have e : ∀ id, id ≠ 8 → t.1 id = r.1 id := fun id q => by rw [hk.1 id q, h3 id q]
    refine z_w_mono (zp_t171 hF) (fun q ⟨q1, q2, q3, q4, q5, q6, q7, q8, q9⟩ => ⟨q1, fun x y hx hy => ?_, ?_, ?_, ?_, q5, q6, fun id q => ?_, ?_, by rw [q9, hk.2, h4]⟩)
    · rw [q7 8 (by omega)]; exact hR2 x y hx hy
    · rw [e 9 (by omega), e 10 (by omega)] at q2; exact q2
    · rw [e 11 (by omega), e 12 (by omega)] at q3; exact q3
    · rw [e 13 (by omega)] at q4; exact q4
    · rw [q7 id (by omega), e id (by omega)]
    · rw [e 0 (by omega)] at q8; exact q8
/-- the week begins -/
theorem zp_begin {F bl pp : Nat} {c : g_St} (hb : g_isLand bl) (hp : pp ≤ 8) (h2 : c.1 bl 2 = nI pp) (hF : 1100 < F) : z_w (ow_begin F 61 bl c) (fun c2 => c2.1 61 0 = nI 0 ∧ c2.1 61 1 = nI 0 ∧ (∀ p, p < pp → c2.1 67 p = nI 0 ∧ c2.1 68 p = c.1 (bl + 12) p) ∧ (∀ id, id ≠ 61 → id ≠ 67 → id ≠ 68 → c2.1 id = c.1 id) ∧ c2.2 = c.2) := by
  have b7 := zp_b7 hb
  unfold ow_begin
  rw [z_sbind, z_sbind]
  have n0 : (g_sI (g_sI c 61 0 (0 : Int32)) 61 1 (0 : Int32)).1 61 0 = nI 0 ∧ (g_sI (g_sI c 61 0 (0 : Int32)) 61 1 (0 : Int32)).1 61 1 = nI 0 := ⟨by rw [z_sI_k (by omega), z_sI_same]; rfl, by rw [z_sI_same]; rfl⟩
  have f0 : ∀ id, id ≠ 61 → (g_sI (g_sI c 61 0 (0 : Int32)) 61 1 (0 : Int32)).1 id = c.1 id := fun id q => by rw [z_sI_f q, z_sI_f q]
  have f2 : (g_sI (g_sI c 61 0 (0 : Int32)) 61 1 (0 : Int32)).2 = c.2 := rfl
  generalize g_sI (g_sI c 61 0 (0 : Int32)) 61 1 (0 : Int32) = c0 at n0 f0 f2
  refine z_cw (n := pp) (A := fun f i s => ow_begin_12 F 61 bl f (nI i) s) (fun i s => (s.1 61 0 = nI 0 ∧ s.1 61 1 = nI 0) ∧ (∀ p, p < i → s.1 67 p = nI 0 ∧ s.1 68 p = c.1 (bl + 12) p) ∧ (∀ id, id ≠ 61 → id ≠ 67 → id ≠ 68 → s.1 id = c.1 id) ∧ s.2 = c.2) ?_ ?_ F 0 c0 (Nat.zero_le _) ⟨n0, fun p q => by omega, fun id q _ _ => f0 id q, f2⟩ (by omega)
  · intro f i s hi ⟨h3, h4, h5, h6⟩ go
    show z_w (ow_begin_12_b F 61 bl _ (nI i) s) _
    unfold ow_begin_12_b
    rw [h5 bl (by omega) (by omega) (by omega), h2, if_pos (show nI i < nI pp by rw [z_lt (by omega) (by omega)]; exact hi), z_wr (by omega) (by omega), z_sbind, z_rd (by omega) (by omega), z_sbind, z_wr (by omega) (by omega), z_sbind, nI_1, z_sI_id (by omega), h5 (bl + 12) (by omega) (by omega) (by omega)]
    refine go _ ⟨⟨by rw [z_sI_id (by omega), z_sI_id (by omega)]; exact h3.1, by rw [z_sI_id (by omega), z_sI_id (by omega)]; exact h3.2⟩, fun p hp2 => ?_, fun id q1 q2 q3 => ?_, h6⟩
    · by_cases e : p = i
      · subst e
        rw [z_sI_id (by omega), z_sI_same, z_sI_same]; exact ⟨rfl, rfl⟩
      · rw [z_sI_id (by omega), z_sI_k e, z_sI_k e, z_sI_id (by omega)]; exact h4 p (by omega)
    · rw [z_sI_f q3, z_sI_f q2]; exact h5 id q1 q2 q3
  · intro f s ⟨h3, h4, h5, h6⟩
    show z_w (ow_begin_12_b F 61 bl _ (nI pp) s) _
    unfold ow_begin_12_b
    rw [h5 bl (by omega) (by omega) (by omega), h2, if_neg (show ¬ nI pp < nI pp by rw [z_lt (by omega) (by omega)]; omega)]
    exact z_w_some ⟨h3.1, h3.2, h4, h5, h6⟩
