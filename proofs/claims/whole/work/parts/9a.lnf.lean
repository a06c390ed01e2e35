/-! Layer 2: LAND: how a reading begins and what becomes of it -/
def zp_L0 : zp_T := (((0, 0, 0), (fun x y => if x = y then 0 else 999), (fun _ => 0), (fun _ => 0), (fun _ => 0), (fun _ => 0), fun _ _ => 0), (fun _ => []), (fun _ => []), fun _ => [])
theorem z_fl_i {μ : g_St} {id m a j : Nat} {v : Int32} : (z_fl μ id m v).1 a j = if a = id ∧ j < m then v else μ.1 a j := rfl
theorem z_fl_fo {μ : g_St} {id m a : Nat} {v : Int32} (h : a ≠ id) : (z_fl μ id m v).1 a = μ.1 a := by
  funext j; rw [z_fl_i, if_neg (fun q => h q.1)]
theorem zp_clear {F bl : Nat} {c : g_St} (hF : 1100 < F) : z_w (ol_clear F bl c) (fun c2 => (∀ id, (id < bl ∨ bl + 23 ≤ id) → c2.1 id = c.1 id) ∧ c2.2 = c.2 ∧ (c2.1 bl 0 = nI 0 ∧ c2.1 bl 1 = nI 0 ∧ c2.1 bl 2 = nI 0) ∧ (∀ x y, x < 5 → y < 5 → c2.1 (bl + 5 + x) y = nI (if x = y then 0 else 999)) ∧ ∀ p j, p < 8 → j < 18 → c2.1 (bl + 15 + p) j = nI 0) := by
  unfold ol_clear
  rw [z_sbind, z_sbind, z_sbind]
  have f0 : ∀ id, (id < bl ∨ bl + 23 ≤ id) → (g_sI (g_sI (g_sI c bl 0 (0 : Int32)) bl 1 (0 : Int32)) bl 2 (0 : Int32)).1 id = c.1 id := fun id q => by rw [z_sI_f (by omega), z_sI_f (by omega), z_sI_f (by omega)]
  have f2 : (g_sI (g_sI (g_sI c bl 0 (0 : Int32)) bl 1 (0 : Int32)) bl 2 (0 : Int32)).2 = c.2 := rfl
  have n0 : (g_sI (g_sI (g_sI c bl 0 (0 : Int32)) bl 1 (0 : Int32)) bl 2 (0 : Int32)).1 bl 0 = nI 0 ∧ (g_sI (g_sI (g_sI c bl 0 (0 : Int32)) bl 1 (0 : Int32)) bl 2 (0 : Int32)).1 bl 1 = nI 0 ∧ (g_sI (g_sI (g_sI c bl 0 (0 : Int32)) bl 1 (0 : Int32)) bl 2 (0 : Int32)).1 bl 2 = nI 0 := by
    refine ⟨?_, ?_, ?_⟩
    · rw [z_sI_k (by omega), z_sI_k (by omega), z_sI_same]; rfl
    · rw [z_sI_k (by omega), z_sI_same]; rfl
    · rw [z_sI_same]; rfl
  generalize g_sI (g_sI (g_sI c bl 0 (0 : Int32)) bl 1 (0 : Int32)) bl 2 (0 : Int32) = c0 at f0 f2 n0
  refine z_cw (n := 5) (A := fun f i s => ol_clear_17 F bl f (nI i) s) (fun i s => (∀ id, (id < bl ∨ bl + 23 ≤ id) → s.1 id = c.1 id) ∧ s.2 = c.2 ∧ (s.1 bl 0 = nI 0 ∧ s.1 bl 1 = nI 0 ∧ s.1 bl 2 = nI 0) ∧ (∀ x y, x < i → y < 5 → s.1 (bl + 5 + x) y = nI (if x = y then 0 else 999))) ?_ ?_ F 0 c0 (Nat.zero_le _) ⟨f0, f2, n0, fun x y q => by omega⟩ (by omega)
  · intro f i s hi ⟨h1, h2, h3, h4⟩ go
    show z_w (ol_clear_17_b F bl _ (nI i) s) _
    unfold ol_clear_17_b
    rw [if_pos (show nI i < (5 : Int32) from nI_lt (b := 5) hi (by omega)), z_rr hi (by omega), z_sbind, z_fill _ (by omega) (by omega), z_sbind, z_sbind, z_wr hi (by omega), z_sbind, nI_1]
    refine go _ ⟨fun id q => ?_, h2, ⟨?_, ?_, ?_⟩, fun x y hx hy => ?_⟩
    · rw [z_sI_f (by omega), z_fl_fo (by omega)]; exact h1 id q
    · rw [z_sI_id (by omega), z_fl_fo (by omega)]; exact h3.1
    · rw [z_sI_id (by omega), z_fl_fo (by omega)]; exact h3.2.1
    · rw [z_sI_id (by omega), z_fl_fo (by omega)]; exact h3.2.2
    · rw [z_sI]
      by_cases e : x = i
      · subst e
        by_cases e2 : y = x
        · rw [if_pos ⟨rfl, e2⟩, if_pos e2.symm]; rfl
        · rw [if_neg (fun q => e2 q.2), z_fl_i, if_pos ⟨rfl, hy⟩, if_neg (fun q => e2 q.symm)]; rfl
      · rw [if_neg (fun q => by omega), z_fl_fo (by omega)]; exact h4 x y (by omega) hy
  · intro f s ⟨h1, h2, h3, h4⟩
    show z_w (ol_clear_17_b F bl _ (nI 5) s) _
    unfold ol_clear_17_b
    rw [if_neg (by decide)]
    refine z_cw (n := 8) (A := fun f i s => ol_clear_51 F bl f (nI i) s) (fun i s => (∀ id, (id < bl ∨ bl + 23 ≤ id) → s.1 id = c.1 id) ∧ s.2 = c.2 ∧ (s.1 bl 0 = nI 0 ∧ s.1 bl 1 = nI 0 ∧ s.1 bl 2 = nI 0) ∧ (∀ x y, x < 5 → y < 5 → s.1 (bl + 5 + x) y = nI (if x = y then 0 else 999)) ∧ ∀ p j, p < i → j < 18 → s.1 (bl + 15 + p) j = nI 0) ?_ ?_ F 0 s (Nat.zero_le _) ⟨h1, h2, h3, h4, fun x y q => by omega⟩ (by omega)
    · intro f i s hi ⟨h1, h2, h3, h4, h5⟩ go
      show z_w (ol_clear_51_b F bl _ (nI i) s) _
      unfold ol_clear_51_b
      rw [if_pos (show nI i < (8 : Int32) from nI_lt (b := 8) hi (by omega)), z_rr hi (by omega), z_sbind, z_fill _ (by omega) (by omega), z_sbind, nI_1]
      refine go _ ⟨fun id q => ?_, h2, ⟨?_, ?_, ?_⟩, fun x y hx hy => ?_, fun p j hp hj => ?_⟩
      · rw [z_fl_fo (by omega)]; exact h1 id q
      · rw [z_fl_fo (by omega)]; exact h3.1
      · rw [z_fl_fo (by omega)]; exact h3.2.1
      · rw [z_fl_fo (by omega)]; exact h3.2.2
      · rw [z_fl_fo (by omega)]; exact h4 x y hx hy
      · rw [z_fl_i]
        by_cases e : p = i
        · rw [if_pos ⟨by rw [e], hj⟩]; rfl
        · rw [if_neg (fun q => by omega)]; exact h5 p j (by omega) hj
    · intro f s h
      show z_w (ol_clear_51_b F bl _ (nI 8) s) _
      unfold ol_clear_51_b
      rw [if_neg (by decide)]
      exact z_w_some h
theorem zp_dm : ∀ k, k < 25 → g_dv (nI (25 + k) - (25 : Int32)) (5 : Int32) = some (nI (k / 5)) ∧ g_rm (nI (25 + k) - (25 : Int32)) (5 : Int32) = some (nI (k % 5)) := by decide +kernel
theorem zp_rIn {F : Nat} {r0 : g_St} : ∀ (d k f : Nat) (r : g_St), 25 - k = d → k ≤ 25 → d < f → zp_KR r0 r → (∀ i, i < k → r.1 8 (25 + i) = nI (if i / 5 = i % 5 then 0 else 999)) → (r.1 2 1 = nI 0 ∧ r.1 3 1 = nI 0 ∧ r.1 4 1 = nI 0) →
    ∃ r2, mm_readsLand_24 F f (nI (25 + k)) r = mm_readsLand_64 F F r2 ∧ zp_KR r0 r2 ∧ (∀ i, i < 25 → r2.1 8 (25 + i) = nI (if i / 5 = i % 5 then 0 else 999)) ∧ (r2.1 2 1 = nI 0 ∧ r2.1 3 1 = nI 0 ∧ r2.1 4 1 = nI 0) ∧ r2.2 = r.2 := by
  intro d
  induction d with
  | zero =>
    intro k f r hd hk hf hK h8 hn
    obtain ⟨f, rfl⟩ : ∃ f', f = f' + 1 := ⟨f - 1, by omega⟩
    have e : k = 25 := by omega
    subst e
    refine ⟨r, ?_, hK, h8, hn, rfl⟩
    show mm_readsLand_24_b F _ (nI 50) r = _
    unfold mm_readsLand_24_b
    rw [if_neg (by decide)]
  | succ d ih =>
    intro k f r hd hk hf hK h8 hn
    obtain ⟨f, rfl⟩ : ∃ f', f = f' + 1 := ⟨f - 1, by omega⟩
    have dm := zp_dm k (by omega)
    obtain ⟨r2, m1, m2, m3, m4, m5⟩ := ih (k + 1) f (g_sI r 8 (25 + k) (nI (if k / 5 = k % 5 then 0 else 999))) (by omega) (by omega) (by omega) (zp_KR_t hK (zp_KR_I (by omega))) (fun i hi => by
      rw [z_sI]
      by_cases e : i = k
      · rw [if_pos ⟨rfl, by rw [e]⟩, e]
      · rw [if_neg (fun q => by omega)]; exact h8 i (by omega)) ⟨by rw [z_sI_id (by omega)]; exact hn.1, by rw [z_sI_id (by omega)]; exact hn.2.1, by rw [z_sI_id (by omega)]; exact hn.2.2⟩
    refine ⟨r2, ?_, m2, m3, m4, m5⟩
    rw [← m1]
    show mm_readsLand_24_b F (mm_readsLand_24 F f) (nI (25 + k)) r = mm_readsLand_24 F f (nI (25 + k + 1)) _
    unfold mm_readsLand_24_b
    rw [if_pos (show nI (25 + k) < (50 : Int32) by show nI (25 + k) < nI 50; rw [z_lt (by omega) (by omega)]; omega), dm.1, z_sbind, dm.2, z_sbind, nI_1]
    by_cases e : k / 5 = k % 5
    · rw [if_pos (by rw [e]), if_pos e, z_wr (by omega) (by omega), z_sbind]; rfl
    · rw [if_neg (show ¬ nI (k / 5) = nI (k % 5) by rw [z_eq (by omega) (by omega)]; exact e), if_neg e, z_wr (by omega) (by omega), z_sbind]; rfl
/-- the reference's shortest ways -/
def zs_1R (m a b : Nat) (r : g_St) : g_St := g_sI r 8 (5 * a + b) (g_min (r.1 8 (5 * a + b)) (r.1 8 (5 * a + m) + r.1 8 (5 * m + b)))
def zs_bR (m a : Nat) (r : g_St) : Nat → g_St
  | 0 => r
  | n + 1 => zs_1R m a n (zs_bR m a r n)
def zs_aR (m : Nat) (r : g_St) : Nat → g_St
  | 0 => r
  | n + 1 => zs_bR m n (zs_aR m r n) 5
def zs_mR (r : g_St) : Nat → g_St
  | 0 => r
  | n + 1 => zs_aR n (zs_mR r n) 5
theorem zs_1_R {m a b : Nat} {w : Nat → Nat → Nat} {r : g_St} (h : zs_wR w r) (hm : m < 5) (ha : a < 5) (hb : b < 5) : zs_wR (zs_v m a b w) (zs_1R m a b r) := by
  intro x y hx hy
  have h1 := h x y hx hy
  have h2 := h a b ha hb
  have h3 := h a m ha hm
  have h4 := h m b hm hb
  unfold zs_v zs_1R
  rw [z_sI]
  by_cases e : x = a ∧ y = b
  · rw [if_pos e, if_pos ⟨rfl, by rw [e.1, e.2]⟩, h2.2, h3.2, h4.2, zs_min h2.1 h3.1 h4.1]
    exact ⟨by have := h2.1; omega, rfl⟩
  · rw [if_neg e, if_neg (fun q => e ⟨by omega, by omega⟩)]; exact h1
theorem zs_b_R {m a : Nat} {w : Nat → Nat → Nat} {r : g_St} (h : zs_wR w r) (hm : m < 5) (ha : a < 5) : ∀ n, n ≤ 5 → zs_wR (zs_vb m a w n) (zs_bR m a r n)
  | 0, _ => h
  | n + 1, q => zs_1_R (zs_b_R h hm ha n (by omega)) hm ha (by omega)
theorem zs_a_R {m : Nat} {w : Nat → Nat → Nat} {r : g_St} (h : zs_wR w r) (hm : m < 5) : ∀ n, n ≤ 5 → zs_wR (zs_va 5 m w n) (zs_aR m r n)
  | 0, _ => h
  | n + 1, q => zs_b_R (zs_a_R h hm n (by omega)) hm (by omega) 5 (Nat.le_refl _)
theorem zs_m_R {w : Nat → Nat → Nat} {r : g_St} (h : zs_wR w r) : ∀ n, n ≤ 5 → zs_wR (zs_vm 5 w n) (zs_mR r n)
  | 0, _ => h
  | n + 1, q => zs_a_R (zs_m_R h n (by omega)) (by omega) 5 (Nat.le_refl _)
def zs_kR (r r2 : g_St) : Prop := (∀ id, id ≠ 8 → r2.1 id = r.1 id) ∧ r2.2 = r.2
theorem zs_kR_t {a b c : g_St} (h : zs_kR a b) (h2 : zs_kR b c) : zs_kR a c := ⟨fun id q => by rw [h2.1 id q, h.1 id q], by rw [h2.2, h.2]⟩
theorem zs_bR_k {m a : Nat} {r : g_St} : ∀ n, zs_kR r (zs_bR m a r n)
  | 0 => ⟨fun _ _ => rfl, rfl⟩
  | n + 1 => zs_kR_t (zs_bR_k n) ⟨fun id q => z_sI_f q, rfl⟩
theorem zs_aR_k {m : Nat} {r : g_St} : ∀ n, zs_kR r (zs_aR m r n)
  | 0 => ⟨fun _ _ => rfl, rfl⟩
  | n + 1 => zs_kR_t (zs_aR_k n) (zs_bR_k 5)
theorem zs_mR_k {r : g_St} : ∀ n, zs_kR r (zs_mR r n)
  | 0 => ⟨fun _ _ => rfl, rfl⟩
  | n + 1 => zs_kR_t (zs_mR_k n) (zs_aR_k 5)
theorem zs_R {F : Nat} {r : g_St} (hF : 20 < F) : mm_land_88 F F (0 : Int32) r = mm_land_171 F F (0 : Int32) (zs_mR r 5) := by
  refine z_cnt0 (n := 5) (A := fun f i => mm_land_88 F f (nI i) (zs_mR r i)) (fun f m hm => ?_) (fun f => ?_) (by omega)
  · show mm_land_88_b F _ (nI m) _ = _
    unfold mm_land_88_b
    rw [if_pos (show nI m < (5 : Int32) from nI_lt (b := 5) hm (by omega))]
    refine z_cnt0 (n := 5) (A := fun f i => mm_land_95 F (nI m) (mm_land_88 F _) f (nI i) (zs_aR m (zs_mR r m) i)) (fun f2 a ha => ?_) (fun f2 => ?_) (by omega)
    · show mm_land_95_b F (nI m) _ _ (nI a) _ = _
      unfold mm_land_95_b
      rw [if_pos (show nI a < (5 : Int32) from nI_lt (b := 5) ha (by omega))]
      refine z_cnt0 (n := 5) (A := fun f i => mm_land_102 F (nI m) (nI a) _ _ f (nI i) (zs_bR m a (zs_aR m (zs_mR r m) a) i)) (fun f3 b hb => ?_) (fun f3 => ?_) (by omega)
      · show mm_land_102_b F (nI m) (nI a) _ _ _ (nI b) _ = _
        unfold mm_land_102_b
        rw [if_pos (show nI b < (5 : Int32) from nI_lt (b := 5) hb (by omega)), show (5 : Int32) = nI 5 from rfl, z_mul, z_mul, nI_add, nI_add, nI_add, z_rd (by omega) (by omega), z_sbind, z_rd (by omega) (by omega), z_sbind, z_rd (by omega) (by omega), z_sbind, z_wr (by omega) (by omega), z_sbind, nI_1]
        rfl
      · show mm_land_102_b F (nI m) (nI a) _ _ _ (nI 5) _ = _
        unfold mm_land_102_b
        rw [if_neg (by decide), nI_1]
        rfl
    · show mm_land_95_b F (nI m) _ _ (nI 5) _ = _
      unfold mm_land_95_b
      rw [if_neg (by decide), nI_1]
      rfl
  · show mm_land_88_b F _ (nI 5) _ = _
    unfold mm_land_88_b
    rw [if_neg (by decide)]
