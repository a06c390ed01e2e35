/-! Layer 2: the WEEK as a value: things, lifted, then good, sort, makers, holder (0: none, p + 1), done of a THING; clock, place of one -/
abbrev zw_T : Type := (Nat × Nat) × (Nat → Nat) × (Nat → Nat) × (Nat → Nat) × (Nat → Nat) × (Nat → Nat) × (Nat → Nat) × (Nat → Nat)
def zw_n (W : zw_T) : Nat := W.1.1
def zw_lf (W : zw_T) : Nat := W.1.2
def zw_gd (W : zw_T) : Nat → Nat := W.2.1
def zw_so (W : zw_T) : Nat → Nat := W.2.2.1
def zw_mk (W : zw_T) : Nat → Nat := W.2.2.2.1
def zw_ho (W : zw_T) : Nat → Nat := W.2.2.2.2.1
def zw_dn (W : zw_T) : Nat → Nat := W.2.2.2.2.2.1
def zw_ck (W : zw_T) : Nat → Nat := W.2.2.2.2.2.2.1
def zw_pc (W : zw_T) : Nat → Nat := W.2.2.2.2.2.2.2
def zw_ok (L : zl_T) (W : zw_T) : Prop := zw_n W ≤ 40 ∧ zw_lf W < 64 ∧ (∀ t, t < zw_n W → zw_gd W t < zl_gd L ∧ zw_so W t ≤ 3 ∧ zw_mk W t < 256 ∧ zw_ho W t ≤ zl_pp L ∧ zw_dn W t ≤ 168) ∧ (∀ p, p < zl_pp L → zw_ck W p ≤ 168 ∧ zw_pc W p < zl_pl L)
def zw_C (L : zl_T) (W : zw_T) (c : g_St) (b : Nat) : Prop := c.1 b 0 = nI (zw_n W) ∧ c.1 b 1 = nI (zw_lf W) ∧ (∀ t, t < zw_n W → c.1 (b + 1) t = nI (zw_gd W t) ∧ c.1 (b + 2) t = nI (zw_so W t) ∧ c.1 (b + 3) t = nI (zw_mk W t) ∧ c.1 (b + 4) t = zE (zw_ho W t) ∧ c.1 (b + 5) t = nI (zw_dn W t)) ∧ (∀ p, p < zl_pp L → c.1 (b + 6) p = nI (zw_ck W p) ∧ c.1 (b + 7) p = nI (zw_pc W p))
def zw_R (L : zl_T) (W : zw_T) (r : g_St) : Prop := r.1 0 39 = nI (zw_n W) ∧ (∀ g, g < 6 → r.1 36 g = nI (z_bit (zw_lf W) g)) ∧ (∀ t, t < zw_n W → r.1 29 t = nI (zw_gd W t) ∧ r.1 30 t = nI (zw_so W t) ∧ r.1 31 t = nI (zw_mk W t) ∧ r.1 32 t = zE (zw_ho W t) ∧ r.1 33 t = nI (zw_dn W t)) ∧ (∀ p, p < zl_pp L → r.1 35 p = nI (zw_ck W p) ∧ r.1 34 p = nI (zw_pc W p))
/-- the first one held -/
def zw_fh (W : zw_T) (p g : Nat) : Nat → Nat
  | 0 => 0
  | n + 1 => if zw_fh W p g n ≠ 0 then zw_fh W p g n else if zw_ho W n = p + 1 ∧ zw_gd W n = g then n + 1 else 0
theorem zw_fh_st {W : zw_T} {p g m : Nat} (h : zw_fh W p g m ≠ 0) : ∀ {n : Nat}, m ≤ n → zw_fh W p g n = zw_fh W p g m
  | 0, h9 => by have : m = 0 := by omega
                subst this; rfl
  | n + 1, h9 => by
    by_cases e : m = n + 1
    · rw [e]
    · have ih := zw_fh_st h (n := n) (by omega)
      show (if zw_fh W p g n ≠ 0 then zw_fh W p g n else _) = _
      rw [ih, if_pos h]
theorem zw_fh_le {W : zw_T} {p g : Nat} : ∀ n, zw_fh W p g n ≤ n
  | 0 => Nat.le_refl 0
  | n + 1 => by
    have := zw_fh_le (W := W) (p := p) (g := g) n
    show (if zw_fh W p g n ≠ 0 then zw_fh W p g n else _) ≤ _
    split
    · omega
    · split <;> omega
theorem zw_fh_hit {W : zw_T} {p g : Nat} : ∀ {n : Nat}, zw_fh W p g n ≠ 0 → zw_ho W (zw_fh W p g n - 1) = p + 1 ∧ zw_gd W (zw_fh W p g n - 1) = g
  | 0, h => absurd rfl h
  | n + 1, h => by
    by_cases e : zw_fh W p g n ≠ 0
    · have h2 : zw_fh W p g (n + 1) = zw_fh W p g n := by show (if zw_fh W p g n ≠ 0 then zw_fh W p g n else _) = _; rw [if_pos e]
      rw [h2]; exact zw_fh_hit e
    · have h2 : zw_fh W p g (n + 1) = if zw_ho W n = p + 1 ∧ zw_gd W n = g then n + 1 else 0 := by show (if zw_fh W p g n ≠ 0 then zw_fh W p g n else _) = _; rw [if_neg e]
      by_cases h3 : zw_ho W n = p + 1 ∧ zw_gd W n = g
      · rw [h2, if_pos h3]; exact h3
      · rw [h2, if_neg h3] at h; exact absurd rfl h
theorem zw_C_first {L : zl_T} {W : zw_T} {c : g_St} {b F p g : Nat} (hC : zw_C L W c b) (ho : zw_ok L W) (hp : p < 8) (hg : g < 6) (h8 : zl_pp L ≤ 8 ∧ zl_gd L ≤ 6) (hF : 50 < F) : ow_firstHeld F b c (nI p) (nI g) = some (zE (zw_fh W p g (zw_n W))) := by
  have h40 := ho.1
  unfold ow_firstHeld
  refine z_cnt (n := zw_n W) (fun i => zw_fh W p g i = 0) (A := fun f i => ow_firstHeld_2 F b c (nI p) (nI g) f (nI i)) (fun f i hi hI => ?_) (fun f hI => ?_) F 0 (by omega) rfl (by omega)
  · have ht := hC.2.2.1 i hi
    have ho2 := ho.2.2.1 i hi
    have e : zw_fh W p g (i + 1) = if zw_ho W i = p + 1 ∧ zw_gd W i = g then i + 1 else 0 := by show (if zw_fh W p g i ≠ 0 then zw_fh W p g i else _) = _; rw [if_neg (by omega)]
    have x : ow_firstHeld_2 F b c (nI p) (nI g) (f + 1) (nI i) = if zw_ho W i = p + 1 ∧ zw_gd W i = g then some (nI i) else ow_firstHeld_2 F b c (nI p) (nI g) f (nI (i + 1)) := by
      show ow_firstHeld_2_b F b c (nI p) (nI g) _ (nI i) = _
      unfold ow_firstHeld_2_b
      simp (disch := omega) only [↓reduceIte, nI_lit, z_sbind, z_rd, z_rl, z_rr, z_wr, z_wl, nI_add, z_mul, z_lt, z_le, z_eq, z_ltm1, z_m1lt, z_eqm1, z_m1eq, z_lem1, z_m1le, if_true, if_false, ite_true, ite_false, hC.1, hi, ht.1, ht.2.2.2.1, zE_n]
      by_cases h1 : zw_ho W i = p + 1 <;> by_cases h2 : zw_gd W i = g <;> simp [h1, h2]
    by_cases h : zw_ho W i = p + 1 ∧ zw_gd W i = g
    · left
      rw [if_pos h] at e x
      show ow_firstHeld_2 F b c (nI p) (nI g) (f + 1) (nI i) = _
      rw [x, zw_fh_st (m := i + 1) (by omega) (by omega), e, zE_s]
    · right
      rw [if_neg h] at e x
      exact ⟨e, x⟩
  · show ow_firstHeld_2_b F b c (nI p) (nI g) _ (nI (zw_n W)) = _
    unfold ow_firstHeld_2_b
    simp (disch := omega) only [↓reduceIte, nI_lit, z_sbind, z_rd, z_rl, z_rr, z_wr, z_wl, nI_add, z_mul, z_lt, z_le, z_eq, z_ltm1, z_m1lt, z_eqm1, z_m1eq, z_lem1, z_m1le, if_true, if_false, ite_true, ite_false, hC.1, Nat.lt_irrefl, hI, zE_0]
theorem zw_R_first {L : zl_T} {W : zw_T} {r : g_St} {F p g : Nat} (hC : zw_R L W r) (ho : zw_ok L W) (hp : p < 8) (hg : g < 6) (h8 : zl_pp L ≤ 8 ∧ zl_gd L ≤ 6) (hF : 50 < F) : mm_heldOf F r (nI p) (nI g) = some (zE (zw_fh W p g (zw_n W))) := by
  have h40 := ho.1
  unfold mm_heldOf
  refine z_cnt (n := zw_n W) (fun i => zw_fh W p g i = 0) (A := fun f i => mm_heldOf_2 F r (nI p) (nI g) f (nI i)) (fun f i hi hI => ?_) (fun f hI => ?_) F 0 (by omega) rfl (by omega)
  · have ht := hC.2.2.1 i hi
    have ho2 := ho.2.2.1 i hi
    have e : zw_fh W p g (i + 1) = if zw_ho W i = p + 1 ∧ zw_gd W i = g then i + 1 else 0 := by show (if zw_fh W p g i ≠ 0 then zw_fh W p g i else _) = _; rw [if_neg (by omega)]
    have x : mm_heldOf_2 F r (nI p) (nI g) (f + 1) (nI i) = if zw_ho W i = p + 1 ∧ zw_gd W i = g then some (nI i) else mm_heldOf_2 F r (nI p) (nI g) f (nI (i + 1)) := by
      show mm_heldOf_2_b F r (nI p) (nI g) _ (nI i) = _
      unfold mm_heldOf_2_b
      simp (disch := omega) only [↓reduceIte, nI_lit, z_sbind, z_rd, z_rl, z_rr, z_wr, z_wl, nI_add, z_mul, z_lt, z_le, z_eq, z_ltm1, z_m1lt, z_eqm1, z_m1eq, z_lem1, z_m1le, if_true, if_false, ite_true, ite_false, hC.1, hi, ht.1, ht.2.2.2.1, zE_n]
      by_cases h1 : zw_ho W i = p + 1 <;> by_cases h2 : zw_gd W i = g <;> simp [h1, h2]
    by_cases h : zw_ho W i = p + 1 ∧ zw_gd W i = g
    · left
      rw [if_pos h] at e x
      show mm_heldOf_2 F r (nI p) (nI g) (f + 1) (nI i) = _
      rw [x, zw_fh_st (m := i + 1) (by omega) (by omega), e, zE_s]
    · right
      rw [if_neg h] at e x
      exact ⟨e, x⟩
  · show mm_heldOf_2_b F r (nI p) (nI g) _ (nI (zw_n W)) = _
    unfold mm_heldOf_2_b
    simp (disch := omega) only [↓reduceIte, nI_lit, z_sbind, z_rd, z_rl, z_rr, z_wr, z_wl, nI_add, z_mul, z_lt, z_le, z_eq, z_ltm1, z_m1lt, z_eqm1, z_m1eq, z_lem1, z_m1le, if_true, if_false, ite_true, ite_false, hC.1, Nat.lt_irrefl, hI, zE_0]
/-- how many are held -/
def zw_held (W : zw_T) (p g n : Nat) : Nat := z_sum (fun t => if zw_ho W t = p + 1 ∧ zw_gd W t = g then 1 else 0) n
def zw_by (W : zw_T) (k n : Nat) : Nat := z_sum (fun t => if zw_ho W t = k then 1 else 0) n
theorem zw_held_le (W : zw_T) (p g n : Nat) : zw_held W p g n ≤ n := by
  have := z_sum_le (f := fun t => if zw_ho W t = p + 1 ∧ zw_gd W t = g then 1 else 0) (M := 1) (n := n) (fun i _ => by show (if zw_ho W i = p + 1 ∧ zw_gd W i = g then 1 else 0) ≤ 1; split <;> omega)
  unfold zw_held; omega
theorem zw_by_le (W : zw_T) (k n : Nat) : zw_by W k n ≤ n := by
  have := z_sum_le (f := fun t => if zw_ho W t = k then 1 else 0) (M := 1) (n := n) (fun i _ => by show (if zw_ho W i = k then 1 else 0) ≤ 1; split <;> omega)
  unfold zw_by; omega
theorem zw_C_held {L : zl_T} {W : zw_T} {c : g_St} {b F p g : Nat} (hC : zw_C L W c b) (ho : zw_ok L W) (hp : p < 8) (hg : g < 6) (h8 : zl_pp L ≤ 8 ∧ zl_gd L ≤ 6) (hF : 50 < F) : ow_held F b c (nI p) (nI g) = some (nI (zw_held W p g (zw_n W))) := by
  have h40 := ho.1
  unfold ow_held
  refine z_cnt0 (n := zw_n W) (A := fun f i => ow_held_5 F b c (nI p) (nI g) f (nI (zw_held W p g i)) (nI i)) (fun f i hi => ?_) (fun f => ?_) (by omega)
  · have ht := hC.2.2.1 i hi
    have ho2 := ho.2.2.1 i hi
    show ow_held_5_b F b c (nI p) (nI g) _ _ (nI i) = _
    unfold ow_held_5_b
    simp (disch := omega) only [↓reduceIte, nI_lit, z_sbind, z_rd, z_rl, z_rr, z_wr, z_wl, nI_add, z_mul, z_lt, z_le, z_eq, z_ltm1, z_m1lt, z_eqm1, z_m1eq, z_lem1, z_m1le, if_true, if_false, ite_true, ite_false, hC.1, hi, ht.1, ht.2.2.2.1, zE_n, zw_held, z_sum]
    by_cases h1 : zw_ho W i = p + 1 <;> by_cases h2 : zw_gd W i = g <;> simp [h1, h2]
  · show ow_held_5_b F b c (nI p) (nI g) _ _ (nI (zw_n W)) = _
    unfold ow_held_5_b
    simp (disch := omega) only [↓reduceIte, nI_lit, z_sbind, z_rd, z_rl, z_rr, z_wr, z_wl, nI_add, z_mul, z_lt, z_le, z_eq, z_ltm1, z_m1lt, z_eqm1, z_m1eq, z_lem1, z_m1le, if_true, if_false, ite_true, ite_false, hC.1, Nat.lt_irrefl]
theorem zw_C_by {L : zl_T} {W : zw_T} {c : g_St} {b F k : Nat} (hC : zw_C L W c b) (ho : zw_ok L W) (hk : k < 9) (h8 : zl_pp L ≤ 8) (hF : 50 < F) : ow_heldBy F b c (zE k) = some (nI (zw_by W k (zw_n W))) := by
  have h40 := ho.1
  unfold ow_heldBy
  refine z_cnt0 (n := zw_n W) (A := fun f i => ow_heldBy_4 F b c (zE k) f (nI (zw_by W k i)) (nI i)) (fun f i hi => ?_) (fun f => ?_) (by omega)
  · have ht := hC.2.2.1 i hi
    have ho2 := ho.2.2.1 i hi
    show ow_heldBy_4_b F b c (zE k) _ _ (nI i) = _
    unfold ow_heldBy_4_b
    simp (disch := omega) only [↓reduceIte, nI_lit, z_sbind, z_rd, z_rl, z_rr, z_wr, z_wl, nI_add, z_mul, z_lt, z_le, z_eq, z_ltm1, z_m1lt, z_eqm1, z_m1eq, z_lem1, z_m1le, if_true, if_false, ite_true, ite_false, hC.1, hi, ht.2.2.2.1, zE_inj, zw_by, z_sum]
    by_cases h1 : zw_ho W i = k <;> simp [h1]
  · show ow_heldBy_4_b F b c (zE k) _ _ (nI (zw_n W)) = _
    unfold ow_heldBy_4_b
    simp (disch := omega) only [↓reduceIte, nI_lit, z_sbind, z_rd, z_rl, z_rr, z_wr, z_wl, nI_add, z_mul, z_lt, z_le, z_eq, z_ltm1, z_m1lt, z_eqm1, z_m1eq, z_lem1, z_m1le, if_true, if_false, ite_true, ite_false, hC.1, Nat.lt_irrefl]
