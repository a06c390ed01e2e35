/-! Layer 2: the reference's counts; HAPPY -/
theorem zw_R_counts {L : zl_T} {W : zw_T} {r : g_St} {F : Nat} (hC : zw_R L W r) (ho : zw_ok L W) (h8 : zl_pp L ≤ 8 ∧ zl_gd L ≤ 6) (hF : 50 < F) : mm_counts F r = some (z_ta r 37 48 (fun j => nI (zw_held W (j / 6) (j % 6) (zw_n W)))) := by
  have h40 := ho.1
  have h2 : mm_counts_23 F F (nI 0) (z_ta r 37 48 (fun j => nI 0)) = some (z_ta r 37 48 (fun j => nI (zw_held W (j / 6) (j % 6) (zw_n W)))) := by
    refine z_cnt0 (n := zw_n W) (A := fun f i => mm_counts_23 F f (nI i) (z_ta r 37 48 (fun j => nI (zw_held W (j / 6) (j % 6) i)))) (fun f i hi => ?_) (fun f => ?_) (by omega)
    · have ht := hC.2.2.1 i hi
      have ho2 := ho.2.2.1 i hi
      show mm_counts_23_b F _ (nI i) _ = _
      have e0 : (z_ta r 37 48 (fun j => nI (zw_held W (j / 6) (j % 6) i))).1 0 = r.1 0 := z_ta_o (by omega)
      have e1 : (z_ta r 37 48 (fun j => nI (zw_held W (j / 6) (j % 6) i))).1 32 = r.1 32 := z_ta_o (by omega)
      have e2 : (z_ta r 37 48 (fun j => nI (zw_held W (j / 6) (j % 6) i))).1 29 = r.1 29 := z_ta_o (by omega)
      unfold mm_counts_23_b
      simp (disch := omega) only [↓reduceIte, nI_lit, z_sbind, z_rd, z_rl, z_rr, z_wr, z_wl, nI_add, z_mul, z_lt, z_le, z_eq, z_ltm1, z_m1lt, z_eqm1, z_m1eq, z_lem1, z_m1le, if_true, if_false, ite_true, ite_false, e0, e1, e2, hC.1, hi, ht.1, ht.2.2.2.1, zE_le0, ne_eq, ite_not]
      by_cases h0 : zw_ho W i = 0
      · rw [if_pos h0]
        have e3 : ∀ j, zw_held W (j / 6) (j % 6) (i + 1) = zw_held W (j / 6) (j % 6) i := by
          intro j; unfold zw_held; simp only [z_sum]; rw [if_neg (by omega)]; rfl
        simp only [e3]
      · rw [if_neg h0, zE_pos h0]
        have hk : 6 * (zw_ho W i - 1) + zw_gd W i < 48 := by omega
        have hl := zw_held_le W ((6 * (zw_ho W i - 1) + zw_gd W i) / 6) ((6 * (zw_ho W i - 1) + zw_gd W i) % 6) i
        simp (disch := omega) only [↓reduceIte, nI_lit, z_sbind, z_rd, z_rl, z_rr, z_wr, z_wl, nI_add, z_mul, z_lt, z_le, z_eq, z_ltm1, z_m1lt, z_eqm1, z_m1eq, z_lem1, z_m1le, if_true, if_false, ite_true, ite_false, z_ta_g, z_ta_s]
        congr 1
        apply z_ta_c
        intro j hj
        by_cases e : j = 6 * (zw_ho W i - 1) + zw_gd W i
        · rw [if_pos e]; subst e
          unfold zw_held; simp only [z_sum]; rw [if_pos (by omega)]
        · rw [if_neg e]
          unfold zw_held; simp only [z_sum]; rw [if_neg (by omega)]; rfl
    · show mm_counts_23_b F _ (nI (zw_n W)) _ = _
      have e0 : (z_ta r 37 48 (fun j => nI (zw_held W (j / 6) (j % 6) (zw_n W)))).1 0 = r.1 0 := z_ta_o (by omega)
      unfold mm_counts_23_b
      simp (disch := omega) only [↓reduceIte, nI_lit, z_sbind, z_rd, z_rl, z_rr, z_wr, z_wl, nI_add, z_mul, z_lt, z_le, z_eq, z_ltm1, z_m1lt, z_eqm1, z_m1eq, z_lem1, z_m1le, if_true, if_false, ite_true, ite_false, e0, hC.1, Nat.lt_irrefl]
  unfold mm_counts
  have h := z_cnt0 (n := 48) (X := some (z_ta r 37 48 (fun j => nI (zw_held W (j / 6) (j % 6) (zw_n W))))) (A := fun f i => mm_counts_2 F f (nI i) (z_fl r 37 i (nI 0))) (fun f i hi => ?_) (fun f => ?_) (F := F) (by omega)
  · simp only [z_fl_0] at h; exact h
  · show mm_counts_2_b F _ (nI i) _ = _
    unfold mm_counts_2_b
    simp (disch := omega) only [↓reduceIte, nI_lit, z_sbind, z_rd, z_rl, z_rr, z_wr, z_wl, nI_add, z_mul, z_lt, z_le, z_eq, z_ltm1, z_m1lt, z_eqm1, z_m1eq, z_lem1, z_m1le, if_true, if_false, ite_true, ite_false, hi, z_fl_s]
  · show mm_counts_2_b F _ (nI 48) _ = _
    unfold mm_counts_2_b
    simp (disch := omega) only [↓reduceIte, nI_lit, z_sbind, z_rd, z_rl, z_rr, z_wr, z_wl, nI_add, z_mul, z_lt, z_le, z_eq, z_ltm1, z_m1lt, z_eqm1, z_m1eq, z_lem1, z_m1le, if_true, if_false, ite_true, ite_false, Nat.lt_irrefl]
    exact h2
theorem zw_many {W : zw_T} {r : g_St} {p g : Nat} (hp : p < 8) (hg : g < 6) : (z_ta r 37 48 (fun j => nI (zw_held W (j / 6) (j % 6) (zw_n W)))).1 37 (6 * p + g) = nI (zw_held W p g (zw_n W)) := by
  rw [z_ta_g (by omega), show (6 * p + g) / 6 = p by omega, show (6 * p + g) % 6 = g by omega]
/-- WORTH of so many of a GOOD to one -/
def zl_ws (L : zl_T) (p g m : Nat) : Nat := z_sum (fun k => zl_wk L p g k) m
theorem zl_ws_le {L : zl_T} (ho : zl_ok L) {p g m : Nat} (hp : p < zl_pp L) (hg : g < 6) : zl_ws L p g m ≤ m * 999 := z_sum_le (fun k _ => zl_wk_le ho hp hg k)
theorem zl_C_some {L : zl_T} {c : g_St} {b F p g m : Nat} (hC : zl_C L c b) (ho : zl_ok L) (hp : p < zl_pp L) (hg : g < 6) (hm : m ≤ 40) (hF : 50 < F) : ol_worthOfSome F b c (nI p) (nI g) (nI m) = some (nI (zl_ws L p g m)) := by
  unfold ol_worthOfSome
  refine z_cnt (n := m) (fun i => i ≤ 3) (A := fun f i => ol_worthOfSome_6 F b c (nI p) (nI g) (nI m) f (nI (zl_ws L p g i)) (nI i)) (fun f i hi hI => ?_) (fun f hI => ?_) F 0 (by omega) (by omega) (by omega)
  · show ol_worthOfSome_6_b F b c (nI p) (nI g) (nI m) _ _ (nI i) = _ ∨ _ ∧ ol_worthOfSome_6_b F b c (nI p) (nI g) (nI m) _ _ (nI i) = _
    unfold ol_worthOfSome_6_b
    by_cases h3 : i < 3
    · right
      refine ⟨by omega, ?_⟩
      simp (disch := omega) only [↓reduceIte, nI_lit, z_sbind, z_rd, z_rl, z_rr, z_wr, z_wl, nI_add, z_mul, z_lt, z_le, z_eq, z_ltm1, z_m1lt, z_eqm1, z_m1eq, z_lem1, z_m1le, if_true, if_false, ite_true, ite_false, hi, h3, zl_C_wk hC ho hp hg, zl_ws, z_sum]
    · left
      have e : i = 3 := by omega
      subst e
      simp (disch := omega) only [↓reduceIte, nI_lit, z_sbind, z_rd, z_rl, z_rr, z_wr, z_wl, nI_add, z_mul, z_lt, z_le, z_eq, z_ltm1, z_m1lt, z_eqm1, z_m1eq, z_lem1, z_m1le, if_true, if_false, ite_true, ite_false, hi, Nat.lt_irrefl]
      have : zl_ws L p g m = zl_ws L p g 3 := z_sum_ext (by omega) (fun k h1 h2 => by show zl_wk L p g k = 0; unfold zl_wk; rw [if_neg (by omega)])
      rw [this]
  · show ol_worthOfSome_6_b F b c (nI p) (nI g) (nI m) _ _ (nI m) = _
    unfold ol_worthOfSome_6_b
    simp (disch := omega) only [↓reduceIte, nI_lit, z_sbind, z_rd, z_rl, z_rr, z_wr, z_wl, nI_add, z_mul, z_lt, z_le, z_eq, z_ltm1, z_m1lt, z_eqm1, z_m1eq, z_lem1, z_m1le, if_true, if_false, ite_true, ite_false, Nat.lt_irrefl]
/-- HAPPY -/
def zw_hap (L : zl_T) (W : zw_T) (p n : Nat) : Nat := z_sum (fun g => zl_ws L p g (zw_held W p g (zw_n W))) n
theorem zw_hap_le {L : zl_T} {W : zw_T} (ho : zl_ok L) (how : zw_ok L W) {p n : Nat} (hp : p < zl_pp L) (hn : n ≤ 6) : zw_hap L W p n ≤ n * 39960 := by
  refine z_sum_le (fun g hg => ?_)
  have h1 := zl_ws_le ho hp (g := g) (m := zw_held W p g (zw_n W)) (by omega)
  have h2 := zw_held_le W p g (zw_n W)
  have := how.1
  calc _ ≤ _ := h1
    _ ≤ 40 * 999 := Nat.mul_le_mul_right _ (by omega)
theorem zw_held_gd {L : zl_T} {W : zw_T} (how : zw_ok L W) {p g : Nat} (hg : zl_gd L ≤ g) : ∀ {n : Nat}, n ≤ zw_n W → zw_held W p g n = 0
  | 0, _ => rfl
  | n + 1, h => by
    have ih := zw_held_gd how (p := p) hg (n := n) (by omega)
    have := how.2.2.1 n (by omega)
    unfold zw_held at ih ⊢
    simp only [z_sum]; rw [ih, if_neg (by omega)]
theorem zw_hap_6 {L : zl_T} {W : zw_T} (ho : zl_ok L) (how : zw_ok L W) (p : Nat) : zw_hap L W p 6 = zw_hap L W p (zl_gd L) :=
  z_sum_ext ho.2.1 (fun g h1 _ => by show zl_ws L p g _ = 0; rw [zw_held_gd how h1 (Nat.le_refl _)]; rfl)
theorem zw_R_ws {L : zl_T} {W : zw_T} {r : g_St} {F p g a : Nat} {K4 : Int32 → Int32 → Option Int32} (hL : zl_R L r) (hm : ∀ p g, p < 8 → g < 6 → r.1 37 (6 * p + g) = nI (zw_held W p g (zw_n W))) (ho : zl_ok L) (how : zw_ok L W) (hp : p < zl_pp L) (hg : g < 6) (hF : 50 < F) : mm_happy_13 F r (nI p) (nI g) K4 F (nI a) (nI 0) = K4 (nI (a + zl_ws L p g (zw_held W p g (zw_n W)))) (nI (g + 1)) := by
  have h8 := ho.2.2.1
  have h40 := how.1
  have hh := zw_held_le W p g (zw_n W)
  have e := hm p g (by omega) hg
  have h := z_cnt0 (n := zw_held W p g (zw_n W)) (X := K4 (nI (a + zl_ws L p g (zw_held W p g (zw_n W)))) (nI (g + 1))) (A := fun f i => mm_happy_13 F r (nI p) (nI g) K4 f (nI (a + zl_ws L p g i)) (nI i)) (fun f i hi => ?_) (fun f => ?_) (F := F) (by omega)
  · exact h
  · show mm_happy_13_b F r (nI p) (nI g) K4 _ _ (nI i) = _
    unfold mm_happy_13_b
    simp (disch := omega) only [↓reduceIte, nI_lit, z_sbind, z_rd, z_rl, z_rr, z_wr, z_wl, nI_add, z_mul, z_lt, z_le, z_eq, z_ltm1, z_m1lt, z_eqm1, z_m1eq, z_lem1, z_m1le, if_true, if_false, ite_true, ite_false, e, hi, zl_R_wk hL ho hp hg, zl_ws, z_sum, Nat.add_assoc]
  · show mm_happy_13_b F r (nI p) (nI g) K4 _ _ (nI (zw_held W p g (zw_n W))) = _
    unfold mm_happy_13_b
    simp (disch := omega) only [↓reduceIte, nI_lit, z_sbind, z_rd, z_rl, z_rr, z_wr, z_wl, nI_add, z_mul, z_lt, z_le, z_eq, z_ltm1, z_m1lt, z_eqm1, z_m1eq, z_lem1, z_m1le, if_true, if_false, ite_true, ite_false, e, Nat.lt_irrefl]
theorem zw_R_happy {L : zl_T} {W : zw_T} {r : g_St} {F p : Nat} (hL : zl_R L r) (hm : ∀ p g, p < 8 → g < 6 → r.1 37 (6 * p + g) = nI (zw_held W p g (zw_n W))) (ho : zl_ok L) (how : zw_ok L W) (hp : p < zl_pp L) (hF : 50 < F) : mm_happy F r (nI p) = some (nI (zw_hap L W p (zl_gd L))) := by
  rw [← zw_hap_6 ho how]
  unfold mm_happy
  refine z_cnt0 (n := 6) (A := fun f i => mm_happy_4 F r (nI p) f (nI (zw_hap L W p i)) (nI i)) (fun f i hi => ?_) (fun f => ?_) (by omega)
  · show mm_happy_4_b F r (nI p) _ _ (nI i) = _
    unfold mm_happy_4_b
    simp (disch := omega) only [↓reduceIte, nI_lit, z_sbind, z_rd, z_rl, z_rr, z_wr, z_wl, nI_add, z_mul, z_lt, z_le, z_eq, z_ltm1, z_m1lt, z_eqm1, z_m1eq, z_lem1, z_m1le, if_true, if_false, ite_true, ite_false, hi]
    rw [zw_R_ws hL hm ho how hp hi hF]
    rfl
  · show mm_happy_4_b F r (nI p) _ _ (nI 6) = _
    unfold mm_happy_4_b
    simp (disch := omega) only [↓reduceIte, nI_lit, z_sbind, z_rd, z_rl, z_rr, z_wr, z_wl, nI_add, z_mul, z_lt, z_le, z_eq, z_ltm1, z_m1lt, z_eqm1, z_m1eq, z_lem1, z_m1le, if_true, if_false, ite_true, ite_false, Nat.lt_irrefl]
/-- how many one holds -/
theorem zw_by_sum {L : zl_T} {W : zw_T} (h6 : zl_gd L ≤ 6) (how : zw_ok L W) (p : Nat) : z_sum (fun g => zw_held W p g (zw_n W)) 6 = zw_by W (p + 1) (zw_n W) := by
  unfold zw_held zw_by
  rw [z_sum_swap]
  apply z_sum_congr
  intro t ht
  have := how.2.2.1 t ht
  by_cases h : zw_ho W t = p + 1
  · simp only [h, true_and, if_true]; exact z_sum_one (by omega)
  · simp only [h, false_and, if_false]; rfl
theorem zw_R_by {L : zl_T} {W : zw_T} {r : g_St} {F p : Nat} (hm : ∀ p g, p < 8 → g < 6 → r.1 37 (6 * p + g) = nI (zw_held W p g (zw_n W))) (h6 : zl_gd L ≤ 6) (how : zw_ok L W) (hp : p < 8) (hF : 50 < F) : mm_heldBy F r (nI p) = some (nI (zw_by W (p + 1) (zw_n W))) := by
  rw [← zw_by_sum h6 how]
  unfold mm_heldBy
  refine z_cnt0 (n := 6) (A := fun f i => mm_heldBy_4 F r (nI p) f (nI (z_sum (fun g => zw_held W p g (zw_n W)) i)) (nI i)) (fun f i hi => ?_) (fun f => ?_) (by omega)
  · have e := hm p i hp hi
    show mm_heldBy_4_b F r (nI p) _ _ (nI i) = _
    unfold mm_heldBy_4_b
    simp (disch := omega) only [↓reduceIte, nI_lit, z_sbind, z_rd, z_rl, z_rr, z_wr, z_wl, nI_add, z_mul, z_lt, z_le, z_eq, z_ltm1, z_m1lt, z_eqm1, z_m1eq, z_lem1, z_m1le, if_true, if_false, ite_true, ite_false, hi, e, z_sum]
  · show mm_heldBy_4_b F r (nI p) _ _ (nI 6) = _
    unfold mm_heldBy_4_b
    simp (disch := omega) only [↓reduceIte, nI_lit, z_sbind, z_rd, z_rl, z_rr, z_wr, z_wl, nI_add, z_mul, z_lt, z_le, z_eq, z_ltm1, z_m1lt, z_eqm1, z_m1eq, z_lem1, z_m1le, if_true, if_false, ite_true, ite_false, Nat.lt_irrefl]
