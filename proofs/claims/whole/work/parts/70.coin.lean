/-! Layer 2: COIN -/
def zc_pk (L : zl_T) (g : Nat) (T : Nat → Nat) : Nat → Nat
  | 0 => 0
  | n + 1 => if zl_wk L (zc_pk L g T n) g (T (zc_pk L g T n)) < zl_wk L (n + 1) g (T (n + 1)) then n + 1 else zc_pk L g T n
theorem zc_pk_le {L : zl_T} {g : Nat} {T : Nat → Nat} : ∀ n, zc_pk L g T n ≤ n
  | 0 => Nat.le_refl 0
  | n + 1 => by
    have := zc_pk_le (L := L) (g := g) (T := T) n
    unfold zc_pk
    split <;> omega
def zc_gr (L : zl_T) (g : Nat) : Nat → (Nat → Nat) × Nat
  | 0 => (fun _ => 0, 0)
  | i + 1 => (fun j => if j = zc_pk L g (zc_gr L g i).1 (zl_pp L - 1) then (zc_gr L g i).1 j + 1 else (zc_gr L g i).1 j, (zc_gr L g i).2 + zl_wk L (zc_pk L g (zc_gr L g i).1 (zl_pp L - 1)) g ((zc_gr L g i).1 (zc_pk L g (zc_gr L g i).1 (zl_pp L - 1))))
theorem zc_gr_le {L : zl_T} {g : Nat} : ∀ i j, (zc_gr L g i).1 j ≤ i
  | 0, _ => Nat.le_refl 0
  | i + 1, j => by
    have := zc_gr_le (L := L) (g := g) i j
    show (if j = _ then (zc_gr L g i).1 j + 1 else (zc_gr L g i).1 j) ≤ i + 1
    split <;> omega
theorem zc_C_pick {L : zl_T} {U : zu_T} {W : zw_T} {c : g_St} {F g : Nat} {T : Nat → Nat} {v2 v3 v4 : Int32} {K : Int32 → Int32 → g_St → Option (Int32 × g_St)} (ho : zl_ok L) (hC : zk_C L U W c) (hT : ∀ j, j < 8 → c.1 99 j = nI (T j)) (hb : ∀ j, T j < 1000000) (hg : g < 6) (hp : 0 < zl_pp L) (hF : 50 < F) : oo_bestShared_25 F (nI g) v2 v3 v4 K F 0 1 c = K (v3 + nI (zl_wk L (zc_pk L g T (zl_pp L - 1)) g (T (zc_pk L g T (zl_pp L - 1))))) (v4 + 1) (g_sI c 99 (zc_pk L g T (zl_pp L - 1)) (nI (T (zc_pk L g T (zl_pp L - 1)) + 1))) := by
  have h8 := ho.2.2.1
  refine z_cnt0 (n := zl_pp L - 1) (A := fun f i => oo_bestShared_25 F (nI g) v2 v3 v4 K f (nI (zc_pk L g T i)) (nI (i + 1)) c) (fun f i hi => ?_) (fun f => ?_) (by omega)
  · show oo_bestShared_25_b F (nI g) v2 v3 v4 K _ (nI (zc_pk L g T i)) (nI (i + 1)) c = oo_bestShared_25 F (nI g) v2 v3 v4 K f (nI (zc_pk L g T (i + 1))) (nI (i + 1 + 1)) c
    have hl := zc_pk_le (L := L) (g := g) (T := T) i
    have b1 := hb (i + 1)
    have b2 := hb (zc_pk L g T i)
    have es : zc_pk L g T (i + 1) = if zl_wk L (zc_pk L g T i) g (T (zc_pk L g T i)) < zl_wk L (i + 1) g (T (i + 1)) then i + 1 else zc_pk L g T i := rfl
    have l1 := zl_wk_le ho (p := i + 1) (by omega) hg (T (i + 1))
    have l2 := zl_wk_le ho (p := zc_pk L g T i) (by omega) hg (T (zc_pk L g T i))
    unfold oo_bestShared_25_b
    rw [z_ql hC.1, z_sbind, hC.2.2.1.2.2.1, if_pos (nI_lt (by omega) (by omega)), z_sbind, z_rd (by omega) (by omega), z_sbind, hT _ (by omega), zl_C_wk hC.2.2.1 ho (by omega) hg (by omega), z_sbind, z_sbind, z_rd (by omega) (by omega), z_sbind, hT _ (by omega), zl_C_wk hC.2.2.1 ho (by omega) hg (by omega), z_sbind, nI_1, es]
    by_cases a : zl_wk L (zc_pk L g T i) g (T (zc_pk L g T i)) < zl_wk L (i + 1) g (T (i + 1))
    · rw [if_pos (nI_lt a (by omega)), if_pos a]
    · rw [if_neg (by rw [z_lt (by omega) (by omega)]; exact a), if_neg a]
  · show oo_bestShared_25_b F (nI g) v2 v3 v4 K _ (nI (zc_pk L g T (zl_pp L - 1))) (nI (zl_pp L - 1 + 1)) c = _
    have hl := zc_pk_le (L := L) (g := g) (T := T) (zl_pp L - 1)
    have b2 := hb (zc_pk L g T (zl_pp L - 1))
    unfold oo_bestShared_25_b
    rw [z_ql hC.1, z_sbind, hC.2.2.1.2.2.1, if_neg (by rw [z_lt (by omega) (by omega)]; omega), z_sbind, z_rd (by omega) (by omega), z_sbind, hT _ (by omega), zl_C_wk hC.2.2.1 ho (by omega) hg (by omega), z_sbind, z_sbind, z_wr (by omega) (by omega), z_sbind, nI_1]
theorem zc_R_pick {L : zl_T} {r : g_St} {F g : Nat} {T : Nat → Nat} {v2 v3 v4 : Int32} {K : Int32 → Int32 → g_St → Option (Int32 × g_St)} (ho : zl_ok L) (hR : zl_R L r) (hT : ∀ j, j < zl_pp L → r.1 46 j = nI (T j)) (hb : ∀ j, T j < 1000000) (hg : g < 6) (hp : 0 < zl_pp L) (hF : 50 < F) : mm_coinOf_98 F (nI g) v2 v3 v4 K F 0 1 r = K (v2 + (-1)) (v4 + nI (zl_wk L (zc_pk L g T (zl_pp L - 1)) g (T (zc_pk L g T (zl_pp L - 1))))) (g_sI r 46 (zc_pk L g T (zl_pp L - 1)) (nI (T (zc_pk L g T (zl_pp L - 1)) + 1))) := by
  have h8 := ho.2.2.1
  have rd4 : g_rd r 4 2 (0 : Int32) = some (nI (zl_pp L)) := by rw [show (0 : Int32) = nI 0 from rfl, z_rd (by omega) (by omega), hR.2.2.1]
  refine z_cnt0 (n := zl_pp L - 1) (A := fun f i => mm_coinOf_98 F (nI g) v2 v3 v4 K f (nI (zc_pk L g T i)) (nI (i + 1)) r) (fun f i hi => ?_) (fun f => ?_) (by omega)
  · show mm_coinOf_98_b F (nI g) v2 v3 v4 K _ (nI (zc_pk L g T i)) (nI (i + 1)) r = mm_coinOf_98 F (nI g) v2 v3 v4 K f (nI (zc_pk L g T (i + 1))) (nI (i + 1 + 1)) r
    have hl := zc_pk_le (L := L) (g := g) (T := T) i
    have b1 := hb (i + 1)
    have b2 := hb (zc_pk L g T i)
    have es : zc_pk L g T (i + 1) = if zl_wk L (zc_pk L g T i) g (T (zc_pk L g T i)) < zl_wk L (i + 1) g (T (i + 1)) then i + 1 else zc_pk L g T i := rfl
    have l1 := zl_wk_le ho (p := i + 1) (by omega) hg (T (i + 1))
    have l2 := zl_wk_le ho (p := zc_pk L g T i) (by omega) hg (T (zc_pk L g T i))
    unfold mm_coinOf_98_b
    rw [rd4, z_sbind, if_pos (nI_lt (by omega) (by omega)), z_rd (by omega) (by omega), z_sbind, hT _ (by omega), zl_R_wk hR ho (by omega) hg (by omega), z_sbind, z_rd (by omega) (by omega), z_sbind, hT _ (by omega), zl_R_wk hR ho (by omega) hg (by omega), z_sbind, nI_1, es]
    by_cases a : zl_wk L (zc_pk L g T i) g (T (zc_pk L g T i)) < zl_wk L (i + 1) g (T (i + 1))
    · rw [if_pos (nI_lt a (by omega)), if_pos a]
    · rw [if_neg (by rw [z_lt (by omega) (by omega)]; exact a), if_neg a]
  · show mm_coinOf_98_b F (nI g) v2 v3 v4 K _ (nI (zc_pk L g T (zl_pp L - 1))) (nI (zl_pp L - 1 + 1)) r = _
    have hl := zc_pk_le (L := L) (g := g) (T := T) (zl_pp L - 1)
    have b2 := hb (zc_pk L g T (zl_pp L - 1))
    unfold mm_coinOf_98_b
    rw [rd4, z_sbind, if_neg (by rw [z_lt (by omega) (by omega)]; omega), z_rd (by omega) (by omega), z_sbind, hT _ (by omega), zl_R_wk hR ho (by omega) hg (by omega), z_sbind, z_sbind, z_wr (by omega) (by omega), z_sbind, nI_1]
def zo_H (L : zl_T) (W : zw_T) (g n : Nat) : Nat := z_sum (fun p => zw_held W p g (zw_n W)) n
def zo_W (L : zl_T) (W : zw_T) (g n : Nat) : Nat := z_sum (fun p => zl_ws L p g (zw_held W p g (zw_n W))) n
def zo_cv (L : zl_T) (W : zw_T) (g : Nat) : Int32 := nI (zc_gr L g (zo_H L W g (zl_pp L))).2 - nI (zo_W L W g (zl_pp L))
theorem zo_H_le {L : zl_T} {W : zw_T} {g n : Nat} (h : zw_n W ≤ 40) (hn : n ≤ 8) : zo_H L W g n ≤ 320 := by
  have : zo_H L W g n ≤ n * 40 := z_sum_le (fun p _ => by have := zw_held_le W p g (zw_n W); show zw_held W p g (zw_n W) ≤ 40; omega)
  omega
theorem zo_H_0 {L : zl_T} {W : zw_T} {g : Nat} (h : zl_pp L = 0) : zo_H L W g (zl_pp L) = 0 := by rw [h]; rfl
theorem zc_C_coin {L : zl_T} {U : zu_T} {W : zw_T} {c : g_St} {F g : Nat} (ho : zl_ok L) (how : zw_ok L W) (hC : zk_C L U W c) (hg : g < 6) (hF : 400 < F) : z_w (oo_coinFor F (nI g) c) (fun y => y.1 = zo_cv L W g ∧ z_f (fun id => id ≠ 99) c y.2) := by
  have h8 := ho.2.2.1
  have h6 := ho.2.1
  have h40 := how.1
  have hH := zo_H_le (L := L) (W := W) (g := g) (n := zl_pp L) h40 h8
  have bs : z_w (oo_bestShared F (nI g) (nI (zo_H L W g (zl_pp L))) c) (fun y => y.1 = nI (zc_gr L g (zo_H L W g (zl_pp L))).2 ∧ z_f (fun id => id ≠ 99) c y.2) := by
    unfold oo_bestShared
    rw [show (0 : Int32) = nI 0 from rfl, z_fill c (by omega) (by omega), z_sbind]
    refine z_cw (n := zo_H L W g (zl_pp L)) (A := fun f i s => oo_bestShared_13 F (nI g) (nI (zo_H L W g (zl_pp L))) f (nI (zc_gr L g i).2) (nI i) s) (fun i s => z_f (fun id => id ≠ 99) c s ∧ ∀ j, j < 8 → s.1 99 j = nI ((zc_gr L g i).1 j)) ?_ ?_ F 0 _ (by omega) ⟨z_fl_f (P := fun id => id ≠ 99) (fun q => q rfl), fun j hj => by show (if 99 = 99 ∧ j < 8 then nI 0 else c.1 99 j) = nI 0; rw [if_pos ⟨rfl, hj⟩]⟩ (by omega)
    · intro f i s hi ⟨h1, h2⟩ hk
      have hp : 0 < zl_pp L := by
        refine Nat.pos_of_ne_zero (fun q => ?_)
        rw [zo_H_0 q] at hi; omega
      have hCs := zk_C_f hC ho h1 (fun id a b d => by omega)
      show z_w (oo_bestShared_13_b F (nI g) (nI (zo_H L W g (zl_pp L))) _ (nI (zc_gr L g i).2) (nI i) s) _
      unfold oo_bestShared_13_b
      rw [if_pos (nI_lt hi (by omega)), zc_C_pick (T := (zc_gr L g i).1) ho hCs h2 (fun j => by have := zc_gr_le (L := L) (g := g) i j; omega) hg hp (by omega), nI_1, nI_add]
      refine hk _ ⟨z_f_trans h1 (z_f_sI (P := fun id => id ≠ 99) (fun q => q rfl)) (fun _ q => q) (fun _ q => q), fun j hj => ?_⟩
      show _ = nI (if j = zc_pk L g (zc_gr L g i).1 (zl_pp L - 1) then (zc_gr L g i).1 j + 1 else (zc_gr L g i).1 j)
      by_cases e : j = zc_pk L g (zc_gr L g i).1 (zl_pp L - 1)
      · rw [if_pos e, ← e, z_sI_same]
      · rw [if_neg e, z_sI_k e]; exact h2 j hj
    · intro f s ⟨h1, h2⟩
      show z_w (oo_bestShared_13_b F (nI g) (nI (zo_H L W g (zl_pp L))) _ (nI (zc_gr L g (zo_H L W g (zl_pp L))).2) (nI (zo_H L W g (zl_pp L))) s) _
      unfold oo_bestShared_13_b
      rw [if_neg (by rw [z_lt (by omega) (by omega)]; omega)]
      exact z_w_some ⟨rfl, h1⟩
  obtain ⟨y, hy, y1, y2⟩ := bs
  refine z_w_eq (a := (zo_cv L W g, y.2)) ?_ ⟨rfl, y2⟩
  unfold oo_coinFor
  refine z_cnt0 (n := zl_pp L) (A := fun f i => oo_coinFor_7 F (nI g) f (nI (zo_H L W g i)) (nI (zo_W L W g i)) (nI i) c) (fun f i hi => ?_) (fun f => ?_) (by omega)
  · show oo_coinFor_7_b F (nI g) _ (nI (zo_H L W g i)) (nI (zo_W L W g i)) (nI i) c = oo_coinFor_7 F (nI g) f (nI (zo_H L W g (i + 1))) (nI (zo_W L W g (i + 1))) (nI (i + 1)) c
    have hh := zw_held_le W i g (zw_n W)
    unfold oo_coinFor_7_b
    rw [z_ql hC.1, z_sbind, hC.2.2.1.2.2.1, if_pos (nI_lt hi (by omega)), zw_C_held hC.2.2.2.2 how (by omega) hg ⟨h8, h6⟩ (by omega), z_sbind, z_sbind, zl_C_some hC.2.2.1 ho hi hg (by omega) (by omega), z_sbind, nI_add, nI_add, nI_1]
    rfl
  · show oo_coinFor_7_b F (nI g) _ (nI (zo_H L W g (zl_pp L))) (nI (zo_W L W g (zl_pp L))) (nI (zl_pp L)) c = _
    unfold oo_coinFor_7_b
    rw [z_ql hC.1, z_sbind, hC.2.2.1.2.2.1, if_neg (by rw [z_lt (by omega) (by omega)]; omega), hy, z_sbind, y1]
    rfl
theorem zc_R_coin {L : zl_T} {U : zu_T} {W : zw_T} {r : g_St} {F g : Nat} (ho : zl_ok L) (how : zw_ok L W) (hR : zk_R L U W r) (hm : ∀ p g, p < 8 → g < 6 → r.1 37 (6 * p + g) = nI (zw_held W p g (zw_n W))) (hg : g < 6) (hF : 400 < F) : z_w (mm_coinOf F (nI g) r) (fun y => y.1 = zo_cv L W g ∧ z_f (fun id => id ≠ 46) r y.2) := by
  have h8 := ho.2.2.1
  have h6 := ho.2.1
  have h40 := how.1
  have hH := zo_H_le (L := L) (W := W) (g := g) (n := zl_pp L) h40 h8
  unfold mm_coinOf
  refine z_cw (n := zl_pp L) (A := fun f i s => mm_coinOf_7 F (nI g) f (nI (zo_H L W g i)) (nI (zo_W L W g i)) (nI i) s) (fun i s => z_f (fun id => id ≠ 46) r s ∧ ∀ j, j < i → s.1 46 j = nI 0) ?_ ?_ F 0 r (by omega) ⟨z_f_refl, fun j hj => absurd hj (by omega)⟩ (by omega)
  · intro f i s hi ⟨h1, h2⟩ hk
    have hRs := zk_R_f hR h1 (fun id q => by omega)
    have rd4 : g_rd s 4 2 (0 : Int32) = some (nI (zl_pp L)) := by rw [show (0 : Int32) = nI 0 from rfl, z_rd (by omega) (by omega), hRs.1.2.2.1]
    have hh := zw_held_le W i g (zw_n W)
    have h1' : z_f (fun id => id ≠ 46) r (g_sI s 46 i 0) := z_f_trans h1 (z_f_sI (P := fun id => id ≠ 46) (fun q => q rfl)) (fun _ q => q) (fun _ q => q)
    have hRs' := zk_R_f hR h1' (fun id q => by omega)
    have e37 : (g_sI s 46 i 0).1 37 (6 * i + g) = nI (zw_held W i g (zw_n W)) := by rw [h1'.1 37 (by omega)]; exact hm i g (by omega) hg
    show z_w (mm_coinOf_7_b F (nI g) _ (nI (zo_H L W g i)) (nI (zo_W L W g i)) (nI i) s) _
    unfold mm_coinOf_7_b
    rw [rd4, z_sbind, if_pos (nI_lt hi (by omega)), z_wr (by omega) (by omega), z_sbind]
    have e := z_cnt0 (n := zw_held W i g (zw_n W)) (F := F) (X := mm_coinOf_7 F (nI g) f (nI (zo_H L W g (i + 1))) (nI (zo_W L W g (i + 1))) (nI (i + 1)) (g_sI s 46 i 0)) (A := fun f2 k => mm_coinOf_29 F (nI g) (nI (zo_H L W g i)) (nI i) (mm_coinOf_7 F (nI g) f) f2 (nI (zo_W L W g i + zl_ws L i g k)) (nI k) (g_sI s 46 i 0)) (fun f2 k hk2 => ?_) (fun f2 => ?_) (by omega)
    · have e : mm_coinOf_29 F (nI g) (nI (zo_H L W g i)) (nI i) (mm_coinOf_7 F (nI g) f) F (nI (zo_W L W g i)) 0 (g_sI s 46 i 0) = _ := e
      rw [e]
      refine hk _ ⟨h1', fun j hj => ?_⟩
      by_cases e2 : j = i
      · rw [e2, z_sI_same]; rfl
      · rw [z_sI_k e2]; exact h2 j (by omega)
    · show mm_coinOf_29_b F (nI g) (nI (zo_H L W g i)) (nI i) _ _ (nI (zo_W L W g i + zl_ws L i g k)) (nI k) (g_sI s 46 i 0) = _
      unfold mm_coinOf_29_b
      rw [show (6 : Int32) = nI 6 from rfl, z_mul, nI_add, z_rd (by omega) (by omega), z_sbind, e37, if_pos (nI_lt hk2 (by omega)), zl_R_wk hRs'.1 ho hi hg (by omega), z_sbind, nI_add, nI_1, Nat.add_assoc]
      rfl
    · show mm_coinOf_29_b F (nI g) (nI (zo_H L W g i)) (nI i) _ _ (nI (zo_W L W g i + zl_ws L i g (zw_held W i g (zw_n W)))) (nI (zw_held W i g (zw_n W))) (g_sI s 46 i 0) = _
      unfold mm_coinOf_29_b
      rw [show (6 : Int32) = nI 6 from rfl, z_mul, nI_add, z_rd (by omega) (by omega), z_sbind, e37, if_neg (by rw [z_lt (by omega) (by omega)]; omega), z_sbind, nI_add, nI_1]
      rfl
  · intro f s ⟨h1, h2⟩
    have hRs := zk_R_f hR h1 (fun id q => by omega)
    have rd4 : g_rd s 4 2 (0 : Int32) = some (nI (zl_pp L)) := by rw [show (0 : Int32) = nI 0 from rfl, z_rd (by omega) (by omega), hRs.1.2.2.1]
    show z_w (mm_coinOf_7_b F (nI g) _ (nI (zo_H L W g (zl_pp L))) (nI (zo_W L W g (zl_pp L))) (nI (zl_pp L)) s) _
    unfold mm_coinOf_7_b
    rw [rd4, z_sbind, if_neg (by rw [z_lt (by omega) (by omega)]; omega)]
    refine z_cw (n := zo_H L W g (zl_pp L)) (A := fun f i s => mm_coinOf_88 F (nI g) (nI (zo_W L W g (zl_pp L))) f (nI (zo_H L W g (zl_pp L) - i)) (nI (zc_gr L g i).2) s) (fun i s => z_f (fun id => id ≠ 46) r s ∧ ∀ j, j < zl_pp L → s.1 46 j = nI ((zc_gr L g i).1 j)) ?_ ?_ F 0 s (by omega) ⟨h1, h2⟩ (by omega)
    · intro f i s hi ⟨h1, h2⟩ hk
      have hp : 0 < zl_pp L := by
        refine Nat.pos_of_ne_zero (fun q => ?_)
        rw [zo_H_0 q] at hi; omega
      have hRs := zk_R_f hR h1 (fun id q => by omega)
      show z_w (mm_coinOf_88_b F (nI g) (nI (zo_W L W g (zl_pp L))) _ (nI (zo_H L W g (zl_pp L) - i)) (nI (zc_gr L g i).2) s) _
      unfold mm_coinOf_88_b
      rw [if_pos (show (0 : Int32) < nI (zo_H L W g (zl_pp L) - i) from nI_lt (a := 0) (by omega) (by omega)), zc_R_pick (T := (zc_gr L g i).1) ho hRs.1 h2 (fun j => by have := zc_gr_le (L := L) (g := g) i j; omega) hg hp (by omega), nI_add, show nI (zo_H L W g (zl_pp L) - i) + (-1 : Int32) = nI (zo_H L W g (zl_pp L) - (i + 1)) from by
        rw [show (-1 : Int32) = -nI 1 from rfl, ← Int32.sub_eq_add_neg, z_sub (by omega)]
        rfl]
      refine hk _ ⟨z_f_trans h1 (z_f_sI (P := fun id => id ≠ 46) (fun q => q rfl)) (fun _ q => q) (fun _ q => q), fun j hj => ?_⟩
      show _ = nI (if j = zc_pk L g (zc_gr L g i).1 (zl_pp L - 1) then (zc_gr L g i).1 j + 1 else (zc_gr L g i).1 j)
      by_cases e : j = zc_pk L g (zc_gr L g i).1 (zl_pp L - 1)
      · rw [if_pos e, ← e, z_sI_same]
      · rw [if_neg e, z_sI_k e]; exact h2 j hj
    · intro f s ⟨h1, h2⟩
      show z_w (mm_coinOf_88_b F (nI g) (nI (zo_W L W g (zl_pp L))) _ (nI (zo_H L W g (zl_pp L) - zo_H L W g (zl_pp L))) (nI (zc_gr L g (zo_H L W g (zl_pp L))).2) s) _
      unfold mm_coinOf_88_b
      rw [Nat.sub_self, if_neg (by decide)]
      exact z_w_some ⟨rfl, h1⟩
def zo_cs (L : zl_T) (W : zw_T) : Nat → Int32
  | 0 => 0
  | n + 1 => zo_cs L W n + zo_cv L W n
theorem zo_coin {F : Nat} (hF : 4000 < F) {c r : g_St} (h : zi c r) (v1 : Int32) : zo_s c r (oo_coin F v1 c) (mm_coin F v1 r) := by
  obtain ⟨L, U, W, h⟩ := h
  have h0 := zo_0 h
  have ho := h.1
  have how := h.2.1
  have h6 := ho.2.1
  unfold oo_coin mm_coin
  rw [z_sbind]
  generalize g_sI r 0 0 0 = r0 at h0 ⊢
  have p1 := zo_good h (v := v1)
  have q1 := zo_good h0 (v := v1)
  obtain ⟨r3, x3, h3, k3, f3, m3⟩ := zo_counts h0 (F := F) (by omega)
  have kf : ∀ {c2 r2 : g_St}, z_f (fun id => id ≠ 99) c c2 → z_f (fun id => id ≠ 46) r3 r2 → zi_I L U W c2 r2 := fun {c2 r2} z1 z2 =>
    zi_R (zi_C h3 (zi_kC_f z1 (fun id q => by omega)) (zi_ca_f h3.2.2.2.2.2.2.2 (by rw [z1.1 0 (by omega)]) (fun id a b => z1.1 id (by omega)))) (zi_kR_f z2 (fun id q => by omega))
  by_cases e : v1 = -1
  · rw [if_pos e, if_pos e]
    unfold mm_coin_20
    rw [x3, z_sbind, if_pos e]
    have xc : z_w (oo_coin_27 F F 0 0 c) (fun y => y.1 = zo_cs L W (zl_gd L) ∧ z_f (fun id => id ≠ 99) c y.2) := by
      refine z_cw (n := zl_gd L) (A := fun f i s => oo_coin_27 F f (zo_cs L W i) (nI i) s) (fun i s => z_f (fun id => id ≠ 99) c s) ?_ ?_ F 0 c (by omega) z_f_refl (by omega)
      · intro f i s hi hz hk
        have hCs := zk_C_f h.2.2.1 ho hz (fun id a b d => by omega)
        show z_w (oo_coin_27_b F _ (zo_cs L W i) (nI i) s) _
        unfold oo_coin_27_b
        rw [z_ql hCs.1, z_sbind, hCs.2.2.1.2.1, if_pos (nI_lt hi (by omega)), nI_1]
        refine z_w_call (zc_C_coin ho how hCs (by omega) (by omega)) (fun y hy => ?_)
        rw [hy.1]
        exact hk _ (z_f_trans hz hy.2 (fun _ q => q) (fun _ q => q))
      · intro f s hz
        have hCs := zk_C_f h.2.2.1 ho hz (fun id a b d => by omega)
        show z_w (oo_coin_27_b F _ (zo_cs L W (zl_gd L)) (nI (zl_gd L)) s) _
        unfold oo_coin_27_b
        rw [z_ql hCs.1, z_sbind, hCs.2.2.1.2.1, if_neg (by rw [z_lt (by omega) (by omega)]; omega)]
        exact z_w_some ⟨rfl, hz⟩
    have xr : z_w (mm_coin_39 F F 0 0 r3) (fun y => y.1 = zo_cs L W (zl_gd L) ∧ z_f (fun id => id ≠ 46) r3 y.2) := by
      refine z_cw (n := zl_gd L) (A := fun f i s => mm_coin_39 F f (zo_cs L W i) (nI i) s) (fun i s => z_f (fun id => id ≠ 46) r3 s) ?_ ?_ F 0 r3 (by omega) z_f_refl (by omega)
      · intro f i s hi hz hk
        have hRs := zk_R_f h3.2.2.2.1 hz (fun id q => by omega)
        have rd3 : g_rd s 3 2 (0 : Int32) = some (nI (zl_gd L)) := by rw [show (0 : Int32) = nI 0 from rfl, z_rd (by omega) (by omega), hRs.1.2.1]
        show z_w (mm_coin_39_b F _ (zo_cs L W i) (nI i) s) _
        unfold mm_coin_39_b
        rw [rd3, z_sbind, if_pos (nI_lt hi (by omega)), nI_1]
        refine z_w_call (zc_R_coin ho how hRs (fun p g a b => by rw [hz.1 37 (by omega)]; exact m3 p g a b) (by omega) (by omega)) (fun y hy => ?_)
        rw [hy.1]
        exact hk _ (z_f_trans hz hy.2 (fun _ q => q) (fun _ q => q))
      · intro f s hz
        have hRs := zk_R_f h3.2.2.2.1 hz (fun id q => by omega)
        have rd3 : g_rd s 3 2 (0 : Int32) = some (nI (zl_gd L)) := by rw [show (0 : Int32) = nI 0 from rfl, z_rd (by omega) (by omega), hRs.1.2.1]
        show z_w (mm_coin_39_b F _ (zo_cs L W (zl_gd L)) (nI (zl_gd L)) s) _
        unfold mm_coin_39_b
        rw [rd3, z_sbind, if_neg (by rw [z_lt (by omega) (by omega)]; omega)]
        exact z_w_some ⟨rfl, hz⟩
    obtain ⟨⟨x, c2⟩, hx, ex, zx⟩ := xc
    obtain ⟨⟨y, r2⟩, hy, ey, zy⟩ := xr
    have ex : x = zo_cs L W (zl_gd L) := ex
    have ey : y = zo_cs L W (zl_gd L) := ey
    subst ex
    subst ey
    exact zo_s_of hx hy (kf zx zy)
  · rw [if_neg e, if_neg e]
    by_cases b1 : z_is v1 (zl_gd L)
    · rw [(p1.1 b1).1, (q1.1 b1).2, z_sbind, z_sbind, if_neg z_e1, if_neg z_e1]
      unfold mm_coin_20
      rw [x3, z_sbind, if_neg e]
      obtain ⟨g, hg, rfl⟩ := b1
      obtain ⟨⟨x, c2⟩, hx, ex, zx⟩ := zc_C_coin (F := F) (g := g) ho how h.2.2.1 (by omega) (by omega)
      obtain ⟨⟨y, r2⟩, hy, ey, zy⟩ := zc_R_coin (F := F) (g := g) ho how h3.2.2.2.1 m3 (by omega) (by omega)
      have ex : x = zo_cv L W g := ex
      have ey : y = zo_cv L W g := ey
      subst ex
      subst ey
      rw [hx, hy, z_sbind, z_sbind]
      exact zo_s_of rfl rfl (kf zx zy)
    · rw [(p1.2 b1).1, (q1.2 b1).2, z_sbind, z_sbind, if_pos z_e0, if_pos z_e0]; exact zo_s_of rfl rfl h0
