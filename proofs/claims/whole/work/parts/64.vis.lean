/-! Layer 2: who is VISITED, COUNT -/
theorem zx_cd_out {X : zx_T} {gd j : Nat} (ho : zx_ok X gd) (hj : zx_pp X ≤ j) : ∀ {n ring first gave one got gain s w : Nat}, ring.testBit j = false → zx_cd X n ring first gave one got gain s w → s.testBit j = false := by
  intro n
  induction n with
  | zero => rintro ring first gave one got gain s w hr ⟨rfl, -⟩; exact hr
  | succ n ih =>
    rintro ring first gave one got gain s w hr (⟨rfl, -⟩ | ⟨q, g, h1, h2, h3, h4, h5⟩)
    · exact hr
    · have := ho.2.2.1 _ _ _ h3
      exact ih (by rw [Nat.testBit_or, hr, Nat.testBit_two_pow, decide_eq_false (by omega)]; rfl) h5
theorem zx_all_out {X : zx_T} {gd j A s w : Nat} (ho : zx_ok X gd) (hj : zx_pp X ≤ j) (h : zx_all X A s w) : s.testBit j = false := by
  obtain ⟨f, h1, h2, q, g, h3, h4, h5⟩ := h
  have := ho.2.2.1 _ _ _ h4
  exact zx_cd_out ho hj (by rw [Nat.testBit_or, Nat.testBit_two_pow, Nat.testBit_two_pow, decide_eq_false (by omega), decide_eq_false (by omega)]; rfl) h5
theorem zr_same_c {L : zl_T} {U : zu_T} {W : zw_T} {ds lf br : Nat} {c r : g_St} (ho : zl_ok L) (how : zw_ok L W) (h1 : zr_C (zc_X L U W (zv_all L) ds lf) (zv_all L) br c) (h2 : zr_b (zc_X L U W 255 ds lf) r) : ∃ b : Nat → Nat, (∀ s, s < 256 → b s < 100000) ∧ (∀ s, s < 256 → r.1 39 s = zE (b s)) ∧ (∀ s, s < 256 → c.1 (br + 6) s = zE (b s)) ∧ ∀ s j, s.testBit j = true → zl_pp L ≤ j → b s = 0 := by
  obtain ⟨b1, u1, c1, m1⟩ := h1
  obtain ⟨b2, u2, c2⟩ := h2
  have hA := zv_all_lt ho
  have n1 : ∀ s j, s.testBit j = true → zl_pp L ≤ j → b1 s = 0 := by
    intro s j h3 h4
    rcases (u1 s).2.2 with e | e
    · exact e
    · have := zx_all_out (zc_X_ok ho how) (j := j) h4 e; rw [h3] at this; cases this
  have n2 : ∀ s j, s.testBit j = true → zl_pp L ≤ j → b2 s = 0 := by
    intro s j h3 h4
    rcases (u2 s).2.2 with e | e
    · exact e
    · have := zx_all_out (zc_X_ok ho how) (j := j) h4 e; rw [h3] at this; cases this
  refine ⟨b2, fun s hs => (c2 s hs).2, fun s hs => (c2 s hs).1, fun s hs => ?_, n2⟩
  rw [(c1 s hs).1]
  by_cases hin : z_in s (zv_all L)
  · rw [zx_up_at u1 u2 (fun w => zx_all_eq (zc_X_eq hA) rfl hA hin)]
  · have : ∃ j, s.testBit j = true ∧ zl_pp L ≤ j := by
      refine Classical.byContradiction (fun hn => hin ?_)
      rw [z_in_tb]
      intro i hi
      unfold zv_all
      rw [Nat.testBit_two_pow_sub_one]
      exact decide_eq_true (Nat.lt_of_not_le (fun q => hn ⟨i, hi, q⟩))
    obtain ⟨j, j1, j2⟩ := this
    rw [n1 s j j1 j2, n2 s j j1 j2]
def zv_pv (b : Nat → Nat) (i n : Nat) : Nat := z_sum (fun j => if j = i then 0 else if b (2 ^ i ||| 2 ^ j) = 0 then 0 else 1) n
theorem zv_pv_le (b : Nat → Nat) (i n : Nat) : zv_pv b i n ≤ n := by
  have := z_sum_le (f := fun j => if j = i then 0 else if b (2 ^ i ||| 2 ^ j) = 0 then 0 else 1) (M := 1) (n := n) (fun j _ => by show (if j = i then 0 else if b (2 ^ i ||| 2 ^ j) = 0 then 0 else 1) ≤ 1; repeat' split
                                                                                                                                  all_goals omega)
  unfold zv_pv; omega
def zv_vis (L : zl_T) (b : Nat → Nat) : Nat → Nat
  | 0 => 0
  | n + 1 => if zv_pv b (zv_vis L b n) (zl_pp L) < zv_pv b (n + 1) (zl_pp L) then n + 1 else zv_vis L b n
theorem zv_vis_le {L : zl_T} {b : Nat → Nat} : ∀ n, zv_vis L b n ≤ n
  | 0 => Nat.le_refl 0
  | n + 1 => by
    have := zv_vis_le (L := L) (b := b) n
    unfold zv_vis
    split <;> omega
theorem z_two8 {i j : Nat} (hi : i < 8) (hj : j < 8) : 2 ^ i ||| 2 ^ j < 256 := Nat.or_lt_two_pow (n := 8) (Nat.pow_lt_pow_right (by omega) hi) (Nat.pow_lt_pow_right (by omega) hj)
theorem z_tw {i : Nat} (hi : i < 8) : (2 : Nat) ^ i < 256 := Nat.pow_lt_pow_right (n := 8) (by omega) hi
theorem zo_C_pairs {L : zl_T} {c : g_St} {b : Nat → Nat} {F i : Nat} (ho : zl_ok L) (hb : ∀ s, s < 256 → b s < 100000) (hc : ∀ s, s < 256 → c.1 77 s = zE (b s)) (h0 : ∀ s j, s.testBit j = true → zl_pp L ≤ j → b s = 0) (hi : i < 8) (hF : 20 < F) : og_pairsOf F 71 c (nI i) = some (nI (zv_pv b i (zl_pp L))) := by
  have h8 := ho.2.2.1
  have e : zv_pv b i (zl_pp L) = zv_pv b i 8 := (z_sum_ext h8 (fun j h1 h2 => by
    show (if j = i then 0 else if b (2 ^ i ||| 2 ^ j) = 0 then 0 else 1) = 0
    rw [h0 _ j (by rw [Nat.testBit_or, Nat.testBit_two_pow_self, Bool.or_true]) h1]
    split <;> rfl)).symm
  rw [e]
  unfold og_pairsOf
  refine z_cnt0 (n := 8) (A := fun f j => og_pairsOf_4 F 71 c (nI i) f (nI (zv_pv b i j)) (nI j)) (fun f j hj => ?_) (fun f => ?_) (by omega)
  · show og_pairsOf_4_b F 71 c (nI i) _ (nI (zv_pv b i j)) (nI j) = og_pairsOf_4 F 71 c (nI i) f (nI (zv_pv b i (j + 1))) (nI (j + 1))
    have es : zv_pv b i (j + 1) = zv_pv b i j + (if j = i then 0 else if b (2 ^ i ||| 2 ^ j) = 0 then 0 else 1) := rfl
    have s8 := z_two8 hi hj
    have cb : c.1 77 (2 ^ i ||| 2 ^ j) = zE (b (2 ^ i ||| 2 ^ j)) := hc _ s8
    have bl := hb _ s8
    unfold og_pairsOf_4_b
    simp (disch := omega) only [nI_lit, z_lt, hj, if_true, z_eq, nI_add, z_and, z_or, z_xor, z_n31, z_shr, z_shl1, z_bit_and, z_andn, z_rd, z_sbind, cb, zE_m1, es]
    by_cases a1 : j = i
    · rw [if_pos a1, if_pos a1]
    · rw [if_neg a1, if_neg a1]
      by_cases a2 : b (2 ^ i ||| 2 ^ j) = 0
      · rw [if_pos a2, if_pos a2]
      · rw [if_neg a2, if_neg a2]
  · show og_pairsOf_4_b F 71 c (nI i) _ (nI (zv_pv b i 8)) (nI 8) = _
    unfold og_pairsOf_4_b
    rw [if_neg (by decide)]
theorem zo_R_pairs {L : zl_T} {r : g_St} {b : Nat → Nat} {F i : Nat} {v1 v2 : Int32} {K : Int32 → Int32 → Int32 → g_St → Option (Int32 × g_St)} (ho : zl_ok L) (hpp : r.1 4 0 = nI (zl_pp L)) (hb : ∀ s, s < 256 → b s < 100000) (hc : ∀ s, s < 256 → r.1 39 s = zE (b s)) (hi : i < 8) (hF : 20 < F) : mm_visited_36 F v1 v2 (nI i) K F 0 0 r = (if 0 ≤ v1 then if nI (zv_pv b i (zl_pp L)) ≤ v2 then K v1 v2 (nI (i + 1)) r else K (nI i) (nI (zv_pv b i (zl_pp L))) (nI (i + 1)) r else K (nI i) (nI (zv_pv b i (zl_pp L))) (nI (i + 1)) r) := by
  have h8 := ho.2.2.1
  refine z_cnt0 (n := zl_pp L) (A := fun f j => mm_visited_36 F v1 v2 (nI i) K f (nI (zv_pv b i j)) (nI j) r) (fun f j hj => ?_) (fun f => ?_) (by omega)
  · show mm_visited_36_b F v1 v2 (nI i) K _ (nI (zv_pv b i j)) (nI j) r = mm_visited_36 F v1 v2 (nI i) K f (nI (zv_pv b i (j + 1))) (nI (j + 1)) r
    have es : zv_pv b i (j + 1) = zv_pv b i j + (if j = i then 0 else if b (2 ^ i ||| 2 ^ j) = 0 then 0 else 1) := rfl
    have s8 := z_two8 hi (show j < 8 by omega)
    have cb := hc _ s8
    have bl := hb _ s8
    unfold mm_visited_36_b
    rw [show (0 : Int32) = nI 0 from rfl, z_rd (by omega) (by omega), z_sbind, hpp, if_pos (nI_lt hj (by omega))]
    simp (disch := omega) only [nI_lit, z_eq, nI_add, z_and, z_or, z_xor, z_n31, z_shr, z_shl1, z_bit_and, z_andn, z_rd, z_sbind, cb, zE_le0, es]
    by_cases a1 : j = i
    · rw [if_pos a1, if_pos a1]
    · rw [if_neg a1, if_neg a1]
      by_cases a2 : b (2 ^ i ||| 2 ^ j) = 0
      · rw [if_neg (fun q => q a2), if_pos a2]
      · rw [if_pos a2, if_neg a2]
  · show mm_visited_36_b F v1 v2 (nI i) K _ (nI (zv_pv b i (zl_pp L))) (nI (zl_pp L)) r = _
    unfold mm_visited_36_b
    rw [show g_rd r 4 2 (0 : Int32) = some (r.1 4 0) from z_rd (i := 0) (by omega) (by omega), z_sbind, hpp, if_neg (by rw [z_lt (by omega) (by omega)]; omega), nI_1]
theorem zo_any2 {L : zl_T} {U : zu_T} {W : zw_T} {c c2 r : g_St} {F : Nat} (h : zi_I L U W c r) (e1 : oo_anywhere F c = some c2) : oo_anywhere F c2 = some c2 := by
  unfold oo_anywhere
  have : c2.1 0 14 = nI 1 := by
    unfold oo_anywhere at e1
    by_cases q : c.1 0 14 = 0
    · rw [if_pos q] at e1
      cases q2 : oo_everybody c with
      | none => rw [q2] at e1; cases e1
      | some x =>
        rw [q2, z_sbind] at e1
        cases q3 : oo_findRounds F 71 x 0 (c.1 61 1) c with
        | none => rw [q3] at e1; cases e1
        | some y => rw [q3, z_sbind, z_sbind] at e1; cases e1; exact z_sI_same _ _ _ _
    · rw [if_neg q] at e1
      cases e1
      exact (h.2.2.2.2.2.2.2).elim (fun q2 => absurd q2 q) (fun q2 => q2.1)
  rw [this, if_neg z_e1]
theorem zo_rings2 {L : zl_T} {U : zu_T} {W : zw_T} {r : g_St} {F : Nat} (hR : zk_R L U W r) (ho : zl_ok L) (how : zw_ok L W) (hF : 1010 < F) : ∃ μ r2, mm_laysOut F 0 r = some μ ∧ mm_rings F μ = some r2 ∧ (∀ {c : g_St}, zi_I L U W c r → zi_I L U W c r2) ∧ zr_b (zc_X L U W 255 0 (zw_lf W)) r2 := by
  obtain ⟨ν, hν, n1, n2, -⟩ := zr_rings (ds := 0) hR ho how (by omega) hF
  have hν : (mm_laysOut F 0 r).bind (fun μ => mm_rings F μ) = some ν := hν
  cases hμ : mm_laysOut F 0 r with
  | none => rw [hμ] at hν; cases hν
  | some μ =>
    rw [hμ, z_sbind] at hν
    exact ⟨μ, ν, rfl, hν, fun h => zi_R h (zi_kR_f n1 (fun id q => by unfold zr_id; omega)), n2⟩
theorem zo_visited {F : Nat} (hF : 4000 < F) {c r : g_St} (h : zi c r) : zo_s c r (oo_visited F c) (mm_visited F r) := by
  obtain ⟨L, U, W, h⟩ := h
  have h0 := zo_0 h
  have ho := h.1
  have how := h.2.1
  have h8 := ho.2.2.1
  unfold oo_visited mm_visited
  rw [z_sbind]
  generalize g_sI r 0 0 0 = r0 at h0 ⊢
  obtain ⟨c2, e1, h2, z2⟩ := zo_any (F := F) h0 (by omega)
  have any2 := zo_any2 h0 e1
  obtain ⟨μ, r2, e2, e3, hkk, z3⟩ := zo_rings2 (F := F) h2.2.2.2.1 ho how (by omega)
  have h3 := hkk h2
  obtain ⟨b, b1, b2, b3, b4⟩ := zr_same_c ho how z2 z3
  rw [e2, z_sbind, e3, z_sbind]
  have rpp := h3.2.2.2.1.1.2.2.1
  obtain ⟨F', rfl⟩ : ∃ k, F = k + 1 := ⟨F - 1, by omega⟩
  by_cases hp0 : zl_pp L = 0
  · have x1 : oo_visited_6 (F' + 1) (F' + 1) (-1) 0 0 c = some (-1, c) := by
      show oo_visited_6_b (F' + 1) _ (-1) 0 0 c = _
      unfold oo_visited_6_b
      rw [z_ql h.2.2.1.1, z_sbind, h.2.2.1.2.2.1.2.2.1, hp0, if_neg (by decide)]
    have x2 : mm_visited_20 (F' + 1) (F' + 1) (-1) 0 0 r2 = some (-1, r2) := by
      show mm_visited_20_b (F' + 1) _ (-1) 0 0 r2 = _
      unfold mm_visited_20_b
      rw [show g_rd r2 4 2 (0 : Int32) = some (r2.1 4 0) from z_rd (i := 0) (by omega) (by omega), z_sbind, rpp, hp0, if_neg (by decide)]
    exact zo_s_of x1 x2 (hkk h0)
  · obtain ⟨np, hnp⟩ : ∃ np, zl_pp L = np + 1 := ⟨zl_pp L - 1, by omega⟩
    have cst : ∀ (cx : g_St), zi_I L U W cx r0 → oo_anywhere (F' + 1) cx = some c2 → ∀ (f : Nat) (v1 v2 : Int32) (i : Nat), i < zl_pp L → oo_visited_6 (F' + 1) (f + 1) v1 v2 (nI i) cx = (if v1 = -1 then oo_visited_6 (F' + 1) f (nI i) (nI (zv_pv b i (zl_pp L))) (nI (i + 1)) c2 else if v2 < nI (zv_pv b i (zl_pp L)) then oo_visited_6 (F' + 1) f (nI i) (nI (zv_pv b i (zl_pp L))) (nI (i + 1)) c2 else oo_visited_6 (F' + 1) f v1 v2 (nI (i + 1)) c2) := by
      intro cx hx ex f v1 v2 i hi
      show oo_visited_6_b (F' + 1) _ v1 v2 (nI i) cx = _
      unfold oo_visited_6_b
      rw [z_ql hx.2.2.1.1, z_sbind, hx.2.2.1.2.2.1.2.2.1, if_pos (nI_lt hi (by omega)), ex, z_sbind, zo_C_pairs ho b1 b3 b4 (by omega) (by omega), z_sbind, nI_1]
    have x1 : oo_visited_6 (F' + 1) (F' + 1) (-1) 0 0 c = some (nI (zv_vis L b np), c2) := by
      have s1 := cst c h0 e1 F' (-1 : Int32) (0 : Int32) 0 (by omega)
      have s1 : oo_visited_6 (F' + 1) (F' + 1) (-1) 0 0 c = oo_visited_6 (F' + 1) F' (nI 0) (nI (zv_pv b 0 (zl_pp L))) (nI 1) c2 := by rw [if_pos rfl] at s1; exact s1
      rw [s1]
      have hz := z_cnt0 (n := np) (X := some (nI (zv_vis L b np), c2)) (A := fun f i => oo_visited_6 (F' + 1) f (nI (zv_vis L b i)) (nI (zv_pv b (zv_vis L b i) (zl_pp L))) (nI (i + 1)) c2) (F := F') (fun f i hi => ?_) (fun f => ?_) (by omega)
      · exact hz
      · have hl := zv_vis_le (L := L) (b := b) i
        have l1 := zv_pv_le b (zv_vis L b i) (zl_pp L)
        have l2 := zv_pv_le b (i + 1) (zl_pp L)
        have s2 := cst c2 h2 any2 f (nI (zv_vis L b i)) (nI (zv_pv b (zv_vis L b i) (zl_pp L))) (i + 1) (by omega)
        refine s2.trans ?_
        show _ = oo_visited_6 (F' + 1) f (nI (zv_vis L b (i + 1))) (nI (zv_pv b (zv_vis L b (i + 1)) (zl_pp L))) (nI (i + 1 + 1)) c2
        have es : zv_vis L b (i + 1) = if zv_pv b (zv_vis L b i) (zl_pp L) < zv_pv b (i + 1) (zl_pp L) then i + 1 else zv_vis L b i := rfl
        rw [if_neg (show ¬ nI (zv_vis L b i) = -1 from fun q => by have : nI (zv_vis L b i) = -nI 1 := q; rwa [z_eqm1 (by omega)] at this), es]
        by_cases a : zv_pv b (zv_vis L b i) (zl_pp L) < zv_pv b (i + 1) (zl_pp L)
        · rw [if_pos (nI_lt a (by omega)), if_pos a]
        · rw [if_neg (by rw [z_lt (by omega) (by omega)]; exact a), if_neg a]
      · show oo_visited_6_b (F' + 1) _ (nI (zv_vis L b np)) _ (nI (np + 1)) c2 = _
        unfold oo_visited_6_b
        rw [z_ql h2.2.2.1.1, z_sbind, h2.2.2.1.2.2.1.2.2.1, hnp, if_neg (by rw [z_lt (by omega) (by omega)]; omega)]
    have rst : ∀ (f : Nat) (v1 v2 : Int32) (i : Nat), i < zl_pp L → mm_visited_20 (F' + 1) (f + 1) v1 v2 (nI i) r2 = (if 0 ≤ v1 then if nI (zv_pv b i (zl_pp L)) ≤ v2 then mm_visited_20 (F' + 1) f v1 v2 (nI (i + 1)) r2 else mm_visited_20 (F' + 1) f (nI i) (nI (zv_pv b i (zl_pp L))) (nI (i + 1)) r2 else mm_visited_20 (F' + 1) f (nI i) (nI (zv_pv b i (zl_pp L))) (nI (i + 1)) r2) := by
      intro f v1 v2 i hi
      show mm_visited_20_b (F' + 1) _ v1 v2 (nI i) r2 = _
      unfold mm_visited_20_b
      rw [show g_rd r2 4 2 (0 : Int32) = some (r2.1 4 0) from z_rd (i := 0) (by omega) (by omega), z_sbind, rpp, if_pos (nI_lt hi (by omega)), zo_R_pairs ho rpp b1 b2 (by omega) (by omega)]
    have x2 : mm_visited_20 (F' + 1) (F' + 1) (-1) 0 0 r2 = some (nI (zv_vis L b np), r2) := by
      have s1 := rst F' (-1 : Int32) (0 : Int32) 0 (by omega)
      have s1 : mm_visited_20 (F' + 1) (F' + 1) (-1) 0 0 r2 = mm_visited_20 (F' + 1) F' (nI 0) (nI (zv_pv b 0 (zl_pp L))) (nI 1) r2 := by rw [if_neg (by decide)] at s1; exact s1
      rw [s1]
      have hz := z_cnt0 (n := np) (X := some (nI (zv_vis L b np), r2)) (A := fun f i => mm_visited_20 (F' + 1) f (nI (zv_vis L b i)) (nI (zv_pv b (zv_vis L b i) (zl_pp L))) (nI (i + 1)) r2) (F := F') (fun f i hi => ?_) (fun f => ?_) (by omega)
      · exact hz
      · have hl := zv_vis_le (L := L) (b := b) i
        have l1 := zv_pv_le b (zv_vis L b i) (zl_pp L)
        have l2 := zv_pv_le b (i + 1) (zl_pp L)
        have s2 := rst f (nI (zv_vis L b i)) (nI (zv_pv b (zv_vis L b i) (zl_pp L))) (i + 1) (by omega)
        refine s2.trans ?_
        show _ = mm_visited_20 (F' + 1) f (nI (zv_vis L b (i + 1))) (nI (zv_pv b (zv_vis L b (i + 1)) (zl_pp L))) (nI (i + 1 + 1)) r2
        have es : zv_vis L b (i + 1) = if zv_pv b (zv_vis L b i) (zl_pp L) < zv_pv b (i + 1) (zl_pp L) then i + 1 else zv_vis L b i := rfl
        rw [if_pos (nI_pos' (by omega)), es]
        by_cases a : zv_pv b (zv_vis L b i) (zl_pp L) < zv_pv b (i + 1) (zl_pp L)
        · rw [if_neg (by rw [z_le (by omega) (by omega)]; omega), if_pos a]
        · rw [if_pos (nI_le (by omega) (by omega)), if_neg a]
      · show mm_visited_20_b (F' + 1) _ (nI (zv_vis L b np)) _ (nI (np + 1)) r2 = _
        unfold mm_visited_20_b
        rw [show g_rd r2 4 2 (0 : Int32) = some (r2.1 4 0) from z_rd (i := 0) (by omega) (by omega), z_sbind, rpp, hnp, if_neg (by rw [z_lt (by omega) (by omega)]; omega)]
    exact zo_s_of x1 x2 h3
