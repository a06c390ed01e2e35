/-! Layer 2: rounds anywhere: ROUND, MOST, LENGTH, AT -/
theorem z_in_all {L : zl_T} {s : Nat} (h : s < 2 ^ zl_pp L) : z_in s (zv_all L) := by
  unfold z_in zv_all
  rw [Nat.and_two_pow_sub_one_eq_mod]
  exact Nat.mod_eq_of_lt h
theorem zv_all_lt {L : zl_T} (ho : zl_ok L) : zv_all L < 256 := by
  have := zo_p28 ho
  have : 0 < (2 : Nat) ^ zl_pp L := Nat.two_pow_pos _
  unfold zv_all; omega
theorem zo_any {L : zl_T} {U : zu_T} {W : zw_T} {c r : g_St} {F : Nat} (h : zi_I L U W c r) (hF : 1010 < F) : ∃ c2, oo_anywhere F c = some c2 ∧ zi_I L U W c2 r ∧ zr_C (zc_X L U W (zv_all L) 0 (zw_lf W)) (zv_all L) 71 c2 := by
  have ho := h.1
  have how := h.2.1
  have hC := h.2.2.1
  have hbu := hC.2.1
  unfold g_isRule at hbu
  have hal := zv_all_lt ho
  have w1 : c.1 61 1 = nI (zw_lf W) := hC.2.2.2.2.2.1
  unfold oo_anywhere
  rcases h.2.2.2.2.2.2.2 with h14 | ⟨h14, hr⟩
  · rw [h14, if_pos z_e0, zo_all ho hC, z_sbind, w1]
    obtain ⟨ν, hν, n1, n2⟩ := zc_find (ds := 0) (br := 71) hC ho how (by omega) hal (by omega) how.2.1 hF
    have e : oo_findRounds F 71 (nI (zv_all L)) 0 (nI (zw_lf W)) c = some ν := hν
    rw [e, z_sbind, z_sbind]
    have kC : zi_kC c (g_sI ν 0 14 1) := zi_kC_trans (zi_kC_f n1 (fun id q => by unfold zc_id; omega)) zi_kC_14
    have n3 : zr_C (zc_X L U W (zv_all L) 0 (zw_lf W)) (zv_all L) 71 (g_sI ν 0 14 1) := zr_C_f n2 (fun k h1 h2 => z_sI_f (by omega))
    exact ⟨_, rfl, zi_C h kC (Or.inr ⟨z_sI_same _ _ _ _, n3⟩), n3⟩
  · rw [h14, if_neg z_e1]
    exact ⟨c, rfl, h, hr⟩
theorem zr_same_b {L : zl_T} {U : zu_T} {W : zw_T} {A ds lf br : Nat} {c r : g_St} (hA : A < 256) (h1 : zr_C (zc_X L U W A ds lf) A br c) (h2 : zr_b (zc_X L U W 255 ds lf) r) : ∃ b : Nat → Nat, (∀ s, s < 256 → b s < 100000) ∧ (∀ s, s < 256 → r.1 39 s = zE (b s)) ∧ (∀ s, s < 256 → z_in s A → c.1 (br + 6) s = zE (b s)) ∧ zx_up (zx_all (zc_X L U W 255 ds lf) 255) (fun _ => 0) b := by
  obtain ⟨b1, u1, c1, m1⟩ := h1
  obtain ⟨b2, u2, c2⟩ := h2
  have e : ∀ s, z_in s A → b1 s = b2 s := fun s hs => zx_up_at u1 u2 (fun w => zx_all_eq (zc_X_eq hA) rfl hA hs)
  exact ⟨b2, fun s hs => (c2 s hs).2, fun s hs => (c2 s hs).1, fun s hs hin => by rw [(c1 s hs).1, e s hin], u2⟩
theorem zo_rings {L : zl_T} {U : zu_T} {W : zw_T} {c r : g_St} {F : Nat} (h : zi_I L U W c r) (hF : 1010 < F) : ∃ μ r2, mm_laysOut F 0 r = some μ ∧ mm_rings F μ = some r2 ∧ zi_I L U W c r2 ∧ zr_b (zc_X L U W 255 0 (zw_lf W)) r2 := by
  obtain ⟨ν, hν, n1, n2, -⟩ := zr_rings (ds := 0) h.2.2.2.1 h.1 h.2.1 (by omega) hF
  have hν : (mm_laysOut F 0 r).bind (fun μ => mm_rings F μ) = some ν := hν
  cases hμ : mm_laysOut F 0 r with
  | none => rw [hμ] at hν; cases hν
  | some μ =>
    rw [hμ, z_sbind] at hν
    exact ⟨μ, ν, rfl, hν, zi_R h (zi_kR_f n1 (fun id q => by unfold zr_id; omega)), n2⟩
theorem zo_works {L : zl_T} {U : zu_T} {W : zw_T} {c r : g_St} {F ds : Nat} (h : zi_I L U W c r) (hds : ds < 256) (hF : 1010 < F) : ∃ r2, mm_works F (nI ds) r = some r2 ∧ zi_I L U W c r2 ∧ zr_R (zc_X L U W 255 ds (zw_lf W)) (zl_pp L) r2 := by
  obtain ⟨ν, hν, n1, n2⟩ := zr_works (ds := ds) h.2.2.2.1 h.1 h.2.1 hds hF
  exact ⟨ν, hν, zi_R h (zi_kR_f n1 (fun id q => by unfold zr_id; omega)), n2⟩
theorem zo_round {F : Nat} (hF : 4000 < F) {c r : g_St} (h : zi c r) (v1 : Int32) : zo_s c r (oo_round F v1 c) (mm_round F v1 r) := by
  obtain ⟨L, U, W, h⟩ := h
  have h0 := zo_0 h
  have ho := h.1
  have h28 := zo_p28 ho
  have hal := zv_all_lt ho
  unfold oo_round mm_round
  rw [z_sbind]
  generalize g_sI r 0 0 0 = r0 at h0 ⊢
  have p1 := zo_set h (v := v1)
  have q1 := zo_set h0 (v := v1)
  by_cases b1 : z_is v1 (2 ^ zl_pp L)
  · rw [(p1.1 b1).1, (q1.1 b1).2, z_sbind, z_sbind, if_neg z_e1, if_neg z_e1]
    obtain ⟨s, hs, rfl⟩ := b1
    obtain ⟨c2, e1, h2, z2⟩ := zo_any (F := F) h0 (by omega)
    obtain ⟨μ, r2, e2, e3, h3, z3⟩ := zo_rings (F := F) h2 (by omega)
    obtain ⟨b, b1, b2, b3, -⟩ := zr_same_b hal z2 z3
    have x1 : c2.1 77 s = zE (b s) := b3 s (by omega) (z_in_all hs)
    rw [e1, e2, z_sbind, z_sbind, e3, z_sbind, z_rd (by omega) (by omega), z_rd (by omega) (by omega), z_sbind, z_sbind, x1, b2 s (by omega)]
    exact zo_s_of rfl rfl h3
  · rw [(p1.2 b1).1, (q1.2 b1).2, z_sbind, z_sbind, if_pos z_e0, if_pos z_e0]; exact zo_s_of rfl rfl h0
theorem zo_most {F : Nat} (hF : 4000 < F) {c r : g_St} (h : zi c r) (v1 v2 : Int32) : zo_s c r (oo_most F v1 v2 c) (mm_most F v1 v2 r) := by
  obtain ⟨L, U, W, h⟩ := h
  have h0 := zo_0 h
  have ho := h.1
  have h28 := zo_p28 ho
  have hal := zv_all_lt ho
  unfold oo_most mm_most
  rw [z_sbind]
  generalize g_sI r 0 0 0 = r0 at h0 ⊢
  have p1 := zo_set h (v := v1)
  have q1 := zo_set h0 (v := v1)
  have w := zo_within (μ := r0) (v := v2) (n := 2) (by omega)
  by_cases b1 : z_is v1 (2 ^ zl_pp L)
  · rw [(p1.1 b1).1, (q1.1 b1).2, z_sbind, z_sbind, if_neg z_e1, if_neg z_e1, show (2 : Int32) = nI 2 from rfl]
    obtain ⟨s, hs, rfl⟩ := b1
    by_cases b2 : z_is v2 3
    · rw [w.1 b2, z_sbind, if_neg z_e1, (z_ask4 (by omega)).1 b2]
      obtain ⟨k, hk, rfl⟩ := b2
      obtain ⟨c2, e1, h2, z2⟩ := zo_any (F := F) h0 (by omega)
      obtain ⟨r2, e2, h3, z3⟩ := zo_works (F := F) (ds := 0) h2 (by omega) (by omega)
      have e2 : mm_works F 0 r0 = some r2 := e2
      obtain ⟨b, -, b2, b3, b4, b5⟩ := zr_same hal z2 z3
      have m := b4 s hs
      have d := b5 s (by omega) (z_in_all hs)
      have d1 : c2.1 78 s = nI (zm_f b 256 s).1 := d.1
      have d2 : c2.1 79 s = nI (zm_f b 256 s).2.1 := d.2.1
      have d3 : c2.1 80 s = nI (zm_f b 256 s).2.2 := d.2.2
      unfold zm_R at m
      rw [e1, e2, z_sbind, z_sbind]
      rcases (by omega : k = 0 ∨ k = 1 ∨ k = 2) with rfl | rfl | rfl
      · simp (disch := omega) only [nI_lit, z_eq, if_true, z_rd, z_sbind, d1, m.1]
        exact zo_s_of rfl rfl h3
      · simp (disch := omega) only [nI_lit, z_eq, show ¬ (1 = 0) by omega, if_true, if_false, z_rd, z_sbind, d2, m.2.1]
        exact zo_s_of rfl rfl h3
      · simp (disch := omega) only [nI_lit, z_eq, show ¬ (2 = 0) by omega, show ¬ (2 = 1) by omega, if_true, if_false, z_rd, z_sbind, d3, m.2.2]
        exact zo_s_of rfl rfl h3
    · rw [w.2 b2, z_sbind, if_pos z_e0, (z_ask4 (by omega)).2 b2]; exact zo_s_of rfl rfl h0
  · rw [(p1.2 b1).1, (q1.2 b1).2, z_sbind, z_sbind, if_pos z_e0, if_pos z_e0]; exact zo_s_of rfl rfl h0
/-- loops over the subsets of a set -/
theorem z_subs {α σ : Type} {A : Nat → Nat → σ → Option α} {s : Nat} {g : σ → Nat → σ} {R : σ → Option α} (I : σ → Prop)
    (hs : ∀ f p st, p ≠ 0 → p ≤ s → z_in p s → I st → A (f + 1) p st = A f ((p - 1) &&& s) (g st p)) (hI : ∀ st p, p ≤ s → I st → I (g st p)) (he : ∀ f st, I st → A (f + 1) 0 st = R st) :
    ∀ (f p : Nat) (st : σ), I st → p ≤ s → z_in p s → p < f → A f p st = R ((z_ss s p).foldl g st) := by
  intro f
  induction f with
  | zero => intro p st _ _ _ h; omega
  | succ f ih =>
    intro p st hi hp hin hf
    by_cases h : p = 0
    · subst h; rw [he f st hi]; rfl
    · have hand : (p - 1) &&& s ≤ p - 1 := Nat.and_le_left
      rw [hs f p st h hp hin hi, z_ss_s h, List.foldl_cons, ih _ _ (hI st p hp hi) (by omega) z_in_and (by omega)]
def zo_ln (b : Nat → Nat) (n p : Nat) : Nat := if b p = 0 then n else if n = 0 ∨ z_pc p + 1 < n then z_pc p + 1 else n
theorem zo_ln_le {b : Nat → Nat} {n p : Nat} (h : n ≤ 9) : zo_ln b n p ≤ 9 := by
  have := z_pc_le p
  unfold zo_ln
  repeat' split
  all_goals omega
theorem zo_length {F : Nat} (hF : 4000 < F) {c r : g_St} (h : zi c r) (v1 : Int32) : zo_s c r (oo_length F v1 c) (mm_length F v1 r) := by
  obtain ⟨L, U, W, h⟩ := h
  have h0 := zo_0 h
  have ho := h.1
  have h28 := zo_p28 ho
  have hal := zv_all_lt ho
  unfold oo_length mm_length
  rw [z_sbind]
  generalize g_sI r 0 0 0 = r0 at h0 ⊢
  have p1 := zo_set h (v := v1)
  have q1 := zo_set h0 (v := v1)
  by_cases b1 : z_is v1 (2 ^ zl_pp L)
  · rw [(p1.1 b1).1, (q1.1 b1).2, z_sbind, z_sbind, if_neg z_e1, if_neg z_e1]
    obtain ⟨s, hs, rfl⟩ := b1
    obtain ⟨c2, e1, h2, z2⟩ := zo_any (F := F) h0 (by omega)
    obtain ⟨μ, r2, e2, e3, h3, z3⟩ := zo_rings (F := F) h2 (by omega)
    obtain ⟨b, b1, b2, b3, -⟩ := zr_same_b hal z2 z3
    have hin := z_in_all hs
    rw [e1, e2, z_sbind, z_sbind, e3, z_sbind]
    have x1 : og_shortestIn F 71 c2 (nI s) = some (zE ((z_ss s s).foldl (zo_ln b) 0)) := by
      unfold og_shortestIn
      refine z_subs (A := fun f p n => og_shortestIn_4 F 71 c2 (nI s) f (zE n) (nI p)) (s := s) (g := zo_ln b) (R := fun n => some (zE n)) (fun n => n ≤ 9) (fun f p n hp hps hin2 hn => ?_) (fun n p _ hn => zo_ln_le hn) (fun f n hn => ?_) F s 0 (by omega) (Nat.le_refl _) (z_in_self _) (by omega)
      · show og_shortestIn_4_b F 71 c2 (nI s) _ (zE n) (nI p) = _
        have hp4 := z_pc_le p
        have bl := b1 p (by omega)
        have cb : c2.1 77 p = zE (b p) := b3 p (by omega) (z_in_trans hin2 hin)
        unfold og_shortestIn_4_b
        rw [if_pos (show (0 : Int32) < nI p from nI_lt (a := 0) (by omega) (by omega)), z_bc (by omega), z_sbind, z_rd (by omega) (by omega), z_sbind, cb]
        simp (disch := omega) only [nI_lit, zE_m1, z_sub, z_and]
        unfold zo_ln
        rw [← zE_s (z_pc p)]
        simp (disch := omega) only [zE_lt]
        by_cases q1 : b p = 0
        · rw [if_pos q1, if_pos q1]
        · rw [if_neg q1, if_neg q1]
          by_cases q2 : n = 0
          · rw [if_pos q2, if_pos (Or.inl q2)]
          · rw [if_neg q2]
            by_cases q3 : z_pc p + 1 < n
            · rw [if_pos q3, if_pos (Or.inr q3)]
            · rw [if_neg q3, if_neg (by omega)]
      · show og_shortestIn_4_b F 71 c2 (nI s) _ (zE n) (nI 0) = _
        unfold og_shortestIn_4_b
        rw [if_neg (by decide)]
    have x2 : mm_length_28 F (nI s) F (-1) (nI s) r2 = some (zE ((z_ss s s).foldl (zo_ln b) 0), r2) := by
      refine z_subs (A := fun f p n => mm_length_28 F (nI s) f (zE n) (nI p) r2) (s := s) (g := zo_ln b) (R := fun n => some (zE n, r2)) (fun n => n ≤ 9) (fun f p n hp hps hin2 hn => ?_) (fun n p _ hn => zo_ln_le hn) (fun f n hn => ?_) F s 0 (by omega) (Nat.le_refl _) (z_in_self _) (by omega)
      · show mm_length_28_b F (nI s) _ (zE n) (nI p) r2 = _
        have hp4 := z_pc_le p
        have bl := b1 p (by omega)
        unfold mm_length_28_b mm_length_53
        rw [if_pos (show (0 : Int32) < nI p from nI_lt (a := 0) (by omega) (by omega)), z_rd (by omega) (by omega), z_sbind, b2 p (by omega), z_bits (by omega) (by omega), z_sbind, z_sbind, ← zE_s (z_pc p)]
        simp (disch := omega) only [nI_lit, zE_le0, zE_lt, z_sub, z_and]
        unfold zo_ln
        by_cases q1 : b p = 0
        · rw [if_neg (fun q => q q1), if_pos q1]
        · rw [if_pos q1, if_neg q1]
          by_cases q2 : n = 0
          · rw [if_neg (fun q => q q2), if_pos (Or.inl q2)]
          · rw [if_pos q2]
            by_cases q3 : z_pc p + 1 < n
            · rw [if_pos q3, if_pos (Or.inr q3)]
            · rw [if_neg q3, if_neg (by omega)]
      · show mm_length_28_b F (nI s) _ (zE n) (nI 0) r2 = _
        unfold mm_length_28_b
        rw [if_neg (by decide)]
    rw [x1, x2, z_sbind]
    exact zo_s_of rfl rfl h3
  · rw [(p1.2 b1).1, (q1.2 b1).2, z_sbind, z_sbind, if_pos z_e0, if_pos z_e0]; exact zo_s_of rfl rfl h0
