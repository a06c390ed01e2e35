/-! Layer 2: YEARS, a WEEK drawn: the reference -/
def zy_I (L : zl_T) (U : zu_T) (lf n m : Nat) (v : Int64) (can : Nat → Nat → Nat → Bool) (r s : g_St) : Prop := zi_kR r s ∧ s.2.1 0 59 = v ∧ (∀ p g, p < 8 → g < 6 → s.1 37 (6 * p + g) = nI (zy_h L n m p g)) ∧ zj_can can s
theorem zy_R_row {L : zl_T} {U : zu_T} {W : zw_T} {r s : g_St} {F n p : Nat} {v : Int64} {Q : g_St → Prop} {K : Int32 → g_St → Option g_St} (ho : zl_ok L) (how : zw_ok L W) (hR : zk_R L U W r) (hp : p < zl_pp L) (h0 : zl_mk L p ≠ 0) (hF : 1010 < F)
    (hI : zy_I L U (zw_lf W) n (p + 1) v (zy_can L U (zw_lf W) n p) r s) (hk : ∀ s', zy_I L U (zw_lf W) n (p + 1) v (zy_can L U (zw_lf W) n (p + 1)) r s' → z_w (K (nI (p + 1)) s') Q) :
    z_w (mm_week_134 F (nI p) (nI (zy_g L n p)) K F 0 s) Q := by
  have h8 := ho.2.2.1
  have h6 := ho.2.1
  have gg := zy_gd (n := n) ho hp h0
  have p2 : (2 : Nat) ^ p < 256 := Nat.pow_lt_pow_right (n := 8) (by omega) (by omega)
  refine z_cw (n := zl_pp L) (A := fun f j s => mm_week_134 F (nI p) (nI (zy_g L n p)) K f (nI j) s) (fun j s => zy_I L U (zw_lf W) n (p + 1) v (zy_par L U (zw_lf W) n p j) r s) ?_ ?_ F 0 s (by omega) ⟨hI.1, hI.2.1, hI.2.2.1, fun p2 q g hp2 hq hg => ?_⟩ (by omega)
  · intro f j s2 hj ⟨b1, b2, b3, b4⟩ gk
    have hRs := zk_R_k hR b1
    have hlf := how.2.1
    show z_w (mm_week_134_b F (nI p) (nI (zy_g L n p)) K _ (nI j) s2) Q
    unfold mm_week_134_b
    rw [show g_rd s2 4 2 (0 : Int32) = some (s2.1 4 0) from z_rd (i := 0) (by omega) (by omega), z_sbind, hRs.1.2.2.1, if_pos (nI_lt hj (by omega)), nI_1]
    by_cases e : j = p
    · rw [if_pos (by rw [e])]
      refine gk s2 ⟨b1, b2, b3, fun p2 q g hp2 hq hg => ?_⟩
      rw [b4 p2 q g hp2 hq hg]; congr 2
      unfold zy_par
      by_cases e2 : p2 = p
      · rw [if_pos e2, if_pos e2]
        by_cases e3 : q = j
        · rw [zy_can_0 (by omega), Bool.and_false, Bool.and_false]
        · by_cases e4 : q < j
          · rw [decide_eq_true e4, decide_eq_true (show q < j + 1 by omega)]
          · rw [decide_eq_false e4, decide_eq_false (show ¬ q < j + 1 by omega)]
      · rw [if_neg e2, if_neg e2]
    · rw [if_neg (by rw [z_eq (by omega) (by omega)]; exact e), z_tp (by omega)]
      refine z_w_call (zf_R (so := 0) (dr := 0) (fr := z_bit (zw_lf W) (zy_g L n p)) hRs.1 hRs.2.1 ho hp hj gg.2.2.2.1 p2 (by omega) (z_bit_lt _ _) (hRs.2.2.2.1 _ (by omega)) hF) (fun x hx => ?_)
      obtain ⟨x1, x2⟩ := hx
      have kx := zi_kR_trans b1 (zi_kR_f x2 (fun id q => by unfold zf_idR; omega))
      have k37 : x.2.1 37 = s2.1 37 := x2.1 37 (by unfold zf_idR; omega)
      have k38 : x.2.1 38 = s2.1 38 := x2.1 38 (by unfold zf_idR; omega)
      have enz : g_nz x.1 = nI (zf_law L U p j (zy_g L n p) 0 (2 ^ p) 0 (z_bit (zw_lf W) (zy_g L n p))).toNat := by
        rw [x1]; cases zf_law L U p j (zy_g L n p) 0 (2 ^ p) 0 (z_bit (zw_lf W) (zy_g L n p)) <;> rfl
      rw [show (48 : Int32) = nI 48 from rfl, show (6 : Int32) = nI 6 from rfl, z_mul, z_mul, nI_add, nI_add, z_wr (by omega) (by omega), z_sbind, enz]
      refine gk _ ⟨zi_kR_trans kx (zi_kR_f (z_f_sI (P := zj_id) (by unfold zj_id; omega)) (fun id q => by unfold zj_id; omega)), by rw [show (g_sI x.2 38 (48 * p + 6 * j + zy_g L n p) (nI (zf_law L U p j (zy_g L n p) 0 (2 ^ p) 0 (z_bit (zw_lf W) (zy_g L n p))).toNat)).2 = x.2.2 from rfl, x2.2]; exact b2, fun p2 g hp2 hg => by rw [z_sI_id (by omega), k37]; exact b3 p2 g hp2 hg, fun p2 q g hp2 hq hg => ?_⟩
      by_cases e2 : p2 = p ∧ q = j
      · rw [e2.1, e2.2]
        have ez : zy_par L U (zw_lf W) n p (j + 1) p j g = zy_can L U (zw_lf W) n (p + 1) p j g := by
          unfold zy_par; rw [if_pos rfl, decide_eq_true (Nat.lt_succ_self j), Bool.true_and]
        rw [ez]
        by_cases e3 : g = zy_g L n p
        · rw [e3, z_sI_same]
          congr 2
          unfold zy_can
          rw [decide_eq_true (Nat.lt_succ_self p), decide_eq_true h0, decide_eq_true rfl, decide_eq_true hj, decide_eq_true (show p ≠ j from fun q => e q.symm)]
          rfl
        · rw [z_sI_k (by omega), k38, b4 p j g (by omega) (by omega) hg]
          congr 2
          rw [zy_can_0 (fun q => e3 q.2.2.1)]
          unfold zy_par; rw [if_pos rfl, decide_eq_false (Nat.lt_irrefl j), Bool.false_and]
      · rw [z_sI_k (by omega), k38, b4 p2 q g hp2 hq hg]
        congr 2
        unfold zy_par
        by_cases e3 : p2 = p
        · rw [if_pos e3, if_pos e3]
          by_cases e4 : q < j
          · rw [decide_eq_true e4, decide_eq_true (show q < j + 1 by omega)]
          · rw [decide_eq_false e4, decide_eq_false (show ¬ q < j + 1 by omega)]
        · rw [if_neg e3, if_neg e3]
  · intro f s2 ⟨b1, b2, b3, b4⟩
    have hRs := zk_R_k hR b1
    show z_w (mm_week_134_b F (nI p) (nI (zy_g L n p)) K _ (nI (zl_pp L)) s2) Q
    unfold mm_week_134_b
    rw [show g_rd s2 4 2 (0 : Int32) = some (s2.1 4 0) from z_rd (i := 0) (by omega) (by omega), z_sbind, hRs.1.2.2.1, if_neg (by rw [z_lt (by omega) (by omega)]; omega), nI_1]
    refine hk s2 ⟨b1, b2, b3, fun p2 q g hp2 hq hg => ?_⟩
    rw [b4 p2 q g hp2 hq hg, zy_par_e]
  · rw [hI.2.2.2 p2 q g hp2 hq hg, zy_par_0]
/-- rings, then the MOSTs -/
theorem zr_most {X : zx_T} {gd F : Nat} {r : g_St} (ho : zx_ok X gd) (hX : zj_X X r) (hF : 300 < F) : z_w ((mm_rings F r).bind fun μ => (mm_mosts F μ).bind fun ν => some ν) (fun ν => z_f zr_id r ν ∧ zr_R X (zx_pp X) ν) := by
  refine z_w_call (zj_rings ho hX hF) (fun μ hμ => ?_)
  obtain ⟨b, h1, h2, h3⟩ := hμ
  have hb1 : ∀ s, s < 256 → s ≠ 0 → b (z_lw s) = 0 := by
    intro s hs h0
    rcases (h2 (z_lw s)).2.2 with e | e
    · exact e
    · exact absurd e (zx_all_one ho hs h0)
  refine z_w_call (zm_mosts (F := F) (by rw [h3.1 4 (by unfold zj_P; omega)]; exact hX.1) ho.1 h1 hb1 hF) (fun ν hν => z_w_some ?_)
  exact ⟨z_f_trans h3 hν.1 (fun id q => by unfold zr_id at q; unfold zj_P; omega) (fun id q => by unfold zr_id at q; unfold zm_P; omega), b, h2, fun s hs => by rw [hν.1.1 39 (by unfold zm_P; omega)]; exact h1 s hs, hν.2⟩
theorem zy_R_week {L : zl_T} {U : zu_T} {W : zw_T} {r : g_St} {F n : Nat} (ho : zl_ok L) (how : zw_ok L W) (hR : zk_R L U W r) (hn : n < 2147483648) (he : r.2.1 0 59 = iL n) (hF : 1010 < F) :
    z_w (mm_week F r) (fun ν => zi_kR r ν ∧ ν.2.1 0 59 = iL (zy_sd L n (zl_pp L)) ∧ zr_R (zy_X L U (zw_lf W) n) (zl_pp L) ν) := by
  have h8 := ho.2.2.1
  have h6 := ho.2.1
  have s1 := z_cnt0 (n := 48) (F := F) (X := mm_week_23 F F 0 (z_fl r 37 48 (nI 0))) (A := fun f i => mm_week_2 F f (nI i) (z_fl r 37 i (nI 0))) (fun f i hi => by
    show mm_week_2_b F _ (nI i) _ = _
    unfold mm_week_2_b
    rw [show (48 : Int32) = nI 48 from rfl, if_pos (nI_lt hi (by omega)), z_wr hi (by omega), z_sbind, show (0 : Int32) = nI 0 from rfl, z_fl_s, nI_1]) (fun f => by
    show mm_week_2_b F _ (nI 48) _ = _
    unfold mm_week_2_b
    rw [if_neg (by decide)]) (by omega)
  simp only [z_fl_0] at s1
  generalize hr1 : z_fl r 37 48 (nI 0) = r1 at s1
  have s2 := z_cnt0 (n := 384) (F := F) (X := mm_week_45 F F 0 (z_fl r1 38 384 (nI 0))) (A := fun f i => mm_week_23 F f (nI i) (z_fl r1 38 i (nI 0))) (fun f i hi => by
    show mm_week_23_b F _ (nI i) _ = _
    unfold mm_week_23_b
    rw [show (384 : Int32) = nI 384 from rfl, if_pos (nI_lt hi (by omega)), z_wr hi (by omega), z_sbind, z_nz0, z_fl_s, nI_1]) (fun f => by
    show mm_week_23_b F _ (nI 384) _ = _
    unfold mm_week_23_b
    rw [if_neg (by decide)]) (by omega)
  simp only [z_fl_0] at s2
  have f1 : z_f zj_id r r1 := by rw [← hr1]; exact z_fl_f (P := zj_id) (by unfold zj_id; omega)
  have f2 : z_f zj_id r (z_fl r1 38 384 (nI 0)) := z_f_trans f1 (z_fl_f (P := zj_id) (by unfold zj_id; omega)) (fun _ q => q) (fun _ q => q)
  have c37 : ∀ j, j < 48 → (z_fl r1 38 384 (nI 0)).1 37 j = nI 0 := by
    intro j hj
    rw [show (z_fl r1 38 384 (nI 0)).1 37 = r1.1 37 from by rw [z_fl_ta]; exact z_ta_o (by omega), ← hr1]
    unfold z_fl; simp [hj]
  have c38 : ∀ j, j < 384 → (z_fl r1 38 384 (nI 0)).1 38 j = nI 0 := by
    intro j hj; unfold z_fl; simp [hj]
  unfold mm_week
  have s1 : mm_week_2 F F 0 r = _ := s1
  have s2 : mm_week_23 F F 0 r1 = _ := s2
  rw [s1, s2]
  generalize z_fl r1 38 384 (nI 0) = r2 at f2 c37 c38
  refine z_cw (n := zl_pp L) (A := fun f i s => mm_week_45 F f (nI i) s) (fun i s => zy_I L U (zw_lf W) n i (iL (zy_sd L n i)) (zy_can L U (zw_lf W) n i) r s) ?_ ?_ F 0 r2 (by omega) ⟨zi_kR_f f2 (fun id q => by unfold zj_id; omega), by rw [f2.2]; exact he, fun p g hp hg => ?_, fun p q g hp hq hg => ?_⟩ (by omega)
  · intro f i s hi hI hk
    obtain ⟨a1, a2, a3, a4⟩ := hI
    have hRs := zk_R_k hR a1
    have b12 := (hRs.1.2.2.2.2.2 i hi).2.1
    have es : zy_sd L n (i + 1) = if zl_mk L i = 0 then zy_sd L n i else zy_s (zy_sd L n i) := rfl
    have mk := (ho.2.2.2.2.2 i hi).2.1
    have p6 : (2 : Nat) ^ zl_gd L ≤ 64 := Nat.pow_le_pow_right (n := 2) (by omega) h6
    have sl := zy_sd_lt (L := L) hn i
    show z_w (mm_week_45_b F _ (nI i) s) _
    unfold mm_week_45_b
    rw [show g_rd s 4 2 (0 : Int32) = some (s.1 4 0) from z_rd (i := 0) (by omega) (by omega), z_sbind, hRs.1.2.2.1, if_pos (nI_lt hi (by omega)), z_rd (by omega) (by omega), z_sbind, z_sbind, b12]
    by_cases h0 : zl_mk L i = 0
    · rw [if_pos (show nI (zl_mk L i) = (0 : Int32) from by rw [h0]; rfl), nI_1]
      rw [if_pos h0] at es
      refine hk s ⟨a1, by rw [es]; exact a2, fun p2 g hp2 hg => ?_, fun p2 q g hp2 hq hg => ?_⟩
      · rw [a3 p2 g hp2 hg, zy_h_s, if_neg (fun q => by rw [q.1] at q; exact q.2.1 h0)]
      · rw [a4 p2 q g hp2 hq hg]; congr 2
        by_cases e : p2 = i
        · rw [e, zy_can_0 (by omega), zy_can_0 (fun q => q.2.1 h0)]
        · rw [zy_can_n e]
    · rw [if_neg h0] at es
      have gg := zy_gd (n := n) ho hi h0
      have pc := (zy_pc0 _ gg.2.2.1).resolve_left h0
      rw [if_neg (show ¬ nI (zl_mk L i) = (0 : Int32) from by show ¬ _ = nI 0; rw [z_eq (by omega) (by omega)]; exact h0), z_bits (by omega) (by omega), z_sbind, zy_draws sl (by omega) a2, z_sbind]
      dsimp only
      rw [zy_R (a := zl_mk L i) (p := i) (r := g_sL s 0 59 (iL (zy_s (zy_sd L n i)))) gg.2.2.1 gg.1 (by omega) (by omega) b12 (by omega)]
      have eg : zy_at (zl_mk L i) (zy_d (zy_sd L n i) (z_pc (zl_mk L i))) = zy_g L n i := rfl
      rw [eg]
      refine zy_R_row (v := iL (zy_s (zy_sd L n i))) ho how hR hi h0 hF ⟨zi_kR_trans a1 ⟨fun id q => ?_, ?_, ?_, ?_⟩, ?_, fun p2 g hp2 hg => ?_, fun p2 q g hp2 hq hg => ?_⟩ (fun s' hs' => hk s' (by rw [es]; exact hs'))
      · rw [z_sI_f (by omega)]; rfl
      · rw [z_sI_id (by omega)]; rfl
      · rw [z_sI_id (by omega)]; rfl
      · rw [z_sI_id (by omega)]; rfl
      · show (g_sL s 0 59 (iL (zy_s (zy_sd L n i)))).2.1 0 59 = _
        rw [z_sL, if_pos ⟨rfl, rfl⟩]
      · rw [zy_h_s]
        by_cases e : p2 = i ∧ g = zy_g L n i
        · rw [e.1, e.2, z_sI_same, if_pos ⟨rfl, h0, rfl⟩]; rfl
        · rw [z_sI_k (by omega), if_neg (fun q => e ⟨q.1, by rw [← q.1]; exact q.2.2⟩)]; exact a3 p2 g hp2 hg
      · rw [z_sI_id (by omega)]; exact a4 p2 q g hp2 hq hg
  · intro f s hI
    obtain ⟨a1, a2, a3, a4⟩ := hI
    have hRs := zk_R_k hR a1
    show z_w (mm_week_45_b F _ (nI (zl_pp L)) s) _
    unfold mm_week_45_b
    rw [show g_rd s 4 2 (0 : Int32) = some (s.1 4 0) from z_rd (i := 0) (by omega) (by omega), z_sbind, hRs.1.2.2.1, if_neg (by rw [z_lt (by omega) (by omega)]; omega)]
    have hX : zj_X (zy_X L U (zw_lf W) n) s := zj_gains hRs.1 ho (fun p g hp hg => ⟨a3 p g hp hg, by unfold zy_h; split <;> omega⟩) a4
    refine z_w_mono (zr_most (zx_mk_ok ho (zy_can_ok ho)) hX (by omega)) (fun ν hν => ⟨zi_kR_trans a1 (zi_kR_f hν.1 (fun id q => by unfold zr_id; omega)), by rw [hν.1.2]; exact a2, hν.2⟩)
  · rw [c37 _ (by omega)]; unfold zy_h; rw [if_neg (by omega)]
  · rw [c38 _ (by omega), zy_can_0 (by omega)]; rfl
