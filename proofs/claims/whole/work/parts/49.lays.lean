/-! Layer 2: the reference lays out what may be given -/
def zk_R (L : zl_T) (U : zu_T) (W : zw_T) (r : g_St) : Prop := zl_R L r ∧ zu_R U r ∧ zw_R L W r
theorem zk_R_f {L : zl_T} {U : zu_T} {W : zw_T} {r r2 : g_St} {P : Nat → Prop} (h : zk_R L U W r) (hz : z_f P r r2) (hP : ∀ id, (id < 19 ∨ (28 < id ∧ id < 37)) → P id) : zk_R L U W r2 := by
  obtain ⟨h1, h2, h3⟩ := h
  unfold zk_R zl_R zu_R zw_R at *
  rw [hz.1 0 (hP _ (by omega)), hz.1 2 (hP _ (by omega)), hz.1 3 (hP _ (by omega)), hz.1 4 (hP _ (by omega)), hz.1 8 (hP _ (by omega)), hz.1 9 (hP _ (by omega)), hz.1 10 (hP _ (by omega)), hz.1 11 (hP _ (by omega)), hz.1 12 (hP _ (by omega)), hz.1 13 (hP _ (by omega)), hz.1 14 (hP _ (by omega)), hz.1 15 (hP _ (by omega)), hz.1 16 (hP _ (by omega)), hz.1 29 (hP _ (by omega)), hz.1 30 (hP _ (by omega)), hz.1 31 (hP _ (by omega)), hz.1 32 (hP _ (by omega)), hz.1 33 (hP _ (by omega)), hz.1 34 (hP _ (by omega)), hz.1 35 (hP _ (by omega)), hz.1 36 (hP _ (by omega))]
  exact ⟨h1, h2, h3⟩
theorem z_nz1 : g_nz (1 : Int32) = nI 1 := rfl
theorem z_nz0 : g_nz (0 : Int32) = nI 0 := rfl
def zj_id (id : Nat) : Prop := id < 19 ∨ (28 < id ∧ id ≠ 37 ∧ id ≠ 38)
def zj_can (f : Nat → Nat → Nat → Bool) (r : g_St) : Prop := ∀ p q g, p < 8 → q < 8 → g < 6 → r.1 38 (48 * p + 6 * q + g) = nI (f p q g).toNat
def zc_par (L : zl_T) (U : zu_T) (W : zw_T) (A ds lf i j p q g : Nat) : Bool := zc_can L U W A ds lf i p q g || (decide (q < j) && zc_hit L U W A ds lf i p q g)
theorem zc_par_0 {L : zl_T} {U : zu_T} {W : zw_T} {A ds lf i p q g : Nat} : zc_par L U W A ds lf i 0 p q g = zc_can L U W A ds lf i p q g := by
  unfold zc_par; rw [decide_eq_false (by omega), Bool.false_and, Bool.or_false]
theorem zc_par_s {L : zl_T} {U : zu_T} {W : zw_T} {A ds lf i j p q g : Nat} : zc_par L U W A ds lf i (j + 1) p q g = (zc_par L U W A ds lf i j p q g || (decide (q = j) && zc_hit L U W A ds lf i p q g)) := by
  unfold zc_par
  by_cases h : q = j
  · subst h; rw [decide_eq_false (Nat.lt_irrefl q), decide_eq_true (Nat.lt_succ_self q), decide_eq_true rfl, Bool.false_and, Bool.or_false]
  · rw [decide_eq_false h, Bool.false_and, Bool.or_false]
    by_cases e5 : q < j
    · rw [decide_eq_true e5, decide_eq_true (by omega)]
    · rw [decide_eq_false e5, decide_eq_false (by omega)]
theorem zc_par_e {L : zl_T} {U : zu_T} {W : zw_T} {A ds lf i p q g : Nat} : zc_par L U W A ds lf i (zl_pp L) p q g = zc_can L U W A ds lf (i + 1) p q g := by
  show (zc_can L U W A ds lf i p q g || (decide (q < zl_pp L) && zc_hit L U W A ds lf i p q g)) = (zc_can L U W A ds lf i p q g || zc_hit L U W A ds lf i p q g)
  cases e : zc_hit L U W A ds lf i p q g with
  | false => rw [Bool.and_false]
  | true => rw [decide_eq_true (zc_hit_t e).2.2.2.2.2.1, Bool.true_and]
theorem zj_lays {L : zl_T} {U : zu_T} {W : zw_T} {r : g_St} {F ds : Nat} (hk0 : zk_R L U W r) (ho : zl_ok L) (how : zw_ok L W) (hds : ds < 256) (hF : 1010 < F) :
    z_w (mm_laysOut F (nI ds) r) (fun ν => z_f zj_id r ν ∧ (∀ p g, p < 8 → g < 6 → ν.1 37 (6 * p + g) = nI (zw_held W p g (zw_n W))) ∧ zj_can (zc_can L U W 255 ds (zw_lf W) (zw_n W)) ν) := by
  have h8 := ho.2.2.1
  have h6 := ho.2.1
  have h40 := how.1
  unfold mm_laysOut
  rw [zw_R_counts hk0.2.2 how ⟨h8, h6⟩ (by omega), z_sbind]
  generalize hr1 : z_ta r 37 48 (fun j => nI (zw_held W (j / 6) (j % 6) (zw_n W))) = r1
  have g37 : ∀ p g, p < 8 → g < 6 → r1.1 37 (6 * p + g) = nI (zw_held W p g (zw_n W)) := fun p g hp hg => by rw [← hr1]; exact zw_many hp hg
  have f1 : z_f zj_id r r1 := by rw [← hr1]; exact z_ta_f (fun q => by unfold zj_id at q; omega)
  -- the loop over the THINGS
  have things : z_w (mm_laysOut_28 F (nI ds) F (nI 0) (z_fl r1 38 384 (nI 0))) (fun ν => z_f zj_id r ν ∧ (∀ p g, p < 8 → g < 6 → ν.1 37 (6 * p + g) = nI (zw_held W p g (zw_n W))) ∧ zj_can (zc_can L U W 255 ds (zw_lf W) (zw_n W)) ν) := by
    have f2 : z_f zj_id r (z_fl r1 38 384 (nI 0)) := z_f_trans f1 (z_fl_f (P := zj_id) (fun q => by unfold zj_id at q; omega)) (fun _ q => q) (fun _ q => q)
    have k2 : ∀ p g, p < 8 → g < 6 → (z_fl r1 38 384 (nI 0)).1 37 (6 * p + g) = nI (zw_held W p g (zw_n W)) := fun p g hp hg => by rw [show (z_fl r1 38 384 (nI 0)).1 37 = r1.1 37 from by rw [z_fl_ta]; exact z_ta_o (by omega)]; exact g37 p g hp hg
    refine z_cw (n := zw_n W) (A := fun n i s => mm_laysOut_28 F (nI ds) n (nI i) s) (fun i s => z_f zj_id r s ∧ (∀ p g, p < 8 → g < 6 → s.1 37 (6 * p + g) = nI (zw_held W p g (zw_n W))) ∧ zj_can (zc_can L U W 255 ds (zw_lf W) i) s) ?_ ?_ F 0 _ (by omega) ⟨f2, k2, fun p q g hp hq hg => ?_⟩ (by omega)
    · intro n i s hi hI hk
      obtain ⟨a1, a2, a3⟩ := hI
      have hks := zk_R_f hk0 a1 (fun id q => by unfold zj_id; omega)
      have wi := hks.2.2.2.2.1 i hi
      have oi := how.2.2.1 i hi
      show z_w (mm_laysOut_28_b F (nI ds) _ (nI i) s) _
      unfold mm_laysOut_28_b
      rw [hks.2.2.1, if_pos (nI_lt hi (by omega)), z_rd (by omega) (by omega), z_sbind, wi.2.2.2.1, show (0 : Int32) = nI 0 from rfl]
      refine z_cw (n := zl_pp L) (A := fun m j s => mm_laysOut_46 F (nI ds) (nI i) (zE (zw_ho W i)) (mm_laysOut_28 F (nI ds) n) m (nI j) s) (fun j s => z_f zj_id r s ∧ (∀ p g, p < 8 → g < 6 → s.1 37 (6 * p + g) = nI (zw_held W p g (zw_n W))) ∧ zj_can (zc_par L U W 255 ds (zw_lf W) i j) s) ?_ ?_ F 0 s (by omega) ⟨a1, a2, fun p q g hp hq hg => ?_⟩ (by omega)
      · intro m j s2 hj hI2 hk2
        obtain ⟨b1, b2, b3⟩ := hI2
        have hks2 := zk_R_f hk0 b1 (fun id q => by unfold zj_id; omega)
        have wi2 := hks2.2.2.2.2.1 i hi
        show z_w (mm_laysOut_46_b F (nI ds) (nI i) (zE (zw_ho W i)) _ _ (nI j) s2) _
        unfold mm_laysOut_46_b
        rw [show (0 : Int32) = nI 0 from rfl, z_rd (by omega) (by omega), z_sbind, hks2.1.2.2.1, if_pos (nI_lt hj (by omega))]
        simp only [zE_le0 (show zw_ho W i < 2147483648 by omega)]
        by_cases h0 : zw_ho W i = 0
        · rw [if_neg (fun q => q h0), nI_1]
          refine hk s2 ⟨b1, b2, fun p q g hp hq hg => ?_⟩
          rw [b3 p q g hp hq hg]
          have e : zc_hit L U W 255 ds (zw_lf W) i p q g = false := by
            cases e : zc_hit L U W 255 ds (zw_lf W) i p q g with
            | false => rfl
            | true => have := (zc_hit_t e).1; omega
          show nI (zc_par L U W 255 ds (zw_lf W) i j p q g).toNat = nI (zc_can L U W 255 ds (zw_lf W) i p q g || zc_hit L U W 255 ds (zw_lf W) i p q g).toNat
          unfold zc_par; rw [e, Bool.and_false]
        · rw [if_pos h0]
          obtain ⟨p, hp⟩ : ∃ p, zw_ho W i = p + 1 := ⟨zw_ho W i - 1, by omega⟩
          have hp8 : p < zl_pp L := by omega
          rw [hp, zE_s]
          by_cases hjp : j = p
          · subst hjp
            rw [if_pos rfl, nI_1]
            have := hk2 s2 ⟨b1, b2, fun p2 q g hp2 hq hg => by
              rw [b3 p2 q g hp2 hq hg, zc_par_s]
              have e : (decide (q = j) && zc_hit L U W 255 ds (zw_lf W) i p2 q g) = false := by
                by_cases e1 : q = j
                · cases e : zc_hit L U W 255 ds (zw_lf W) i p2 q g with
                  | false => rw [Bool.and_false]
                  | true => have hh := zc_hit_t e; omega
                · rw [decide_eq_false e1, Bool.false_and]
              rw [e, Bool.or_false]⟩
            rw [hp, zE_s] at this; exact this
          · rw [if_neg (by rw [z_eq (by omega) (by omega)]; exact hjp), z_rd (by omega) (by omega), z_sbind, wi2.1, z_rd (by omega) (by omega), z_sbind, wi2.2.1, z_rd (by omega) (by omega), z_sbind, wi2.2.2.1]
            have hbl := z_bit_lt ds p
            have key : ∀ dr, dr = z_bit ds p → z_w (mm_laysOut_103 F (mm_laysOut_28 F (nI ds) n) (mm_laysOut_46 F (nI ds) (nI i) (nI p) (mm_laysOut_28 F (nI ds) n) m) (nI ds) (nI i) (nI p) (nI j) (nI dr) (nI (zw_mk W i)) (nI (zw_so W i)) (nI (zw_gd W i)) (nI j) (nI p) s2) (fun ν => z_f zj_id r ν ∧ (∀ p g, p < 8 → g < 6 → ν.1 37 (6 * p + g) = nI (zw_held W p g (zw_n W))) ∧ zj_can (zc_can L U W 255 ds (zw_lf W) (zw_n W)) ν) := by
              intro dr hdr
              unfold mm_laysOut_103
              refine z_w_call (zf_R (fr := z_bit (zw_lf W) (zw_gd W i)) hks2.1 hks2.2.1 ho hp8 hj oi.1 oi.2.2.1 (by omega) (z_bit_lt _ _) (hks2.2.2.2.1 _ (by omega)) hF) (fun x hx => ?_)
              obtain ⟨hx1, hx2⟩ := hx
              rw [hdr] at hx1
              have z3 : z_f zj_id r x.2 := z_f_trans b1 hx2 (fun _ q => q) (fun id q => by unfold zj_id at q; unfold zf_idR; omega)
              have k37 : x.2.1 37 = s2.1 37 := hx2.1 37 (by unfold zf_idR; omega)
              have k38 : x.2.1 38 = s2.1 38 := hx2.1 38 (by unfold zf_idR; omega)
              have wg : x.2.1 29 i = nI (zw_gd W i) := by rw [hx2.1 29 (by unfold zf_idR; omega)]; exact wi2.1
              have ehit : ∀ g, zc_hit L U W 255 ds (zw_lf W) i p j g = (decide (g = zw_gd W i) && zf_law L U p j (zw_gd W i) (zw_so W i) (zw_mk W i) (z_bit ds p) (z_bit (zw_lf W) (zw_gd W i))) := by
                intro g
                have t255 : ∀ k, k < 8 → (255 : Nat).testBit k = true := by decide
                unfold zc_hit
                rw [hp, t255 p (by omega), t255 j (by omega)]
                by_cases e2 : g = zw_gd W i
                · subst e2; simp [hjp, hj]
                · simp [e2, show ¬ zw_gd W i = g from fun e => e2 e.symm]
              have stay : ∀ (s3 : g_St), z_f zj_id r s3 → s3.1 37 = s2.1 37 → (∀ p2 q g, p2 < 8 → q < 8 → g < 6 → s3.1 38 (48 * p2 + 6 * q + g) = if p2 = p ∧ q = j ∧ g = zw_gd W i ∧ zf_law L U p j (zw_gd W i) (zw_so W i) (zw_mk W i) (z_bit ds p) (z_bit (zw_lf W) (zw_gd W i)) = true then nI 1 else s2.1 38 (48 * p2 + 6 * q + g)) → z_w (mm_laysOut_46 F (nI ds) (nI i) (nI p) (mm_laysOut_28 F (nI ds) n) m (nI (j + 1)) s3) (fun ν => z_f zj_id r ν ∧ (∀ p g, p < 8 → g < 6 → ν.1 37 (6 * p + g) = nI (zw_held W p g (zw_n W))) ∧ zj_can (zc_can L U W 255 ds (zw_lf W) (zw_n W)) ν) := by
                intro s3 c1 c2 c3
                have := hk2 s3 ⟨c1, by rw [c2]; exact b2, fun p2 q g hp2 hq hg => by
                  rw [c3 p2 q g hp2 hq hg]
                  rw [zc_par_s]
                  by_cases e : p2 = p ∧ q = j
                  · obtain ⟨rfl, rfl⟩ := e
                    rw [b3 p2 q g hp2 hq hg, ehit g, decide_eq_true rfl, Bool.true_and]
                    by_cases e2 : g = zw_gd W i
                    · cases e3 : zf_law L U p2 q (zw_gd W i) (zw_so W i) (zw_mk W i) (z_bit ds p2) (z_bit (zw_lf W) (zw_gd W i)) with
                      | true => rw [if_pos ⟨rfl, rfl, e2, rfl⟩, decide_eq_true e2, Bool.and_true, Bool.or_true]; rfl
                      | false => rw [if_neg (fun q => by cases q.2.2.2), Bool.and_false, Bool.or_false]
                    · rw [if_neg (fun q => e2 q.2.2.1), decide_eq_false e2, Bool.false_and, Bool.or_false]
                  · have e4 : (decide (q = j) && zc_hit L U W 255 ds (zw_lf W) i p2 q g) = false := by
                      by_cases e1 : q = j
                      · cases e5 : zc_hit L U W 255 ds (zw_lf W) i p2 q g with
                        | false => rw [Bool.and_false]
                        | true => have hh := zc_hit_t e5; exact absurd ⟨by omega, e1⟩ e
                      · rw [decide_eq_false e1, Bool.false_and]
                    rw [if_neg (fun q => e ⟨q.1, q.2.1⟩), b3 p2 q g hp2 hq hg, e4, Bool.or_false]⟩
                rw [hp, zE_s] at this; exact this
              rw [nI_1]
              unfold zf_law at hx1
              cases hlaw : zu_law U (zf_f L p j (zw_gd W i) (zw_so W i) (zw_mk W i) (z_bit ds p) (z_bit (zw_lf W) (zw_gd W i))) with
              | false =>
                rw [hx1, hlaw, if_pos (show nI (false).toNat = (0 : Int32) from rfl)]
                refine stay x.2 z3 k37 (fun p2 q g hp2 hq hg => ?_)
                rw [if_neg (fun q => by unfold zf_law at q; rw [hlaw] at q; cases q.2.2.2), k38]
              | true =>
                rw [hx1, hlaw, if_neg (show ¬ nI (true).toNat = (0 : Int32) from by decide), z_rd (by omega) (by omega), z_sbind, wg, show (48 : Int32) = nI 48 from rfl, show (6 : Int32) = nI 6 from rfl, z_mul, z_mul, nI_add, nI_add, z_wr (by omega) (by omega), z_sbind, z_nz1]
                refine stay _ (z_f_trans z3 (z_f_sI (P := zj_id) (fun q => by unfold zj_id at q; omega)) (fun _ q => q) (fun _ q => q)) (by rw [z_sI_f (by omega), k37]) (fun p2 q g hp2 hq hg => ?_)
                by_cases e : p2 = p ∧ q = j ∧ g = zw_gd W i
                · rw [if_pos ⟨e.1, e.2.1, e.2.2, hlaw⟩, e.1, e.2.1, e.2.2, z_sI_same]
                · rw [if_neg (fun q => e ⟨q.1, q.2.1, q.2.2.1⟩), z_sI_k (by omega), k38]
            simp (disch := omega) only [nI_lit, z_and, z_or, z_xor, z_n31, z_shr, z_shl1, z_bit_and, z_andn, z_eq]
            by_cases hb : z_bit ds p = 1
            · rw [if_pos hb]; exact key 1 hb.symm
            · rw [if_neg hb]; exact key 0 (by omega)
      · intro m s2 hI2
        obtain ⟨b1, b2, b3⟩ := hI2
        have hks2 := zk_R_f hk0 b1 (fun id q => by unfold zj_id; omega)
        show z_w (mm_laysOut_46_b F (nI ds) (nI i) (zE (zw_ho W i)) _ _ (nI (zl_pp L)) s2) _
        unfold mm_laysOut_46_b
        rw [show (0 : Int32) = nI 0 from rfl, z_rd (by omega) (by omega), z_sbind, hks2.1.2.2.1, if_neg (by rw [z_lt (by omega) (by omega)]; omega), nI_1]
        refine hk s2 ⟨b1, b2, fun p q g hp hq hg => ?_⟩
        rw [b3 p q g hp hq hg, zc_par_e]
      · rw [a3 p q g hp hq hg, zc_par_0]
    · intro n s hI
      obtain ⟨a1, a2, a3⟩ := hI
      have hks := zk_R_f hk0 a1 (fun id q => by unfold zj_id; omega)
      show z_w (mm_laysOut_28_b F (nI ds) _ (nI (zw_n W)) s) _
      unfold mm_laysOut_28_b
      rw [hks.2.2.1, if_neg (by rw [z_lt (by omega) (by omega)]; omega)]
      exact z_w_some ⟨a1, a2, a3⟩
    · unfold z_fl; simp [show 48 * p + 6 * q + g < 384 by omega]; rfl
  have h := z_cw (n := 384) (A := fun n i s => mm_laysOut_6 F (nI ds) n (nI i) s) (Q := fun ν => z_f zj_id r ν ∧ (∀ p g, p < 8 → g < 6 → ν.1 37 (6 * p + g) = nI (zw_held W p g (zw_n W))) ∧ zj_can (zc_can L U W 255 ds (zw_lf W) (zw_n W)) ν) (fun i s => s = z_fl r1 38 i (nI 0)) ?_ ?_ F 0 r1 (by omega) (z_fl_0 _ _ _).symm (by omega)
  · exact h
  · intro n i s hi hI hk
    subst hI
    show z_w (mm_laysOut_6_b F (nI ds) _ (nI i) _) _
    unfold mm_laysOut_6_b
    rw [show (384 : Int32) = nI 384 from rfl, if_pos (nI_lt hi (by omega)), z_wr hi (by omega), z_sbind, z_nz0, z_fl_s, nI_1]
    exact hk _ rfl
  · intro n s hI
    subst hI
    show z_w (mm_laysOut_6_b F (nI ds) _ (nI 384) _) _
    unfold mm_laysOut_6_b
    rw [show (384 : Int32) = nI 384 from rfl, if_neg (by rw [z_lt (by omega) (by omega)]; omega)]
    exact things
