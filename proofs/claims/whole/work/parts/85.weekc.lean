/-! Layer 2: YEARS, a WEEK drawn: the class -/
def zy_sd (L : zl_T) (n : Nat) : Nat → Nat
  | 0 => n
  | i + 1 => if zl_mk L i = 0 then zy_sd L n i else zy_s (zy_sd L n i)
theorem zy_sd_lt {L : zl_T} {n : Nat} (h : n < 2147483648) : ∀ i, zy_sd L n i < 2147483648
  | 0 => h
  | i + 1 => by
    show (if zl_mk L i = 0 then zy_sd L n i else zy_s (zy_sd L n i)) < _
    split
    · exact zy_sd_lt h i
    · exact zy_s_lt _
def zy_g (L : zl_T) (n p : Nat) : Nat := zy_at (zl_mk L p) (zy_d (zy_sd L n p) (z_pc (zl_mk L p)))
def zy_can (L : zl_T) (U : zu_T) (lf n m p q g : Nat) : Bool := decide (p < m) && decide (zl_mk L p ≠ 0) && decide (g = zy_g L n p) && decide (q < zl_pp L) && decide (p ≠ q) && zf_law L U p q g 0 (2 ^ p) 0 (z_bit lf g)
def zy_h (L : zl_T) (n m p g : Nat) : Nat := if p < m ∧ zl_mk L p ≠ 0 ∧ g = zy_g L n p then 1 else 0
def zy_X (L : zl_T) (U : zu_T) (lf n : Nat) : zx_T := zx_mk L (zy_can L U lf n (zl_pp L)) (zy_h L n (zl_pp L))
theorem zy_pc0 : ∀ a, a < 64 → a = 0 ∨ (1 ≤ z_pc a ∧ z_pc a ≤ 6) := by decide +kernel
theorem zy_gd {L : zl_T} {n p : Nat} (ho : zl_ok L) (hp : p < zl_pp L) (h0 : zl_mk L p ≠ 0) : zy_d (zy_sd L n p) (z_pc (zl_mk L p)) < z_pc (zl_mk L p) ∧ z_pc (zl_mk L p) ≤ 6 ∧ zl_mk L p < 64 ∧ zy_g L n p < zl_gd L ∧ (zl_mk L p).testBit (zy_g L n p) = true := by
  have h6 := ho.2.1
  have mk := (ho.2.2.2.2.2 p hp).2.1
  have p6 : (2 : Nat) ^ zl_gd L ≤ 64 := Nat.pow_le_pow_right (n := 2) (by omega) h6
  have mk6 : zl_mk L p < 64 := by omega
  have pc := (zy_pc0 _ mk6).resolve_left h0
  have d : zy_d (zy_sd L n p) (z_pc (zl_mk L p)) < z_pc (zl_mk L p) := Nat.mod_lt _ (by omega)
  obtain ⟨-, -, b1, -, b6⟩ := (zy_nb0 _ mk6 (zy_d (zy_sd L n p) (z_pc (zl_mk L p))) (by omega)).resolve_left (by omega)
  have t : (zl_mk L p).testBit (zy_g L n p) = true := by rw [z_bit_one] at b1; exact b1
  refine ⟨d, pc.2, mk6, ?_, t⟩
  refine Nat.lt_of_not_le (fun hle => ?_)
  rw [Nat.testBit_lt_two_pow (Nat.lt_of_lt_of_le mk (Nat.pow_le_pow_right (by omega) hle))] at t
  cases t
theorem zy_can_t {L : zl_T} {U : zu_T} {lf n m p q g : Nat} (h : zy_can L U lf n m p q g = true) : p < m ∧ zl_mk L p ≠ 0 ∧ g = zy_g L n p ∧ q < zl_pp L ∧ p ≠ q := by
  unfold zy_can at h
  simp only [Bool.and_eq_true, decide_eq_true_eq] at h
  exact ⟨h.1.1.1.1.1, h.1.1.1.1.2, h.1.1.1.2, h.1.1.2, h.1.2⟩
theorem zy_can_ok {L : zl_T} {U : zu_T} {lf n : Nat} (ho : zl_ok L) : ∀ p q g, zy_can L U lf n (zl_pp L) p q g = true → p < zl_pp L ∧ q < zl_pp L ∧ g < zl_gd L ∧ p ≠ q := by
  intro p q g h
  have a := zy_can_t h
  exact ⟨a.1, a.2.2.2.1, by rw [a.2.2.1]; exact (zy_gd ho a.1 a.2.1).2.2.2.1, a.2.2.2.2⟩
theorem zy_can_0 {L : zl_T} {U : zu_T} {lf n m p q g : Nat} (h : ¬ (p < m ∧ zl_mk L p ≠ 0 ∧ g = zy_g L n p ∧ q < zl_pp L ∧ p ≠ q)) : zy_can L U lf n m p q g = false := by
  cases e : zy_can L U lf n m p q g with
  | false => rfl
  | true => exact absurd (zy_can_t e) h
theorem zy_can_n {L : zl_T} {U : zu_T} {lf n m p q g : Nat} (h : p ≠ m) : zy_can L U lf n (m + 1) p q g = zy_can L U lf n m p q g := by
  unfold zy_can
  rw [show decide (p < m + 1) = decide (p < m) from by
    by_cases e : p < m
    · rw [decide_eq_true e, decide_eq_true (by omega)]
    · rw [decide_eq_false e, decide_eq_false (by omega)]]
def zy_par (L : zl_T) (U : zu_T) (lf n p j p2 q g : Nat) : Bool := if p2 = p then decide (q < j) && zy_can L U lf n (p + 1) p q g else zy_can L U lf n p p2 q g
theorem zy_par_0 {L : zl_T} {U : zu_T} {lf n p p2 q g : Nat} : zy_par L U lf n p 0 p2 q g = zy_can L U lf n p p2 q g := by
  unfold zy_par
  by_cases e : p2 = p
  · rw [if_pos e, e, decide_eq_false (by omega), Bool.false_and, zy_can_0 (by omega)]
  · rw [if_neg e]
theorem zy_par_e {L : zl_T} {U : zu_T} {lf n p p2 q g : Nat} : zy_par L U lf n p (zl_pp L) p2 q g = zy_can L U lf n (p + 1) p2 q g := by
  unfold zy_par
  by_cases e : p2 = p
  · rw [if_pos e, e]
    by_cases e2 : q < zl_pp L
    · rw [decide_eq_true e2, Bool.true_and]
    · rw [decide_eq_false e2, Bool.false_and, zy_can_0 (by omega)]
  · rw [if_neg e, zy_can_n e]
theorem zy_can_w {L : zl_T} {U : zu_T} {lf n p q : Nat} (ho : zl_ok L) (hp : p < zl_pp L) (hq : q < zl_pp L) (h0 : zl_mk L p ≠ 0) : zy_w L U lf p q &&& 2 ^ zy_g L n p = z_bs (zy_can L U lf n (p + 1) p q) 6 := by
  obtain ⟨-, -, -, gg, gt⟩ := zy_gd (n := n) ho hp h0
  have h6 := ho.2.1
  apply Nat.eq_of_testBit_eq
  intro i
  rw [Nat.testBit_and, Nat.testBit_two_pow, z_bs_tb]
  unfold zy_w zy_can
  by_cases e : p = q
  · rw [if_pos e, Nat.zero_testBit, Bool.false_and, decide_eq_false (show ¬ (p ≠ q) from fun q2 => q2 e), Bool.and_false, Bool.false_and, Bool.and_false]
  · rw [if_neg e, z_bs_tb, decide_eq_true e, decide_eq_true hq, decide_eq_true h0, decide_eq_true (Nat.lt_succ_self p)]
    by_cases e2 : zy_g L n p = i
    · rw [decide_eq_true e2, decide_eq_true e2.symm, decide_eq_true (show i < zl_gd L by omega), decide_eq_true (show i < 6 by omega)]
      unfold zy_P
      rw [← e2, gt]
      simp
    · rw [decide_eq_false e2, decide_eq_false (show ¬ i = zy_g L n p from fun q2 => e2 q2.symm)]
      simp
theorem z_bs_f {P : Nat → Bool} {n : Nat} (h : ∀ j, j < n → P j = false) : z_bs P n = 0 := by
  apply Nat.eq_of_testBit_eq
  intro i
  rw [z_bs_tb, Nat.zero_testBit]
  by_cases e : i < n
  · rw [h i e, Bool.and_false]
  · rw [decide_eq_false e, Bool.false_and]
def zy_D (id : Nat) : Prop := id < 82 ∨ 90 < id
def zy_Z (s : g_St) : Prop := ∀ j, j < 256 → s.1 87 j = -nI 1 ∧ s.1 88 j = nI 0 ∧ s.1 89 j = nI 0 ∧ s.1 90 j = nI 0
theorem zy_C_row {L : zl_T} {U : zu_T} {W : zw_T} {c s : g_St} {F n p : Nat} {v3 : Int64} {Q : Int64 × g_St → Prop} {K : Int64 → Int32 → g_St → Option (Int64 × g_St)} (ho : zl_ok L) (hC : zk_C L U W c) (hT : ∀ p q, p < zl_pp L → q < zl_pp L → c.1 100 (8 * p + q) = nI (zy_w L U (zw_lf W) p q)) (hp : p < zl_pp L) (h0 : zl_mk L p ≠ 0) (hF : 1010 < F)
    (z1 : z_f zy_D c s) (g1 : ∀ p2 q, p2 < 8 → q < 8 → s.1 82 (8 * p2 + q) = nI (z_bs (zy_can L U (zw_lf W) n p p2 q) 6)) (hh : ∀ p2 g, p2 < 8 → g < 6 → s.1 83 (6 * p2 + g) = nI (zy_h L n (p + 1) p2 g)) (hz : zy_Z s)
    (hk : ∀ s', z_f zy_D c s' → (∀ p2 q, p2 < 8 → q < 8 → s'.1 82 (8 * p2 + q) = nI (z_bs (zy_can L U (zw_lf W) n (p + 1) p2 q) 6)) → (∀ p2 g, p2 < 8 → g < 6 → s'.1 83 (6 * p2 + g) = nI (zy_h L n (p + 1) p2 g)) → zy_Z s' → z_w (K v3 (nI (p + 1)) s') Q) :
    z_w (oo_drawWeek_97 F v3 (nI p) (nI (zy_g L n p)) K F 0 s) Q := by
  have h8 := ho.2.2.1
  have h6 := ho.2.1
  have gg := zy_gd (n := n) ho hp h0
  refine z_cw (n := zl_pp L) (A := fun f j s => oo_drawWeek_97 F v3 (nI p) (nI (zy_g L n p)) K f (nI j) s) (fun j s => z_f zy_D c s ∧ (∀ p2 q, p2 < 8 → q < 8 → s.1 82 (8 * p2 + q) = nI (z_bs (zy_par L U (zw_lf W) n p j p2 q) 6)) ∧ (∀ p2 g, p2 < 8 → g < 6 → s.1 83 (6 * p2 + g) = nI (zy_h L n (p + 1) p2 g)) ∧ zy_Z s) ?_ ?_ F 0 s (by omega) ⟨z1, fun p2 q hp2 hq => ?_, hh, hz⟩ (by omega)
  · intro f j s2 hj ⟨b1, b2, b3, b4⟩ gk
    have hCs := zk_C_f hC ho b1 (fun id a b d => by unfold zy_D; omega)
    have t : s2.1 100 (8 * p + j) = nI (zy_w L U (zw_lf W) p j) := by rw [b1.1 100 (by unfold zy_D; omega)]; exact hT p j hp hj
    have row := b2 p j (by omega) (by omega)
    rw [z_bs_f (P := zy_par L U (zw_lf W) n p j p j) (fun i _ => by unfold zy_par; rw [if_pos rfl, decide_eq_false (Nat.lt_irrefl j), Bool.false_and])] at row
    show z_w (oo_drawWeek_97_b F v3 (nI p) (nI (zy_g L n p)) K _ (nI j) s2) Q
    unfold oo_drawWeek_97_b og_allow
    rw [z_ql hCs.1, z_sbind, hCs.2.2.1.2.2.1, if_pos (nI_lt hj (by omega)), show (8 : Int32) = nI 8 from rfl, z_mul, nI_add, Nat.mul_comm p 8, z_rd (by omega) (by omega), z_sbind, t, z_tp (by omega), z_and, zy_can_w ho hp hj h0, z_rd (by omega) (by omega), z_sbind, row, z_wr (by omega) (by omega), z_sbind, z_sbind, z_or, Nat.zero_or, nI_1]
    refine gk _ ⟨z_f_trans b1 (z_f_sI (P := zy_D) (by unfold zy_D; omega)) (fun _ q => q) (fun _ q => q), fun p2 q hp2 hq => ?_, fun p2 g hp2 hg => ?_, fun j2 hj2 => ?_⟩
    · by_cases e : p2 = p ∧ q = j
      · rw [e.1, e.2, z_sI_same]
        congr 1
        refine z_bs_congr (fun i _ => ?_)
        unfold zy_par
        rw [if_pos rfl, decide_eq_true (Nat.lt_succ_self j), Bool.true_and]
      · rw [z_sI_k (by omega), b2 p2 q hp2 hq]
        congr 1
        refine z_bs_congr (fun i _ => ?_)
        unfold zy_par
        by_cases e2 : p2 = p
        · rw [if_pos e2, if_pos e2]
          by_cases e3 : q < j
          · rw [decide_eq_true e3, decide_eq_true (show q < j + 1 by omega)]
          · rw [decide_eq_false e3, decide_eq_false (show ¬ q < j + 1 by omega)]
        · rw [if_neg e2, if_neg e2]
    · rw [z_sI_id (by omega)]; exact b3 p2 g hp2 hg
    · rw [z_sI_id (by omega), z_sI_id (by omega), z_sI_id (by omega), z_sI_id (by omega)]; exact b4 j2 hj2
  · intro f s2 ⟨b1, b2, b3, b4⟩
    have hCs := zk_C_f hC ho b1 (fun id a b d => by unfold zy_D; omega)
    show z_w (oo_drawWeek_97_b F v3 (nI p) (nI (zy_g L n p)) K _ (nI (zl_pp L)) s2) Q
    unfold oo_drawWeek_97_b
    rw [z_ql hCs.1, z_sbind, hCs.2.2.1.2.2.1, if_neg (by rw [z_lt (by omega) (by omega)]; omega), nI_1]
    refine hk s2 b1 (fun p2 q hp2 hq => ?_) b3 b4
    rw [b2 p2 q hp2 hq]; congr 1
    exact z_bs_congr (fun i _ => zy_par_e)
  · rw [g1 p2 q hp2 hq]; congr 1
    exact z_bs_congr (fun i _ => zy_par_0.symm)
theorem zy_h_s {L : zl_T} {n m p g : Nat} : zy_h L n (m + 1) p g = if p = m ∧ zl_mk L p ≠ 0 ∧ g = zy_g L n p then 1 else zy_h L n m p g := by
  unfold zy_h
  by_cases e : p = m ∧ zl_mk L p ≠ 0 ∧ g = zy_g L n p
  · rw [if_pos e, if_pos ⟨by omega, e.2⟩]
  · rw [if_neg e]
    by_cases e2 : p < m ∧ zl_mk L p ≠ 0 ∧ g = zy_g L n p
    · rw [if_pos e2, if_pos ⟨by omega, e2.2⟩]
    · rw [if_neg e2, if_neg (fun q => by
        by_cases e3 : p = m
        · exact e ⟨e3, q.2⟩
        · exact e2 ⟨by omega, q.2⟩)]
theorem zy_C_week {L : zl_T} {U : zu_T} {W : zw_T} {c : g_St} {F n : Nat} (ho : zl_ok L) (hC : zk_C L U W c) (hT : ∀ p q, p < zl_pp L → q < zl_pp L → c.1 100 (8 * p + q) = nI (zy_w L U (zw_lf W) p q)) (hn : n < 2147483648) (hF : 1010 < F) :
    z_w (oo_drawWeek F (iL n) c) (fun x => x.1 = iL (zy_sd L n (zl_pp L)) ∧ z_f zy_D c x.2 ∧ zr_C (zy_X L U (zw_lf W) n) (zv_all L) 81 x.2) := by
  have h8 := ho.2.2.1
  have h6 := ho.2.1
  have hal := zv_all_lt ho
  unfold oo_drawWeek
  rw [zc_clear (by omega), z_sbind]
  generalize hc1 : z_fl (z_fl (z_fl (z_fl (z_fl (z_fl c (81 + 1) 64 (nI 0)) (81 + 2) 48 (nI 0)) (81 + 6) 256 (-nI 1)) (81 + 7) 256 (nI 0)) (81 + 8) 256 (nI 0)) (81 + 9) 256 (nI 0) = c1
  have g1 : ∀ id, zy_D id → c1.1 id = c.1 id := by
    intro id h; unfold zy_D at h; rw [← hc1]; funext j; unfold z_fl; simp [show id ≠ 81 + 1 by omega, show id ≠ 81 + 2 by omega, show id ≠ 81 + 6 by omega, show id ≠ 81 + 7 by omega, show id ≠ 81 + 8 by omega, show id ≠ 81 + 9 by omega]
  have gz : z_f zy_D c c1 := ⟨g1, by rw [← hc1]; rfl⟩
  have g2 : (∀ j, j < 64 → c1.1 82 j = nI 0) ∧ (∀ j, j < 48 → c1.1 83 j = nI 0) ∧ zy_Z c1 := by
    rw [← hc1]
    refine ⟨fun j hj => ?_, fun j hj => ?_, fun j hj => ⟨?_, ?_, ?_, ?_⟩⟩ <;> (unfold z_fl; simp [hj])
  clear hc1
  refine z_cw (n := zl_pp L) (A := fun f i (x : Nat × g_St) => oo_drawWeek_12 F f (iL x.1) (nI i) x.2) (fun i x => x.1 = zy_sd L n i ∧ z_f zy_D c x.2 ∧ (∀ p2 q, p2 < 8 → q < 8 → x.2.1 82 (8 * p2 + q) = nI (z_bs (zy_can L U (zw_lf W) n i p2 q) 6)) ∧ (∀ p2 g, p2 < 8 → g < 6 → x.2.1 83 (6 * p2 + g) = nI (zy_h L n i p2 g)) ∧ zy_Z x.2) ?_ ?_ F 0 (n, c1) (by omega) ⟨rfl, gz, fun p2 q hp2 hq => ?_, fun p2 g hp2 hg => ?_, g2.2.2⟩ (by omega)
  · intro f i x hi hI hk
    obtain ⟨m, s⟩ := x
    obtain ⟨a0, a1, a2, a3, a4⟩ := hI
    have a0 : m = zy_sd L n i := a0
    subst a0
    have a1 : z_f zy_D c s := a1
    have hCs := zk_C_f hC ho a1 (fun id a b d => by unfold zy_D; omega)
    have b13 := (hCs.2.2.1.2.2.2.2.2 i hi).2.1
    have es : zy_sd L n (i + 1) = if zl_mk L i = 0 then zy_sd L n i else zy_s (zy_sd L n i) := rfl
    have mk := (ho.2.2.2.2.2 i hi).2.1
    have p6 : (2 : Nat) ^ zl_gd L ≤ 64 := Nat.pow_le_pow_right (n := 2) (by omega) h6
    have sl := zy_sd_lt (L := L) hn i
    have sl2 := zy_s_lt (zy_sd L n i)
    show z_w (oo_drawWeek_12_b F _ (iL (zy_sd L n i)) (nI i) s) _
    unfold oo_drawWeek_12_b
    rw [z_ql hCs.1, z_sbind, hCs.2.2.1.2.2.1, if_pos (nI_lt hi (by omega)), z_sbind, z_rd (by omega) (by omega), z_sbind, b13, z_bc (by omega), z_sbind]
    by_cases h0 : zl_mk L i = 0
    · rw [if_neg (by rw [h0]; decide), nI_1]
      rw [if_pos h0] at es
      have := hk (zy_sd L n i, s) ⟨es.symm, a1, fun p2 q hp2 hq => ?_, fun p2 g hp2 hg => ?_, a4⟩
      · exact this
      · show s.1 82 _ = _
        rw [a2 p2 q hp2 hq]; congr 1
        refine z_bs_congr (fun j _ => ?_)
        by_cases e : p2 = i
        · rw [e, zy_can_0 (by omega), zy_can_0 (fun q => q.2.1 h0)]
        · rw [zy_can_n e]
      · show s.1 83 _ = _
        rw [a3 p2 g hp2 hg, zy_h_s, if_neg (fun q => by rw [q.1] at q; exact q.2.1 h0)]
    · rw [if_neg h0] at es
      have gg := zy_gd (n := n) ho hi h0
      have pc := (zy_pc0 _ gg.2.2.1).resolve_left h0
      rw [if_pos (show (0 : Int32) < nI (z_pc (zl_mk L i)) from nI_lt (a := 0) (by omega) (by omega)), zy_lcg sl, z_sbind, z_sbind, z_rd (by omega) (by omega), z_sbind, b13, show (65536 : Int64) = iL ((65536 : Nat) : Int) from rfl, zy_dv (by omega) (by omega), z_sbind, zy_of (by omega), zy_rm (by omega) (by omega), z_sbind, zy_back, show zy_s (zy_sd L n i) / 65536 % z_pc (zl_mk L i) = zy_d (zy_sd L n i) (z_pc (zl_mk L i)) from rfl, zy_C gg.2.2.1 gg.1 (by omega) (by omega), z_sbind]
      have eg : zy_at (zl_mk L i) (zy_d (zy_sd L n i) (z_pc (zl_mk L i))) = zy_g L n i := rfl
      rw [eg]
      have hh := a3 i (zy_g L n i) (by omega) (by omega)
      have hh0 : zy_h L n i i (zy_g L n i) = 0 := by unfold zy_h; rw [if_neg (by omega)]
      have hh : s.1 83 (6 * i + zy_g L n i) = nI 0 := by rw [← hh0]; exact hh
      unfold og_hold
      rw [show (6 : Int32) = nI 6 from rfl, show (1 : Int32) = nI 1 from rfl, z_mul, nI_add, Nat.mul_comm i 6, z_rd (by omega) (by omega), z_sbind, hh, nI_add, z_wr (by omega) (by omega), z_sbind, z_sbind]
      refine zy_C_row ho hC hT hi h0 hF (z_f_trans a1 (z_f_sI (P := zy_D) (by unfold zy_D; omega)) (fun _ q => q) (fun _ q => q)) (fun p2 q hp2 hq => by rw [z_sI_id (by omega)]; exact a2 p2 q hp2 hq) (fun p2 g hp2 hg => ?_) (fun j hj => by rw [z_sI_id (by omega), z_sI_id (by omega), z_sI_id (by omega), z_sI_id (by omega)]; exact a4 j hj) (fun s' k1 k2 k3 k4 => ?_)
      · rw [zy_h_s]
        by_cases e : p2 = i ∧ g = zy_g L n i
        · rw [e.1, e.2, z_sI_same, if_pos ⟨rfl, h0, rfl⟩]
        · rw [z_sI_k (by omega), if_neg (fun q => e ⟨q.1, by rw [← q.1]; exact q.2.2⟩)]; exact a3 p2 g hp2 hg
      · rw [← es]
        exact hk (zy_sd L n (i + 1), s') ⟨rfl, k1, k2, k3, k4⟩
  · intro f x hI
    obtain ⟨m, s⟩ := x
    obtain ⟨a0, a1, a2, a3, a4⟩ := hI
    have a0 : m = zy_sd L n (zl_pp L) := a0
    subst a0
    have a1 : z_f zy_D c s := a1
    have hCs := zk_C_f hC ho a1 (fun id a b d => by unfold zy_D; omega)
    have hbl := hCs.1
    unfold g_isLand at hbl
    show z_w (oo_drawWeek_12_b F _ (iL (zy_sd L n (zl_pp L))) (nI (zl_pp L)) s) _
    unfold oo_drawWeek_12_b
    rw [z_ql hCs.1, z_sbind, hCs.2.2.1.2.2.1, if_neg (by rw [z_lt (by omega) (by omega)]; omega), z_sbind, zo_all ho hCs, z_sbind]
    refine z_w_call (zx_find (br := 81) (can := zy_can L U (zw_lf W) n (zl_pp L)) (h := zy_h L n (zl_pp L)) ho (zy_can_ok ho) hCs.2.2.1 (by omega) (fun p q hp hq => a2 p q (by omega) hq) (fun p g hp hg => ⟨a3 p g (by omega) (by omega), ?_⟩) a4 hal (by omega)) (fun ν hν => z_w_some ⟨rfl, z_f_trans a1 hν.1 (fun _ q => q) (fun id q => by unfold zy_D at q; unfold zx_id; omega), hν.2⟩)
    unfold zy_h
    split <;> omega
  · show c1.1 82 _ = _
    rw [g2.1 _ (by omega), z_bs_f (fun i _ => zy_can_0 (by omega))]
  · show c1.1 83 _ = _
    rw [g2.2.1 _ (by omega)]
    unfold zy_h
    rw [if_neg (by omega)]
