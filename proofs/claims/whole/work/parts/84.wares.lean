/-! Layer 2: YEARS, what each may give each: the class's table -/
def zy_P (L : zl_T) (U : zu_T) (lf p q g : Nat) : Bool := (zl_mk L p).testBit g && zf_law L U p q g 0 (2 ^ p) 0 (z_bit lf g)
def zy_w (L : zl_T) (U : zu_T) (lf p q : Nat) : Nat := if p = q then 0 else z_bs (zy_P L U lf p q) (zl_gd L)
def zy_id (bu id : Nat) : Prop := id ≠ 70 ∧ id ≠ bu + 3 ∧ id ≠ 100
def zy_T (L : zl_T) (U : zu_T) (lf : Nat) (c s : g_St) (D : Nat → Nat → Prop) : Prop := z_f (zy_id (c.2.2 2)) c s ∧ ∀ p q, p < zl_pp L → q < zl_pp L → D p q → s.1 100 (8 * p + q) = nI (zy_w L U lf p q)
theorem zy_C_one {L : zl_T} {U : zu_T} {W : zw_T} {c s : g_St} {F p q : Nat} {Q : g_St → Prop} {D : Nat → Nat → Prop} {K2 K15 : Int32 → g_St → Option g_St} (ho : zl_ok L) (how : zw_ok L W) (hC : zk_C L U W c) (hp : p < zl_pp L) (hq : q < zl_pp L) (hF : 1010 < F) (hT : zy_T L U (zw_lf W) c s D)
    (hk : ∀ s', zy_T L U (zw_lf W) c s' (fun a b => D a b ∨ (a = p ∧ b = q)) → z_w (K15 (nI (q + 1)) s') Q) : z_w (oo_findWares_31 F (nI p) (nI q) K2 K15 F 0 0 s) Q := by
  have h8 := ho.2.2.1
  have h6 := ho.2.1
  have bu := hC.2.1
  unfold g_isRule at bu
  have fin : ∀ s', z_f (zy_id (c.2.2 2)) c s' → s'.1 100 = s.1 100 → z_w (oo_findWares_109 F K2 K15 (nI p) (nI q) (nI (zy_w L U (zw_lf W) p q)) s') Q := by
    intro s' z1 e1
    unfold oo_findWares_109
    rw [show (8 : Int32) = nI 8 from rfl, z_mul, nI_add, Nat.mul_comm p 8, z_wr (by omega) (by omega), z_sbind, nI_1]
    refine hk _ ⟨z_f_trans z1 (z_f_sI (P := zy_id (c.2.2 2)) (by unfold zy_id; omega)) (fun _ q => q) (fun _ q => q), fun a b ha hb hd => ?_⟩
    by_cases e : a = p ∧ b = q
    · rw [e.1, e.2, z_sI_same]
    · rw [z_sI_k (by omega), e1]
      exact hT.2 a b ha hb (hd.resolve_right e)
  by_cases e : p = q
  · subst e
    obtain ⟨F', rfl⟩ : ∃ f, F = f + 1 := ⟨F - 1, by omega⟩
    have hCs := zk_C_f hC ho hT.1 (fun id a b d => by unfold zy_id; omega)
    have f0 := fin s hT.1 rfl
    unfold zy_w at f0
    rw [if_pos rfl] at f0
    show z_w (oo_findWares_31_b (F' + 1) (nI p) (nI p) K2 K15 _ 0 0 s) Q
    unfold oo_findWares_31_b
    rw [z_ql hCs.1, z_sbind, hCs.2.2.1.2.1, if_pos (show nI p = nI p from rfl)]
    split
    · exact f0
    · exact f0
  · refine z_cw (n := zl_gd L) (A := fun f i s => oo_findWares_31 F (nI p) (nI q) K2 K15 f (nI (z_bs (zy_P L U (zw_lf W) p q) i)) (nI i) s) (fun i s' => z_f (zy_id (c.2.2 2)) c s' ∧ s'.1 100 = s.1 100) ?_ ?_ F 0 s (by omega) ⟨hT.1, rfl⟩ (by omega)
    · intro f i s1 hi ⟨z1, e1⟩ gk
      have hC1 := zk_C_f hC ho z1 (fun id a b d => by unfold zy_id; omega)
      have w1 : s1.1 61 1 = nI (zw_lf W) := hC1.2.2.2.2.2.1
      have es : z_bs (zy_P L U (zw_lf W) p q) (i + 1) = z_bs (zy_P L U (zw_lf W) p q) i ||| (if zy_P L U (zw_lf W) p q i = true then 2 ^ i else 0) := rfl
      show z_w (oo_findWares_31_b F (nI p) (nI q) K2 K15 _ (nI (z_bs (zy_P L U (zw_lf W) p q) i)) (nI i) s1) Q
      unfold oo_findWares_31_b
      rw [z_ql hC1.1, z_sbind, hC1.2.2.1.2.1, if_pos (nI_lt hi (by omega)), if_neg (by rw [z_eq (by omega) (by omega)]; exact e), w1]
      refine z_w_call (zf_C_fill (ds := 0) (lf := zw_lf W) hC1.1 hC1.2.2.1 ho hp hq hi (by omega) how.2.1) (fun s2 hs2 => ?_)
      obtain ⟨f1, f2⟩ := hs2
      have z2 : z_f (zy_id (c.2.2 2)) c s2 := z_f_trans z1 f1 (fun _ q => q) (fun id q => by unfold zy_id at q; omega)
      have e2 : s2.1 100 = s.1 100 := by rw [f1.1 100 (by omega), e1]
      have hC2 := zk_C_f hC ho z2 (fun id a b d => by unfold zy_id; omega)
      have mk := zl_mk_lt ho hp
      have b13 := (hC2.2.2.1.2.2.2.2.2 p hp).2.1
      rw [z_ql hC2.1, z_sbind, z_rd (by omega) (by omega), z_sbind, b13, z_bitq (by omega) (by omega), nI_1]
      by_cases a1 : z_bit (zl_mk L p) i = 1
      · rw [if_pos (by rw [z_bit1]; exact a1), z_qr hC2.2.1, z_sbind]
        refine z_w_call (zu_C_allows (f := zf_f L p q i 0 (2 ^ p) (z_bit 0 p) (z_bit (zw_lf W) i)) hC2.2.2.2.1 hC2.2.1 f2 hF) (fun x hx => ?_)
        obtain ⟨x1, x2⟩ := hx
        have e22 : s2.2.2 2 = c.2.2 2 := by rw [z2.2]
        rw [e22] at x2
        have z3 : z_f (zy_id (c.2.2 2)) c x.2 := z_f_trans z2 x2 (fun _ q => q) (fun id q => by unfold zy_id at q; omega)
        have e3 : x.2.1 100 = s.1 100 := by rw [x2.1 100 (by omega), e2]
        have b0 : z_bit 0 p = 0 := by unfold z_bit; rw [Nat.zero_shiftRight]
        rw [b0] at x1
        have hP : zy_P L U (zw_lf W) p q i = zf_law L U p q i 0 (2 ^ p) 0 (z_bit (zw_lf W) i) := by
          unfold zy_P
          rw [z_bit_one] at a1
          rw [a1, Bool.true_and]
        have x1 : x.1 = nI (zf_law L U p q i 0 (2 ^ p) 0 (z_bit (zw_lf W) i)).toNat := x1
        rw [x1, ← hP]
        rw [← hP] at x1
        cases hb : zy_P L U (zw_lf W) p q i with
        | false =>
          rw [if_pos (show nI (false).toNat = (0 : Int32) from rfl)]
          rw [hb, if_neg (by decide), Nat.or_zero] at es
          rw [← es]
          exact gk x.2 ⟨z3, e3⟩
        | true =>
          rw [if_neg (show ¬ nI (true).toNat = (0 : Int32) from by decide), z_sbind, z_tp (by omega), z_or]
          rw [hb, if_pos rfl] at es
          rw [← es]
          exact gk x.2 ⟨z3, e3⟩
      · rw [if_neg (by rw [z_bit1]; exact a1)]
        have hP : zy_P L U (zw_lf W) p q i = false := by
          unfold zy_P
          have : (zl_mk L p).testBit i = false := by
            cases h : (zl_mk L p).testBit i with
            | false => rfl
            | true => exact absurd (by rw [z_bit_one]; exact h) a1
          rw [this, Bool.false_and]
        rw [hP, if_neg (by decide), Nat.or_zero] at es
        rw [← es]
        exact gk s2 ⟨z2, e2⟩
    · intro f s1 ⟨z1, e1⟩
      have hC1 := zk_C_f hC ho z1 (fun id a b d => by unfold zy_id; omega)
      have f0 := fin s1 z1 e1
      unfold zy_w at f0
      rw [if_neg e] at f0
      show z_w (oo_findWares_31_b F (nI p) (nI q) K2 K15 _ (nI (z_bs (zy_P L U (zw_lf W) p q) (zl_gd L))) (nI (zl_gd L)) s1) Q
      unfold oo_findWares_31_b
      rw [z_ql hC1.1, z_sbind, hC1.2.2.1.2.1, if_neg (by rw [z_lt (by omega) (by omega)]; omega)]
      exact f0
theorem zy_C_wares {L : zl_T} {U : zu_T} {W : zw_T} {c : g_St} {F : Nat} (ho : zl_ok L) (how : zw_ok L W) (hC : zk_C L U W c) (hF : 1010 < F) : z_w (oo_findWares F c) (fun s => zy_T L U (zw_lf W) c s (fun _ _ => True)) := by
  have h8 := ho.2.2.1
  have bu := hC.2.1
  unfold g_isRule at bu
  unfold oo_findWares
  refine z_cw (n := zl_pp L) (A := fun f p s => oo_findWares_2 F f (nI p) s) (fun p s => zy_T L U (zw_lf W) c s (fun a _ => a < p)) ?_ ?_ F 0 c (by omega) ⟨z_f_refl, fun p q _ _ hd => absurd hd (by omega)⟩ (by omega)
  · intro f p s hp hT hk
    have hC1 := zk_C_f hC ho hT.1 (fun id a b d => by unfold zy_id; omega)
    show z_w (oo_findWares_2_b F _ (nI p) s) _
    unfold oo_findWares_2_b
    rw [z_ql hC1.1, z_sbind, hC1.2.2.1.2.2.1, if_pos (nI_lt hp (by omega))]
    refine z_cw (n := zl_pp L) (A := fun f2 q s => oo_findWares_15 F (nI p) (oo_findWares_2 F f) f2 (nI q) s) (fun q s => zy_T L U (zw_lf W) c s (fun a b => a < p ∨ (a = p ∧ b < q))) ?_ ?_ F 0 s (by omega) ⟨hT.1, fun a b ha hb hd => hT.2 a b ha hb (by omega)⟩ (by omega)
    · intro f2 q s1 hq hT1 gk
      have hC2 := zk_C_f hC ho hT1.1 (fun id a b d => by unfold zy_id; omega)
      show z_w (oo_findWares_15_b F (nI p) _ _ (nI q) s1) _
      unfold oo_findWares_15_b
      rw [z_ql hC2.1, z_sbind, hC2.2.2.1.2.2.1, if_pos (nI_lt hq (by omega))]
      refine zy_C_one ho how hC hp hq hF hT1 (fun s' hs' => gk s' ⟨hs'.1, fun a b ha hb hd => hs'.2 a b ha hb (by omega)⟩)
    · intro f2 s1 hT1
      have hC2 := zk_C_f hC ho hT1.1 (fun id a b d => by unfold zy_id; omega)
      show z_w (oo_findWares_15_b F (nI p) _ _ (nI (zl_pp L)) s1) _
      unfold oo_findWares_15_b
      rw [z_ql hC2.1, z_sbind, hC2.2.2.1.2.2.1, if_neg (by rw [z_lt (by omega) (by omega)]; omega), nI_1]
      exact hk s1 ⟨hT1.1, fun a b ha hb hd => hT1.2 a b ha hb (by omega)⟩
  · intro f s hT
    have hC1 := zk_C_f hC ho hT.1 (fun id a b d => by unfold zy_id; omega)
    show z_w (oo_findWares_2_b F _ (nI (zl_pp L)) s) _
    unfold oo_findWares_2_b
    rw [z_ql hC1.1, z_sbind, hC1.2.2.1.2.2.1, if_neg (by rw [z_lt (by omega) (by omega)]; omega)]
    exact z_w_some ⟨hT.1, fun a b ha hb _ => hT.2 a b ha hb ha⟩
