/-! Layer 2: what is LAWFUL in the class; as all are now, in both -/
theorem z_ql {μ : g_St} {k : Nat} (h : g_isLand (μ.2.2 k)) : g_ql μ k = some (μ.2.2 k) := by unfold g_ql; rw [if_pos h]
theorem z_qr {μ : g_St} {k : Nat} (h : g_isRule (μ.2.2 k)) : g_qr μ k = some (μ.2.2 k) := by unfold g_qr; rw [if_pos h]
theorem z_ql_sI {μ : g_St} {q id k : Nat} {v : Int32} : g_ql (g_sI μ id k v) q = g_ql μ q := rfl
theorem z_qr_sI {μ : g_St} {q id k : Nat} {v : Int32} : g_qr (g_sI μ id k v) q = g_qr μ q := rfl
theorem z_22_sI {μ : g_St} {id k : Nat} {v : Int32} : (g_sI μ id k v).2 = μ.2 := rfl
def zf_idC (bu id : Nat) : Prop := id ≠ 70 ∧ id ≠ bu + 3
theorem zf_C_fill {L : zl_T} {c : g_St} {p q g ds lf : Nat} (hql : g_isLand (c.2.2 0)) (hL : zl_C L c (c.2.2 0)) (ho : zl_ok L) (hp : p < zl_pp L) (hq : q < zl_pp L) (hg : g < zl_gd L) (hds : ds < 256) (hlf : lf < 64) :
    z_w (oo_fillFacts (nI p) (nI q) (nI g) (nI ds) (nI lf) c) (fun s => z_f (fun id => id ≠ 70) c s ∧ ∀ j, zu_fx j → s.1 70 j = zf_f L p q g 0 (2 ^ p) (z_bit ds p) (z_bit lf g) j) := by
  have h8 := ho.2.2.1
  have h6 := ho.2.1
  have h5 := ho.1
  have mp := hL.2.2.2.2.2 p hp
  have mq := hL.2.2.2.2.2 q hq
  have lp := (ho.2.2.2.2.2 p hp).1
  have lq := (ho.2.2.2.2.2 q hq).1
  have hw := hL.2.2.2.1 _ _ lp lq
  have hg1 := (hL.2.2.2.2.1 g hg).1
  unfold g_isLand at hql
  unfold oo_fillFacts ol_away
  simp (disch := omega) only [↓reduceIte, nI_lit, z_wr, z_rd, z_rr, z_sbind, z_ql_sI, z_ql (μ := c) (k := 0) hql, z_sI_id, hg1, mp.1, mq.1, hw, z_and, z_or, z_xor, z_n31, z_shr, z_shl1, z_bit_and, z_andn]
  refine z_w_some ⟨?_, ?_⟩
  · have s : ∀ {μ : g_St} {k : Nat} {v : Int32}, z_f (fun id => id ≠ 70) μ (g_sI μ 70 k v) := fun {μ k v} => z_f_sI (fun q => q rfl)
    have t : ∀ {μ ν ξ : g_St}, z_f (fun id => id ≠ 70) μ ν → z_f (fun id => id ≠ 70) ν ξ → z_f (fun id => id ≠ 70) μ ξ := fun h1 h2 => z_f_trans h1 h2 (fun _ q => q) (fun _ q => q)
    exact t (t (t (t (t (t (t s s) s) s) s) s) s) s
  · intro j hj
    have hb : z_bit (2 ^ p) p = 1 := by rw [z_bit_one]; exact Nat.testBit_two_pow_self
    unfold zf_f zu_fx at *
    rcases (by omega : j = 2 ∨ j = 3 ∨ j = 14 ∨ j = 15 ∨ j = 16 ∨ j = 17 ∨ j = 18 ∨ j = 19) with rfl | rfl | rfl | rfl | rfl | rfl | rfl | rfl <;> simp [z_sI, hb]
theorem zf_C {L : zl_T} {U : zu_T} {W : zw_T} {c : g_St} {F p q t ds lf : Nat} (hql : g_isLand (c.2.2 0)) (hqr : g_isRule (c.2.2 2)) (hL : zl_C L c (c.2.2 0)) (hU : zu_C U c (c.2.2 2)) (hW : zw_C L W c 61) (ho : zl_ok L) (how : zw_ok L W) (hp : p < zl_pp L) (hq : q < zl_pp L) (ht : t < zw_n W) (hds : ds < 256) (hlf : lf < 64) (hF : 1010 < F) :
    z_w (oo_isLawful F (nI p) (nI q) (nI t) (nI ds) (nI lf) c) (fun x => x.1 = nI (zf_law L U p q (zw_gd W t) (zw_so W t) (zw_mk W t) (z_bit ds p) (z_bit lf (zw_gd W t))).toNat ∧ z_f (zf_idC (c.2.2 2)) c x.2) := by
  have h8 := ho.2.2.1
  have h6 := ho.2.1
  have h40 := how.1
  have wt := hW.2.2.1 t ht
  have ot := how.2.2.1 t ht
  have hp2 : (2 : Nat) ^ p < 2147483648 := by
    have : (2 : Nat) ^ p ≤ 2 ^ 8 := Nat.pow_le_pow_right (by omega) (by omega)
    omega
  obtain ⟨s, hs, hz, hf⟩ := zf_C_fill (ds := ds) (lf := lf) hql hL ho hp hq ot.1 hds hlf
  have e63 : s.1 63 = c.1 63 := hz.1 _ (by omega)
  have e64 : s.1 64 = c.1 64 := hz.1 _ (by omega)
  have wt1 : c.1 62 t = nI (zw_gd W t) := wt.1
  have wt2 : c.1 63 t = nI (zw_so W t) := wt.2.1
  have wt3 : c.1 64 t = nI (zw_mk W t) := wt.2.2.1
  have s2 : s.2 = c.2 := hz.2
  have hbu := hqr
  unfold g_isRule at hbu
  have key : ∀ v, v = nI (if zw_mk W t = 2 ^ p then 1 else 0) → z_w (oo_isLawful_53 F (nI p) (nI t) (nI (zw_mk W t)) v (nI 14) s) (fun x => x.1 = nI (zf_law L U p q (zw_gd W t) (zw_so W t) (zw_mk W t) (z_bit ds p) (z_bit lf (zw_gd W t))).toNat ∧ z_f (zf_idC (c.2.2 2)) c x.2) := by
    intro v hv
    have hz2 : z_f (fun id => id ≠ 70) c (g_sI (g_sI (g_sI s 70 14 v) 70 15 (nI (z_bit (zw_mk W t) p))) 70 16 (nI (zw_so W t))) := z_f_trans hz (z_f_trans (z_f_trans (z_f_sI (P := fun id => id ≠ 70) (fun q => q rfl)) (z_f_sI (P := fun id => id ≠ 70) (fun q => q rfl)) (R := fun id => id ≠ 70) (fun _ q => q) (fun _ q => q)) (z_f_sI (P := fun id => id ≠ 70) (fun q => q rfl)) (R := fun id => id ≠ 70) (fun _ q => q) (fun _ q => q)) (fun _ q => q) (fun _ q => q)
    have hf2 : ∀ j, zu_fx j → (g_sI (g_sI (g_sI s 70 14 v) 70 15 (nI (z_bit (zw_mk W t) p))) 70 16 (nI (zw_so W t))).1 70 j = zf_f L p q (zw_gd W t) (zw_so W t) (zw_mk W t) (z_bit ds p) (z_bit lf (zw_gd W t)) j := by
      intro j hj
      by_cases h16 : j = 16
      · subst h16; rw [z_sI_same]; rfl
      · rw [z_sI_k h16]
        by_cases h15 : j = 15
        · subst h15; rw [z_sI_same]; rfl
        · rw [z_sI_k h15]
          by_cases h14 : j = 14
          · subst h14; rw [z_sI_same, hv]; rfl
          · rw [z_sI_k h14, hf j hj]
            unfold zf_f
            rw [if_neg h14, if_neg h15, if_neg h16, if_neg h14, if_neg h15, if_neg h16]
    have hqr2 : g_isRule ((g_sI (g_sI (g_sI s 70 14 v) 70 15 (nI (z_bit (zw_mk W t) p))) 70 16 (nI (zw_so W t))).2.2 2) := by rw [hz2.2]; exact hqr
    have hU2 : zu_C U (g_sI (g_sI (g_sI s 70 14 v) 70 15 (nI (z_bit (zw_mk W t) p))) 70 16 (nI (zw_so W t))) (c.2.2 2) := by
      unfold zu_C
      rw [hz2.1 (c.2.2 2) (by omega), hz2.1 (c.2.2 2 + 2) (by omega), hz2.1 (c.2.2 2 + 1) (by omega)]
      exact hU
    unfold oo_isLawful_53
    simp (disch := omega) only [↓reduceIte, nI_lit, z_wr, z_rd, z_sbind, z_sI_id, e63, wt2, z_and, z_or, z_xor, z_n31, z_shr, z_shl1, z_bit_and, z_andn]
    rw [z_qr hqr2, z_sbind, hz2.2]
    refine z_w_call (zu_C_allows hU2 hqr hf2 hF) (fun x hx => z_w_some ⟨?_, z_f_trans hz2 hx.2 (fun id h => h.1) (fun id h => h.2)⟩)
    rw [hx.1, z_and]
    unfold zf_law
    generalize zu_law U _ = o
    cases o <;> rfl
  unfold oo_isLawful
  simp (disch := omega) only [↓reduceIte, nI_lit, z_rd, z_sbind, wt1, hs, e64, wt3, z_and, z_or, z_xor, z_n31, z_shr, z_shl1, z_bit_and, z_andn, z_eq]
  by_cases h : zw_mk W t = 2 ^ p
  · rw [if_pos h]; exact key _ (by rw [if_pos h])
  · rw [if_neg h]; exact key _ (by rw [if_neg h])
/-- as all are now -/
def zw_now (L : zl_T) (U : zu_T) (W : zw_T) (p q t : Nat) : Bool := zf_law L U p q (zw_gd W t) (zw_so W t) (zw_mk W t) (if zw_pc W p = zl_hm L p then 1 else 0) (z_bit (zw_lf W) (zw_gd W t))
theorem zf_C_now {L : zl_T} {U : zu_T} {W : zw_T} {c : g_St} {F p q t : Nat} (hql : g_isLand (c.2.2 0)) (hqr : g_isRule (c.2.2 2)) (hL : zl_C L c (c.2.2 0)) (hU : zu_C U c (c.2.2 2)) (hW : zw_C L W c 61) (ho : zl_ok L) (how : zw_ok L W) (hp : p < zl_pp L) (hq : q < zl_pp L) (ht : t < zw_n W) (hF : 1010 < F) :
    z_w (oo_isLawfulNow F (nI p) (nI q) (nI t) c) (fun x => x.1 = nI (zw_now L U W p q t).toNat ∧ z_f (zf_idC (c.2.2 2)) c x.2) := by
  have h8 := ho.2.2.1
  have h5 := ho.1
  have mp := (hL.2.2.2.2.2 p hp).1
  have lp := (ho.2.2.2.2.2 p hp).1
  have wp := (hW.2.2.2 p hp).2
  have op := (how.2.2.2 p hp).2
  have w1 : c.1 61 1 = nI (zw_lf W) := hW.2.1
  have wp' : c.1 68 p = nI (zw_pc W p) := wp
  have hp2 : (2 : Nat) ^ p < 256 := by
    have : (2 : Nat) ^ p ≤ 2 ^ 7 := Nat.pow_le_pow_right (by omega) (by omega)
    omega
  have key : ∀ ds, ds < 256 → z_bit ds p = (if zw_pc W p = zl_hm L p then 1 else 0) → z_w (oo_isLawfulNow_28 F (nI p) (nI q) (nI t) (nI ds) c) (fun x => x.1 = nI (zw_now L U W p q t).toNat ∧ z_f (zf_idC (c.2.2 2)) c x.2) := by
    intro ds hds hb
    unfold oo_isLawfulNow_28
    rw [w1]
    refine z_w_call (zf_C hql hqr hL hU hW ho how hp hq ht hds how.2.1 hF) (fun x hx => z_w_some ⟨?_, hx.2⟩)
    rw [hx.1, hb]
    unfold zw_now
    generalize zf_law L U p q _ _ _ _ _ = o
    cases o <;> rfl
  unfold oo_isLawfulNow
  rw [z_rd (by omega) (by omega), z_sbind, z_ql hql, z_sbind, z_rd (by omega) (by omega), z_sbind, mp, wp']
  simp (disch := omega) only [z_eq, nI_lit, z_and, z_or, z_xor, z_n31, z_shr, z_shl1, z_bit_and, z_andn]
  by_cases h : zw_pc W p = zl_hm L p
  · rw [if_pos h]; exact key _ hp2 (by rw [if_pos h, z_bit_one]; exact Nat.testBit_two_pow_self)
  · rw [if_neg h]; exact key 0 (by omega) (by rw [if_neg h, z_bit_zero]; exact Nat.zero_testBit _)
theorem zf_R_now {L : zl_T} {U : zu_T} {W : zw_T} {r : g_St} {F p q t : Nat} (hL : zl_R L r) (hU : zu_R U r) (hW : zw_R L W r) (ho : zl_ok L) (how : zw_ok L W) (hp : p < zl_pp L) (hq : q < zl_pp L) (ht : t < zw_n W) (hF : 1010 < F) :
    z_w (mm_isLawfulNow F (nI p) (nI q) (nI t) r) (fun x => x.1 = nI (zw_now L U W p q t).toNat ∧ z_f zf_idR r x.2) := by
  have h8 := ho.2.2.1
  have h6 := ho.2.1
  have h5 := ho.1
  have h40 := how.1
  have mp := (hL.2.2.2.2.2 p hp).1
  have lp := (ho.2.2.2.2.2 p hp).1
  have wp := (hW.2.2.2 p hp).2
  have op := (how.2.2.2 p hp).2
  have wt := hW.2.2.1 t ht
  have ot := how.2.2.1 t ht
  have key : ∀ dr, dr < 2 → dr = (if zw_pc W p = zl_hm L p then 1 else 0) → z_w (mm_isLawfulNow_41 F (nI dr) (nI (zw_mk W t)) (nI (zw_so W t)) (nI (zw_gd W t)) (nI q) (nI p) r) (fun x => x.1 = nI (zw_now L U W p q t).toNat ∧ z_f zf_idR r x.2) := by
    intro dr hdr hb
    unfold mm_isLawfulNow_41
    refine z_w_call (zf_R hL hU ho hp hq ot.1 ot.2.2.1 hdr (z_bit_lt _ _) (hW.2.1 _ (by omega)) hF) (fun x hx => z_w_some ⟨?_, hx.2⟩)
    rw [hx.1, hb]
    unfold zw_now
    generalize zf_law L U p q _ _ _ _ _ = o
    cases o <;> rfl
  unfold mm_isLawfulNow
  rw [z_rd (by omega) (by omega), z_sbind, z_rd (by omega) (by omega), z_sbind, z_rd (by omega) (by omega), z_sbind, z_rd (by omega) (by omega), z_sbind, z_rd (by omega) (by omega), z_sbind, mp, wp, wt.1, wt.2.1, wt.2.2.1]
  simp (disch := omega) only [z_eq, nI_lit]
  by_cases h : zw_pc W p = zl_hm L p
  · rw [if_pos h]; exact key 1 (by omega) (by rw [if_pos h])
  · rw [if_neg h]; exact key 0 (by omega) (by rw [if_neg h])
