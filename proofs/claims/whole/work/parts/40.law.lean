/-! Layer 2: what is LAWFUL, in both programs -/
theorem zq_line {S : Nat → Int32} {a b F line : Nat} {f : Nat → Int32} {r : g_St} {φ : (Nat → Int32) → Int32} (x : zq_E S a b 6 φ) (hab : a ≤ b) (h16 : r.1 16 = S) (hl : line < 6) (h14 : r.1 14 line = nI a) (h15 : r.1 15 line = nI b) (hb : b ≤ 1000) (hf : zq_fc f r) (hF : 1010 < F) : z_w (mm_worked F (nI line) r) (fun q => q.1 = φ f ∧ z_f (fun id => ¬ zq_id id) r q.2) := by
  unfold mm_worked mm_opens
  simp (disch := omega) only [↓reduceIte, nI_lit, z_sbind, z_rd, z_rl, z_rr, z_wr, z_wl, nI_add, z_mul, z_lt, z_le, z_eq, z_ltm1, z_m1lt, z_eqm1, z_m1eq, z_lem1, z_m1le, if_true, if_false, ite_true, ite_false]
  have k1 : zq_kp 0 r (g_sI (g_sI (g_sI (g_sI (g_sI r 20 0 (nI 0)) 22 0 (nI 0)) 23 0 (nI 0)) 24 0 (nI 20)) 26 0 (nI 0)) := by
    refine zq_kp_trans (zq_kp_trans (zq_kp_trans (zq_kp_trans (zq_kp_sI ?_ ?_) (zq_kp_sI ?_ ?_)) (zq_kp_sI ?_ ?_)) (zq_kp_sI ?_ ?_)) (zq_kp_sI ?_ ?_) <;> (first | exact Nat.le_refl _ | (unfold zq_id; omega))
  have e14 : (g_sI (g_sI (g_sI (g_sI (g_sI r 20 0 (nI 0)) 22 0 (nI 0)) 23 0 (nI 0)) 24 0 (nI 20)) 26 0 (nI 0)).1 14 line = nI a := by rw [k1.1.1 14 (by unfold zq_id; omega), h14]
  rw [e14]
  have hat := zq_at_kp (S := S) (line := line) (e := b) (f := f) ⟨h16, by omega, h15, hb, hf⟩ k1
  obtain ⟨μ2, r2, k2, h2, v2⟩ := x F line b f _ 0 hat (by omega) (by omega) (Nat.le_refl _) (Or.inl rfl) (by rw [z_sI_same]) (by rw [z_sI_id (by omega), z_sI_id (by omega), z_sI_same]) (by rw [z_sI_id (by omega), z_sI_same]) (by rw [z_sI_id (by omega), z_sI_id (by omega), z_sI_id (by omega), z_sI_same]) (by rw [z_sI_id (by omega), z_sI_id (by omega), z_sI_id (by omega), z_sI_id (by omega), z_sI_same])
  refine ⟨(φ f, zq_tst μ2 0), ?_, rfl, (zq_kp_trans (zq_kp_trans k1 k2) zq_tst_kp).1⟩
  have h := r2.2 (F - (b - a))
  rw [show F - (b - a) + (b - a) = F by omega] at h
  refine Eq.trans h ?_
  obtain ⟨n, hn⟩ : ∃ n, F - (b - a) = n + 1 := ⟨F - (b - a) - 1, by omega⟩
  rw [hn]
  show mm_worked_14_b F (nI line) _ (nI 0) (nI b) μ2 = _
  obtain ⟨g16, gl, g15, ge, gfc⟩ := zq_at_kp hat k2
  have g19 : (zq_tst μ2 0).1 19 0 = φ f := by unfold zq_tst; rw [z_sI_id (by omega), z_sI_id (by omega), z_sI_id (by omega), z_sI_same, v2]
  unfold mm_worked_14_b
  rw [z_rd (by omega) (by omega), z_sbind, g15, if_neg (by rw [z_lt (by omega) (by omega)]; omega), show (0 : Int32) = nI 0 from rfl, zq_tests (by omega), z_sbind, z_rd (by omega) (by omega), z_sbind, g19]
def zu_R (U : zu_T) (r : g_St) : Prop := U.1 ≤ 6 ∧ r.1 0 22 = nI U.1 ∧ ∀ k, k < U.1 → ∃ a b, r.1 14 k = nI a ∧ r.1 15 k = nI b ∧ a ≤ b ∧ b ≤ 1000 ∧ ∀ S' : Nat → Int32, (∀ i, i < 1000 → S' i = r.1 16 i) → zq_E S' a b 6 (U.2 k)
/-- the facts of a gift -/
def zf_f (L : zl_T) (p q g so mk dr fr : Nat) : Nat → Int32 := fun j => if j = 14 then nI (if mk = 2 ^ p then 1 else 0) else if j = 15 then nI (z_bit mk p) else if j = 16 then nI so else if j = 17 then nI dr else if j = 3 then nI (zl_hr L g) else if j = 18 then nI (zl_wy L (zl_hm L p) (zl_hm L q)) else if j = 2 then nI g else if j = 19 then nI fr else nI 0
def zf_law (L : zl_T) (U : zu_T) (p q g so mk dr fr : Nat) : Bool := zu_law U (zf_f L p q g so mk dr fr)
theorem z_ite01 {P : Prop} {d : Decidable P} : (if P then (1 : Nat) else 0) < 2 := by split <;> omega
theorem zf_R_any {U : zu_T} {r : g_St} {F : Nat} {f : Nat → Int32} (hU : zu_R U r) (hf : zq_fc f r) (hF : 1010 < F) : z_w (mm_isLawful_188 F F (nI 0) r) (fun q => q.1 = nI (zu_any U f U.1).toNat ∧ z_f (fun id => ¬ zq_id id) r q.2) := by
  obtain ⟨h6, hn, hk⟩ := hU
  refine z_cw (n := U.1) (A := fun n i s => mm_isLawful_188 F n (nI i) s) (fun i s => zu_any U f i = false ∧ z_f (fun id => ¬ zq_id id) r s) ?_ ?_ F 0 r (by omega) ⟨rfl, z_f_refl⟩ (by omega)
  · intro n i s hi hI hk2
    obtain ⟨hIa, hIz⟩ := hI
    obtain ⟨a, b, h14, h15, hab, hb, hE0⟩ := hk i hi
    have hE := hE0 (r.1 16) (fun _ _ => rfl)
    have e0 : s.1 0 = r.1 0 := hIz.1 _ (by unfold zq_id; omega)
    have e16 : s.1 16 = r.1 16 := hIz.1 _ (by unfold zq_id; omega)
    have e14 : s.1 14 = r.1 14 := hIz.1 _ (by unfold zq_id; omega)
    have e15 : s.1 15 = r.1 15 := hIz.1 _ (by unfold zq_id; omega)
    have e28 : s.1 28 = r.1 28 := hIz.1 _ (by unfold zq_id; omega)
    obtain ⟨q, hq, hq1, hq2⟩ := zq_line (F := F) (r := s) hE hab e16 (by omega : i < 6) (by rw [e14, h14]) (by rw [e15, h15]) hb (f := f) (by unfold zq_fc at *; rw [e28]; exact hf) hF
    have hz2 := z_f_trans hIz hq2 (R := fun id => ¬ zq_id id) (fun _ q => q) (fun _ q => q)
    show z_w (mm_isLawful_188_b F _ (nI i) s) _
    unfold mm_isLawful_188_b
    simp (disch := omega) only [↓reduceIte, nI_lit, z_sbind, z_rd, z_rl, z_rr, z_wr, z_wl, nI_add, z_mul, z_lt, z_le, z_eq, z_ltm1, z_m1lt, z_eqm1, z_m1eq, z_lem1, z_m1le, if_true, if_false, ite_true, ite_false, e0, hn, hi, hq, hq1]
    by_cases hv : U.2 i f = nI 0
    · simp only [hv, if_true]
      exact hk2 q.2 ⟨by show (zu_any U f i || decide (U.2 i f ≠ nI 0)) = false; rw [hIa, hv]; rfl, hz2⟩
    · simp only [hv, if_false]
      have h1 : zu_any U f (i + 1) = true := by show (zu_any U f i || decide (U.2 i f ≠ nI 0)) = true; rw [decide_eq_true hv, Bool.or_true]
      exact z_w_some ⟨by rw [zu_any_up h1 (by omega)]; rfl, hz2⟩
  · intro n s hI
    obtain ⟨hIa, hIz⟩ := hI
    have e0 : s.1 0 = r.1 0 := hIz.1 _ (by unfold zq_id; omega)
    show z_w (mm_isLawful_188_b F _ (nI U.1) s) _
    unfold mm_isLawful_188_b
    simp (disch := omega) only [↓reduceIte, nI_lit, z_sbind, z_rd, z_rl, z_rr, z_wr, z_wl, nI_add, z_mul, z_lt, z_le, z_eq, z_ltm1, z_m1lt, z_eqm1, z_m1eq, z_lem1, z_m1le, if_true, if_false, ite_true, ite_false, e0, hn, Nat.lt_irrefl]
    exact z_w_some ⟨by rw [hIa]; rfl, hIz⟩
def zf_idR (id : Nat) : Prop := id < 19 ∨ 28 < id
theorem zf_R {L : zl_T} {U : zu_T} {r : g_St} {F p q g so mk dr fr : Nat} (hL : zl_R L r) (hU : zu_R U r) (ho : zl_ok L) (hp : p < zl_pp L) (hq : q < zl_pp L) (hg : g < zl_gd L) (hmk : mk < 256) (hdr : dr < 2) (hfr : fr < 2) (h36 : r.1 36 g = nI fr) (hF : 1010 < F) :
    z_w (mm_isLawful F (nI p) (nI q) (nI g) (nI so) (nI mk) (nI dr) r) (fun x => x.1 = nI (zf_law L U p q g so mk dr fr).toNat ∧ z_f zf_idR r x.2) := by
  have h8 := ho.2.2.1
  have h6 := ho.2.1
  have h5 := ho.1
  have hp2 : (2 : Nat) ^ p < 2147483648 := by
    have : (2 : Nat) ^ p ≤ 2 ^ 8 := Nat.pow_le_pow_right (by omega) (by omega)
    omega
  have mp := hL.2.2.2.2.2 p hp
  have mq := hL.2.2.2.2.2 q hq
  have lp := (ho.2.2.2.2.2 p hp).1
  have lq := (ho.2.2.2.2.2 q hq).1
  have hw := hL.2.2.2.1 _ _ lp lq
  have hw2 := ho.2.2.2.1 _ _ lp lq
  have hg1 := (hL.2.2.2.2.1 g hg).1
  -- the state when the facts are there
  have tail : ∀ (s : g_St) (x7 : Int32), z_f (fun id => id ≠ 28) r s → s.1 28 1 = zf_f L p q g so mk dr fr 14 → s.1 28 2 = zf_f L p q g so mk dr fr 15 → s.1 28 3 = zf_f L p q g so mk dr fr 16 → s.1 28 4 = zf_f L p q g so mk dr fr 17 → s.1 28 5 = zf_f L p q g so mk dr fr 3 → x7 = nI (zl_wy L (zl_hm L p) (zl_hm L q)) →
      z_w (mm_isLawful_125 F (nI g) x7 (nI 6) s) (fun x => x.1 = nI (zf_law L U p q g so mk dr fr).toNat ∧ z_f zf_idR r x.2) := by
    intro s x7 hz h1 h2 h3 h4 h5 hx
    have e36 : s.1 36 = r.1 36 := hz.1 _ (by omega)
    have fin : ∀ v, v = nI fr → z_w (mm_isLawful_154 F v (nI 8) (g_sI (g_sI s 28 6 x7) 28 7 (nI g))) (fun x => x.1 = nI (zf_law L U p q g so mk dr fr).toNat ∧ z_f zf_idR r x.2) := by
      intro v hv
      have hz2 : z_f (fun id => id ≠ 28) r (g_sI (g_sI (g_sI s 28 6 x7) 28 7 (nI g)) 28 8 v) := z_f_trans hz (z_f_trans (z_f_trans (z_f_sI (P := fun id => id ≠ 28) (fun q => q rfl)) (z_f_sI (P := fun id => id ≠ 28) (fun q => q rfl)) (R := fun id => id ≠ 28) (fun _ q => q) (fun _ q => q)) (z_f_sI (P := fun id => id ≠ 28) (fun q => q rfl)) (R := fun id => id ≠ 28) (fun _ q => q) (fun _ q => q)) (fun _ q => q) (fun _ q => q)
      have hfc : zq_fc (zf_f L p q g so mk dr fr) (g_sI (g_sI (g_sI s 28 6 x7) 28 7 (nI g)) 28 8 v) := by
        unfold zq_fc
        refine ⟨?_, ?_, ?_, ?_, ?_, ?_, ?_, ?_⟩
        · rw [z_sI_k (by omega), z_sI_k (by omega), z_sI_k (by omega), h1]
        · rw [z_sI_k (by omega), z_sI_k (by omega), z_sI_k (by omega), h2]
        · rw [z_sI_k (by omega), z_sI_k (by omega), z_sI_k (by omega), h3]
        · rw [z_sI_k (by omega), z_sI_k (by omega), z_sI_k (by omega), h4]
        · rw [z_sI_k (by omega), z_sI_k (by omega), z_sI_k (by omega), h5]
        · rw [z_sI_k (by omega), z_sI_k (by omega), z_sI_same, hx]; rfl
        · rw [z_sI_k (by omega), z_sI_same]; rfl
        · rw [z_sI_same, hv]; rfl
      generalize hs : g_sI (g_sI (g_sI s 28 6 x7) 28 7 (nI g)) 28 8 v = t at *
      have hU2 : zu_R U t := by
        refine ⟨hU.1, by rw [hz2.1 0 (by omega)]; exact hU.2.1, fun k hk => ?_⟩
        rw [hz2.1 14 (by omega), hz2.1 15 (by omega), hz2.1 16 (by omega)]; exact hU.2.2 k hk
      unfold mm_isLawful_154
      simp (disch := omega) only [↓reduceIte, nI_lit, z_wr, z_sbind, hs, hU2.2.1]
      unfold zf_law zu_law
      have hU6 := hU.1
      by_cases hn : U.1 = 0
      · rw [hn]
        simp only [if_true]
        rw [z_rd (by omega) (by omega), z_sbind, z_rd (by omega) (by omega), z_sbind, hfc.1, hfc.2.2.2.2.2.2.2]
        have e14 : zf_f L p q g so mk dr fr 14 = nI (if mk = 2 ^ p then 1 else 0) := rfl
        have e19 : zf_f L p q g so mk dr fr 19 = nI fr := rfl
        have hi : (if mk = 2 ^ p then (1 : Nat) else 0) < 2 := z_ite01
        have hzz : z_f zf_idR r t := z_f_mono hz2 (fun id h => by unfold zf_idR at h; omega)
        rw [e14, e19]
        generalize (if mk = 2 ^ p then (1 : Nat) else 0) = o at *
        rcases (by omega : o = 0 ∨ o = 1) with rfl | rfl <;> rcases (by omega : fr = 0 ∨ fr = 1) with rfl | rfl <;> simp (disch := omega) only [nI_add, z_lt, z_eq, ↓reduceIte, show (0 + 1 : Nat) = 1 from rfl, show (1 + 0 : Nat) = 1 from rfl, show (0 + 0 : Nat) = 0 from rfl, show (1 + 1 : Nat) = 2 from rfl, show (0 < 1) = True from eq_true (by omega), show (0 < 2) = True from eq_true (by omega), Nat.lt_irrefl, show ((0 : Nat) = 1) = False from eq_false (by omega), decide_true, decide_false, Bool.or_true, Bool.or_false, Bool.true_or, if_true, if_false]
        · exact z_w_some ⟨rfl, hzz⟩
        · exact z_w_some ⟨rfl, hzz⟩
        · exact z_w_some ⟨rfl, hzz⟩
        · exact z_w_some ⟨rfl, hzz⟩
      · rw [if_neg hn, if_neg (by rw [z_eq (by omega) (by omega)]; exact hn)]
        exact z_w_mono (zf_R_any hU2 hfc hF) (fun x hx => ⟨hx.1, z_f_trans hz2 hx.2 (fun id h => by unfold zf_idR at h; omega) (fun id h => by unfold zf_idR at h; unfold zq_id; omega)⟩)
    unfold mm_isLawful_125
    simp (disch := omega) only [↓reduceIte, nI_lit, z_wr, z_rd, z_sbind]
    rw [show (g_sI (g_sI s 28 6 x7) 28 7 (nI g)).1 36 g = nI fr from by rw [z_sI_id (by omega), z_sI_id (by omega), e36, h36]]
    rcases (by omega : fr = 0 ∨ fr = 1) with rfl | rfl
    · rw [if_pos rfl]; exact fin _ rfl
    · rw [if_neg (by rw [z_10]; exact fun h => h)]; exact fin _ rfl
  have mid : ∀ (s : g_St) (v : Int32), v = nI dr → z_f (fun id => id ≠ 28) r s → s.1 28 1 = zf_f L p q g so mk dr fr 14 → s.1 28 2 = zf_f L p q g so mk dr fr 15 → s.1 28 3 = zf_f L p q g so mk dr fr 16 →
      z_w (mm_isLawful_54 F (nI p) (nI q) (nI g) v (nI 4) s) (fun x => x.1 = nI (zf_law L U p q g so mk dr fr).toNat ∧ z_f zf_idR r x.2) := by
    intro s v hv hz h1 h2 h3
    have e9 : (g_sI s 28 4 v).1 9 = r.1 9 := by rw [z_sI_f (by omega)]; exact hz.1 _ (by omega)
    have e11 : (g_sI (g_sI s 28 4 v) 28 5 (nI (zl_hr L g))).1 11 = r.1 11 := by rw [z_sI_f (by omega), z_sI_f (by omega)]; exact hz.1 _ (by omega)
    have e8 : (g_sI (g_sI s 28 4 v) 28 5 (nI (zl_hr L g))).1 8 = r.1 8 := by rw [z_sI_f (by omega), z_sI_f (by omega)]; exact hz.1 _ (by omega)
    have t : ∀ x7, x7 = nI (zl_wy L (zl_hm L p) (zl_hm L q)) → z_w (mm_isLawful_125 F (nI g) x7 (nI 6) (g_sI (g_sI s 28 4 v) 28 5 (nI (zl_hr L g)))) (fun x => x.1 = nI (zf_law L U p q g so mk dr fr).toNat ∧ z_f zf_idR r x.2) := by
      intro x7 hx
      refine tail _ x7 (z_f_trans hz (z_f_trans (z_f_sI (P := fun id => id ≠ 28) (fun q => q rfl)) (z_f_sI (P := fun id => id ≠ 28) (fun q => q rfl)) (R := fun id => id ≠ 28) (fun _ q => q) (fun _ q => q)) (fun _ q => q) (fun _ q => q)) ?_ ?_ ?_ ?_ ?_ hx
      · rw [z_sI_k (by omega), z_sI_k (by omega), h1]
      · rw [z_sI_k (by omega), z_sI_k (by omega), h2]
      · rw [z_sI_k (by omega), z_sI_k (by omega), h3]
      · rw [z_sI_k (by omega), z_sI_same, hv]; rfl
      · rw [z_sI_same]; rfl
    unfold mm_isLawful_54
    simp (disch := omega) only [↓reduceIte, nI_lit, z_wr, z_rd, z_sbind, e9, hg1, e11, mp.1, mq.1, z_mul, nI_add, e8, hw, z_lt]
    split
    · exact t _ rfl
    · exact t _ (by congr 1; omega)
  have top : ∀ (v : Int32), v = zf_f L p q g so mk dr fr 14 → z_w (mm_isLawful_18 F (nI p) (nI q) (nI g) (nI so) (nI mk) (nI dr) v (nI 1) r) (fun x => x.1 = nI (zf_law L U p q g so mk dr fr).toNat ∧ z_f zf_idR r x.2) := by
    intro v hv
    have t : ∀ w, w = nI dr → z_w (mm_isLawful_54 F (nI p) (nI q) (nI g) w (nI 4) (g_sI (g_sI (g_sI r 28 1 v) 28 2 (nI (z_bit mk p))) 28 3 (nI so))) (fun x => x.1 = nI (zf_law L U p q g so mk dr fr).toNat ∧ z_f zf_idR r x.2) := by
      intro w hw
      refine mid _ w hw (z_f_trans (z_f_trans (z_f_sI (P := fun id => id ≠ 28) (fun q => q rfl)) (z_f_sI (P := fun id => id ≠ 28) (fun q => q rfl)) (R := fun id => id ≠ 28) (fun _ q => q) (fun _ q => q)) (z_f_sI (P := fun id => id ≠ 28) (fun q => q rfl)) (fun _ q => q) (fun _ q => q)) ?_ ?_ ?_
      · rw [z_sI_k (by omega), z_sI_k (by omega), z_sI_same, hv]
      · rw [z_sI_k (by omega), z_sI_same]; rfl
      · rw [z_sI_same]; rfl
    unfold mm_isLawful_18
    simp (disch := omega) only [↓reduceIte, nI_lit, z_wr, z_sbind, z_and, z_or, z_xor, z_n31, z_shr, z_shl1, z_bit_and, z_andn]
    rcases (by omega : dr = 0 ∨ dr = 1) with rfl | rfl
    · rw [if_pos rfl]; exact t _ rfl
    · rw [if_neg (by rw [z_10]; exact fun h => h)]; exact t _ rfl
  unfold mm_isLawful
  simp (disch := omega) only [↓reduceIte, nI_lit, z_and, z_or, z_xor, z_n31, z_shr, z_shl1, z_bit_and, z_andn, z_eq]
  by_cases h : mk = 2 ^ p
  · rw [if_pos h]; exact top _ (by unfold zf_f; rw [if_pos rfl, if_pos h])
  · rw [if_neg h]; exact top _ (by unfold zf_f; rw [if_pos rfl, if_neg h])
