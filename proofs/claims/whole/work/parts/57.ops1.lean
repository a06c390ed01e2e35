/-! Layer 2: calls that ask of the LAND -/
def zo_p (c r : g_St) (f : Option Int32) (m : Option (Int32 × g_St)) : Prop := ∃ x r2, f = some x ∧ m = some (x, r2) ∧ zi c r2
def zo_s (c r : g_St) (f m : Option (Int32 × g_St)) : Prop := ∃ x c2 r2, f = some (x, c2) ∧ m = some (x, r2) ∧ zi c2 r2
theorem zo_p_of {L : zl_T} {U : zu_T} {W : zw_T} {c r r2 : g_St} {x : Int32} {f : Option Int32} {m : Option (Int32 × g_St)} (h : zi_I L U W c r) (hf : f = some x) (hm : m = some (x, r2)) (hk : zi_kR r r2) : zo_p c r f m :=
  ⟨x, r2, hf, hm, L, U, W, zi_R h hk⟩
theorem z_e1 : ¬ (nI 1 = (0 : Int32)) := by decide
theorem z_e0 : nI 0 = (0 : Int32) := rfl
theorem zo_0 {L : zl_T} {U : zu_T} {W : zw_T} {c r : g_St} (h : zi_I L U W c r) : zi_I L U W c (g_sI r 0 0 0) := zi_R h (zi_kR_0 (by omega))
theorem zo_k0 {r : g_St} {v : Int32} : zi_kR r (g_sI r 0 0 v) := zi_kR_0 (by omega)
theorem zo_within {μ : g_St} {v : Int32} {n : Nat} (hn : n < 2147483647) : (z_is v (n + 1) → mm_within μ v 0 (nI n) = some (nI 1)) ∧ (¬ z_is v (n + 1) → mm_within μ v 0 (nI n) = some (nI 0)) := by
  refine ⟨?_, fun hv => ?_⟩
  · rintro ⟨j, hj, rfl⟩
    unfold mm_within
    simp (disch := omega) only [nI_lit, z_le, Nat.zero_le, if_true, show j ≤ n by omega]
  · unfold mm_within
    by_cases h0 : (0 : Int32) ≤ v
    · rw [if_pos h0, if_neg]; rfl
      intro h1
      obtain ⟨j, hj, rfl⟩ := nI_of (x := v) (by rw [Int32.lt_iff_toInt_lt]; rw [Int32.le_iff_toInt_le] at h0; have : (0 : Int32).toInt = 0 := rfl; omega)
      rw [z_le (by omega) (by omega)] at h1
      exact hv ⟨j, by omega, rfl⟩
    · rw [if_neg h0]; rfl
theorem zo_way {c r : g_St} (h : zi c r) (v1 v2 : Int32) : zo_p c r (oo_way c v1 v2) (mm_way v1 v2 r) := by
  obtain ⟨L, U, W, h⟩ := h
  have h0 := zo_0 h
  have ho := h.1
  have h5 := ho.1
  have p1 := zo_place h (v := v1)
  have p2 := zo_place h (v := v2)
  have q1 := zo_place h0 (v := v1)
  have q2 := zo_place h0 (v := v2)
  unfold oo_way mm_way
  rw [z_sbind]
  by_cases b1 : z_is v1 (zl_pl L)
  · rw [(p1.1 b1).1, (q1.1 b1).2, z_sbind, z_sbind, if_neg z_e1, if_neg z_e1]
    by_cases b2 : z_is v2 (zl_pl L)
    · rw [(p2.1 b2).1, (q2.1 b2).2, z_sbind, z_sbind, if_neg z_e1, if_neg z_e1]
      obtain ⟨x, hx, rfl⟩ := b1
      obtain ⟨y, hy, rfl⟩ := b2
      have hw := ho.2.2.2.1 x y hx hy
      have c1 := h.2.2.1.2.2.1.2.2.2.1 x y hx hy
      have r1 := h0.2.2.2.1.1.2.2.2.1 x y hx hy
      unfold mm_isWay
      simp (disch := omega) only [nI_lit, z_ql h.2.2.1.1, z_sbind, z_rr, z_rd, c1, z_mul, nI_add]
      rw [show g_sI r 0 0 (nI 0) = g_sI r 0 0 0 from rfl, r1]
      simp (disch := omega) only [z_le, z_lt]
      by_cases h9 : 999 ≤ zl_wy L x y
      · rw [if_pos h9, if_neg (by omega), z_sbind, if_pos rfl]; exact zo_p_of h rfl rfl zo_k0
      · rw [if_neg h9, if_pos (by omega), z_sbind, if_neg (by rw [z_10]; exact fun q => q)]; exact zo_p_of h rfl rfl zo_k0
    · rw [(p2.2 b2).1, (q2.2 b2).2, z_sbind, z_sbind, if_pos z_e0, if_pos z_e0]; exact zo_p_of h rfl rfl zo_k0
  · rw [(p1.2 b1).1, (q1.2 b1).2, z_sbind, z_sbind, if_pos z_e0, if_pos z_e0]; exact zo_p_of h rfl rfl zo_k0
theorem zo_goodq {F : Nat} (hF : 4000 < F) {c r : g_St} (h : zi c r) (v1 v2 : Int32) : zo_p c r (oo_good F c v1 v2) (mm_good F v1 v2 r) := by
  obtain ⟨L, U, W, h⟩ := h
  have h0 := zo_0 h
  have ho := h.1
  have h6 := ho.2.1
  have p1 := zo_good h (v := v1)
  have q1 := zo_good h0 (v := v1)
  have w := zo_within (μ := g_sI r 0 0 0) (v := v2) (n := 2) (by omega)
  unfold oo_good mm_good
  rw [z_sbind]
  by_cases b1 : z_is v1 (zl_gd L)
  · rw [(p1.1 b1).1, (q1.1 b1).2, z_sbind, z_sbind, if_neg z_e1, if_neg z_e1, show (2 : Int32) = nI 2 from rfl]
    obtain ⟨g, hg, rfl⟩ := b1
    have c1 := h.2.2.1.2.2.1.2.2.2.2.1 g hg
    have r1 := h0.2.2.2.1.1.2.2.2.2.1 g hg
    by_cases b2 : z_is v2 3
    · rw [w.1 b2, z_sbind, if_neg z_e1]
      obtain ⟨k, hk, rfl⟩ := b2
      rcases (by omega : k = 0 ∨ k = 1 ∨ k = 2) with rfl | rfl | rfl
      · rw [if_pos z_e0, if_pos z_e0, z_ql h.2.2.1.1, z_sbind, z_rd (by omega) (by omega), z_rd (by omega) (by omega), z_sbind, z_sbind, c1.1, r1.1]; exact zo_p_of h rfl rfl zo_k0
      · rw [if_neg z_e1, if_neg z_e1, if_pos (show nI 1 = (1 : Int32) from rfl), if_pos (show nI 1 = (1 : Int32) from rfl), z_ql h.2.2.1.1, z_sbind, z_rd (by omega) (by omega), z_rd (by omega) (by omega), z_sbind, z_sbind, c1.2, r1.2]; exact zo_p_of h rfl rfl zo_k0
      · rw [if_neg (show ¬ nI 2 = (0 : Int32) from by decide), if_neg (show ¬ nI 2 = (0 : Int32) from by decide), if_neg (show ¬ nI 2 = (1 : Int32) from by decide), if_neg (show ¬ nI 2 = (1 : Int32) from by decide), if_pos rfl, z_ql h.2.2.1.1, z_sbind, zl_C_makersOf h.2.2.1.2.2.1 ho (by omega) (by omega), zl_R_makersOf h0.2.2.2.1.1 ho (by omega) (by omega), z_sbind, z_sbind]; exact zo_p_of h rfl rfl zo_k0
    · rw [w.2 b2, z_sbind, if_pos z_e0, if_neg (show ¬ v2 = (0 : Int32) from fun e => b2 ⟨0, by omega, e⟩), if_neg (show ¬ v2 = (1 : Int32) from fun e => b2 ⟨1, by omega, e⟩), if_neg (show ¬ v2 = nI 2 from fun e => b2 ⟨2, by omega, e⟩)]; exact zo_p_of h rfl rfl zo_k0
  · rw [(p1.2 b1).1, (q1.2 b1).2, z_sbind, z_sbind, if_pos z_e0, if_pos z_e0]; exact zo_p_of h rfl rfl zo_k0
theorem z_ask3 {α : Type} {v : Int32} {n : Nat} (hn : n < 2147483648) {a b : α} : (z_is v n → (if 0 ≤ v then if nI n ≤ v then b else a else b) = a) ∧ (¬ z_is v n → (if 0 ≤ v then if nI n ≤ v then b else a else b) = b) := by
  refine ⟨?_, fun hv => ?_⟩
  · rintro ⟨j, hj, rfl⟩
    rw [if_pos (nI_pos' (by omega)), if_neg (by rw [z_le (by omega) (by omega)]; omega)]
  · by_cases h0 : (0 : Int32) ≤ v
    · rw [if_pos h0]
      by_cases h1 : nI n ≤ v
      · rw [if_pos h1]
      · exact absurd (z_is_of hn h0 (by rw [Int32.lt_iff_toInt_lt]; rw [Int32.le_iff_toInt_le] at h1; omega)) hv
    · rw [if_neg h0]
theorem z_ask4 {α : Type} {v : Int32} {n : Nat} (hn : n < 2147483647) {a b : α} : (z_is v (n + 1) → (if 0 ≤ v then if nI n < v then b else a else b) = a) ∧ (¬ z_is v (n + 1) → (if 0 ≤ v then if nI n < v then b else a else b) = b) := by
  refine ⟨?_, fun hv => ?_⟩
  · rintro ⟨j, hj, rfl⟩
    rw [if_pos (nI_pos' (by omega)), if_neg (by rw [z_lt (by omega) (by omega)]; omega)]
  · by_cases h0 : (0 : Int32) ≤ v
    · rw [if_pos h0]
      by_cases h1 : nI n < v
      · rw [if_pos h1]
      · refine absurd (z_is_of (n := n + 1) (by omega) h0 ?_) hv
        rw [Int32.lt_iff_toInt_lt, nI_toInt (by omega)] at *
        omega
    · rw [if_neg h0]
theorem zo_worth {c r : g_St} (h : zi c r) (v1 v2 v3 : Int32) : zo_p c r (oo_worth c v1 v2 v3) (mm_worth v1 v2 v3 r) := by
  obtain ⟨L, U, W, h⟩ := h
  have h0 := zo_0 h
  have ho := h.1
  have h6 := ho.2.1
  have h8 := ho.2.2.1
  have p1 := zo_person h (v := v1)
  have q1 := zo_person h0 (v := v1)
  have p2 := zo_good h (v := v2)
  have q2 := zo_good h0 (v := v2)
  have w := zo_within (μ := g_sI r 0 0 0) (v := v3) (n := 2) (by omega)
  unfold oo_worth mm_worth
  rw [z_sbind]
  by_cases b1 : z_is v1 (zl_pp L)
  · rw [(p1.1 b1).1, (q1.1 b1).2, z_sbind, z_sbind, if_neg z_e1, if_neg z_e1]
    by_cases b2 : z_is v2 (zl_gd L)
    · rw [(p2.1 b2).1, (q2.1 b2).2, z_sbind, z_sbind, if_neg z_e1, if_neg z_e1, show (2 : Int32) = nI 2 from rfl, show (3 : Int32) = nI 3 from rfl]
      by_cases b3 : z_is v3 3
      · rw [w.1 b3, z_sbind, if_neg z_e1, (z_ask3 (by omega)).1 b3]
        obtain ⟨p, hp, rfl⟩ := b1
        obtain ⟨g, hg, rfl⟩ := b2
        obtain ⟨k, hk, rfl⟩ := b3
        have r1 := (h0.2.2.2.1.1.2.2.2.2.2 p hp).2.2 (3 * g + k) (by omega)
        rw [z_ql h.2.2.1.1, z_sbind, zl_C_worthOf h.2.2.1.2.2.1 ho hp (by omega) hk, z_sbind]
        simp (disch := omega) only [nI_lit, z_mul, nI_add, z_rd, z_sbind]
        rw [show g_sI r 0 0 (nI 0) = g_sI r 0 0 0 from rfl, show 18 * p + 3 * g + k = 18 * p + (3 * g + k) by omega, r1]
        exact zo_p_of h rfl rfl zo_k0
      · rw [w.2 b3, z_sbind, if_pos z_e0, (z_ask3 (by omega)).2 b3]; exact zo_p_of h rfl rfl zo_k0
    · rw [(p2.2 b2).1, (q2.2 b2).2, z_sbind, z_sbind, if_pos z_e0, if_pos z_e0]; exact zo_p_of h rfl rfl zo_k0
  · rw [(p1.2 b1).1, (q1.2 b1).2, z_sbind, z_sbind, if_pos z_e0, if_pos z_e0]; exact zo_p_of h rfl rfl zo_k0
theorem zo_p28 {L : zl_T} (ho : zl_ok L) : (2 : Nat) ^ zl_pp L ≤ 256 := Nat.pow_le_pow_right (by omega) ho.2.2.1 (n := 2)
theorem zo_had {F : Nat} (hF : 4000 < F) {c r : g_St} (h : zi c r) (v1 : Int32) : zo_p c r (oo_had F c v1) (mm_had F v1 r) := by
  obtain ⟨L, U, W, h⟩ := h
  have h0 := zo_0 h
  have ho := h.1
  have h28 := zo_p28 ho
  have p1 := zo_set h (v := v1)
  have q1 := zo_set h0 (v := v1)
  unfold oo_had mm_had
  rw [z_sbind]
  by_cases b1 : z_is v1 (2 ^ zl_pp L)
  · rw [(p1.1 b1).1, (q1.1 b1).2, z_sbind, z_sbind, if_neg z_e1, if_neg z_e1]
    obtain ⟨s, hs, rfl⟩ := b1
    rw [z_ql h.2.2.1.1, z_sbind, zl_C_hadIn h.2.2.1.2.2.1 ho (by omega) (by omega), zl_R_hadBy h0.2.2.2.1.1 ho (by omega) (by omega), z_sbind, z_sbind]
    exact zo_p_of h rfl rfl zo_k0
  · rw [(p1.2 b1).1, (q1.2 b1).2, z_sbind, z_sbind, if_pos z_e0, if_pos z_e0]; exact zo_p_of h rfl rfl zo_k0
theorem zo_never {F : Nat} (hF : 4000 < F) {c r : g_St} (h : zi c r) (v1 : Int32) : zo_p c r (oo_never F c v1) (mm_never F v1 r) := by
  obtain ⟨L, U, W, h⟩ := h
  have h0 := zo_0 h
  have ho := h.1
  have h28 := zo_p28 ho
  have p1 := zo_set h (v := v1)
  have q1 := zo_set h0 (v := v1)
  unfold oo_never mm_never
  rw [z_sbind]
  by_cases b1 : z_is v1 (2 ^ zl_pp L)
  · rw [(p1.1 b1).1, (q1.1 b1).2, z_sbind, z_sbind, if_neg z_e1, if_neg z_e1]
    obtain ⟨s, hs, rfl⟩ := b1
    rw [z_ql h.2.2.1.1, z_sbind, zl_C_lacked h.2.2.1.2.2.1 ho (by omega) (by omega), zl_R_never h0.2.2.2.1.1 ho (by omega) (by omega), z_sbind, z_sbind]
    exact zo_p_of h rfl rfl zo_k0
  · rw [(p1.2 b1).1, (q1.2 b1).2, z_sbind, z_sbind, if_pos z_e0, if_pos z_e0]; exact zo_p_of h rfl rfl zo_k0
/-- the fewest -/
def zo_fw (L : zl_T) (p : Nat) : Nat → Nat
  | 0 => 0
  | s + 1 => if s ≠ 0 ∧ z_bit s p = 1 ∧ zl_nev L s = 0 ∧ (zo_fw L p s = 0 ∨ z_pc s < z_pc (zo_fw L p s)) then s else zo_fw L p s
theorem zo_fw_lt {L : zl_T} {p : Nat} : ∀ {s : Nat}, zo_fw L p s ≠ 0 → zo_fw L p s < s
  | 0, h => absurd rfl h
  | s + 1, h => by
    unfold zo_fw at h ⊢
    split
    · omega
    · rename_i hn
      rw [if_neg hn] at h
      have := zo_fw_lt h; omega
def zo_fwE (n : Nat) : Int32 := if n = 0 then -nI 1 else nI n
def zo_fwA (n : Nat) : Int32 := if n = 0 then -nI 1 else nI (z_pc n)
theorem zo_fwE_0 : zo_fwE 0 = -nI 1 := rfl
theorem zo_fwA_0 : zo_fwA 0 = -nI 1 := rfl
theorem zo_fwE_p {n : Nat} (h : n ≠ 0) : zo_fwE n = nI n := by unfold zo_fwE; rw [if_neg h]
theorem zo_fwA_p {n : Nat} (h : n ≠ 0) : zo_fwA n = nI (z_pc n) := by unfold zo_fwA; rw [if_neg h]
theorem zo_fewest {F : Nat} (hF : 4000 < F) {c r : g_St} (h : zi c r) (v1 v2 : Int32) : zo_p c r (oo_fewest F c v1 v2) (mm_fewest F v1 v2 r) := by
  obtain ⟨L, U, W, h⟩ := h
  have h0 := zo_0 h
  have ho := h.1
  have h8 := ho.2.2.1
  have h28 := zo_p28 ho
  have h20 : 0 < (2 : Nat) ^ zl_pp L := Nat.two_pow_pos _
  have ha := zo_all ho h.2.2.1
  have hal : zv_all L + 1 = 2 ^ zl_pp L := by unfold zv_all; omega
  have p1 := zo_person h (v := v1)
  have q1 := zo_person h0 (v := v1)
  have w := zo_within (μ := g_sI r 0 0 0) (v := v2) (n := 1) (by omega)
  unfold oo_fewest mm_fewest
  rw [z_sbind]
  by_cases b1 : z_is v1 (zl_pp L)
  · rw [(p1.1 b1).1, (q1.1 b1).2, z_sbind, z_sbind, if_neg z_e1, if_neg z_e1, show (1 : Int32) = nI 1 from rfl]
    by_cases b2 : z_is v2 2
    · rw [w.1 b2, z_sbind, if_neg z_e1, (z_ask4 (by omega)).1 b2]
      obtain ⟨p, hp, rfl⟩ := b1
      obtain ⟨k, hk, rfl⟩ := b2
      -- the answer
      have X : ∃ X : Int32, X = if k = 0 then zo_fwA (zo_fw L p (2 ^ zl_pp L)) else zo_fwE (zo_fw L p (2 ^ zl_pp L)) := ⟨_, rfl⟩
      obtain ⟨X, hX⟩ := X
      have hc : oo_fewest_27 F c (nI p) (nI k) F (-nI 1) (-nI 1) (nI 1) = some X := by
        have e1 : zo_fw L p 1 = 0 := by unfold zo_fw zo_fw; rw [if_neg (fun q => q.1 rfl)]
        have hz := z_cntFrom (n := 2 ^ zl_pp L) (X := some X) (A := fun f s => oo_fewest_27 F c (nI p) (nI k) f (zo_fwA (zo_fw L p s)) (zo_fwE (zo_fw L p s)) (nI s)) (F := F) 1 (by omega) (fun f s hs1 hs => ?_) (fun f => ?_) (by omega)
        · have hz : oo_fewest_27 F c (nI p) (nI k) F (zo_fwA (zo_fw L p 1)) (zo_fwE (zo_fw L p 1)) (nI 1) = some X := hz
          rw [e1] at hz; exact hz
        · show oo_fewest_27_b F c (nI p) (nI k) _ _ _ (nI s) = oo_fewest_27 F c (nI p) (nI k) f (zo_fwA (zo_fw L p (s + 1))) (zo_fwE (zo_fw L p (s + 1))) (nI (s + 1))
          have hn := zl_nev_lt ho s
          have hbl := z_bit_lt s p
          have hps := z_pc_le s
          have hpq := z_pc_le (zo_fw L p s)
          have es : zo_fw L p (s + 1) = if s ≠ 0 ∧ z_bit s p = 1 ∧ zl_nev L s = 0 ∧ (zo_fw L p s = 0 ∨ z_pc s < z_pc (zo_fw L p s)) then s else zo_fw L p s := rfl
          have f84 : oo_fewest_84 F c (oo_fewest_27 F c (nI p) (nI k) f) (nI p) (nI k) (nI s) = oo_fewest_27 F c (nI p) (nI k) f (nI (z_pc s)) (nI s) (nI (s + 1)) := by
            unfold oo_fewest_84
            rw [z_bc (by omega), z_sbind, nI_1]
          unfold oo_fewest_27_b oo_fewest_62 oo_fewest_63
          rw [ha, z_sbind, if_pos (by rw [z_le (by omega) (by omega)]; omega)]
          simp (disch := omega) only [nI_lit, z_and, z_or, z_xor, z_n31, z_shr, z_shl1, z_bit_and, z_andn, z_eq, z_ql h.2.2.1.1, z_sbind]
          by_cases hb : z_bit s p = 1
          · rw [if_pos hb, zl_C_lacked h.2.2.1.2.2.1 ho (by omega) (by omega), z_sbind]
            simp (disch := omega) only [z_eq]
            by_cases hn0 : zl_nev L s = 0
            · rw [if_pos hn0, if_neg (by decide)]
              by_cases hw0 : zo_fw L p s = 0
              · have e2 : zo_fw L p (s + 1) = s := by rw [es, if_pos ⟨by omega, hb, hn0, Or.inl hw0⟩]
                rw [e2, hw0, if_pos zo_fwA_0, f84, zo_fwA_p (by omega), zo_fwE_p (by omega)]
              · rw [zo_fwA_p hw0, if_neg (by rw [z_eqm1 (by omega)]; exact fun q => q), z_bc (by omega), z_sbind]
                simp (disch := omega) only [z_lt]
                by_cases hlt : z_pc s < z_pc (zo_fw L p s)
                · have e2 : zo_fw L p (s + 1) = s := by rw [es, if_pos ⟨by omega, hb, hn0, Or.inr hlt⟩]
                  rw [if_pos hlt, e2, f84, zo_fwA_p (by omega), zo_fwE_p (by omega)]
                · have e2 : zo_fw L p (s + 1) = zo_fw L p s := by rw [es, if_neg (fun q => q.2.2.2.elim hw0 hlt)]
                  rw [if_neg hlt, e2, zo_fwA_p hw0, nI_add]
            · have e2 : zo_fw L p (s + 1) = zo_fw L p s := by rw [es, if_neg (fun q => hn0 q.2.2.1)]
              rw [if_neg hn0, if_pos (by decide), e2, nI_add]
          · have e2 : zo_fw L p (s + 1) = zo_fw L p s := by rw [es, if_neg (fun q => hb q.2.1)]
            rw [if_neg hb, if_pos (by decide), e2, nI_add]
        · show oo_fewest_27_b F c (nI p) (nI k) _ _ _ (nI (2 ^ zl_pp L)) = _
          unfold oo_fewest_27_b
          rw [ha, z_sbind, if_neg (by rw [z_le (by omega) (by omega)]; omega), hX]
          rcases (by omega : k = 0 ∨ k = 1) with rfl | rfl
          · rw [if_pos z_e0, if_pos rfl]
          · rw [if_neg z_e1, if_neg (by omega)]
      have hm : mm_fewest_29 F (nI p) (nI k) F (-nI 1) (nI 1) (g_sI r 0 0 0) = some (X, g_sI r 0 0 0) := by
        have e1 : zo_fw L p 1 = 0 := by unfold zo_fw zo_fw; rw [if_neg (fun q => q.1 rfl)]
        have hR := h0.2.2.2.1
        have hz := z_cntFrom (n := 2 ^ zl_pp L) (X := some (X, g_sI r 0 0 0)) (A := fun f s => mm_fewest_29 F (nI p) (nI k) f (zo_fwE (zo_fw L p s)) (nI s) (g_sI r 0 0 0)) (F := F) 1 (by omega) (fun f s hs1 hs => ?_) (fun f => ?_) (by omega)
        · have hz : mm_fewest_29 F (nI p) (nI k) F (zo_fwE (zo_fw L p 1)) (nI 1) (g_sI r 0 0 0) = some (X, g_sI r 0 0 0) := hz
          rw [e1] at hz; exact hz
        · show mm_fewest_29_b F (nI p) (nI k) _ _ (nI s) (g_sI r 0 0 0) = mm_fewest_29 F (nI p) (nI k) f (zo_fwE (zo_fw L p (s + 1))) (nI (s + 1)) (g_sI r 0 0 0)
          have hn := zl_nev_lt ho s
          have hbl := z_bit_lt s p
          have hps := z_pc_le s
          have hpq := z_pc_le (zo_fw L p s)
          have es : zo_fw L p (s + 1) = if s ≠ 0 ∧ z_bit s p = 1 ∧ zl_nev L s = 0 ∧ (zo_fw L p s = 0 ∨ z_pc s < z_pc (zo_fw L p s)) then s else zo_fw L p s := rfl
          unfold mm_fewest_29_b
          rw [show (0 : Int32) = nI 0 from rfl, show g_sI r 0 0 (nI 0) = g_sI r 0 0 0 from rfl, z_rd (by omega) (by omega), z_sbind, hR.1.2.2.1]
          simp (disch := omega) only [nI_lit, z_and, z_or, z_xor, z_n31, z_shr, z_shl1, z_bit_and, z_andn, z_lt, z_eq]
          rw [show g_sI r 0 0 (nI 0) = g_sI r 0 0 0 from rfl, if_pos hs]
          by_cases hb : z_bit s p = 1
          · rw [if_pos hb, zl_R_never hR.1 ho (by omega) (by omega), z_sbind]
            simp (disch := omega) only [z_eq]
            by_cases hn0 : zl_nev L s = 0
            · rw [if_pos hn0]
              by_cases hw0 : zo_fw L p s = 0
              · have e2 : zo_fw L p (s + 1) = s := by rw [es, if_pos ⟨by omega, hb, hn0, Or.inl hw0⟩]
                rw [e2, hw0, zo_fwE_0, if_neg (show ¬ nI 0 ≤ -nI 1 from by decide), nI_add, zo_fwE_p (by omega)]
              · have hlt2 := zo_fw_lt hw0
                rw [zo_fwE_p hw0, if_pos (nI_le (Nat.zero_le _) (by omega)), z_bits (by omega) (by omega), z_bits (by omega) (by omega), z_sbind, z_sbind]
                simp (disch := omega) only [z_lt]
                by_cases hlt : z_pc s < z_pc (zo_fw L p s)
                · have e2 : zo_fw L p (s + 1) = s := by rw [es, if_pos ⟨by omega, hb, hn0, Or.inr hlt⟩]
                  rw [if_pos hlt, e2, nI_add, zo_fwE_p (by omega)]
                · have e2 : zo_fw L p (s + 1) = zo_fw L p s := by rw [es, if_neg (fun q => q.2.2.2.elim hw0 hlt)]
                  rw [if_neg hlt, e2, nI_add, zo_fwE_p hw0]
            · have e2 : zo_fw L p (s + 1) = zo_fw L p s := by rw [es, if_neg (fun q => hn0 q.2.2.1)]
              rw [if_neg hn0, e2, nI_add]
          · have e2 : zo_fw L p (s + 1) = zo_fw L p s := by rw [es, if_neg (fun q => hb q.2.1)]
            rw [if_neg hb, e2, nI_add]
        · show mm_fewest_29_b F (nI p) (nI k) _ _ (nI (2 ^ zl_pp L)) (g_sI r 0 0 0) = _
          unfold mm_fewest_29_b
          rw [show (0 : Int32) = nI 0 from rfl, show g_sI r 0 0 (nI 0) = g_sI r 0 0 0 from rfl, z_rd (by omega) (by omega), z_sbind, hR.1.2.2.1]
          simp (disch := omega) only [nI_lit, z_and, z_or, z_xor, z_n31, z_shr, z_shl1, z_bit_and, z_andn, z_lt]
          rw [show g_sI r 0 0 (nI 0) = g_sI r 0 0 0 from rfl, if_neg (Nat.lt_irrefl _), hX]
          by_cases hw0 : zo_fw L p (2 ^ zl_pp L) = 0
          · rw [hw0, zo_fwE_0, zo_fwA_0, if_pos (show -nI 1 < nI 0 from by decide), ite_self]
          · have hlt2 := zo_fw_lt hw0
            rw [zo_fwE_p hw0, zo_fwA_p hw0, if_neg (nI_nlt (Nat.zero_le _) (by omega)), z_bits (by omega) (by omega), z_sbind]
            rcases (by omega : k = 0 ∨ k = 1) with rfl | rfl
            · rw [if_pos rfl, if_pos rfl]
            · rw [if_neg (show ¬ nI 1 = nI 0 from by decide)]; rfl
      exact zo_p_of h hc hm zo_k0
    · rw [w.2 b2, z_sbind, if_pos z_e0, (z_ask4 (by omega)).2 b2]; exact zo_p_of h rfl rfl zo_k0
  · rw [(p1.2 b1).1, (q1.2 b1).2, z_sbind, z_sbind, if_pos z_e0, if_pos z_e0]; exact zo_p_of h rfl rfl zo_k0
