/-! Layer 2: FAIRS, LIFT, who is visited -/
theorem zl_com_bit {L : zl_T} {pl h p : Nat} (hp : p < zl_pp L) : (z_bit (zl_com L pl h (zl_pp L)) p = 1) = (zl_near L pl h p = true) := by
  rw [z_bit_one]
  have e : zl_com L pl h (zl_pp L) = z_bs (zl_near L pl h) (zl_pp L) := rfl
  rw [e, z_bs_tb, decide_eq_true hp, Bool.true_and]
theorem zl_hto_com {L : zl_T} {pl h : Nat} : zl_hto L pl (zl_com L pl h (zl_pp L)) (zl_pp L) = z_sum (fun p => if zl_near L pl h p = true then 2 * zl_wy L (zl_hm L p) pl else 0) (zl_pp L) := by
  refine z_sum_congr (fun p hp => ?_)
  simp only [zl_com_bit hp]
/-- what a fair comes to -/
def zv_fair (L : zl_T) (b : Nat → Nat) (pl h : Nat) (pr : Int32) : Int32 := nI (zm_f b 256 (zl_com L pl h (zl_pp L))).1 - pr * nI (zl_hto L pl (zl_com L pl h (zl_pp L)) (zl_pp L))
theorem zo_C_fair {L : zl_T} {U : zu_T} {W : zw_T} {c : g_St} {F pl h : Nat} {pr : Int32} {b : Nat → Nat} (ho : zl_ok L) (hC : zk_C L U W c) (hpl : pl < zl_pl L) (hh : h < 1000) (hm : ∀ s, s < 2 ^ zl_pp L → zm_C 71 (zm_f b 256) s c) (hF : 100 < F) : oo_fairWorth F 71 c (nI pl) (nI h) pr = some (zv_fair L b pl h pr) := by
  have h8 := ho.2.2.1
  have h28 := zo_p28 ho
  have hc := zl_com_lt (L := L) pl h h8
  have m : c.1 78 (zl_com L pl h (zl_pp L)) = _ := (hm _ hc).1
  unfold oo_fairWorth
  rw [z_ql hC.1, z_sbind, zl_C_com hC.2.2.1 ho hpl (by omega) (by omega), z_sbind, z_rd (by omega) (by omega), z_sbind, m, z_sbind, zl_C_hto hC.2.2.1 ho hpl (by omega) (by omega), z_sbind]
  rfl
theorem zo_R_fair {L : zl_T} {U : zu_T} {W : zw_T} {r : g_St} {F pl h : Nat} {pr : Int32} {b : Nat → Nat} (ho : zl_ok L) (hR : zk_R L U W r) (hpl : pl < zl_pl L) (hh : h < 1000) (hm : ∀ s, s < 2 ^ zl_pp L → zm_R (zm_f b 256) s r) (hF : 100 < F) : mm_fairAt F (nI pl) (nI h) pr r = some (zv_fair L b pl h pr, g_sI r 0 57 (nI (zl_com L pl h (zl_pp L)))) := by
  have h8 := ho.2.2.1
  have h5 := ho.1
  have h28 := zo_p28 ho
  have hc := zl_com_lt (L := L) pl h h8
  have G : ∃ G : Nat → Nat, G = z_sum (fun p => if zl_near L pl h p = true then 2 * zl_wy L (zl_hm L p) pl else 0) := ⟨_, rfl⟩
  obtain ⟨G, hG⟩ := G
  have hG2 : zl_hto L pl (zl_com L pl h (zl_pp L)) (zl_pp L) = G (zl_pp L) := by rw [hG]; exact zl_hto_com
  unfold mm_fairAt zv_fair
  rw [z_sbind, hG2]
  have e0 : zl_com L pl h 0 = 0 := rfl
  have g0 : G 0 = 0 := by rw [hG]; rfl
  have hz := z_cnt0 (n := zl_pp L) (X := some (nI (zm_f b 256 (zl_com L pl h (zl_pp L))).1 - pr * nI (G (zl_pp L)), g_sI r 0 57 (nI (zl_com L pl h (zl_pp L))))) (A := fun f i => mm_fairAt_11 F (nI pl) (nI h) pr f (nI (G i)) (nI i) (g_sI r 0 57 (nI (zl_com L pl h i)))) (F := F) (fun f i hi => ?_) (fun f => ?_) (by omega)
  · have hz : mm_fairAt_11 F (nI pl) (nI h) pr F (nI (G 0)) (nI 0) (g_sI r 0 57 (nI (zl_com L pl h 0))) = _ := hz
    rw [e0, g0] at hz; exact hz
  · show mm_fairAt_11_b F (nI pl) (nI h) pr _ (nI (G i)) (nI i) (g_sI r 0 57 (nI (zl_com L pl h i))) = mm_fairAt_11 F (nI pl) (nI h) pr f (nI (G (i + 1))) (nI (i + 1)) (g_sI r 0 57 (nI (zl_com L pl h (i + 1))))
    have ri := hR.1.2.2.2.2.2 i hi
    have li := (ho.2.2.2.2.2 i hi).1
    have hw := hR.1.2.2.2.1 _ _ li hpl
    have hw2 := ho.2.2.2.1 _ _ li hpl
    have es : G (i + 1) = G i + (if zl_near L pl h i = true then 2 * zl_wy L (zl_hm L i) pl else 0) := by rw [hG]; rfl
    have ec : zl_com L pl h (i + 1) = zl_com L pl h i ||| (if zl_near L pl h i = true then 2 ^ i else 0) := rfl
    have dd : ∀ (a b : Int32), g_sI (g_sI r 0 57 a) 0 57 b = g_sI r 0 57 b := by
      intro a b
      apply Prod.ext
      · funext x y; simp only [z_sI]; by_cases e : x = 0 ∧ y = 57
        · rw [if_pos e, if_pos e]
        · rw [if_neg e, if_neg e, if_neg e]
      · rfl
    unfold mm_fairAt_11_b mm_isWay
    simp (disch := omega) only [nI_lit, z_rd, z_sbind, z_sI_id, hR.1.2.2.1, z_lt, hi, if_true, z_eq, ri.1, z_and, z_or, z_xor, z_n31, z_shr, z_shl1, z_bit_and, z_andn, z_mul, nI_add, hw, z_sI_same, dd]
    have en : zl_near L pl h i = (decide (zl_wy L (zl_hm L i) pl < 999) && decide (2 * zl_wy L (zl_hm L i) pl ≤ h)) := rfl
    by_cases a1 : zl_wy L (zl_hm L i) pl < 999
    · rw [if_pos a1, z_sbind, if_neg (by decide)]
      by_cases a2 : h < 2 * zl_wy L (zl_hm L i) pl
      · have n1 : zl_near L pl h i = false := by rw [en, decide_eq_false (show ¬ 2 * zl_wy L (zl_hm L i) pl ≤ h by omega), Bool.and_false]
        rw [if_pos a2, es, ec, n1]; simp only [Bool.false_eq_true, if_false, Nat.add_zero, Nat.or_zero]
      · have n1 : zl_near L pl h i = true := by rw [en, decide_eq_true a1, decide_eq_true (show 2 * zl_wy L (zl_hm L i) pl ≤ h by omega)]; rfl
        rw [if_neg a2, es, ec, n1]; simp only [if_true]
    · have n1 : zl_near L pl h i = false := by rw [en, decide_eq_false a1, Bool.false_and]
      rw [if_neg a1, z_sbind, if_pos rfl, es, ec, n1]; simp only [Bool.false_eq_true, if_false, Nat.add_zero, Nat.or_zero]
  · show mm_fairAt_11_b F (nI pl) (nI h) pr _ (nI (G (zl_pp L))) (nI (zl_pp L)) (g_sI r 0 57 (nI (zl_com L pl h (zl_pp L)))) = _
    have m := (hm _ hc).1
    unfold mm_fairAt_11_b
    rw [show (0 : Int32) = nI 0 from rfl, z_rd (by omega) (by omega), z_sbind, z_sI_id (by omega), hR.1.2.2.1, if_neg (by rw [z_lt (by omega) (by omega)]; omega), z_sI_same, z_rd (by omega) (by omega), z_sbind, z_sI_id (by omega), m]
theorem zo_isFair {μ : g_St} {v w : Int32} : (z_is v 169 ∧ z_is w 100 → oo_isFair μ v w = some (nI 1)) ∧ (¬ (z_is v 169 ∧ z_is w 100) → oo_isFair μ v w = some (nI 0)) := by
  have a := zo_within (μ := μ) (v := v) (n := 168) (by omega)
  have b := zo_within (μ := μ) (v := w) (n := 99) (by omega)
  have e : oo_isFair μ v w = (mm_within μ v 0 (nI 168)).bind (fun x => if x = 0 then some 0 else mm_within μ w 0 (nI 99)) := by
    unfold oo_isFair mm_within
    rw [show (168 : Int32) = nI 168 from rfl, show (99 : Int32) = nI 99 from rfl]
    by_cases h1 : (0 : Int32) ≤ v
    · rw [if_pos h1, if_pos h1]
      by_cases h2 : v ≤ nI 168
      · rw [if_pos h2, if_pos h2]; rfl
      · rw [if_neg h2, if_neg h2]; rfl
    · rw [if_neg h1, if_neg h1]; rfl
  rw [e]
  by_cases h1 : z_is v 169
  · rw [a.1 h1, z_sbind, if_neg z_e1]
    by_cases h2 : z_is w 100
    · rw [b.1 h2]; exact ⟨fun _ => rfl, fun q => absurd ⟨h1, h2⟩ q⟩
    · rw [b.2 h2]; exact ⟨fun q => absurd q.2 h2, fun _ => rfl⟩
  · rw [a.2 h1, z_sbind, if_pos z_e0]; exact ⟨fun q => absurd q.1 h1, fun _ => rfl⟩
theorem zr_C_all {L : zl_T} {b : Nat → Nat} {c : g_St} (ho : zl_ok L) (h : ∀ s, s < 256 → z_in s (zv_all L) → zm_C 71 (zm_f b 256) s c) : ∀ s, s < 2 ^ zl_pp L → zm_C 71 (zm_f b 256) s c := fun s hs => h s (by have := zo_p28 ho; omega) (z_in_all hs)
theorem zo_fair {F : Nat} (hF : 4000 < F) {c r : g_St} (h : zi c r) (v1 v2 v3 v4 : Int32) : zo_t c r (oo_fair F v1 v2 v3 v4 c) (mm_fair F v1 v2 v3 v4 r) := by
  obtain ⟨L, U, W, h⟩ := h
  have ho := h.1
  have h8 := ho.2.2.1
  have h28 := zo_p28 ho
  have hal := zv_all_lt ho
  have p1 := zo_place h (v := v1)
  have fa := zo_isFair (μ := c) (v := v2) (w := v3)
  have w2 := zo_within (μ := r) (v := v2) (n := 168) (by omega)
  have w3 := zo_within (μ := r) (v := v3) (n := 99) (by omega)
  have w4 := zo_within (μ := r) (v := v4) (n := 1) (by omega)
  have bad : zo_t c r (some (.inr 28, c)) (mm_fair_44 F v1 v2 v3 v4 r) := by
    unfold mm_fair_44 mm_fair_45
    rw [z_sbind, if_pos (z_sI_same _ _ _ _)]
    exact ⟨0, c, _, rfl, Or.inr ⟨28, rfl, z_sI_same _ _ _ _⟩, L, U, W, zi_R h zo_k0⟩
  unfold oo_fair mm_fair
  rw [show (168 : Int32) = nI 168 from rfl, show (99 : Int32) = nI 99 from rfl, show (1 : Int32) = nI 1 from rfl]
  by_cases b1 : z_is v1 (zl_pl L)
  · rw [(p1.1 b1).1, (p1.1 b1).2, z_sbind, z_sbind, if_neg z_e1, if_neg z_e1]
    by_cases b2 : z_is v2 169
    · rw [w2.1 b2, z_sbind, if_neg z_e1]
      by_cases b3 : z_is v3 100
      · rw [w3.1 b3, z_sbind, if_neg z_e1, fa.1 ⟨b2, b3⟩, z_sbind, if_neg z_e1]
        by_cases b4 : z_is v4 2
        · rw [w4.1 b4, z_sbind, if_neg z_e1, (z_ask4 (by omega)).1 b4]
          obtain ⟨pl, hpl, rfl⟩ := b1
          obtain ⟨hh, hhh, rfl⟩ := b2
          obtain ⟨k, hk, rfl⟩ := b4
          have h0 := zi_R h (zo_k0 (v := 0))
          have e00 : (g_sI r 0 0 0).1 0 0 = 0 := z_sI_same _ _ _ _
          unfold mm_fair_45
          rw [z_sbind, if_neg (show ¬ (g_sI r 0 0 0).1 0 0 = (1 : Int32) from by rw [e00]; decide)]
          generalize g_sI r 0 0 0 = r0 at h0 e00 ⊢
          obtain ⟨c2, e1, h2, z2⟩ := zo_any (F := F) h0 (by omega)
          obtain ⟨r2, hr2, n1, n2⟩ := zr_works (F := F) (ds := 0) h2.2.2.2.1 ho h.2.1 (by omega) (by omega)
          have hr2 : mm_works F 0 r0 = some r2 := hr2
          have h3 := zi_R h2 (zi_kR_f n1 (fun id q => by unfold zr_id; omega))
          obtain ⟨b, -, -, -, b4, b5⟩ := zr_same hal z2 n2
          have x00 : r2.1 0 0 = 0 := by rw [n1.1 0 (by unfold zr_id; omega)]; exact e00
          rw [hr2, z_sbind, zo_R_fair ho h3.2.2.2.1 hpl (by omega) b4 (by omega), z_sbind]
          have h4 : zi_I L U W c2 (g_sI r2 0 57 (nI (zl_com L pl hh (zl_pp L)))) := zi_R h3 (zi_kR_0 (by omega))
          have h4' : zi_I L U W c (g_sI r2 0 57 (nI (zl_com L pl hh (zl_pp L)))) := zi_R (zi_R h0 (zi_kR_f n1 (fun id q => by unfold zr_id; omega))) (zi_kR_0 (by omega))
          rcases (by omega : k = 0 ∨ k = 1) with rfl | rfl
          · rw [if_pos z_e0, if_pos z_e0, e1, z_sbind, zo_C_fair ho h2.2.2.1 hpl (by omega) (zr_C_all ho b5) (by omega), z_sbind]
            exact ⟨_, c2, _, rfl, Or.inl ⟨rfl, by rw [z_sI_k (by omega)]; exact x00⟩, L, U, W, h4⟩
          · rw [if_neg z_e1, if_neg z_e1, z_ql h.2.2.1.1, z_sbind, zl_C_com h.2.2.1.2.2.1 ho hpl (by omega) (by omega), z_sbind, z_sI_same]
            exact ⟨_, c, _, rfl, Or.inl ⟨rfl, by rw [z_sI_k (by omega)]; exact x00⟩, L, U, W, h4'⟩
        · rw [w4.2 b4, z_sbind, if_pos z_e0, (z_ask4 (by omega)).2 b4]; exact bad
      · rw [w3.2 b3, z_sbind, if_pos z_e0, fa.2 (fun q => b3 q.2), z_sbind, if_pos z_e0]; exact bad
    · rw [w2.2 b2, z_sbind, if_pos z_e0, fa.2 (fun q => b2 q.1), z_sbind, if_pos z_e0]; exact bad
  · rw [(p1.2 b1).1, (p1.2 b1).2, z_sbind, z_sbind, if_pos z_e0, if_pos z_e0]; exact bad
/-- the best place -/
def zv_best (L : zl_T) (b : Nat → Nat) (h : Nat) (pr : Int32) : Nat → Nat
  | 0 => 0
  | n + 1 => if zv_fair L b (zv_best L b h pr n) h pr < zv_fair L b (n + 1) h pr then n + 1 else zv_best L b h pr n
theorem zv_best_le {L : zl_T} {b : Nat → Nat} {h : Nat} {pr : Int32} : ∀ n, zv_best L b h pr n ≤ n
  | 0 => Nat.le_refl 0
  | n + 1 => by
    have := zv_best_le (L := L) (b := b) (h := h) (pr := pr) n
    unfold zv_best
    split <;> omega
theorem zo_fairest {F : Nat} (hF : 4000 < F) {c r : g_St} (h : zi c r) (v1 v2 : Int32) : zo_s c r (oo_fairest F v1 v2 c) (mm_fairest F v1 v2 r) := by
  obtain ⟨L, U, W, h⟩ := h
  have h0 := zo_0 h
  have ho := h.1
  have h8 := ho.2.2.1
  have h5 := ho.1
  have h28 := zo_p28 ho
  have hal := zv_all_lt ho
  unfold oo_fairest mm_fairest
  rw [z_sbind]
  generalize g_sI r 0 0 0 = r0 at h0 ⊢
  have fa := zo_isFair (μ := c) (v := v1) (w := v2)
  have w1 := zo_within (μ := r0) (v := v1) (n := 168) (by omega)
  have w2 := zo_within (μ := r0) (v := v2) (n := 99) (by omega)
  have rpl := h0.2.2.2.1.1.1
  rw [show (0 : Int32) = nI 0 from rfl, z_rd (by omega) (by omega), z_sbind, rpl, show (168 : Int32) = nI 168 from rfl, show (99 : Int32) = nI 99 from rfl, show nI 0 = (0 : Int32) from rfl]
  obtain ⟨c2, e1, h2, z2⟩ := zo_any (F := F) h0 (by omega)
  obtain ⟨r2, hr2, n1, n2⟩ := zr_works (F := F) (ds := 0) h2.2.2.2.1 ho h.2.1 (by omega) (by omega)
  have hr2 : mm_works F 0 r0 = some r2 := hr2
  have h3 := zi_R h2 (zi_kR_f n1 (fun id q => by unfold zr_id; omega))
  obtain ⟨b, -, -, -, b4, b5⟩ := zr_same hal z2 n2
  have any2 : oo_anywhere F c2 = some c2 := by
    unfold oo_anywhere
    have : c2.1 0 14 = nI 1 := by
      unfold oo_anywhere at e1
      by_cases q : c.1 0 14 = 0
      · rw [if_pos q] at e1
        cases q2 : oo_everybody c with
        | none => rw [q2] at e1; cases e1
        | some x =>
          rw [q2, z_sbind] at e1
          cases q3 : oo_findRounds F 71 x 0 (c.1 61 1) c with
          | none => rw [q3] at e1; cases e1
          | some y => rw [q3, z_sbind, z_sbind] at e1; cases e1; exact z_sI_same _ _ _ _
      · rw [if_neg q] at e1
        cases e1
        exact (h.2.2.2.2.2.2.2).elim (fun q2 => absurd q2 q) (fun q2 => q2.1)
    rw [this, if_neg z_e1]
  by_cases b2 : z_is v1 169 ∧ z_is v2 100
  · rw [fa.1 b2, z_sbind, if_neg z_e1, w1.1 b2.1, w2.1 b2.2]
    obtain ⟨⟨hh, hhh, rfl⟩, -⟩ := b2
    have cst : ∀ (cx : g_St), zi_I L U W cx r0 → oo_anywhere F cx = some c2 → ∀ (f : Nat) (st : Int32 × Int32) (i : Nat), i < zl_pl L → oo_fairest_19 F (nI hh) v2 (f + 1) st.1 st.2 (nI i) cx = (if st.1 = -1 then oo_fairest_19 F (nI hh) v2 f (nI i) (zv_fair L b i hh v2) (nI (i + 1)) c2 else if st.2 < zv_fair L b i hh v2 then oo_fairest_19 F (nI hh) v2 f (nI i) (zv_fair L b i hh v2) (nI (i + 1)) c2 else oo_fairest_19 F (nI hh) v2 f st.1 st.2 (nI (i + 1)) c2) := by
      intro cx hx ex f st i hi
      show oo_fairest_19_b F (nI hh) v2 _ st.1 st.2 (nI i) cx = _
      unfold oo_fairest_19_b
      rw [z_ql hx.2.2.1.1, z_sbind, hx.2.2.1.2.2.1.1, if_pos (nI_lt hi (by omega)), ex, z_sbind, zo_C_fair ho h2.2.2.1 hi (by omega) (zr_C_all ho b5) (by omega), z_sbind, nI_1]
    by_cases hp0 : zl_pl L = 0
    · rw [hp0, if_pos z_e0]
      have : oo_fairest_19 F (nI hh) v2 F (-1) 0 0 c = some (-1, c) := by
        obtain ⟨F', rfl⟩ : ∃ k, F = k + 1 := ⟨F - 1, by omega⟩
        show oo_fairest_19_b (F' + 1) (nI hh) v2 _ (-1) 0 0 c = _
        unfold oo_fairest_19_b
        rw [z_ql h.2.2.1.1, z_sbind, h.2.2.1.2.2.1.1, hp0, if_neg (by decide)]
      rw [this]; exact zo_s_of rfl rfl h0
    · rw [if_neg (show ¬ nI (zl_pl L) = (0 : Int32) from fun q => hp0 (by have : nI (zl_pl L) = nI 0 := q; rwa [z_eq (by omega) (by omega)] at this)), z_sbind, if_neg z_e1, z_sbind, if_neg z_e1, hr2, z_sbind]
      obtain ⟨np, hnp⟩ : ∃ np, zl_pl L = np + 1 := ⟨zl_pl L - 1, by omega⟩
      have x1 : oo_fairest_19 F (nI hh) v2 F (-1) 0 0 c = some (nI (zv_best L b hh v2 np), c2) := by
        obtain ⟨F', rfl⟩ : ∃ k, F = k + 1 := ⟨F - 1, by omega⟩
        have s1 := cst c h0 e1 F' ((-1 : Int32), (0 : Int32)) 0 (by omega)
        have s1 : oo_fairest_19 (F' + 1) (nI hh) v2 (F' + 1) (-1) 0 0 c = oo_fairest_19 (F' + 1) (nI hh) v2 F' (nI 0) (zv_fair L b 0 hh v2) (nI 1) c2 := by rw [if_pos rfl] at s1; exact s1
        rw [s1]
        have hz := z_cnt0 (n := np) (X := some (nI (zv_best L b hh v2 np), c2)) (A := fun f i => oo_fairest_19 (F' + 1) (nI hh) v2 f (nI (zv_best L b hh v2 i)) (zv_fair L b (zv_best L b hh v2 i) hh v2) (nI (i + 1)) c2) (F := F') (fun f i hi => ?_) (fun f => ?_) (by omega)
        · exact hz
        · have hl := zv_best_le (L := L) (b := b) (h := hh) (pr := v2) i
          have s2 := cst c2 h2 any2 f (nI (zv_best L b hh v2 i), zv_fair L b (zv_best L b hh v2 i) hh v2) (i + 1) (by omega)
          refine s2.trans ?_
          show _ = oo_fairest_19 (F' + 1) (nI hh) v2 f (nI (zv_best L b hh v2 (i + 1))) (zv_fair L b (zv_best L b hh v2 (i + 1)) hh v2) (nI (i + 1 + 1)) c2
          have es : zv_best L b hh v2 (i + 1) = if zv_fair L b (zv_best L b hh v2 i) hh v2 < zv_fair L b (i + 1) hh v2 then i + 1 else zv_best L b hh v2 i := rfl
          rw [if_neg (show ¬ nI (zv_best L b hh v2 i) = -1 from fun q => by have : nI (zv_best L b hh v2 i) = -nI 1 := q; rwa [z_eqm1 (by omega)] at this), es]
          by_cases a : zv_fair L b (zv_best L b hh v2 i) hh v2 < zv_fair L b (i + 1) hh v2
          · rw [if_pos a, if_pos a]
          · rw [if_neg a, if_neg a]
        · show oo_fairest_19_b (F' + 1) (nI hh) v2 _ (nI (zv_best L b hh v2 np)) _ (nI (np + 1)) c2 = _
          unfold oo_fairest_19_b
          rw [z_ql h2.2.2.1.1, z_sbind, h2.2.2.1.2.2.1.1, hnp, if_neg (by rw [z_lt (by omega) (by omega)]; omega)]
      have x2 : z_w (mm_fairest_47 F (nI hh) v2 F (nI 0) (nI 1) r2) (fun y => y.1 = nI (zv_best L b hh v2 np) ∧ zi_kR r2 y.2) := by
        refine z_cw (n := np) (A := fun f i s => mm_fairest_47 F (nI hh) v2 f (nI (zv_best L b hh v2 i)) (nI (i + 1)) s) (fun i s => zi_kR r2 s ∧ s.1 42 = r2.1 42 ∧ s.1 43 = r2.1 43 ∧ s.1 44 = r2.1 44) ?_ ?_ F 0 r2 (by omega) ⟨zi_kR_refl, rfl, rfl, rfl⟩ (by omega)
        · intro f i s hi hI hk
          obtain ⟨i1, i2, i3, i4⟩ := hI
          have hl := zv_best_le (L := L) (b := b) (h := hh) (pr := v2) i
          have hs := zi_R h3 i1
          have ms : ∀ x, x < 2 ^ zl_pp L → zm_R (zm_f b 256) x s := fun x hx => by unfold zm_R; rw [i2, i3, i4]; exact b4 x hx
          show z_w (mm_fairest_47_b F (nI hh) v2 _ (nI (zv_best L b hh v2 i)) (nI (i + 1)) s) _
          unfold mm_fairest_47_b
          rw [show (0 : Int32) = nI 0 from rfl, z_rd (by omega) (by omega), z_sbind, hs.2.2.2.1.1.1, if_pos (nI_lt (by omega) (by omega)), zo_R_fair ho hs.2.2.2.1 (by omega) (by omega) ms (by omega), z_sbind]
          have k1 : zi_kR s (g_sI s 0 57 (nI (zl_com L (i + 1) hh (zl_pp L)))) := zi_kR_0 (by omega)
          have hs1 := zi_R hs k1
          have ms1 : ∀ x, x < 2 ^ zl_pp L → zm_R (zm_f b 256) x (g_sI s 0 57 (nI (zl_com L (i + 1) hh (zl_pp L)))) := fun x hx => by unfold zm_R; rw [z_sI_id (by omega), z_sI_id (by omega), z_sI_id (by omega)]; exact ms x hx
          rw [zo_R_fair ho hs1.2.2.2.1 (by omega) (by omega) ms1 (by omega), z_sbind, nI_1]
          have fin : ∀ v, v = zv_best L b hh v2 (i + 1) → z_w (mm_fairest_47 F (nI hh) v2 f (nI v) (nI (i + 1 + 1)) (g_sI (g_sI s 0 57 (nI (zl_com L (i + 1) hh (zl_pp L)))) 0 57 (nI (zl_com L (zv_best L b hh v2 i) hh (zl_pp L))))) (fun y => y.1 = nI (zv_best L b hh v2 np) ∧ zi_kR r2 y.2) := by
            intro v hv
            subst hv
            refine hk _ ⟨zi_kR_trans i1 (zi_kR_trans k1 (zi_kR_0 (by omega))), ?_, ?_, ?_⟩
            · rw [z_sI_f (by omega), z_sI_f (by omega), i2]
            · rw [z_sI_f (by omega), z_sI_f (by omega), i3]
            · rw [z_sI_f (by omega), z_sI_f (by omega), i4]
          have es : zv_best L b hh v2 (i + 1) = if zv_fair L b (zv_best L b hh v2 i) hh v2 < zv_fair L b (i + 1) hh v2 then i + 1 else zv_best L b hh v2 i := rfl
          by_cases a : zv_fair L b (zv_best L b hh v2 i) hh v2 < zv_fair L b (i + 1) hh v2
          · rw [if_pos a]; exact fin (i + 1) (by rw [es, if_pos a])
          · rw [if_neg a]; exact fin (zv_best L b hh v2 i) (by rw [es, if_neg a])
        · intro f s hI
          obtain ⟨i1, i2, i3, i4⟩ := hI
          have hs := zi_R h3 i1
          show z_w (mm_fairest_47_b F (nI hh) v2 _ (nI (zv_best L b hh v2 np)) (nI (np + 1)) s) _
          unfold mm_fairest_47_b
          rw [show (0 : Int32) = nI 0 from rfl, z_rd (by omega) (by omega), z_sbind, hs.2.2.2.1.1.1, hnp, if_neg (by rw [z_lt (by omega) (by omega)]; omega)]
          exact z_w_some ⟨rfl, i1⟩
      obtain ⟨⟨y1, y2⟩, hy, hy1, hy2⟩ := x2
      have hy1 : y1 = nI (zv_best L b hh v2 np) := hy1
      subst hy1
      exact zo_s_of x1 hy (zi_R h3 hy2)
  · rw [fa.2 b2, z_sbind, if_pos z_e0]
    by_cases hp0 : zl_pl L = 0
    · rw [hp0, if_pos z_e0]; exact zo_s_of rfl rfl h0
    · rw [if_neg (show ¬ nI (zl_pl L) = (0 : Int32) from fun q => hp0 (by have : nI (zl_pl L) = nI 0 := q; rwa [z_eq (by omega) (by omega)] at this))]
      by_cases b3 : z_is v1 169
      · rw [w1.1 b3, z_sbind, if_neg z_e1, w2.2 (fun q => b2 ⟨b3, q⟩), z_sbind, if_pos z_e0]; exact zo_s_of rfl rfl h0
      · rw [w1.2 b3, z_sbind, if_pos z_e0]; exact zo_s_of rfl rfl h0
