/-! Layer 2: MAKE, both programs -/
def zo_wc (L : zl_T) (W : zw_T) (p q g : Nat) : Nat := if 168 < max (zw_ck W p) (zw_ck W q) + zl_hr L g then 2 else if z_bit (zl_mk L p) g = 0 ∧ z_bit (zl_mk L q) g = 0 then 3 else if zw_hs W p (zl_fr L g) 6 = false then 3 else if zw_pc W p ≠ zw_pc W q then 4 else if zw_n W = 40 then 7 else 0
theorem zo_why {L : zl_T} {U : zu_T} {W : zw_T} {c r : g_St} {F p q g s : Nat} {v2 : Int32} (h : zi_I L U W c r) (hp : p < zl_pp L) (hq : q < zl_pp L) (hg : g < zl_gd L) (hs : s < 4) (hv : (v2 = -1 ∧ q = p) ∨ (v2 = nI q ∧ q ≠ p)) (hF : 60 < F) : mm_whyNotMake_26 F r (nI p) v2 (nI g) (nI s) = some (nI (zo_wc L W p q g)) := by
  have ho := h.1
  have how := h.2.1
  have h8 := ho.2.2.1
  have h6 := ho.2.1
  have h40 := how.1
  have hL := h.2.2.2.1.1
  have hR := h.2.2.2.1.2.2
  have ckp := (how.2.2.2 p hp).1
  have ckq := (how.2.2.2 q hq).1
  have pcp := (how.2.2.2 p hp).2
  have pcq := (how.2.2.2 q hq).2
  have h5 := ho.1
  have hgo := ho.2.2.2.2.1 g hg
  have fr64 : zl_fr L g < 64 := Nat.lt_of_lt_of_le hgo.2 (Nat.pow_le_pow_right (n := 2) (by omega) (by omega : g ≤ 6))
  have mkp := zl_mk_lt ho hp
  have mkq := zl_mk_lt ho hq
  have rkp := (hR.2.2.2 p hp).1
  have rkq := (hR.2.2.2 q hq).1
  have rpp := (hR.2.2.2 p hp).2
  have rpq := (hR.2.2.2 q hq).2
  have rmp := (hL.2.2.2.2.2 p hp).2.1
  have rmq := (hL.2.2.2.2.2 q hq).2.1
  have r9 := (hL.2.2.2.2.1 g hg).1
  have r10 := (hL.2.2.2.2.1 g hg).2
  have nq : ¬ nI q = (-1 : Int32) := fun e => by have : nI q = -nI 1 := e; rwa [z_eqm1 (by omega)] at this
  have gd := ((zo_good h (v := nI g)).1 ⟨g, hg, rfl⟩).2
  have wi := (zo_within (μ := r) (v := nI s) (n := 3) (by omega)).1 ⟨s, hs, rfl⟩
  have e165 : mm_whyNotMake_165 F r = some (nI (if zw_n W = 40 then 7 else 0)) := by
    unfold mm_whyNotMake_165
    rw [hR.1]
    by_cases e : zw_n W = 40
    · rw [if_pos (show nI (zw_n W) = (40 : Int32) from by rw [e]; rfl), if_pos e]; rfl
    · rw [if_neg (show ¬ nI (zw_n W) = (40 : Int32) from fun x => e (by have : nI (zw_n W) = nI 40 := x; rwa [z_eq (by omega) (by omega)] at this)), if_neg e]; rfl
  have e115 : ∀ m : Nat, m < 64 → (z_bit m g = 0 ∧ z_bit (zl_mk L p) g = 0 ↔ z_bit (zl_mk L p) g = 0 ∧ z_bit (zl_mk L q) g = 0) → mm_whyNotMake_115 F r (nI p) v2 (nI g) (nI m) (nI (zl_mk L p)) = some (nI (if z_bit (zl_mk L p) g = 0 ∧ z_bit (zl_mk L q) g = 0 then 3 else if zw_hs W p (zl_fr L g) 6 = false then 3 else if zw_pc W p ≠ zw_pc W q then 4 else if zw_n W = 40 then 7 else 0)) := by
    intro m hm hi
    have hor : zl_mk L p ||| m < 64 := Nat.or_lt_two_pow (n := 6) mkp hm
    have bl := z_bit_lt (zl_mk L p ||| m) g
    have hz : (nI (z_bit (zl_mk L p ||| m) g) = (0 : Int32)) = (z_bit (zl_mk L p) g = 0 ∧ z_bit (zl_mk L q) g = 0) := by
      show (nI (z_bit (zl_mk L p ||| m) g) = nI 0) = _
      rw [z_eq (by omega) (by omega), zo_mkr2]
      exact propext ⟨fun x => hi.mp ⟨x.2, x.1⟩, fun x => ⟨x.1, (hi.mpr x).1⟩⟩
    unfold mm_whyNotMake_115
    rw [z_or, z_bitq (by omega) (by omega)]
    by_cases a1 : z_bit (zl_mk L p) g = 0 ∧ z_bit (zl_mk L q) g = 0
    · rw [if_pos (by rw [hz]; exact a1), if_pos a1]; rfl
    · rw [if_neg (by rw [hz]; exact a1), if_neg a1, z_rd (by omega) (by omega), z_sbind, r10, zw_R_has hR how (by omega) ⟨h8, h6⟩ fr64 hF, z_sbind]
      cases hh : zw_hs W p (zl_fr L g) 6 with
      | false => rw [if_pos (show nI (false).toNat = (0 : Int32) from rfl), if_pos rfl]; rfl
      | true =>
        rw [if_neg (show ¬ nI (true).toNat = (0 : Int32) from by decide), if_neg (show ¬ true = false by decide), e165]
        rcases hv with ⟨v, e⟩ | ⟨v, e⟩
        · rw [if_pos v, if_neg (show ¬ zw_pc W p ≠ zw_pc W q from fun x => x (by rw [e]))]
        · rw [v, if_neg nq, z_rd (by omega) (by omega), z_sbind, z_rd (by omega) (by omega), z_sbind, rpp, rpq]
          by_cases a : zw_pc W p = zw_pc W q
          · rw [if_pos (by rw [a]), if_neg (show ¬ zw_pc W p ≠ zw_pc W q from fun x => x a)]
          · rw [if_neg (by rw [z_eq (by omega) (by omega)]; omega), if_pos a]; rfl
  have e75 : mm_whyNotMake_75 F r (nI p) v2 (nI g) (nI (max (zw_ck W p) (zw_ck W q))) = some (nI (zo_wc L W p q g)) := by
    have hM : max (zw_ck W p) (zw_ck W q) ≤ 168 := Nat.max_le.mpr ⟨ckp, ckq⟩
    unfold mm_whyNotMake_75 zo_wc
    rw [z_rd (by omega) (by omega), z_sbind, r9, nI_add]
    by_cases a : 168 < max (zw_ck W p) (zw_ck W q) + zl_hr L g
    · rw [if_pos (show (168 : Int32) < nI (max (zw_ck W p) (zw_ck W q) + zl_hr L g) from nI_lt (a := 168) a (by omega)), if_pos a]; rfl
    · rw [if_neg (show ¬ (168 : Int32) < nI (max (zw_ck W p) (zw_ck W q) + zl_hr L g) from by show ¬ nI 168 < _; rw [z_lt (by omega) (by omega)]; exact a), if_neg a, z_rd (by omega) (by omega), z_sbind, rmp]
      rcases hv with ⟨v, e⟩ | ⟨v, e⟩
      · rw [if_pos v]
        refine e115 0 (by omega) ?_
        rw [e]
        exact ⟨fun x => ⟨x.2, x.2⟩, fun x => ⟨by unfold z_bit; rw [Nat.zero_shiftRight], x.1⟩⟩
      · rw [if_neg (by rw [v]; exact nq), v, z_rd (by omega) (by omega), z_sbind, rmq, ← v]
        exact e115 (zl_mk L q) mkq ⟨fun x => ⟨x.2, x.1⟩, fun x => ⟨x.2, x.1⟩⟩
  have wi : mm_within r (nI s) 0 3 = some (nI 1) := wi
  unfold mm_whyNotMake_26
  rw [gd, z_sbind, if_neg z_e1, wi, z_sbind, if_neg z_e1]
  rcases hv with ⟨v, e⟩ | ⟨v, e⟩
  · rw [if_pos v, z_rd (by omega) (by omega), z_sbind, rkp, ← e75, e, Nat.max_self]
  · rw [if_neg (by rw [v]; exact nq), z_rd (by omega) (by omega), z_sbind, v, z_rd (by omega) (by omega), z_sbind, rkp, rkq, z_max (by omega) (by omega), ← v, e75]
theorem zo_make_core {F : Nat} (hF : 4000 < F) {L : zl_T} {U : zu_T} {W : zw_T} {c r : g_St} {p q g s : Nat} {v2 : Int32} (h : zi_I L U W c r) (hp : p < zl_pp L) (hq : q < zl_pp L) (hg : g < zl_gd L) (hs : s < 4) (hv : (v2 = -1 ∧ q = p) ∨ (v2 = nI q ∧ q ≠ p)) : zo_s c r (oo_make_71 F (nI p) (nI g) (nI s) (nI q) c) ((mm_whyNotMake_26 F r (nI p) v2 (nI g) (nI s)).bind fun x2 => if 0 < x2 then some (x2, r) else mm_make_27 F (nI p) v2 (nI g) (nI s) F 0 r) := by
  have ho := h.1
  have how := h.2.1
  have h8 := ho.2.2.1
  have h6 := ho.2.1
  have h40 := how.1
  have hC := h.2.2.1
  have bl := hC.1
  unfold g_isLand at bl
  have ckp := (how.2.2.2 p hp).1
  have ckq := (how.2.2.2 q hq).1
  have pcp := (how.2.2.2 p hp).2
  have pcq := (how.2.2.2 q hq).2
  have h5 := ho.1
  have hgo := ho.2.2.2.2.1 g hg
  have fr64 : zl_fr L g < 64 := Nat.lt_of_lt_of_le hgo.2 (Nat.pow_le_pow_right (n := 2) (by omega) (by omega : g ≤ 6))
  have hM : max (zw_ck W p) (zw_ck W q) ≤ 168 := Nat.max_le.mpr ⟨ckp, ckq⟩
  have cckp : c.1 67 p = nI (zw_ck W p) := (hC.2.2.2.2.2.2.2 p hp).1
  have cckq : c.1 67 q = nI (zw_ck W q) := (hC.2.2.2.2.2.2.2 q hq).1
  have cpp : c.1 68 p = nI (zw_pc W p) := (hC.2.2.2.2.2.2.2 p hp).2
  have cpq : c.1 68 q = nI (zw_pc W q) := (hC.2.2.2.2.2.2.2 q hq).2
  have cn : c.1 61 0 = nI (zw_n W) := hC.2.2.2.2.1
  have c10 := (hC.2.2.1.2.2.2.2.1 g hg).1
  have c11 := (hC.2.2.1.2.2.2.2.1 g hg).2
  have tp : (2 : Nat) ^ p < 256 := Nat.pow_lt_pow_right (n := 8) (by omega) (by omega)
  have tq : (2 : Nat) ^ q < 256 := Nat.pow_lt_pow_right (n := 8) (by omega) (by omega)
  have m256 : 2 ^ p ||| 2 ^ q < 256 := Nat.or_lt_two_pow (n := 8) tp tq
  have nq : ¬ nI q = (-1 : Int32) := fun e => by have : nI q = -nI 1 := e; rwa [z_eqm1 (by omega)] at this
  rw [zo_why h hp hq hg hs hv (by omega), z_sbind]
  unfold oo_make_71 ow_laterClock zo_wc
  rw [z_tp (by omega), z_tp (by omega), z_or, z_sbind, z_rd (by omega) (by omega), z_sbind, z_rd (by omega) (by omega), z_sbind, z_sbind, cckp, cckq, z_max (by omega) (by omega), z_ql hC.1, z_sbind, z_rd (by omega) (by omega), z_sbind, c10, nI_add]
  generalize hMe : max (zw_ck W p) (zw_ck W q) = M at hM ⊢
  by_cases a1 : 168 < M + zl_hr L g
  · rw [if_pos (show (168 : Int32) < nI (M + zl_hr L g) from nI_lt (a := 168) a1 (by omega)), if_pos a1, if_pos (by decide)]
    exact zo_s_of rfl rfl h
  · have and256 : zl_mkrs L g &&& (2 ^ p ||| 2 ^ q) < 256 := Nat.lt_of_le_of_lt Nat.and_le_right m256
    rw [if_neg (show ¬ (168 : Int32) < nI (M + zl_hr L g) from by show ¬ nI 168 < _; rw [z_lt (by omega) (by omega)]; exact a1), if_neg a1, z_sbind, zl_C_makersOf hC.2.2.1 ho (by omega) (by omega), z_sbind, z_and]
    have hz : (nI (zl_mkrs L g &&& (2 ^ p ||| 2 ^ q)) = (0 : Int32)) = (z_bit (zl_mk L p) g = 0 ∧ z_bit (zl_mk L q) g = 0) := by
      show (nI (zl_mkrs L g &&& (2 ^ p ||| 2 ^ q)) = nI 0) = _
      rw [z_eq (by omega) (by omega), zo_mkr hp hq]
    by_cases a2 : z_bit (zl_mk L p) g = 0 ∧ z_bit (zl_mk L q) g = 0
    · rw [if_pos (by rw [hz]; exact a2), if_pos a2, if_pos (by decide)]
      exact zo_s_of rfl rfl h
    · rw [if_neg (by rw [hz]; exact a2), if_neg a2, z_sbind, z_rd (by omega) (by omega), z_sbind, c11, zw_C_has hC.2.2.2.2 how (by omega) ⟨h8, h6⟩ fr64 (by omega), z_sbind]
      cases hh : zw_hs W p (zl_fr L g) 6 with
      | false =>
        rw [if_pos (show nI (false).toNat = (0 : Int32) from rfl), if_pos rfl, if_pos (by decide)]
        exact zo_s_of rfl rfl h
      | true =>
        rw [if_neg (show ¬ nI (true).toNat = (0 : Int32) from by decide), if_neg (show ¬ true = false by decide), z_rd (by omega) (by omega), z_sbind, z_rd (by omega) (by omega), z_sbind, cpp, cpq]
        by_cases a3 : zw_pc W p = zw_pc W q
        · rw [if_pos (by rw [a3]), if_neg (show ¬ zw_pc W p ≠ zw_pc W q from fun x => x a3), cn]
          by_cases a4 : zw_n W = 40
          · rw [if_pos (show (40 : Int32) ≤ nI (zw_n W) from by rw [a4]; decide), if_pos a4, if_pos (by decide)]
            exact zo_s_of rfl rfl h
          · rw [if_neg (show ¬ (40 : Int32) ≤ nI (zw_n W) from by show ¬ nI 40 ≤ _; rw [z_le (by omega) (by omega)]; omega), if_neg a4, if_neg (by decide), z_sbind, z_rd (by omega) (by omega), z_sbind, c11]
            -- the class does it
            obtain ⟨s1, hs1, w1, z1⟩ := zw_C_use (F := F) hC.2.2.2.2 how hh (by omega) ⟨h8, h6⟩ fr64 (by omega)
            have kn := (zw_us_k (W := W) (p := p) (fr := zl_fr L g) 6).1
            have okV := zw_us_ok (p := p) (fr := zl_fr L g) (j := 6) how
            have s0 : s1.1 61 0 = nI (zw_n W) := by rw [w1.1, kn]
            have x1 : ((ow_useUp F 61 (nI p) (nI (zl_fr L g)) c).bind fun μ17 => (ow_add 61 (nI g) (nI s) (nI (2 ^ p ||| 2 ^ q)) (nI p) (nI (M + zl_hr L g)) μ17).bind fun μ18 => (ow_setClocks 61 (nI p) (nI q) (nI (M + zl_hr L g)) μ18).bind fun μ19 => (some (g_sI μ19 0 14 (0 : Int32))).bind fun μ20 => (some ((0 : Int32), μ20))) = some (0, g_sI (g_sI (g_sI (g_sI (g_sI (g_sI (g_sI (g_sI (g_sI s1 62 (zw_n W) (nI g)) 63 (zw_n W) (nI s)) 64 (zw_n W) (nI (2 ^ p ||| 2 ^ q))) 65 (zw_n W) (nI p)) 66 (zw_n W) (nI (M + zl_hr L g))) 61 0 (nI (zw_n W + 1))) 67 p (nI (M + zl_hr L g))) 67 q (nI (M + zl_hr L g))) 0 14 0) := by
              rw [hs1, z_sbind]
              unfold ow_add ow_setClocks
              rw [s0, if_pos (show nI (zw_n W) < (40 : Int32) from nI_lt (b := 40) (by omega) (by omega))]
              simp (disch := omega) only [z_wr, z_sbind, z_sI_id, s0, nI_1]
            rw [x1]
            -- the reference does it
            have hw : z_w (mm_make_27 F (nI p) v2 (nI g) (nI s) F 0 r) (fun y => y.1 = 0 ∧ ∃ t1, zw_R L (zw_us W p (zl_fr L g) 6) t1 ∧ z_f (fun id => id ≠ 32) r t1 ∧ y.2 = g_sI (g_sI (g_sI (g_sI (g_sI (g_sI (g_sI (g_sI t1 35 p (nI (M + zl_hr L g))) 35 q (nI (M + zl_hr L g))) 29 (zw_n W) (nI g)) 30 (zw_n W) (nI s)) 31 (zw_n W) (nI (2 ^ p ||| 2 ^ q))) 32 (zw_n W) (nI p)) 33 (zw_n W) (nI (M + zl_hr L g))) 0 39 (nI (zw_n W + 1))) := by
              refine zw_R_use h.2.2.2.1.1 h.2.2.2.1.2.2 how hh (by omega) hg ⟨h8, h6⟩ rfl fr64 (by omega) (fun t1 u1 u2 => ?_)
              have q35p : t1.1 35 p = nI (zw_ck W p) := by rw [u2.1 35 (by omega)]; exact (h.2.2.2.1.2.2.2.2.2 p hp).1
              have q35q : t1.1 35 q = nI (zw_ck W q) := by rw [u2.1 35 (by omega)]; exact (h.2.2.2.1.2.2.2.2.2 q hq).1
              have q9 : t1.1 9 g = nI (zl_hr L g) := by rw [u2.1 9 (by omega)]; exact (h.2.2.2.1.1.2.2.2.2.1 g hg).1
              have q39 : t1.1 0 39 = nI (zw_n W) := by rw [u1.1, kn]
              rcases hv with ⟨v, e⟩ | ⟨v, e⟩
              · subst e
                rw [Nat.max_self] at hMe
                rw [if_pos v, z_rd (by omega) (by omega), z_sbind, q35p, hMe]
                unfold mm_make_97
                rw [z_rd (by omega) (by omega), z_sbind, q9, nI_add, z_wr (by omega) (by omega), z_sbind, if_pos v]
                unfold mm_make_127 mm_make_171
                simp (disch := omega) only [z_sI_id, q39, z_wr, z_sbind]
                rw [if_pos v, z_tp (by omega), show nI (2 ^ q) ||| (0 : Int32) = nI (2 ^ q ||| 2 ^ q) from by rw [show (0 : Int32) = nI 0 from rfl, z_or, Nat.or_zero, Nat.or_self]]
                refine z_w_eq (a := (0, g_sI (g_sI (g_sI (g_sI (g_sI (g_sI (g_sI t1 35 q (nI (M + zl_hr L g))) 29 (zw_n W) (nI g)) 30 (zw_n W) (nI s)) 31 (zw_n W) (nI (2 ^ q ||| 2 ^ q))) 32 (zw_n W) (nI q)) 33 (zw_n W) (nI (M + zl_hr L g))) 0 39 (nI (zw_n W + 1)))) ?_ ⟨rfl, t1, u1, u2, ?_⟩
                · simp (disch := omega) only [z_sI_id, q39, z_wr, z_sbind, nI_1]
                · rw [z_sI_no (μ := g_sI t1 35 q (nI (M + zl_hr L g))) (z_sI_same _ _ _ _)]
              · rw [v, if_neg nq, z_rd (by omega) (by omega), z_sbind, z_rd (by omega) (by omega), z_sbind, q35p, q35q, z_max (by omega) (by omega), hMe]
                unfold mm_make_97
                rw [z_rd (by omega) (by omega), z_sbind, q9, nI_add, z_wr (by omega) (by omega), z_sbind, if_neg nq, z_wr (by omega) (by omega), z_sbind]
                unfold mm_make_127 mm_make_171
                simp (disch := omega) only [z_sI_id, q39, z_wr, z_sbind]
                rw [if_neg nq, z_tp (by omega), z_tp (by omega), z_or]
                refine z_w_eq (a := (0, g_sI (g_sI (g_sI (g_sI (g_sI (g_sI (g_sI (g_sI t1 35 p (nI (M + zl_hr L g))) 35 q (nI (M + zl_hr L g))) 29 (zw_n W) (nI g)) 30 (zw_n W) (nI s)) 31 (zw_n W) (nI (2 ^ p ||| 2 ^ q))) 32 (zw_n W) (nI p)) 33 (zw_n W) (nI (M + zl_hr L g))) 0 39 (nI (zw_n W + 1)))) ?_ ⟨rfl, t1, u1, u2, rfl⟩
                simp (disch := omega) only [z_sI_id, q39, z_wr, z_sbind, nI_1]
            obtain ⟨⟨y1, y2⟩, hy, e1, t1, u1, u2, e2⟩ := hw
            have e1 : y1 = 0 := e1
            have e2 : y2 = _ := e2
            subst e1
            subst e2
            refine zo_s_of rfl hy (zi_w (W2 := zw_mkd (zw_us W p (zl_fr L g) 6) p q g s (M + zl_hr L g) (2 ^ p ||| 2 ^ q)) h (zw_mkd_ok okV (by omega) hp hg (by omega) (by omega) m256) ?_ ?_ ?_ ?_ ?_ ?_ ?_ (Or.inl (z_sI_same _ _ _ _)))
            · refine ⟨fun id q => ?_, z1.2⟩
              simp (disch := omega) only [z_sI_f]
              exact z1.1 id (by omega)
            · simp (disch := omega) only [z_sI_id, z_sI_k]
              rw [z1.1 0 (by omega)]
            · have := zw_C_mkd (p := p) (q := q) (g := g) (s := s) (d := M + zl_hr L g) (m := 2 ^ p ||| 2 ^ q) w1 (by omega)
              rw [kn] at this; exact this
            · intro id q
              simp (disch := omega) only [z_sI_f]
              exact u2.1 id (by omega)
            · simp (disch := omega) only [z_sI_id, z_sI_k]
              rw [u2.1 0 (by omega)]
            · simp (disch := omega) only [z_sI_id, z_sI_k]
              rw [u2.1 0 (by omega)]
            · have := zw_R_mkd (p := p) (q := q) (g := g) (s := s) (d := M + zl_hr L g) (m := 2 ^ p ||| 2 ^ q) u1 (by omega)
              rw [kn] at this; exact this
        · rw [if_neg (by rw [z_eq (by omega) (by omega)]; exact a3), if_pos a3, if_pos (by decide)]
          exact zo_s_of rfl rfl h
theorem zo_make {F : Nat} (hF : 4000 < F) {c r : g_St} (h : zi c r) (v1 v2 v3 v4 : Int32) : zo_s c r (oo_make F v1 v2 v3 v4 c) (mm_make F v1 v2 v3 v4 r) := by
  obtain ⟨L, U, W, h⟩ := h
  have h0 := zo_0 h
  have ho := h.1
  have h8 := ho.2.2.1
  unfold mm_make
  rw [z_sbind]
  generalize g_sI r 0 0 0 = r0 at h0 ⊢
  have p1 := zo_person h0 (v := v1)
  have p2 := zo_person h0 (v := v2)
  have g3 := zo_good h0 (v := v3)
  have w4 := zo_within (μ := r0) (v := v4) (n := 3) (by omega)
  have one : zo_s c r0 (some ((1 : Int32), c)) ((some (1 : Int32)).bind fun x2 => if 0 < x2 then some (x2, r0) else mm_make_27 F v1 v2 v3 v4 F 0 r0) := by
    rw [z_sbind, if_pos (by decide)]
    exact zo_s_of rfl rfl h0
  have rest : ∀ (q : Int32) (k : Nat) (s0 : Int32) (p : Nat), v1 = nI p → p < zl_pp L → q = nI k → k < zl_pp L → ((v2 = -1 ∧ k = p) ∨ (v2 = nI k ∧ k ≠ p)) → (if s0 = 0 then v2 else v1) = q → zo_s c r0 (oo_make_40 F v1 v2 v3 v4 s0 c) ((mm_whyNotMake_26 F r0 v1 v2 v3 v4).bind fun x2 => if 0 < x2 then some (x2, r0) else mm_make_27 F v1 v2 v3 v4 F 0 r0) := by
    intro q k s0 p e1 hp e2 hk hv hq
    unfold oo_make_40
    by_cases b3 : z_is v3 (zl_gd L)
    · rw [(g3.1 b3).1, z_sbind, if_neg z_e1]
      rw [show (3 : Int32) = nI 3 from rfl]
      by_cases b4 : z_is v4 4
      · rw [(z_ask4 (by omega)).1 b4]
        obtain ⟨g, hg, rfl⟩ := b3
        obtain ⟨s, hs, rfl⟩ := b4
        have key := zo_make_core hF h0 hp hk hg hs hv
        rw [← e2, ← e1] at key
        by_cases a : s0 = 0
        · rw [if_pos a] at hq; rw [if_pos a, hq]; rw [hq] at key; exact key
        · rw [if_neg a] at hq; rw [if_neg a, hq]; rw [hq] at key; exact key
      · rw [(z_ask4 (by omega)).2 b4]
        have : mm_whyNotMake_26 F r0 v1 v2 v3 v4 = some 1 := by
          have w : mm_within r0 v4 0 3 = some (nI 0) := w4.2 b4
          unfold mm_whyNotMake_26
          rw [(g3.1 b3).2, z_sbind, if_neg z_e1, w, z_sbind, if_pos z_e0]
        rw [this]; exact one
    · have : mm_whyNotMake_26 F r0 v1 v2 v3 v4 = some 1 := by
        unfold mm_whyNotMake_26
        rw [(g3.2 b3).2, z_sbind, if_pos z_e0]
      rw [(g3.2 b3).1, z_sbind, if_pos z_e0, this]; exact one
  unfold oo_make mm_whyNotMake
  unfold oo_make_10
  by_cases b1 : z_is v1 (zl_pp L)
  · rw [(p1.1 b1).1, (p1.1 b1).2, z_sbind, z_sbind, z_sbind, if_neg z_e1, if_neg z_e1, if_neg z_e1]
    obtain ⟨p, hp, e1⟩ := b1
    by_cases a : v2 = -1
    · rw [if_pos a, if_pos a, if_neg (show ¬ (1 : Int32) = 0 by decide)]
      exact rest v1 p 1 p e1 hp e1 hp (Or.inl ⟨a, rfl⟩) (if_neg (by decide))
    · rw [if_neg a, if_neg a, if_pos rfl]
      by_cases b2 : z_is v2 (zl_pp L)
      · rw [(p2.1 b2).1, (p2.1 b2).2, z_sbind, z_sbind, if_neg z_e1, if_neg z_e1]
        obtain ⟨k, hk, e2⟩ := b2
        by_cases e : v2 = v1
        · rw [if_pos e, if_pos e]; exact one
        · rw [if_neg e, if_neg e]
          exact rest v2 k 0 p e1 hp e2 hk (Or.inr ⟨e2, fun q => e (by rw [e1, e2, q])⟩) (if_pos rfl)
      · rw [(p2.2 b2).1, (p2.2 b2).2, z_sbind, z_sbind, if_pos z_e0, if_pos z_e0]; exact one
  · rw [(p1.2 b1).1, (p1.2 b1).2, z_sbind, z_sbind, z_sbind, if_pos z_e0, if_pos z_e0, if_pos z_e0]
    split <;> exact one
