/-! Layer 2: a LAND's lines: person -/
theorem zp_pr_k {P : zp_T} {w : Nat → Nat} {r r2 : g_St} (h : zp_pr P w r) (e : r2.1 13 = r.1 13) : zp_pr P w r2 := by
  intro j hj; rw [e]; exact h j hj
theorem zp_E_w {Y : zp_S} {c r r2 : g_St} (h : zp_E Y c r) (k : zp_KR r r2) : zp_E Y c r2 := by
  obtain ⟨⟨f, f1, f2, f3, f4⟩, h2, h3, h4⟩ := h
  exact ⟨⟨f, f1, f2, f3, by rw [k.2.1]; exact f4⟩, h2, zp_FR_t h3 k.1, h4⟩
theorem zp_pEnd {Y : zp_S} {j j6 F hm mk : Nat} {P : zp_T} {w : Nat → Nat} {u : List Nat} {c r : g_St} (h : zp_V Y j6 c r) (hL : zp_L Y.1.2.2 (zp_Pw P w) c r) (hp : zp_pr P w r) (hj : j < j6) (hg : zl_pp P.1 < 8) (u1 : zn_dg u) (u2 : u.length ≤ 8) (hc : c.2.1 (Y.1.2.2 + 3) (zl_pp P.1) = iL (ze 32 u : Nat)) (h11 : r.1 11 (8 + zl_pp P.1) = nI hm) (h12 : r.1 12 (8 + zl_pp P.1) = nI mk) (hv : hm < zl_pl P.1) (hf : mk < 2 ^ zl_gd P.1) (hF : 1100 < F) :
    zp_q Y (od_readPerson_132 F Y.1.2.2 (nI (zl_pp P.1)) (nI hm) (nI mk) c) ((g_wl r 7 16 (nI (8 + zl_pp P.1)) (iL (ze 27 u : Nat))).bind fun μ18 => (g_rd μ18 4 2 (1 : Int32)).bind fun x19 => (g_wr μ18 4 2 (1 : Int32) (x19 + (1 : Int32))).bind fun μ20 => (mm_ends F μ20).bind fun q21 => some (q21.1 &&& 1, q21.2)) (zp_Q Y j) := by
  have hb := zp_b7 h.2.2.1
  obtain ⟨⟨e1, e2, e3⟩, ⟨e4, e5, e6⟩, b1, b2, b3⟩ := hL.1
  have e3 : c.1 Y.1.2.2 2 = nI (zl_pp P.1) := e3
  have e6 : r.1 4 1 = nI (zl_pp P.1) := e6
  unfold od_readPerson_132
  rw [z_wl (by omega) (by omega), z_sbind, show g_rd (g_sL r 7 (8 + zl_pp P.1) (iL (ze 27 u : Nat))) 4 2 (1 : Int32) = some (nI (zl_pp P.1)) from (z_rd (i := 1) (n := 2) (by omega) (by omega)).trans (congrArg some e6), z_sbind, nI_1, show g_wr (g_sL r 7 (8 + zl_pp P.1) (iL (ze 27 u : Nat))) 4 2 (1 : Int32) (nI (zl_pp P.1 + 1)) = some (g_sI (g_sL r 7 (8 + zl_pp P.1) (iL (ze 27 u : Nat))) 4 1 (nI (zl_pp P.1 + 1))) from z_wr (i := 1) (n := 2) (by omega) (by omega), z_sbind]
  have kr : zp_KR r (g_sI (g_sL r 7 (8 + zl_pp P.1) (iL (ze 27 u : Nat))) 4 1 (nI (zl_pp P.1 + 1))) := zp_KR_t (zp_KR_L (by omega)) (zp_KR_I (by omega))
  have hV := zp_V_w h zp_KC_refl kr ⟨_, b1, e1⟩
  obtain ⟨x, c2, r2, k1, k2, k3⟩ := zp_ends hV hF
  rw [k1, k2, z_sbind, z_sbind]
  rcases k3 with ⟨w1, k4, k5, k6⟩ | ⟨w0, k4⟩
  · have f1 : c2.1 Y.1.2.2 2 = nI (zl_pp P.1) := by rw [k5.1 _ (by omega) (by omega) (by omega)]; exact e3
    rw [w1, if_neg zn_p1]
    dsimp only
    rw [z_wr (by omega) (by omega), z_sbind, z_wr (by omega) (by omega), z_sbind, z_sbind, z_sI_id (by omega), z_sI_id (by omega), f1, nI_1]
    have hL2 : zp_L Y.1.2.2 (((zl_pl P.1, zl_gd P.1, zl_pp P.1 + 1), (P.1.2.1, P.1.2.2.1, P.1.2.2.2.1, (fun p => if p = zl_pp P.1 then hm else zl_hm P.1 p), (fun p => if p = zl_pp P.1 then mk else zl_mk P.1 p), (zp_Pw P w).1.2.2.2.2.2.2)), P.2.1, P.2.2.1, (fun i => if i = zl_pp P.1 then u else P.2.2.2 i)) (g_sI (g_sI (g_sI c2 (Y.1.2.2 + 12) (zl_pp P.1) (nI hm)) (Y.1.2.2 + 13) (zl_pp P.1) (nI mk)) Y.1.2.2 2 (nI (zl_pp P.1 + 1))) r2 := by
      refine zp_L_k (c := g_sI (g_sI (g_sI c (Y.1.2.2 + 12) (zl_pp P.1) (nI hm)) (Y.1.2.2 + 13) (zl_pp P.1) (nI mk)) Y.1.2.2 2 (nI (zl_pp P.1 + 1))) (r := g_sI (g_sL r 7 (8 + zl_pp P.1) (iL (ze 27 u : Nat))) 4 1 (nI (zl_pp P.1 + 1))) ?_ (by omega) (fun id q => ⟨?_, k5.2.2.1 id (by omega) (by omega)⟩) (fun id q => ⟨k6.1 id (by omega), k6.2.2.1 id (by omega)⟩)
      · obtain ⟨-, ⟨n1, n2, n3⟩, hw, hg2, hp2, hz⟩ := hL
        refine ⟨⟨⟨by simp (disch := omega) only [z_sI_id, z_sI_k]; exact e1, by simp (disch := omega) only [z_sI_id, z_sI_k]; exact e2, by rw [z_sI_same]; rfl⟩, ⟨by simp (disch := omega) only [z_sI_id, z_sI_k]; exact e4, by simp (disch := omega) only [z_sI_id, z_sI_k]; exact e5, by rw [z_sI_same]; rfl⟩, b1, b2, by show zl_pp P.1 + 1 ≤ 8; omega⟩, ⟨?_, ?_, ?_⟩, ?_, ?_, ?_, ?_⟩
        · intro i hi; simp only [z_sI_2]; rw [zn_sL_f (by omega)]; exact n1 i hi
        · intro i hi; simp only [z_sI_2]; rw [zn_sL_f (by omega)]; exact n2 i hi
        · intro i hi
          have hi : i < zl_pp P.1 + 1 := hi
          simp only [z_sI_2]
          rw [z_sL]
          show zn_dg (if i = zl_pp P.1 then u else P.2.2.2 i) ∧ (if i = zl_pp P.1 then u else P.2.2.2 i).length ≤ 8 ∧ _ = iL (ze 32 (if i = zl_pp P.1 then u else P.2.2.2 i) : Nat) ∧ _ = iL (ze 27 (if i = zl_pp P.1 then u else P.2.2.2 i) : Nat)
          by_cases e : i = zl_pp P.1
          · rw [if_pos e, if_pos ⟨rfl, by rw [e]⟩, e]; exact ⟨u1, u2, hc, rfl⟩
          · rw [if_neg e, if_neg (fun q => by omega)]; exact n3 i (by show i < zl_pp P.1; omega)
        · intro x y hx hy
          simp (disch := omega) only [z_sI_id]
          exact hw x y hx hy
        · intro g hg3
          have hg4 := hg2 g hg3
          simp (disch := omega) only [z_sI_id]
          exact hg4
        · intro p hp3
          have hp3 : p < zl_pp P.1 + 1 := hp3
          simp (disch := omega) only [z_sI_id]
          show ((if p = zl_pp P.1 then hm else zl_hm P.1 p) < zl_pl P.1 ∧ (if p = zl_pp P.1 then mk else zl_mk P.1 p) < 2 ^ zl_gd P.1) ∧ (_ = nI (if p = zl_pp P.1 then hm else zl_hm P.1 p) ∧ _ = nI (if p = zl_pp P.1 then mk else zl_mk P.1 p) ∧ _ = nI (if p = zl_pp P.1 then hm else zl_hm P.1 p) ∧ _ = nI (if p = zl_pp P.1 then mk else zl_mk P.1 p)) ∧ _
          by_cases e : p = zl_pp P.1
          · rw [if_pos e, if_pos e, e, z_sI_same, z_sI_same]
            refine ⟨⟨hv, hf⟩, ⟨rfl, rfl, h11, h12⟩, fun j hj => ?_⟩
            have hz2 := (hz (zl_pp P.1) (Nat.le_refl _) (by omega) j hj).1
            have hp4 := hp j hj
            rw [zp_Pw_wo, if_pos rfl] at hz2
            show zl_wo (zp_Pw P w).1 (zl_pp P.1) j ≤ 999 ∧ _ = nI (zl_wo (zp_Pw P w).1 (zl_pp P.1) j) ∧ _ = nI (zl_wo (zp_Pw P w).1 (zl_pp P.1) j)
            rw [zp_Pw_wo, if_pos rfl]
            exact ⟨hp4.1, hz2, hp4.2⟩
          · have hp4 := hp2 p (by show p < zl_pp P.1; omega)
            rw [if_neg e, if_neg e, z_sI_k e, z_sI_k e, z_sI_id (by omega)]
            exact hp4
        · intro p q1 q2 j hj
          have q1 : zl_pp P.1 + 1 ≤ p := q1
          have hz2 := hz p (by show zl_pp P.1 ≤ p; omega) q2 j hj
          simp (disch := omega) only [z_sI_id]
          exact ⟨hz2.1, fun _ => hz2.2 (by show zl_pp P.1 < p; omega)⟩
      · have k := fun (x : Nat) (q : 6 < x) => k5.1 x (by omega) (by omega) (by omega)
        refine z_sI_cg ?_ ?_
        · exact z_sI_cg (z_sI_cg (k _ (by omega)) (k _ (by omega))) (z_sI_cg (k _ (by omega)) (k _ (by omega)))
        · exact z_sI_cg (z_sI_cg (k _ (by omega)) (k _ (by omega))) (z_sI_cg (k _ (by omega)) (k _ (by omega)))
    have hz0 : zp_z0 ((((zl_pl P.1, zl_gd P.1, zl_pp P.1 + 1), (P.1.2.1, P.1.2.2.1, P.1.2.2.2.1, (fun p => if p = zl_pp P.1 then hm else zl_hm P.1 p), (fun p => if p = zl_pp P.1 then mk else zl_mk P.1 p), (zp_Pw P w).1.2.2.2.2.2.2)), P.2.1, P.2.2.1, (fun i => if i = zl_pp P.1 then u else P.2.2.2 i)) : zp_T) := by
      intro q j hj
      have q : zl_pp P.1 + 1 < 8 := q
      have hz2 := hL.2.2.2.2.2 (zl_pp P.1 + 1) (by show zl_pp P.1 ≤ zl_pp P.1 + 1; omega) (by omega) j hj
      exact hz2.2 (by show zl_pp P.1 < zl_pp P.1 + 1; omega)
    have hV2 := zp_V_w k4 (zp_KC_t (zp_KC_t (zp_KC_I (id := Y.1.2.2 + 12) (k := zl_pp P.1) (v := nI hm) (by omega)) (zp_KC_I (id := Y.1.2.2 + 13) (k := zl_pp P.1) (v := nI mk) (by omega))) (zp_KC_I (id := Y.1.2.2) (k := 2) (v := nI (zl_pp P.1 + 1)) (by omega))) zp_KR_refl (zp_cntq hL2)
    refine ⟨nI 1, _, r2, rfl, ?_, Or.inl ⟨rfl, _, _, ?_, hV2, hL2, hz0⟩⟩
    · show some (nI 1 &&& (1 : Int32), _) = _
      rw [zn_a1]
    · have := zp_n_ge (Y := Y) (j := j6); omega
  · rw [w0, if_pos zn_p0]
    refine ⟨nI 0, c2, r2, rfl, ?_, Or.inr ⟨rfl, k4⟩⟩
    show some (nI 0 &&& (1 : Int32), _) = _
    rw [zn_a0]
theorem zp_zero {bl F : Nat} {P : zp_T} {c : g_St} {v2 : Int64} (hp : zl_pp P.1 < 8) : ∀ (d k f : Nat) (r : g_St), 18 - k = d → k ≤ 18 → d < f → zp_L bl P c r → (∀ i, i < k → r.1 13 (18 * (8 + zl_pp P.1) + i) = nI 0) → ∃ r2 f2, mm_readsPerson_48 F (nI (8 + zl_pp P.1)) v2 f (nI k) r = mm_readsPerson_48_b F (nI (8 + zl_pp P.1)) v2 (mm_readsPerson_48 F (nI (8 + zl_pp P.1)) v2 f2) (nI 18) r2 ∧ zp_KR r r2 ∧ zp_L bl P c r2 ∧ zp_pr P (fun _ => 0) r2 := by
  intro d
  induction d with
  | zero =>
    intro k f r hd hk hf hL h0
    obtain ⟨f, rfl⟩ : ∃ f', f = f' + 1 := ⟨f - 1, by omega⟩
    have e : k = 18 := by omega
    subst e
    exact ⟨r, f, rfl, zp_KR_refl, hL, fun j hj => ⟨by show 0 ≤ 999; omega, h0 j hj⟩⟩
  | succ d ih =>
    intro k f r hd hk hf hL h0
    obtain ⟨f, rfl⟩ : ∃ f', f = f' + 1 := ⟨f - 1, by omega⟩
    have kr : zp_KR r (g_sI r 13 (18 * (8 + zl_pp P.1) + k) (0 : Int32)) := zp_KR_I (by omega)
    obtain ⟨r2, f2, m1, m2, m3, m4⟩ := ih (k + 1) f (g_sI r 13 (18 * (8 + zl_pp P.1) + k) (0 : Int32)) (by omega) (by omega) (by omega) (zp_L_r9 (id := 13) (k := 18 * (8 + zl_pp P.1) + k) hL (by omega)) (fun i hi => by
      rw [z_sI]
      by_cases e : i = k
      · rw [if_pos ⟨rfl, by rw [e]⟩]; rfl
      · rw [if_neg (fun q => by omega)]; exact h0 i (by omega))
    refine ⟨r2, f2, ?_, zp_KR_t kr m2, m3, m4⟩
    rw [← m1]
    show mm_readsPerson_48_b F (nI (8 + zl_pp P.1)) v2 (mm_readsPerson_48 F (nI (8 + zl_pp P.1)) v2 f) (nI k) r = _
    unfold mm_readsPerson_48_b
    rw [if_pos (show nI k < (18 : Int32) by show nI k < nI 18; rw [z_lt (by omega) (by omega)]; omega), show (18 : Int32) = nI 18 from rfl, z_mul, nI_add, z_wr (by omega) (by omega), z_sbind, nI_1]
theorem zp_rPerson {Y : zp_S} {j F : Nat} {P : zp_T} {c r : g_St} (h : zp_V Y j c r) (hL : zp_L Y.1.2.2 P c r) (hz0 : zp_z0 P) (hk : zn_k (zp_t Y j) = 5) (hF : 1100 < F) : zp_q Y (od_readLine F Y.1.2.2 c) (mm_readsPerson F r) (zp_Q Y j) := by
  have hb := zp_b7 h.2.2.1
  have h8 : c.1 1 8 = nI (zn_k (zp_t Y j)) := h.1.2.2.2.2.2.2.1
  have nj := zp_n_lt h (by omega)
  obtain ⟨⟨e1, e2, e3⟩, ⟨e4, e5, e6⟩, b1, b2, b3⟩ := hL.1
  unfold od_readLine mm_readsPerson
  rw [h8, hk, if_neg (show ¬ nI 5 = (0 : Int32) by decide), if_neg (show ¬ nI 5 = (1 : Int32) by decide), if_neg (show ¬ nI 5 = (2 : Int32) by decide), if_neg (show ¬ nI 5 = (3 : Int32) by decide), if_neg (show ¬ nI 5 = (4 : Int32) by decide), if_pos (show nI 5 = (5 : Int32) from rfl), e3, show g_rd r 4 2 (1 : Int32) = some (nI (zl_pp P.1)) from (z_rd (i := 1) (n := 2) (by omega) (by omega)).trans (congrArg some e6), z_sbind]
  by_cases q8 : zl_pp P.1 = 8
  · rw [if_neg (show ¬ nI _ < (8 : Int32) by show ¬ nI _ < nI 8; rw [z_lt (by omega) (by omega)]; omega), if_pos (show nI _ = (8 : Int32) by show nI _ = nI 8; rw [z_eq (by omega) (by omega)]; exact q8)]
    exact zp_q_and2 (zp_q_and (zp_q_bad (f := 5) h (by omega)))
  · have p8 : zl_pp P.1 < 8 := by omega
    rw [if_pos (show nI _ < (8 : Int32) by show nI _ < nI 8; rw [z_lt (by omega) (by omega)]; omega), if_neg (show ¬ nI _ = (8 : Int32) by show ¬ nI _ = nI 8; rw [z_eq (by omega) (by omega)]; exact q8)]
    refine zp_q_and ?_
    obtain ⟨c1, r1, a1, a2, a3, a4, a5⟩ := zp_adv h hF
    have hL1 := zp_L_k2 hL (by omega) a4 a5
    have e61 : r1.1 4 1 = nI (zl_pp P.1) := hL1.1.2.1.2.2
    unfold od_readPerson
    rw [a1, z_sbind, a2, z_sbind, e3]
    rcases zp_new (F := F) (a := Y.1.2.2 + 3) (na := 8) (idx := zl_pp P.1) a3 hL1 (by omega) (by omega) hF with ⟨c2, r2, n1, n2, n3⟩ | ⟨u, u1, u2, u3, u4, u5⟩
    · rw [n1, z_sbind, if_pos zn_p0, n2, z_sbind, if_pos zn_p0]
      exact ⟨_, c2, r2, rfl, rfl, Or.inr ⟨rfl, n3⟩⟩
    · rw [u4, u5, z_sbind, if_neg zn_p1]
      dsimp only
      rw [show g_rd r1 4 2 (1 : Int32) = some (nI (zl_pp P.1)) from (z_rd (i := 1) (n := 2) (by omega) (by omega)).trans (congrArg some e61), z_sbind, u3, show (8 : Int32) + nI (zl_pp P.1) = nI (8 + zl_pp P.1) from by rw [show (8 : Int32) = nI 8 from rfl, nI_add]]
      obtain ⟨r1', f2, z1, z2, z3, z4⟩ := zp_zero (bl := Y.1.2.2) (F := F) (P := P) (c := c1) (v2 := iL (ze 27 u : Nat)) p8 18 0 F r1 (by omega) (by omega) (by omega) hL1 (fun i hi => by omega)
      rw [show mm_readsPerson_48 F (nI (8 + zl_pp P.1)) (iL (ze 27 u : Nat)) F (0 : Int32) r1 = _ from z1]
      unfold mm_readsPerson_48_b
      rw [if_neg (show ¬ nI 18 < (18 : Int32) by decide)]
      have hV1 := zp_V_w a3 (zp_KC_L (k := zl_pp P.1) (v := iL (ze 32 u : Nat)) (show Y.1.2.2 ≤ Y.1.2.2 + 3 ∧ Y.1.2.2 + 3 < Y.1.2.2 + 23 by omega)) z2 ⟨_, b1, hL1.1.1.1⟩
      have hL1' := zp_L_w0 (zp_L_n3 (x := iL (ze 32 u : Nat)) z3) hz0
      have x1 : (g_sL c1 (Y.1.2.2 + 3) (zl_pp P.1) (iL (ze 32 u : Nat))).2.1 (Y.1.2.2 + 3) (zl_pp P.1) = iL (ze 32 u : Nat) := by rw [z_sL, if_pos ⟨rfl, rfl⟩]
      generalize g_sL c1 (Y.1.2.2 + 3) (zl_pp P.1) (iL (ze 32 u : Nat)) = c1' at hV1 hL1' x1
      obtain ⟨c2, r2, d1, d2, d3, d4, d5⟩ := zp_adv hV1 hF
      have hL2 := zp_L_k2 hL1' (by omega) d4 d5
      have x2 : c2.2.1 (Y.1.2.2 + 3) (zl_pp P.1) = iL (ze 32 u : Nat) := by rw [d4.2.2.1 _ (by omega) (by omega)]; exact x1
      rw [d1, d2, z_sbind, z_sbind, z_sbind, if_neg zn_p1]
      dsimp only
      obtain ⟨w, c3, r3, f1, f2, f3⟩ := zp_word (i := 6) (F := F) d3 (by omega) hF
      rw [show ot_take (6 : Int32) c2 = some (w, c3) from f1, show mm_needsWord F (47 : Int64) r2 = some (w, r3) from f2, z_sbind, z_sbind]
      rcases f3 with ⟨w1, f4, f5, f6⟩ | ⟨w0, f4⟩
      · rw [w1, if_neg zn_p1, if_neg zn_p1]
        dsimp only
        have hL3 := zp_L_k2 hL2 (by omega) f5 f6
        have x3 : c3.2.1 (Y.1.2.2 + 3) (zl_pp P.1) = iL (ze 32 u : Nat) := by rw [f5.2.2.1 _ (by omega) (by omega)]; exact x2
        have e13 : c3.1 Y.1.2.2 0 = nI (zl_pl P.1) := hL3.1.1.1
        rw [e13]
        have tp : zp_told Y c3 r3 (od_takeTold F (Y.1.2.2 + 1) 5 (nI (zl_pl P.1)) (0 : Int32) c3) (mm_needsPlace F r3) (mm_placeOf F r3) (zl_pl P.1) 0 := zp_tPlace (P := zp_Pw P (fun _ => 0)) (F := F) (tk := 0) f4 hL3 (by omega) hF
        rcases tp with ⟨c4, r4, n1, n2, n3⟩ | ⟨i, i1, i2, i3, i4, i5⟩ | ⟨a, i1, i2, i3, i4, i5⟩
        · rw [n1, z_sbind, if_pos (show (-1 : Int32) = -1 from rfl), n2, z_sbind, if_pos zn_p0]
          exact ⟨_, c4, r4, rfl, rfl, Or.inr ⟨rfl, n3⟩⟩
        · rw [show z_bit 0 i = 0 by unfold z_bit; simp] at i2; omega
        · rw [i3, i4, z_sbind, if_neg zn_p1, i5, z_sbind]
          dsimp only
          rw [z_wr (by omega) (by omega), z_sbind]
          have hV3 := zp_V_w f4 zp_KC_refl (zp_KR_I (r := r3) (id := 11) (k := 8 + zl_pp P.1) (v := nI a) (by omega)) ⟨_, b1, e13⟩
          have hL3' := zp_L_r9 (id := 11) (k := 8 + zl_pp P.1) (v := nI a) hL3 (Or.inr (Or.inl ⟨Or.inl rfl, rfl⟩))
          have y1 : (g_sI r3 11 (8 + zl_pp P.1) (nI a)).1 11 (8 + zl_pp P.1) = nI a := by rw [z_sI_same]
          have pr3' : zp_pr P (fun _ => 0) (g_sI r3 11 (8 + zl_pp P.1) (nI a)) := zp_pr_k z4 ((z_sI_f (by omega)).trans ((f6.1 13 (by omega)).trans (d5.1 13 (by omega))))
          generalize g_sI r3 11 (8 + zl_pp P.1) (nI a) = r3' at hV3 hL3' y1 pr3'
          obtain ⟨c4, r4, g1, g2, g3, g4, g5⟩ := zp_adv hV3 hF
          have hL4 := zp_L_k2 hL3' (by omega) g4 g5
          have x4 : c4.2.1 (Y.1.2.2 + 3) (zl_pp P.1) = iL (ze 32 u : Nat) := by rw [g4.2.2.1 _ (by omega) (by omega)]; exact x3
          have y2 : r4.1 11 (8 + zl_pp P.1) = nI a := by rw [g5.1 _ (by omega)]; exact y1
          rw [g1, g2, z_sbind, z_sbind, z_sbind, if_neg (show ¬ nI a = (-1 : Int32) by rw [show (-1 : Int32) = -nI 1 from rfl, z_eqm1 (by omega)]; exact id)]
          dsimp only
          obtain ⟨w, c5, r5, k1, k2, k3⟩ := zp_word (i := 7) (F := F) g3 (by omega) hF
          rw [show ot_take (7 : Int32) c4 = some (w, c5) from k1, show mm_needsWord F (6936589 : Int64) r4 = some (w, r5) from k2, z_sbind, z_sbind]
          rcases k3 with ⟨w1, k4, k5, k6⟩ | ⟨w0, k4⟩
          · rw [w1, if_neg zn_p1, if_neg zn_p1]
            dsimp only
            have hL5 := zp_L_k2 hL4 (by omega) k5 k6
            have x5 : c5.2.1 (Y.1.2.2 + 3) (zl_pp P.1) = iL (ze 32 u : Nat) := by rw [k5.2.2.1 _ (by omega) (by omega)]; exact x4
            have y3 : r5.1 11 (8 + zl_pp P.1) = nI a := by rw [k6.1 _ (by omega)]; exact y2
            have q1 := zp_n_ge (Y := Y) (j := zp_n Y j)
            have q2 := zp_n_ge (Y := Y) (j := zp_n Y (zp_n Y j))
            have q3 := zp_n_ge (Y := Y) (j := zp_n Y (zp_n Y (zp_n Y j)))
            have q4 := zp_n_ge (Y := Y) (j := zp_n Y (zp_n Y (zp_n Y (zp_n Y j))))
            have p64 : (2 : Nat) ^ zl_gd P.1 ≤ 2 ^ 6 := Nat.pow_le_pow_right (by omega) (by omega)
            have p1 : 0 < (2 : Nat) ^ zl_gd P.1 := Nat.two_pow_pos _
            unfold od_takeGoods mm_readsGoods
            have gg := zp_goods (Y := Y) (F := F) (P := zp_Pw P (fun _ => 0)) hF 7 0 F F _ c5 r5 k4 hL5 p1 (by decide) (by omega) (by omega)
            rcases gg with ⟨c6, r6, m1, m2, m3⟩ | ⟨b, j6, c6, r6, m1, m2, m3, m4, m5, m6, m7⟩
            · rw [show od_takeGoods_4 F Y.1.2.2 F (0 : Int32) (0 : Int32) c5 = some (-1, c6) from m1, show mm_readsGoods_2 F F (0 : Int32) r5 = some (-1, r6) from m2, z_sbind, z_sbind, if_pos (show (-1 : Int32) = -1 from rfl)]
              dsimp only
              rw [z_wr (by omega) (by omega), z_sbind, z_rd (by omega) (by omega), z_sbind, z_sI_same, if_neg (show ¬ (0 : Int32) ≤ -1 by decide)]
              exact ⟨_, c6, _, rfl, rfl, Or.inr ⟨rfl, zp_E_w m3 (zp_KR_I (by omega))⟩⟩
            · have m3 : b < 2 ^ zl_gd P.1 := m3
              have hL6 := zp_L_k2 hL5 (by omega) m6 m7
              have x6 : c6.2.1 (Y.1.2.2 + 3) (zl_pp P.1) = iL (ze 32 u : Nat) := by rw [m6.2.2.1 _ (by omega) (by omega)]; exact x5
              have y4 : r6.1 11 (8 + zl_pp P.1) = nI a := by rw [m7.1 _ (by omega)]; exact y3
              rw [show od_takeGoods_4 F Y.1.2.2 F (0 : Int32) (0 : Int32) c5 = some (nI b, c6) from m1, show mm_readsGoods_2 F F (0 : Int32) r5 = some (nI b, r6) from m2, z_sbind, z_sbind, if_neg (show ¬ nI b = (-1 : Int32) by rw [show (-1 : Int32) = -nI 1 from rfl, z_eqm1 (by omega)]; exact id)]
              dsimp only
              rw [z_wr (by omega) (by omega), z_sbind, z_rd (by omega) (by omega), z_sbind, z_sI_same, if_pos (show (0 : Int32) ≤ nI b by show nI 0 ≤ nI b; rw [z_le (by omega) (by omega)]; omega)]
              have hV6 := zp_V_w m5 zp_KC_refl (zp_KR_I (r := r6) (id := 12) (k := 8 + zl_pp P.1) (v := nI b) (by omega)) (zp_cntq hL6)
              have hL6' := zp_L_r9 (id := 12) (k := 8 + zl_pp P.1) (v := nI b) hL6 (Or.inr (Or.inl ⟨Or.inr rfl, rfl⟩))
              have y5 : (g_sI r6 12 (8 + zl_pp P.1) (nI b)).1 11 (8 + zl_pp P.1) = nI a := by rw [z_sI_id (by omega)]; exact y4
              have y6 : (g_sI r6 12 (8 + zl_pp P.1) (nI b)).1 12 (8 + zl_pp P.1) = nI b := by rw [z_sI_same]
              have pr6 : zp_pr P (fun _ => 0) (g_sI r6 12 (8 + zl_pp P.1) (nI b)) := zp_pr_k pr3' ((z_sI_f (by omega)).trans ((m7.1 13 (by omega)).trans ((k6.1 13 (by omega)).trans (g5.1 13 (by omega)))))
              generalize g_sI r6 12 (8 + zl_pp P.1) (nI b) = r6' at hV6 hL6' y5 y6 pr6
              unfold mm_readsWants
              have ww := zp_wants (Y := Y) (F := F) (P := P) (v3 := nI a) (v4 := nI b) p8 hF 7 0 (fun _ => 0) F F _ c6 r6' hV6 hL6' pr6 p1 (by decide) (by omega) (by omega)
              rcases ww with ⟨c7, r7, o1, o2, o3⟩ | ⟨w2, j7, c7, r7, o1, o2, o3, o4, o5, o6, o7, o8⟩
              · rw [show od_readPerson_84 F Y.1.2.2 (nI (zl_pp P.1)) (nI a) (nI b) F (0 : Int32) (0 : Int32) c6 = _ from o1, show mm_readsWants_2 F (nI (8 + zl_pp P.1)) F (0 : Int32) r6' = _ from o2, z_sbind, if_pos (show (0 : Int32) = 0 from rfl)]
                exact ⟨_, c7, r7, rfl, rfl, Or.inr ⟨rfl, o3⟩⟩
              · rw [show od_readPerson_84 F Y.1.2.2 (nI (zl_pp P.1)) (nI a) (nI b) F (0 : Int32) (0 : Int32) c6 = _ from o1, show mm_readsWants_2 F (nI (8 + zl_pp P.1)) F (0 : Int32) r6' = _ from o2, z_sbind, if_neg zn_p1]
                exact zp_pEnd o4 o5 o6 (by omega) p8 u1 u2 (by rw [o7 _ (by omega)]; exact x6) (by rw [o8 _ (by omega) (by omega)]; exact y5) (by rw [o8 _ (by omega) (by omega)]; exact y6) i1 m3 hF
          · rw [w0, if_pos zn_p0, if_pos zn_p0]
            exact ⟨_, c5, r5, rfl, rfl, Or.inr ⟨rfl, k4⟩⟩
      · rw [w0, if_pos zn_p0, if_pos zn_p0]
        exact ⟨_, c3, r3, rfl, rfl, Or.inr ⟨rfl, f4⟩⟩
