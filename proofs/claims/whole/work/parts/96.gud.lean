/-! Layer 2: a LAND's lines: good -/
theorem zp_L_n2 {bl : Nat} {P : zp_T} {c r : g_St} {x : Int64} (h : zp_L bl P c r) : zp_L bl P (g_sL c (bl + 2) (zl_gd P.1) x) r := by
  obtain ⟨h1, ⟨n1, n2, n3⟩, h3⟩ := h
  refine ⟨h1, ⟨fun i hi => ?_, fun i hi => ?_, fun i hi => ?_⟩, h3⟩
  · rw [zn_sL_f (by omega)]; exact n1 i hi
  · rw [z_sL, if_neg (by omega)]; exact n2 i hi
  · rw [zn_sL_f (by omega)]; exact n3 i hi
theorem zp_L_n3 {bl : Nat} {P : zp_T} {c r : g_St} {x : Int64} (h : zp_L bl P c r) : zp_L bl P (g_sL c (bl + 3) (zl_pp P.1) x) r := by
  obtain ⟨h1, ⟨n1, n2, n3⟩, h3⟩ := h
  refine ⟨h1, ⟨fun i hi => ?_, fun i hi => ?_, fun i hi => ?_⟩, h3⟩
  · rw [zn_sL_f (by omega)]; exact n1 i hi
  · rw [zn_sL_f (by omega)]; exact n2 i hi
  · rw [z_sL, if_neg (by omega)]; exact n3 i hi
theorem zp_L_r9 {bl id k : Nat} {P : zp_T} {c r : g_St} {v : Int32} (h : zp_L bl P c r) (hk : ((id = 9 ∨ id = 10) ∧ k = 6 + zl_gd P.1) ∨ ((id = 11 ∨ id = 12) ∧ k = 8 + zl_pp P.1) ∨ (id = 13 ∧ 18 * (8 + zl_pp P.1) ≤ k)) : zp_L bl P c (g_sI r id k v) := by
  obtain ⟨⟨q1, ⟨q2, q3, q4⟩, q5⟩, hN, hw, hg, hp, hz⟩ := h
  refine ⟨⟨q1, ⟨by rw [z_sI_id (by omega)]; exact q2, by rw [z_sI_id (by omega)]; exact q3, by rw [z_sI_id (by omega)]; exact q4⟩, q5⟩, hN, fun x y hx hy => ?_, fun g hg2 => ?_, fun p hp2 => ?_, hz⟩
  · rw [z_sI, if_neg (by omega)]; exact hw x y hx hy
  · rw [z_sI, z_sI, if_neg (by omega), if_neg (by omega)]; exact hg g hg2
  · rw [z_sI, z_sI, if_neg (by omega), if_neg (by omega)]
    refine ⟨(hp p hp2).1, (hp p hp2).2.1, fun j hj => ?_⟩
    rw [z_sI, if_neg (by omega)]
    exact (hp p hp2).2.2 j hj
theorem zp_gEnd {Y : zp_S} {j j6 F v fr : Nat} {P : zp_T} {u : List Nat} {c r : g_St} (h : zp_V Y j6 c r) (hL : zp_L Y.1.2.2 P c r) (hj : j < j6) (hg : zl_gd P.1 < 6) (u1 : zn_dg u) (u2 : u.length ≤ 8) (hc : c.2.1 (Y.1.2.2 + 2) (zl_gd P.1) = iL (ze 32 u : Nat)) (h9 : r.1 9 (6 + zl_gd P.1) = nI v) (h10 : r.1 10 (6 + zl_gd P.1) = nI fr) (hv : v ≤ 24) (hf : fr < 2 ^ zl_gd P.1) (hz0 : zp_z0 P) (hF : 1100 < F) :
    zp_q Y (od_readGood_80 F Y.1.2.2 (nI (zl_gd P.1)) (nI v) (nI fr) c) (mm_readsGood_138 F (nI (6 + zl_gd P.1)) (iL (ze 27 u : Nat)) r) (zp_Q Y j) := by
  have hb := zp_b7 h.2.2.1
  obtain ⟨⟨e1, e2, e3⟩, ⟨e4, e5, e6⟩, b1, b2, b3⟩ := hL.1
  have p6 : (2 : Nat) ^ zl_gd P.1 ≤ 2 ^ 6 := Nat.pow_le_pow_right (by omega) (by omega)
  unfold od_readGood_80 mm_readsGood_138
  rw [if_neg (show ¬ nI fr = (-1 : Int32) by rw [show (-1 : Int32) = -nI 1 from rfl, z_eqm1 (by omega)]; exact id), z_wl (by omega) (by omega), z_sbind, show g_rd (g_sL r 6 (6 + zl_gd P.1) (iL (ze 27 u : Nat))) 3 2 (1 : Int32) = some (nI (zl_gd P.1)) from (z_rd (i := 1) (n := 2) (by omega) (by omega)).trans (congrArg some e5), z_sbind, nI_1, show g_wr (g_sL r 6 (6 + zl_gd P.1) (iL (ze 27 u : Nat))) 3 2 (1 : Int32) (nI (zl_gd P.1 + 1)) = some (g_sI (g_sL r 6 (6 + zl_gd P.1) (iL (ze 27 u : Nat))) 3 1 (nI (zl_gd P.1 + 1))) from z_wr (i := 1) (n := 2) (by omega) (by omega), z_sbind]
  have kr : zp_KR r (g_sI (g_sL r 6 (6 + zl_gd P.1) (iL (ze 27 u : Nat))) 3 1 (nI (zl_gd P.1 + 1))) := zp_KR_t (zp_KR_L (by omega)) (zp_KR_I (by omega))
  have hV := zp_V_w h zp_KC_refl kr ⟨_, b1, e1⟩
  obtain ⟨w, c2, r2, k1, k2, k3⟩ := zp_ends hV hF
  rw [k1, k2, z_sbind, z_sbind]
  rcases k3 with ⟨w1, k4, k5, k6⟩ | ⟨w0, k4⟩
  · have f1 : c2.1 Y.1.2.2 1 = nI (zl_gd P.1) := by rw [k5.1 _ (by omega) (by omega) (by omega)]; exact e2
    rw [w1, if_neg zn_p1]
    dsimp only
    rw [z_wr (by omega) (by omega), z_sbind, z_wr (by omega) (by omega), z_sbind, z_sbind, z_sI_id (by omega), z_sI_id (by omega), f1, nI_1]
    have hL2 : zp_L Y.1.2.2 (((zl_pl P.1, zl_gd P.1 + 1, zl_pp P.1), (P.1.2.1, (fun g => if g = zl_gd P.1 then v else zl_hr P.1 g), (fun g => if g = zl_gd P.1 then fr else zl_fr P.1 g), P.1.2.2.2.2)), P.2.1, (fun i => if i = zl_gd P.1 then u else P.2.2.1 i), P.2.2.2) (g_sI (g_sI (g_sI c2 (Y.1.2.2 + 10) (zl_gd P.1) (nI v)) (Y.1.2.2 + 11) (zl_gd P.1) (nI fr)) Y.1.2.2 1 (nI (zl_gd P.1 + 1))) r2 := by
      refine zp_L_k (c := g_sI (g_sI (g_sI c (Y.1.2.2 + 10) (zl_gd P.1) (nI v)) (Y.1.2.2 + 11) (zl_gd P.1) (nI fr)) Y.1.2.2 1 (nI (zl_gd P.1 + 1))) (r := g_sI (g_sL r 6 (6 + zl_gd P.1) (iL (ze 27 u : Nat))) 3 1 (nI (zl_gd P.1 + 1))) ?_ (by omega) (fun id q => ⟨?_, k5.2.2.1 id (by omega) (by omega)⟩) (fun id q => ⟨k6.1 id (by omega), k6.2.2.1 id (by omega)⟩)
      · obtain ⟨-, ⟨n1, n2, n3⟩, hw, hg2, hp, hz⟩ := hL
        refine ⟨⟨⟨by simp (disch := omega) only [z_sI_id, z_sI_k]; exact e1, by rw [z_sI_same]; rfl, by simp (disch := omega) only [z_sI_id, z_sI_k]; exact e3⟩, ⟨by simp (disch := omega) only [z_sI_id, z_sI_k]; exact e4, by rw [z_sI_same]; rfl, by simp (disch := omega) only [z_sI_id, z_sI_k]; exact e6⟩, b1, by show zl_gd P.1 + 1 ≤ 6; omega, b3⟩, ⟨?_, ?_, ?_⟩, ?_, ?_, ?_, ?_⟩
        · intro i hi; simp only [z_sI_2]; rw [zn_sL_f (by omega)]; exact n1 i hi
        · intro i hi
          have hi : i < zl_gd P.1 + 1 := hi
          simp only [z_sI_2]
          rw [z_sL]
          show zn_dg (if i = zl_gd P.1 then u else P.2.2.1 i) ∧ (if i = zl_gd P.1 then u else P.2.2.1 i).length ≤ 8 ∧ _ = iL (ze 32 (if i = zl_gd P.1 then u else P.2.2.1 i) : Nat) ∧ _ = iL (ze 27 (if i = zl_gd P.1 then u else P.2.2.1 i) : Nat)
          by_cases e : i = zl_gd P.1
          · rw [if_pos e, if_pos ⟨rfl, by rw [e]⟩, e]; exact ⟨u1, u2, hc, rfl⟩
          · rw [if_neg e, if_neg (fun q => by omega)]; exact n2 i (by omega)
        · intro i hi; simp only [z_sI_2]; rw [zn_sL_f (by omega)]; exact n3 i hi
        · intro x y hx hy
          simp (disch := omega) only [z_sI_id]
          exact hw x y hx hy
        · intro g hg3
          have hg3 : g < zl_gd P.1 + 1 := hg3
          simp (disch := omega) only [z_sI_id]
          show ((if g = zl_gd P.1 then v else zl_hr P.1 g) ≤ 24 ∧ (if g = zl_gd P.1 then fr else zl_fr P.1 g) < 2 ^ g) ∧ _ = nI (if g = zl_gd P.1 then v else zl_hr P.1 g) ∧ _ = nI (if g = zl_gd P.1 then fr else zl_fr P.1 g) ∧ _ = nI (if g = zl_gd P.1 then v else zl_hr P.1 g) ∧ _ = nI (if g = zl_gd P.1 then fr else zl_fr P.1 g)
          by_cases e : g = zl_gd P.1
          · rw [if_pos e, if_pos e, e, z_sI_same, z_sI_same]; exact ⟨⟨hv, hf⟩, rfl, rfl, h9, h10⟩
          · rw [if_neg e, if_neg e, z_sI_k e, z_sI_k e, z_sI_id (by omega)]; exact hg2 g (by omega)
        · intro p hp2
          simp (disch := omega) only [z_sI_id]
          have hp3 := hp p hp2
          refine ⟨⟨hp3.1.1, ?_⟩, hp3.2.1, fun j hj => ?_⟩
          · show zl_mk P.1 p < 2 ^ (zl_gd P.1 + 1)
            have := hp3.1.2
            rw [Nat.pow_succ]; omega
          · exact hp3.2.2 j hj
        · intro p q1 q2 j hj
          have hz2 := hz p q1 q2 j hj
          simp (disch := omega) only [z_sI_id]
          exact hz2
      · have k := fun (x : Nat) (q : 6 < x) => k5.1 x (by omega) (by omega) (by omega)
        refine z_sI_cg ?_ ?_
        · exact z_sI_cg (z_sI_cg (k _ (by omega)) (k _ (by omega))) (z_sI_cg (k _ (by omega)) (k _ (by omega)))
        · exact z_sI_cg (z_sI_cg (k _ (by omega)) (k _ (by omega))) (z_sI_cg (k _ (by omega)) (k _ (by omega)))
    have hV2 := zp_V_w k4 (zp_KC_t (zp_KC_t (zp_KC_I (id := Y.1.2.2 + 10) (k := zl_gd P.1) (v := nI v) (by omega)) (zp_KC_I (id := Y.1.2.2 + 11) (k := zl_gd P.1) (v := nI fr) (by omega))) (zp_KC_I (id := Y.1.2.2) (k := 1) (v := nI (zl_gd P.1 + 1)) (by omega))) zp_KR_refl (zp_cntq hL2)
    refine ⟨nI 1, _, r2, rfl, ?_, Or.inl ⟨rfl, _, _, ?_, hV2, hL2, hz0⟩⟩
    · show some (nI 1 &&& (1 : Int32), _) = _
      rw [zn_a1]
    · have := zp_n_ge (Y := Y) (j := j6); omega
  · rw [w0, if_pos zn_p0]
    refine ⟨nI 0, c2, r2, rfl, ?_, Or.inr ⟨rfl, k4⟩⟩
    show some (nI 0 &&& (1 : Int32), _) = _
    rw [zn_a0]
theorem zp_rGood {Y : zp_S} {j F : Nat} {P : zp_T} {c r : g_St} (h : zp_V Y j c r) (hL : zp_L Y.1.2.2 P c r) (hz0 : zp_z0 P) (hk : zn_k (zp_t Y j) = 2) (hF : 1100 < F) : zp_q Y (od_readLine F Y.1.2.2 c) (mm_readsGood F r) (zp_Q Y j) := by
  have hb := zp_b7 h.2.2.1
  have h8 : c.1 1 8 = nI (zn_k (zp_t Y j)) := h.1.2.2.2.2.2.2.1
  have nj := zp_n_lt h (by omega)
  obtain ⟨⟨e1, e2, e3⟩, ⟨e4, e5, e6⟩, b1, b2, b3⟩ := hL.1
  unfold od_readLine mm_readsGood
  rw [h8, hk, if_neg (show ¬ nI 2 = (0 : Int32) by decide), if_neg (show ¬ nI 2 = (1 : Int32) by decide), if_pos (show nI 2 = (2 : Int32) from rfl), e2, show g_rd r 3 2 (1 : Int32) = some (nI (zl_gd P.1)) from (z_rd (i := 1) (n := 2) (by omega) (by omega)).trans (congrArg some e5), z_sbind]
  by_cases q6 : zl_gd P.1 = 6
  · rw [if_neg (show ¬ nI _ < (6 : Int32) by show ¬ nI _ < nI 6; rw [z_lt (by omega) (by omega)]; omega), if_pos (show nI _ = (6 : Int32) by show nI _ = nI 6; rw [z_eq (by omega) (by omega)]; exact q6)]
    exact zp_q_and2 (zp_q_and (zp_q_bad (f := 5) h (by omega)))
  · rw [if_pos (show nI _ < (6 : Int32) by show nI _ < nI 6; rw [z_lt (by omega) (by omega)]; omega), if_neg (show ¬ nI _ = (6 : Int32) by show ¬ nI _ = nI 6; rw [z_eq (by omega) (by omega)]; exact q6)]
    refine zp_q_and ?_
    obtain ⟨c1, r1, a1, a2, a3, a4, a5⟩ := zp_adv h hF
    have hL1 := zp_L_k2 hL (by omega) a4 a5
    have e51 : r1.1 3 1 = nI (zl_gd P.1) := hL1.1.2.1.2.1
    unfold od_readGood
    rw [a1, z_sbind, a2, z_sbind, e2]
    rcases zp_new (F := F) (a := Y.1.2.2 + 2) (na := 6) (idx := zl_gd P.1) a3 hL1 (by omega) (by omega) hF with ⟨c2, r2, n1, n2, n3⟩ | ⟨u, u1, u2, u3, u4, u5⟩
    · rw [n1, z_sbind, if_pos zn_p0, n2, z_sbind, if_pos zn_p0]
      exact ⟨_, c2, r2, rfl, rfl, Or.inr ⟨rfl, n3⟩⟩
    · rw [u4, u5, z_sbind, if_neg zn_p1]
      dsimp only
      rw [show g_rd r1 3 2 (1 : Int32) = some (nI (zl_gd P.1)) from (z_rd (i := 1) (n := 2) (by omega) (by omega)).trans (congrArg some e51), z_sbind, u3]
      have hV1 := zp_V_w a3 (zp_KC_L (k := zl_gd P.1) (v := iL (ze 32 u : Nat)) (show Y.1.2.2 ≤ Y.1.2.2 + 2 ∧ Y.1.2.2 + 2 < Y.1.2.2 + 23 by omega)) zp_KR_refl ⟨_, b1, hL1.1.1.1⟩
      have hL1' := zp_L_n2 (x := iL (ze 32 u : Nat)) hL1
      have x1 : (g_sL c1 (Y.1.2.2 + 2) (zl_gd P.1) (iL (ze 32 u : Nat))).2.1 (Y.1.2.2 + 2) (zl_gd P.1) = iL (ze 32 u : Nat) := by rw [z_sL, if_pos ⟨rfl, rfl⟩]
      generalize g_sL c1 (Y.1.2.2 + 2) (zl_gd P.1) (iL (ze 32 u : Nat)) = c1' at hV1 hL1' x1
      obtain ⟨c2, r2, d1, d2, d3, d4, d5⟩ := zp_adv hV1 hF
      have hL2 := zp_L_k2 hL1' (by omega) d4 d5
      have x2 : c2.2.1 (Y.1.2.2 + 2) (zl_gd P.1) = iL (ze 32 u : Nat) := by rw [d4.2.2.1 _ (by omega) (by omega)]; exact x1
      rw [d1, d2, z_sbind, z_sbind, z_sbind, if_neg zn_p1]
      dsimp only
      obtain ⟨w, c3, r3, f1, f2, f3⟩ := zp_word (i := 3) (F := F) d3 (by omega) hF
      rw [show ot_take (3 : Int32) c2 = some (w, c3) from f1, show mm_needsWord F (4562587 : Int64) r2 = some (w, r3) from f2, z_sbind, z_sbind]
      rcases f3 with ⟨w1, f4, f5, f6⟩ | ⟨w0, f4⟩
      · rw [w1, if_neg zn_p1, if_neg zn_p1]
        dsimp only
        have hL3 := zp_L_k2 hL2 (by omega) f5 f6
        have x3 : c3.2.1 (Y.1.2.2 + 2) (zl_gd P.1) = iL (ze 32 u : Nat) := by rw [f5.2.2.1 _ (by omega) (by omega)]; exact x2
        rcases zp_num124 f4 with ⟨c4, r4, n1, n2, n3⟩ | ⟨v, v1, v2, v3, v4, v5⟩
        · rw [n1, z_sbind, if_pos (show (-1 : Int32) = -1 from rfl), n2, z_sbind, if_pos zn_p0]
          exact ⟨_, c4, r4, rfl, rfl, Or.inr ⟨rfl, n3⟩⟩
        · rw [v4, v5, z_sbind, if_neg zn_p1]
          dsimp only
          rw [v3, show (6 : Int32) = nI 6 from rfl, nI_add, z_wr (by omega) (by omega), z_sbind, z_wr (by omega) (by omega), z_sbind]
          have kr : zp_KR r3 (g_sI (g_sI r3 9 (6 + zl_gd P.1) (nI v)) 10 (6 + zl_gd P.1) (0 : Int32)) := zp_KR_t (zp_KR_I (by omega)) (zp_KR_I (by omega))
          have hV3 := zp_V_w f4 zp_KC_refl kr (zp_cntq hL3)
          have hL3' := zp_L_r9 (id := 10) (k := 6 + zl_gd P.1) (v := (0 : Int32)) (zp_L_r9 (id := 9) (k := 6 + zl_gd P.1) (v := nI v) hL3 (by omega)) (by omega)
          have y1 : (g_sI (g_sI r3 9 (6 + zl_gd P.1) (nI v)) 10 (6 + zl_gd P.1) (0 : Int32)).1 9 (6 + zl_gd P.1) = nI v := by rw [z_sI_id (by omega), z_sI_same]
          have y2 : (g_sI (g_sI r3 9 (6 + zl_gd P.1) (nI v)) 10 (6 + zl_gd P.1) (0 : Int32)).1 10 (6 + zl_gd P.1) = nI 0 := by rw [z_sI_same]; rfl
          generalize g_sI (g_sI r3 9 (6 + zl_gd P.1) (nI v)) 10 (6 + zl_gd P.1) (0 : Int32) = r3' at hV3 hL3' y1 y2
          obtain ⟨c4, r4, g1, g2, g3, g4, g5⟩ := zp_adv hV3 hF
          have hL4 := zp_L_k2 hL3' (by omega) g4 g5
          have x4 : c4.2.1 (Y.1.2.2 + 2) (zl_gd P.1) = iL (ze 32 u : Nat) := by rw [g4.2.2.1 _ (by omega) (by omega)]; exact x3
          have y3 : r4.1 9 (6 + zl_gd P.1) = nI v := by rw [g5.1 _ (by omega)]; exact y1
          have y4 : r4.1 10 (6 + zl_gd P.1) = nI 0 := by rw [g5.1 _ (by omega)]; exact y2
          rw [g1, g2, z_sbind, z_sbind, z_sbind, if_neg (show ¬ nI v = (-1 : Int32) by rw [show (-1 : Int32) = -nI 1 from rfl, z_eqm1 (by omega)]; exact id)]
          have kd := zp_V_kd g3
          have k4 := zn_kd_lt kd
          have k8 : c4.1 1 8 = nI (zn_k (zp_t Y (zp_n Y (zp_n Y (zp_n Y (zp_n Y j)))))) := g3.1.2.2.2.2.2.2.1
          have ha : zn_at (zp_t Y (zp_n Y (zp_n Y (zp_n Y (zp_n Y j))))) r4 := g3.2.1.2.2.2
          have q1 := zp_n_ge (Y := Y) (j := zp_n Y j)
          have q2 := zp_n_ge (Y := Y) (j := zp_n Y (zp_n Y j))
          have q3 := zp_n_ge (Y := Y) (j := zp_n Y (zp_n Y (zp_n Y j)))
          have p64 : (2 : Nat) ^ zl_gd P.1 ≤ 2 ^ 6 := Nat.pow_le_pow_right (by omega) (by omega)
          have p1 : 0 < (2 : Nat) ^ zl_gd P.1 := Nat.two_pow_pos _
          dsimp only
          rw [show mm_isWord r4 (131638 : Int64) = some (if zn_k (zp_t Y (zp_n Y (zp_n Y (zp_n Y (zp_n Y j))))) = 4 then nI 1 else nI 0) from zn_isWord (i := 4) ha kd (by omega), z_sbind, k8]
          by_cases fr : zn_k (zp_t Y (zp_n Y (zp_n Y (zp_n Y (zp_n Y j))))) = 4
          · rw [if_pos (show nI _ = (4 : Int32) by show nI _ = nI 4; rw [fr]), if_pos fr, if_neg zn_p1]
            obtain ⟨c5, r5, i1, i2, i3, i4, i5⟩ := zp_adv g3 hF
            have hL5 := zp_L_k2 hL4 (by omega) i4 i5
            have x5 : c5.2.1 (Y.1.2.2 + 2) (zl_gd P.1) = iL (ze 32 u : Nat) := by rw [i4.2.2.1 _ (by omega) (by omega)]; exact x4
            have y5 : r5.1 9 (6 + zl_gd P.1) = nI v := by rw [i5.1 _ (by omega)]; exact y3
            rw [i1, i2, z_sbind, z_sbind]
            have q4 := zp_n_ge (Y := Y) (j := zp_n Y (zp_n Y (zp_n Y (zp_n Y j))))
            unfold od_takeGoods mm_readsGoods
            have gg := zp_goods (Y := Y) (F := F) (P := P) hF 7 0 F F _ c5 r5 i3 hL5 p1 (by decide) (by omega) (by omega)
            rcases gg with ⟨c6, r6, m1, m2, m3⟩ | ⟨b, j6, c6, r6, m1, m2, m3, m4, m5, m6, m7⟩
            · rw [show od_takeGoods_4 F Y.1.2.2 F (0 : Int32) (0 : Int32) c5 = some (-1, c6) from m1, show mm_readsGoods_2 F F (0 : Int32) r5 = some (-1, r6) from m2, z_sbind, z_sbind, if_neg (show ¬ (-1 : Int32) = 0 by decide), if_pos (show (-1 : Int32) < 0 by decide)]
              unfold od_readGood_80
              rw [if_pos (show (-1 : Int32) = -1 from rfl)]
              exact ⟨_, c6, r6, rfl, rfl, Or.inr ⟨rfl, m3⟩⟩
            · have hL6 := zp_L_k2 hL5 (by omega) m6 m7
              have x6 : c6.2.1 (Y.1.2.2 + 2) (zl_gd P.1) = iL (ze 32 u : Nat) := by rw [m6.2.2.1 _ (by omega) (by omega)]; exact x5
              have y6 : r6.1 9 (6 + zl_gd P.1) = nI v := by rw [m7.1 _ (by omega)]; exact y5
              rw [show od_takeGoods_4 F Y.1.2.2 F (0 : Int32) (0 : Int32) c5 = some (nI b, c6) from m1, show mm_readsGoods_2 F F (0 : Int32) r5 = some (nI b, r6) from m2, z_sbind, z_sbind, if_neg (show ¬ nI b < (0 : Int32) by show ¬ nI b < nI 0; rw [z_lt (by omega) (by omega)]; omega)]
              by_cases b0 : b = 0
              · rw [if_pos (show nI b = (0 : Int32) by rw [b0]; rfl), if_pos (show nI b = (0 : Int32) by rw [b0]; rfl)]
                exact zp_q_and2 (zp_q_and (zp_q_bad (f := 1) m5 (by omega)))
              · rw [if_neg (show ¬ nI b = (0 : Int32) by show ¬ nI b = nI 0; rw [z_eq (by omega) (by omega)]; exact b0), if_neg (show ¬ nI b = (0 : Int32) by show ¬ nI b = nI 0; rw [z_eq (by omega) (by omega)]; exact b0)]
                dsimp only
                rw [z_wr (by omega) (by omega), z_sbind]
                have hV6 := zp_V_w m5 zp_KC_refl (zp_KR_I (r := r6) (id := 10) (k := 6 + zl_gd P.1) (v := nI b) (by omega)) (zp_cntq hL6)
                have hL6' := zp_L_r9 (id := 10) (k := 6 + zl_gd P.1) (v := nI b) hL6 (by omega)
                exact zp_gEnd hV6 hL6' (by omega) (by omega) u1 u2 x6 (by rw [z_sI_id (by omega)]; exact y6) (by rw [z_sI_same]) v2 m3 hz0 hF
          · rw [if_neg (show ¬ nI _ = (4 : Int32) by show ¬ nI _ = nI 4; rw [z_eq (by omega) (by omega)]; exact fr), if_neg fr, if_pos zn_p0]
            exact zp_gEnd (fr := 0) g3 hL4 (by omega) (by omega) u1 u2 x4 y3 y4 v2 p1 hz0 hF
      · rw [w0, if_pos zn_p0, if_pos zn_p0]
        exact ⟨_, c3, r3, rfl, rfl, Or.inr ⟨rfl, f4⟩⟩
