/-! Layer 2: a LAND's lines: way; GOODS one behind the other -/
theorem zp_bit2 : ∀ a, a < 8 → ∀ i, i < 8 → z_bit (2 ^ a) i = if i = a then 1 else 0 := by decide +kernel
theorem zp_num124 {Y : zp_S} {j : Nat} {c r : g_St} (h : zp_V Y j c r) :
    (∃ c2 r2, ot_takeNumber (1 : Int32) (24 : Int32) c = some (-1, c2) ∧ mm_needsNumber (1 : Int32) (24 : Int32) r = some (nI 0, r2) ∧ zp_E Y c2 r2) ∨
    (∃ v, 1 ≤ v ∧ v ≤ 24 ∧ r.1 0 8 = nI v ∧ mm_needsNumber (1 : Int32) (24 : Int32) r = some (nI 1, r) ∧ ot_takeNumber (1 : Int32) (24 : Int32) c = (ot_advance c).bind fun μ => some (nI v, μ)) := zp_num (lo := 1) (hi := 24) h (by omega) (by omega)
theorem zp_rWay {Y : zp_S} {j F : Nat} {P : zp_T} {c r : g_St} (h : zp_V Y j c r) (hL : zp_L Y.1.2.2 P c r) (hz0 : zp_z0 P) (hk : zn_k (zp_t Y j) = 1) (hF : 1100 < F) : zp_q Y (od_readLine F Y.1.2.2 c) (mm_readsWay F r) (zp_Q Y j) := by
  have hb := zp_b7 h.2.2.1
  have h8 : c.1 1 8 = nI (zn_k (zp_t Y j)) := h.1.2.2.2.2.2.2.1
  have nj := zp_n_lt h (by omega)
  unfold od_readLine mm_readsWay
  rw [h8, hk, if_neg zn_p1, if_pos (show nI 1 = (1 : Int32) from rfl)]
  refine zp_q_and ?_
  obtain ⟨c1, r1, a1, a2, a3, a4, a5⟩ := zp_adv h hF
  have hL1 := zp_L_k2 hL (by omega) a4 a5
  have b1 := hL1.1.2.2.1
  unfold od_readWay
  rw [a1, z_sbind, a2, z_sbind, hL1.1.1.1]
  have tp : zp_told Y c1 r1 (od_takeTold F (Y.1.2.2 + 1) 5 (nI (zl_pl P.1)) (0 : Int32) c1) (mm_needsPlace F r1) (mm_placeOf F r1) (zl_pl P.1) 0 := zp_tPlace (F := F) (tk := 0) a3 hL1 (by omega) hF
  rcases tp with ⟨c2, r2, n1, n2, n3⟩ | ⟨i, i1, i2, i3, i4, i5⟩ | ⟨a, i1, i2, i3, i4, i5⟩
  · rw [n1, z_sbind, if_pos (show (-1 : Int32) = -1 from rfl), n2, z_sbind, if_pos zn_p0]
    exact ⟨_, c2, r2, rfl, rfl, Or.inr ⟨rfl, n3⟩⟩
  · rw [show z_bit 0 i = 0 by unfold z_bit; simp] at i2; omega
  · obtain ⟨c2, r2, d1, d2, d3, d4, d5⟩ := zp_adv a3 hF
    have hL2 := zp_L_k2 hL1 (by omega) d4 d5
    rw [i3, d1, z_sbind, z_sbind, if_neg (show ¬ nI a = (-1 : Int32) by rw [show (-1 : Int32) = -nI 1 from rfl, z_eqm1 (by omega)]; exact id), i4, z_sbind, if_neg zn_p1, i5, z_sbind, d2, z_sbind]
    dsimp only
    have es : (1 : Int32) <<< (nI a &&& 31) = nI (2 ^ a) := by simp (disch := omega) only [↓reduceIte, nI_lit, z_sbind, z_rd, z_rl, z_rr, z_wr, z_wl, nI_add, z_mul, z_lt, z_le, z_eq, z_ltm1, z_m1lt, z_eqm1, z_m1eq, z_lem1, z_m1le, if_true, if_false, ite_true, ite_false, z_and, z_or, z_xor, z_n31, z_shr, z_shl1, z_bit_and, z_andn]
    rw [es, hL2.1.1.1]
    have p8 : (2 : Nat) ^ a ≤ 2 ^ 5 := Nat.pow_le_pow_right (by omega) (by omega)
    rcases zp_tPlace (F := F) (tk := 2 ^ a) d3 hL2 (by omega) hF with ⟨c3, r3, n1, n2, n3⟩ | ⟨b, j1, j2, j3, j4, j5⟩ | ⟨b, j1, j2, j3, j4, j5⟩
    · rw [n1, z_sbind, if_pos (show (-1 : Int32) = -1 from rfl), n2, z_sbind, if_pos zn_p0]
      exact ⟨_, c3, r3, rfl, rfl, Or.inr ⟨rfl, n3⟩⟩
    · rw [zp_bit2 a (by omega) b (by omega)] at j2
      have eb : b = a := by
        by_cases e : b = a
        · exact e
        · rw [if_neg e] at j2; omega
      rw [j3, (zp_wr d3 3).1, z_sbind, z_sbind, if_pos (show (-1 : Int32) = -1 from rfl), j4, z_sbind, if_neg zn_p1, j5, z_sbind, if_pos (by rw [eb]), show mm_fails (3 : Int32) r2 = _ from (zp_wr d3 3).2, z_sbind]
      refine ⟨_, _, _, rfl, ?_, Or.inr ⟨rfl, zp_bad (f := 3) d3 (by omega)⟩⟩
      show some (nI 0 &&& (1 : Int32), _) = _
      rw [zn_a0]
      rfl
    · rw [zp_bit2 a (by omega) b (by omega)] at j2
      have eb : ¬ b = a := by
        intro e; rw [if_pos e] at j2; omega
      obtain ⟨c3, r3, f1, f2, f3, f4, f5⟩ := zp_adv d3 hF
      have hL3 := zp_L_k2 hL2 (by omega) f4 f5
      rw [j3, f1, z_sbind, z_sbind, if_neg (show ¬ nI b = (-1 : Int32) by rw [show (-1 : Int32) = -nI 1 from rfl, z_eqm1 (by omega)]; exact id), j4, z_sbind, if_neg zn_p1, j5, z_sbind, if_neg (show ¬ nI a = nI b by rw [z_eq (by omega) (by omega)]; omega), f2, z_sbind]
      dsimp only
      rcases zp_num124 f3 with ⟨c4, r4, n1, n2, n3⟩ | ⟨v, v1, v2, v3, v4, v5⟩
      · rw [n1, z_sbind, if_pos (show (-1 : Int32) = -1 from rfl), n2, z_sbind, if_pos zn_p0]
        exact ⟨_, c4, r4, rfl, rfl, Or.inr ⟨rfl, n3⟩⟩
      · rw [v4, z_sbind, if_neg zn_p1]
        dsimp only
        rw [v3, show (25 : Int32) = nI 25 from rfl, show (5 : Int32) = nI 5 from rfl, z_mul, z_mul, nI_add, nI_add, nI_add, nI_add, z_wr (by omega) (by omega), z_sbind, z_sI_id (by omega), v3, z_wr (by omega) (by omega), z_sbind]
        have kr : zp_KR r3 (g_sI (g_sI r3 8 (25 + 5 * a + b) (nI v)) 8 (25 + 5 * b + a) (nI v)) := zp_KR_t (zp_KR_I (by omega)) (zp_KR_I (by omega))
        have hV4 := zp_V_w f3 zp_KC_refl kr (zp_cntq hL3)
        obtain ⟨c4, r4, g1, g2, g3, g4, g5⟩ := zp_adv hV4 hF
        rw [v5, g1, g2, z_sbind, z_sbind, z_sbind, if_neg (show ¬ nI v = (-1 : Int32) by rw [show (-1 : Int32) = -nI 1 from rfl, z_eqm1 (by omega)]; exact id), z_rr (by omega) (by omega), z_sbind, z_wr (by omega) (by omega), z_sbind, z_rr (by omega) (by omega), z_sbind, z_wr (by omega) (by omega), z_sbind]
        have hL4 : zp_L Y.1.2.2 ((P.1.1, (fun x y => if (x = a ∧ y = b) ∨ (x = b ∧ y = a) then v else zl_wy P.1 x y), P.1.2.2), P.2) (g_sI (g_sI c4 (Y.1.2.2 + 5 + a) b (nI v)) (Y.1.2.2 + 5 + b) a (nI v)) r4 := by
          refine zp_L_k (c := g_sI (g_sI c3 (Y.1.2.2 + 5 + a) b (nI v)) (Y.1.2.2 + 5 + b) a (nI v)) (r := g_sI (g_sI r3 8 (25 + 5 * a + b) (nI v)) 8 (25 + 5 * b + a) (nI v)) ?_ (by omega) (fun id q => ⟨?_, g4.2.2.1 id (by omega) (by omega)⟩) (fun id q => ⟨g5.1 id (by omega), g5.2.2.1 id (by omega)⟩)
          · obtain ⟨⟨⟨x1, x2, x3⟩, ⟨x4, x5, x6⟩, x7⟩, ⟨n1, n2, n3⟩, hw, hg, hp, hz⟩ := hL3
            refine ⟨⟨⟨by rw [z_sI_id (by omega), z_sI_id (by omega)]; exact x1, by rw [z_sI_id (by omega), z_sI_id (by omega)]; exact x2, by rw [z_sI_id (by omega), z_sI_id (by omega)]; exact x3⟩, ⟨by rw [z_sI_id (by omega), z_sI_id (by omega)]; exact x4, by rw [z_sI_id (by omega), z_sI_id (by omega)]; exact x5, by rw [z_sI_id (by omega), z_sI_id (by omega)]; exact x6⟩, x7⟩, ⟨n1, n2, n3⟩, ?_, ?_, ?_, ?_⟩
            · intro x y hx hy
              have hw := hw x y hx hy
              show (if (x = a ∧ y = b) ∨ (x = b ∧ y = a) then v else zl_wy P.1 x y) ≤ 999 ∧ _ = nI (if (x = a ∧ y = b) ∨ (x = b ∧ y = a) then v else zl_wy P.1 x y) ∧ _ = nI (if (x = a ∧ y = b) ∨ (x = b ∧ y = a) then v else zl_wy P.1 x y) ∧ (zl_pl P.1 ≤ x ∨ zl_pl P.1 ≤ y ∨ x = y → (if (x = a ∧ y = b) ∨ (x = b ∧ y = a) then v else zl_wy P.1 x y) = _)
              by_cases e : (x = a ∧ y = b) ∨ (x = b ∧ y = a)
              · rw [if_pos e]
                refine ⟨by omega, ?_, ?_, fun q => by omega⟩
                · rw [z_sI]
                  by_cases e2 : x = b ∧ y = a
                  · rw [if_pos ⟨by rw [e2.1], e2.2⟩]
                  · rw [if_neg (fun q => e2 ⟨by omega, q.2⟩), z_sI, if_pos (by omega)]
                · rw [z_sI]
                  by_cases e2 : x = b ∧ y = a
                  · rw [if_pos ⟨rfl, by omega⟩]
                  · rw [if_neg (fun q => by omega), z_sI, if_pos (by omega)]
              · rw [if_neg e]
                refine ⟨hw.1, ?_, ?_, hw.2.2.2⟩
                · rw [z_sI, if_neg (by omega), z_sI, if_neg (by omega)]; exact hw.2.1
                · rw [z_sI, if_neg (by omega), z_sI, if_neg (by omega)]; exact hw.2.2.1
            · intro g hg2; rw [z_sI_id (by omega), z_sI_id (by omega), z_sI_id (by omega), z_sI_id (by omega), z_sI_id (by omega), z_sI_id (by omega), z_sI_id (by omega), z_sI_id (by omega)]; exact hg g hg2
            · intro p hp2
              have hp3 := hp p hp2
              rw [z_sI_id (by omega), z_sI_id (by omega), z_sI_id (by omega), z_sI_id (by omega), z_sI_id (by omega), z_sI_id (by omega), z_sI_id (by omega), z_sI_id (by omega)]
              refine ⟨hp3.1, hp3.2.1, fun j hj => ?_⟩
              rw [z_sI_id (by omega), z_sI_id (by omega), z_sI_id (by omega), z_sI_id (by omega)]; exact hp3.2.2 j hj
            · intro p q1 q2 j hj; rw [z_sI_id (by omega), z_sI_id (by omega)]; exact hz p q1 q2 j hj
          · refine z_sI_cg ?_ ?_
            · exact z_sI_cg (g4.1 _ (by omega) (by omega) (by omega)) (g4.1 _ (by omega) (by omega) (by omega))
            · exact z_sI_cg (g4.1 _ (by omega) (by omega) (by omega)) (g4.1 _ (by omega) (by omega) (by omega))
        have hV5 := zp_V_w g3 (zp_KC_t (zp_KC_I (id := Y.1.2.2 + 5 + a) (k := b) (v := nI v) (by omega)) (zp_KC_I (id := Y.1.2.2 + 5 + b) (k := a) (v := nI v) (by omega))) zp_KR_refl (zp_cntq hL4)
        obtain ⟨w, c5, r5, k1, k2, k3⟩ := zp_q_and2 (zp_q_and (zp_ends hV5 hF))
        refine ⟨w, c5, r5, k1, k2, k3.imp (fun q => ⟨q.1, _, _, ?_, q.2.1, zp_L_k2 hL4 (by omega) q.2.2.1 q.2.2.2, hz0⟩) id⟩
        have q1 := zp_n_ge (Y := Y) (j := zp_n Y j)
        have q2 := zp_n_ge (Y := Y) (j := zp_n Y (zp_n Y j))
        have q3 := zp_n_ge (Y := Y) (j := zp_n Y (zp_n Y (zp_n Y j)))
        have q4 := zp_n_ge (Y := Y) (j := zp_n Y (zp_n Y (zp_n Y (zp_n Y j))))
        omega
/-- GOODS -/
theorem zp_bb : ∀ b, b < 64 → ∀ i, i < 6 → ((0 < b &&& 2 ^ i) ↔ z_bit b i = 1) ∧ (z_bit b i = 0 → z_pc (b ||| 2 ^ i) = z_pc b + 1) ∧ b ||| 2 ^ i < 64 := by decide +kernel
theorem zp_p6 : ∀ b, b < 64 → z_pc b ≤ 6 := by decide +kernel
theorem zp_bt {g b i : Nat} (hb : b < 2 ^ g) (hi : i < g) : b ||| 2 ^ i < 2 ^ g := Nat.or_lt_two_pow hb (Nat.pow_lt_pow_right (by omega) hi)
theorem zp_goods {Y : zp_S} {F : Nat} {P : zp_T} (hF : 1100 < F) : ∀ (k b f g j : Nat) (c r : g_St), zp_V Y j c r → zp_L Y.1.2.2 P c r → b < 2 ^ zl_gd P.1 → 6 - z_pc b < k → k ≤ f → k ≤ g →
    (∃ c2 r2, od_takeGoods_4 F Y.1.2.2 f (nI b) (nI (z_pc b)) c = some (-1, c2) ∧ mm_readsGoods_2 F g (nI b) r = some (-1, r2) ∧ zp_E Y c2 r2) ∨
    (∃ b2 j2 c2 r2, od_takeGoods_4 F Y.1.2.2 f (nI b) (nI (z_pc b)) c = some (nI b2, c2) ∧ mm_readsGoods_2 F g (nI b) r = some (nI b2, r2) ∧ b2 < 2 ^ zl_gd P.1 ∧ j ≤ j2 ∧ zp_V Y j2 c2 r2 ∧ zn_kC c c2 ∧ zn_kR r r2) := by
  intro k
  induction k with
  | zero => intro b f g j c r _ _ _ h; omega
  | succ k ih =>
    intro b f g j c r h hL hb hk hf hg
    obtain ⟨f, rfl⟩ : ∃ f', f = f' + 1 := ⟨f - 1, by omega⟩
    obtain ⟨g, rfl⟩ : ∃ g', g = g' + 1 := ⟨g - 1, by omega⟩
    have b7 := zp_b7 h.2.2.1
    have kd := zp_V_kd h
    have k4 := zn_kd_lt kd
    have h8 : c.1 1 8 = nI (zn_k (zp_t Y j)) := h.1.2.2.2.2.2.2.1
    have ha : zn_at (zp_t Y j) r := h.2.1.2.2.2
    have g6 := hL.1.2.2.2.1
    have b64 : b < 64 := by
      have : (2 : Nat) ^ zl_gd P.1 ≤ 2 ^ 6 := Nat.pow_le_pow_right (by omega) g6
      omega
    have p6 := zp_p6 b b64
    show (∃ c2 r2, od_takeGoods_4_b F Y.1.2.2 (od_takeGoods_4 F Y.1.2.2 f) (nI b) (nI (z_pc b)) c = _ ∧ mm_readsGoods_2_b F (mm_readsGoods_2 F g) (nI b) r = _ ∧ _) ∨ (∃ b2 j2 c2 r2, od_takeGoods_4_b F Y.1.2.2 (od_takeGoods_4 F Y.1.2.2 f) (nI b) (nI (z_pc b)) c = _ ∧ mm_readsGoods_2_b F (mm_readsGoods_2 F g) (nI b) r = _ ∧ _)
    unfold od_takeGoods_4_b mm_readsGoods_2_b
    rw [if_pos (show nI (z_pc b) ≤ (6 : Int32) by show nI _ ≤ nI 6; rw [z_le (by omega) (by omega)]; exact p6), zn_isName h8 k4, z_sbind]
    by_cases q : zn_nm (zn_k (zp_t Y j))
    · have h6 : r.1 0 6 = (1 : Int32) := (zn_at_w ha kd).1 (by unfold zn_nm at q; unfold zn_isw; omega)
      rw [if_pos q, if_neg zn_p1, if_pos h6, zn_isKept ha kd, z_sbind, if_pos q, if_pos zn_p0, hL.1.1.2.1]
      rcases zp_tGood (F := F) (tk := b) h hL (by omega) hF with ⟨c2, r2, n1, n2, n3⟩ | ⟨i, j1, j2, j3, j4, j5⟩ | ⟨i, j1, j2, j3, j4, j5⟩
      · left
        rw [n1, z_sbind, if_pos (show (-1 : Int32) = -1 from rfl), n2, z_sbind, if_pos zn_p0]
        exact ⟨c2, r2, rfl, rfl, n3⟩
      · left
        have bb := (zp_bb b b64 i (by omega)).1.2 j2
        have es : nI b &&& ((1 : Int32) <<< (nI i &&& 31)) = nI (b &&& 2 ^ i) := by simp (disch := omega) only [↓reduceIte, nI_lit, z_sbind, z_rd, z_rl, z_rr, z_wr, z_wl, nI_add, z_mul, z_lt, z_le, z_eq, z_ltm1, z_m1lt, z_eqm1, z_m1eq, z_lem1, z_m1le, if_true, if_false, ite_true, ite_false, z_and, z_or, z_xor, z_n31, z_shr, z_shl1, z_bit_and, z_andn]
        rw [j3, (zp_wr h 3).1, z_sbind, z_sbind, if_pos (show (-1 : Int32) = -1 from rfl), j4, z_sbind, if_neg zn_p1, j5, z_sbind, es, if_pos (show (0 : Int32) < nI (b &&& 2 ^ i) by show nI 0 < nI _; rw [z_lt (by omega) (by have := Nat.and_le_left (n := b) (m := 2 ^ i); omega)]; exact bb), show mm_fails (3 : Int32) r = _ from (zp_wr h 3).2, z_sbind, if_pos zn_p0]
        exact ⟨_, _, rfl, rfl, zp_bad (f := 3) h (by omega)⟩
      · have hb3 := zp_bb b b64 i (by omega)
        have es : nI b &&& ((1 : Int32) <<< (nI i &&& 31)) = nI (b &&& 2 ^ i) := by simp (disch := omega) only [↓reduceIte, nI_lit, z_sbind, z_rd, z_rl, z_rr, z_wr, z_wl, nI_add, z_mul, z_lt, z_le, z_eq, z_ltm1, z_m1lt, z_eqm1, z_m1eq, z_lem1, z_m1le, if_true, if_false, ite_true, ite_false, z_and, z_or, z_xor, z_n31, z_shr, z_shl1, z_bit_and, z_andn]
        have eo : nI b ||| ((1 : Int32) <<< (nI i &&& 31)) = nI (b ||| 2 ^ i) := by simp (disch := omega) only [↓reduceIte, nI_lit, z_sbind, z_rd, z_rl, z_rr, z_wr, z_wl, nI_add, z_mul, z_lt, z_le, z_eq, z_ltm1, z_m1lt, z_eqm1, z_m1eq, z_lem1, z_m1le, if_true, if_false, ite_true, ite_false, z_and, z_or, z_xor, z_n31, z_shr, z_shl1, z_bit_and, z_andn]
        obtain ⟨c3, r3, f1, f2, f3, f4, f5⟩ := zp_adv h hF
        have hL3 := zp_L_k2 hL (by omega) f4 f5
        have pcs := hb3.2.1 j2
        have pc6 := zp_p6 _ hb3.2.2
        rw [j3, f1, z_sbind, z_sbind, if_neg (show ¬ nI i = (-1 : Int32) by rw [show (-1 : Int32) = -nI 1 from rfl, z_eqm1 (by omega)]; exact id), z_sbind, j4, z_sbind, if_neg zn_p1, j5, z_sbind, es, if_neg (show ¬ (0 : Int32) < nI (b &&& 2 ^ i) by show ¬ nI 0 < nI _; rw [z_lt (by omega) (by have := Nat.and_le_left (n := b) (m := 2 ^ i); omega)]; intro q2; have := hb3.1.1 q2; omega), eo, z_sbind, f2, z_sbind, nI_1, ← pcs]
        rcases ih (b ||| 2 ^ i) f g (zp_n Y j) c3 r3 f3 hL3 (zp_bt hb j1) (by omega) (by omega) (by omega) with ⟨c4, r4, m1, m2, m3⟩ | ⟨b2, j6, c4, r4, m1, m2, m3, m4, m5, m6, m7⟩
        · left; exact ⟨c4, r4, m1, m2, m3⟩
        · right
          have := zp_n_ge (Y := Y) (j := j)
          exact ⟨b2, j6, c4, r4, m1, m2, m3, by omega, m5, zn_kC_trans f4 m6, zn_kR_trans f5 m7⟩
    · right
      rw [if_neg q, if_pos zn_p0]
      refine ⟨b, j, c, r, rfl, ?_, hb, Nat.le_refl _, h, zn_kC_refl, zn_kR_refl⟩
      by_cases h6 : r.1 0 6 = (1 : Int32)
      · rw [if_pos h6, zn_isKept ha kd, z_sbind, if_neg q, if_neg zn_p1]
      · rw [if_neg h6]
