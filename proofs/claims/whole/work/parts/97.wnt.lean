/-! Layer 2: a LAND's lines: what one wants -/
def zp_Pw (P : zp_T) (w : Nat → Nat) : zp_T := ((P.1.1, P.1.2.1, P.1.2.2.1, P.1.2.2.2.1, P.1.2.2.2.2.1, P.1.2.2.2.2.2.1, fun p j => if p = zl_pp P.1 then w j else zl_wo P.1 p j), P.2)
theorem zp_Pw_wo {P : zp_T} {w : Nat → Nat} {p j : Nat} : zl_wo (zp_Pw P w).1 p j = if p = zl_pp P.1 then w j else zl_wo P.1 p j := rfl
def zp_pr (P : zp_T) (w : Nat → Nat) (r : g_St) : Prop := ∀ j, j < 18 → w j ≤ 999 ∧ r.1 13 (18 * (8 + zl_pp P.1) + j) = nI (w j)
theorem zp_L_w0 {bl : Nat} {P : zp_T} {c r : g_St} (h : zp_L bl P c r) (h0 : zp_z0 P) : zp_L bl (zp_Pw P (fun _ => 0)) c r := by
  obtain ⟨h1, hN, hw, hg, hp, hz⟩ := h
  refine ⟨h1, hN, hw, hg, fun p hp2 => ?_, fun p q1 q2 j hj => ?_⟩
  · have hp2 : p < zl_pp P.1 := hp2
    refine ⟨(hp p hp2).1, (hp p hp2).2.1, fun j hj => ?_⟩
    rw [zp_Pw_wo, if_neg (by omega)]
    exact (hp p hp2).2.2 j hj
  · have q1 : zl_pp P.1 ≤ p := q1
    have hz2 := hz p q1 q2 j hj
    rw [zp_Pw_wo]
    by_cases e : p = zl_pp P.1
    · subst e
      rw [if_pos rfl]
      have := h0 q2 j hj
      rw [this] at hz2
      exact ⟨hz2.1, fun _ => rfl⟩
    · rw [if_neg e]; exact hz2
theorem zp_L_w15 {bl j0 v : Nat} {P : zp_T} {w : Nat → Nat} {c r : g_St} (h : zp_L bl (zp_Pw P w) c r) : zp_L bl (zp_Pw P (fun i => if i = j0 then v else w i)) (g_sI c (bl + 15 + zl_pp P.1) j0 (nI v)) r := by
  obtain ⟨⟨⟨q1, q2, q3⟩, q4, q5⟩, hN, hw, hg, hp, hz⟩ := h
  refine ⟨⟨⟨by rw [z_sI_id (by omega)]; exact q1, by rw [z_sI_id (by omega)]; exact q2, by rw [z_sI_id (by omega)]; exact q3⟩, q4, q5⟩, hN, fun x y hx hy => ?_, fun g hg2 => ?_, fun p hp2 => ?_, fun p q1 q2 j hj => ?_⟩
  · rw [z_sI_id (by omega)]; exact hw x y hx hy
  · rw [z_sI_id (by omega), z_sI_id (by omega)]; exact hg g hg2
  · have hp2 : p < zl_pp P.1 := hp2
    rw [z_sI_id (by omega), z_sI_id (by omega)]
    refine ⟨(hp p hp2).1, (hp p hp2).2.1, fun j hj => ?_⟩
    have := (hp p hp2).2.2 j hj
    rw [zp_Pw_wo, if_neg (by omega)] at *
    rw [z_sI_id (by omega)]
    exact this
  · have q1 : zl_pp P.1 ≤ p := q1
    have hz2 := hz p q1 q2 j hj
    rw [zp_Pw_wo] at *
    by_cases e : p = zl_pp P.1
    · rw [if_pos e] at *
      refine ⟨?_, fun q => ?_⟩
      · rw [e, z_sI]
        by_cases e2 : j = j0
        · rw [if_pos ⟨rfl, e2⟩, if_pos e2]
        · rw [if_neg (fun q => e2 q.2), if_neg e2, ← e]; exact hz2.1
      · have q : zl_pp P.1 < p := q
        omega
    · rw [if_neg e] at *
      rw [z_sI_id (by omega)]; exact hz2
theorem zp_tok2 {n : Nat} {s : Nat → Nat} {t : zn_K} {r : g_St} (h : zn_at t r) (hk : zn_kd n s t) : (r.1 0 6 = (2 : Int32)) = (zn_k t = 201) := by
  have k4 := zn_kd_lt hk
  rw [h.2.2.1]
  show (nI _ = nI 2) = _
  unfold zn_rk
  apply propext
  by_cases e1 : zn_k t < 20 ∨ zn_k t = 200
  · rw [if_pos e1, z_eq (by omega) (by omega)]; omega
  · rw [if_neg e1]
    by_cases e2 : zn_k t = 201
    · rw [if_pos e2]; exact ⟨fun _ => e2, fun _ => rfl⟩
    · rw [if_neg e2]
      split
      · rw [z_eq (by omega) (by omega)]; omega
      · split
        · rw [z_eq (by omega) (by omega)]; omega
        · rw [z_eq (by omega) (by omega)]; omega
theorem zp_wnum {Y : zp_S} {F g : Nat} {P : zp_T} {v2 : Int32} {K : Int32 → g_St → Option (Int32 × g_St)} (hg : g < 6) (h8 : zl_pp P.1 < 8) (hF : 1100 < F) : ∀ (d k ahead : Nat) (w : Nat → Nat) (j : Nat) (c r : g_St) (f f2 : Nat), 3 - k = d → k ≤ 3 → ahead ≤ 999 → d < f → d < f2 → zp_V Y j c r → zp_L Y.1.2.2 (zp_Pw P w) c r → zp_pr P w r →
    (∃ c2 r2, od_readWant_44 F Y.1.2.2 (Y.1.2.2 + 15 + zl_pp P.1) (nI g) f (nI ahead) (nI k) c = some (-1, c2) ∧ mm_readsWants_63 F (nI (8 + zl_pp P.1)) v2 (nI g) K f2 (nI ahead) (nI k) r = some (nI 0, r2) ∧ zp_E Y c2 r2) ∨
    (∃ w2 j2 c2 r2, od_readWant_44 F Y.1.2.2 (Y.1.2.2 + 15 + zl_pp P.1) (nI g) f (nI ahead) (nI k) c = some (nI g, c2) ∧ mm_readsWants_63 F (nI (8 + zl_pp P.1)) v2 (nI g) K f2 (nI ahead) (nI k) r = K v2 r2 ∧ j ≤ j2 ∧ zp_V Y j2 c2 r2 ∧ zp_L Y.1.2.2 (zp_Pw P w2) c2 r2 ∧ zp_pr P w2 r2 ∧ (∀ id, 6 < id → c2.2.1 id = c.2.1 id) ∧ ∀ id, id ≠ 0 → id ≠ 13 → r2.1 id = r.1 id) := by
  intro d
  induction d with
  | zero =>
    intro k ahead w j c r f f2 hd hk ha hf hf2 h hL hp
    obtain ⟨f, rfl⟩ : ∃ f', f = f' + 1 := ⟨f - 1, by omega⟩
    obtain ⟨f2, rfl⟩ : ∃ f', f2 = f' + 1 := ⟨f2 - 1, by omega⟩
    right
    refine ⟨w, j, c, r, ?_, ?_, Nat.le_refl _, h, hL, hp, fun _ _ => rfl, fun _ _ _ => rfl⟩
    · show od_readWant_44_b F Y.1.2.2 (Y.1.2.2 + 15 + zl_pp P.1) (nI g) _ (nI ahead) (nI k) c = _
      unfold od_readWant_44_b
      rw [if_neg (show ¬ nI k < (3 : Int32) by show ¬ nI k < nI 3; rw [z_lt (by omega) (by omega)]; omega)]
    · show mm_readsWants_63_b F (nI (8 + zl_pp P.1)) v2 (nI g) K _ (nI ahead) (nI k) r = _
      unfold mm_readsWants_63_b
      rw [if_neg (show ¬ nI k < (3 : Int32) by show ¬ nI k < nI 3; rw [z_lt (by omega) (by omega)]; omega)]
  | succ d ih =>
    intro k ahead w j c r f f2 hd hk ha hf hf2 h hL hp
    obtain ⟨f, rfl⟩ : ∃ f', f = f' + 1 := ⟨f - 1, by omega⟩
    obtain ⟨f2, rfl⟩ : ∃ f', f2 = f' + 1 := ⟨f2 - 1, by omega⟩
    have hb := zp_b7 h.2.2.1
    have kd := zp_V_kd h
    have k4 := zn_kd_lt kd
    have h8' : c.1 1 8 = nI (zn_k (zp_t Y j)) := h.1.2.2.2.2.2.2.1
    have hat : zn_at (zp_t Y j) r := h.2.1.2.2.2
    -- one number more
    have more : (∃ c2 r2, od_readWant_65 F Y.1.2.2 (Y.1.2.2 + 15 + zl_pp P.1) (od_readWant_44 F Y.1.2.2 (Y.1.2.2 + 15 + zl_pp P.1) (nI g) f) (nI g) (nI ahead) (nI k) c = some (-1, c2) ∧ mm_readsWants_82 F K (mm_readsWants_63 F (nI (8 + zl_pp P.1)) v2 (nI g) K f2) (nI (8 + zl_pp P.1)) v2 (nI g) (nI ahead) (nI k) r = some (nI 0, r2) ∧ zp_E Y c2 r2) ∨
        (∃ w2 j2 c2 r2, od_readWant_65 F Y.1.2.2 (Y.1.2.2 + 15 + zl_pp P.1) (od_readWant_44 F Y.1.2.2 (Y.1.2.2 + 15 + zl_pp P.1) (nI g) f) (nI g) (nI ahead) (nI k) c = some (nI g, c2) ∧ mm_readsWants_82 F K (mm_readsWants_63 F (nI (8 + zl_pp P.1)) v2 (nI g) K f2) (nI (8 + zl_pp P.1)) v2 (nI g) (nI ahead) (nI k) r = K v2 r2 ∧ j ≤ j2 ∧ zp_V Y j2 c2 r2 ∧ zp_L Y.1.2.2 (zp_Pw P w2) c2 r2 ∧ zp_pr P w2 r2 ∧ (∀ id, 6 < id → c2.2.1 id = c.2.1 id) ∧ ∀ id, id ≠ 0 → id ≠ 13 → r2.1 id = r.1 id) := by
      unfold od_readWant_65 mm_readsWants_82
      rcases zp_num (lo := 0) (hi := ahead) h (by omega) (by omega) with ⟨c2, r2, n1, n2, n3⟩ | ⟨v, v1, v2', v3, v4, v5⟩
      · left
        rw [show ot_takeNumber (0 : Int32) (nI ahead) c = _ from n1, show mm_needsNumber (0 : Int32) (nI ahead) r = _ from n2, z_sbind, z_sbind, if_pos (show (-1 : Int32) = -1 from rfl), if_pos zn_p0]
        exact ⟨c2, r2, rfl, rfl, n3⟩
      · have kr : zp_KR r (g_sI r 13 (18 * (8 + zl_pp P.1) + 3 * g + k) (nI v)) := zp_KR_I (by omega)
        have hV2 := zp_V_w h zp_KC_refl kr (zp_cntq hL)
        have hL2 := zp_L_r9 (id := 13) (k := 18 * (8 + zl_pp P.1) + 3 * g + k) (v := nI v) hL (by show _ ∨ _ ∨ (13 = 13 ∧ 18 * (8 + zl_pp P.1) ≤ _); omega)
        obtain ⟨c2, r2, g1, g2, g3, g4, g5⟩ := zp_adv hV2 hF
        have hL3 := zp_L_k2 hL2 (by omega) g4 g5
        have hV3 := zp_V_w g3 (zp_KC_I (c := c2) (id := Y.1.2.2 + 15 + zl_pp P.1) (k := 3 * g + k) (v := nI v) (by omega)) zp_KR_refl (by rw [z_sI_id (by omega)]; exact zp_cntq hL3)
        have hL4 := zp_L_w15 (j0 := 3 * g + k) (v := v) hL3
        have hp2 : zp_pr P (fun i => if i = 3 * g + k then v else w i) r2 := by
          intro i hi
          rw [g5.1 13 (by omega), z_sI]
          dsimp only
          by_cases e : i = 3 * g + k
          · rw [if_pos e, if_pos ⟨rfl, by omega⟩]; exact ⟨by omega, rfl⟩
          · rw [if_neg e, if_neg (fun q => e (by omega))]; exact hp i hi
        have nx := zp_n_ge (Y := Y) (j := j)
        rw [show ot_takeNumber (0 : Int32) (nI ahead) c = _ from v5, show mm_needsNumber (0 : Int32) (nI ahead) r = _ from v4, g1, z_sbind, z_sbind, z_sbind, if_neg (show ¬ nI v = (-1 : Int32) by rw [show (-1 : Int32) = -nI 1 from rfl, z_eqm1 (by omega)]; exact id), if_neg zn_p1]
        dsimp only
        rw [v3, show (3 : Int32) = nI 3 from rfl, show (18 : Int32) = nI 18 from rfl, z_mul, z_mul, z_mul, nI_add, nI_add, nI_add, z_wr (by omega) (by omega), z_wr (by omega) (by omega), z_sbind, z_sbind, g2, z_sbind, nI_1, show g * 3 + k = 3 * g + k by omega]
        rcases ih (k + 1) v _ _ _ _ f f2 (by omega) (by omega) (by omega) (by omega) (by omega) hV3 hL4 hp2 with ⟨c4, r4, m1, m2, m3⟩ | ⟨w2, j2, c4, r4, m1, m2, m3, m4, m5, m6, m7, m8⟩
        · left; exact ⟨c4, r4, m1, m2, m3⟩
        · right
          refine ⟨w2, j2, c4, r4, m1, m2, by omega, m4, m5, m6, fun id q => ?_, fun id q q2 => ?_⟩
          · rw [m7 id q, z_sI_2, g4.2.2.1 id (by omega) (by omega)]
          · rw [m8 id q q2, g5.1 id q, z_sI_f q2]
    show (∃ c2 r2, od_readWant_44_b F Y.1.2.2 (Y.1.2.2 + 15 + zl_pp P.1) (nI g) (od_readWant_44 F Y.1.2.2 (Y.1.2.2 + 15 + zl_pp P.1) (nI g) f) (nI ahead) (nI k) c = _ ∧ mm_readsWants_63_b F (nI (8 + zl_pp P.1)) v2 (nI g) K (mm_readsWants_63 F (nI (8 + zl_pp P.1)) v2 (nI g) K f2) (nI ahead) (nI k) r = _ ∧ _) ∨ (∃ w2 j2 c2 r2, od_readWant_44_b F Y.1.2.2 (Y.1.2.2 + 15 + zl_pp P.1) (nI g) (od_readWant_44 F Y.1.2.2 (Y.1.2.2 + 15 + zl_pp P.1) (nI g) f) (nI ahead) (nI k) c = _ ∧ mm_readsWants_63_b F (nI (8 + zl_pp P.1)) v2 (nI g) K (mm_readsWants_63 F (nI (8 + zl_pp P.1)) v2 (nI g) K f2) (nI ahead) (nI k) r = _ ∧ _)
    unfold od_readWant_44_b mm_readsWants_63_b
    rw [if_pos (show nI k < (3 : Int32) by show nI k < nI 3; rw [z_lt (by omega) (by omega)]; omega), if_pos (show nI k < (3 : Int32) by show nI k < nI 3; rw [z_lt (by omega) (by omega)]; omega)]
    by_cases k0 : k = 0
    · rw [if_pos (show nI k = (0 : Int32) by rw [k0]; rfl), if_pos (show nI k = (0 : Int32) by rw [k0]; rfl)]
      exact more
    · rw [if_neg (show ¬ nI k = (0 : Int32) by show ¬ nI k = nI 0; rw [z_eq (by omega) (by omega)]; exact k0), if_neg (show ¬ nI k = (0 : Int32) by show ¬ nI k = nI 0; rw [z_eq (by omega) (by omega)]; exact k0), h8']
      simp only [zp_tok2 hat kd]
      by_cases e : zn_k (zp_t Y j) = 201
      · rw [if_pos (show nI _ = (201 : Int32) by show nI _ = nI 201; rw [e]), if_pos e]
        exact more
      · rw [if_neg (show ¬ nI _ = (201 : Int32) by show ¬ nI _ = nI 201; rw [z_eq (by omega) (by omega)]; exact e), if_neg e]
        right
        exact ⟨w, j, c, r, rfl, rfl, Nat.le_refl _, h, hL, hp, fun _ _ => rfl, fun _ _ _ => rfl⟩
/-- all that one wants -/
theorem zp_wants {Y : zp_S} {F : Nat} {P : zp_T} {v3 v4 : Int32} (h8 : zl_pp P.1 < 8) (hF : 1100 < F) : ∀ (k b : Nat) (w : Nat → Nat) (f g j : Nat) (c r : g_St), zp_V Y j c r → zp_L Y.1.2.2 (zp_Pw P w) c r → zp_pr P w r → b < 2 ^ zl_gd P.1 → 6 - z_pc b < k → k ≤ f → k ≤ g →
    (∃ c2 r2, od_readPerson_84 F Y.1.2.2 (nI (zl_pp P.1)) v3 v4 f (nI b) (nI (z_pc b)) c = some (0, c2) ∧ mm_readsWants_2 F (nI (8 + zl_pp P.1)) g (nI b) r = some (0, r2) ∧ zp_E Y c2 r2) ∨
    (∃ w2 j2 c2 r2, od_readPerson_84 F Y.1.2.2 (nI (zl_pp P.1)) v3 v4 f (nI b) (nI (z_pc b)) c = od_readPerson_132 F Y.1.2.2 (nI (zl_pp P.1)) v3 v4 c2 ∧ mm_readsWants_2 F (nI (8 + zl_pp P.1)) g (nI b) r = some (nI 1, r2) ∧ j ≤ j2 ∧ zp_V Y j2 c2 r2 ∧ zp_L Y.1.2.2 (zp_Pw P w2) c2 r2 ∧ zp_pr P w2 r2 ∧ (∀ id, 6 < id → c2.2.1 id = c.2.1 id) ∧ ∀ id, id ≠ 0 → id ≠ 13 → r2.1 id = r.1 id) := by
  intro k
  induction k with
  | zero => intro b w f g j c r _ _ _ _ h; omega
  | succ k ih =>
    intro b w f g j c r h hL hp hb hk hf hg
    obtain ⟨f, rfl⟩ : ∃ f', f = f' + 1 := ⟨f - 1, by omega⟩
    obtain ⟨g, rfl⟩ : ∃ g', g = g' + 1 := ⟨g - 1, by omega⟩
    have b7 := zp_b7 h.2.2.1
    have kd := zp_V_kd h
    have k4 := zn_kd_lt kd
    have h8' : c.1 1 8 = nI (zn_k (zp_t Y j)) := h.1.2.2.2.2.2.2.1
    have ha : zn_at (zp_t Y j) r := h.2.1.2.2.2
    have g6 : zl_gd P.1 ≤ 6 := hL.1.2.2.2.1
    have b64 : b < 64 := by
      have : (2 : Nat) ^ zl_gd P.1 ≤ 2 ^ 6 := Nat.pow_le_pow_right (by omega) g6
      omega
    have p6 := zp_p6 b b64
    show (∃ c2 r2, od_readPerson_84_b F Y.1.2.2 (nI (zl_pp P.1)) v3 v4 (od_readPerson_84 F Y.1.2.2 (nI (zl_pp P.1)) v3 v4 f) (nI b) (nI (z_pc b)) c = _ ∧ mm_readsWants_2_b F (nI (8 + zl_pp P.1)) (mm_readsWants_2 F (nI (8 + zl_pp P.1)) g) (nI b) r = _ ∧ _) ∨ (∃ w2 j2 c2 r2, od_readPerson_84_b F Y.1.2.2 (nI (zl_pp P.1)) v3 v4 (od_readPerson_84 F Y.1.2.2 (nI (zl_pp P.1)) v3 v4 f) (nI b) (nI (z_pc b)) c = _ ∧ mm_readsWants_2_b F (nI (8 + zl_pp P.1)) (mm_readsWants_2 F (nI (8 + zl_pp P.1)) g) (nI b) r = _ ∧ _)
    unfold od_readPerson_84_b mm_readsWants_2_b
    rw [if_pos (show nI (z_pc b) ≤ (6 : Int32) by show nI _ ≤ nI 6; rw [z_le (by omega) (by omega)]; exact p6), h8', show mm_isWord r (12253591 : Int64) = some (if zn_k (zp_t Y j) = 8 then nI 1 else nI 0) from zn_isWord (i := 8) ha kd (by omega), z_sbind]
    by_cases q : zn_k (zp_t Y j) = 8
    · rw [if_pos (show nI _ = (8 : Int32) by show nI _ = nI 8; rw [q]), if_pos q, if_neg zn_p1]
      obtain ⟨c1, r1, a1, a2, a3, a4, a5⟩ := zp_adv h hF
      have hL1 := zp_L_k2 hL (by omega) a4 a5
      have e2 : c1.1 Y.1.2.2 1 = nI (zl_gd P.1) := hL1.1.1.2.1
      unfold od_readWant
      rw [a1, a2, z_sbind, z_sbind, e2]
      have tg : zp_told Y c1 r1 (od_takeTold F (Y.1.2.2 + 2) 6 (nI (zl_gd P.1)) (nI b) c1) (mm_needsGood F r1) (mm_goodOf F r1) (zl_gd P.1) b := zp_tGood (P := zp_Pw P w) (F := F) (tk := b) a3 hL1 (by omega) hF
      have nx := zp_n_ge (Y := Y) (j := j)
      rcases tg with ⟨c2, r2, n1, n2, n3⟩ | ⟨i, j1, j2, j3, j4, j5⟩ | ⟨i, j1, j2, j3, j4, j5⟩
      · left
        rw [n1, z_sbind, if_pos (show (-1 : Int32) = -1 from rfl), z_sbind, if_pos (show (-1 : Int32) = -1 from rfl), n2, z_sbind, if_pos zn_p0]
        exact ⟨c2, r2, rfl, rfl, n3⟩
      · left
        have es : (nI b >>> (nI i &&& 31)) &&& (1 : Int32) = nI (z_bit b i) := by simp (disch := omega) only [↓reduceIte, nI_lit, z_sbind, z_rd, z_rl, z_rr, z_wr, z_wl, nI_add, z_mul, z_lt, z_le, z_eq, z_ltm1, z_m1lt, z_eqm1, z_m1eq, z_lem1, z_m1le, if_true, if_false, ite_true, ite_false, z_and, z_or, z_xor, z_n31, z_shr, z_shl1, z_bit_and, z_andn]
        rw [j3, (zp_wr a3 3).1, z_sbind, z_sbind, if_pos (show (-1 : Int32) = -1 from rfl), z_sbind, if_pos (show (-1 : Int32) = -1 from rfl), j4, z_sbind, if_neg zn_p1, j5, z_sbind, es, if_pos (show nI (z_bit b i) = (1 : Int32) by rw [j2]; rfl), show mm_fails (3 : Int32) r1 = _ from (zp_wr a3 3).2, z_sbind]
        refine ⟨_, _, rfl, ?_, zp_bad (f := 3) a3 (by omega)⟩
        show some (nI 0 &&& (1 : Int32), _) = _
        rw [zn_a0]
        rfl
      · have hb3 := zp_bb b b64 i (by omega)
        have es : (nI b >>> (nI i &&& 31)) &&& (1 : Int32) = nI (z_bit b i) := by simp (disch := omega) only [↓reduceIte, nI_lit, z_sbind, z_rd, z_rl, z_rr, z_wr, z_wl, nI_add, z_mul, z_lt, z_le, z_eq, z_ltm1, z_m1lt, z_eqm1, z_m1eq, z_lem1, z_m1le, if_true, if_false, ite_true, ite_false, z_and, z_or, z_xor, z_n31, z_shr, z_shl1, z_bit_and, z_andn]
        have eo : nI b ||| ((1 : Int32) <<< (nI i &&& 31)) = nI (b ||| 2 ^ i) := by simp (disch := omega) only [↓reduceIte, nI_lit, z_sbind, z_rd, z_rl, z_rr, z_wr, z_wl, nI_add, z_mul, z_lt, z_le, z_eq, z_ltm1, z_m1lt, z_eqm1, z_m1eq, z_lem1, z_m1le, if_true, if_false, ite_true, ite_false, z_and, z_or, z_xor, z_n31, z_shr, z_shl1, z_bit_and, z_andn]
        obtain ⟨c3, r3, f1, f2, f3, f4, f5⟩ := zp_adv a3 hF
        have hL3 := zp_L_k2 hL1 (by omega) f4 f5
        have pcs := hb3.2.1 j2
        have pc6 := zp_p6 _ hb3.2.2
        have e3 : c3.1 Y.1.2.2 2 = nI (zl_pp P.1) := hL3.1.1.2.2
        have hp3 : zp_pr P w r3 := fun i hi => by rw [f5.1 13 (by omega), a5.1 13 (by omega)]; exact hp i hi
        have nx2 := zp_n_ge (Y := Y) (j := zp_n Y j)
        rw [j3, f1, z_sbind, z_sbind, if_neg (show ¬ nI i = (-1 : Int32) by rw [show (-1 : Int32) = -nI 1 from rfl, z_eqm1 (by omega)]; exact id), j4, z_sbind, if_neg zn_p1, j5, z_sbind, es, if_neg (show ¬ nI (z_bit b i) = (1 : Int32) by rw [j2]; decide), eo, z_sbind, f2, z_sbind]
        dsimp only
        rw [e3, z_rr (by omega) (by omega), z_sbind]
        rcases zp_wnum (Y := Y) (F := F) (g := i) (P := P) (v2 := nI (b ||| 2 ^ i)) (K := mm_readsWants_2 F (nI (8 + zl_pp P.1)) g) (by omega) h8 hF 3 0 999 w _ c3 r3 F F (by omega) (by omega) (by omega) (by omega) (by omega) f3 hL3 hp3 with ⟨c4, r4, m1, m2, m3⟩ | ⟨w2, j6, c4, r4, m1, m2, m3, m4, m5, m6, m7, m8⟩
        · left
          rw [show od_readWant_44 F Y.1.2.2 (Y.1.2.2 + 15 + zl_pp P.1) (nI i) F (999 : Int32) (0 : Int32) c3 = _ from m1, z_sbind, if_pos (show (-1 : Int32) = -1 from rfl), show mm_readsWants_63 F (nI (8 + zl_pp P.1)) (nI (b ||| 2 ^ i)) (nI i) (mm_readsWants_2 F (nI (8 + zl_pp P.1)) g) F (999 : Int32) (0 : Int32) r3 = _ from m2]
          exact ⟨c4, r4, rfl, rfl, m3⟩
        · rw [show od_readWant_44 F Y.1.2.2 (Y.1.2.2 + 15 + zl_pp P.1) (nI i) F (999 : Int32) (0 : Int32) c3 = _ from m1, z_sbind, if_neg (show ¬ nI i = (-1 : Int32) by rw [show (-1 : Int32) = -nI 1 from rfl, z_eqm1 (by omega)]; exact id), show mm_readsWants_63 F (nI (8 + zl_pp P.1)) (nI (b ||| 2 ^ i)) (nI i) (mm_readsWants_2 F (nI (8 + zl_pp P.1)) g) F (999 : Int32) (0 : Int32) r3 = _ from m2]
          dsimp only
          rw [eo, z_sbind, nI_1, ← pcs]
          rcases ih (b ||| 2 ^ i) w2 f g j6 c4 r4 m4 m5 m6 (zp_bt hb j1) (by omega) (by omega) (by omega) with ⟨c5, r5, o1, o2, o3⟩ | ⟨w3, j7, c5, r5, o1, o2, o3, o4, o5, o6, o7, o8⟩
          · left; exact ⟨c5, r5, o1, o2, o3⟩
          · right
            refine ⟨w3, j7, c5, r5, o1, o2, by omega, o4, o5, o6, fun id q => ?_, fun id q q2 => ?_⟩
            · rw [o7 id q, m7 id q, f4.2.2.1 id (by omega) (by omega), a4.2.2.1 id (by omega) (by omega)]
            · rw [o8 id q q2, m8 id q q2, f5.1 id q, a5.1 id q]
    · right
      rw [if_neg (show ¬ nI _ = (8 : Int32) by show ¬ nI _ = nI 8; rw [z_eq (by omega) (by omega)]; exact q), if_neg q, if_pos zn_p0]
      exact ⟨w, j, c, r, rfl, rfl, Nat.le_refl _, h, hL, hp, fun _ _ => rfl, fun _ _ _ => rfl⟩
