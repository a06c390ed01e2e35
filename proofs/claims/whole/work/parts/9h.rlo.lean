/-! Layer 2: RULE -/
def zg_ln (Y : zp_S) (n : Nat) (U : Nat → (Nat → Int32) → Int32) (c r : g_St) (q g : Nat) : Prop := n ≤ 6 ∧ c.1 Y.1.2.2 3 = nI n ∧ (∃ e : Nat → Nat, e 0 = 0 ∧ e n = q ∧ ∀ k, k < n → c.1 (Y.1.2.2 + 2) k = nI (e (k + 1)) ∧ e (k + 1) ≤ q ∧ zg_c (c.1 (Y.1.2.2 + 1)) (e k) (e (k + 1)) 32 (U k)) ∧ ∀ k, k < n → ∃ a b, r.1 14 (6 + k) = nI (1000 + a) ∧ r.1 15 (6 + k) = nI (1000 + b) ∧ b ≤ g ∧ zg_r zq_E (r.1 16) a b 6 (U k)
theorem zg_word10 {Y : zp_S} {j F i : Nat} {c r : g_St} (h : zg_V Y j c r) (hi : i < 20) (hF : 1100 < F) :
    (∃ c2 r2, ot_take (nI i) c = some (nI 0, c2) ∧ mm_needsWord F (zn_wd27 i) r = some (nI 0, r2) ∧ zg_E Y c2 r2) ∨
    (∃ c2 r2, ot_take (nI i) c = some (nI 1, c2) ∧ mm_needsWord F (zn_wd27 i) r = some (nI 1, r2) ∧ zg_V Y (j + 1) c2 r2 ∧ zn_kC c c2 ∧ zn_kR r r2) := by
  have k := zg_V_kd h
  have k4 := zn_kd_lt k
  have h8 : c.1 1 8 = nI (zn_k (zp_t Y j)) := h.1.2.2.2.2.2.2.1
  have ha : zn_at (zp_t Y j) r := h.2.1.2.2.2
  have w1 := zg_wr h 1
  unfold ot_take mm_needsWord
  rw [zn_isWord ha k hi, z_sbind, h8]
  by_cases e : zn_k (zp_t Y j) = i
  · right
    obtain ⟨c2, r2, a1, a2, a3, a4, a5⟩ := zg_adv h hF
    rw [(zg_n_lt h (by omega)).1] at a3
    rw [if_pos (by rw [e]), a1, z_sbind, if_pos e, if_neg zn_p1, a2, z_sbind]
    exact ⟨c2, r2, rfl, rfl, a3, a4, a5⟩
  · left
    rw [if_neg (show ¬ nI _ = nI i by rw [z_eq (by omega) (by omega)]; exact e), if_neg e, if_pos zn_p0, show ot_wrong (1 : Int32) c = _ from w1.1, show mm_fails (1 : Int32) r = _ from w1.2, z_sbind, z_sbind]
    refine ⟨_, _, ?_, ?_, zg_bad (f := 1) h (by omega)⟩
    · show some (nI 0 &&& (1 : Int32), _) = _
      rw [zn_a0]
    · show some (nI 0 &&& (1 : Int32), _) = _
      rw [zn_a0]
theorem zg_ln_k {Y : zp_S} {n : Nat} {U : Nat → (Nat → Int32) → Int32} {c r c2 r2 : g_St} {q g : Nat} (h : zg_ln Y n U c r q g) (k1 : zg_KC Y.1.2.2 q c c2) (k2 : ∀ i, i < 1000 + g → r2.1 16 i = r.1 16 i) (k3 : ∀ k, k < 6 + n → r2.1 14 k = r.1 14 k ∧ r2.1 15 k = r.1 15 k) : zg_ln Y n U c2 r2 q g := by
  obtain ⟨h1, h2, ⟨e, e1, e2, e3⟩, h4⟩ := h
  refine ⟨h1, by rw [k1.2.2]; exact h2, ⟨e, e1, e2, fun k hk => ?_⟩, fun k hk => ?_⟩
  · have := e3 k hk
    rw [k1.2.1]
    exact ⟨this.1, this.2.1, zg_c_k this.2.2 (fun i hi => k1.1 i (by omega))⟩
  · obtain ⟨a, b, b1, b2, b3, b4⟩ := h4 k hk
    rw [(k3 (6 + k) (by omega)).1, (k3 (6 + k) (by omega)).2]
    exact ⟨a, b, b1, b2, b3, zg_r_k b4 (fun i hi => k2 i (by omega))⟩
theorem zg_lines {Y : zp_S} {F : Nat} (hF : 1100 < F) : ∀ (d i j f f' n q g : Nat) (U : Nat → (Nat → Int32) → Int32) (c r : g_St), Y.2.2.2.2 - j = d → i ≤ j → d < f → d < f' → zg_V Y j c r → zg_p Y j c r q g → zg_ln Y n U c r q g →
    (∃ c2 r2, oe_read_10 F Y.1.2.2 f (nI i) c = oe_read_44 F Y.1.2.2 c2 ∧ mm_rule_18 F f' (nI n) r = some (r2.1 0 9, r2) ∧ zg_E Y c2 r2) ∨
    (∃ c2 r2 n2 U2 j2 q2 g2, oe_read_10 F Y.1.2.2 f (nI i) c = oe_read_44 F Y.1.2.2 c2 ∧ mm_rule_18 F f' (nI n) r = mm_rule_144 F F (0 : Int32) (g_sI r2 0 22 (nI n2)) ∧ zg_V Y j2 c2 r2 ∧ zg_p Y j2 c2 r2 q2 g2 ∧ zg_ln Y n2 U2 c2 r2 q2 g2) := by
  intro d
  induction d using Nat.strongRecOn with
  | ind d ih =>
    intro i j f f' n q g U c r hd hij hf hf' h hp hl
    obtain ⟨f, rfl⟩ : ∃ x, f = x + 1 := ⟨f - 1, by omega⟩
    obtain ⟨f', rfl⟩ : ∃ x, f' = x + 1 := ⟨f' - 1, by omega⟩
    have hb := zg_b53 h.2.2.1
    have kd := zg_V_kd h
    have k4 := zn_kd_lt kd
    have jm := zg_jm h
    have h8 : c.1 1 8 = nI (zn_k (zp_t Y j)) := h.1.2.2.2.2.2.2.1
    have hat : zn_at (zp_t Y j) r := h.2.1.2.2.2
    have h6 := hat.2.2.1
    have n6 := hl.1
    show (∃ c2 r2, oe_read_10_b F Y.1.2.2 (oe_read_10 F Y.1.2.2 f) (nI i) c = _ ∧ mm_rule_18_b F (mm_rule_18 F f') (nI n) r = _ ∧ _) ∨ (∃ c2 r2 n2 U2 j2 q2 g2, oe_read_10_b F Y.1.2.2 (oe_read_10 F Y.1.2.2 f) (nI i) c = _ ∧ mm_rule_18_b F (mm_rule_18 F f') (nI n) r = _ ∧ _)
    unfold oe_read_10_b mm_rule_18_b
    by_cases e : zn_k (zp_t Y j) = 202
    · right
      have r0 : r.1 0 6 = (0 : Int32) := by rw [h6, e]; rfl
      refine ⟨c, r, n, U, j, q, g, ?_, by rw [if_pos r0, z_sbind], h, hp, hl⟩
      rw [h8, if_pos (show nI _ = (202 : Int32) by rw [e]; rfl)]
      split <;> rfl
    · obtain ⟨nj, jm2⟩ := zg_n_lt h e
      have r0 : ¬ r.1 0 6 = (0 : Int32) := by
        rw [h6]
        show ¬ nI _ = nI 0
        unfold zn_rk
        repeat' split
        all_goals first | (rw [z_eq (by omega) (by omega)]; omega) | omega
      rw [if_pos (show nI i < (1000 : Int32) by show nI i < nI 1000; rw [z_lt (by omega) (by omega)]; omega), h8, if_neg (show ¬ nI _ = (202 : Int32) by show ¬ nI _ = nI 202; rw [z_eq (by omega) (by omega)]; exact e), if_neg r0, show mm_isWord r (173175987 : Int64) = _ from zn_isWord (i := 9) hat kd (by omega), z_sbind]
      unfold oe_readLine
      rw [h8]
      have w1 := zg_wr h 1
      have w5 := zg_wr h 5
      by_cases e9 : zn_k (zp_t Y j) = 9
      · rw [if_pos (show nI _ = (9 : Int32) by rw [e9]; rfl), if_pos e9, if_neg zn_p1, hl.2.1]
        by_cases q6 : 6 ≤ n
        · left
          rw [if_pos (show (6 : Int32) ≤ nI n by show nI 6 ≤ nI n; rw [z_le (by omega) (by omega)]; exact q6), if_pos (show (6 : Int32) ≤ nI n by show nI 6 ≤ nI n; rw [z_le (by omega) (by omega)]; exact q6), show ot_wrong (5 : Int32) c = _ from w5.1, show mm_fails (5 : Int32) r = _ from w5.2, z_sbind, z_sbind, z_sbind, if_pos zn_p0]
          unfold mm_rule_64
          rw [if_pos (show (0 : Int32) = 0 from rfl)]
          refine ⟨_, _, ?_, rfl, zg_bad (f := 5) h (by omega)⟩
          show (if nI 0 &&& (1 : Int32) = 0 then _ else _) = _
          rw [zn_a0, if_pos zn_p0]
        · rw [if_neg (show ¬ (6 : Int32) ≤ nI n by show ¬ nI 6 ≤ nI n; rw [z_le (by omega) (by omega)]; exact q6), if_neg (show ¬ (6 : Int32) ≤ nI n by show ¬ nI 6 ≤ nI n; rw [z_le (by omega) (by omega)]; exact q6)]
          unfold oe_readLine_24 mm_rule_51 mm_rule_64
          obtain ⟨c1, r1, a1, a2, a3, a4, a5⟩ := zg_adv h hF
          rw [nj] at a3
          have tk9 : ot_take (9 : Int32) c = some (1, c1) := by
            unfold ot_take
            rw [h8, if_pos (show nI _ = (9 : Int32) by rw [e9]; rfl), a1, z_sbind]
          rw [tk9, z_sbind, if_neg (show ¬ (1 : Int32) = 0 by decide), if_neg (show ¬ (1 : Int32) = 0 by decide), a2, z_sbind]
          dsimp only
          rcases zg_word10 (i := 10) (F := F) a3 (by omega) hF with ⟨c2, r2, b1, b2, b3⟩ | ⟨c2, r2, b1, b2, b3, b4, b5⟩
          · left
            rw [show ot_take (10 : Int32) c1 = _ from b1, show mm_needsWord F (458690 : Int64) r1 = _ from b2, z_sbind, z_sbind, if_pos zn_p0, if_pos zn_p0, z_sbind, if_pos (show (0 : Int32) = 0 from rfl)]
            exact ⟨c2, r2, rfl, rfl, b3⟩
          · rw [show ot_take (10 : Int32) c1 = _ from b1, show mm_needsWord F (458690 : Int64) r1 = _ from b2, z_sbind, z_sbind, if_neg zn_p1, if_neg zn_p1]
            dsimp only
            obtain ⟨p1, p2, p3, p4⟩ := hp
            have kc2 : zg_KC Y.1.2.2 q c c2 := zg_KC_t (zg_KC_k (q := q) a4 (by omega)) (zg_KC_k (q := q) b4 (by omega)) (Nat.le_refl _)
            have q2 : c2.1 Y.1.2.2 2 = nI q := by rw [b4.1 _ (by omega) (by omega) (by omega), a4.1 _ (by omega) (by omega) (by omega)]; exact p1
            have g2 : r2.1 0 26 = nI (1000 + g) := by rw [b5.2.1 26 (by omega) (by omega) (by omega) (by omega), a5.2.1 26 (by omega) (by omega) (by omega) (by omega)]; exact p2
            have r1x : ∀ id, id ≠ 0 → r2.1 id = r.1 id := fun id z => by rw [b5.1 id z, a5.1 id z]
            rw [g2, show (6 : Int32) = nI 6 from rfl, nI_add, z_wr (by omega) (by omega), z_sbind]
            unfold mm_reads
            rw [zp_nz0, show g_wr (g_sI r2 14 (6 + n) (nI (1000 + g))) 18 7 (0 : Int32) (nI 0) = some (g_sI (g_sI r2 14 (6 + n) (nI (1000 + g))) 18 0 (nI 0)) from z_wr (i := 0) (by omega) (by omega), z_sbind]
            have hV3 : zg_V Y (j + 1 + 1) c2 (g_sI (g_sI r2 14 (6 + n) (nI (1000 + g))) 18 0 (nI 0)) := zg_V_18 (zg_V_R b3 (fun id z z2 => z_sI_f (by omega)) (fun k z => z_sI_id (by omega)) rfl (fun k z => ⟨z_sI_k (by omega), z_sI_id (by omega)⟩) (fun k z => z_sI_id (by omega))) (Or.inr rfl)
            have x18 : (g_sI (g_sI r2 14 (6 + n) (nI (1000 + g))) 18 0 (nI 0)).1 18 0 = nI 0 := by rw [z_sI_same]
            have x14 : (g_sI (g_sI r2 14 (6 + n) (nI (1000 + g))) 18 0 (nI 0)).1 14 (6 + n) = nI (1000 + g) := by rw [z_sI_id (by omega), z_sI_same]
            have x26 : (g_sI (g_sI r2 14 (6 + n) (nI (1000 + g))) 18 0 (nI 0)).1 0 26 = nI (1000 + g) := by rw [z_sI_id (by omega), z_sI_id (by omega)]; exact g2
            have x16 : (g_sI (g_sI r2 14 (6 + n) (nI (1000 + g))) 18 0 (nI 0)).1 16 = r.1 16 := by rw [z_sI_f (by omega), z_sI_f (by omega)]; exact r1x 16 (by omega)
            have xx : ∀ k, k < 6 + n → (g_sI (g_sI r2 14 (6 + n) (nI (1000 + g))) 18 0 (nI 0)).1 14 k = r.1 14 k ∧ (g_sI (g_sI r2 14 (6 + n) (nI (1000 + g))) 18 0 (nI 0)).1 15 k = r.1 15 k := fun k z => by
              rw [z_sI_id (by omega), z_sI_k (by omega), z_sI_id (by omega), z_sI_id (by omega), r1x 14 (by omega), r1x 15 (by omega)]; exact ⟨rfl, rfl⟩
            generalize g_sI (g_sI r2 14 (6 + n) (nI (1000 + g))) 18 0 (nI 0) = r3 at hV3 x18 x14 x26 x16 xx
            have hE := zg_line hF 45 (j + 1 + 1) c2 r3 q g (by omega) hV3 ⟨q2, x26, by omega, by omega⟩ rfl x18
            have jm3 := zg_jm hV3
            rcases hE with ⟨c4, r4, i1, i2, i3⟩ | ⟨j2, c4, r4, q4, g4, φ, i1, i2, i3, i4, i5, i6, i7, i8, i9, i10, ⟨⟨⟨n42, n43⟩, n60⟩, n11⟩⟩
            · left
              have y := i2 (F - (Y.2.2.2.2 + 1 - (j + 1 + 1)))
              rw [show F - (Y.2.2.2.2 + 1 - (j + 1 + 1)) + (Y.2.2.2.2 + 1 - (j + 1 + 1)) = F by omega] at y
              rw [show oe_rp F Y.1.2.2 45 true (0 : Int32) (0 : Int32) c2 = _ from i1, z_sbind, if_pos zn_p0, z_sbind, if_pos (show (0 : Int32) = 0 from rfl), show mm_reads_11 F F (0 : Int32) (1 : Int32) r3 = _ from y, z_sbind, if_pos zn_p0]
              exact ⟨c4, r4, rfl, rfl, i3⟩
            · have jm4 := zg_jm i4
              have kd4 := zg_V_kd i4
              have k44 := zn_kd_lt kd4
              have h84 : c4.1 1 8 = nI (zn_k (zp_t Y j2)) := i4.1.2.2.2.2.2.2.1
              have ha4 : zn_at (zp_t Y j2) r4 := i4.2.1.2.2.2
              have y : ∀ x, mm_reads_11 F (x + 1) (nI 0) (0 : Int32) r4 = mm_reads_11 F (x + 1) (nI 0) (0 : Int32) r4 := fun _ => rfl
              have y2 := i2 (F - (j2 - (j + 1 + 1)))
              rw [show F - (j2 - (j + 1 + 1)) + (j2 - (j + 1 + 1)) = F by omega] at y2
              obtain ⟨fx, hfx⟩ : ∃ fx, F - (j2 - (j + 1 + 1)) = fx + 1 := ⟨F - (j2 - (j + 1 + 1)) - 1, by omega⟩
              rw [hfx] at y2
              rw [show oe_rp F Y.1.2.2 45 true (0 : Int32) (0 : Int32) c2 = _ from i1, z_sbind, if_neg zn_p1, show mm_reads_11 F F (0 : Int32) (1 : Int32) r3 = _ from y2]
              unfold ot_take
              dsimp only
              rw [h84]
              by_cases e59 : zn_k (zp_t Y j2) = 59
              · obtain ⟨nj4, jlt4⟩ := zg_n_lt i4 (by omega)
                obtain ⟨c5, r5, b1, b2, b3', b4', b5'⟩ := zg_adv i4 hF
                rw [nj4] at b3'
                rw [if_pos (show nI _ = (59 : Int32) by rw [e59]; rfl), b1, z_sbind, z_sbind, if_neg (show ¬ (1 : Int32) = 0 by decide), zg_n8 i4.2.1.1 ha4 kd4 e59, b2, z_sbind, z_sbind, if_neg zn_p1]
                have l5 : c5.1 Y.1.2.2 3 = nI n := by rw [b4'.1 _ (by omega) (by omega) (by omega), i7.2.2, kc2.2.2]; exact hl.2.1
                have q5 : c5.1 Y.1.2.2 2 = nI q4 := by rw [b4'.1 _ (by omega) (by omega) (by omega)]; exact i5.1
                have g5 : r5.1 0 26 = nI (1000 + g4) := by rw [b5'.2.1 26 (by omega) (by omega) (by omega) (by omega)]; exact i5.2.1
                unfold ou_endLine
                dsimp only
                rw [l5, if_pos (show nI n < (6 : Int32) from nI_lt (b := 6) (by omega) (by omega)), q5, z_wr (by omega) (by omega), z_sbind, z_sbind, z_sI_id (by omega), l5, z_sbind, z_sbind, nI_1, if_neg (show ¬ (1 : Int32) = 0 by decide), g5, z_wr (by omega) (by omega), z_sbind, nI_1]
                have i5q := i5.2.2.1
                have i5g := i5.2.2.2
                have e16 : ∀ i, i < 1000 + g → r5.1 16 i = r.1 16 i := fun i z => by rw [b5'.1 16 (by omega), i8.1 i z, x16]
                have e14 : ∀ k, k < 6 + n → r5.1 14 k = r.1 14 k ∧ r5.1 15 k = r.1 15 k := fun k z => by rw [b5'.1 14 (by omega), b5'.1 15 (by omega), i8.2.1.1, i8.2.1.2]; exact xx k z
                have e14n : r5.1 14 (6 + n) = nI (1000 + g) := by rw [b5'.1 14 (by omega), i8.2.1.1]; exact x14
                have c5k : zg_KC Y.1.2.2 q c c5 := zg_KC_t kc2 (zg_KC_t i7 (zg_KC_k (q := q4) b4' (by omega)) i6.1) (Nat.le_refl _)
                have hl5 := zg_ln_k hl c5k e16 e14
                have ev : zg_c (c5.1 (Y.1.2.2 + 1)) q q4 32 φ := ⟨i9.1, fun S' hS => zu_cd_h (i9.2 S' (fun i z1 z2 => by rw [hS i z1 z2, b4'.1 _ (by omega) (by omega) (by omega)])) (by omega)⟩
                have ev2 : zg_r zq_E (r5.1 16) g g4 6 φ := zg_r_k i10 (fun i z => by rw [b5'.1 16 (by omega)])
                have hV6 : zg_V Y (j2 + 1) (g_sI (g_sI c5 (Y.1.2.2 + 2) n (nI q4)) Y.1.2.2 3 (nI (n + 1))) (g_sI r5 15 (6 + n) (nI (1000 + g4))) := by
                  have hv := zg_V_R (r2 := g_sI r5 15 (6 + n) (nI (1000 + g4))) b3' (fun id z z2 => z_sI_f (by omega)) (fun k z => z_sI_id (by omega)) rfl (fun k z => ⟨z_sI_id (by omega), z_sI_k (by omega)⟩) (fun k z => z_sI_id (by omega))
                  obtain ⟨v1, v2, v3, v4, v5, v6⟩ := hv
                  have ee : ∀ id, (id < Y.1.2.2 ∨ Y.1.2.2 + 4 ≤ id) → (g_sI (g_sI c5 (Y.1.2.2 + 2) n (nI q4)) Y.1.2.2 3 (nI (n + 1))).1 id = c5.1 id := fun id z => by rw [z_sI_f (by omega), z_sI_f (by omega)]
                  exact ⟨zn_C_w v1 (fun id z1 z2 => ee id (by omega)) (fun id _ _ => rfl), v2, v3, by rw [ee 1 (by omega)]; exact v4, ⟨fun id z1 z2 => by rw [ee id z2]; exact v5.1 id z1 z2, v5.2.1, v5.2.2.1, by rw [ee 1 (by omega)]; exact v5.2.2.2.1, v5.2.2.2.2⟩, v6⟩
                have hl6 : zg_ln Y (n + 1) (fun k => if k = n then φ else U k) (g_sI (g_sI c5 (Y.1.2.2 + 2) n (nI q4)) Y.1.2.2 3 (nI (n + 1))) (g_sI r5 15 (6 + n) (nI (1000 + g4))) q4 g4 := by
                  obtain ⟨h1, h2, ⟨e, e1, e2, e3⟩, h4⟩ := hl5
                  have qq := i9.1
                  refine ⟨by omega, by rw [z_sI_same], ⟨fun k => if k = n + 1 then q4 else e k, ?_, ?_, fun k hk => ?_⟩, fun k hk => ?_⟩
                  · show (if 0 = n + 1 then q4 else e 0) = 0
                    rw [if_neg (by omega)]; exact e1
                  · show (if n + 1 = n + 1 then q4 else e (n + 1)) = q4
                    rw [if_pos rfl]
                  · dsimp only
                    rw [z_sI_f (a := Y.1.2.2 + 1) (by omega), z_sI_f (a := Y.1.2.2 + 1) (by omega), z_sI_id (by omega)]
                    by_cases ek : k = n
                    · rw [ek, if_pos rfl, if_pos rfl, if_neg (by omega), z_sI_same, e2]
                      exact ⟨rfl, Nat.le_refl _, ev⟩
                    · rw [if_neg (show ¬ k + 1 = n + 1 by omega), if_neg ek, if_neg (show ¬ k = n + 1 by omega), z_sI_k ek]
                      have := e3 k (by omega)
                      exact ⟨this.1, by omega, this.2.2⟩
                  · dsimp only
                    by_cases ek : k = n
                    · rw [ek, if_pos rfl, z_sI_id (by omega), z_sI_same, z_sI_f (a := 16) (by omega)]
                      exact ⟨g, g4, e14n, rfl, Nat.le_refl _, ev2⟩
                    · obtain ⟨a, b, b1, b2, b3, b4⟩ := h4 k (by omega)
                      rw [if_neg ek, z_sI_id (by omega), z_sI_k (by omega), z_sI_f (a := 16) (by omega)]
                      exact ⟨a, b, b1, b2, by omega, b4⟩
                exact ih (Y.2.2.2.2 - (j2 + 1)) (by omega) (i + 1) (j2 + 1) f f' (n + 1) q4 g4 _ _ _ rfl (by omega) (by omega) (by omega) hV6 ⟨by rw [z_sI_k (by omega), z_sI_id (by omega)]; exact q5, by rw [z_sI_id (by omega)]; exact g5, by omega, by omega⟩ hl6
              · left
                have w4 := zg_wr i4 1
                rw [if_neg (show ¬ nI _ = (59 : Int32) by show ¬ nI _ = nI 59; rw [z_eq (by omega) (by omega)]; exact e59), show ot_wrong (1 : Int32) c4 = _ from w4.1, z_sbind, z_sbind, zg_n9 i4.2.1.1 ha4 kd4 (by omega) (by omega) n60 n11 (by omega) (by omega), w4.2, z_sbind, if_pos zn_p0]
                refine ⟨_, _, ?_, rfl, zg_bad (f := 1) i4 (by omega)⟩
                show ((if nI 0 &&& (1 : Int32) = 0 then some ((0 : Int32), _) else _).bind _) = _
                rw [zn_a0, if_pos zn_p0, z_sbind, if_pos (show (0 : Int32) = 0 from rfl)]
      · left
        rw [if_neg (show ¬ nI _ = (9 : Int32) by show ¬ nI _ = nI 9; rw [z_eq (by omega) (by omega)]; exact e9), if_neg e9, if_pos zn_p0, show mm_fails (1 : Int32) r = _ from w1.2, z_sbind]
        unfold oe_readLine_24 ot_take mm_rule_64
        rw [h8, if_neg (show ¬ nI _ = (9 : Int32) by show ¬ nI _ = nI 9; rw [z_eq (by omega) (by omega)]; exact e9), show ot_wrong (1 : Int32) c = _ from w1.1, z_sbind, z_sbind, if_pos zn_p0]
        refine ⟨_, _, ?_, rfl, zg_bad (f := 1) h (by omega)⟩
        show ((if nI 0 &&& (1 : Int32) = 0 then some ((0 : Int32), _) else _).bind _) = _
        rw [zn_a0, if_pos zn_p0, z_sbind, if_pos (show (0 : Int32) = 0 from rfl)]
