/-! Layer 2: houses: who can live at all; any part may go first -/
theorem z_pc_add {s p : Nat} (h : z_in p s) : z_pc (s ^^^ p) + z_pc p = z_pc s := by
  unfold z_pc
  rw [← z_sum_add]
  refine z_sum_congr (fun i _ => ?_)
  rw [z_bit_tb, z_bit_tb, z_bit_tb, Nat.testBit_xor]
  rw [z_in_tb] at h
  have := h i
  revert this
  cases p.testBit i <;> cases s.testBit i <;> simp
theorem z_pc_lw : ∀ s, s < 256 → s = 0 ∨ z_pc (z_lw s) = 1 := by decide +kernel
theorem z_pc_0 : ∀ s, s < 256 → z_pc s = 0 → s = 0 := by decide +kernel
theorem zh_f_nz {m : Nat → Nat} {cap s p : Nat} {e : Nat → Nat} (h : zh_f m cap e s p ≠ 0) : z_pc p ≤ cap ∧ e (s ^^^ p) ≠ 0 := by
  unfold zh_f at h
  by_cases a : z_pc p ≤ cap ∧ e (s ^^^ p) ≠ 0
  · exact a
  · rw [if_neg a] at h; exact absurd rfl h
theorem z_xor_lt8 {s p : Nat} (hs : s < 256) (hp : z_in p s) : s ^^^ p < 256 := Nat.xor_lt_two_pow (n := 8) hs (Nat.lt_of_le_of_lt (z_in_le hp) hs)
/-- k houses hold at most cap * k -/
theorem zh_E_pc {m : Nat → Nat} {cap : Nat} : ∀ k s, s < 256 → zh_E m cap k s ≠ 0 → z_pc s ≤ cap * k
  | 0, s, _, h => by
    by_cases e : s = 0
    · subst e; exact Nat.zero_le _
    · exact absurd (show zh_E m cap 0 s = 0 from if_neg e) h
  | k + 1, s, hs, h => by
    by_cases h0 : s = 0
    · exact absurd (show zh_E m cap (k + 1) s = 0 from if_pos h0) h
    · refine Decidable.byContradiction (fun hn => h (Nat.le_zero.mp ((zh_E_le hs h0).mpr (fun p hp => ?_))))
      refine Nat.le_zero.mpr (Decidable.byContradiction (fun hz => hn ?_))
      have a := zh_f_nz hz
      have ih := zh_E_pc k (s ^^^ p) (z_xor_lt8 hs hp.1) a.2
      have := z_pc_add hp.1
      rw [Nat.mul_succ]; omega
theorem zh_part {s : Nat} (hs : s < 256) (h0 : s ≠ 0) : ∀ n, n < z_pc s → ∃ p, zh_P s p ∧ z_pc p = z_pc s - n
  | 0, _ => ⟨s, ⟨z_in_self s, z_lw_in hs h0⟩, rfl⟩
  | n + 1, h => by
    obtain ⟨p, hp, hc⟩ := zh_part hs h0 n (by omega)
    have hp8 : p < 256 := Nat.lt_of_le_of_lt (z_in_le hp.1) hs
    have l1 := (z_pc_lw s hs).resolve_left h0
    have q1 := z_pc_add hp.2
    have q8 : p ^^^ z_lw s < 256 := z_xor_lt8 hp8 hp.2
    have qn : p ^^^ z_lw s ≠ 0 := by
      intro e
      rw [e] at q1
      have : z_pc 0 = 0 := rfl
      omega
    have l2 := (z_pc_lw _ q8).resolve_left qn
    have in2 := z_lw_in q8 qn
    have in3 : z_in (z_lw (p ^^^ z_lw s)) p := z_in_trans in2 (z_in_xor hp.2)
    have q2 := z_pc_add in3
    refine ⟨p ^^^ z_lw (p ^^^ z_lw s), ⟨z_in_trans (z_in_xor in3) hp.1, ?_⟩, by omega⟩
    have h2 := hp.2
    rw [z_in_tb] at h2 in2 ⊢
    intro i hi
    have a := h2 i hi
    have b := in2 i
    rw [Nat.testBit_xor] at b ⊢
    rw [hi, a] at b
    rw [a]
    revert b
    cases (z_lw (p ^^^ z_lw s)).testBit i <;> simp
theorem zh_M_pos {m : Nat → Nat} {cap : Nat} (hc : 1 ≤ cap) : ∀ k s, s < 256 → z_pc s ≤ cap * k → zh_M m cap k s ≠ 0
  | 0, s, hs, h => by
    have := z_pc_0 s hs (by omega)
    subst this
    show (if 0 = 0 then 1 else 0) ≠ 0
    rw [if_pos rfl]; omega
  | k + 1, s, hs, h => by
    rw [← zh_DM (k + 1) s hs]
    by_cases h0 : s = 0
    · subst h0; show (if 0 = 0 then 1 else _) ≠ 0; rw [if_pos rfl]; omega
    · intro hz
      have hp1 : 0 < z_pc s := Nat.pos_of_ne_zero (fun q => h0 (z_pc_0 s hs q))
      rw [Nat.mul_succ] at h
      have key : ∃ p, zh_P s p ∧ z_pc p ≤ cap ∧ z_pc (s ^^^ p) ≤ cap * k := by
        by_cases a : z_pc s ≤ cap
        · obtain ⟨p, hp, hc2⟩ := zh_part hs h0 0 hp1
          have := z_pc_add hp.1
          refine ⟨p, hp, by omega, by omega⟩
        · obtain ⟨p, hp, hc2⟩ := zh_part hs h0 (z_pc s - cap) (by omega)
          have := z_pc_add hp.1
          exact ⟨p, hp, by omega, by omega⟩
      obtain ⟨p, hp, p1, p2⟩ := key
      have ih := zh_M_pos (m := m) hc k (s ^^^ p) (z_xor_lt8 hs hp.1) p2
      rw [← zh_DM k _ (z_xor_lt8 hs hp.1)] at ih
      have := (zh_D_le (m := m) (cap := cap) (k := k) (b := 0) hs h0).mp (by omega) p hp
      unfold zh_f at this
      rw [if_pos ⟨p1, ih⟩] at this
      omega
theorem zh_M_can {m : Nat → Nat} {cap k s : Nat} (hc : 1 ≤ cap) (hs : s < 256) : (zh_M m cap k s ≠ 0) = (z_pc s ≤ cap * k) := by
  apply propext
  constructor
  · intro h
    obtain ⟨j, j1, j2⟩ := zh_M_at (m := m) (cap := cap) (s := s) k
    rw [j2] at h
    exact Nat.le_trans (zh_E_pc j s hs h) (Nat.mul_le_mul_left _ j1)
  · exact zh_M_pos hc k s hs
theorem z_lw_tb : ∀ s, s < 256 → ∀ i, i < 8 → (z_lw s = 2 ^ i ↔ (s.testBit i = true ∧ ∀ j, j < i → s.testBit j = false)) := by decide +kernel
theorem z_lw_same (s p : Nat) (hs : s < 256) (hp : z_in p s) (h : z_in (z_lw s) (s ^^^ p)) : z_lw (s ^^^ p) = z_lw s := by
  by_cases h0 : s = 0
  · subst h0
    have : p = 0 := Nat.le_zero.mp (z_in_le hp)
    subst this; rfl
  · obtain ⟨i, hi, hl⟩ := (z_lw_two s hs).resolve_left h0
    rw [hl]
    rw [hl] at h
    have a := (z_lw_tb s hs i hi).mp hl
    refine (z_lw_tb (s ^^^ p) (z_xor_lt8 hs hp) i hi).mpr ⟨(z_in_tb.mp h) i (Nat.testBit_two_pow_self), fun j hj => ?_⟩
    have b := a.2 j hj
    have c := (z_in_tb.mp hp) j
    rw [Nat.testBit_xor, b]
    rw [b] at c
    revert c
    cases p.testBit j <;> simp
/-- any part may go first -/
theorem zh_E_any {m : Nat → Nat} {cap : Nat} : ∀ k s p, s < 256 → z_in p s → p ≠ 0 → zh_f m cap (zh_E m cap k) s p ≤ zh_E m cap (k + 1) s
  | k, s, p, hs, hp, hp0 => by
    have h0 : s ≠ 0 := fun q => by subst q; have := z_in_le hp; omega
    by_cases hz : zh_f m cap (zh_E m cap k) s p = 0
    · rw [hz]; exact Nat.zero_le _
    · have a := zh_f_nz hz
      have lw := z_lw_two s hs
      obtain ⟨i, hi, hl⟩ := lw.resolve_left h0
      by_cases hin : z_in (z_lw s) p
      · exact (zh_E_le hs h0).mp (Nat.le_refl _) p ⟨hp, hin⟩
      · -- the lowest one is in another part
        have hlr : z_in (z_lw s) (s ^^^ p) := by
          have h1 := z_lw_in hs h0
          rw [hl] at hin h1 ⊢
          have h2 : p &&& 2 ^ i = 0 := (z_and_two (p := p) (i := i)).resolve_right hin
          have h3 : p.testBit i = false := by
            have := congrArg (fun x => x.testBit i) h2
            simp only [Nat.testBit_and, Nat.testBit_two_pow_self, Bool.and_true, Nat.zero_testBit] at this
            exact this
          rw [z_in_tb] at h1 ⊢
          intro j hj
          have e := h1 j hj
          rw [Nat.testBit_two_pow] at hj
          have := of_decide_eq_true hj
          subst this
          rw [Nat.testBit_xor, e, h3]; rfl
        cases k with
        | zero =>
          exfalso
          have : s ^^^ p = 0 := Decidable.byContradiction (fun q => a.2 (if_neg q))
          rw [this] at hlr
          have := z_in_le hlr
          rw [hl] at this
          have := Nat.two_pow_pos i
          omega
        | succ k =>
          have hr8 := z_xor_lt8 hs hp
          have hr0 : s ^^^ p ≠ 0 := fun q => a.2 (if_pos q)
          -- the best part of the rest has the lowest one of it
          refine Decidable.byContradiction (fun hn => ?_)
          have hb : zh_E m cap (k + 1) (s ^^^ p) ≤ zh_E m cap (k + 2) s - m p := by
            rw [zh_E_le hr8 hr0]
            intro q hq
            by_cases hzq : zh_f m cap (zh_E m cap k) (s ^^^ p) q = 0
            · rw [hzq]; exact Nat.zero_le _
            · have aq := zh_f_nz hzq
              have hqs : z_in q s := z_in_trans hq.1 (z_in_xor hp)
              have hq0 : q ≠ 0 := by
                intro e
                have l := z_lw_two _ hr8
                obtain ⟨i2, _, hl2⟩ := l.resolve_left hr0
                have := z_in_le hq.2
                rw [hl2, e] at this
                have := Nat.two_pow_pos i2
                omega
              -- p and q are apart
              have hpq : z_in p (s ^^^ q) := by
                rw [z_in_tb]
                have u1 := z_in_tb.mp hp
                have u2 := z_in_tb.mp hq.1
                intro j hj
                have v1 := u1 j hj
                have v2 := u2 j
                rw [Nat.testBit_xor] at v2 ⊢
                rw [hj, v1] at v2
                rw [v1]
                revert v2
                cases q.testBit j <;> simp
              have ex : s ^^^ p ^^^ q = s ^^^ q ^^^ p := by rw [Nat.xor_assoc, Nat.xor_comm p q, ← Nat.xor_assoc]
              have i1 := zh_E_any (m := m) (cap := cap) k (s ^^^ q) p (z_xor_lt8 hs hqs) hpq hp0
              have i1' : zh_f m cap (zh_E m cap k) (s ^^^ q) p = zh_E m cap k (s ^^^ p ^^^ q) + m p := by
                unfold zh_f
                rw [ex] at aq ⊢
                rw [if_pos ⟨a.1, aq.2⟩]
              have lq : z_in (z_lw s) q := by
                -- the lowest one of the rest is the lowest one of s
                have := z_lw_same s p hs hp hlr
                rw [← this]; exact hq.2
              have i2 := (zh_E_le (m := m) (cap := cap) (k := k + 1) hs h0).mp (Nat.le_refl _) q ⟨hqs, lq⟩
              have i2' : zh_f m cap (zh_E m cap (k + 1)) s q = zh_E m cap (k + 1) (s ^^^ q) + m q := by
                unfold zh_f
                rw [if_pos ⟨aq.1, by omega⟩]
              have i3 : zh_f m cap (zh_E m cap k) (s ^^^ p) q = zh_E m cap k (s ^^^ p ^^^ q) + m q := by
                unfold zh_f
                rw [if_pos aq]
              rw [i3]
              have : zh_E m cap (k + 2) s = zh_E m cap (k + 1 + 1) s := rfl
              omega
          have e : zh_f m cap (zh_E m cap (k + 1)) s p = zh_E m cap (k + 1) (s ^^^ p) + m p := by
            unfold zh_f
            rw [if_pos a]
          have a2 := a.2
          have : zh_E m cap (k + 1 + 1) s = zh_E m cap (k + 2) s := rfl
          omega
