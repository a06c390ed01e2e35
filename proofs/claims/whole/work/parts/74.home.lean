/-! Layer 2: houses: exactly k, at most k -/
theorem z_sub_next : ∀ (p s q : Nat), z_in p s → z_in q s → q < p → q ≤ (p - 1) &&& s := by
  intro p
  induction p using Nat.strongRecOn with
  | _ p ih =>
    intro s q hp hq hlt
    have hp2 : z_in (p / 2) (s / 2) := by unfold z_in at *; rw [← Nat.and_div_two, hp]
    have hq2 : z_in (q / 2) (s / 2) := by unfold z_in at *; rw [← Nat.and_div_two, hq]
    have xd : ((p - 1) &&& s) / 2 = (p - 1) / 2 &&& s / 2 := Nat.and_div_two
    have xm : ((p - 1) &&& s) % 2 = (p - 1) % 2 &&& s % 2 := Nat.and_mod_two_pow (n := 1)
    have qm : q % 2 ≤ s % 2 := by
      have : (q &&& s) % 2 = q % 2 &&& s % 2 := Nat.and_mod_two_pow (n := 1)
      unfold z_in at hq
      rw [hq] at this
      rw [this]; exact Nat.and_le_right
    rcases (by omega : p % 2 = 1 ∨ p % 2 = 0) with e | e
    · have e1 : (p - 1) / 2 = p / 2 := by omega
      unfold z_in at hp2
      rw [e1, hp2] at xd
      omega
    · have e1 : (p - 1) / 2 = p / 2 - 1 := by omega
      have e2 : (p - 1) % 2 = 1 := by omega
      have i := ih (p / 2) (by omega) (s / 2) (q / 2) hp2 hq2 (by omega)
      have e3 : (1 : Nat) &&& s % 2 = s % 2 := by
        rcases (by omega : s % 2 = 0 ∨ s % 2 = 1) with q | q <;> rw [q] <;> rfl
      rw [e1] at xd
      rw [e2, e3] at xm
      rw [← xd] at i
      omega
theorem z_ss_all {s q : Nat} (h0 : q ≠ 0) (hq : z_in q s) : ∀ p, z_in p s → q ≤ p → q ∈ z_ss s p := by
  intro p
  induction p using Nat.strongRecOn with
  | _ p ih =>
    intro hp hle
    have hpn : p ≠ 0 := by omega
    rw [z_ss_s hpn]
    by_cases e : q = p
    · rw [e]; exact List.mem_cons_self
    · have hand : (p - 1) &&& s ≤ p - 1 := Nat.and_le_left
      exact List.mem_cons_of_mem _ (ih _ (by omega) z_in_and (z_sub_next p s q hp hq (by omega)))
def z_mx (f : Nat → Nat) (a : Nat) (l : List Nat) : Nat := l.foldl (fun a p => max a (f p)) a
theorem z_mx_le {f : Nat → Nat} {b : Nat} : ∀ {l : List Nat} {a : Nat}, z_mx f a l ≤ b ↔ a ≤ b ∧ ∀ p, p ∈ l → f p ≤ b
  | [], a => ⟨fun h => ⟨h, fun p hp => by cases hp⟩, fun h => h.1⟩
  | x :: l, a => by
    show z_mx f (max a (f x)) l ≤ b ↔ _
    rw [z_mx_le]
    constructor
    · intro ⟨h1, h2⟩
      have h3 := Nat.max_le.mp h1
      refine ⟨h3.1, fun p hp => ?_⟩
      rcases List.mem_cons.mp hp with e | e
      · rw [e]; exact h3.2
      · exact h2 p e
    · intro ⟨h1, h2⟩
      exact ⟨Nat.max_le.mpr ⟨h1, h2 x List.mem_cons_self⟩, fun p hp => h2 p (List.mem_cons_of_mem _ hp)⟩
theorem z_le_eq {a b : Nat} (h : ∀ m, a ≤ m ↔ b ≤ m) : a = b := Nat.le_antisymm ((h b).mpr (Nat.le_refl b)) ((h a).mp (Nat.le_refl a))
/-- what one part of s adds -/
def zh_f (m : Nat → Nat) (cap : Nat) (e : Nat → Nat) (s p : Nat) : Nat := if z_pc p ≤ cap ∧ e (s ^^^ p) ≠ 0 then e (s ^^^ p) + m p else 0
def zh_l (s : Nat) : List Nat := (z_ss (s ^^^ z_lw s) (s ^^^ z_lw s) ++ [0]).map (fun p => p ||| z_lw s)
def zh_E (m : Nat → Nat) (cap : Nat) : Nat → Nat → Nat
  | 0, s => if s = 0 then 1 else 0
  | k + 1, s => if s = 0 then 0 else z_mx (zh_f m cap (zh_E m cap k) s) 0 (zh_l s)
def zh_g (m : Nat → Nat) (cap : Nat) (e : Nat → Nat) (s p : Nat) : Nat := if p &&& z_lw s = 0 then 0 else zh_f m cap e s p
def zh_D (m : Nat → Nat) (cap : Nat) : Nat → Nat → Nat
  | 0, s => if s = 0 then 1 else 0
  | k + 1, s => if s = 0 then 1 else z_mx (zh_g m cap (zh_D m cap k) s) 0 (z_ss s s)
def zh_P (s p : Nat) : Prop := z_in p s ∧ z_in (z_lw s) p
theorem z_lw_two : ∀ s, s < 256 → s = 0 ∨ ∃ i, i < 8 ∧ z_lw s = 2 ^ i := by decide +kernel
theorem z_and_two {p i : Nat} : p &&& 2 ^ i = 0 ∨ z_in (2 ^ i) p := by
  cases e : p.testBit i with
  | false =>
    left
    apply Nat.eq_of_testBit_eq
    intro j
    rw [Nat.testBit_and, Nat.testBit_two_pow, Nat.zero_testBit]
    by_cases h : i = j
    · subst h; rw [e]; rfl
    · rw [decide_eq_false h, Bool.and_false]
  | true =>
    right
    rw [z_in_tb]
    intro j hj
    rw [Nat.testBit_two_pow] at hj
    have := of_decide_eq_true hj
    subst this; exact e
theorem zh_l_mem {s p : Nat} (hs : s < 256) (h0 : s ≠ 0) : p ∈ zh_l s ↔ zh_P s p := by
  have hl := z_lw_in hs h0
  unfold zh_l zh_P
  rw [List.mem_map]
  constructor
  · rintro ⟨q, hq, rfl⟩
    have hin : z_in q (s ^^^ z_lw s) := by
      rcases List.mem_append.mp hq with h | h
      · exact (z_ss_mem _ _ _ _ (Nat.le_refl _) (z_in_self _) h).1
      · rw [List.mem_singleton] at h; rw [h]; show 0 &&& _ = 0; exact Nat.zero_and _
    refine ⟨z_in_or (z_in_trans hin (z_in_xor hl)) hl, ?_⟩
    rw [z_in_tb]
    intro i hi
    rw [Nat.testBit_or, hi, Bool.or_true]
  · rintro ⟨h1, h2⟩
    refine ⟨p ^^^ z_lw s, ?_, ?_⟩
    · have hin : z_in (p ^^^ z_lw s) (s ^^^ z_lw s) := by
        rw [z_in_tb] at *
        intro i hi
        rw [Nat.testBit_xor] at *
        have a := h1 i
        have b := h2 i
        revert hi a b
        cases p.testBit i <;> cases (z_lw s).testBit i <;> cases s.testBit i <;> simp
      by_cases e : p ^^^ z_lw s = 0
      · rw [e]; exact List.mem_append_right _ (List.mem_singleton.mpr rfl)
      · exact List.mem_append_left _ (z_ss_all e hin _ (z_in_self _) (z_in_le hin))
    · apply Nat.eq_of_testBit_eq
      intro i
      rw [z_in_tb] at h2
      have b := h2 i
      rw [Nat.testBit_or, Nat.testBit_xor]
      revert b
      cases p.testBit i <;> cases (z_lw s).testBit i <;> simp
theorem zh_E_le {m : Nat → Nat} {cap k s b : Nat} (hs : s < 256) (h0 : s ≠ 0) : zh_E m cap (k + 1) s ≤ b ↔ ∀ p, zh_P s p → zh_f m cap (zh_E m cap k) s p ≤ b := by
  show (if s = 0 then 0 else z_mx (zh_f m cap (zh_E m cap k) s) 0 (zh_l s)) ≤ b ↔ _
  rw [if_neg h0, z_mx_le]
  constructor
  · intro h p hp; exact h.2 p ((zh_l_mem hs h0).mpr hp)
  · intro h; exact ⟨Nat.zero_le _, fun p hp => h p ((zh_l_mem hs h0).mp hp)⟩
theorem zh_D_le {m : Nat → Nat} {cap k s b : Nat} (hs : s < 256) (h0 : s ≠ 0) : zh_D m cap (k + 1) s ≤ b ↔ ∀ p, zh_P s p → zh_f m cap (zh_D m cap k) s p ≤ b := by
  show (if s = 0 then 1 else z_mx (zh_g m cap (zh_D m cap k) s) 0 (z_ss s s)) ≤ b ↔ _
  rw [if_neg h0, z_mx_le]
  have hl := z_lw_two s hs
  obtain ⟨i, hi, hl⟩ := hl.resolve_left h0
  constructor
  · intro h p hp
    have hp0 : ¬ p &&& z_lw s = 0 := by
      intro q
      have := hp.2
      unfold z_in at this
      rw [Nat.and_comm, this, hl] at q
      exact absurd q (Nat.ne_of_gt (Nat.two_pow_pos i))
    have hpn : p ≠ 0 := fun q => hp0 (by rw [q]; exact Nat.zero_and _)
    have := h.2 p (z_ss_all hpn hp.1 s (z_in_self _) (z_in_le hp.1))
    unfold zh_g at this
    rw [if_neg hp0] at this
    exact this
  · intro h
    refine ⟨Nat.zero_le _, fun p hp => ?_⟩
    have hin := (z_ss_mem _ _ _ _ (Nat.le_refl _) (z_in_self _) hp).1
    unfold zh_g
    by_cases e : p &&& z_lw s = 0
    · rw [if_pos e]; exact Nat.zero_le _
    · rw [if_neg e]
      refine h p ⟨hin, ?_⟩
      rw [hl] at e ⊢
      exact (z_and_two (p := p) (i := i)).resolve_left e
def zh_M (m : Nat → Nat) (cap : Nat) : Nat → Nat → Nat
  | 0, s => zh_E m cap 0 s
  | k + 1, s => max (zh_M m cap k s) (zh_E m cap (k + 1) s)
theorem zh_M_le {m : Nat → Nat} {cap s b : Nat} : ∀ {k : Nat}, zh_M m cap k s ≤ b ↔ ∀ j, j ≤ k → zh_E m cap j s ≤ b
  | 0 => ⟨fun h j hj => by have : j = 0 := by omega
                           rw [this]; exact h, fun h => h 0 (Nat.le_refl 0)⟩
  | k + 1 => by
    show max (zh_M m cap k s) (zh_E m cap (k + 1) s) ≤ b ↔ _
    rw [Nat.max_le, zh_M_le]
    constructor
    · intro ⟨h1, h2⟩ j hj
      by_cases e : j = k + 1
      · rw [e]; exact h2
      · exact h1 j (by omega)
    · intro h
      exact ⟨fun j hj => h j (by omega), h (k + 1) (Nat.le_refl _)⟩
theorem zh_M_at {m : Nat → Nat} {cap s : Nat} : ∀ k, ∃ j, j ≤ k ∧ zh_M m cap k s = zh_E m cap j s
  | 0 => ⟨0, Nat.le_refl 0, rfl⟩
  | k + 1 => by
    obtain ⟨j, h1, h2⟩ := zh_M_at (m := m) (cap := cap) (s := s) k
    show ∃ j, _ ∧ max (zh_M m cap k s) (zh_E m cap (k + 1) s) = _
    by_cases e : zh_M m cap k s ≤ zh_E m cap (k + 1) s
    · exact ⟨k + 1, Nat.le_refl _, Nat.max_eq_right e⟩
    · exact ⟨j, by omega, by rw [Nat.max_eq_left (by omega), h2]⟩
theorem zh_f_mono {m : Nat → Nat} {cap s p : Nat} {e e2 : Nat → Nat} (h : e (s ^^^ p) ≤ e2 (s ^^^ p)) : zh_f m cap e s p ≤ zh_f m cap e2 s p := by
  unfold zh_f
  by_cases a : z_pc p ≤ cap ∧ e (s ^^^ p) ≠ 0
  · rw [if_pos a, if_pos ⟨a.1, by omega⟩]; omega
  · rw [if_neg a]; exact Nat.zero_le _
theorem zh_E_M {m : Nat → Nat} {cap s k j : Nat} (h : j ≤ k) : zh_E m cap j s ≤ zh_M m cap k s := zh_M_le.mp (Nat.le_refl _) j h
/-- at most k is the best of exactly j, j ≤ k -/
theorem zh_DM {m : Nat → Nat} {cap : Nat} : ∀ k s, s < 256 → zh_D m cap k s = zh_M m cap k s
  | 0, _, _ => rfl
  | k + 1, s, hs => by
    by_cases h0 : s = 0
    · subst h0
      have : ∀ k, zh_M m cap k 0 = 1 := by
        intro k
        induction k with
        | zero => rfl
        | succ k ih => show max (zh_M m cap k 0) 0 = 1; rw [ih]; rfl
      rw [this]; rfl
    · refine z_le_eq (fun b => ?_)
      rw [zh_D_le hs h0, zh_M_le]
      have lt : ∀ p, zh_P s p → s ^^^ p < 256 := fun p hp => Nat.xor_lt_two_pow (n := 8) hs (Nat.lt_of_le_of_lt (z_in_le hp.1) hs)
      constructor
      · intro h j hj
        cases j with
        | zero => show (if s = 0 then 1 else 0) ≤ b; rw [if_neg h0]; exact Nat.zero_le _
        | succ j =>
          rw [zh_E_le hs h0]
          intro p hp
          refine Nat.le_trans (zh_f_mono ?_) (h p hp)
          rw [zh_DM k _ (lt p hp)]
          exact zh_E_M (by omega)
      · intro h p hp
        obtain ⟨j, j1, j2⟩ := zh_M_at (m := m) (cap := cap) (s := s ^^^ p) k
        have := (zh_E_le (m := m) (cap := cap) (k := j) (b := b) hs h0).mp (h (j + 1) (by omega)) p hp
        refine Nat.le_trans (zh_f_mono ?_) this
        rw [zh_DM k _ (lt p hp), j2]
        exact Nat.le_refl _
