/-! Layer 2: BESIDE -/
theorem z_subs_ex {α : Type} {A : Nat → Nat → Option α} {s : Nat} {hit : Nat → Prop} {X R : Option α} (h1 : ∀ f p, p ≠ 0 → p ≤ s → z_in p s → hit p → A (f + 1) p = X) (h2 : ∀ f p, p ≠ 0 → p ≤ s → z_in p s → ¬ hit p → A (f + 1) p = A f ((p - 1) &&& s)) (he : ∀ f, A (f + 1) 0 = R) :
    ∀ f p, p ≤ s → z_in p s → p < f → ((∃ q, q ≠ 0 ∧ q ≤ p ∧ z_in q s ∧ hit q) → A f p = X) ∧ (¬ (∃ q, q ≠ 0 ∧ q ≤ p ∧ z_in q s ∧ hit q) → A f p = R) := by
  intro f
  induction f with
  | zero => intro p _ _ h; omega
  | succ f ih =>
    intro p hp hin hf
    by_cases h0 : p = 0
    · subst h0
      exact ⟨fun ⟨q, q1, q2, _, _⟩ => absurd q2 (by omega), fun _ => he f⟩
    · by_cases hh : hit p
      · exact ⟨fun _ => h1 f p h0 hp hin hh, fun q => absurd ⟨p, h0, Nat.le_refl p, hin, hh⟩ q⟩
      · have hand : (p - 1) &&& s ≤ p - 1 := Nat.and_le_left
        rw [h2 f p h0 hp hin hh]
        have i := ih ((p - 1) &&& s) (by omega) z_in_and (by omega)
        refine ⟨fun ⟨q, q1, q2, q3, q4⟩ => i.1 ⟨q, q1, ?_, q3, q4⟩, fun hn => i.2 (fun ⟨q, q1, q2, q3, q4⟩ => hn ⟨q, q1, by omega, q3, q4⟩)⟩
        have : q ≠ p := fun e => hh (e ▸ q4)
        exact z_sub_next p s q hin q3 (by omega)
theorem zh_C_in {m : Nat → Nat} {cap A pl M F t pr rs : Nat} {c : g_St} {K : Int32 → Option Int32} (hM : M ≤ 25500000) (hm : ∀ p, p < 256 → m p ≤ M) (hA : A < 256) (hpl : pl ≤ 5) (hcap : cap < 100) (hC : zh_C m cap A pl pl c) (h78 : ∀ p, p ≤ A → c.1 78 p = nI (m p)) (hin : z_in (t ||| pr) A) (ht : t < 256) (hF : 20 < F) :
    ((∃ k, k < pl ∧ zh_f m cap (zh_E m cap k) A (t ||| pr) = (zh_b m cap A pl).1) → oh_together_18 F c (nI pr) (nI rs) (nI t) K F 1 = some 1) ∧ (¬ (∃ k, k < pl ∧ zh_f m cap (zh_E m cap k) A (t ||| pr) = (zh_b m cap A pl).1) → oh_together_18 F c (nI pr) (nI rs) (nI t) K F 1 = if nI t = (0 : Int32) then K (-1) else K ((nI t - 1) &&& nI rs)) := by
  obtain ⟨d1, d2, d3, d4, d5, dE⟩ := hC
  have bb := zh_b_bd (cap := cap) hm hA pl
  have bb2 : pl * M ≤ 5 * 25500000 := Nat.mul_le_mul hpl hM
  have hp8 : t ||| pr < 256 := Nat.lt_of_le_of_lt (z_in_le hin) hA
  have step : ∀ f k, k < pl → oh_together_18 F c (nI pr) (nI rs) (nI t) K (f + 1) (nI (k + 1)) = if zE (zh_f m cap (zh_E m cap k) A (t ||| pr)) = zE (zh_b m cap A pl).1 then some 1 else oh_together_18 F c (nI pr) (nI rs) (nI t) K f (nI (k + 2)) := by
    intro f k hk
    show oh_together_18_b F c (nI pr) (nI rs) (nI t) K _ (nI (k + 1)) = _
    unfold oh_together_18_b
    rw [d3, if_pos (nI_le (by omega) (by omega)), d1, z_or, zh_C_group hM hm hA hin (by omega) hcap (fun u hu => dE k (by omega) u (z_in_le hu)) (h78 _ (z_in_le hin)) d2, z_sbind, d4, nI_1]
  have fb : ∀ k, k < pl → zh_f m cap (zh_E m cap k) A (t ||| pr) < 2147483648 := fun k hk => by
    have := zh_f_bd (cap := cap) (k := k) hm hA hp8
    have : (k + 1) * M ≤ 5 * 25500000 := Nat.mul_le_mul (by omega) hM
    omega
  constructor
  · rintro ⟨k, hk, hh⟩
    have key : ∀ n f, n ≤ k → k - n < f → oh_together_18 F c (nI pr) (nI rs) (nI t) K f (nI (n + 1)) = some 1 := by
      intro n f
      induction f generalizing n with
      | zero => intro _ h; omega
      | succ f ih =>
        intro h1 h2
        rw [step f n (by omega)]
        by_cases e : zE (zh_f m cap (zh_E m cap n) A (t ||| pr)) = zE (zh_b m cap A pl).1
        · rw [if_pos e]
        · rw [if_neg e]
          have : n ≠ k := fun q => e (by rw [q, hh])
          exact ih (n + 1) (by omega) (by omega)
    exact key 0 F (by omega) (by omega)
  · intro hn
    refine z_cnt0 (n := pl) (A := fun f k => oh_together_18 F c (nI pr) (nI rs) (nI t) K f (nI (k + 1))) (fun f k hk => ?_) (fun f => ?_) (by omega)
    · refine (step f k hk).trans ?_
      rw [if_neg]
      intro e
      rw [zE_inj (fb k hk) (by omega)] at e
      exact hn ⟨k, hk, e⟩
    · show oh_together_18_b F c (nI pr) (nI rs) (nI t) K _ (nI (pl + 1)) = _
      unfold oh_together_18_b
      rw [d3, if_neg (by rw [z_le (by omega) (by omega)]; omega)]
/-- the pair lives together in one of the best -/
def zh_bs (m : Nat → Nat) (cap A pl pr : Nat) : Prop := ∃ t, z_in t (A ^^^ pr) ∧ ∃ k, k < pl ∧ zh_f m cap (zh_E m cap k) A (t ||| pr) = (zh_b m cap A pl).1
theorem zh_C_bs {m : Nat → Nat} {cap A pl M F pr : Nat} {c : g_St} (hM : M ≤ 25500000) (hm : ∀ p, p < 256 → m p ≤ M) (hA : A < 256) (hpl : pl ≤ 5) (hcap : cap < 100) (hC : zh_C m cap A pl pl c) (h78 : ∀ p, p ≤ A → c.1 78 p = nI (m p)) (hpr : z_in pr A) (hF : 400 < F) : (zh_bs m cap A pl pr → oh_together F c (nI pr) = some 1) ∧ (¬ zh_bs m cap A pl pr → oh_together F c (nI pr) = some 0) := by
  have hr := z_in_xor hpr
  have hr8 := z_xor_lt8 hA hpr
  obtain ⟨F', rfl⟩ : ∃ f, F = f + 1 := ⟨F - 1, by omega⟩
  have sub : ∀ t, z_in t (A ^^^ pr) → z_in (t ||| pr) A := fun t ht => z_in_or (z_in_trans ht hr) hpr
  have tl : ∀ t, z_in t (A ^^^ pr) → t < 256 := fun t ht => Nat.lt_of_le_of_lt (z_in_le ht) hr8
  unfold oh_together
  rw [hC.1, z_xor]
  have bod : ∀ f t, z_in t (A ^^^ pr) → oh_together_10 (F' + 1) c (nI pr) (nI (A ^^^ pr)) (f + 1) (nI t) = oh_together_18 (F' + 1) c (nI pr) (nI (A ^^^ pr)) (nI t) (oh_together_10 (F' + 1) c (nI pr) (nI (A ^^^ pr)) f) (F' + 1) 1 := by
    intro f t ht
    have := tl t ht
    show oh_together_10_b (F' + 1) c (nI pr) (nI (A ^^^ pr)) _ (nI t) = _
    unfold oh_together_10_b
    rw [if_pos (nI_pos' (by omega))]
  have m1 : ∀ f, oh_together_10 (F' + 1) c (nI pr) (nI (A ^^^ pr)) (f + 1) (-1) = some 0 := fun f => by
    show oh_together_10_b (F' + 1) c (nI pr) (nI (A ^^^ pr)) _ (-1) = _
    unfold oh_together_10_b
    rw [if_neg (by decide)]
  have inn : ∀ f t, z_in t (A ^^^ pr) → _ := fun f t ht => zh_C_in (F := F' + 1) (rs := A ^^^ pr) (K := oh_together_10 (F' + 1) c (nI pr) (nI (A ^^^ pr)) f) hM hm hA hpl hcap hC h78 (sub t ht) (tl t ht) (by omega)
  by_cases h00 : ∃ k, k < pl ∧ zh_f m cap (zh_E m cap k) A (0 ||| pr) = (zh_b m cap A pl).1
  · have key := z_subs_ex (A := fun f t => oh_together_10 (F' + 1) c (nI pr) (nI (A ^^^ pr)) (f + 1) (nI t)) (s := A ^^^ pr) (hit := fun t => ∃ k, k < pl ∧ zh_f m cap (zh_E m cap k) A (t ||| pr) = (zh_b m cap A pl).1) (X := some 1) (R := some 1) (fun f p q1 q2 q3 q4 => (bod (f + 1) p q3).trans ((inn (f + 1) p q3).1 q4)) (fun f p q1 q2 q3 q4 => ?_) (fun f => (bod (f + 1) 0 (Nat.zero_and _)).trans ((inn (f + 1) 0 (Nat.zero_and _)).1 h00)) F' (A ^^^ pr) (Nat.le_refl _) (z_in_self _) (by omega)
    · refine ⟨fun _ => ?_, fun hn => absurd ⟨0, Nat.zero_and _, h00⟩ hn⟩
      exact (Classical.em _).elim key.1 key.2
    · refine (bod (f + 1) p q3).trans (((inn (f + 1) p q3).2 q4).trans ?_)
      have := tl p q3
      rw [if_neg (show ¬ nI p = (0 : Int32) from by show ¬ _ = nI 0; rw [z_eq (by omega) (by omega)]; exact q1), show (1 : Int32) = nI 1 from rfl, z_sub (by omega), z_and]
  · have key := z_subs_ex (A := fun f t => oh_together_10 (F' + 1) c (nI pr) (nI (A ^^^ pr)) (f + 1) (nI t)) (s := A ^^^ pr) (hit := fun t => ∃ k, k < pl ∧ zh_f m cap (zh_E m cap k) A (t ||| pr) = (zh_b m cap A pl).1) (X := some 1) (R := some 0) (fun f p q1 q2 q3 q4 => (bod (f + 1) p q3).trans ((inn (f + 1) p q3).1 q4)) (fun f p q1 q2 q3 q4 => ?_) (fun f => (bod (f + 1) 0 (Nat.zero_and _)).trans (((inn (f + 1) 0 (Nat.zero_and _)).2 h00).trans ((if_pos z_e0).trans (m1 f)))) F' (A ^^^ pr) (Nat.le_refl _) (z_in_self _) (by omega)
    · refine ⟨fun ⟨t, t1, t2⟩ => key.1 ⟨t, fun e => h00 (e ▸ t2), z_in_le t1, t1, t2⟩, fun hn => key.2 (fun ⟨q, q1, q2, q3, q4⟩ => hn ⟨q, q3, q4⟩)⟩
    · refine (bod (f + 1) p q3).trans (((inn (f + 1) p q3).2 q4).trans ?_)
      have := tl p q3
      rw [if_neg (show ¬ nI p = (0 : Int32) from by show ¬ _ = nI 0; rw [z_eq (by omega) (by omega)]; exact q1), show (1 : Int32) = nI 1 from rfl, z_sub (by omega), z_and]
/-- the reference's way of it -/
def zh_bd (m : Nat → Nat) (cap A pl pr v : Nat) : Prop := z_in pr v ∧ z_pc v ≤ cap ∧ zh_D m cap (pl - 1) (A ^^^ v) ≠ 0 ∧ zh_D m cap (pl - 1) (A ^^^ v) + m v = zh_D m cap pl A
theorem zh_bs_bd {m : Nat → Nat} {cap A pl pr : Nat} (hA : A < 256) (hA0 : A ≠ 0) (hpl : pl ≠ 0) (hpr : z_in pr A) (hp0 : pr ≠ 0) (hD : zh_D m cap pl A ≠ 0) : zh_bs m cap A pl pr ↔ ∃ v, v ≠ 0 ∧ v ≤ A ∧ z_in v A ∧ zh_bd m cap A pl pr v := by
  have dM := zh_DM (m := m) (cap := cap) pl A hA
  have bM := zh_b_M (m := m) (cap := cap) hA0 pl
  unfold zh_bs
  constructor
  · rintro ⟨t, t1, k, k1, k2⟩
    have hin : z_in (t ||| pr) A := z_in_or (z_in_trans t1 (z_in_xor hpr)) hpr
    have hp : z_in pr (t ||| pr) := by
      rw [z_in_tb]; intro i hi; rw [Nat.testBit_or, hi, Bool.or_true]
    have hv0 : t ||| pr ≠ 0 := fun e => by have := z_in_le hp; omega
    have hx8 := z_xor_lt8 hA hin
    have nz : zh_f m cap (zh_E m cap k) A (t ||| pr) ≠ 0 := by rw [k2, bM, ← dM]; exact hD
    have a := zh_f_nz nz
    have dx := zh_DM (m := m) (cap := cap) (pl - 1) _ hx8
    obtain ⟨j, j1, j2⟩ := zh_M_at (m := m) (cap := cap) (s := A ^^^ (t ||| pr)) (pl - 1)
    have ge : zh_E m cap k (A ^^^ (t ||| pr)) ≤ zh_M m cap (pl - 1) (A ^^^ (t ||| pr)) := zh_E_M (by omega)
    have any := zh_E_any (m := m) (cap := cap) j A (t ||| pr) hA hin hv0
    have le : zh_E m cap (j + 1) A ≤ zh_M m cap pl A := zh_E_M (by omega)
    have f1 : zh_f m cap (zh_E m cap k) A (t ||| pr) = zh_E m cap k (A ^^^ (t ||| pr)) + m (t ||| pr) := by unfold zh_f; rw [if_pos a]
    have a2 := a.2
    have f2 : zh_f m cap (zh_E m cap j) A (t ||| pr) = zh_E m cap j (A ^^^ (t ||| pr)) + m (t ||| pr) := by unfold zh_f; rw [if_pos ⟨a.1, by omega⟩]
    refine ⟨t ||| pr, hv0, z_in_le hin, hin, hp, a.1, ?_, ?_⟩
    · rw [dx]; omega
    · rw [dx, dM]; omega
  · rintro ⟨v, v0, v1, hin, hp, hc, hnz, he⟩
    have hx8 := z_xor_lt8 hA hin
    have dx := zh_DM (m := m) (cap := cap) (pl - 1) _ hx8
    obtain ⟨j, j1, j2⟩ := zh_M_at (m := m) (cap := cap) (s := A ^^^ v) (pl - 1)
    have ev : (v ^^^ pr) ||| pr = v := by
      apply Nat.eq_of_testBit_eq
      intro i
      have b := (z_in_tb.mp hp) i
      rw [Nat.testBit_or, Nat.testBit_xor]
      revert b
      cases v.testBit i <;> cases pr.testBit i <;> simp
    refine ⟨v ^^^ pr, ?_, j, by omega, ?_⟩
    · rw [z_in_tb]
      intro i hi
      have b := (z_in_tb.mp hp) i
      have d := (z_in_tb.mp hin) i
      rw [Nat.testBit_xor] at hi ⊢
      revert hi b d
      cases v.testBit i <;> cases pr.testBit i <;> cases A.testBit i <;> simp
    · rw [ev, bM, ← dM, ← he, dx, j2]
      rw [dx, j2] at hnz
      unfold zh_f
      rw [if_pos ⟨hc, hnz⟩]
