/-! What the Statement gives at the law's entry: the two texts, the statics -/
def lj_len : List Nat := [8, 99]
def lj_byt : List (List Int32) := [g_sb0, g_sb1]
def lj_tm (i : Nat) : Term := if i = 0 then .string "OwnMade$Tape" 81 else .string "OwnMade$Tape" 29
theorem lj_SX {args : Array Value} {s : State} {A : Nat → Prop} (hgv : (Jvm.Cond.and given_1 narrow_1).before args s = true) (hts : ∀ w ∈ lw_tbl, w.before args s = true) (hA : ∀ a : Nat, a < s.heap.size → ¬ A a) : ∃ adS : Nat → Nat, g_SX adS A s s.heap := by
  have hs := flat_of_before _ hgv
  obtain ⟨adK, adV, hS, he⟩ := vk_Sof (args := args) (s := s) (N := 2) (tm := lj_tm) (len := lj_len) (byt := lj_byt) (A := A)
    (fun i hi => by rcases (show i = 0 ∨ i = 1 by omega) with rfl | rfl <;> decide)
    (fun i hi => by rcases (show i = 0 ∨ i = 1 by omega) with rfl | rfl <;> exact hs _ (by decide +kernel))
    (fun i hi => by rcases (show i = 0 ∨ i = 1 by omega) with rfl | rfl <;> exact hs _ (by decide +kernel))
    (fun i hi => by rcases (show i = 0 ∨ i = 1 by omega) with rfl | rfl <;> exact hs _ (by decide +kernel))
    (fun i hi => by rcases (show i = 0 ∨ i = 1 by omega) with rfl | rfl <;> exact hs _ (by decide +kernel))
    (fun i hi j hj => by
      rcases (show i = 0 ∨ i = 1 by omega) with rfl | rfl
      · exact hs _ ((by decide +kernel : ∀ j, j < 8 → (Cond.eq (.elem (.field (lj_tm 0) "java/lang/String" "value" "[B") (.int (Int32.ofNat j))) (.int ((lj_byt.getD 0 []).getD j 0))) ∈ flatC (Jvm.Cond.and given_1 narrow_1)) j hj)
      · exact hs _ ((by decide +kernel : ∀ j, j < 99 → (Cond.eq (.elem (.field (lj_tm 1) "java/lang/String" "value" "[B") (.int (Int32.ofNat j))) (.int ((lj_byt.getD 1 []).getD j 0))) ∈ flatC (Jvm.Cond.and given_1 narrow_1)) j hj))
    (fun i j hi hj hne => by
      have h : (Cond.not (Cond.eq (lj_tm 0) (lj_tm 1))).before args s = true ∨ (Cond.not (Cond.eq (lj_tm 1) (lj_tm 0))).before args s = true := by
        first | exact Or.inl (hs _ (by decide +kernel)) | exact Or.inr (hs _ (by decide +kernel))
      rcases (show (i = 0 ∧ j = 1) ∨ (i = 1 ∧ j = 0) by omega) with ⟨rfl, rfl⟩ | ⟨rfl, rfl⟩
      · exact h
      · exact h.symm) hA
  have hq := va_Zqof (A := A) (hts (Cond.laysStatic "jdk/internal/util/Preconditions" "SIOOBE_FORMATTER" "Ljava/util/function/BiFunction;") (by decide +kernel)) (hts (Cond.initialized "jdk/internal/util/Preconditions") (by decide +kernel)) (hs _ (by decide +kernel)) hA
  have hz := va_Zof (A := A) (hts (Cond.laysStatic "java/lang/String" "COMPACT_STRINGS" "Z") (by decide +kernel)) (hts (Cond.initialized "java/lang/String") (by decide +kernel)) (va_eqt (hs (Cond.eq (.static "java/lang/String" "COMPACT_STRINGS" "Z") (.int 1)) (by decide +kernel))) hA
  have hr0 : vk_R "OwnMade$Tape" 81 "()<=+-*;" (adK 0) s := vk_R.of (A := args) (hts _ (by decide +kernel)) (he 0 (by omega))
  have hr1 : vk_R "OwnMade$Tape" 29 "place way good hours from person at makes wants lawful when and or not own part sort door away free" (adK 1) s := vk_R.of (A := args) (hts _ (by decide +kernel)) (he 1 (by omega))
  have hst : ∀ (ad : Nat → Nat), ad 900 = adK 0 → ad 901 = adV 0 → ad 902 = adK 1 → ad 903 = adV 1 → ∀ i : Nat, i < 2 → va_O "java/lang/String" (ad (900 + 2 * i)) A s s.heap ∧ va_OF "java/lang/String" "coder" "B" (.int 0) (ad (900 + 2 * i)) A s s.heap ∧ va_OF "java/lang/String" "value" "[B" (.ref (ad (901 + 2 * i))) (ad (900 + 2 * i)) A s s.heap ∧ va_T .byte (ad (901 + 2 * i)) (g_sl i) (fun j => .int (g_sb i j)) A s s.heap := by
    intro ad a0 a1 a2 a3 i hi
    have h := hS.1 i hi
    rcases (show i = 0 ∨ i = 1 by omega) with rfl | rfl
    · rw [show ad (900 + 2 * 0) = adK 0 from a0, show ad (901 + 2 * 0) = adV 0 from a1]; exact h
    · rw [show ad (900 + 2 * 1) = adK 1 from a2, show ad (901 + 2 * 1) = adV 1 from a3]; exact h
  rcases hq with hq | ⟨t, hq⟩
  · exact ⟨fun i => if i = 900 then adK 0 else if i = 901 then adV 0 else if i = 902 then adK 1 else adV 1, hz, hst (fun i => if i = 900 then adK 0 else if i = 901 then adV 0 else if i = 902 then adK 1 else adV 1) rfl rfl rfl rfl, hr0, hr1, Or.inl hq⟩
  · exact ⟨fun i => if i = 900 then adK 0 else if i = 901 then adV 0 else if i = 902 then adK 1 else if i = 903 then adV 1 else t, hz, hst (fun i => if i = 900 then adK 0 else if i = 901 then adV 0 else if i = 902 then adK 1 else if i = 903 then adV 1 else t) rfl rfl rfl rfl, hr0, hr1, Or.inr hq⟩
