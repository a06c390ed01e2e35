/-! What a throw needs, at the law's entry; the words -/
theorem lj_str {args : Array Value} {s : State} (hgv : (Jvm.Cond.and given_1 narrow_1).before args s = true) {is : Nat} {tx : String} (h1 : (Cond.stringRef "OwnMade" is tx).before args s = true) (h2 : (Cond.exactly (.string "OwnMade" is) "java/lang/String").before args s = true) : ∃ a : Nat, vk_R "OwnMade" is tx a s := by
  obtain ⟨a, c, cA, kA, q1, -⟩ := Cond.exactly_spec (args := args) (first := s) (o := none) (s := s) (idx := []) (t := .string "OwnMade" is) (cls := "java/lang/String") h2
  exact ⟨a, vk_R.of (A := args) h1 q1⟩
theorem lj_TX {args : Array Value} {s : State} {A : Nat → Prop} (hgv : (Jvm.Cond.and given_1 narrow_1).before args s = true) (hts : ∀ w ∈ lw_tbl, w.before args s = true) (hA : ∀ a : Nat, a < s.heap.size → ¬ A a) : g_TX A s s.heap := by
  have hs := flat_of_before _ hgv
  refine ⟨fun is tx h => ?_, fun w hw => ?_, ?_, ?_⟩
  · rcases h with (⟨rfl, rfl⟩ | ⟨rfl, rfl⟩) | (⟨rfl, rfl⟩ | ⟨rfl, rfl⟩)
    · exact lj_str hgv (hts _ (by decide +kernel)) (hs _ (by decide +kernel))
    · exact lj_str hgv (hts _ (by decide +kernel)) (hs _ (by decide +kernel))
    · exact lj_str hgv (hts _ (by decide +kernel)) (hs _ (by decide +kernel))
    · exact lj_str hgv (hts _ (by decide +kernel)) (hs _ (by decide +kernel))
  · obtain ⟨h1, h2⟩ := List.mem_filter.mp hw
    have h3 := hts w h1
    cases w <;> first | exact va_Nw.of rfl h3 | cases h2
  · exact vx_Zqof (hts (Cond.laysStatic "java/lang/Throwable" "UNASSIGNED_STACK" "[Ljava/lang/StackTraceElement;") (by decide +kernel)) (hts (Cond.initialized "java/lang/Throwable") (by decide +kernel)) (hs _ (by decide +kernel)) hA
  · exact vx_Zqof (hts (Cond.laysStatic "java/lang/Throwable" "SUPPRESSED_SENTINEL" "Ljava/util/List;") (by decide +kernel)) (hts (Cond.initialized "java/lang/Throwable") (by decide +kernel)) (hs _ (by decide +kernel)) hA
theorem lj_nw {args : Array Value} {s : State} (hts : ∀ w ∈ lw_tbl, w.before args s = true) : ∀ w ∈ g_nw, va_Nw w s := fun w hw => by
  obtain ⟨h1, h2⟩ := List.mem_filter.mp hw
  have h3 := hts w h1
  cases w <;> first | exact va_Nw.of rfl h3 | cases h2
theorem lj_gw {args : Array Value} {s : State} (hts : ∀ w ∈ lw_tbl, w.before args s = true) : ∀ w ∈ g_gw, w.before args s = true := fun w hw => hts w (List.mem_filter.mp hw).1
theorem lj_AO {args : Array Value} {s : State} (hts : ∀ w ∈ lw_tbl, w.before args s = true) : cq_AO s := cq_AO.of (hts _ (by decide +kernel))
theorem lj_AW {args : Array Value} {s : State} (hts : ∀ w ∈ lw_tbl, w.before args s = true) : va_AO "OwnMade$Week" s := va_AO.of (hts _ (by decide +kernel))
/-- va_K at the entry: the classes are known -/
theorem lj_K {args : Array Value} {s : State} (hts : ∀ w ∈ lw_tbl, w.before args s = true) : ∃ D : va_G, va_K D g_cl [] s := by
  have hg := lj_gw hts
  have h : ∀ c : Nat, ∃ z : ClassId × (Nat → Nat), ∀ q : vw_C, g_cl[c]? = some q → u_Kn s q.1 q.2.1 q.2.2 z.1 z.2 := fun c => match c with
    | 0 => (by
      obtain ⟨cC, iS, h⟩ := u_known (n := 6) hg cf_X0.2.1 (hg _ (g_in2 (List.mem_of_getElem? (i := 70) rfl) rfl))
      exact ⟨(cC, iS), fun q hq => by rw [cf_X0.1] at hq; cases hq; exact h⟩)
    | 1 => (by
      obtain ⟨cC, iS, h⟩ := u_known (n := 12) hg cf_X1.2.1 (hg _ (g_in1 (List.mem_of_getElem? (i := 135) rfl) rfl))
      exact ⟨(cC, iS), fun q hq => by rw [cf_X1.1] at hq; cases hq; exact h⟩)
    | 2 => (by
      obtain ⟨cC, iS, h⟩ := u_known (n := 9) hg cf_X3.2.1 (hg _ (g_in2 (List.mem_of_getElem? (i := 32) rfl) rfl))
      exact ⟨(cC, iS), fun q hq => by rw [cf_X3.1] at hq; cases hq; exact h⟩)
    | 3 => (by
      obtain ⟨cC, iS, h⟩ := u_known (n := 5) hg cf_X4.2.1 (hg _ (g_in1 (List.mem_of_getElem? (i := 204) rfl) rfl))
      exact ⟨(cC, iS), fun q hq => by rw [cf_X4.1] at hq; cases hq; exact h⟩)
    | 4 => (by
      obtain ⟨cC, iS, h⟩ := u_known (n := 11) hg cf_X6.2.1 (hg _ (g_in1 (List.mem_of_getElem? (i := 33) rfl) rfl))
      exact ⟨(cC, iS), fun q hq => by rw [cf_X6.1] at hq; cases hq; exact h⟩)
    | 5 => (by
      obtain ⟨cC, iS, h⟩ := u_known (n := 9) hg cf_X7.2.1 (hg _ (g_in1 (List.mem_of_getElem? (i := 228) rfl) rfl))
      exact ⟨(cC, iS), fun q hq => by rw [cf_X7.1] at hq; cases hq; exact h⟩)
    | 6 => (by
      obtain ⟨cC, iS, h⟩ := u_known (n := 15) hg cf_X8.2.1 (hg _ (g_in1 (List.mem_of_getElem? (i := 25) rfl) rfl))
      exact ⟨(cC, iS), fun q hq => by rw [cf_X8.1] at hq; cases hq; exact h⟩)
    | 7 => (by
      obtain ⟨cC, iS, h⟩ := u_known (n := 62) hg cf_X9.2.1 (hg _ (g_in5 (List.mem_of_getElem? (i := 126) rfl) rfl))
      exact ⟨(cC, iS), fun q hq => by rw [cf_X9.1] at hq; cases hq; exact h⟩)
    | k + 8 => ⟨(0, fun _ => 0), fun q hq => by
      have : k + 8 < 8 := (List.getElem?_eq_some_iff.mp hq).1
      omega⟩
  obtain ⟨f, hf⟩ := Classical.axiomOfChoice h
  exact ⟨(fun c => (f c).1, fun c => (f c).2), fun c q hq => hf c q hq, fun k q hk => by cases hk⟩
