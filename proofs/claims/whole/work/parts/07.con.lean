/-! A contract out of the judgement at a method's entry; Math, constants; the calls by what is answered -/
def g_los (as : List Value) : List (Option Value) := as.flatMap fun v => if v.category = 2 then [some v, none] else [some v]
def g_lo0 (as : List Value) (nL : Nat) : List (Option Value) := g_los as ++ List.replicate (nL - (g_los as).length) none
def g_slot (ad : Nat → Nat) (o : Option Value) : Slot := match o with
  | some v => .val (g_tr ad v)
  | none => .second
theorem g_cat (ad : Nat → Nat) (v : Value) : (g_tr ad v).category = v.category := by cases v <;> rfl
theorem g_lg (ad : Nat → Nat) (as : List Value) : lg_sl (g_tS ad as) = (g_los as).map (g_slot ad) := by
  induction as with
  | nil => rfl
  | cons v as ih =>
    have e1 : lg_sl (g_tS ad (v :: as)) = (if v.category = 2 then [Slot.val (g_tr ad v), .second] else [.val (g_tr ad v)]) ++ lg_sl (g_tS ad as) := by
      simp only [lg_sl, g_tS, List.map_cons, List.flatMap_cons, g_cat]
    have e2 : g_los (v :: as) = (if v.category = 2 then [some v, none] else [some v]) ++ g_los as := by
      simp only [g_los, List.flatMap_cons]
    rw [e1, e2, ih, List.map_append]
    congr 1
    split <;> rfl
theorem g_Lo_entry {ad : Nat → Nat} {as : List Value} {nL : Nat} (h : (g_los as).length ≤ nL) : g_Lo ad (g_lo0 as nL) nL ((lg_sl (g_tS ad as) ++ List.replicate (nL - (lg_sl (g_tS ad as)).length) Slot.unset).toArray) := by
  have hl : (lg_sl (g_tS ad as)).length = (g_los as).length := by rw [g_lg]; simp
  have hz := lv_entry (g_tS ad as) (n := nL) (by rw [hl]; exact h)
  refine ⟨hz.1, hz.2.1, fun i v hv => ?_⟩
  unfold g_lo0 at hv
  by_cases hi : i < (g_los as).length
  · rw [List.getElem?_append_left hi] at hv
    rw [List.getElem?_toArray, List.getElem?_append_left (by rw [hl]; exact hi), g_lg, List.getElem?_map, hv]
    rfl
  · rw [List.getElem?_append_right (by omega)] at hv
    have := List.mem_of_getElem? hv
    rw [List.mem_replicate] at this
    cases this.2
def g_rk (rt : Option FieldType) (r : Option Value) : Bool := match rt, r with
  | none, none => true
  | some .int, some (.int _) => true
  | some .boolean, some (.int _) => true
  | some .byte, some (.int _) => true
  | some .char, some (.int _) => true
  | some .long, some (.long _) => true
  | some (.object _), some (.ref _) => true
  | _, _ => false
theorem g_iretW {p : Program} {l : Launch} {e : Env} {R : Room} {s : State} {m : MethodId} {args : Array Value} {below : List Frame} {meth : Method} {c : Code} {H : Heap} {locs : List Loc} {cells slots : Nat} {cc : ByteArray} {Qc : Array Value → State → Outcome → State → Prop} {free : Addr → Prop} {v v2 : Int32} {ty : FieldType} (hexec : p.tables.exec = Jvm.exec) (hb : c.code = cc) (hr : meth.sig.returnType = some ty) (hn : narrow ty (.int v) = .int v2)
    (hq : ∀ t : State, t.heap = H → s.WarmedH t.vm → Qc args s (.returned (some (.int v2))) t) (hf : ∀ q ∈ locs, free q.base)
    {pc : Nat} {ls : Array Slot} (hdg : decode cc pc = .ok (.ireturn, 1)) (hlocks : meth.locks = false) : W p l e R s m args below meth c H locs cells slots (MQ below Qc args s cells slots free) (F0 m pc ls [.int v]) := by
  intro T hT X
  obtain ⟨fs, hret, hrun, hended, hW, hframe⟩ := X.leave (v := some (.int v2)) (fun h => by rw [hr] at h; cases h)
  have hmeth' : T.vm.method? m = some meth := X.method'
  refine ⟨T.setFrames fs, ?_, .returned (some (.int v2)), hrun, hended, hq _ hT hW, locs, ⟨⟨_, rfl⟩, hW, hframe⟩, hf⟩
  jvm_step X.here [X.here.top, hexec, hb, hdg, hmeth', hr, hn]
  (try refine ⟨rfl, ?_⟩); (try refine ⟨rfl, ?_⟩)
  first | (intro acts; rw [hret _ acts rfl rfl rfl]) | rw [hret _ _ rfl rfl rfl]
  exact Steps.refl _
theorem g_rk_cases {rt : Option FieldType} {r : Option Value} (h : g_rk rt r = true) : (rt = none ∧ r = none) ∨ (∃ x, rt = some .int ∧ r = some (.int x)) ∨ (∃ x, rt = some .boolean ∧ r = some (.int x)) ∨ (∃ x, rt = some .byte ∧ r = some (.int x)) ∨ (∃ x, rt = some .char ∧ r = some (.int x)) ∨ (∃ x, rt = some .long ∧ r = some (.long x)) ∨ (∃ C x, rt = some (.object C) ∧ r = some (.ref x)) := by
  unfold g_rk at h
  split at h
  · exact Or.inl ⟨rfl, rfl⟩
  · exact Or.inr (Or.inl ⟨_, rfl, rfl⟩)
  · exact Or.inr (Or.inr (Or.inl ⟨_, rfl, rfl⟩))
  · exact Or.inr (Or.inr (Or.inr (Or.inl ⟨_, rfl, rfl⟩)))
  · exact Or.inr (Or.inr (Or.inr (Or.inr (Or.inl ⟨_, rfl, rfl⟩))))
  · exact Or.inr (Or.inr (Or.inr (Or.inr (Or.inr (Or.inl ⟨_, rfl, rfl⟩)))))
  · exact Or.inr (Or.inr (Or.inr (Or.inr (Or.inr (Or.inr ⟨_, _, rfl, rfl⟩)))))
  · cases h
theorem g_nr_n {rt : Option FieldType} {w : Option Value} (h : rt ≠ some .boolean) (h1 : rt ≠ some .byte) (h2 : rt ≠ some .char) : g_nr rt w = w := by
  unfold g_nr
  split
  · exact absurd rfl h
  · exact absurd rfl h1
  · exact absurd rfl h2
  · rfl
theorem g_nr_v {w : Option Value} (h : g_nr none w = none) : w = none := by rw [g_nr_n (by intro h; cases h) (by intro h; cases h) (by intro h; cases h)] at h; exact h
theorem g_nr_i {w : Option Value} {x : Int32} (h : g_nr (some .int) w = some (.int x)) : w = some (.int x) := by rw [g_nr_n (by intro h; cases h) (by intro h; cases h) (by intro h; cases h)] at h; exact h
theorem g_nr_l {w : Option Value} {x : Int64} (h : g_nr (some .long) w = some (.long x)) : w = some (.long x) := by rw [g_nr_n (by intro h; cases h) (by intro h; cases h) (by intro h; cases h)] at h; exact h
theorem g_nr_r {w : Option Value} {C : String} {x : Nat} (h : g_nr (some (.object C)) w = some (.ref x)) : w = some (.ref x) := by rw [g_nr_n (by intro h; cases h) (by intro h; cases h) (by intro h; cases h)] at h; exact h
theorem g_nr_z {w : Option Value} {x : Int32} {ty : FieldType} (ht : ty = .boolean ∨ ty = .byte ∨ ty = .char) (h : g_nr (some ty) w = some (.int x)) : ∃ v : Int32, w = some (.int v) ∧ narrow ty (.int v) = .int x := by
  rcases ht with rfl | rfl | rfl <;> (cases w with
    | none => simp [g_nr] at h
    | some v =>
      cases v <;> simp only [g_nr, Option.some.injEq, Value.int.injEq, reduceCtorEq] at h
      exact ⟨_, rfl, by rw [← h]; rfl⟩)
theorem g_conOf {Λ : g_Lay} {d : Nat} {y : MethodName} {cc : ByteArray} {nL : Nat} {rt : Option FieldType} {as : List Value} {μ : g_St} {X : Option (Option Value × g_St)} {lo : List (Option Value)} (hpl : plainName y.cls = true) (hlen : (g_los as).length ≤ nL) (hlo : g_lo0 as nL = lo) (hrk : ∀ r μ', X = some (r, μ') → g_rk rt r = true) (hgo : g_Go Λ d y cc nL rt 0 lo [] μ X) : g_Con Λ d y cc nL rt as μ X := by
  subst hlo
  intro r μ' hX l D tys ca ad wx sz hty
  have hk := hrk r μ' hX
  refine Met.ofW (cc := cc) (maxL := nL) (ret := rt) hpl rfl ?_
  intro p e s m args below meth c s₁ B hml hv
  obtain ⟨rfl, hsz, hP, hK, hD0, hN, hSX⟩ := hv
  have hts := atoms_spec (ws := g_ws y cc nL rt) B.pre
  have hown : s.vm.findClass y.cls = some m.cls := findClass_of_methodNamed B.named
  have hlocks := B.notSynchronized
  have hr := B.returns
  subst hsz
  have hD := hD0.self (sz := s.heap.size)
  have hA : ∀ q : Nat, s.heap.size ≤ q → va_A (g_wW ad ca Λ μ ++ wx) s.heap.size q := fun q h => Or.inr h
  have hkeys : ∀ {t : State} {locs : List Loc} {H : Heap}, g_Rp Λ D ca ad wx (va_A (g_wW ad ca Λ μ ++ wx) s.heap.size) s.heap μ' H locs → t.heap = H → g_Qc Λ D ca ad wx s.heap.size μ r μ' (g_tS ad as).toArray s (.returned (r.map (g_tr ad))) t := by
    intro t locs H hR ht
    exact ⟨rfl, by rw [ht]; exact hR.1, hR.2.1, hR.2.2.F ht⟩
  rw [lg_entry_eq]
  refine hgo r μ' hX p l e _ s m _ below meth c 0 0 _ D tys ca ad wx (va_A (g_wW ad ca Λ μ ++ wx) s.heap.size) ⟨B.exec, B.bytes, hml, hown, fun w hw => hts w (List.mem_cons_of_mem _ hw), hN, hK, hA, hty, ⟨Nat.le_refl _, Nat.le_refl _, Nat.le_refl _, Nat.le_refl _⟩, hSX⟩ ?_ _ s.heap [] ⟨hP, hD, va_S.rf⟩ (g_Lo_entry hlen)
  intro pc' ls H locs w hend _ hR
  have hq : ∀ {r2 : Option Value}, r2 = r.map (g_tr ad) → ∀ t : State, t.heap = H → s.WarmedH t.vm → g_Qc Λ D ca ad wx s.heap.size μ r μ' (g_tS ad as).toArray s (.returned r2) t := by
    intro r2 h2 t ht _
    subst h2
    exact hkeys hR ht
  have hne : g_end cc rt pc' r w → decode cc pc' = .ok (g_rI r, 1) ∧ g_nr rt w = r := by
    rcases g_rk_cases hk with ⟨-, h2⟩ | ⟨x, -, h2⟩ | ⟨x, -, h2⟩ | ⟨x, -, h2⟩ | ⟨x, -, h2⟩ | ⟨x, -, h2⟩ | ⟨C, x, -, h2⟩ <;> subst h2 <;> exact fun h => h
  obtain ⟨hdg, hw⟩ := hne hend
  rcases g_rk_cases hk with ⟨h1, h2⟩ | ⟨x, h1, h2⟩ | ⟨x, h1, h2⟩ | ⟨x, h1, h2⟩ | ⟨x, h1, h2⟩ | ⟨x, h1, h2⟩ | ⟨C, x, h1, h2⟩ <;> subst h1 <;> subst h2
  · have hw2 := g_nr_v hw
    subst hw2
    exact W.vret (cc := cc) B.exec B.bytes hr (hq rfl) hR.2.2.2.2 hdg hlocks
  · have hw2 := g_nr_i hw
    subst hw2
    exact g_iretW (cc := cc) B.exec B.bytes hr rfl (hq rfl) hR.2.2.2.2 hdg hlocks
  · obtain ⟨v, hv1, hv⟩ := g_nr_z (Or.inl rfl) hw
    subst hv1
    exact g_iretW (cc := cc) B.exec B.bytes hr hv (hq rfl) hR.2.2.2.2 hdg hlocks
  · obtain ⟨v, hv1, hv⟩ := g_nr_z (Or.inr (Or.inl rfl)) hw
    subst hv1
    exact g_iretW (cc := cc) B.exec B.bytes hr hv (hq rfl) hR.2.2.2.2 hdg hlocks
  · obtain ⟨v, hv1, hv⟩ := g_nr_z (Or.inr (Or.inr rfl)) hw
    subst hv1
    exact g_iretW (cc := cc) B.exec B.bytes hr hv (hq rfl) hR.2.2.2.2 hdg hlocks
  · have hw2 := g_nr_l hw
    subst hw2
    exact W.lret (cc := cc) B.exec B.bytes hr (hq rfl) hR.2.2.2.2 hdg hlocks
  · have hw2 := g_nr_r hw
    subst hw2
    exact W.aret (cc := cc) B.exec B.bytes hr (Or.inl ⟨C, rfl⟩) (Or.inr ⟨ad x, rfl⟩) (hq rfl) hR.2.2.2.2 hdg hlocks
/-- the shapes of an answer -/
def g_xi (μ : g_St) (f : Option Int32) : Option (Option Value × g_St) := f.map fun x => (some (.int x), μ)
def g_xl (μ : g_St) (f : Option Int64) : Option (Option Value × g_St) := f.map fun x => (some (.long x), μ)
def g_yi (f : Option (Int32 × g_St)) : Option (Option Value × g_St) := f.map fun q => (some (.int q.1), q.2)
def g_yl (f : Option (Int64 × g_St)) : Option (Option Value × g_St) := f.map fun q => (some (.long q.1), q.2)
def g_yv (f : Option g_St) : Option (Option Value × g_St) := f.map fun q => (none, q)
def g_yr (a : Nat) (f : Option g_St) : Option (Option Value × g_St) := f.map fun q => (some (.ref a), q)
theorem g_xi_rk {μ : g_St} {f : Option Int32} {rt : Option FieldType} (h : rt = some .int ∨ rt = some .boolean ∨ rt = some .byte ∨ rt = some .char) : ∀ r μ', g_xi μ f = some (r, μ') → g_rk rt r = true := by
  intro r μ' hX; cases f with
  | none => cases hX
  | some x => cases hX; rcases h with rfl | rfl | rfl | rfl <;> rfl
theorem g_yi_rk {f : Option (Int32 × g_St)} {rt : Option FieldType} (h : rt = some .int ∨ rt = some .boolean ∨ rt = some .byte ∨ rt = some .char) : ∀ r μ', g_yi f = some (r, μ') → g_rk rt r = true := by
  intro r μ' hX; cases f with
  | none => cases hX
  | some x => cases hX; rcases h with rfl | rfl | rfl | rfl <;> rfl
theorem g_xl_rk {μ : g_St} {f : Option Int64} : ∀ r μ', g_xl μ f = some (r, μ') → g_rk (some .long) r = true := by
  intro r μ' hX; cases f with
  | none => cases hX
  | some x => cases hX; rfl
theorem g_yl_rk {f : Option (Int64 × g_St)} : ∀ r μ', g_yl f = some (r, μ') → g_rk (some .long) r = true := by
  intro r μ' hX; cases f with
  | none => cases hX
  | some x => cases hX; rfl
theorem g_yv_rk {f : Option g_St} : ∀ r μ', g_yv f = some (r, μ') → g_rk none r = true := by
  intro r μ' hX; cases f with
  | none => cases hX
  | some x => cases hX; rfl
theorem g_yr_rk {a : Nat} {f : Option g_St} {C : String} : ∀ r μ', g_yr a f = some (r, μ') → g_rk (some (.object C)) r = true := by
  intro r μ' hX; cases f with
  | none => cases hX
  | some x => cases hX; rfl
section GoEnd
variable {Λ : g_Lay} {d : Nat} {y : MethodName} {cc : ByteArray} {nL : Nat} {rt : Option FieldType} {pc : Nat} {lo : List (Option Value)} {st : List Value} {μ : g_St} {X : Option (Option Value × g_St)}
/-- constants of the class file -/
theorem g_ldc {index : Nat} {v : Int32} (hd : decode cc pc = .ok (.ldc index, 2)) (hc : Cond.constant y.cls index v ∈ g_gw) (k : g_Go Λ d y cc nL rt (pc + 2) lo (.int v :: st) μ X) : g_Go Λ d y cc nL rt pc lo st μ X :=
  g_st (fun p l e R s m args below meth c cells slots Q D tys ca ad A ls H locs hx hb C _ kk => lv_ldc hx hb C.2.2.2.1 (C.2.2.2.2.1 _ hc) hd kk) k
theorem g_ldc2 {index : Nat} {v : Int64} (hd : decode cc pc = .ok (.ldc2_w index, 3)) (hc : Cond.constantLong y.cls index v ∈ g_gw) (k : g_Go Λ d y cc nL rt (pc + 3) lo (.long v :: st) μ X) : g_Go Λ d y cc nL rt pc lo st μ X :=
  g_st (fun p l e R s m args below meth c cells slots Q D tys ca ad A ls H locs hx hb C _ kk => lv_ldc2 hx hb C.2.2.2.1 (C.2.2.2.2.1 _ hc) hd kk) k
theorem g_mathcat {ad : Nat → Nat} : (g_tS ad st).map (fun v => v.category) = st.map (fun v => v.category) := by
  simp only [g_tS, List.map_map]
  apply List.map_congr_left
  intro v _
  cases v <;> rfl
def g_MM : Prop := Cond.static Lib.Math.max.name ∈ g_gw ∧ Cond.initialized "java/lang/Math" ∈ g_gw ∧ Cond.code Lib.Math.max.name Lib.Math.max.code 2 (some .int) ∈ g_gw ∧ Cond.static Lib.Math.min.name ∈ g_gw ∧ Cond.code Lib.Math.min.name Lib.Math.min.code 2 (some .int) ∈ g_gw
theorem g_mmax {index : Nat} {x z : Int32} (hm : g_MM) (hd : decode cc pc = .ok (.invokestatic index, 3)) (hl : Cond.methodLink y.cls index Lib.Math.max.name ∈ g_gw) (h1 : 1 ≤ d) (hst : (st.map fun v => v.category).sum ≤ 8) (k : g_Go Λ d y cc nL rt (pc + 3) lo (.int (g_max x z) :: st) μ X) : g_Go Λ d y cc nL rt pc lo (.int z :: .int x :: st) μ X :=
  g_st (fun p l e R s m args below meth c cells slots Q D tys ca ad A ls H locs hx hb C hL kk => by
    obtain ⟨-, -, hml, hown, hts, -, -, -, -, ⟨f1, f2, f3, f4⟩, -⟩ := C
    exact va_mmax hx hb (by rw [hml, hL.1]) hown (hts _ hl) (hts _ hm.1) (hts _ hm.2.1) (hts _ hm.2.2.1) (by omega) (by have e9 : (List.map (fun v => v.category) (List.map (g_tr ad) st)).sum = _ := congrArg List.sum (g_mathcat (ad := ad) (st := st)); rw [e9]; omega) f3 f4 hd kk) k
theorem g_mmin {index : Nat} {x z : Int32} (hm : g_MM) (hd : decode cc pc = .ok (.invokestatic index, 3)) (hl : Cond.methodLink y.cls index Lib.Math.min.name ∈ g_gw) (h1 : 1 ≤ d) (hst : (st.map fun v => v.category).sum ≤ 8) (k : g_Go Λ d y cc nL rt (pc + 3) lo (.int (g_min x z) :: st) μ X) : g_Go Λ d y cc nL rt pc lo (.int z :: .int x :: st) μ X :=
  g_st (fun p l e R s m args below meth c cells slots Q D tys ca ad A ls H locs hx hb C hL kk => by
    obtain ⟨-, -, hml, hown, hts, -, -, -, -, ⟨f1, f2, f3, f4⟩, -⟩ := C
    exact va_mmin hx hb (by rw [hml, hL.1]) hown (hts _ hl) (hts _ hm.2.2.2.1) (hts _ hm.2.1) (hts _ hm.2.2.2.2) (by omega) (by have e9 : (List.map (fun v => v.category) (List.map (g_tr ad) st)).sum = _ := congrArg List.sum (g_mathcat (ad := ad) (st := st)); rw [e9]; omega) f3 f4 hd kk) k
end GoEnd
