section GoStore
variable {Λ : g_Lay} {d : Nat} {y : MethodName} {cc : ByteArray} {nL : Nat} {rt : Option FieldType} {pc : Nat} {lo : List (Option Value)} {st : List Value} {μ : g_St} {X : Option (Option Value × g_St)}
def g_nc (x : Int32) : Int32 := (x.toUInt32 % 65536).toInt32
/-- a step that touches stack and locals -/
theorem g_stL {pc2 : Nat} {st2 : List Value} {lo2 : List (Option Value)} (h : ∀ (p : Program) (l : Launch) (e : Env) (R : Room) (s : State) (m : MethodId) (args : Array Value) (below : List Frame) (meth : Method) (c : Code) (cells slots : Nat) (Q : State → Prop) (ad : Nat → Nat) (ls : Array Slot) (H : Heap) (locs : List Loc),
    p.tables.exec = Jvm.exec → c.code = cc → g_Lo ad lo nL ls → (∀ ls', g_Lo ad lo2 nL ls' → W p l e R s m args below meth c H locs cells slots Q (F0 m pc2 ls' (g_tS ad st2))) → W p l e R s m args below meth c H locs cells slots Q (F0 m pc ls (g_tS ad st)))
    (k : g_Go Λ d y cc nL rt pc2 lo2 st2 μ X) : g_Go Λ d y cc nL rt pc lo st μ X := by
  intro r μ' hX p l e R s m args below meth c cells slots Q D tys ca ad wx A C K ls H locs hR hL
  exact h p l e R s m args below meth c cells slots Q ad ls H locs C.1 C.2.1 hL (fun ls' hL' => k r μ' hX p l e R s m args below meth c cells slots Q D tys ca ad wx A C K ls' H locs hR hL')
def g_all (ad : Nat → Nat) (lo : List (Option Value)) : List (Nat × Value) := (List.range lo.length).filterMap (fun k => match lo[k]? with
  | some (some v) => some (k, g_tr ad v)
  | _ => none)
theorem g_all_mem {ad : Nat → Nat} {lo : List (Option Value)} {k : Nat} {v : Value} (h : lo[k]? = some (some v)) : (k, g_tr ad v) ∈ g_all ad lo := by
  refine List.mem_filterMap.mpr ⟨k, List.mem_range.mpr (List.getElem?_eq_some_iff.mp h).1, ?_⟩
  simp only [h]
theorem g_all_has {ad : Nat → Nat} {ls : Array Slot} (h : g_Lo ad lo nL ls) : lv_has ls nL (g_all ad lo) := by
  refine ⟨h.1, h.2.1, fun q hq => ?_⟩
  obtain ⟨k, -, hk⟩ := List.mem_filterMap.mp hq
  cases hv : lo[k]? with
  | none => rw [hv] at hk; cases hk
  | some ov =>
    cases ov with
    | none => rw [hv] at hk; cases hk
    | some v =>
      rw [hv] at hk
      cases hk
      exact h.2.2 k v hv
def g_c2 (v : Option (Option Value)) : Bool := match v with
  | some (some (.long _)) => true
  | some (some (.double _)) => true
  | _ => false
/-- the place before holds no long -/
def g_np (lo : List (Option Value)) (i : Nat) : Bool := match i with
  | 0 => true
  | j + 1 => !g_c2 lo[j]?
theorem g_np_spec {ad : Nat → Nat} {lo : List (Option Value)} {i k : Nat} {v : Value} (h : g_np lo i = true) (hk : k + 1 = i) (hv : lo[k]? = some (some v)) : ((g_tr ad v).category == 2) = false := by
  subst hk
  simp only [g_np, Bool.not_eq_true', hv] at h
  cases v <;> simp_all [g_c2, g_tr, Value.category]
theorem g_Lo_st1 {ad : Nat → Nat} {lo : List (Option Value)} {ls' : Array Slot} {i : Nat} {v : Value} (hp : g_np lo i = true) (h : lv_has ls' nL ((i, g_tr ad v) :: (g_all ad lo).filter (fun q => !(q.1 == i) && !(q.1 + 1 == i && q.2.category == 2)))) : g_Lo ad (lo.set i (some v)) nL ls' := by
  refine ⟨h.1, h.2.1, fun k w hw => ?_⟩
  by_cases hk : k = i
  · subst hk
    rw [List.getElem?_set] at hw
    by_cases hl : k < lo.length
    · simp [hl] at hw
      subst hw
      exact h.2.2 _ List.mem_cons_self
    · simp [hl] at hw
  · rw [List.getElem?_set_ne (fun q => hk q.symm)] at hw
    refine h.2.2 (k, g_tr ad w) (List.mem_cons_of_mem _ (List.mem_filter.mpr ⟨g_all_mem hw, ?_⟩))
    simp only [Bool.and_eq_true, Bool.not_eq_true', beq_eq_false_iff_ne, ne_eq, Bool.and_eq_false_iff]
    refine ⟨hk, ?_⟩
    by_cases hk1 : k + 1 = i
    · exact Or.inr (by simpa using g_np_spec (ad := ad) hp hk1 hw)
    · exact Or.inl hk1
theorem g_Lo_st2 {ad : Nat → Nat} {lo : List (Option Value)} {ls' : Array Slot} {i : Nat} {v : Value} (hp : g_np lo i = true) (h : lv_has ls' nL ((i, g_tr ad v) :: (g_all ad lo).filter (fun q => !(q.1 == i) && (!(q.1 == i + 1) && !(q.1 + 1 == i && q.2.category == 2))))) : g_Lo ad ((lo.set i (some v)).set (i + 1) none) nL ls' := by
  refine ⟨h.1, h.2.1, fun k w hw => ?_⟩
  by_cases hk2 : k = i + 1
  · subst hk2
    rw [List.getElem?_set] at hw
    split at hw
    · split at hw <;> cases hw
    · exact absurd rfl (by assumption)
  rw [List.getElem?_set_ne (fun q => hk2 q.symm)] at hw
  by_cases hk : k = i
  · subst hk
    rw [List.getElem?_set] at hw
    by_cases hl : k < lo.length
    · simp [hl] at hw
      subst hw
      exact h.2.2 _ List.mem_cons_self
    · simp [hl] at hw
  · rw [List.getElem?_set_ne (fun q => hk q.symm)] at hw
    refine h.2.2 (k, g_tr ad w) (List.mem_cons_of_mem _ (List.mem_filter.mpr ⟨g_all_mem hw, ?_⟩))
    simp only [Bool.and_eq_true, Bool.not_eq_true', beq_eq_false_iff_ne, ne_eq, Bool.and_eq_false_iff]
    refine ⟨hk, hk2, ?_⟩
    by_cases hk1 : k + 1 = i
    · exact Or.inr (by simpa using g_np_spec (ad := ad) hp hk1 hw)
    · exact Or.inl hk1
theorem g_istore {i : Nat} {x : Int32} {lo2 : List (Option Value)} (hd : decode cc pc = .ok (.istore i, 2)) (hn : i < nL) (hp : g_np lo i = true) (h2 : lo.set i (some (.int x)) = lo2) (k : g_Go Λ d y cc nL rt (pc + 2) lo2 st μ X) : g_Go Λ d y cc nL rt pc lo (.int x :: st) μ X := by
  subst h2
  exact g_stL (fun p l e R s m args below meth c cells slots Q ad ls H locs hx hb hL kk => lv_istore hx hb hd (g_all_has hL) hn rfl (fun ls' h' => kk ls' (g_Lo_st1 (v := .int x) hp h'))) k
theorem g_istore_n {j : Fin 4} {i : Nat} {x : Int32} {lo2 : List (Option Value)} (hd : decode cc pc = .ok (.istore_n j, 1)) (hj : (j : Nat) = i) (hn : i < nL) (hp : g_np lo i = true) (h2 : lo.set i (some (.int x)) = lo2) (k : g_Go Λ d y cc nL rt (pc + 1) lo2 st μ X) : g_Go Λ d y cc nL rt pc lo (.int x :: st) μ X := by
  subst h2
  exact g_stL (fun p l e R s m args below meth c cells slots Q ad ls H locs hx hb hL kk => lv_istore_n hx hb hd hj (g_all_has hL) hn rfl (fun ls' h' => kk ls' (g_Lo_st1 (v := .int x) hp h'))) k
theorem g_astore {i : Nat} {x : Nat} {lo2 : List (Option Value)} (hd : decode cc pc = .ok (.astore i, 2)) (hn : i < nL) (hp : g_np lo i = true) (h2 : lo.set i (some (.ref x)) = lo2) (k : g_Go Λ d y cc nL rt (pc + 2) lo2 st μ X) : g_Go Λ d y cc nL rt pc lo (.ref x :: st) μ X := by
  subst h2
  exact g_stL (fun p l e R s m args below meth c cells slots Q ad ls H locs hx hb hL kk => lv_astore hx hb hd (g_all_has hL) hn rfl (fun ls' h' => kk ls' (g_Lo_st1 (v := .ref x) hp h'))) k
theorem g_astore_n {j : Fin 4} {i : Nat} {x : Nat} {lo2 : List (Option Value)} (hd : decode cc pc = .ok (.astore_n j, 1)) (hj : (j : Nat) = i) (hn : i < nL) (hp : g_np lo i = true) (h2 : lo.set i (some (.ref x)) = lo2) (k : g_Go Λ d y cc nL rt (pc + 1) lo2 st μ X) : g_Go Λ d y cc nL rt pc lo (.ref x :: st) μ X := by
  subst h2
  exact g_stL (fun p l e R s m args below meth c cells slots Q ad ls H locs hx hb hL kk => lv_astore_n hx hb hd hj (g_all_has hL) hn rfl (fun ls' h' => kk ls' (g_Lo_st1 (v := .ref x) hp h'))) k
theorem g_lstore {i : Nat} {x : Int64} {lo2 : List (Option Value)} (hd : decode cc pc = .ok (.lstore i, 2)) (hn : i + 1 < nL) (hp : g_np lo i = true) (h2 : (lo.set i (some (.long x))).set (i + 1) none = lo2) (k : g_Go Λ d y cc nL rt (pc + 2) lo2 st μ X) : g_Go Λ d y cc nL rt pc lo (.long x :: st) μ X := by
  subst h2
  exact g_stL (fun p l e R s m args below meth c cells slots Q ad ls H locs hx hb hL kk => lv_lstore hx hb hd (g_all_has hL) hn rfl (fun ls' h' => kk ls' (g_Lo_st2 (v := .long x) hp h'))) k
theorem g_lstore_n {j : Fin 4} {i : Nat} {x : Int64} {lo2 : List (Option Value)} (hd : decode cc pc = .ok (.lstore_n j, 1)) (hj : (j : Nat) = i) (hn : i + 1 < nL) (hp : g_np lo i = true) (h2 : (lo.set i (some (.long x))).set (i + 1) none = lo2) (k : g_Go Λ d y cc nL rt (pc + 1) lo2 st μ X) : g_Go Λ d y cc nL rt pc lo (.long x :: st) μ X := by
  subst h2
  exact g_stL (fun p l e R s m args below meth c cells slots Q ad ls H locs hx hb hL kk => lv_lstore_n hx hb hd hj (g_all_has hL) hn rfl (fun ls' h' => kk ls' (g_Lo_st2 (v := .long x) hp h'))) k
theorem g_iinc {i : Nat} {n : Int} {x v : Int32} {lo2 : List (Option Value)} (hd : decode cc pc = .ok (.iinc i n, 3)) (hi : lo[i]? = some (some (.int x))) (hv : x + Int32.ofInt n = v) (hn : i < nL) (hp : g_np lo i = true) (h2 : lo.set i (some (.int v)) = lo2) (k : g_Go Λ d y cc nL rt (pc + 3) lo2 st μ X) : g_Go Λ d y cc nL rt pc lo st μ X := by
  subst h2
  refine g_stL (fun p l e R s m args below meth c cells slots Q ad ls H locs hx hb hL kk => ?_) k
  obtain ⟨k0, hk0⟩ := List.getElem?_of_mem (g_all_mem (ad := ad) hi)
  exact lv_iinc hx hb hd (g_all_has hL) hk0 hv hn rfl (fun ls' h' => kk ls' (g_Lo_st1 (v := .int v) hp h'))
/-- less is told of the locals -/
def g_sub : List (Option Value) → List (Option Value) → Prop
  | [], _ => True
  | none :: a, [] => g_sub a []
  | none :: a, _ :: b => g_sub a b
  | some _ :: _, [] => False
  | some v :: a, some w :: b => v = w ∧ g_sub a b
  | some _ :: _, none :: _ => False
theorem g_sub_spec : ∀ {a b : List (Option Value)}, g_sub a b → ∀ (i : Nat) (v : Value), a[i]? = some (some v) → b[i]? = some (some v)
  | [], b, _, i, v, h => by simp at h
  | none :: a, [], hs, i, v, h => by
    cases i with
    | zero => simp at h
    | succ i => have := g_sub_spec (a := a) (b := []) hs i v (by simpa using h); simp at this
  | none :: a, w :: b, hs, i, v, h => by
    cases i with
    | zero => simp at h
    | succ i => simpa using g_sub_spec (a := a) (b := b) hs i v (by simpa using h)
  | some _ :: _, [], hs, _, _, _ => hs.elim
  | some u :: a, some w :: b, hs, i, v, h => by
    cases i with
    | zero => simpa [hs.1] using h
    | succ i => simpa using g_sub_spec (a := a) (b := b) hs.2 i v (by simpa using h)
  | some _ :: _, none :: _, hs, _, _, _ => hs.elim
theorem g_to {lo2 : List (Option Value)} (k : g_Go Λ d y cc nL rt pc lo2 st μ X) (hs : g_sub lo2 lo) : g_Go Λ d y cc nL rt pc lo st μ X := by
  intro r μ' hX p l e R s m args below meth c cells slots Q D tys ca ad wx A C K ls H locs hR hL
  exact k r μ' hX p l e R s m args below meth c cells slots Q D tys ca ad wx A C K ls H locs hR ⟨hL.1, hL.2.1, fun i v hv => hL.2.2 i v (g_sub_spec hs i v hv)⟩
theorem g_eq {X2 : Option (Option Value × g_St)} (h : X = X2) (k : g_Go Λ d y cc nL rt pc lo st μ X2) : g_Go Λ d y cc nL rt pc lo st μ X := h ▸ k
theorem g_none : g_Go Λ d y cc nL rt pc lo st μ none := fun _ _ h => by cases h
/-- the end -/
theorem g_iret {x : Int32} (hd : decode cc pc = .ok (.ireturn, 1)) (hb : g_nr rt (some (.int x)) = some (.int x)) : g_Go Λ d y cc nL rt pc lo [.int x] μ (some (some (.int x), μ)) := by
  intro r μ' hX p l e R s m args below meth c cells slots Q D tys ca ad wx A C K ls H locs hR hL
  cases hX
  exact K pc ls H locs (some (.int x)) ⟨hd, hb⟩ hL.1 hR
theorem g_zret {x : Int32} (hd : decode cc pc = .ok (.ireturn, 1)) (hb : rt = some .boolean) : g_Go Λ d y cc nL rt pc lo [.int x] μ (some (some (.int (x &&& 1)), μ)) := by
  intro r μ' hX p l e R s m args below meth c cells slots Q D tys ca ad wx A C K ls H locs hR hL
  cases hX
  exact K pc ls H locs (some (.int x)) ⟨hd, by rw [hb]; rfl⟩ hL.1 hR
theorem g_lret {x : Int64} (hd : decode cc pc = .ok (.lreturn, 1)) (hb : g_nr rt (some (.long x)) = some (.long x)) : g_Go Λ d y cc nL rt pc lo [.long x] μ (some (some (.long x), μ)) := by
  intro r μ' hX p l e R s m args below meth c cells slots Q D tys ca ad wx A C K ls H locs hR hL
  cases hX
  exact K pc ls H locs (some (.long x)) ⟨hd, hb⟩ hL.1 hR
theorem g_aret {x : Nat} (hd : decode cc pc = .ok (.areturn, 1)) (hb : g_nr rt (some (.ref x)) = some (.ref x)) : g_Go Λ d y cc nL rt pc lo [.ref x] μ (some (some (.ref x), μ)) := by
  intro r μ' hX p l e R s m args below meth c cells slots Q D tys ca ad wx A C K ls H locs hR hL
  cases hX
  exact K pc ls H locs (some (.ref x)) ⟨hd, hb⟩ hL.1 hR
theorem g_vret (hd : decode cc pc = .ok (.return_, 1)) (hb : g_nr rt none = none) : g_Go Λ d y cc nL rt pc lo [] μ (some (none, μ)) := by
  intro r μ' hX p l e R s m args below meth c cells slots Q D tys ca ad wx A C K ls H locs hR hL
  cases hX
  exact K pc ls H locs none ⟨hd, hb⟩ hL.1 hR
/-- here a throw begins -/
theorem g_thr (ht : g_thrOK cc pc) : g_Go Λ d y cc nL rt pc lo [] μ (some (some (.retAddr pc), μ)) := by
  intro r μ' hX p l e R s m args below meth c cells slots Q D tys ca ad wx A C K ls H locs hR hL
  cases hX
  exact K pc ls H locs none ⟨rfl, rfl, ht⟩ hL.1 hR
end GoStore
section GoRules
variable {Λ : g_Lay} {d : Nat} {y : MethodName} {cc : ByteArray} {nL : Nat} {rt : Option FieldType} {pc : Nat} {lo : List (Option Value)} {st : List Value} {μ : g_St} {X : Option (Option Value × g_St)}
theorem g_iconst {n : Int} {v : Int32} (hd : decode cc pc = .ok (.iconst n, 1)) (hv : Int32.ofInt n = v) (k : g_Go Λ d y cc nL rt (pc + 1) lo (.int v :: st) μ X) : g_Go Λ d y cc nL rt pc lo st μ X :=
  g_st (fun p l e R s m args below meth c cells slots Q D tys ca ad A ls H locs hx hb _ hL kk => lv_iconst hx hb hd hv kk) k
theorem g_bipush {n : Int} {v : Int32} (hd : decode cc pc = .ok (.bipush n, 2)) (hv : (Int8.ofInt n).toInt32 = v) (k : g_Go Λ d y cc nL rt (pc + 2) lo (.int v :: st) μ X) : g_Go Λ d y cc nL rt pc lo st μ X :=
  g_st (fun p l e R s m args below meth c cells slots Q D tys ca ad A ls H locs hx hb _ hL kk => lv_bipush hx hb hd hv kk) k
theorem g_sipush {n : Int} {v : Int32} (hd : decode cc pc = .ok (.sipush n, 3)) (hv : (Int16.ofInt n).toInt32 = v) (k : g_Go Λ d y cc nL rt (pc + 3) lo (.int v :: st) μ X) : g_Go Λ d y cc nL rt pc lo st μ X :=
  g_st (fun p l e R s m args below meth c cells slots Q D tys ca ad A ls H locs hx hb _ hL kk => lv_sipush hx hb hd hv kk) k
theorem g_lconst {n : Fin 2} {v : Int64} (hd : decode cc pc = .ok (.lconst n, 1)) (hv : Int64.ofNat (n : Nat) = v) (k : g_Go Λ d y cc nL rt (pc + 1) lo (.long v :: st) μ X) : g_Go Λ d y cc nL rt pc lo st μ X :=
  g_st (fun p l e R s m args below meth c cells slots Q D tys ca ad A ls H locs hx hb _ hL kk => lv_lconst hx hb hd hv kk) k
theorem g_lload_n {j : Fin 4} {i : Nat} {x : Int64} (hd : decode cc pc = .ok (.lload_n j, 1)) (hj : (j : Nat) = i) (hi : lo[i]? = some (some (.long x))) (k : g_Go Λ d y cc nL rt (pc + 1) lo (.long x :: st) μ X) : g_Go Λ d y cc nL rt pc lo st μ X :=
  g_st (fun p l e R s m args below meth c cells slots Q D tys ca ad A ls H locs hx hb _ hL kk => lv_lload_n hx hb hd hj (g_lget hL hi) kk) k
theorem g_isub {x z : Int32} (hd : decode cc pc = .ok (.isub, 1))  (k : g_Go Λ d y cc nL rt (pc + 1) lo (.int (x - z) :: st) μ X) : g_Go Λ d y cc nL rt pc lo (.int z :: .int x :: st) μ X :=
  g_st (fun p l e R s m args below meth c cells slots Q D tys ca ad A ls H locs hx hb _ hL kk => lv_isub hx hb hd kk) k
theorem g_imul {x z : Int32} (hd : decode cc pc = .ok (.imul, 1))  (k : g_Go Λ d y cc nL rt (pc + 1) lo (.int (x * z) :: st) μ X) : g_Go Λ d y cc nL rt pc lo (.int z :: .int x :: st) μ X :=
  g_st (fun p l e R s m args below meth c cells slots Q D tys ca ad A ls H locs hx hb _ hL kk => lv_imul hx hb hd kk) k
theorem g_iand {x z : Int32} (hd : decode cc pc = .ok (.iand, 1))  (k : g_Go Λ d y cc nL rt (pc + 1) lo (.int (x &&& z) :: st) μ X) : g_Go Λ d y cc nL rt pc lo (.int z :: .int x :: st) μ X :=
  g_st (fun p l e R s m args below meth c cells slots Q D tys ca ad A ls H locs hx hb _ hL kk => lv_iand hx hb hd kk) k
theorem g_ior {x z : Int32} (hd : decode cc pc = .ok (.ior, 1))  (k : g_Go Λ d y cc nL rt (pc + 1) lo (.int (x ||| z) :: st) μ X) : g_Go Λ d y cc nL rt pc lo (.int z :: .int x :: st) μ X :=
  g_st (fun p l e R s m args below meth c cells slots Q D tys ca ad A ls H locs hx hb _ hL kk => lv_ior hx hb hd kk) k
theorem g_ixor {x z : Int32} (hd : decode cc pc = .ok (.ixor, 1))  (k : g_Go Λ d y cc nL rt (pc + 1) lo (.int (x ^^^ z) :: st) μ X) : g_Go Λ d y cc nL rt pc lo (.int z :: .int x :: st) μ X :=
  g_st (fun p l e R s m args below meth c cells slots Q D tys ca ad A ls H locs hx hb _ hL kk => lv_ixor hx hb hd kk) k
theorem g_ishl {x z : Int32} (hd : decode cc pc = .ok (.ishl, 1))  (k : g_Go Λ d y cc nL rt (pc + 1) lo (.int (x <<< (z &&& 31)) :: st) μ X) : g_Go Λ d y cc nL rt pc lo (.int z :: .int x :: st) μ X :=
  g_st (fun p l e R s m args below meth c cells slots Q D tys ca ad A ls H locs hx hb _ hL kk => lv_ishl hx hb hd kk) k
theorem g_ishr {x z : Int32} (hd : decode cc pc = .ok (.ishr, 1))  (k : g_Go Λ d y cc nL rt (pc + 1) lo (.int (x >>> (z &&& 31)) :: st) μ X) : g_Go Λ d y cc nL rt pc lo (.int z :: .int x :: st) μ X :=
  g_st (fun p l e R s m args below meth c cells slots Q D tys ca ad A ls H locs hx hb _ hL kk => lv_ishr hx hb hd kk) k
theorem g_iushr {x z : Int32} (hd : decode cc pc = .ok (.iushr, 1))  (k : g_Go Λ d y cc nL rt (pc + 1) lo (.int ((x.toUInt32 >>> (z.toUInt32 &&& Int32.toUInt32 31)).toInt32) :: st) μ X) : g_Go Λ d y cc nL rt pc lo (.int z :: .int x :: st) μ X :=
  g_st (fun p l e R s m args below meth c cells slots Q D tys ca ad A ls H locs hx hb _ hL kk => lv_iushr hx hb hd rfl kk) k
theorem g_ineg {x : Int32} (hd : decode cc pc = .ok (.ineg, 1))  (k : g_Go Λ d y cc nL rt (pc + 1) lo (.int (-x) :: st) μ X) : g_Go Λ d y cc nL rt pc lo (.int x :: st) μ X :=
  g_st (fun p l e R s m args below meth c cells slots Q D tys ca ad A ls H locs hx hb _ hL kk => lv_ineg hx hb hd kk) k
theorem g_ladd {x z : Int64} (hd : decode cc pc = .ok (.ladd, 1))  (k : g_Go Λ d y cc nL rt (pc + 1) lo (.long (x + z) :: st) μ X) : g_Go Λ d y cc nL rt pc lo (.long z :: .long x :: st) μ X :=
  g_st (fun p l e R s m args below meth c cells slots Q D tys ca ad A ls H locs hx hb _ hL kk => lv_ladd hx hb hd kk) k
theorem g_lsub {x z : Int64} (hd : decode cc pc = .ok (.lsub, 1))  (k : g_Go Λ d y cc nL rt (pc + 1) lo (.long (x - z) :: st) μ X) : g_Go Λ d y cc nL rt pc lo (.long z :: .long x :: st) μ X :=
  g_st (fun p l e R s m args below meth c cells slots Q D tys ca ad A ls H locs hx hb _ hL kk => lv_lsub hx hb hd kk) k
theorem g_lmul {x z : Int64} (hd : decode cc pc = .ok (.lmul, 1))  (k : g_Go Λ d y cc nL rt (pc + 1) lo (.long (x * z) :: st) μ X) : g_Go Λ d y cc nL rt pc lo (.long z :: .long x :: st) μ X :=
  g_st (fun p l e R s m args below meth c cells slots Q D tys ca ad A ls H locs hx hb _ hL kk => lv_lmul hx hb hd kk) k
theorem g_land {x z : Int64} (hd : decode cc pc = .ok (.land, 1))  (k : g_Go Λ d y cc nL rt (pc + 1) lo (.long (x &&& z) :: st) μ X) : g_Go Λ d y cc nL rt pc lo (.long z :: .long x :: st) μ X :=
  g_st (fun p l e R s m args below meth c cells slots Q D tys ca ad A ls H locs hx hb _ hL kk => lv_land hx hb hd kk) k
theorem g_lor {x z : Int64} (hd : decode cc pc = .ok (.lor, 1))  (k : g_Go Λ d y cc nL rt (pc + 1) lo (.long (x ||| z) :: st) μ X) : g_Go Λ d y cc nL rt pc lo (.long z :: .long x :: st) μ X :=
  g_st (fun p l e R s m args below meth c cells slots Q D tys ca ad A ls H locs hx hb _ hL kk => lv_lor hx hb hd kk) k
theorem g_lneg {x : Int64} (hd : decode cc pc = .ok (.lneg, 1))  (k : g_Go Λ d y cc nL rt (pc + 1) lo (.long (-x) :: st) μ X) : g_Go Λ d y cc nL rt pc lo (.long x :: st) μ X :=
  g_st (fun p l e R s m args below meth c cells slots Q D tys ca ad A ls H locs hx hb _ hL kk => lv_lneg hx hb hd kk) k
theorem g_lshl {x : Int64} {z : Int32} (hd : decode cc pc = .ok (.lshl, 1))  (k : g_Go Λ d y cc nL rt (pc + 1) lo (.long (x <<< (z.toInt64 &&& 63)) :: st) μ X) : g_Go Λ d y cc nL rt pc lo (.int z :: .long x :: st) μ X :=
  g_st (fun p l e R s m args below meth c cells slots Q D tys ca ad A ls H locs hx hb _ hL kk => lv_lshl hx hb hd rfl kk) k
theorem g_lushr {x : Int64} {z : Int32} (hd : decode cc pc = .ok (.lushr, 1))  (k : g_Go Λ d y cc nL rt (pc + 1) lo (.long ((x.toUInt64 >>> (z.toInt64.toUInt64 &&& Int64.toUInt64 63)).toInt64) :: st) μ X) : g_Go Λ d y cc nL rt pc lo (.int z :: .long x :: st) μ X :=
  g_st (fun p l e R s m args below meth c cells slots Q D tys ca ad A ls H locs hx hb _ hL kk => lv_lushr hx hb hd rfl kk) k
theorem g_i2l {x : Int32} (hd : decode cc pc = .ok (.i2l, 1))  (k : g_Go Λ d y cc nL rt (pc + 1) lo (.long x.toInt64 :: st) μ X) : g_Go Λ d y cc nL rt pc lo (.int x :: st) μ X :=
  g_st (fun p l e R s m args below meth c cells slots Q D tys ca ad A ls H locs hx hb _ hL kk => lv_i2l hx hb hd rfl kk) k
theorem g_l2i {x : Int64} (hd : decode cc pc = .ok (.l2i, 1))  (k : g_Go Λ d y cc nL rt (pc + 1) lo (.int x.toInt32 :: st) μ X) : g_Go Λ d y cc nL rt pc lo (.long x :: st) μ X :=
  g_st (fun p l e R s m args below meth c cells slots Q D tys ca ad A ls H locs hx hb _ hL kk => lv_l2i hx hb hd rfl kk) k
theorem g_i2c {x : Int32} (hd : decode cc pc = .ok (.i2c, 1))  (k : g_Go Λ d y cc nL rt (pc + 1) lo (.int (g_nc x) :: st) μ X) : g_Go Λ d y cc nL rt pc lo (.int x :: st) μ X :=
  g_st (fun p l e R s m args below meth c cells slots Q D tys ca ad A ls H locs hx hb _ hL kk => lv_i2c hx hb hd rfl kk) k
theorem g_lcmp {x z : Int64} (hd : decode cc pc = .ok (.lcmp, 1))  (k : g_Go Λ d y cc nL rt (pc + 1) lo (.int (lg_cmp x z) :: st) μ X) : g_Go Λ d y cc nL rt pc lo (.long z :: .long x :: st) μ X :=
  g_st (fun p l e R s m args below meth c cells slots Q D tys ca ad A ls H locs hx hb _ hL kk => W.lcmp hx hb hd kk) k
theorem g_popi {x : Int32} (hd : decode cc pc = .ok (.pop, 1))  (k : g_Go Λ d y cc nL rt (pc + 1) lo st μ X) : g_Go Λ d y cc nL rt pc lo (.int x :: st) μ X :=
  g_st (fun p l e R s m args below meth c cells slots Q D tys ca ad A ls H locs hx hb _ hL kk => lv_pop hx hb hd rfl kk) k
theorem g_popr {x : Nat} (hd : decode cc pc = .ok (.pop, 1))  (k : g_Go Λ d y cc nL rt (pc + 1) lo st μ X) : g_Go Λ d y cc nL rt pc lo (.ref x :: st) μ X :=
  g_st (fun p l e R s m args below meth c cells slots Q D tys ca ad A ls H locs hx hb _ hL kk => lv_pop hx hb hd rfl kk) k
theorem g_dupi {x : Int32} (hd : decode cc pc = .ok (.dup, 1))  (k : g_Go Λ d y cc nL rt (pc + 1) lo (.int x :: .int x :: st) μ X) : g_Go Λ d y cc nL rt pc lo (.int x :: st) μ X :=
  g_st (fun p l e R s m args below meth c cells slots Q D tys ca ad A ls H locs hx hb _ hL kk => lv_dup hx hb hd rfl kk) k
theorem g_dupr {x : Nat} (hd : decode cc pc = .ok (.dup, 1))  (k : g_Go Λ d y cc nL rt (pc + 1) lo (.ref x :: .ref x :: st) μ X) : g_Go Λ d y cc nL rt pc lo (.ref x :: st) μ X :=
  g_st (fun p l e R s m args below meth c cells slots Q D tys ca ad A ls H locs hx hb _ hL kk => lv_dup hx hb hd rfl kk) k
theorem g_dup2 {x : Int32} {q : Nat} (hd : decode cc pc = .ok (.dup2, 1))  (k : g_Go Λ d y cc nL rt (pc + 1) lo (.int x :: .ref q :: .int x :: .ref q :: st) μ X) : g_Go Λ d y cc nL rt pc lo (.int x :: .ref q :: st) μ X :=
  g_st (fun p l e R s m args below meth c cells slots Q D tys ca ad A ls H locs hx hb _ hL kk => lv_dup2_11 hx hb hd rfl rfl kk) k
theorem g_idiv {x z : Int32} (hd : decode cc pc = .ok (.idiv, 1)) (k : ¬ z = 0 → g_Go Λ d y cc nL rt (pc + 1) lo (.int (x / z) :: st) μ X) : g_Go Λ d y cc nL rt pc lo (.int z :: .int x :: st) μ (if z = 0 then none else X) := by
  intro r μ' hX
  by_cases hz : z = 0
  · rw [if_pos hz] at hX; cases hX
  · rw [if_neg hz] at hX
    exact g_st (fun p l e R s m args below meth c cells slots Q D tys ca ad A ls H locs hx hb _ hL kk => lv_idiv hx hb hd hz kk) (k hz) r μ' hX
theorem g_irem {x z : Int32} (hd : decode cc pc = .ok (.irem, 1)) (k : ¬ z = 0 → g_Go Λ d y cc nL rt (pc + 1) lo (.int (x - x / z * z) :: st) μ X) : g_Go Λ d y cc nL rt pc lo (.int z :: .int x :: st) μ (if z = 0 then none else X) := by
  intro r μ' hX
  by_cases hz : z = 0
  · rw [if_pos hz] at hX; cases hX
  · rw [if_neg hz] at hX
    exact g_st (fun p l e R s m args below meth c cells slots Q D tys ca ad A ls H locs hx hb _ hL kk => lv_irem hx hb hd hz kk) (k hz) r μ' hX
theorem g_ldiv {x z : Int64} (hd : decode cc pc = .ok (.ldiv, 1)) (k : ¬ z = 0 → g_Go Λ d y cc nL rt (pc + 1) lo (.long (x / z) :: st) μ X) : g_Go Λ d y cc nL rt pc lo (.long z :: .long x :: st) μ (if z = 0 then none else X) := by
  intro r μ' hX
  by_cases hz : z = 0
  · rw [if_pos hz] at hX; cases hX
  · rw [if_neg hz] at hX
    exact g_st (fun p l e R s m args below meth c cells slots Q D tys ca ad A ls H locs hx hb _ hL kk => lv_ldiv hx hb hd hz kk) (k hz) r μ' hX
theorem g_lrem {x z : Int64} (hd : decode cc pc = .ok (.lrem, 1)) (k : ¬ z = 0 → g_Go Λ d y cc nL rt (pc + 1) lo (.long (x - x / z * z) :: st) μ X) : g_Go Λ d y cc nL rt pc lo (.long z :: .long x :: st) μ (if z = 0 then none else X) := by
  intro r μ' hX
  by_cases hz : z = 0
  · rw [if_pos hz] at hX; cases hX
  · rw [if_neg hz] at hX
    exact g_st (fun p l e R s m args below meth c cells slots Q D tys ca ad A ls H locs hx hb _ hL kk => lv_lrem hx hb hd hz kk) (k hz) r μ' hX
theorem g_goto {off : Int} {tgt : Nat} (hd : decode cc pc = .ok (.goto off, 3)) (ht : (pc : Int) + off = (tgt : Int)) (k : g_Go Λ d y cc nL rt tgt lo st μ X) : g_Go Λ d y cc nL rt pc lo st μ X :=
  g_st (fun p l e R s m args below meth c cells slots Q D tys ca ad A ls H locs hx hb _ hL kk => lv_goto hx hb hd ht kk) k
theorem g_icmp_ge {x z : Int32} {off : Int} {tgt : Nat} {X1 X2 : Option (Option Value × g_St)} (hd : decode cc pc = .ok (.if_icmp .ge off, 3)) (ht : (pc : Int) + off = (tgt : Int)) (k1 : g_Go Λ d y cc nL rt (pc + 3) lo st μ X1) (k2 : g_Go Λ d y cc nL rt tgt lo st μ X2) : g_Go Λ d y cc nL rt pc lo (.int z :: .int x :: st) μ (if x < z then X1 else X2) := by
  intro r μ' hX p l e R s m args below meth c cells slots Q D tys ca ad wx A C K ls H locs hR hL
  refine lv_icmp_ge C.1 C.2.1 hd ht (fun hc => ?_) (fun hc => ?_)
  · rw [if_neg (Int32.not_lt.mpr hc)] at hX; exact k2 r μ' hX p l e R s m args below meth c cells slots Q D tys ca ad wx A C K ls H locs hR hL
  · rw [if_pos (Int32.not_le.mp hc)] at hX; exact k1 r μ' hX p l e R s m args below meth c cells slots Q D tys ca ad wx A C K ls H locs hR hL
theorem g_if_ge {x : Int32} {off : Int} {tgt : Nat} {X1 X2 : Option (Option Value × g_St)} (hd : decode cc pc = .ok (.ifCond .ge off, 3)) (ht : (pc : Int) + off = (tgt : Int)) (k1 : g_Go Λ d y cc nL rt (pc + 3) lo st μ X1) (k2 : g_Go Λ d y cc nL rt tgt lo st μ X2) : g_Go Λ d y cc nL rt pc lo (.int x :: st) μ (if x < 0 then X1 else X2) := by
  intro r μ' hX p l e R s m args below meth c cells slots Q D tys ca ad wx A C K ls H locs hR hL
  refine lv_if_ge C.1 C.2.1 hd ht (fun hc => ?_) (fun hc => ?_)
  · rw [if_neg (Int32.not_lt.mpr hc)] at hX; exact k2 r μ' hX p l e R s m args below meth c cells slots Q D tys ca ad wx A C K ls H locs hR hL
  · rw [if_pos (Int32.not_le.mp hc)] at hX; exact k1 r μ' hX p l e R s m args below meth c cells slots Q D tys ca ad wx A C K ls H locs hR hL
theorem g_icmp_gt {x z : Int32} {off : Int} {tgt : Nat} {X1 X2 : Option (Option Value × g_St)} (hd : decode cc pc = .ok (.if_icmp .gt off, 3)) (ht : (pc : Int) + off = (tgt : Int)) (k1 : g_Go Λ d y cc nL rt (pc + 3) lo st μ X1) (k2 : g_Go Λ d y cc nL rt tgt lo st μ X2) : g_Go Λ d y cc nL rt pc lo (.int z :: .int x :: st) μ (if x ≤ z then X1 else X2) := by
  intro r μ' hX p l e R s m args below meth c cells slots Q D tys ca ad wx A C K ls H locs hR hL
  refine lv_icmp_gt C.1 C.2.1 hd ht (fun hc => ?_) (fun hc => ?_)
  · rw [if_neg (Int32.not_le.mpr hc)] at hX; exact k2 r μ' hX p l e R s m args below meth c cells slots Q D tys ca ad wx A C K ls H locs hR hL
  · rw [if_pos (Int32.not_lt.mp hc)] at hX; exact k1 r μ' hX p l e R s m args below meth c cells slots Q D tys ca ad wx A C K ls H locs hR hL
theorem g_if_gt {x : Int32} {off : Int} {tgt : Nat} {X1 X2 : Option (Option Value × g_St)} (hd : decode cc pc = .ok (.ifCond .gt off, 3)) (ht : (pc : Int) + off = (tgt : Int)) (k1 : g_Go Λ d y cc nL rt (pc + 3) lo st μ X1) (k2 : g_Go Λ d y cc nL rt tgt lo st μ X2) : g_Go Λ d y cc nL rt pc lo (.int x :: st) μ (if x ≤ 0 then X1 else X2) := by
  intro r μ' hX p l e R s m args below meth c cells slots Q D tys ca ad wx A C K ls H locs hR hL
  refine lv_if_gt C.1 C.2.1 hd ht (fun hc => ?_) (fun hc => ?_)
  · rw [if_neg (Int32.not_le.mpr hc)] at hX; exact k2 r μ' hX p l e R s m args below meth c cells slots Q D tys ca ad wx A C K ls H locs hR hL
  · rw [if_pos (Int32.not_lt.mp hc)] at hX; exact k1 r μ' hX p l e R s m args below meth c cells slots Q D tys ca ad wx A C K ls H locs hR hL
theorem g_icmp_le {x z : Int32} {off : Int} {tgt : Nat} {X1 X2 : Option (Option Value × g_St)} (hd : decode cc pc = .ok (.if_icmp .le off, 3)) (ht : (pc : Int) + off = (tgt : Int)) (k1 : g_Go Λ d y cc nL rt (pc + 3) lo st μ X1) (k2 : g_Go Λ d y cc nL rt tgt lo st μ X2) : g_Go Λ d y cc nL rt pc lo (.int z :: .int x :: st) μ (if z < x then X1 else X2) := by
  intro r μ' hX p l e R s m args below meth c cells slots Q D tys ca ad wx A C K ls H locs hR hL
  refine lv_icmp_le C.1 C.2.1 hd ht (fun hc => ?_) (fun hc => ?_)
  · rw [if_neg (Int32.not_lt.mpr hc)] at hX; exact k2 r μ' hX p l e R s m args below meth c cells slots Q D tys ca ad wx A C K ls H locs hR hL
  · rw [if_pos (Int32.not_le.mp hc)] at hX; exact k1 r μ' hX p l e R s m args below meth c cells slots Q D tys ca ad wx A C K ls H locs hR hL
theorem g_if_le {x : Int32} {off : Int} {tgt : Nat} {X1 X2 : Option (Option Value × g_St)} (hd : decode cc pc = .ok (.ifCond .le off, 3)) (ht : (pc : Int) + off = (tgt : Int)) (k1 : g_Go Λ d y cc nL rt (pc + 3) lo st μ X1) (k2 : g_Go Λ d y cc nL rt tgt lo st μ X2) : g_Go Λ d y cc nL rt pc lo (.int x :: st) μ (if 0 < x then X1 else X2) := by
  intro r μ' hX p l e R s m args below meth c cells slots Q D tys ca ad wx A C K ls H locs hR hL
  refine lv_if_le C.1 C.2.1 hd ht (fun hc => ?_) (fun hc => ?_)
  · rw [if_neg (Int32.not_lt.mpr hc)] at hX; exact k2 r μ' hX p l e R s m args below meth c cells slots Q D tys ca ad wx A C K ls H locs hR hL
  · rw [if_pos (Int32.not_le.mp hc)] at hX; exact k1 r μ' hX p l e R s m args below meth c cells slots Q D tys ca ad wx A C K ls H locs hR hL
theorem g_icmp_lt {x z : Int32} {off : Int} {tgt : Nat} {X1 X2 : Option (Option Value × g_St)} (hd : decode cc pc = .ok (.if_icmp .lt off, 3)) (ht : (pc : Int) + off = (tgt : Int)) (k1 : g_Go Λ d y cc nL rt (pc + 3) lo st μ X1) (k2 : g_Go Λ d y cc nL rt tgt lo st μ X2) : g_Go Λ d y cc nL rt pc lo (.int z :: .int x :: st) μ (if z ≤ x then X1 else X2) := by
  intro r μ' hX p l e R s m args below meth c cells slots Q D tys ca ad wx A C K ls H locs hR hL
  refine lv_icmp_lt C.1 C.2.1 hd ht (fun hc => ?_) (fun hc => ?_)
  · rw [if_neg (Int32.not_le.mpr hc)] at hX; exact k2 r μ' hX p l e R s m args below meth c cells slots Q D tys ca ad wx A C K ls H locs hR hL
  · rw [if_pos (Int32.not_lt.mp hc)] at hX; exact k1 r μ' hX p l e R s m args below meth c cells slots Q D tys ca ad wx A C K ls H locs hR hL
theorem g_if_lt {x : Int32} {off : Int} {tgt : Nat} {X1 X2 : Option (Option Value × g_St)} (hd : decode cc pc = .ok (.ifCond .lt off, 3)) (ht : (pc : Int) + off = (tgt : Int)) (k1 : g_Go Λ d y cc nL rt (pc + 3) lo st μ X1) (k2 : g_Go Λ d y cc nL rt tgt lo st μ X2) : g_Go Λ d y cc nL rt pc lo (.int x :: st) μ (if 0 ≤ x then X1 else X2) := by
  intro r μ' hX p l e R s m args below meth c cells slots Q D tys ca ad wx A C K ls H locs hR hL
  refine lv_if_lt C.1 C.2.1 hd ht (fun hc => ?_) (fun hc => ?_)
  · rw [if_neg (Int32.not_le.mpr hc)] at hX; exact k2 r μ' hX p l e R s m args below meth c cells slots Q D tys ca ad wx A C K ls H locs hR hL
  · rw [if_pos (Int32.not_lt.mp hc)] at hX; exact k1 r μ' hX p l e R s m args below meth c cells slots Q D tys ca ad wx A C K ls H locs hR hL
theorem g_icmp_eq {x z : Int32} {off : Int} {tgt : Nat} {X1 X2 : Option (Option Value × g_St)} (hd : decode cc pc = .ok (.if_icmp .eq off, 3)) (ht : (pc : Int) + off = (tgt : Int)) (k1 : g_Go Λ d y cc nL rt tgt lo st μ X1) (k2 : g_Go Λ d y cc nL rt (pc + 3) lo st μ X2) : g_Go Λ d y cc nL rt pc lo (.int z :: .int x :: st) μ (if x = z then X1 else X2) := by
  intro r μ' hX p l e R s m args below meth c cells slots Q D tys ca ad wx A C K ls H locs hR hL
  refine lv_icmp_eq C.1 C.2.1 hd ht (fun hc => ?_) (fun hc => ?_)
  · rw [if_pos hc] at hX; exact k1 r μ' hX p l e R s m args below meth c cells slots Q D tys ca ad wx A C K ls H locs hR hL
  · rw [if_neg hc] at hX; exact k2 r μ' hX p l e R s m args below meth c cells slots Q D tys ca ad wx A C K ls H locs hR hL
theorem g_if_eq {x : Int32} {off : Int} {tgt : Nat} {X1 X2 : Option (Option Value × g_St)} (hd : decode cc pc = .ok (.ifCond .eq off, 3)) (ht : (pc : Int) + off = (tgt : Int)) (k1 : g_Go Λ d y cc nL rt tgt lo st μ X1) (k2 : g_Go Λ d y cc nL rt (pc + 3) lo st μ X2) : g_Go Λ d y cc nL rt pc lo (.int x :: st) μ (if x = 0 then X1 else X2) := by
  intro r μ' hX p l e R s m args below meth c cells slots Q D tys ca ad wx A C K ls H locs hR hL
  refine lv_if_eq C.1 C.2.1 hd ht (fun hc => ?_) (fun hc => ?_)
  · rw [if_pos hc] at hX; exact k1 r μ' hX p l e R s m args below meth c cells slots Q D tys ca ad wx A C K ls H locs hR hL
  · rw [if_neg hc] at hX; exact k2 r μ' hX p l e R s m args below meth c cells slots Q D tys ca ad wx A C K ls H locs hR hL
theorem g_icmp_ne {x z : Int32} {off : Int} {tgt : Nat} {X1 X2 : Option (Option Value × g_St)} (hd : decode cc pc = .ok (.if_icmp .ne off, 3)) (ht : (pc : Int) + off = (tgt : Int)) (k1 : g_Go Λ d y cc nL rt (pc + 3) lo st μ X1) (k2 : g_Go Λ d y cc nL rt tgt lo st μ X2) : g_Go Λ d y cc nL rt pc lo (.int z :: .int x :: st) μ (if x = z then X1 else X2) := by
  intro r μ' hX p l e R s m args below meth c cells slots Q D tys ca ad wx A C K ls H locs hR hL
  refine lv_icmp_ne C.1 C.2.1 hd ht (fun hc => ?_) (fun hc => ?_)
  · rw [if_neg hc] at hX; exact k2 r μ' hX p l e R s m args below meth c cells slots Q D tys ca ad wx A C K ls H locs hR hL
  · rw [if_pos hc] at hX; exact k1 r μ' hX p l e R s m args below meth c cells slots Q D tys ca ad wx A C K ls H locs hR hL
theorem g_if_ne {x : Int32} {off : Int} {tgt : Nat} {X1 X2 : Option (Option Value × g_St)} (hd : decode cc pc = .ok (.ifCond .ne off, 3)) (ht : (pc : Int) + off = (tgt : Int)) (k1 : g_Go Λ d y cc nL rt (pc + 3) lo st μ X1) (k2 : g_Go Λ d y cc nL rt tgt lo st μ X2) : g_Go Λ d y cc nL rt pc lo (.int x :: st) μ (if x = 0 then X1 else X2) := by
  intro r μ' hX p l e R s m args below meth c cells slots Q D tys ca ad wx A C K ls H locs hR hL
  refine lv_if_ne C.1 C.2.1 hd ht (fun hc => ?_) (fun hc => ?_)
  · rw [if_neg hc] at hX; exact k2 r μ' hX p l e R s m args below meth c cells slots Q D tys ca ad wx A C K ls H locs hR hL
  · rw [if_pos hc] at hX; exact k1 r μ' hX p l e R s m args below meth c cells slots Q D tys ca ad wx A C K ls H locs hR hL
end GoRules
