/-! Arrays, Math, calls -/
abbrev g_out (i : Int32) (n : Nat) : Prop := i < 0 ∨ n ≤ i.toNatClampNeg
def g_nz (x : Int32) : Int32 := vp_nar .boolean x
def g_nh (x : Int32) : Int32 := vp_nar .char x
def g_max (x z : Int32) : Int32 := if x < z then z else x
def g_min (x z : Int32) : Int32 := if z < x then z else x
section GoArr
variable {Λ : g_Lay} {d : Nat} {y : MethodName} {cc : ByteArray} {nL : Nat} {rt : Option FieldType} {pc : Nat} {lo : List (Option Value)} {st : List Value} {μ : g_St} {X : Option (Option Value × g_St)}
theorem g_ald {id ty n : Nat} {rf : Nat → Nat} {i : Int32} {v : Value} (hid : id < Λ.1) (hΛ : Λ.2 id = .inr (ty, n, rf))
    (h : ∀ (p : Program) (l : Launch) (e : Env) (R : Room) (s : State) (m : MethodId) (args : Array Value) (below : List Frame) (meth : Method) (c : Code) (cells slots : Nat) (Q : State → Prop) (D : va_G) (tys : List (ClassId × FieldType)) (ca ad : Nat → Nat) (wx : va_W) (ls : Array Slot) (H : Heap) (locs : List Loc) (t0 : Nat), ¬ g_out i n → p.tables.exec = Jvm.exec → c.code = cc → va_K D g_cl tys s → va_P D g_cl (g_wW ad ca Λ μ ++ wx) H → (g_wW ad ca Λ μ ++ wx)[id]? = some (ad id, .inl (ca id, g_ar ad μ id ty n rf)) → tys[t0]? = some (ca id, g_tyOf ty) → W p l e R s m args below meth c H locs cells slots Q (F0 m (pc + 1) ls (g_tS ad (v :: st))) → W p l e R s m args below meth c H locs cells slots Q (F0 m pc ls (g_tS ad (.int i :: .ref id :: st))))
    (k : ¬ g_out i n → g_Go Λ d y cc nL rt (pc + 1) lo (v :: st) μ X) : g_Go Λ d y cc nL rt pc lo (.int i :: .ref id :: st) μ (if g_out i n then none else X) := by
  intro r μ' hX p l e R s m args below meth c cells slots Q D tys ca ad wx A Cx K ls H locs hR hL
  by_cases ho : g_out i n
  · rw [if_pos ho] at hX; cases hX
  · rw [if_neg ho] at hX
    have K2 := k ho r μ' hX p l e R s m args below meth c cells slots Q D tys ca ad wx A Cx K ls H locs hR hL
    obtain ⟨hx, hb, -, hown, hts, hnw, hK, -, hty, -⟩ := Cx
    obtain ⟨t0, ht⟩ := hty id hid ty n rf hΛ
    exact h p l e R s m args below meth c cells slots Q D tys ca ad wx ls H locs t0 ho hx hb hK hR.1 (by rw [g_wW_get hid, g_ent_a hΛ]) ht K2
theorem g_iald {id n : Nat} {rf : Nat → Nat} {i : Int32} (hd : decode cc pc = .ok (.iaload, 1)) (hid : id < Λ.1) (hΛ : Λ.2 id = .inr (0, n, rf)) (k : g_Go Λ d y cc nL rt (pc + 1) lo (.int (μ.1 id i.toNatClampNeg) :: st) μ X) : g_Go Λ d y cc nL rt pc lo (.int i :: .ref id :: st) μ (if g_out i n then none else X) :=
  g_ald (v := .int (μ.1 id i.toNatClampNeg)) hid hΛ (fun p l e R s m args below meth c cells slots Q D tys ca ad wx ls H locs t0 ho hx hb hK hP he ht kk => va_iald hx hb hK hP id t0 he ht ho hd kk) (fun _ => k)
theorem g_cald {id n : Nat} {rf : Nat → Nat} {i : Int32} (hd : decode cc pc = .ok (.caload, 1)) (hid : id < Λ.1) (hΛ : Λ.2 id = .inr (2, n, rf)) (k : g_Go Λ d y cc nL rt (pc + 1) lo (.int (μ.1 id i.toNatClampNeg) :: st) μ X) : g_Go Λ d y cc nL rt pc lo (.int i :: .ref id :: st) μ (if g_out i n then none else X) :=
  g_ald (v := .int (μ.1 id i.toNatClampNeg)) hid hΛ (fun p l e R s m args below meth c cells slots Q D tys ca ad wx ls H locs t0 ho hx hb hK hP he ht kk => va_cald hx hb hK hP id t0 he ht ho hd kk) (fun _ => k)
theorem g_zald {id n : Nat} {rf : Nat → Nat} {i : Int32} (hd : decode cc pc = .ok (.baload, 1)) (hid : id < Λ.1) (hΛ : Λ.2 id = .inr (3, n, rf)) (k : g_Go Λ d y cc nL rt (pc + 1) lo (.int (μ.1 id i.toNatClampNeg) :: st) μ X) : g_Go Λ d y cc nL rt pc lo (.int i :: .ref id :: st) μ (if g_out i n then none else X) :=
  g_ald (v := .int (μ.1 id i.toNatClampNeg)) hid hΛ (fun p l e R s m args below meth c cells slots Q D tys ca ad wx ls H locs t0 ho hx hb hK hP he ht kk => va_zald hx hb hK hP id t0 he ht ho hd kk) (fun _ => k)
theorem g_lald {id n : Nat} {rf : Nat → Nat} {i : Int32} (hd : decode cc pc = .ok (.laload, 1)) (hid : id < Λ.1) (hΛ : Λ.2 id = .inr (1, n, rf)) (k : g_Go Λ d y cc nL rt (pc + 1) lo (.long (μ.2.1 id i.toNatClampNeg) :: st) μ X) : g_Go Λ d y cc nL rt pc lo (.int i :: .ref id :: st) μ (if g_out i n then none else X) :=
  g_ald (v := .long (μ.2.1 id i.toNatClampNeg)) hid hΛ (fun p l e R s m args below meth c cells slots Q D tys ca ad wx ls H locs t0 ho hx hb hK hP he ht kk => va_lald hx hb hK hP id t0 he ht ho hd kk) (fun _ => k)
theorem g_aaldQ {p : Program} {l : Launch} {e : Env} {R : Room} {s : State} {m : MethodId} {args : Array Value} {below : List Frame} {meth : Method} {c : Code} {H : Heap} {locs : List Loc} {cells slots : Nat} {Q : State → Prop} {ls : Array Slot} {D : va_G} {tys : List (ClassId × FieldType)} {ws : va_W} {a q0 t0 : Nat} {rest : List Value} (hexec : p.tables.exec = Jvm.exec) (hb : c.code = cc) (hK : va_K D g_cl tys s) (hP : va_P D g_cl ws H) {cA : ClassId} {ty : FieldType} (hty : ty.isReference = true) {n : Nat} {f : Nat → Option Nat} (ha : ws[q0]? = some (a, .inl (cA, n, .inr (.inr (.inr (.inr f)))))) (ht : tys[t0]? = some (cA, ty)) {i : Int32} (hin : vp_in i n) (hdg : decode cc pc = .ok (.aaload, 1))
    (kk : W p l e R s m args below meth c H locs cells slots Q (F0 m (pc + 1) ls (va_rf (f i.toNatClampNeg) :: rest))) : W p l e R s m args below meth c H locs cells slots Q (F0 m pc ls (.int i :: .ref a :: rest)) := by
  have hlt : i.toNatClampNeg < n := Nat.not_le.mp fun q => hin (Or.inr q)
  exact W.aald (v := va_rf (f i.toNatClampNeg)) (ty := ty) hexec hb (hP q0 _ ha) ((hK.2 t0 _ ht).1 n (fun j => va_rf (f j))) hty (fun q => by cases q) (by show ¬ (i < 0 ∨ (arrV _ _ _).slots.size ≤ _); rw [arrV_size]; exact hin) (by show (arrV _ _ _).slots[_]? = _; rw [arrV_read _ _ hlt]) rfl rfl hdg kk
theorem g_aald4 {id n : Nat} {rf : Nat → Nat} {i : Int32} (hd : decode cc pc = .ok (.aaload, 1)) (hid : id < Λ.1) (hΛ : Λ.2 id = .inr (4, n, rf)) (k : ¬ g_out i n → g_Go Λ d y cc nL rt (pc + 1) lo (.ref (rf i.toNatClampNeg) :: st) μ X) : g_Go Λ d y cc nL rt pc lo (.int i :: .ref id :: st) μ (if g_out i n then none else X) :=
  g_ald (v := .ref (rf i.toNatClampNeg)) hid hΛ (fun p l e R s m args below meth c cells slots Q D tys ca ad wx ls H locs t0 ho hx hb hK hP he ht kk => g_aaldQ hx hb hK hP rfl he ht ho hd kk) k
theorem g_aald5 {id n : Nat} {rf : Nat → Nat} {i : Int32} (hd : decode cc pc = .ok (.aaload, 1)) (hid : id < Λ.1) (hΛ : Λ.2 id = .inr (5, n, rf)) (k : ¬ g_out i n → g_Go Λ d y cc nL rt (pc + 1) lo (.ref (rf i.toNatClampNeg) :: st) μ X) : g_Go Λ d y cc nL rt pc lo (.int i :: .ref id :: st) μ (if g_out i n then none else X) :=
  g_ald (v := .ref (rf i.toNatClampNeg)) hid hΛ (fun p l e R s m args below meth c cells slots Q D tys ca ad wx ls H locs t0 ho hx hb hK hP he ht kk => g_aaldQ hx hb hK hP rfl he ht ho hd kk) k
theorem g_alen {id ty n : Nat} {rf : Nat → Nat} {v : Int32} (hd : decode cc pc = .ok (.arraylength, 1)) (hid : id < Λ.1) (hΛ : Λ.2 id = .inr (ty, n, rf)) (hv : Int32.ofNat n = v) (k : g_Go Λ d y cc nL rt (pc + 1) lo (.int v :: st) μ X) : g_Go Λ d y cc nL rt pc lo (.ref id :: st) μ X := by
  intro r μ' hX p l e R s m args below meth c cells slots Q D tys ca ad wx A Cx K ls H locs hR hL
  have K2 := k r μ' hX p l e R s m args below meth c cells slots Q D tys ca ad wx A Cx K ls H locs hR hL
  obtain ⟨hx, hb, -, hown, hts, hnw, hK, -, hty, -⟩ := Cx
  obtain ⟨t0, ht⟩ := hty id hid ty n rf hΛ
  have he : (g_wW ad ca Λ μ ++ wx)[id]? = some (ad id, .inl (ca id, g_ar ad μ id ty n rf)) := by rw [g_wW_get hid, g_ent_a hΛ]
  refine va_alen (cc := cc) hx hb hK hR.1 id t0 he ht (v := v) ?_ hd K2
  rw [← hv]
  unfold g_ar
  split <;> rfl
theorem g_ast {id ty n : Nat} {rf : Nat → Nat} {i : Int32} {v : Value} {μ2 : g_St} (hid : id < Λ.1) (hΛ : Λ.2 id = .inr (ty, n, rf))
    (h : ∀ (p : Program) (l : Launch) (e : Env) (R : Room) (s : State) (m : MethodId) (args : Array Value) (below : List Frame) (meth : Method) (c : Code) (cells slots : Nat) (Q : State → Prop) (D : va_G) (tys : List (ClassId × FieldType)) (ca ad : Nat → Nat) (wx : va_W) (A : Nat → Prop) (ls : Array Slot) (H : Heap) (locs : List Loc) (t0 : Nat), ¬ g_out i n → p.tables.exec = Jvm.exec → c.code = cc → va_K D g_cl tys s → g_Rp Λ D ca ad wx A s.heap μ H locs → (g_wW ad ca Λ μ ++ wx)[id]? = some (ad id, .inl (ca id, g_ar ad μ id ty n rf)) → tys[t0]? = some (ca id, g_tyOf ty) →
      (∀ (H1 : Heap) (locs1 : List Loc), va_P D g_cl ((g_wW ad ca Λ μ ++ wx).set id (ad id, .inl (ca id, g_ar ad μ2 id ty n rf))) H1 → va_D A ((g_wW ad ca Λ μ ++ wx).set id (ad id, .inl (ca id, g_ar ad μ2 id ty n rf))) → va_S A s.heap H1 locs1 → W p l e R s m args below meth c H1 locs1 cells slots Q (F0 m (pc + 1) ls (g_tS ad st))) → W p l e R s m args below meth c H locs cells slots Q (F0 m pc ls (g_tS ad (v :: .int i :: .ref id :: st))))
    (ho : ∀ (ad : Nat → Nat) (ca : Nat → ClassId) (j : Nat), j ≠ id → g_ent ad ca Λ μ2 j = g_ent ad ca Λ μ j)
    (k : g_Go Λ d y cc nL rt (pc + 1) lo st μ2 X) : g_Go Λ d y cc nL rt pc lo (v :: .int i :: .ref id :: st) μ (if g_out i n then none else X) := by
  intro r μ' hX p l e R s m args below meth c cells slots Q D tys ca ad wx A Cx K ls H locs hR hL
  by_cases hi : g_out i n
  · rw [if_pos hi] at hX; cases hX
  · rw [if_neg hi] at hX
    have K2 := k r μ' hX p l e R s m args below meth c cells slots Q D tys ca ad wx A Cx K ls
    obtain ⟨hx, hb, -, hown, hts, hnw, hK, -, hty, -⟩ := Cx
    obtain ⟨t0, ht⟩ := hty id hid ty n rf hΛ
    have hs : (g_wW ad ca Λ μ ++ wx).set id (ad id, .inl (ca id, g_ar ad μ2 id ty n rf)) = g_wW ad ca Λ μ2 ++ wx := by
      rw [← g_wW_set hid (ho ad ca), g_ent_a hΛ]
    refine h p l e R s m args below meth c cells slots Q D tys ca ad wx A ls H locs t0 hi hx hb hK hR (by rw [g_wW_get hid, g_ent_a hΛ]) ht (fun H1 locs1 h1 h2 h3 => ?_)
    rw [hs] at h1 h2
    exact K2 H1 locs1 ⟨h1, h2, h3⟩ hL
theorem g_sI_self {μ : g_St} {id k : Nat} {v : Int32} : (g_sI μ id k v).1 id = upd (μ.1 id) k v := by simp [g_sI]
theorem g_sL_self {μ : g_St} {id k : Nat} {v : Int64} : (g_sL μ id k v).2.1 id = vp_updL (μ.2.1 id) k v := by simp [g_sL]
theorem g_iast {id n : Nat} {rf : Nat → Nat} {i x : Int32} (hd : decode cc pc = .ok (.iastore, 1)) (hid : id < Λ.1) (hΛ : Λ.2 id = .inr (0, n, rf)) (k : g_Go Λ d y cc nL rt (pc + 1) lo st (g_sI μ id i.toNatClampNeg x) X) : g_Go Λ d y cc nL rt pc lo (.int x :: .int i :: .ref id :: st) μ (if g_out i n then none else X) := by
  refine g_ast (μ2 := g_sI μ id i.toNatClampNeg x) hid hΛ (fun p l e R s m args below meth c cells slots Q D tys ca ad wx A ls H locs t0 hi hx hb hK hR he ht kk => ?_) (fun _ _ _ hj => g_sI_x hj) k
  have e2 : g_ar ad (g_sI μ id i.toNatClampNeg x) id 0 n rf = (n, .inl (upd (μ.1 id) i.toNatClampNeg x)) := by show (n, Sum.inl _) = _; rw [g_sI_self]
  rw [e2] at kk
  exact va_iast (cc := cc) hx hb hK hR.1 hR.2.1 hR.2.2 id t0 he ht hi hd kk
theorem g_zast {id n : Nat} {rf : Nat → Nat} {i x : Int32} (hd : decode cc pc = .ok (.bastore, 1)) (hid : id < Λ.1) (hΛ : Λ.2 id = .inr (3, n, rf)) (k : g_Go Λ d y cc nL rt (pc + 1) lo st (g_sI μ id i.toNatClampNeg (g_nz x)) X) : g_Go Λ d y cc nL rt pc lo (.int x :: .int i :: .ref id :: st) μ (if g_out i n then none else X) := by
  refine g_ast (μ2 := g_sI μ id i.toNatClampNeg (g_nz x)) hid hΛ (fun p l e R s m args below meth c cells slots Q D tys ca ad wx A ls H locs t0 hi hx hb hK hR he ht kk => ?_) (fun _ _ _ hj => g_sI_x hj) k
  have e2 : g_ar ad (g_sI μ id i.toNatClampNeg (g_nz x)) id 3 n rf = (n, .inl (upd (μ.1 id) i.toNatClampNeg (g_nz x))) := by show (n, Sum.inl _) = _; rw [g_sI_self]
  rw [e2] at kk
  exact va_zast (cc := cc) hx hb hK hR.1 hR.2.1 hR.2.2 id t0 he ht hi hd kk
theorem g_cast {id n : Nat} {rf : Nat → Nat} {i x : Int32} (hd : decode cc pc = .ok (.castore, 1)) (hid : id < Λ.1) (hΛ : Λ.2 id = .inr (2, n, rf)) (k : g_Go Λ d y cc nL rt (pc + 1) lo st (g_sI μ id i.toNatClampNeg (g_nh x)) X) : g_Go Λ d y cc nL rt pc lo (.int x :: .int i :: .ref id :: st) μ (if g_out i n then none else X) := by
  refine g_ast (μ2 := g_sI μ id i.toNatClampNeg (g_nh x)) hid hΛ (fun p l e R s m args below meth c cells slots Q D tys ca ad wx A ls H locs t0 hi hx hb hK hR he ht kk => ?_) (fun _ _ _ hj => g_sI_x hj) k
  have e2 : g_ar ad (g_sI μ id i.toNatClampNeg (g_nh x)) id 2 n rf = (n, .inl (upd (μ.1 id) i.toNatClampNeg (g_nh x))) := by show (n, Sum.inl _) = _; rw [g_sI_self]
  rw [e2] at kk
  exact va_cast (cc := cc) hx hb hK hR.1 hR.2.1 hR.2.2 id t0 he ht hi hd kk
theorem g_last {id n : Nat} {rf : Nat → Nat} {i : Int32} {x : Int64} (hd : decode cc pc = .ok (.lastore, 1)) (hid : id < Λ.1) (hΛ : Λ.2 id = .inr (1, n, rf)) (k : g_Go Λ d y cc nL rt (pc + 1) lo st (g_sL μ id i.toNatClampNeg x) X) : g_Go Λ d y cc nL rt pc lo (.long x :: .int i :: .ref id :: st) μ (if g_out i n then none else X) := by
  refine g_ast (μ2 := g_sL μ id i.toNatClampNeg x) hid hΛ (fun p l e R s m args below meth c cells slots Q D tys ca ad wx A ls H locs t0 hi hx hb hK hR he ht kk => ?_) (fun _ _ _ hj => g_sL_x hj) k
  have e2 : g_ar ad (g_sL μ id i.toNatClampNeg x) id 1 n rf = (n, .inr (.inl (vp_updL (μ.2.1 id) i.toNatClampNeg x))) := by show (n, Sum.inr (Sum.inl _)) = _; rw [g_sL_self]
  rw [e2] at kk
  exact va_last (cc := cc) hx hb hK hR.1 hR.2.1 hR.2.2 id t0 he ht hi hd kk
end GoArr
/-! calls -/
def g_ML (own : String) (idx : Nat) (y : MethodName) : Prop := Cond.methodLink own idx y ∈ g_gw ∨ ∃ host, Cond.methodLinkNest own idx y host ∈ g_nw
def g_MC (y : MethodName) (cc : ByteArray) (nL : Nat) (rt : Option FieldType) (n : Nat) : Prop := Cond.code y cc nL rt ∈ g_gw ∧ Cond.initialized y.cls ∈ g_gw ∧ (y.cls ≠ "java/lang/invoke/MethodHandle" ∧ y.cls ≠ "java/lang/invoke/VarHandle") ∧ (parseMethodDescriptor y.desc).map (fun d => d.parameters.length) = some n ∧ plainName y.cls = true
def g_MV (y : MethodName) : Prop := Cond.instanceMethod y ∈ g_gw ∧ Cond.selects y.cls y y ∈ g_gw
def g_Pc (Λ : g_Lay) (D : va_G) (tys : List (ClassId × FieldType)) (ca ad : Nat → Nat) (wx : va_W) (sz : Nat) (as : List Value) (μ : g_St) : Array Value → State → Prop :=
  va_Pc (g_tS ad as) (fun U => U.heap.size = sz ∧ va_P D g_cl (g_wW ad ca Λ μ ++ wx) U.heap ∧ va_K D g_cl tys U ∧ va_D (fun _ => True) (g_wW ad ca Λ μ ++ wx) ∧ (∀ w ∈ g_nw, va_Nw w U) ∧ g_SX ad (va_A (g_wW ad ca Λ μ ++ wx) sz) U U.heap)
def g_Qc (Λ : g_Lay) (D : va_G) (ca ad : Nat → Nat) (wx : va_W) (sz : Nat) (μ : g_St) (r : Option Value) (μ' : g_St) : Array Value → State → Outcome → State → Prop := fun _ st oc t =>
  oc = .returned (r.map (g_tr ad)) ∧ va_P D g_cl (g_wW ad ca Λ μ' ++ wx) t.heap ∧ va_D (va_A (g_wW ad ca Λ μ ++ wx) sz) (g_wW ad ca Λ μ' ++ wx) ∧ va_F (va_A (g_wW ad ca Λ μ ++ wx) sz) st t
/-- a method's contract: with these arguments, in this state, it answers what X says -/
def g_Con (Λ : g_Lay) (d : Nat) (y : MethodName) (cc : ByteArray) (nL : Nat) (rt : Option FieldType) (as : List Value) (μ : g_St) (X : Option (Option Value × g_St)) : Prop :=
  ∀ (r : Option Value) (μ' : g_St), X = some (r, μ') → ∀ (l : Launch) (D : va_G) (tys : List (ClassId × FieldType)) (ca ad : Nat → Nat) (wx : va_W) (sz : Nat), g_Ty Λ tys ca →
  Met l y (g_ws y cc nL rt) { frames := d, cells := 0, slots := 0, locals := 100 * d } (g_Pc Λ D tys ca ad wx sz as μ) (g_Qc Λ D ca ad wx sz μ r μ') 0 0 (va_A (g_wW ad ca Λ μ ++ wx) sz)
theorem g_Pc_blind {Λ : g_Lay} {D : va_G} {tys : List (ClassId × FieldType)} {ca ad : Nat → Nat} {wx : va_W} {sz : Nat} {as : List Value} {μ : g_St} : FrameBlind (g_Pc Λ D tys ca ad wx sz as μ) := by
  intro a U g mk q
  obtain ⟨q0, q1, qP, qK, qD, qN, qS⟩ := q
  refine ⟨q0, q1, qP, va_K.moved (u := U) (U := U.calling g mk a) (Vm.Alike.refl U.vm) qK, qD, fun w hw => ?_, g_SX.vm (u := U) (U := U.calling g mk a) rfl qS⟩
  have h2 : g_isN w = true := (List.mem_filter.mp hw).2
  cases w <;> first | exact va_Nw.same rfl rfl (qN _ hw) | cases h2
theorem g_nw_warm {s U : State} (hW : s.WarmedH U.vm) (h : ∀ w ∈ g_nw, va_Nw w s) : ∀ w ∈ g_nw, va_Nw w U := by
  intro w hw
  have h2 : g_isN w = true := (List.mem_filter.mp hw).2
  have h1 := h w hw
  cases w <;> first | exact va_Nw.warmF hW h1 | exact va_Nw.warmM hW h1 | cases h2
theorem g_good {y y2 : MethodName} {cc cc2 : ByteArray} {nL nL2 : Nat} {rt rt2 : Option FieldType} (h : Cond.code y2 cc2 nL2 rt2 ∈ g_gw) : GoodIn g_gw (g_ws y2 cc2 nL2 rt2) := by
  have hg : ∀ w ∈ g_gw, w ∈ g_gw ∧ ((w.onTables && w.keeps) = true ∨ ∃ ty, w = .arrayClass ty) := fun w hw => ⟨hw, good_of_word (List.mem_filter.mp hw).2⟩
  intro w hw
  rcases List.mem_cons.mp hw with rfl | hw
  · exact hg _ h
  · exact hg w hw
section GoCall
variable {Λ : g_Lay} {d : Nat} {y : MethodName} {cc : ByteArray} {nL : Nat} {rt : Option FieldType} {pc : Nat} {lo : List (Option Value)} {st : List Value} {μ : g_St} {X : Option (Option Value × g_St)}
theorem g_wW_keys {ad : Nat → Nat} {ca : Nat → ClassId} {μ μ' : g_St} {wx : va_W} {sz : Nat} {A : Nat → Prop} {H0 H : Heap} {locs : List Loc} (hD : va_D A (g_wW ad ca Λ μ ++ wx)) (hS : va_S A H0 H locs) (hA : ∀ q, H0.size ≤ q → A q) : ∀ q, va_A (g_wW ad ca Λ μ ++ wx) H.size q → A q := by
  intro q h
  rcases h with ⟨k, e, h⟩ | h
  · exact hD.2 k (q, e) h
  · exact hA q (Nat.le_trans hS.1 h)
/-- behind a call: what any way of calling gives -/
theorem g_after {p : Program} {l : Launch} {e : Env} {R : Room} {s : State} {m : MethodId} {args : Array Value} {below : List Frame} {meth : Method} {c : Code} {cells slots : Nat} {Q : State → Prop} {D : va_G} {ca ad : Nat → Nat} {wx : va_W} {A : Nat → Prop} {ls : Array Slot} {H : Heap} {locs : List Loc} {st0 : List Value} {a : Array Value} {r : Option Value} {μ1 : g_St}
    (hR : g_Rp Λ D ca ad wx A s.heap μ H locs) (hA : ∀ q, s.heap.size ≤ q → A q)
    (hr : va_Run p l e R s m args below meth c H locs cells slots 0 0 (F0 m pc ls (g_tS ad st0)) (g_tS ad st) (g_Qc Λ D ca ad wx H.size μ r μ1 a) (va_A (g_wW ad ca Λ μ ++ wx) H.size))
    (kk : ∀ (H1 : Heap) (locs1 : List Loc), g_Rp Λ D ca ad wx A s.heap μ1 H1 locs1 → W p l e R s m args below meth c H1 locs1 cells slots Q (F0 m (pc + 3) ls (g_tS ad (r.toList ++ st)))) : W p l e R s m args below meth c H locs cells slots Q (F0 m pc ls (g_tS ad st0)) := by
  intro T hT X
  obtain ⟨v, st₀, t, T', L, h0, X', hL, e1, e2, ⟨hv, hP, hD, hF⟩, stp⟩ := hr T hT X
  have hv2 : v = r.map (g_tr ad) := by cases hv; rfl
  subst hv2
  have hin := g_wW_keys (μ' := μ) (sz := H.size) hR.2.1 hR.2.2 hA
  obtain ⟨hz, hk⟩ := hF
  rw [h0] at hz hk
  obtain ⟨t2, a1, b1⟩ := kk T'.heap (locs ++ L) ⟨by rw [e1]; exact hP, hD.weaken (fun k q _ h => hin q.1 h), Nat.le_trans hR.2.2.1 (by rw [e1]; exact hz), fun q h1 h2 => by
      rw [e1, hk q (Nat.lt_of_lt_of_le h1 hR.2.2.1) (fun z => h2 (hin q z))]; exact hR.2.2.2.1 q h1 h2, fun q hq => by
      rcases List.mem_append.mp hq with h | h
      · exact hR.2.2.2.2 q h
      · exact hin _ (hL q h)⟩ T' rfl X'
  refine ⟨t2, stp t2 ?_, b1⟩
  have e9 : (r.map (g_tr ad)).toList ++ g_tS ad st = g_tS ad (r.toList ++ st) := by
    cases r <;> simp [g_tS]
  rw [e9]
  exact a1
theorem g_pre {p : Program} {R : Room} {s : State} {m : MethodId} {args : Array Value} {c : Code} {cells slots : Nat} {D : va_G} {tys : List (ClassId × FieldType)} {ca ad : Nat → Nat} {wx : va_W} {A : Nat → Prop} {H : Heap} {locs : List Loc} {as : List Value} (C : g_Cx p R s m args c d y cc nL D tys ca Λ cells slots A ad) (hR : g_Rp Λ D ca ad wx A s.heap μ H locs) (U : State) (hU : U.heap = H) (hW : s.WarmedH U.vm) : g_Pc Λ D tys ca ad wx H.size as μ (g_tS ad as).toArray U :=
  ⟨rfl, by rw [hU], by rw [hU]; exact hR.1, va_K.moved hW.alike C.2.2.2.2.2.2.1, hR.2.1.weaken (fun _ _ _ _ => trivial), g_nw_warm hW C.2.2.2.2.2.1, by
    rw [hU]
    refine (g_SX.narrow (g_SX.kept (g_SX.warm hW C.2.2.2.2.2.2.2.2.2.2) (fun a h1 h2 => ?_)) (g_wW_keys (μ' := μ) (sz := 0) hR.2.1 hR.2.2 C.2.2.2.2.2.2.2.1))
    exact hR.2.2.2.1 a h1 h2⟩
theorem g_cb {p : Program} {R : Room} {s : State} {m : MethodId} {args : Array Value} {c : Code} {cells slots : Nat} {D : va_G} {tys : List (ClassId × FieldType)} {ca ad : Nat → Nat} {A : Nat → Prop} {d2 nL2 n : Nat} {y2 : MethodName} {cc2 : ByteArray} {rt2 : Option FieldType} (C : g_Cx p R s m args c d y cc nL D tys ca Λ cells slots A ad) (mc : g_MC y2 cc2 nL2 rt2 n) (hd2 : d2 + 1 ≤ d) (hn2 : nL2 ≤ 81) :
    ({ frames := d2, cells := 0, slots := 0, locals := 100 * d2 } : Room).frames + 1 ≤ R.frames ∧ 8 + (nL2 + 11) + ({ frames := d2, cells := 0, slots := 0, locals := 100 * d2 } : Room).locals ≤ R.locals ∧ (∀ w ∈ g_ws y2 cc2 nL2 rt2, ∀ (a' : Array Value) (U : State), s.WarmedH U.vm → w.before a' U = true) ∧ (Cond.code y2 cc2 nL2 rt2).before args s = true ∧ (Cond.initialized y2.cls).before args s = true ∧ (∀ sig, parseMethodDescriptor y2.desc = some sig → n = sig.parameters.length) := by
  obtain ⟨-, -, -, -, hts, -, -, -, -, ⟨h1, h2, -⟩, -⟩ := C
  refine ⟨by show d2 + 1 ≤ R.frames; omega, by show 8 + (nL2 + 11) + 100 * d2 ≤ R.locals; omega, pay_in hts (g_good (y := y2) (cc := cc2) (nL := nL2) (rt := rt2) mc.1), hts _ mc.1, hts _ mc.2.1, fun sig h => ?_⟩
  have h3 := mc.2.2.2.1
  rw [h] at h3
  exact (Option.some.inj h3).symm
/-- invokevirtual of a method of the class itself or of a nest mate -/
theorem g_callV {d2 index id ci n : Nat} {y2 : MethodName} {cc2 : ByteArray} {nL2 : Nat} {rt2 : Option FieldType} {as : List Value} {fs : List (Nat × Nat)} {T2 : u_T} {N2 : Nat} {ty2 : Nat → FieldType} {X2 : Option (Option Value × g_St)} {Kx : Option Value × g_St → Option (Option Value × g_St)}
    (hd : decode cc pc = .ok (.invokevirtual index, 3)) (ml : g_ML y.cls index y2) (mv : g_MV y2) (mc : g_MC y2 cc2 nL2 rt2 n) (cf : g_CF ci y2.cls T2 N2 ty2) (hid : id < Λ.1) (hΛ : Λ.2 id = .inl (ci, fs)) (hn : as.length = n) (hd2 : d2 + 1 ≤ d) (hn2 : nL2 ≤ 81) (hst : (st.map fun v => v.category).sum ≤ 8)
    (con : g_Con Λ d2 y2 cc2 nL2 rt2 (.ref id :: as) μ X2) (k : ∀ r μ1, X2 = some (r, μ1) → g_Go Λ d y cc nL rt (pc + 3) lo (r.toList ++ st) μ1 (Kx (r, μ1))) : g_Go Λ d y cc nL rt pc lo (as.reverse ++ .ref id :: st) μ (X2.bind Kx) := by
  intro r μ' hX p l e R s m args below meth c cells slots Q D tys ca ad wx A C K ls H locs hR hL
  cases hX2 : X2 with
  | none => rw [hX2] at hX; cases hX
  | some q =>
    obtain ⟨r1, μ1⟩ := q
    rw [hX2] at hX
    have cb := g_cb (d2 := d2) C mc hd2 hn2
    have hrun := con r1 μ1 hX2 l D tys ca ad wx H.size C.2.2.2.2.2.2.2.2.1
    have hfix : CallFix p m c cc nL s args g_gw y.cls := ⟨C.1, C.2.1, C.2.2.1, C.2.2.2.1, C.2.2.2.2.1⟩
    have he : (g_wW ad ca Λ μ ++ wx)[id]? = some (ad id, .inr (ci, g_fs ad μ id fs)) := by rw [g_wW_get hid, g_ent_o hΛ]
    have hpre : PreV s H y2.cls (ad id) (g_Pc Λ D tys ca ad wx H.size (.ref id :: as) μ) (g_tS ad as) := ⟨g_Pc_blind, va_recv C.2.2.2.2.2.2.1 hR.1 cf.1 he, fun U hU hW => g_pre (as := .ref id :: as) C hR U hU hW⟩
    have hstk : (g_tS ad (as.reverse ++ .ref id :: st)) = (g_tS ad as).reverse ++ .ref (ad id) :: g_tS ad st := by simp [g_tS, g_tr]
    have hroom : 2 * (F0 m pc ls (g_tS ad (as.reverse ++ .ref id :: st))).monitorRoom + ((g_tS ad st).map fun v => v.category).sum ≤ 8 := lv_room (by
      have : (g_tS ad st).map (fun v => v.category) = st.map (fun v => v.category) := by
        simp only [g_tS, List.map_map]
        apply List.map_congr_left
        intro v _
        cases v <;> rfl
      rw [this]; exact hst)
    have hlen : (g_tS ad as).length = n := by simp [g_tS, hn]
    have hfit : cells + 0 ≤ R.cells ∧ slots + 0 ≤ R.slots := ⟨C.2.2.2.2.2.2.2.2.2.1.2.2.1, C.2.2.2.2.2.2.2.2.2.1.2.2.2⟩
    have hgw : g_ws y2 cc2 nL2 rt2 = Cond.code y2 cc2 nL2 rt2 :: g_gw := rfl
    refine g_after hR C.2.2.2.2.2.2.2.1 (r := r1) (μ1 := μ1) (a := (g_tS ad (.ref id :: as)).toArray) (st := st) ?_ (fun H1 locs1 hR1 => k r1 μ1 hX2 r μ' hX p l e R s m args below meth c cells slots Q D tys ca ad wx A C K ls H1 locs1 hR1 hL)
    rcases ml with ml | ⟨host, ml⟩
    · exact va_runV (C := y2.cls) hfix hrun ⟨⟨rfl, rfl, cb.1, cb.2.1, cb.2.2.1, List.mem_cons_self, cb.2.2.2.1, cb.2.2.2.2.1, mc.2.2.1, cb.2.2.2.2.2, C.2.2.2.2.1 _ ml⟩, C.2.2.2.2.1 _ mv.1, C.2.2.2.2.1 _ mv.2⟩ hpre rfl hlen (hL.1) hstk hroom hd hfit
    · exact va_runVN (C := y2.cls) hfix hrun ⟨⟨⟨rfl, rfl, cb.1, cb.2.1, cb.2.2.1, List.mem_cons_self⟩, cb.2.2.2.1, cb.2.2.2.2.1, mc.2.2.1, cb.2.2.2.2.2, g_nest_use C.2.2.2.2.2.1 ml⟩, C.2.2.2.2.1 _ mv.1, C.2.2.2.2.1 _ mv.2⟩ hpre rfl hlen (hL.1) hstk hroom hd hfit
/-- invokestatic -/
theorem g_callS {d2 index n : Nat} {y2 : MethodName} {cc2 : ByteArray} {nL2 : Nat} {rt2 : Option FieldType} {as : List Value} {X2 : Option (Option Value × g_St)} {Kx : Option Value × g_St → Option (Option Value × g_St)}
    (hd : decode cc pc = .ok (.invokestatic index, 3)) (ml : g_ML y.cls index y2) (ms : Cond.static y2 ∈ g_gw) (mc : g_MC y2 cc2 nL2 rt2 n) (hn : as.length = n) (hd2 : d2 + 1 ≤ d) (hn2 : nL2 ≤ 81) (hst : (st.map fun v => v.category).sum ≤ 8)
    (con : g_Con Λ d2 y2 cc2 nL2 rt2 as μ X2) (k : ∀ r μ1, X2 = some (r, μ1) → g_Go Λ d y cc nL rt (pc + 3) lo (r.toList ++ st) μ1 (Kx (r, μ1))) : g_Go Λ d y cc nL rt pc lo (as.reverse ++ st) μ (X2.bind Kx) := by
  intro r μ' hX p l e R s m args below meth c cells slots Q D tys ca ad wx A C K ls H locs hR hL
  cases hX2 : X2 with
  | none => rw [hX2] at hX; cases hX
  | some q =>
    obtain ⟨r1, μ1⟩ := q
    rw [hX2] at hX
    have cb := g_cb (d2 := d2) C mc hd2 hn2
    have hrun := con r1 μ1 hX2 l D tys ca ad wx H.size C.2.2.2.2.2.2.2.2.1
    have hfix : CallFix p m c cc nL s args g_gw y.cls := ⟨C.1, C.2.1, C.2.2.1, C.2.2.2.1, C.2.2.2.2.1⟩
    have hpre : PreS s H (g_Pc Λ D tys ca ad wx H.size as μ) (g_tS ad as) := ⟨g_Pc_blind, fun U hU hW => g_pre (as := as) C hR U hU hW⟩
    have hstk : (g_tS ad (as.reverse ++ st)) = (g_tS ad as).reverse ++ g_tS ad st := by simp [g_tS]
    have hroom : 2 * (F0 m pc ls (g_tS ad (as.reverse ++ st))).monitorRoom + ((g_tS ad st).map fun v => v.category).sum ≤ 8 := lv_room (by
      have : (g_tS ad st).map (fun v => v.category) = st.map (fun v => v.category) := by
        simp only [g_tS, List.map_map]
        apply List.map_congr_left
        intro v _
        cases v <;> rfl
      rw [this]; exact hst)
    have hlen : (g_tS ad as).length = n := by simp [g_tS, hn]
    have hfit : cells + 0 ≤ R.cells ∧ slots + 0 ≤ R.slots := ⟨C.2.2.2.2.2.2.2.2.2.1.2.2.1, C.2.2.2.2.2.2.2.2.2.1.2.2.2⟩
    refine g_after hR C.2.2.2.2.2.2.2.1 (r := r1) (μ1 := μ1) (a := (g_tS ad as).toArray) (st := st) ?_ (fun H1 locs1 hR1 => k r1 μ1 hX2 r μ' hX p l e R s m args below meth c cells slots Q D tys ca ad wx A C K ls H1 locs1 hR1 hL)
    rcases ml with ml | ⟨host, ml⟩
    · exact va_runS hfix hrun ⟨⟨rfl, rfl, cb.1, cb.2.1, cb.2.2.1, List.mem_cons_self, cb.2.2.2.1, cb.2.2.2.2.1, mc.2.2.1, cb.2.2.2.2.2, C.2.2.2.2.1 _ ml⟩, C.2.2.2.2.1 _ ms⟩ hpre rfl hlen (hL.1) hstk hroom hd hfit
    · exact va_runSN hfix hrun ⟨⟨⟨rfl, rfl, cb.1, cb.2.1, cb.2.2.1, List.mem_cons_self⟩, cb.2.2.2.1, cb.2.2.2.2.1, mc.2.2.1, cb.2.2.2.2.2, g_nest_use C.2.2.2.2.2.1 ml⟩, C.2.2.2.2.1 _ ms, trivial⟩ hpre rfl hlen (hL.1) hstk hroom hd hfit
end GoCall
