/-! Fields, arrays and calls in the middle layer -/
theorem g_wW_get {ad : Nat → Nat} {ca : Nat → ClassId} {Λ : g_Lay} {μ : g_St} {wx : va_W} {id : Nat} (hid : id < Λ.1) : (g_wW ad ca Λ μ ++ wx)[id]? = some (ad id, g_ent ad ca Λ μ id) := by
  rw [List.getElem?_append_left (by simp [g_wW, hid])]
  simp [g_wW, hid]
theorem g_wW_set {ad : Nat → Nat} {ca : Nat → ClassId} {Λ : g_Lay} {μ μ' : g_St} {wx : va_W} {id : Nat} (hid : id < Λ.1) (ho : ∀ j, j ≠ id → g_ent ad ca Λ μ' j = g_ent ad ca Λ μ j) : (g_wW ad ca Λ μ ++ wx).set id (ad id, g_ent ad ca Λ μ' id) = g_wW ad ca Λ μ' ++ wx := by
  have hl : id < (g_wW ad ca Λ μ).length := by simp [g_wW, hid]
  rw [List.set_append_left _ _ hl]
  congr 1
  apply List.ext_getElem?
  intro k
  by_cases hk : k = id
  · subst hk
    simp [g_wW, hid]
  · rw [List.getElem?_set_ne (fun q => hk q.symm)]
    simp only [g_wW, List.getElem?_map]
    by_cases hk2 : k < Λ.1
    · simp [hk2, ho k hk]
    · simp [hk2]
def g_sI (μ : g_St) (id k : Nat) (v : Int32) : g_St := (fun a => if a = id then upd (μ.1 id) k v else μ.1 a, μ.2)
def g_sL (μ : g_St) (id k : Nat) (v : Int64) : g_St := (μ.1, fun a => if a = id then vp_updL (μ.2.1 id) k v else μ.2.1 a, μ.2.2)
def g_sQ (μ : g_St) (k id : Nat) : g_St := (μ.1, μ.2.1, fun a => if a = k then id else μ.2.2 a)
theorem g_fs_get {ad : Nat → Nat} {μ : g_St} {id k : Nat} {fs : List (Nat × Nat)} {q : Nat × Nat} (h : fs[k]? = some q) : (g_fs ad μ id fs)[k]? = some (g_fv ad μ id k q) := by
  simp [g_fs, h]
theorem g_fs_set {ad : Nat → Nat} {μ μ' : g_St} {id k : Nat} {fs : List (Nat × Nat)} {q : Nat × Nat} {v : Value} (h : fs[k]? = some q) (hv : g_fv ad μ' id k q = v) (ho : ∀ (j : Nat) (p : Nat × Nat), j ≠ k → fs[j]? = some p → g_fv ad μ' id j p = g_fv ad μ id j p) : (g_fs ad μ id fs).set k v = g_fs ad μ' id fs := by
  apply List.ext_getElem?
  intro j
  by_cases hj : j = k
  · subst hj
    have hl : j < fs.length := (List.getElem?_eq_some_iff.mp h).1
    rw [g_fs_get h, hv, List.getElem?_set]
    simp [g_fs, hl]
  · rw [List.getElem?_set_ne (fun q => hj q.symm)]
    cases hp : fs[j]? with
    | none => simp [g_fs, hp]
    | some p => rw [g_fs_get hp, g_fs_get hp, ho j p hj hp]
/-- what the tables say of a class -/
def g_CF (ci : Nat) (C : String) (T : u_T) (N : Nat) (ty0 : Nat → FieldType) : Prop :=
  g_cl[ci]? = some (C, T, N) ∧ (∀ w ∈ u_ws C T N, w ∈ g_gw) ∧ (∀ k, k < N → parseFieldDescriptor (T k).2.2.1 = some (ty0 k)) ∧ (∀ a, a < N → ∀ b, b < N → a ≠ b → (T a).2.1 ≠ (T b).2.1)
def g_FL (own : String) (index : Nat) (T : u_T) (k : Nat) : Prop :=
  Cond.fieldLink own index (T k).1 (T k).2.1 (T k).2.2.1 ∈ g_gw ∨ ∃ host, Cond.fieldLinkNest own index (T k).1 (T k).2.1 (T k).2.2.1 host ∈ g_nw
theorem g_nest_use {args : Array Value} {s : State} (h : ∀ w ∈ g_nw, va_Nw w s) {w : Cond} (hw : w ∈ g_nw) : w.before args s = true := by
  have h1 := h w hw
  have h2 : g_isN w = true := (List.mem_filter.mp hw).2
  cases w <;> first | exact va_Nw.use rfl h1 | cases h2
section GoHeap
variable {Λ : g_Lay} {d : Nat} {y : MethodName} {cc : ByteArray} {nL : Nat} {rt : Option FieldType} {pc : Nat} {lo : List (Option Value)} {st : List Value} {μ : g_St} {X : Option (Option Value × g_St)}
theorem g_ent_o {ad : Nat → Nat} {ca : Nat → ClassId} {id ci : Nat} {fs : List (Nat × Nat)} (h : Λ.2 id = .inl (ci, fs)) : g_ent ad ca Λ μ id = .inr (ci, g_fs ad μ id fs) := by
  simp only [g_ent, h]
theorem g_ent_a {ad : Nat → Nat} {ca : Nat → ClassId} {id ty n : Nat} {rf : Nat → Nat} (h : Λ.2 id = .inr (ty, n, rf)) : g_ent ad ca Λ μ id = .inl (ca id, g_ar ad μ id ty n rf) := by
  simp only [g_ent, h]
/-- a field is read -/
theorem g_getf {id ci k index N : Nat} {fs : List (Nat × Nat)} {q : Nat × Nat} {C : String} {T : u_T} {ty0 : Nat → FieldType} {v : Value} (hd : decode cc pc = .ok (.getfield index, 3)) (cf : g_CF ci C T N ty0) (fl : g_FL y.cls index T k) (hid : id < Λ.1) (hΛ : Λ.2 id = .inl (ci, fs)) (hq : fs[k]? = some q) (hk : k < N) (hv : ∀ ad : Nat → Nat, g_fv ad μ id k q = g_tr ad v)
    (kk : g_Go Λ d y cc nL rt (pc + 3) lo (v :: st) μ X) : g_Go Λ d y cc nL rt pc lo (.ref id :: st) μ X := by
  intro r μ' hX p l e R s m args below meth c cells slots Q D tys ca ad wx A Cx K ls H locs hR hL
  have K2 := kk r μ' hX p l e R s m args below meth c cells slots Q D tys ca ad wx A Cx K ls H locs hR hL
  obtain ⟨hx, hb, -, hown, hts, hnw, hK, -⟩ := Cx
  have he : (g_wW ad ca Λ μ ++ wx)[id]? = some (ad id, .inr (ci, g_fs ad μ id fs)) := by rw [g_wW_get hid, g_ent_o hΛ]
  have hf : (g_fs ad μ id fs)[k]? = some (g_tr ad v) := by rw [g_fs_get hq, hv ad]
  rcases fl with fl | ⟨host, fl⟩
  · exact va_get (cc := cc) hx hb hts cf.2.1 hown hK hR.1 id he cf.1 k hk (hts _ fl) (fun _ h9 => h9) hf hd K2
  · exact va_getN (cc := cc) hx hb hts cf.2.1 hown hK hR.1 id he cf.1 k hk (g_nest_use hnw fl) (fun _ h9 => h9) hf hd K2
/-- a field is written -/
theorem g_putf {id ci k index N : Nat} {fs : List (Nat × Nat)} {q : Nat × Nat} {C : String} {T : u_T} {ty0 : Nat → FieldType} {ty : FieldType} {v : Value} {μ2 : g_St} (hd : decode cc pc = .ok (.putfield index, 3)) (cf : g_CF ci C T N ty0) (fl : g_FL y.cls index T k) (hid : id < Λ.1) (hΛ : Λ.2 id = .inl (ci, fs)) (hq : fs[k]? = some q) (hk : k < N) (hfin : (T k).2.2.2 = false) (hty : parseFieldDescriptor (T k).2.2.1 = some ty)
    (hn : ∀ ad : Nat → Nat, narrow ty (g_tr ad v) = g_tr ad v) (hft : ∀ ad : Nat → Nat, fits ty (g_tr ad v) = true) (hv : ∀ ad : Nat → Nat, g_fv ad μ2 id k q = g_tr ad v) (ho : ∀ (ad : Nat → Nat) (j : Nat) (p : Nat × Nat), j ≠ k → fs[j]? = some p → g_fv ad μ2 id j p = g_fv ad μ id j p) (hx : ∀ (ad : Nat → Nat) (ca : Nat → ClassId) (j : Nat), j ≠ id → g_ent ad ca Λ μ2 j = g_ent ad ca Λ μ j)
    (kk : g_Go Λ d y cc nL rt (pc + 3) lo st μ2 X) : g_Go Λ d y cc nL rt pc lo (v :: .ref id :: st) μ X := by
  intro r μ' hX p l e R s m args below meth c cells slots Q D tys ca ad wx A Cx K ls H locs hR hL
  have K2 := kk r μ' hX p l e R s m args below meth c cells slots Q D tys ca ad wx A Cx K ls
  obtain ⟨hex, hb, -, hown, hts, hnw, hK, -⟩ := Cx
  have he : (g_wW ad ca Λ μ ++ wx)[id]? = some (ad id, .inr (ci, g_fs ad μ id fs)) := by rw [g_wW_get hid, g_ent_o hΛ]
  have hl : k < (g_fs ad μ id fs).length := by simpa [g_fs] using (List.getElem?_eq_some_iff.mp hq).1
  have hs : (g_wW ad ca Λ μ ++ wx).set id (ad id, .inr (ci, (g_fs ad μ id fs).set k (g_tr ad v))) = g_wW ad ca Λ μ2 ++ wx := by
    rw [← g_wW_set hid (hx ad ca), g_ent_o hΛ, g_fs_set hq (hv ad) (ho ad)]
  have fin : ∀ (H1 : Heap) (locs1 : List Loc), va_P D g_cl ((g_wW ad ca Λ μ ++ wx).set id (ad id, .inr (ci, (g_fs ad μ id fs).set k (g_tr ad v)))) H1 → va_D A ((g_wW ad ca Λ μ ++ wx).set id (ad id, .inr (ci, (g_fs ad μ id fs).set k (g_tr ad v)))) → va_S A s.heap H1 locs1 → W p l e R s m args below meth c H1 locs1 cells slots Q (F0 m (pc + 3) ls (g_tS ad st)) := by
    intro H1 locs1 h1 h2 h3
    rw [hs] at h1 h2
    exact K2 H1 locs1 ⟨h1, h2, h3⟩ hL
  rcases fl with fl | ⟨host, fl⟩
  · exact va_put (cc := cc) hex hb hts cf.2.1 ty0 cf.2.2.1 cf.2.2.2 hown hK hR.1 hR.2.1 hR.2.2 id he cf.1 k hk (hts _ fl) (fun _ h9 => h9) hfin hty (hn ad) (hft ad) hl hd fin
  · exact va_putN (cc := cc) hex hb hts cf.2.1 ty0 cf.2.2.1 cf.2.2.2 hown hK hR.1 hR.2.1 hR.2.2 id he cf.1 k hk (g_nest_use hnw fl) (fun _ h9 => h9) hfin hty (hn ad) (hft ad) hl hd fin
theorem g_sI_o {ad : Nat → Nat} {id j k : Nat} {v : Int32} {p : Nat × Nat} (h : j ≠ k) : g_fv ad (g_sI μ id k v) id j p = g_fv ad μ id j p := by
  have h1 : (g_sI μ id k v).1 id j = μ.1 id j := by simp [g_sI, upd, h]
  have h2 : (g_sI μ id k v).2 = μ.2 := rfl
  unfold g_fv
  rw [h1, h2]
theorem g_sI_x {ad : Nat → Nat} {ca : Nat → ClassId} {id j k : Nat} {v : Int32} (h : j ≠ id) : g_ent ad ca Λ (g_sI μ id k v) j = g_ent ad ca Λ μ j := by
  have h1 : (g_sI μ id k v).1 j = μ.1 j := by simp [g_sI, h]
  have h2 : (g_sI μ id k v).2 = μ.2 := rfl
  unfold g_ent g_fs g_fv g_ar
  rw [h1, h2]
theorem g_sL_x {ad : Nat → Nat} {ca : Nat → ClassId} {id j k : Nat} {v : Int64} (h : j ≠ id) : g_ent ad ca Λ (g_sL μ id k v) j = g_ent ad ca Λ μ j := by
  have h1 : (g_sL μ id k v).2.1 j = μ.2.1 j := by simp [g_sL, h]
  have h2 : (g_sL μ id k v).2.2 = μ.2.2 := rfl
  have h3 : (g_sL μ id k v).1 = μ.1 := rfl
  unfold g_ent g_fs g_fv g_ar
  rw [h1, h2, h3]
theorem g_sL_o {ad : Nat → Nat} {id j k : Nat} {v : Int64} {p : Nat × Nat} (h : j ≠ k) : g_fv ad (g_sL μ id k v) id j p = g_fv ad μ id j p := by
  have h1 : (g_sL μ id k v).2.1 id j = μ.2.1 id j := by simp [g_sL, vp_updL, h]
  have h2 : (g_sL μ id k v).2.2 = μ.2.2 := rfl
  have h3 : (g_sL μ id k v).1 = μ.1 := rfl
  unfold g_fv
  rw [h1, h2, h3]
theorem g_getI {id ci k index N q0 : Nat} {fs : List (Nat × Nat)} {C : String} {T : u_T} {ty0 : Nat → FieldType} (hd : decode cc pc = .ok (.getfield index, 3)) (cf : g_CF ci C T N ty0) (fl : g_FL y.cls index T k) (hid : id < Λ.1) (hΛ : Λ.2 id = .inl (ci, fs)) (hq : fs[k]? = some (0, q0)) (hk : k < N)
    (kk : g_Go Λ d y cc nL rt (pc + 3) lo (.int (μ.1 id k) :: st) μ X) : g_Go Λ d y cc nL rt pc lo (.ref id :: st) μ X := g_getf hd cf fl hid hΛ hq hk (fun _ => rfl) kk
theorem g_getL {id ci k index N q0 : Nat} {fs : List (Nat × Nat)} {C : String} {T : u_T} {ty0 : Nat → FieldType} (hd : decode cc pc = .ok (.getfield index, 3)) (cf : g_CF ci C T N ty0) (fl : g_FL y.cls index T k) (hid : id < Λ.1) (hΛ : Λ.2 id = .inl (ci, fs)) (hq : fs[k]? = some (1, q0)) (hk : k < N)
    (kk : g_Go Λ d y cc nL rt (pc + 3) lo (.long (μ.2.1 id k) :: st) μ X) : g_Go Λ d y cc nL rt pc lo (.ref id :: st) μ X := g_getf hd cf fl hid hΛ hq hk (fun _ => rfl) kk
theorem g_getS {id ci k index N q0 : Nat} {fs : List (Nat × Nat)} {C : String} {T : u_T} {ty0 : Nat → FieldType} (hd : decode cc pc = .ok (.getfield index, 3)) (cf : g_CF ci C T N ty0) (fl : g_FL y.cls index T k) (hid : id < Λ.1) (hΛ : Λ.2 id = .inl (ci, fs)) (hq : fs[k]? = some (2, q0)) (hk : k < N)
    (kk : g_Go Λ d y cc nL rt (pc + 3) lo (.ref q0 :: st) μ X) : g_Go Λ d y cc nL rt pc lo (.ref id :: st) μ X := g_getf hd cf fl hid hΛ hq hk (fun _ => rfl) kk
theorem g_getQ {id ci k index N q0 : Nat} {fs : List (Nat × Nat)} {C : String} {T : u_T} {ty0 : Nat → FieldType} (hd : decode cc pc = .ok (.getfield index, 3)) (cf : g_CF ci C T N ty0) (fl : g_FL y.cls index T k) (hid : id < Λ.1) (hΛ : Λ.2 id = .inl (ci, fs)) (hq : fs[k]? = some (3, q0)) (hk : k < N)
    (kk : g_Go Λ d y cc nL rt (pc + 3) lo (.ref (μ.2.2 q0) :: st) μ X) : g_Go Λ d y cc nL rt pc lo (.ref id :: st) μ X := g_getf hd cf fl hid hΛ hq hk (fun _ => rfl) kk
theorem g_putI {id ci k index N q0 : Nat} {fs : List (Nat × Nat)} {C : String} {T : u_T} {ty0 : Nat → FieldType} {ty : FieldType} {v : Int32} (hd : decode cc pc = .ok (.putfield index, 3)) (cf : g_CF ci C T N ty0) (fl : g_FL y.cls index T k) (hid : id < Λ.1) (hΛ : Λ.2 id = .inl (ci, fs)) (hq : fs[k]? = some (0, q0)) (hk : k < N) (hfin : (T k).2.2.2 = false) (hty : ty0 k = ty)
    (hn : narrow ty (.int v) = .int v) (hft : fits ty (.int v) = true) (kk : g_Go Λ d y cc nL rt (pc + 3) lo st (g_sI μ id k v) X) : g_Go Λ d y cc nL rt pc lo (.int v :: .ref id :: st) μ X :=
  g_putf (μ2 := g_sI μ id k v) hd cf fl hid hΛ hq hk hfin (by rw [cf.2.2.1 k hk, hty]) (fun _ => hn) (fun _ => hft) (fun _ => by simp [g_fv, g_sI, upd, g_tr]) (fun _ _ _ hj _ => g_sI_o hj) (fun _ _ _ hj => g_sI_x hj) kk
theorem g_putL {id ci k index N q0 : Nat} {fs : List (Nat × Nat)} {C : String} {T : u_T} {ty0 : Nat → FieldType} {v : Int64} (hd : decode cc pc = .ok (.putfield index, 3)) (cf : g_CF ci C T N ty0) (fl : g_FL y.cls index T k) (hid : id < Λ.1) (hΛ : Λ.2 id = .inl (ci, fs)) (hq : fs[k]? = some (1, q0)) (hk : k < N) (hfin : (T k).2.2.2 = false) (hty : ty0 k = .long)
    (kk : g_Go Λ d y cc nL rt (pc + 3) lo st (g_sL μ id k v) X) : g_Go Λ d y cc nL rt pc lo (.long v :: .ref id :: st) μ X :=
  g_putf (μ2 := g_sL μ id k v) hd cf fl hid hΛ hq hk hfin (by rw [cf.2.2.1 k hk, hty]) (fun _ => rfl) (fun _ => rfl) (fun _ => by simp [g_fv, g_sL, vp_updL, g_tr]) (fun _ _ _ hj _ => g_sL_o hj) (fun _ _ _ hj => g_sL_x hj) kk
/-- a moving reference is written: no other place of the layout names it -/
theorem g_putQ {id ci k index N q0 v : Nat} {fs : List (Nat × Nat)} {C : String} {T : u_T} {ty0 : Nat → FieldType} {E : String} (hd : decode cc pc = .ok (.putfield index, 3)) (cf : g_CF ci C T N ty0) (fl : g_FL y.cls index T k) (hid : id < Λ.1) (hΛ : Λ.2 id = .inl (ci, fs)) (hq : fs[k]? = some (3, q0)) (hk : k < N) (hfin : (T k).2.2.2 = false) (hty : ty0 k = .object E)
    (h1 : ∀ (j : Nat) (p : Nat × Nat), j ≠ k → fs[j]? = some p → p.1 < 3 ∨ p.2 ≠ q0) (h2 : ∀ j, j ≠ id → ∀ (cj : Nat) (fj : List (Nat × Nat)), Λ.2 j = .inl (cj, fj) → ∀ p ∈ fj, p.1 < 3)
    (kk : g_Go Λ d y cc nL rt (pc + 3) lo st (g_sQ μ q0 v) X) : g_Go Λ d y cc nL rt pc lo (.ref v :: .ref id :: st) μ X := by
  have fv : ∀ (ad : Nat → Nat) (i j : Nat) (p : Nat × Nat), p.1 < 3 ∨ p.2 ≠ q0 → g_fv ad (g_sQ μ q0 v) i j p = g_fv ad μ i j p := by
    intro ad i j p hp
    obtain ⟨a, b⟩ := p
    match a, hp with
    | 0, _ => rfl
    | 1, _ => rfl
    | 2, _ => rfl
    | a + 3, hp =>
      have hb : b ≠ q0 := hp.elim (fun h => absurd (show a + 3 < 3 from h) (by omega)) (fun h => h)
      simp [g_fv, g_sQ, hb]
  refine g_putf (μ2 := g_sQ μ q0 v) hd cf fl hid hΛ hq hk hfin (by rw [cf.2.2.1 k hk, hty]) (fun _ => rfl) (fun _ => rfl) (fun _ => by simp [g_fv, g_sQ, g_tr]) (fun ad j p hj hp => fv ad id j p (h1 j p hj hp)) (fun ad ca j hj => ?_) kk
  cases hj2 : Λ.2 j with
  | inr x => obtain ⟨ty, n, rf⟩ := x; rw [g_ent_a hj2, g_ent_a hj2]; rfl
  | inl x =>
    obtain ⟨cj, fj⟩ := x
    rw [g_ent_o hj2, g_ent_o hj2]
    congr 2
    apply List.ext_getElem?
    intro i
    cases hp : fj[i]? with
    | none => simp [g_fs, hp]
    | some p => rw [g_fs_get hp, g_fs_get hp, fv ad j i p (Or.inl (h2 j hj cj fj hj2 p (List.mem_of_getElem? hp)))]
end GoHeap
