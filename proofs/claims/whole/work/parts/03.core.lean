/-! The middle layer: a state of numbers (ints, longs, four moving references) laid out on the heap, and the judgement g_Go:
from here the method comes to a return, with what the shallow function says. -/
abbrev g_St : Type := (Nat → Nat → Int32) × (Nat → Nat → Int64) × (Nat → Nat)
abbrev g_Shp : Type := (Nat × List (Nat × Nat)) ⊕ (Nat × Nat × (Nat → Nat))
abbrev g_Lay : Type := Nat × (Nat → g_Shp)
def g_tr (ad : Nat → Nat) (v : Value) : Value := match v with
  | .ref a => .ref (ad a)
  | v => v
def g_tS (ad : Nat → Nat) (st : List Value) : List Value := st.map (g_tr ad)
def g_fv (ad : Nat → Nat) (μ : g_St) (id k : Nat) (q : Nat × Nat) : Value := match q.1 with
  | 0 => .int (μ.1 id k)
  | 1 => .long (μ.2.1 id k)
  | 2 => .ref (ad q.2)
  | _ => .ref (ad (μ.2.2 q.2))
def g_fs (ad : Nat → Nat) (μ : g_St) (id : Nat) (fs : List (Nat × Nat)) : List Value := fs.mapIdx (fun k q => g_fv ad μ id k q)
def g_ar (ad : Nat → Nat) (μ : g_St) (id ty n : Nat) (rf : Nat → Nat) : vp_A := match ty with
  | 1 => (n, .inr (.inl (μ.2.1 id)))
  | 4 => (n, .inr (.inr (.inr (.inr (fun j => some (ad (rf j)))))))
  | 5 => (n, .inr (.inr (.inr (.inr (fun j => some (ad (rf j)))))))
  | _ => (n, .inl (μ.1 id))
def g_ent (ad : Nat → Nat) (ca : Nat → ClassId) (Λ : g_Lay) (μ : g_St) (id : Nat) : va_E := match Λ.2 id with
  | .inl (ci, fs) => .inr (ci, g_fs ad μ id fs)
  | .inr (ty, n, rf) => .inl (ca id, g_ar ad μ id ty n rf)
def g_wW (ad : Nat → Nat) (ca : Nat → ClassId) (Λ : g_Lay) (μ : g_St) : va_W := (List.range Λ.1).map (fun id => (ad id, g_ent ad ca Λ μ id))
def g_tyOf (ty : Nat) : FieldType := match ty with
  | 1 => .long
  | 2 => .char
  | 3 => .boolean
  | 4 => .array .int
  | 5 => .object "OwnMade$Week"
  | _ => .int
def g_Ty (Λ : g_Lay) (tys : List (ClassId × FieldType)) (ca : Nat → ClassId) : Prop := ∀ id, id < Λ.1 → ∀ ty n rf, Λ.2 id = .inr (ty, n, rf) → ∃ t0 : Nat, tys[t0]? = some (ca id, g_tyOf ty)
/-- the words that every method may use: the good ones of the tables; and those of nest mates, kept beside -/
def g_gw : List Cond := lw_tbl.filter goodWord
def g_isN (w : Cond) : Bool := match w with
  | .fieldLinkNest .. => true
  | .methodLinkNest .. => true
  | _ => false
def g_nw : List Cond := lw_tbl.filter g_isN
def g_ws (y : MethodName) (cc : ByteArray) (nL : Nat) (rt : Option FieldType) : List Cond := .code y cc nL rt :: g_gw
def g_Rp (Λ : g_Lay) (D : va_G) (ca ad : Nat → Nat) (wx : va_W) (A : Nat → Prop) (H0 : Heap) (μ : g_St) (H : Heap) (locs : List Loc) : Prop :=
  va_P D g_cl (g_wW ad ca Λ μ ++ wx) H ∧ va_D A (g_wW ad ca Λ μ ++ wx) ∧ va_S A H0 H locs
/-- the two String constants that the class reads, at ids of their own: 900, 902 the texts, 901, 903 their bytes -/
def g_sl (i : Nat) : Nat := if i = 0 then 8 else 99
def g_sb0 : List Int32 := [40, 41, 60, 61, 43, 45, 42, 59]
def g_sb1 : List Int32 := "place way good hours from person at makes wants lawful when and or not own part sort door away free".toList.map (fun c => Int32.ofNat c.toNat)
def g_sb (i j : Nat) : Int32 := (if i = 0 then g_sb0 else g_sb1).getD j 0
def g_SX (ad : Nat → Nat) (A : Nat → Prop) (U : State) (H : Heap) : Prop :=
  va_Z "java/lang/String" "COMPACT_STRINGS" "Z" (.int 1) A U H ∧
  (∀ i : Nat, i < 2 → va_O "java/lang/String" (ad (900 + 2 * i)) A U H ∧ va_OF "java/lang/String" "coder" "B" (.int 0) (ad (900 + 2 * i)) A U H ∧ va_OF "java/lang/String" "value" "[B" (.ref (ad (901 + 2 * i))) (ad (900 + 2 * i)) A U H ∧ va_T .byte (ad (901 + 2 * i)) (g_sl i) (fun j => .int (g_sb i j)) A U H) ∧
  vk_R "OwnMade$Tape" 81 "()<=+-*;" (ad 900) U ∧ vk_R "OwnMade$Tape" 29 "place way good hours from person at makes wants lawful when and or not own part sort door away free" (ad 902) U ∧
  (va_Z "jdk/internal/util/Preconditions" "SIOOBE_FORMATTER" "Ljava/util/function/BiFunction;" .null A U H ∨ va_Z "jdk/internal/util/Preconditions" "SIOOBE_FORMATTER" "Ljava/util/function/BiFunction;" (.ref (ad 904)) A U H)
theorem g_SX.vm {ad : Nat → Nat} {A : Nat → Prop} {u U : State} {H : Heap} (hv : U.vm = u.vm) (h : g_SX ad A u H) : g_SX ad A U H := by
  have ha : u.vm.Alike U.vm := by rw [hv]; exact Vm.Alike.refl _
  exact ⟨va_Z.moved ha h.1, fun i hi => ⟨va_O.moved ha (h.2.1 i hi).1, va_OF.moved ha (h.2.1 i hi).2.1, va_OF.moved ha (h.2.1 i hi).2.2.1, va_T.moved ha (h.2.1 i hi).2.2.2⟩, vk_R.same hv h.2.2.1, vk_R.same hv h.2.2.2.1, h.2.2.2.2.imp (va_Z.moved ha) (va_Z.moved ha)⟩
theorem g_SX.warm {ad : Nat → Nat} {A : Nat → Prop} {s U : State} {H : Heap} (hW : s.WarmedH U.vm) (h : g_SX ad A s H) : g_SX ad A U H :=
  ⟨va_Z.moved hW.alike h.1, fun i hi => ⟨va_O.moved hW.alike (h.2.1 i hi).1, va_OF.moved hW.alike (h.2.1 i hi).2.1, va_OF.moved hW.alike (h.2.1 i hi).2.2.1, va_T.moved hW.alike (h.2.1 i hi).2.2.2⟩, vk_R.warm hW h.2.2.1, vk_R.warm hW h.2.2.2.1, h.2.2.2.2.imp (va_Z.moved hW.alike) (va_Z.moved hW.alike)⟩
theorem g_SX.kept {ad : Nat → Nat} {A : Nat → Prop} {U : State} {H H1 : Heap} (h : g_SX ad A U H) (hq : ∀ a : Nat, a < H.size → ¬ A a → H1[a]? = H[a]?) : g_SX ad A U H1 :=
  ⟨h.1.kept hq, fun i hi => ⟨(h.2.1 i hi).1.kept hq, (h.2.1 i hi).2.1.kept hq, (h.2.1 i hi).2.2.1.kept hq, (h.2.1 i hi).2.2.2.kept hq⟩, h.2.2.1, h.2.2.2.1, h.2.2.2.2.imp (fun z => z.kept hq) (fun z => z.kept hq)⟩
theorem g_SX.narrow {ad : Nat → Nat} {A B : Nat → Prop} {U : State} {H : Heap} (h : g_SX ad A U H) (hAB : ∀ q, B q → A q) : g_SX ad B U H :=
  ⟨h.1.narrow hAB, fun i hi => ⟨(h.2.1 i hi).1.narrow hAB, (h.2.1 i hi).2.1.narrow hAB, (h.2.1 i hi).2.2.1.narrow hAB, (h.2.1 i hi).2.2.2.narrow hAB⟩, h.2.2.1, h.2.2.2.1, h.2.2.2.2.imp (fun z => z.narrow hAB) (fun z => z.narrow hAB)⟩
def g_Cx (p : Program) (R : Room) (s : State) (m : MethodId) (args : Array Value) (c : Code) (d : Nat) (y : MethodName) (cc : ByteArray) (nL : Nat) (D : va_G) (tys : List (ClassId × FieldType)) (ca : Nat → ClassId) (Λ : g_Lay) (cells slots : Nat) (A : Nat → Prop) (ad : Nat → Nat) : Prop :=
  p.tables.exec = Jvm.exec ∧ c.code = cc ∧ c.maxLocals = nL ∧ s.vm.findClass y.cls = some m.cls ∧ (∀ w ∈ g_gw, w.before args s = true) ∧ (∀ w ∈ g_nw, va_Nw w s) ∧ va_K D g_cl tys s ∧ (∀ q, s.heap.size ≤ q → A q) ∧ g_Ty Λ tys ca ∧ (d ≤ R.frames ∧ 100 * d ≤ R.locals ∧ cells ≤ R.cells ∧ slots ≤ R.slots) ∧ g_SX ad A s s.heap
/-- the locals: what is told of them; the places' values without addresses -/
def g_Lo (ad : Nat → Nat) (lo : List (Option Value)) (nL : Nat) (ls : Array Slot) : Prop := ls.size = nL ∧ lv_wf ls ∧ ∀ (i : Nat) (v : Value), lo[i]? = some (some v) → ls[i]? = some (.val (g_tr ad v))
def g_rI (r : Option Value) : Instr := match r with
  | none => .return_
  | some (.long _) => .lreturn
  | some (.ref _) => .areturn
  | _ => .ireturn
/-- what a return makes of the value on the stack -/
def g_nr (rt : Option FieldType) (w : Option Value) : Option Value := match rt, w with
  | some .boolean, some (.int v) => some (.int (v &&& 1))
  | some .byte, some (.int v) => some (.int (vp_nar .byte v))
  | some .char, some (.int v) => some (.int (vp_nar .char v))
  | _, w => w
/-- at pc a NoSuchElementException is made and thrown: new; dup; ldc or ldc_w; invokespecial; athrow -/
def g_thrOK (cc : ByteArray) (pc : Nat) : Prop := decode cc pc = .ok (.new 185, 3) ∧ decode cc (pc + 3) = .ok (.dup, 1) ∧
  ((∃ (is : Nat) (tx : String), (is = 187 ∧ tx = "no such thing" ∨ is = 204 ∧ tx = "nothing of a thing is asked so") ∧ decode cc (pc + 4) = .ok (.ldc is, 2) ∧ decode cc (pc + 6) = .ok (.invokespecial 189, 3) ∧ decode cc (pc + 9) = .ok (.athrow, 1)) ∨
   (∃ (is : Nat) (tx : String), (is = 279 ∧ tx = "no such fair" ∨ is = 305 ∧ tx = "no such lie") ∧ decode cc (pc + 4) = .ok (.ldc_w is, 3) ∧ decode cc (pc + 7) = .ok (.invokespecial 189, 3) ∧ decode cc (pc + 10) = .ok (.athrow, 1)))
/-- an end: a return with r, or (r a place in the code) the place where a throw begins -/
def g_end (cc : ByteArray) (rt : Option FieldType) (pc : Nat) (r w : Option Value) : Prop := match r with
  | some (.retAddr t) => pc = t ∧ w = none ∧ g_thrOK cc pc
  | r => decode cc pc = .ok (g_rI r, 1) ∧ g_nr rt w = r
def g_Go (Λ : g_Lay) (d : Nat) (y : MethodName) (cc : ByteArray) (nL : Nat) (rt : Option FieldType) (pc : Nat) (lo : List (Option Value)) (st : List Value) (μ : g_St) (X : Option (Option Value × g_St)) : Prop :=
  ∀ (r : Option Value) (μ' : g_St), X = some (r, μ') →
  ∀ (p : Program) (l : Launch) (e : Env) (R : Room) (s : State) (m : MethodId) (args : Array Value) (below : List Frame) (meth : Method) (c : Code) (cells slots : Nat) (Q : State → Prop) (D : va_G) (tys : List (ClassId × FieldType)) (ca ad : Nat → Nat) (wx : va_W) (A : Nat → Prop),
  g_Cx p R s m args c d y cc nL D tys ca Λ cells slots A ad →
  (∀ (pc' : Nat) (ls : Array Slot) (H : Heap) (locs : List Loc) (w : Option Value), g_end cc rt pc' r w → ls.size = nL → g_Rp Λ D ca ad wx A s.heap μ' H locs → W p l e R s m args below meth c H locs cells slots Q (F0 m pc' ls (g_tS ad w.toList))) →
  ∀ (ls : Array Slot) (H : Heap) (locs : List Loc), g_Rp Λ D ca ad wx A s.heap μ H locs → g_Lo ad lo nL ls → W p l e R s m args below meth c H locs cells slots Q (F0 m pc ls (g_tS ad st))
section GoBase
variable {Λ : g_Lay} {d : Nat} {y : MethodName} {cc : ByteArray} {nL : Nat} {rt : Option FieldType} {pc : Nat} {lo : List (Option Value)} {st : List Value} {μ : g_St} {X : Option (Option Value × g_St)}
/-- a step that touches the stack alone -/
theorem g_st {pc2 : Nat} {st2 : List Value} (h : ∀ (p : Program) (l : Launch) (e : Env) (R : Room) (s : State) (m : MethodId) (args : Array Value) (below : List Frame) (meth : Method) (c : Code) (cells slots : Nat) (Q : State → Prop) (D : va_G) (tys : List (ClassId × FieldType)) (ca ad : Nat → Nat) (A : Nat → Prop) (ls : Array Slot) (H : Heap) (locs : List Loc),
    p.tables.exec = Jvm.exec → c.code = cc → g_Cx p R s m args c d y cc nL D tys ca Λ cells slots A ad → g_Lo ad lo nL ls → W p l e R s m args below meth c H locs cells slots Q (F0 m pc2 ls (g_tS ad st2)) → W p l e R s m args below meth c H locs cells slots Q (F0 m pc ls (g_tS ad st)))
    (k : g_Go Λ d y cc nL rt pc2 lo st2 μ X) : g_Go Λ d y cc nL rt pc lo st μ X := by
  intro r μ' hX p l e R s m args below meth c cells slots Q D tys ca ad wx A C K ls H locs hR hL
  exact h p l e R s m args below meth c cells slots Q D tys ca ad A ls H locs C.1 C.2.1 C hL (k r μ' hX p l e R s m args below meth c cells slots Q D tys ca ad wx A C K ls H locs hR hL)
theorem g_lget {ad : Nat → Nat} {ls : Array Slot} (h : g_Lo ad lo nL ls) {i : Nat} {v : Value} (hi : lo[i]? = some (some v)) : ls[i]? = some (.val (g_tr ad v)) := h.2.2 i v hi
theorem g_iload {i : Nat} {x : Int32} (hd : decode cc pc = .ok (.iload i, 2)) (hi : lo[i]? = some (some (.int x))) (k : g_Go Λ d y cc nL rt (pc + 2) lo (.int x :: st) μ X) : g_Go Λ d y cc nL rt pc lo st μ X :=
  g_st (fun p l e R s m args below meth c cells slots Q D tys ca ad A ls H locs hx hb _ hL kk => lv_iload hx hb hd (g_lget hL hi) kk) k
theorem g_iload_n {j : Fin 4} {i : Nat} {x : Int32} (hd : decode cc pc = .ok (.iload_n j, 1)) (hj : (j : Nat) = i) (hi : lo[i]? = some (some (.int x))) (k : g_Go Λ d y cc nL rt (pc + 1) lo (.int x :: st) μ X) : g_Go Λ d y cc nL rt pc lo st μ X :=
  g_st (fun p l e R s m args below meth c cells slots Q D tys ca ad A ls H locs hx hb _ hL kk => lv_iload_n hx hb hd hj (g_lget hL hi) kk) k
theorem g_lload {i : Nat} {x : Int64} (hd : decode cc pc = .ok (.lload i, 2)) (hi : lo[i]? = some (some (.long x))) (k : g_Go Λ d y cc nL rt (pc + 2) lo (.long x :: st) μ X) : g_Go Λ d y cc nL rt pc lo st μ X :=
  g_st (fun p l e R s m args below meth c cells slots Q D tys ca ad A ls H locs hx hb _ hL kk => lv_lload hx hb hd (g_lget hL hi) kk) k
theorem g_aload {i : Nat} {x : Nat} (hd : decode cc pc = .ok (.aload i, 2)) (hi : lo[i]? = some (some (.ref x))) (k : g_Go Λ d y cc nL rt (pc + 2) lo (.ref x :: st) μ X) : g_Go Λ d y cc nL rt pc lo st μ X :=
  g_st (fun p l e R s m args below meth c cells slots Q D tys ca ad A ls H locs hx hb _ hL kk => lv_aload hx hb hd (g_lget hL hi) kk) k
theorem g_aload_n {j : Fin 4} {i : Nat} {x : Nat} (hd : decode cc pc = .ok (.aload_n j, 1)) (hj : (j : Nat) = i) (hi : lo[i]? = some (some (.ref x))) (k : g_Go Λ d y cc nL rt (pc + 1) lo (.ref x :: st) μ X) : g_Go Λ d y cc nL rt pc lo st μ X :=
  g_st (fun p l e R s m args below meth c cells slots Q D tys ca ad A ls H locs hx hb _ hL kk => lv_aload_n hx hb hd hj (g_lget hL hi) kk) k
theorem g_iadd {x z : Int32} (hd : decode cc pc = .ok (.iadd, 1)) (k : g_Go Λ d y cc nL rt (pc + 1) lo (.int (x + z) :: st) μ X) : g_Go Λ d y cc nL rt pc lo (.int z :: .int x :: st) μ X :=
  g_st (fun p l e R s m args below meth c cells slots Q D tys ca ad A ls H locs hx hb _ hL kk => lv_iadd hx hb hd kk) k
end GoBase
