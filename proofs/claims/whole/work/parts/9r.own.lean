/-! OwnMade's constructor: a callee's block behind a world -/
def g_InitX (Ex : (Nat → Prop) → State → Prop) (Λ : g_Lay) (μ : g_St) (o0 : va_E) (y : MethodName) (cc : ByteArray) (nL mc ms : Nat) : Prop :=
  ∀ (l : Launch) (D : va_G) (sz h0 : Nat), Met l y (g_ws y cc nL none) { frames := 20, cells := mc, slots := ms, locals := 2000 }
    (fun v U => v = #[Value.ref h0] ∧ U.heap.size = sz ∧ va_P D g_cl [(h0, o0)] U.heap ∧ va_K D g_cl [] U ∧ va_D (fun _ => True) [(h0, o0)] ∧ Ex (va_A [(h0, o0)] sz) U)
    (fun _ st oc t => oc = .returned none ∧ (∃ (ad ca : Nat → Nat) (tys : List (ClassId × FieldType)), ad 0 = h0 ∧ g_Ty Λ tys ca ∧ va_K D g_cl tys t ∧ va_P D g_cl (g_wW ad ca Λ μ) t.heap ∧ va_D (va_A [(h0, o0)] sz) (g_wW ad ca Λ μ)) ∧ va_F (va_A [(h0, o0)] sz) st t) mc ms (va_A [(h0, o0)] sz)
theorem cs_pl {D : va_G} {w1 w2 : va_W} {H : Heap} (h : va_P D g_cl (w1 ++ w2) H) : va_P D g_cl w1 H := fun k q hk => h k q (by rw [List.getElem?_append_left (List.getElem?_eq_some_iff.mp hk).1]; exact hk)
theorem cs_dl {A : Nat → Prop} {w1 w2 : va_W} (h : va_D A (w1 ++ w2)) : va_D A w1 := by
  have e : ∀ (k : Nat) (q : Nat × va_E), w1[k]? = some q → (w1 ++ w2)[k]? = some q := fun k q hk => by rw [List.getElem?_append_left (List.getElem?_eq_some_iff.mp hk).1]; exact hk
  exact ⟨fun i j p q hp hq => h.1 i j p q (e i p hp) (e j q hq), fun k q hk => h.2 k q (e k q hk)⟩
section CsCall
variable {p : Program} {l : Launch} {e : Env} {R : Room} {s : State} {m : MethodId} {args : Array Value} {below : List Frame} {meth : Method} {c : Code} {H : Heap} {locs : List Loc} {cells slots : Nat} {Q : State → Prop}
variable {cc : ByteArray} {pc : Nat} {ls : Array Slot} {D : va_G} {A : Nat → Prop} {tys : List (ClassId × FieldType)}
theorem cs_call {nL : Nat} {own host C : String} {ws : va_W} {rest : List Value} {Ex : (Nat → Prop) → State → Prop} {Λ' : g_Lay} {μ' : g_St} {fs0 : List Value} {y2 : MethodName} {cc2 : ByteArray} {nL2 mc ms ci N iC iM : Nat} {T : u_T} {ty0 : Nat → FieldType}
    (hx : p.tables.exec = Jvm.exec) (hb : c.code = cc) (hml : c.maxLocals = nL) (hown : s.vm.findClass own = some m.cls) (hts : ∀ w ∈ g_gw, w.before args s = true) (hN : ∀ w ∈ g_nw, va_Nw w s)
    (con : g_InitX Ex Λ' μ' (.inr (ci, fs0)) y2 cc2 nL2 mc ms) (cf : g_CF ci C T N ty0) (hfs : ∀ j, j < N → defaultValue (ty0 j) = vp_V fs0 j) (hcl : Cond.classLink own iC C ∈ g_gw) (hins : Cond.instantiable C N ∈ g_gw) (hini : Cond.initialized C ∈ g_gw) (hC : y2.cls = C)
    (hlink : Cond.methodLinkNest own iM y2 host ∈ g_nw) (hcode : Cond.code y2 cc2 nL2 none ∈ g_gw) (him : Cond.instanceMethod y2 ∈ g_gw) (hy1 : y2.name = "<init>") (hy2 : y2.cls ≠ "java/lang/invoke/MethodHandle" ∧ y2.cls ≠ "java/lang/invoke/VarHandle" ∧ (parseMethodDescriptor y2.desc).map (fun d => d.parameters.length) = some 0)
    (hd1 : decode cc pc = .ok (.new iC, 3)) (hd2 : decode cc (pc + 3) = .ok (.dup, 1)) (hd3 : decode cc (pc + 4) = .ok (.invokespecial iM, 3)) (hls : ls.size = nL) (hn2 : nL2 ≤ 81) (hR : 21 ≤ R.frames ∧ 2100 ≤ R.locals) (hst : (((rest.length : Nat)) ≤ 3) ∧ (∀ v ∈ rest, v.category = 1))
    (hce : cells + 1 + mc ≤ R.cells) (hsl : slots + N + ms ≤ R.slots)
    (hK : va_K D g_cl tys s) (hP : va_P D g_cl ws H) (hD : va_D A ws) (hS : va_S A s.heap H locs) (hA : ∀ q, s.heap.size ≤ q → A q)
    (hbl : ∀ (B : Nat → Prop) (a : Array Value) (U : State) (g : JFrame) (mk : MethodId), Ex B U → Ex B (U.calling g mk a))
    (hEx : ∀ (U : State) (H1 : Heap) (B : Nat → Prop) (locs1 : List Loc), s.WarmedH U.vm → U.heap = H1 → va_S A s.heap H1 locs1 → (∀ z, B z → A z) → Ex B U)
    (kk : ∀ (q : Nat) (ad1 ca1 : Nat → Nat) (tys1 : List (ClassId × FieldType)) (H1 : Heap) (locs1 : List Loc), ad1 0 = q → g_Ty Λ' tys1 ca1 → va_K D g_cl (tys ++ tys1) s → va_P D g_cl (ws ++ g_wW ad1 ca1 Λ' μ') H1 → va_D A (ws ++ g_wW ad1 ca1 Λ' μ') → va_S A s.heap H1 locs1 → W p l e R s m args below meth c H1 locs1 (cells + 1 + mc) (slots + N + ms) Q (F0 m (pc + 7) ls (.ref q :: rest))) :
    W p l e R s m args below meth c H locs cells slots Q (F0 m pc ls rest) := by
  refine va_new (ci := ci) (fs := fs0) (C := C) (T := T) (N := N) hx hb hts cf.2.1 ty0 cf.2.2.1 hown (hts _ hcl) (hts _ hins) (hts _ hini) hK hP hD hS hA cf.1 hfs (by omega) (by omega) hd1 (fun q H hP hD hS => ?_)
  refine lv_dup hx hb hd2 rfl ?_
  have hq : (ws ++ [((q, .inr (ci, fs0)) : Nat × va_E)])[ws.length]? = some (q, .inr (ci, fs0)) := by simp
  have hP1 : va_P D g_cl [((q, .inr (ci, fs0)) : Nat × va_E)] H := fun k x hk => by
    have h0 : k < 1 := (List.getElem?_eq_some_iff.mp hk).1
    rw [show k = 0 by omega] at hk
    cases hk
    exact hP ws.length _ hq
  have hD1 : va_D (fun _ => True) [((q, .inr (ci, fs0)) : Nat × va_E)] := ⟨fun i j x y hi hj _ => by
    have h1 : i < 1 := (List.getElem?_eq_some_iff.mp hi).1
    have h2 : j < 1 := (List.getElem?_eq_some_iff.mp hj).1
    omega, fun _ _ _ => trivial⟩
  have hAq : ∀ z, va_A [((q, .inr (ci, fs0)) : Nat × va_E)] H.size z → A z := fun z h => by
    rcases h with ⟨k, e0, h⟩ | h
    · have h0 : k < 1 := (List.getElem?_eq_some_iff.mp h).1
      rw [show k = 0 by omega] at h
      cases h
      exact hD.2 ws.length _ hq
    · exact hA z (Nat.le_trans hS.1 h)
  have hK0 : va_K D g_cl [] s := ⟨hK.1, fun k x hk => by cases hk⟩
  have hr := va_runIN (e := e) (below := below) (meth := meth) (H := H) (locs := locs) (cells := cells + 1) (slots := slots + N) (nL := nL) (As := []) (rest := .ref q :: rest) (g := F0 m (pc + 4) ls (.ref q :: .ref q :: rest)) (b := q) ⟨hx, hb, hml, hown, hts⟩ (con l D H.size q)
    (⟨va_cnB 0 hts (g_good (y := y2) (cc := cc2) (nL := nL2) (rt := none) hcode) rfl rfl rfl (hN _ hlink) (hts _ (by rw [hC]; exact hini)) hy2 ⟨by show 20 + 1 ≤ R.frames; omega, by show 8 + (nL2 + 11) + 2000 ≤ R.locals; omega⟩, hy1, hts _ him⟩ : _ ∧ _ ∧ _)
    ⟨fun a U g mk z => by
      obtain ⟨z0, z1, zP, zK, zD, zE⟩ := z
      exact ⟨z0, z1, zP, va_K.moved (u := U) (U := U.calling g mk a) (Vm.Alike.refl U.vm) zK, zD, hbl _ a U g mk zE⟩, fun U hU hW => ⟨rfl, by rw [hU], by rw [hU]; exact hP1, va_K.moved hW.alike hK0, hD1, hEx U H _ locs hW hU hS hAq⟩⟩
    rfl rfl hls rfl (lv_room (by
      have hsum : ∀ (r : List Value), (∀ v ∈ r, v.category = 1) → (r.map fun v => v.category).sum = r.length := by
        intro r
        induction r with
        | nil => intro _; rfl
        | cons v r ih =>
          intro h
          rw [List.map_cons, List.sum_cons, h v List.mem_cons_self, ih (fun w hw => h w (List.mem_cons_of_mem _ hw)), List.length_cons]; omega
      rw [List.map_cons, List.sum_cons, hsum rest hst.2]
      show 1 + rest.length ≤ 8
      omega)) hd3 ⟨by omega, by omega⟩
  intro T hT X
  obtain ⟨v, st₀, t, T', L, h0, X', hL, e1, e2, ⟨hv, ⟨ad1, ca1, tys1, a0, hTy, hK1, hPB, hDB⟩, hz, hk⟩, stp⟩ := hr T hT X
  cases hv
  rw [h0] at hz hk
  have hne : ∀ (k : Nat) (x : Nat × va_E), ws[k]? = some x → ¬ va_A [((q, .inr (ci, fs0)) : Nat × va_E)] H.size x.1 := fun k x hkx z => by
    have hl := (List.getElem?_eq_some_iff.mp hkx).1
    have hkx2 : (ws ++ [((q, .inr (ci, fs0)) : Nat × va_E)])[k]? = some x := by rw [List.getElem?_append_left hl]; exact hkx
    rcases z with ⟨k9, e0, h⟩ | h
    · have h9 : k9 < 1 := (List.getElem?_eq_some_iff.mp h).1
      rw [show k9 = 0 by omega] at h
      have h : q = x.1 := congrArg Prod.fst (Option.some.inj h)
      have := hD.1 k ws.length x _ hkx2 hq h.symm
      omega
    · have := (hP k x hkx2).lt
      omega
  have hPw : va_P D g_cl ws T'.heap := (cs_pl hP).kept (fun k x hkx => by
    have hl := (List.getElem?_eq_some_iff.mp hkx).1
    rw [e1]
    exact hk x.1 ((hP k x (by rw [List.getElem?_append_left hl]; exact hkx)).lt) (hne k x hkx))
  obtain ⟨t2, a1, b1⟩ := kk q ad1 ca1 tys1 T'.heap (locs ++ L) a0 hTy (hK.app (va_K.moved (by rw [← e2]; exact X'.warmed.alike.symm) hK1)) (hPw.app (by rw [e1]; exact hPB)) ((cs_dl hD).app (hDB.weaken (fun k x _ h => hAq _ h)) (fun i j x y hi hj hxy => hne i x hi (by rw [hxy]; exact hDB.2 j y hj)))
    ⟨Nat.le_trans hS.1 (by rw [e1]; exact hz), fun a h1 h2 => by rw [e1, hk a (Nat.lt_of_lt_of_le h1 hS.1) (fun z => h2 (hAq a z))]; exact hS.2.1 a h1 h2, fun x hx => by
      rcases List.mem_append.mp hx with h | h
      · exact hS.2.2 x h
      · exact hAq _ (hL x h)⟩ T' rfl X'
  exact ⟨t2, stp t2 a1, b1⟩
end CsCall
