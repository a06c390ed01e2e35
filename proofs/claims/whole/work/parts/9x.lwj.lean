/-! The law's body: what it calls -/
section ClCall
variable {p : Program} {l : Launch} {e : Env} {R : Room} {s : State} {m : MethodId} {args : Array Value} {below : List Frame} {meth : Method} {c : Code} {H : Heap} {locs : List Loc} {cells slots : Nat} {Q : State → Prop}
variable {cc : ByteArray} {pc : Nat} {ls : Array Slot} {D : va_G} {A : Nat → Prop} {tys : List (ClassId × FieldType)}
theorem cl_call {nL fr lo : Nat} {PA : (Nat → Nat) → Nat → Prop} {own C : String} {ws : va_W} {rest : List Value} {Ex : (Nat → Prop) → State → Prop} {Λ' : g_Lay} {μ' : g_St} {fs0 : List Value} {y2 : MethodName} {cc2 : ByteArray} {nL2 mc ms ci N iC iM : Nat} {T : u_T} {ty0 : Nat → FieldType}
    (hx : p.tables.exec = Jvm.exec) (hb : c.code = cc) (hml : c.maxLocals = nL) (hown : s.vm.findClass own = some m.cls) (hts : ∀ w ∈ g_gw, w.before args s = true) 
    (con : ∀ (sz h0 : Nat), Met l y2 (g_ws y2 cc2 nL2 none) { frames := fr, cells := mc, slots := ms, locals := lo }
      (fun v U => v = #[Value.ref h0] ∧ U.heap.size = sz ∧ va_P D g_cl [(h0, .inr (ci, fs0))] U.heap ∧ va_K D g_cl [] U ∧ va_D (fun _ => True) [((h0, .inr (ci, fs0)) : Nat × va_E)] ∧ Ex (va_A [(h0, .inr (ci, fs0))] sz) U)
      (fun _ st oc t => oc = .returned none ∧ (∃ (ad ca : Nat → Nat) (tys : List (ClassId × FieldType)), PA ad h0 ∧ g_Ty Λ' tys ca ∧ va_K D g_cl tys t ∧ va_P D g_cl (g_wW ad ca Λ' μ') t.heap ∧ va_D (va_A [(h0, .inr (ci, fs0))] sz) (g_wW ad ca Λ' μ')) ∧ va_F (va_A [(h0, .inr (ci, fs0))] sz) st t) mc ms (va_A [(h0, .inr (ci, fs0))] sz)) (cf : g_CF ci C T N ty0) (hfs : ∀ j, j < N → defaultValue (ty0 j) = vp_V fs0 j) (hcl : Cond.classLink own iC C ∈ g_gw) (hins : Cond.instantiable C N ∈ g_gw) (hini : Cond.initialized C ∈ g_gw) (hC : y2.cls = C)
    (hlink : Cond.methodLink own iM y2 ∈ g_gw) (hcode : Cond.code y2 cc2 nL2 none ∈ g_gw) (him : Cond.instanceMethod y2 ∈ g_gw) (hy1 : y2.name = "<init>") (hy2 : y2.cls ≠ "java/lang/invoke/MethodHandle" ∧ y2.cls ≠ "java/lang/invoke/VarHandle" ∧ (parseMethodDescriptor y2.desc).map (fun d => d.parameters.length) = some 0)
    (hd1 : decode cc pc = .ok (.new iC, 3)) (hd2 : decode cc (pc + 3) = .ok (.dup, 1)) (hd3 : decode cc (pc + 4) = .ok (.invokespecial iM, 3)) (hls : ls.size = nL) (hn2 : nL2 ≤ 81) (hR : fr + 1 ≤ R.frames ∧ 100 + lo ≤ R.locals) (hst : (((rest.length : Nat)) ≤ 3) ∧ (∀ v ∈ rest, v.category = 1))
    (hce : cells + 1 + mc ≤ R.cells) (hsl : slots + N + ms ≤ R.slots)
    (hK : va_K D g_cl tys s) (hP : va_P D g_cl ws H) (hD : va_D A ws) (hS : va_S A s.heap H locs) (hA : ∀ q, s.heap.size ≤ q → A q)
    (hbl : ∀ (B : Nat → Prop) (a : Array Value) (U : State) (g : JFrame) (mk : MethodId), Ex B U → Ex B (U.calling g mk a))
    (hEx : ∀ (U : State) (H1 : Heap) (B : Nat → Prop) (locs1 : List Loc), s.WarmedH U.vm → U.heap = H1 → va_S A s.heap H1 locs1 → (∀ z, B z → A z) → Ex B U)
    (kk : ∀ (q : Nat) (ad1 ca1 : Nat → Nat) (tys1 : List (ClassId × FieldType)) (H1 : Heap) (locs1 : List Loc), PA ad1 q → g_Ty Λ' tys1 ca1 → va_K D g_cl (tys ++ tys1) s → va_P D g_cl (ws ++ g_wW ad1 ca1 Λ' μ') H1 → va_D A (ws ++ g_wW ad1 ca1 Λ' μ') → va_S A s.heap H1 locs1 → W p l e R s m args below meth c H1 locs1 (cells + 1 + mc) (slots + N + ms) Q (F0 m (pc + 7) ls (.ref q :: rest))) :
    W p l e R s m args below meth c H locs cells slots Q (F0 m pc ls rest) := by
  refine va_new (ci := ci) (fs := fs0) (C := C) (T := T) (N := N) hx hb hts cf.2.1 ty0 cf.2.2.1 hown (hts _ hcl) (hts _ hins) (hts _ hini) hK hP hD hS hA cf.1 hfs (by omega) (by omega) hd1 (fun q H hP hD hS => ?_)
  refine lv_dup hx hb hd2 rfl ?_
  have hq : (ws ++ [((q, .inr (ci, fs0)) : Nat × va_E)])[ws.length]? = some (q, .inr (ci, fs0)) := by simp
  have hP1 : va_P D g_cl [((q, .inr (ci, fs0)) : Nat × va_E)] H := fun k x hk => by
    have h0 : k < 1 := (List.getElem?_eq_some_iff.mp hk).1
    rw [show k = 0 by omega] at hk
    cases hk
    exact hP ws.length _ hq
  have hD1 : va_D (fun _ => True) [((q, .inr (ci, fs0)) : Nat × va_E)] := ⟨fun i j x y hi hj _ => by
    have h1 : i < 1 := (List.getElem?_eq_some_iff.mp hi).1
    have h2 : j < 1 := (List.getElem?_eq_some_iff.mp hj).1
    omega, fun _ _ _ => trivial⟩
  have hAq : ∀ z, va_A [((q, .inr (ci, fs0)) : Nat × va_E)] H.size z → A z := fun z h => by
    rcases h with ⟨k, e0, h⟩ | h
    · have h0 : k < 1 := (List.getElem?_eq_some_iff.mp h).1
      rw [show k = 0 by omega] at h
      cases h
      exact hD.2 ws.length _ hq
    · exact hA z (Nat.le_trans hS.1 h)
  have hK0 : va_K D g_cl [] s := ⟨hK.1, fun k x hk => by cases hk⟩
  have hr := va_runI (e := e) (below := below) (meth := meth) (H := H) (locs := locs) (cells := cells + 1) (slots := slots + N) (nL := nL) (As := []) (rest := .ref q :: rest) (g := F0 m (pc + 4) ls (.ref q :: .ref q :: rest)) (b := q) ⟨hx, hb, hml, hown, hts⟩ (con H.size q)
    (⟨callB_of 0 hts (g_good (y := y2) (cc := cc2) (nL := nL2) (rt := none) hcode) rfl rfl rfl (hts _ (by rw [hC]; exact hini)) (hts _ hlink) hy2 ⟨by show fr + 1 ≤ R.frames; omega, by show 8 + (nL2 + 11) + lo ≤ R.locals; omega⟩, hy1, hts _ him⟩ : _ ∧ _ ∧ _)
    ⟨fun a U g mk z => by
      obtain ⟨z0, z1, zP, zK, zD, zE⟩ := z
      exact ⟨z0, z1, zP, va_K.moved (u := U) (U := U.calling g mk a) (Vm.Alike.refl U.vm) zK, zD, hbl _ a U g mk zE⟩, fun U hU hW => ⟨rfl, by rw [hU], by rw [hU]; exact hP1, va_K.moved hW.alike hK0, hD1, hEx U H _ locs hW hU hS hAq⟩⟩
    rfl rfl hls rfl (lv_room (by
      have hsum : ∀ (r : List Value), (∀ v ∈ r, v.category = 1) → (r.map fun v => v.category).sum = r.length := by
        intro r
        induction r with
        | nil => intro _; rfl
        | cons v r ih =>
          intro h
          rw [List.map_cons, List.sum_cons, h v List.mem_cons_self, ih (fun w hw => h w (List.mem_cons_of_mem _ hw)), List.length_cons]; omega
      rw [List.map_cons, List.sum_cons, hsum rest hst.2]
      show 1 + rest.length ≤ 8
      omega)) hd3 ⟨by omega, by omega⟩
  intro T hT X
  obtain ⟨v, st₀, t, T', L, h0, X', hL, e1, e2, ⟨hv, ⟨ad1, ca1, tys1, a0, hTy, hK1, hPB, hDB⟩, hz, hk⟩, stp⟩ := hr T hT X
  cases hv
  rw [h0] at hz hk
  have hne : ∀ (k : Nat) (x : Nat × va_E), ws[k]? = some x → ¬ va_A [((q, .inr (ci, fs0)) : Nat × va_E)] H.size x.1 := fun k x hkx z => by
    have hl := (List.getElem?_eq_some_iff.mp hkx).1
    have hkx2 : (ws ++ [((q, .inr (ci, fs0)) : Nat × va_E)])[k]? = some x := by rw [List.getElem?_append_left hl]; exact hkx
    rcases z with ⟨k9, e0, h⟩ | h
    · have h9 : k9 < 1 := (List.getElem?_eq_some_iff.mp h).1
      rw [show k9 = 0 by omega] at h
      have h : q = x.1 := congrArg Prod.fst (Option.some.inj h)
      have := hD.1 k ws.length x _ hkx2 hq h.symm
      omega
    · have := (hP k x hkx2).lt
      omega
  have hPw : va_P D g_cl ws T'.heap := (cs_pl hP).kept (fun k x hkx => by
    have hl := (List.getElem?_eq_some_iff.mp hkx).1
    rw [e1]
    exact hk x.1 ((hP k x (by rw [List.getElem?_append_left hl]; exact hkx)).lt) (hne k x hkx))
  obtain ⟨t2, a1, b1⟩ := kk q ad1 ca1 tys1 T'.heap (locs ++ L) a0 hTy (hK.app (va_K.moved (by rw [← e2]; exact X'.warmed.alike.symm) hK1)) (hPw.app (by rw [e1]; exact hPB)) ((cs_dl hD).app (hDB.weaken (fun k x _ h => hAq _ h)) (fun i j x y hi hj hxy => hne i x hi (by rw [hxy]; exact hDB.2 j y hj)))
    ⟨Nat.le_trans hS.1 (by rw [e1]; exact hz), fun a h1 h2 => by rw [e1, hk a (Nat.lt_of_lt_of_le h1 hS.1) (fun z => h2 (hAq a z))]; exact hS.2.1 a h1 h2, fun x hx => by
      rcases List.mem_append.mp hx with h | h
      · exact hS.2.2 x h
      · exact hAq _ (hL x h)⟩ T' rfl X'
  exact ⟨t2, stp t2 a1, b1⟩
/-- a call on the class or on the reference, from the law -/
theorem lj_call {Λ : g_Lay} {d nL d2 index id ci n : Nat} {y y2 : MethodName} {cc2 : ByteArray} {nL2 : Nat} {rt2 : Option FieldType} {as st : List Value} {fs : List (Nat × Nat)} {T2 : u_T} {N2 : Nat} {ty2 : Nat → FieldType} {X2 : Option (Option Value × g_St)} {ca ad : Nat → Nat} {wx : va_W} {μ μ1 : g_St} {r1 : Option Value}
    (C : g_Cx p R s m args c d y cc nL D tys ca Λ cells slots A ad) (hd : decode cc pc = .ok (.invokevirtual index, 3)) (ml : Cond.methodLink y.cls index y2 ∈ g_gw) (mv : g_MV y2) (mc : g_MC y2 cc2 nL2 rt2 n) (cf : g_CF ci y2.cls T2 N2 ty2) (hid : id < Λ.1) (hΛ : Λ.2 id = .inl (ci, fs)) (hn : as.length = n) (hd2 : d2 + 1 ≤ d) (hn2 : nL2 ≤ 81) (hst : (st.map fun v => v.category).sum ≤ 8)
    (con : g_Con Λ d2 y2 cc2 nL2 rt2 (.ref id :: as) μ X2) (hX2 : X2 = some (r1, μ1)) (hls : ls.size = nL) (hR : g_Rp Λ D ca ad wx A s.heap μ H locs)
    (kk : ∀ (H1 : Heap) (locs1 : List Loc), g_Rp Λ D ca ad wx A s.heap μ1 H1 locs1 → W p l e R s m args below meth c H1 locs1 cells slots Q (F0 m (pc + 3) ls (g_tS ad (r1.toList ++ st)))) :
    W p l e R s m args below meth c H locs cells slots Q (F0 m pc ls (g_tS ad (as.reverse ++ .ref id :: st))) := by
  have cb := g_cb (d2 := d2) C mc hd2 hn2
  have hrun := con r1 μ1 hX2 l D tys ca ad wx H.size C.2.2.2.2.2.2.2.2.1
  have hfix : CallFix p m c cc nL s args g_gw y.cls := ⟨C.1, C.2.1, C.2.2.1, C.2.2.2.1, C.2.2.2.2.1⟩
  have he : (g_wW ad ca Λ μ ++ wx)[id]? = some (ad id, .inr (ci, g_fs ad μ id fs)) := by rw [g_wW_get hid, g_ent_o hΛ]
  have hpre : PreV s H y2.cls (ad id) (g_Pc Λ D tys ca ad wx H.size (.ref id :: as) μ) (g_tS ad as) := ⟨g_Pc_blind, va_recv C.2.2.2.2.2.2.1 hR.1 cf.1 he, fun U hU hW => g_pre (as := .ref id :: as) C hR U hU hW⟩
  have hstk : (g_tS ad (as.reverse ++ .ref id :: st)) = (g_tS ad as).reverse ++ .ref (ad id) :: g_tS ad st := by simp [g_tS, g_tr]
  have hroom : 2 * (F0 m pc ls (g_tS ad (as.reverse ++ .ref id :: st))).monitorRoom + ((g_tS ad st).map fun v => v.category).sum ≤ 8 := lv_room (by rw [g_mathcat]; exact hst)
  have hlen : (g_tS ad as).length = n := by simp [g_tS, hn]
  have hfit : cells + 0 ≤ R.cells ∧ slots + 0 ≤ R.slots := ⟨C.2.2.2.2.2.2.2.2.2.1.2.2.1, C.2.2.2.2.2.2.2.2.2.1.2.2.2⟩
  refine g_after hR C.2.2.2.2.2.2.2.1 (r := r1) (μ1 := μ1) (a := (g_tS ad (.ref id :: as)).toArray) (st := st) ?_ kk
  exact va_runV (C := y2.cls) hfix hrun ⟨⟨rfl, rfl, cb.1, cb.2.1, cb.2.2.1, List.mem_cons_self, cb.2.2.2.1, cb.2.2.2.2.1, mc.2.2.1, cb.2.2.2.2.2, C.2.2.2.2.1 _ ml⟩, C.2.2.2.2.1 _ mv.1, C.2.2.2.2.1 _ mv.2⟩ hpre rfl hlen hls hstk hroom hd hfit
end ClCall
/-- the two worlds, the other one first -/
theorem lj_swap {Λ Λ' : g_Lay} {D : va_G} {ca ad ca' ad' : Nat → Nat} {x : Nat × va_E} {A : Nat → Prop} {H0 H : Heap} {μ μ' : g_St} {locs : List Loc} (h : g_Rp Λ D ca ad (x :: g_wW ad' ca' Λ' μ') A H0 μ H locs) : g_Rp Λ' D ca' ad' (g_wW ad ca Λ μ ++ [x]) A H0 μ' H locs := by
  obtain ⟨h1, h2, h3⟩ := h
  have e : g_wW ad ca Λ μ ++ x :: g_wW ad' ca' Λ' μ' = ([] ++ (g_wW ad ca Λ μ ++ [x])) ++ g_wW ad' ca' Λ' μ' := by simp
  rw [e] at h1 h2
  exact ⟨va_P.swap h1, va_D.swap h2, h3⟩
theorem lj_back {Λ Λ' : g_Lay} {D : va_G} {ca ad ca' ad' : Nat → Nat} {x : Nat × va_E} {A : Nat → Prop} {H0 H : Heap} {μ μ' : g_St} {locs : List Loc} (h : g_Rp Λ' D ca' ad' (g_wW ad ca Λ μ ++ [x]) A H0 μ' H locs) : g_Rp Λ D ca ad (x :: g_wW ad' ca' Λ' μ') A H0 μ H locs := by
  obtain ⟨h1, h2, h3⟩ := h
  have e : g_wW ad ca Λ μ ++ x :: g_wW ad' ca' Λ' μ' = ([] ++ (g_wW ad ca Λ μ ++ [x])) ++ g_wW ad' ca' Λ' μ' := by simp
  have e2 : g_wW ad' ca' Λ' μ' ++ (g_wW ad ca Λ μ ++ [x]) = ([] ++ g_wW ad' ca' Λ' μ') ++ (g_wW ad ca Λ μ ++ [x]) := by simp
  rw [e2] at h1 h2
  unfold g_Rp
  rw [e]
  exact ⟨va_P.swap h1, va_D.swap h2, h3⟩
