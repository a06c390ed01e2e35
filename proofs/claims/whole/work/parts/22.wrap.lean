/-! The law's own thing, fair, lie: they call, put the answer into out[0] and answer 0; or catch and answer 1 -/
def g_oE (co : ClassId) (o : Nat → Int64) : va_E := .inl (co, 1, .inr (.inl o))
def g_wsH (y : MethodName) (cc : ByteArray) (nL : Nat) (hh : List (Nat × Nat × Nat × Nat)) : List Cond := .codeWith y cc nL (some .int) hh :: g_gw
def g_WQ (q : Int32 ⊕ Nat) (r : Int32) (o o' : Nat → Int64) : Prop := match q with
  | .inl x => r = 0 ∧ o' = vp_updL o 0 x.toInt64
  | .inr _ => r = 1 ∧ o' = o
def g_WCon (y : MethodName) (cc : ByteArray) (nL : Nat) (hh : List (Nat × Nat × Nat × Nat)) (as : List Value) (μ : g_St) (X : Option ((Int32 ⊕ Nat) × g_St)) : Prop :=
  ∀ (q : Int32 ⊕ Nat) (μ' : g_St), X = some (q, μ') → ∀ (l : Launch) (hl : l.stackTraces = false) (D : va_G) (tys : List (ClassId × FieldType)) (ca ad : Nat → Nat) (co : ClassId) (ao : Nat) (wy : va_W) (o : Nat → Int64) (sz : Nat), g_Ty gC tys ca → (∃ t0 : Nat, tys[t0]? = some (co, .long)) →
  Met l y (g_wsH y cc nL hh) { frames := 21, cells := 1, slots := 6, locals := 2100 }
    (fun v U => v = (g_tS ad as ++ [Value.ref ao]).toArray ∧ (U.heap.size = sz ∧ va_P D g_cl (g_wW ad ca gC μ ++ (ao, g_oE co o) :: wy) U.heap ∧ va_K D g_cl tys U ∧ va_D (fun _ => True) (g_wW ad ca gC μ ++ (ao, g_oE co o) :: wy) ∧ (∀ w ∈ g_nw, va_Nw w U) ∧ g_SX ad (va_A (g_wW ad ca gC μ ++ (ao, g_oE co o) :: wy) sz) U U.heap) ∧ g_TX (va_A (g_wW ad ca gC μ ++ (ao, g_oE co o) :: wy) sz) U U.heap)
    (fun _ st oc t => ∃ (r : Int32) (o' : Nat → Int64), g_WQ q r o o' ∧ oc = .returned (some (.int r)) ∧ va_P D g_cl (g_wW ad ca gC μ' ++ (ao, g_oE co o') :: wy) t.heap ∧ va_D (va_A (g_wW ad ca gC μ ++ (ao, g_oE co o) :: wy) sz) (g_wW ad ca gC μ' ++ (ao, g_oE co o') :: wy) ∧ va_F (va_A (g_wW ad ca gC μ ++ (ao, g_oE co o) :: wy) sz) st t) 1 6 (va_A (g_wW ad ca gC μ ++ (ao, g_oE co o) :: wy) sz)
theorem g_len {ad : Nat → Nat} {ca : Nat → ClassId} {Λ : g_Lay} {μ : g_St} : (g_wW ad ca Λ μ).length = Λ.1 := by simp [g_wW]
theorem g_outAt {ad : Nat → Nat} {ca : Nat → ClassId} {Λ : g_Lay} {μ : g_St} {x : Nat × va_E} {wy : va_W} : (g_wW ad ca Λ μ ++ x :: wy)[Λ.1]? = some x := by
  rw [List.getElem?_append_right (by rw [g_len]; exact Nat.le_refl _), g_len]
  simp
theorem g_outSet {ad : Nat → Nat} {ca : Nat → ClassId} {Λ : g_Lay} {μ : g_St} {x z : Nat × va_E} {wy : va_W} : (g_wW ad ca Λ μ ++ x :: wy).set Λ.1 z = g_wW ad ca Λ μ ++ z :: wy := by
  rw [List.set_append_right _ _ (by rw [g_len]; exact Nat.le_refl _), g_len]
  simp
/-- from the call on -/
theorem g_wtail {p : Program} {l : Launch} {e : Env} {R : Room} {s : State} {m : MethodId} {args : Array Value} {below : List Frame} {meth : Method} {c : Code} {Q : Array Value → State → Outcome → State → Prop} {D : va_G} {tys : List (ClassId × FieldType)} {ca ad : Nat → Nat} {co : ClassId} {ao : Nat} {wy : va_W} {o : Nat → Int64} {A : Nat → Prop} {ls : Array Slot} {H : Heap} {locs : List Loc} {μ : g_St} {X : Option ((Int32 ⊕ Nat) × g_St)} {as : List Value} {y2 : MethodName} {cc cc2 : ByteArray} {nL nL2 index n e1 hp k r0 : Nat} {l0 : List (Nat × Value)} {pc : Nat} {off : Int}
    (con : g_XCon (.ref 0 :: as) y2 cc2 nL2 μ X) {q : Int32 ⊕ Nat} {μ' : g_St} (hX : X = some (q, μ')) (hl : l.stackTraces = false) (hx : p.tables.exec = Jvm.exec) (hb : c.code = cc) (hr : meth.sig.returnType = some .int) (hlocks : meth.locks = false) (hml : c.maxLocals = nL) (hown : s.vm.findClass "OwnMadeLaw" = some m.cls) (hts : ∀ w ∈ g_gw, w.before args s = true) (hN : ∀ w ∈ g_nw, va_Nw w s) (hK : va_K D g_cl tys s) (hA : ∀ q, s.heap.size ≤ q → A q) (hty : g_Ty gC tys ca) (hto : ∃ t0 : Nat, tys[t0]? = some (co, .long)) (hSX : g_SX ad A s s.heap) (hTX : g_TX A s s.heap)
    (hR : R.frames = 21 ∧ R.cells = 1 ∧ R.slots = 6 ∧ R.locals = 2100) (hRp : g_Rp gC D ca ad ((ao, g_oE co o) :: wy) A s.heap μ H locs) (hlv : lv_has ls nL l0) (hk : k < nL)
    (ml : Cond.methodLink "OwnMadeLaw" index y2 ∈ g_gw) (mv : g_MV y2) (mc : g_MC y2 cc2 nL2 (some .int) n) (hy2 : y2.cls = "OwnMade") (hn : as.length = n) (hn2 : nL2 ≤ 60) (hcat : as.map (fun v => g_tr ad v) = as)
    (hex : c.exceptionTable.toList = [⟨0, e1, hp, 13⟩]) (he1 : pc < e1) (hlink : Cond.classLink "OwnMadeLaw" 13 n_NSE ∈ g_gw)
    (d0 : decode cc pc = .ok (.invokevirtual index, 3)) (d3 : decode cc (pc + 3) = .ok (.i2l, 1)) (d4 : decode cc (pc + 4) = .ok (.lastore, 1)) (d5 : decode cc (pc + 5) = .ok (.goto off, 3)) (hoff : ((pc + 5 : Nat) : Int) + off = (r0 : Int)) (dr : decode cc r0 = .ok (.iconst 0, 1)) (dr1 : decode cc (r0 + 1) = .ok (.ireturn, 1))
    (dh : decode cc hp = .ok (.astore k, 2)) (dh2 : decode cc (hp + 2) = .ok (.iconst 1, 1)) (dh3 : decode cc (hp + 3) = .ok (.ireturn, 1))
    (hQ : ∀ (r : Int32) (o' : Nat → Int64) (H1 : Heap) (locs1 : List Loc) (t : State), g_WQ q r o o' → g_Rp gC D ca ad ((ao, g_oE co o') :: wy) A s.heap μ' H1 locs1 → t.heap = H1 → Q args s (.returned (some (.int r))) t) :
    W p l e R s m args below meth c H locs 0 0 (MQ below Q args s 1 6 A) (F0 m pc ls (as.reverse ++ .ref (ad 0) :: .int 0 :: .ref ao :: [])) := by
  have hin := g_wW_keys (μ' := μ) (sz := 0) hRp.2.1 hRp.2.2 hA
  have hrun := con q μ' hX l hl D tys ca ad ((ao, g_oE co o) :: wy) H.size hty
  have hfix : CallFix p m c cc nL s args g_gw "OwnMadeLaw" := ⟨hx, hb, hml, hown, hts⟩
  have he : (g_wW ad ca gC μ ++ (ao, g_oE co o) :: wy)[0]? = some (ad 0, .inr (6, g_fs ad μ 0 g_fOwn)) := by rw [g_wW_get ly_Own_lt, g_ent_o ly_Own]
  have hpre : PreV s H y2.cls (ad 0) (g_PX gC D tys ca ad ((ao, g_oE co o) :: wy) H.size (.ref 0 :: as) μ) as := by
    refine ⟨?_, by rw [hy2]; exact va_recv hK hRp.1 cf_X8.1 he, fun U hU hW => ⟨⟨?_, by rw [hU], by rw [hU]; exact hRp.1, va_K.moved hW.alike hK, hRp.2.1.weaken (fun _ _ _ _ => trivial), g_nw_warm hW hN, ?_⟩, ?_⟩⟩
    · intro a U g mk h
      exact ⟨g_Pc_blind a U g mk h.1, g_TX.vm (u := U) (U := U.calling g mk a) rfl h.2⟩
    · show _ = (g_tS ad (.ref 0 :: as)).toArray
      unfold g_tS
      rw [List.map_cons, hcat]
      rfl
    · rw [hU]
      exact g_SX.narrow (g_SX.kept (g_SX.warm hW hSX) (fun a h1 h2 => hRp.2.2.2.1 a h1 h2)) hin
    · rw [hU]
      exact g_TX.narrow (g_TX.kept (g_TX.warm hW hTX) (fun a h1 h2 => hRp.2.2.2.1 a h1 h2)) hin
  have cw : CallW R s args "OwnMadeLaw" y2.cls index y2 cc2 nL2 (some .int) (g_ws y2 cc2 nL2 (some .int)) { frames := 20, cells := 1, slots := 6, locals := 2000 } 1 6 n := by
    refine ⟨⟨rfl, rfl, by rw [hR.1]; show 20 + 1 ≤ 21; omega, by rw [hR.2.2.2]; show 8 + (nL2 + 11) + 2000 ≤ 2100; omega, pay_in hts (g_good (y := y2) (cc := cc2) (nL := nL2) (rt := some .int) mc.1), List.mem_cons_self, hts _ mc.1, hts _ mc.2.1, mc.2.2.1, fun sig h => ?_, hts _ ml⟩, hts _ mv.1, hts _ mv.2⟩
    have h3 := mc.2.2.2.1
    rw [h] at h3
    exact (Option.some.inj h3).symm
  have hrv := vx_runV (g := F0 m pc ls (as.reverse ++ .ref (ad 0) :: .int 0 :: .ref ao :: [])) (H := H) (locs := locs) (cells := 0) (slots := 0) (below := below) (meth := meth) (e := e) (As := as) (rest := [.int 0, .ref ao]) hfix hrun cw hpre rfl hn hlv.1 rfl (lv_room (Nat.le_of_ble_eq_true rfl)) d0 ⟨by rw [hR.2.1]; omega, by rw [hR.2.2.1]; omega⟩
  intro T hT X9
  obtain ⟨t0, ht0⟩ := hto
  have keep : ∀ {st₀ t T' : State} {L : List Loc}, st₀.heap = H → T'.heap = t.heap → (∀ q ∈ L, va_A (g_wW ad ca gC μ ++ (ao, g_oE co o) :: wy) H.size q.base) → g_WE gC D ca ad ((ao, g_oE co o) :: wy) H.size μ μ' st₀ t → g_Rp gC D ca ad ((ao, g_oE co o) :: wy) A s.heap μ' T'.heap (locs ++ L) := by
    intro st₀ t T' L h0 e1 hL hWE
    obtain ⟨w1, w2, w3, w4⟩ := hWE
    rw [h0] at w3 w4
    refine ⟨by rw [e1]; exact w1, w2.weaken (fun k q _ h => hin q.1 h), Nat.le_trans hRp.2.2.1 (by rw [e1]; exact w3), fun q h1 h2 => ?_, fun q hq => ?_⟩
    · rw [e1, w4 q (Nat.lt_of_lt_of_le h1 hRp.2.2.1) (fun z => h2 (hin q z))]
      exact hRp.2.2.2.1 q h1 h2
    · rcases List.mem_append.mp hq with h | h
      · exact hRp.2.2.2.2 q h
      · exact hin _ (hL q h)
  rcases hrv T hT X9 with ⟨v, st₀, t, T', L, h0, X', hL, e1', e2, ⟨⟨x, hq, hv⟩, hWE⟩, st⟩ | ⟨q9, st₀, t, T', L, E, ce, h0, X', hL, e1', e2, ⟨rfl, ⟨n9, hq⟩, hWE⟩, hce, hcv, hcl, st⟩
  · cases hv
    subst hq
    have hR2 := keep h0 e1' hL hWE
    have K : W p l e R s m args below meth c T'.heap (locs ++ L) (0 + 1) (0 + 6) (MQ below Q args s 1 6 A) (F0 m (pc + 3) ls [.int x, .int 0, .ref ao]) := by
      refine lv_i2l hx hb d3 rfl ?_
      refine va_last (q0 := gC.1) (t0 := t0) hx hb hK hR2.1 hR2.2.1 hR2.2.2 g_outAt ht0 (by show ¬ ((0 : Int32) < 0 ∨ 1 ≤ (0 : Int32).toNatClampNeg); decide) d4 (fun H1 locs1 h1 h2 h3 => ?_)
      rw [g_outSet] at h1 h2
      refine lv_goto hx hb d5 hoff ?_
      refine lv_iconst (v := 0) hx hb dr (by decide) ?_
      exact g_iretW (cc := cc) hx hb hr rfl (fun t ht _ => hQ 0 _ H1 locs1 t ⟨rfl, rfl⟩ ⟨h1, h2, h3⟩ ht) h3.2.2 dr1 hlocks
    obtain ⟨t2, a1, b1⟩ := K T' rfl X'
    exact ⟨t2, st t2 a1, b1⟩
  · subst hq
    have hR2 := keep h0 e1' hL hWE
    have K : vx_W p l e R s m args below meth c T'.heap (locs ++ L) (0 + 1) (0 + 6) (MQ below Q args s 1 6 A) (F0 m pc ls [.int 0, .ref ao]) q9 := by
      refine vx_catch (name := n_NSE) (E := n_NSE) hown [] ⟨0, e1, hp, 13⟩ [] hex (fun z hz => nomatch hz) ?_ (show (13 : Nat) ≠ 0 by decide) (hts _ hlink) ?_ (by rw [e1']; exact hce) hcv hcl ?_
      · simp [covers, he1]
      · exact va_Nw.use rfl (hTX.2.1 _ (List.mem_filter.mpr ⟨g_seg5 _ (List.mem_of_getElem? (i := 39) rfl), rfl⟩))
      · refine lv_astore hx hb dh hlv hk rfl (fun ls' _ => ?_)
        refine lv_iconst (v := 1) hx hb dh2 (by decide) ?_
        exact g_iretW (cc := cc) hx hb hr rfl (fun t ht _ => hQ 1 o T'.heap _ t ⟨rfl, rfl⟩ hR2 ht) hR2.2.2.2.2 dh3 hlocks
    obtain ⟨t2, a1, b1⟩ := K T' rfl X'
    exact ⟨t2, st.trans a1, b1⟩
