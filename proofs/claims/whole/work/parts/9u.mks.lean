/-! OwnMade's constructor: the marks -/
theorem cj_set {w w' : va_W} (h : cj_e w w') {i : Nat} {x x' : Nat × va_E} (hx : x.1 = x'.1 ∧ ∀ (D : va_G) (H : Heap), va_at D g_cl x H → va_at D g_cl x' H) : cj_e (w.set i x) (w'.set i x') := by
  refine ⟨by rw [List.length_set, List.length_set]; exact h.1, fun k q q' h1 h2 => ?_⟩
  by_cases e : k = i
  · subst e
    have l1 := (List.getElem?_eq_some_iff.mp h1).1
    have l2 := (List.getElem?_eq_some_iff.mp h2).1
    rw [List.length_set] at l1 l2
    rw [List.getElem?_set_self l1] at h1
    rw [List.getElem?_set_self l2] at h2
    cases h1; cases h2
    exact hx
  · rw [List.getElem?_set_ne (fun z => e z.symm)] at h1 h2
    exact h.2 k q q' h1 h2
theorem cs_mk_set {ad ca : Nat → Nat} {n mk : Nat} (hn : 69 ≤ n) : (cs_w ad ca n mk).set 69 (ad 69, cs_e ad ca (mk + 1) 69) = cs_w ad ca n (mk + 1) := by
  apply List.ext_getElem?
  intro j
  by_cases e : j = 69
  · subst e
    rw [List.getElem?_set_self (by rw [cs_w_len]; omega)]
    unfold cs_w
    rw [List.getElem?_cons_succ, cs_tl_s (by omega)]
  · rw [List.getElem?_set_ne (fun z => e z.symm)]
    unfold cs_w
    cases j with
    | zero => rfl
    | succ j =>
      rw [List.getElem?_cons_succ, List.getElem?_cons_succ]
      by_cases hj : j < n
      · rw [cs_tl_s hj, cs_tl_s hj]
        unfold cs_e
        rw [if_neg e, if_neg e]
      · rw [List.getElem?_eq_none (by rw [cs_tl_len]; omega), List.getElem?_eq_none (by rw [cs_tl_len]; omega)]
theorem cs_mmerge {ad ca : Nat → Nat} {q cA : Nat} {f f' : List Value} (hf : f = f') :
    cj_e ((ad 0, .inr (6, f)) :: (cs_tl ad ca 68 0 ++ [((q, .inl (cA, 4, .inr (.inr (.inr (.inr (fun _ => none)))))) : Nat × va_E)])) (((fun i => if i = 69 then q else ad i) 0, .inr (6, f')) :: cs_tl (fun i => if i = 69 then q else ad i) (fun i => if i = 69 then cA else ca i) 69 0) := by
  subst hf
  refine ⟨by simp [cs_tl], fun j x x' h1 h2 => ?_⟩
  cases j with
  | zero =>
    cases h1
    cases h2
    exact ⟨rfl, fun D H h => h⟩
  | succ j =>
    rw [List.getElem?_cons_succ] at h1 h2
    have jl : j < 69 := by
      have := (List.getElem?_eq_some_iff.mp h2).1
      rwa [cs_tl_len] at this
    rw [cs_tl_s jl] at h2
    cases h2
    by_cases e : j < 68
    · rw [List.getElem?_append_left (by rw [cs_tl_len]; exact e), cs_tl_s e] at h1
      cases h1
      refine ⟨(if_neg (by omega)).symm, fun D H h => ?_⟩
      have h := cs_at_same (ad' := fun i => if i = 69 then q else ad i) (ca' := fun i => if i = 69 then cA else ca i) (n := 68) (by decide +kernel) (by omega) (by omega) (fun j hj => by omega) (fun j hj => if_neg (by omega)) (if_neg (by omega)) _ D H h
      show va_at D g_cl ((if j + 1 = 69 then q else ad (j + 1)), _) H
      rw [if_neg (by omega)]; exact h
    · have e2 : j = 68 := by omega
      subst e2
      rw [List.getElem?_append_right (by rw [cs_tl_len]; omega), cs_tl_len] at h1
      cases h1
      refine ⟨rfl, fun D H h => ?_⟩
      have : cs_e (fun i => if i = 69 then q else ad i) (fun i => if i = 69 then cA else ca i) 0 69 = .inl (cA, 4, .inr (.inr (.inr (.inr (fun _ => none))))) := by
        unfold cs_e
        rw [if_pos rfl]
        have : (fun j => if j < 0 then some ((fun i => if i = 69 then q else ad i) (101 + 8 * j)) else none) = (fun _ => (none : Option Nat)) := funext fun j => if_neg (by omega)
        rw [this]
        rfl
      show va_at D g_cl (q, cs_e (fun i => if i = 69 then q else ad i) (fun i => if i = 69 then cA else ca i) 0 69) H
      rw [this]; exact h
/-- all is there -/
theorem cs_fin {ad ca : Nat → Nat} : cj_e (cs_w ad ca 132 4) (g_wW ad ca gC cs_c0) := by
  refine ⟨by rw [cs_w_len, cs_wW_len]; rfl, fun j x x' h1 h2 => ?_⟩
  have jl : j < 133 := by
    have := (List.getElem?_eq_some_iff.mp h1).1
    rwa [cs_w_len] at this
  rw [cs_wW_s (show j < gC.1 from jl)] at h2
  cases h2
  cases j with
  | zero =>
    cases h1
    refine ⟨rfl, fun D H h => ?_⟩
    have : g_ent ad ca gC cs_c0 0 = .inr (6, ci_f ad cs_c0 cs_F 132) := by
      rw [g_ent_o ly_Own]
      unfold g_fs ci_f cs_F g_fOwn
      simp only [List.mapIdx_cons, List.mapIdx_nil]
      rfl
    rw [this]; exact h
  | succ j =>
    unfold cs_w at h1
    rw [List.getElem?_cons_succ, cs_tl_s (by omega)] at h1
    cases h1
    refine ⟨rfl, fun D H h => ?_⟩
    by_cases e : j + 1 = 69
    · have e : j = 68 := by omega
      subst e
      rw [g_ent_a (rfl : gC.2 69 = .inr (5, 4, fun j => 101 + 8 * j))]
      have h : H[ad 69]? = some (vp_cell (ca 69) (4, .inr (.inr (.inr (.inr (fun j => if j < 4 then some (ad (101 + 8 * j)) else none)))))) := h
      show H[ad 69]? = some (vp_cell (ca 69) _)
      rw [h]
      exact congrArg some (cj_arr (f := fun j => va_rf (if j < 4 then some (ad (101 + 8 * j)) else none)) (g := fun j => va_rf (some (ad (101 + 8 * j)))) (fun j hj => by rw [if_pos hj]))
    · unfold cs_e at h
      rw [if_neg e] at h
      exact h
section CsWeek
variable {p : Program} {l : Launch} {e : Env} {R : Room} {s : State} {m : MethodId} {args : Array Value} {below : List Frame} {meth : Method} {c : Code} {H : Heap} {locs : List Loc} {cells slots : Nat} {Q : State → Prop}
variable {cc : ByteArray} {pc : Nat} {ls : Array Slot} {D : va_G} {A : Nat → Prop} {tys : List (ClassId × FieldType)}
theorem cs_mark {adS ad ca : Nat → Nat} {h0 : Nat} {index iC : Nat}
    (hx : p.tables.exec = Jvm.exec) (hb : c.code = cc) (hown : s.vm.findClass RX8 = some m.cls) (hts : ∀ w ∈ g_gw, w.before args s = true) (hin : meth.name = "<init>") (hA : ∀ q, s.heap.size ≤ q → A q) (hover : va_AO "OwnMade$Week" s) (hcl : Cond.classLink RX8 iC "OwnMade$Week" ∈ g_gw)
    (hce : cells + 1 ≤ R.cells) (hsl : slots + 4 ≤ R.slots) (hd1 : decode cc pc = .ok (.anewarray iC, 3)) (hfl : Cond.fieldLink RX8 index RX8 (TX8 6).2.1 (TX8 6).2.2.1 ∈ g_gw) (hd4 : decode cc (pc + 3) = .ok (.putfield index, 3))
    (S : cs_S D A tys adS ad ca 68 0 h0 s H locs)
    (kk : ∀ (ad' ca' : Nat → Nat) (tys' : List (ClassId × FieldType)) (H1 : Heap) (locs1 : List Loc), cs_S D A tys' adS ad' ca' 69 0 h0 s H1 locs1 → W p l e R s m args below meth c H1 locs1 (cells + 1) (slots + 4) Q (F0 m (pc + 6) ls [])) :
    W p l e R s m args below meth c H locs cells slots Q (F0 m pc ls [.int 4, .ref h0]) := by
  obtain ⟨a0, a9, hT, hK, hP, hD, hS⟩ := S
  subst a0
  refine va_newq (N' := 4) hx hb hown (hts _ hcl) hover hK hP hD hS hA (by decide) (by decide) (by omega) hce hsl hd1 (fun q cA H1 hK hP hD hS => ?_)
  have hP : va_P D g_cl ((ad 0, .inr (6, ci_f ad cs_c0 cs_F 68)) :: (cs_tl ad ca 68 0 ++ [((q, .inl (cA, 4, .inr (.inr (.inr (.inr (fun _ => none)))))) : Nat × va_E)])) H1 := hP
  have hD : va_D A ((ad 0, .inr (6, ci_f ad cs_c0 cs_F 68)) :: (cs_tl ad ca 68 0 ++ [((q, .inl (cA, 4, .inr (.inr (.inr (.inr (fun _ => none)))))) : Nat × va_E)])) := hD
  refine cs_put hx hb hown hts hin (by rw [ci_f_len]; rfl) (Nat.le_of_ble_eq_true rfl) hfl rfl rfl rfl hd4 (fun _ h => h) hK hP hD hS (fun H2 locs2 hP hD hS => ?_)
  have hf := cs_fld (n := 68) (k := 6) (ad := ad) (ad' := fun i => if i = 69 then q else ad i) (m := 69) (q := q) rfl (by decide) (by omega) (if_pos rfl) (fun i hi => if_neg (by omega))
  have hj := cs_mmerge (ad := ad) (ca := ca) (q := q) (cA := cA) hf
  refine kk (fun i => if i = 69 then q else ad i) (fun i => if i = 69 then cA else ca i) (tys ++ [(cA, .object "OwnMade$Week")]) H2 locs2 ⟨if_neg (by omega), fun i hi => (if_neg (by omega)).trans (a9 i hi), fun i h1 h2 ty N rf hs => ?_, hK, cj_P hj hP, cj_D hj hD, hS⟩
  by_cases e : i = 69
  · subst e
    rw [show gC.2 69 = .inr (5, 4, fun j => 101 + 8 * j) from rfl] at hs
    cases hs
    refine ⟨tys.length, ?_⟩
    rw [List.getElem?_append_right (Nat.le_refl _), Nat.sub_self]; rfl
  · obtain ⟨t0, ht⟩ := hT i h1 (by omega) ty N rf hs
    refine ⟨t0, ?_⟩
    rw [List.getElem?_append_left (List.getElem?_eq_some_iff.mp ht).1]
    show _ = some ((if i = 69 then cA else ca i), g_tyOf ty)
    rw [if_neg e]; exact ht
theorem cs_week {nL : Nat} {host : String} {Ex : (Nat → Prop) → State → Prop} {Λ' : g_Lay} {fs0 : List Value} {y2 : MethodName} {cc2 : ByteArray} {nL2 mc ms iC iM : Nat} {F5 : List (Nat × Nat)} {adS ad ca : Nat → Nat} {j h0 : Nat} {jx : Int32}
    (hx : p.tables.exec = Jvm.exec) (hb : c.code = cc) (hml : c.maxLocals = nL) (hown : s.vm.findClass RX8 = some m.cls) (hts : ∀ w ∈ g_gw, w.before args s = true) (hN : ∀ w ∈ g_nw, va_Nw w s)
    (con : g_InitX Ex Λ' g_mu0 (.inr (5, fs0)) y2 cc2 nL2 mc ms) (hfs : ∀ j, j < 9 → defaultValue (tyX7 j) = vp_V fs0 j) (hcl : Cond.classLink RX8 iC RX7 ∈ g_gw) (hins : Cond.instantiable RX7 9 ∈ g_gw) (hini : Cond.initialized RX7 ∈ g_gw) (hC : y2.cls = RX7)
    (hlink : Cond.methodLinkNest RX8 iM y2 host ∈ g_nw) (hcode : Cond.code y2 cc2 nL2 none ∈ g_gw) (him : Cond.instanceMethod y2 ∈ g_gw) (hy1 : y2.name = "<init>") (hy2 : y2.cls ≠ "java/lang/invoke/MethodHandle" ∧ y2.cls ≠ "java/lang/invoke/VarHandle" ∧ (parseMethodDescriptor y2.desc).map (fun d => d.parameters.length) = some 0)
    (hd1 : decode cc pc = .ok (.new iC, 3)) (hd2 : decode cc (pc + 3) = .ok (.dup, 1)) (hd3 : decode cc (pc + 4) = .ok (.invokespecial iM, 3)) (hd4 : decode cc (pc + 7) = .ok (.aastore, 1)) (hls : ls.size = nL) (hn2 : nL2 ≤ 81) (hR : 21 ≤ R.frames ∧ 2100 ≤ R.locals)
    (hce : cells + 1 + mc ≤ R.cells) (hsl : slots + 9 + ms ≤ R.slots) (hA : ∀ q, s.heap.size ≤ q → A q)
    (hbl : ∀ (B : Nat → Prop) (a : Array Value) (U : State) (g : JFrame) (mk : MethodId), Ex B U → Ex B (U.calling g mk a))
    (hEx : ∀ (U : State) (H1 : Heap) (B : Nat → Prop) (locs1 : List Loc), s.WarmedH U.vm → U.heap = H1 → va_S A s.heap H1 locs1 → (∀ z, B z → A z) → Ex B U)
    (hΛ0 : Λ'.1 = 8) (hΛ : Λ'.2 0 = .inl (5, F5)) (hj : j < 4) (hjx : jx.toNatClampNeg = j) (hin : vp_in jx 4) (hcln : cs_cl (100 + 8 * j) = true) (hbn : cs_bl Λ' (100 + 8 * j) = true) (hFu : cs_F.all (fun p => decide (p.1 = 2 → p.2 ≤ 100 + 8 * j ∨ 100 + 8 * j + 8 < p.2)) = true)
    (S : cs_S D A tys adS ad ca (100 + 8 * j) j h0 s H locs)
    (kk : ∀ (ad' ca' : Nat → Nat) (tys' : List (ClassId × FieldType)) (H1 : Heap) (locs1 : List Loc), cs_S D A tys' adS ad' ca' (100 + 8 * (j + 1)) (j + 1) h0 s H1 locs1 → W p l e R s m args below meth c H1 locs1 (cells + 1 + mc) (slots + 9 + ms) Q (F0 m (pc + 8) ls [])) :
    W p l e R s m args below meth c H locs cells slots Q (F0 m pc ls [.int jx, .ref (ad 69)]) := by
  obtain ⟨a0, a9, hT, hK, hP, hD, hS⟩ := S
  subst a0
  refine cs_call (C := RX7) (N := 9) (T := TX7) (ty0 := tyX7) (rest := [.int jx, .ref (ad 69)]) hx hb hml hown hts hN con cf_X7 hfs hcl hins hini hC hlink hcode him hy1 hy2 hd1 hd2 hd3 hls hn2 hR ⟨by show 2 ≤ 3; omega, fun v hv => by
    rcases List.mem_cons.mp hv with rfl | hv
    · rfl
    · rw [List.mem_singleton.mp hv]; rfl⟩ hce hsl hK hP hD hS hA hbl hEx (fun q ad1 ca1 tys1 H1 locs1 b0 hTy hK hP hD hS => ?_)
  subst b0
  have e69 : (cs_w ad ca (100 + 8 * j) j ++ g_wW ad1 ca1 Λ' g_mu0)[69]? = some (ad 69, .inl (ca 69, 4, .inr (.inr (.inr (.inr (fun i => if i < j then some (ad (101 + 8 * i)) else none)))))) := by
    rw [List.getElem?_append_left (by rw [cs_w_len]; omega)]
    unfold cs_w
    rw [List.getElem?_cons_succ, cs_tl_s (by omega)]
    rfl
  have eq : (cs_w ad ca (100 + 8 * j) j ++ g_wW ad1 ca1 Λ' g_mu0)[100 + 8 * j + 1]? = some (ad1 0, .inr (5, g_fs ad1 g_mu0 0 F5)) := by
    rw [List.getElem?_append_right (by rw [cs_w_len]; omega), cs_w_len, Nat.sub_self, cs_wW_s (by omega), g_ent_o hΛ]
  obtain ⟨t0, ht0⟩ := hT 69 (by omega) (by omega) _ _ _ (rfl : gC.2 69 = .inr (5, 4, fun j => 101 + 8 * j))
  refine va_astq hx hb hK hP hD hS 69 t0 (100 + 8 * j + 1) 5 (r := (RX7, TX7, 9)) e69 (by rw [List.getElem?_append_left (List.getElem?_eq_some_iff.mp ht0).1]; exact ht0) eq cf_X7.1 hin hd4 (fun H2 locs2 hP hD hS => ?_)
  rw [hjx] at hP hD
  have hf := cs_f_same (ad := ad) (ad' := fun i => if 100 + 8 * j < i ∧ i < 100 + 8 * j + 1 + Λ'.1 then ad1 (i - (100 + 8 * j + 1)) else ad i) (n := 100 + 8 * j) (m := 100 + 8 * j + Λ'.1) (by rw [hΛ0]; exact hFu) (by omega) (fun i hi => if_neg (by omega))
  have hm := cs_merge (mk := j) (ad := ad) (ca := ca) (ad1 := ad1) (ca1 := ca1) (μ := g_mu0) hcln hbn (fun i hi => by omega) (fun i hi => ⟨rfl, funext fun k => if_neg (by omega)⟩) hf
  have hst := cj_set (i := 69) (x := (ad 69, .inl (ca 69, 4, .inr (.inr (.inr (.inr (va_up (fun i => if i < j then some (ad (101 + 8 * i)) else none) j (some (ad1 0))))))))) (x' := ((fun i => if 100 + 8 * j < i ∧ i < 100 + 8 * j + 1 + Λ'.1 then ad1 (i - (100 + 8 * j + 1)) else ad i) 69, cs_e (fun i => if 100 + 8 * j < i ∧ i < 100 + 8 * j + 1 + Λ'.1 then ad1 (i - (100 + 8 * j + 1)) else ad i) (fun i => if 100 + 8 * j < i then ca1 (i - (100 + 8 * j + 1)) else ca i) (j + 1) 69)) hm ⟨(if_neg (by omega)).symm, fun D H h => ?_⟩
  · have h5 : (cs_w (fun i => if 100 + 8 * j < i ∧ i < 100 + 8 * j + 1 + Λ'.1 then ad1 (i - (100 + 8 * j + 1)) else ad i) (fun i => if 100 + 8 * j < i then ca1 (i - (100 + 8 * j + 1)) else ca i) (100 + 8 * j + Λ'.1) j).set 69 _ = _ := cs_mk_set (by omega)
    have hst : cj_e _ ((cs_w (fun i => if 100 + 8 * j < i ∧ i < 100 + 8 * j + 1 + Λ'.1 then ad1 (i - (100 + 8 * j + 1)) else ad i) (fun i => if 100 + 8 * j < i then ca1 (i - (100 + 8 * j + 1)) else ca i) (100 + 8 * j + Λ'.1) j).set 69 _) := hst
    rw [h5] at hst
    have hT2 := cs_ty hbn hT hTy
    have e8 : 100 + 8 * j + Λ'.1 = 100 + 8 * (j + 1) := by omega
    rw [e8] at hst hT2
    exact kk _ _ (tys ++ tys1) H2 locs2 ⟨if_neg (by omega), fun i hi => (if_neg (by omega)).trans (a9 i hi), hT2, hK, cj_P hst hP, cj_D hst hD, hS⟩
  · have h6 : (va_up (fun i => if i < j then some (ad (101 + 8 * i)) else none) j (some (ad1 0))) = (fun i => if i < j + 1 then some ((fun i => if 100 + 8 * j < i ∧ i < 100 + 8 * j + 1 + Λ'.1 then ad1 (i - (100 + 8 * j + 1)) else ad i) (101 + 8 * i)) else none) := funext fun i => by
      show (if i = j then some (ad1 0) else if i < j then some (ad (101 + 8 * i)) else none) = (if i < j + 1 then some (if 100 + 8 * j < 101 + 8 * i ∧ 101 + 8 * i < 100 + 8 * j + 1 + Λ'.1 then ad1 (101 + 8 * i - (100 + 8 * j + 1)) else ad (101 + 8 * i)) else none)
      by_cases z : i = j
      · subst z
        rw [if_pos rfl, if_pos (by omega), if_pos (by omega), show 101 + 8 * i - (100 + 8 * i + 1) = 0 by omega]
      · rw [if_neg z]
        by_cases z2 : i < j
        · rw [if_pos z2, if_pos (by omega), if_neg (by omega)]
        · rw [if_neg z2, if_neg (by omega)]
    have h : H[ad 69]? = some (vp_cell (ca 69) (4, .inr (.inr (.inr (.inr (va_up (fun i => if i < j then some (ad (101 + 8 * i)) else none) j (some (ad1 0)))))))) := h
    rw [h6] at h
    have h7 : cs_e (fun i => if 100 + 8 * j < i ∧ i < 100 + 8 * j + 1 + Λ'.1 then ad1 (i - (100 + 8 * j + 1)) else ad i) (fun i => if 100 + 8 * j < i then ca1 (i - (100 + 8 * j + 1)) else ca i) (j + 1) 69 = .inl (ca 69, 4, .inr (.inr (.inr (.inr (fun i => if i < j + 1 then some ((fun i => if 100 + 8 * j < i ∧ i < 100 + 8 * j + 1 + Λ'.1 then ad1 (i - (100 + 8 * j + 1)) else ad i) (101 + 8 * i)) else none))))) := by
      unfold cs_e
      rw [if_pos rfl]
      show Sum.inl ((if 100 + 8 * j < 69 then ca1 (69 - (100 + 8 * j + 1)) else ca 69), _) = _
      rw [if_neg (by omega)]
    rw [h7]
    show va_at D g_cl ((if 100 + 8 * j < 69 ∧ 69 < 100 + 8 * j + 1 + Λ'.1 then ad1 (69 - (100 + 8 * j + 1)) else ad 69), _) H
    rw [if_neg (by omega)]
    exact h
end CsWeek
