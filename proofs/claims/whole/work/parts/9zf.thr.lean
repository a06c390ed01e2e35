/-! The law's cases that may throw: its own static wrappers -/
section LjThr
variable {p : Program} {l : Launch} {e : Env} {s : State} {m : MethodId} {below : List Frame} {meth : Method} {c : Code} {H : Heap} {locs : List Loc} {cells slots : Nat} {Q : State → Prop} {b : Nat}
variable {pc : Nat} {ls : Array Slot} {D : va_G} {tys : List (ClassId × FieldType)} {caC adC caR adR : Nat → Nat} {co ao L : Nat} {xs : Nat → Int32} {μ r0 : g_St}
theorem lj_cW {index : Nat} {y2 : MethodName} {cc2 : ByteArray} {nL2 : Nat} {hh : List (Nat × Nat × Nat × Nat)} {as stk : List Value} {X : Option ((Int32 ⊕ Nat) × g_St)} {q : Int32 ⊕ Nat} {μ1 : g_St} {o : Nat → Int64}
    (hl0 : l.stackTraces = false) (C : lj_C p s m b c D tys caC adC caR adR co) (hce : cells + 1 ≤ 601024) (hsl : slots + 6 ≤ 7293034) (hls : ls.size = 7) (hR : g_Rp gC D caC adC ((ao, g_oE co o) :: g_wW adR caR gR r0) (lj_A s) s.heap μ H locs)
    (hd : decode cL_law pc = .ok (.invokestatic index, 3)) (ml : Cond.methodLink RL index y2 ∈ g_gw) (ms : Cond.static y2 ∈ g_gw) (hcode : Cond.codeWith y2 cc2 nL2 (some .int) hh ∈ g_gw) (hini : Cond.initialized y2.cls ∈ g_gw) (hy : y2.cls ≠ "java/lang/invoke/MethodHandle" ∧ y2.cls ≠ "java/lang/invoke/VarHandle") (hdesc : ∀ sig, parseMethodDescriptor y2.desc = some sig → as.length + 1 = sig.parameters.length) (hn2 : nL2 ≤ 81)
    (con : g_WCon y2 cc2 nL2 hh as μ X) (hX : X = some (q, μ1)) (hs : (g_tS adC as ++ [Value.ref ao]).reverse = stk)
    (kk : ∀ (r : Int32) (o' : Nat → Int64) (H1 : Heap) (locs1 : List Loc), g_WQ q r o o' → g_Rp gC D caC adC ((ao, g_oE co o') :: g_wW adR caR gR r0) (lj_A s) s.heap μ1 H1 locs1 → W p l e room_1 s m #[Value.ref b] below meth c H1 locs1 (cells + 1) (slots + 6) Q (F0 m (pc + 3) ls [.int r])) :
    W p l e room_1 s m #[Value.ref b] below meth c H locs cells slots Q (F0 m pc ls stk) := by
  subst hs
  have G := (C.1 cells slots (by omega) (by omega)).1
  obtain ⟨hx, hb, hml, hown, hts, hN, hK, hA, hTy, -, hSX⟩ := G
  have hTX := C.2.2
  have hin := g_wW_keys (μ' := μ) (sz := 0) hR.2.1 hR.2.2 hA
  have hrun := con q μ1 hX l hl0 D tys caC adC co ao (g_wW adR caR gR r0) o H.size hTy C.2.1
  have hgood : GoodIn g_gw (g_wsH y2 cc2 nL2 hh) := by
    have hg : ∀ w ∈ g_gw, w ∈ g_gw ∧ ((w.onTables && w.keeps) = true ∨ ∃ ty, w = .arrayClass ty) := fun w hw => ⟨hw, good_of_word (List.mem_filter.mp hw).2⟩
    intro w hw
    rcases List.mem_cons.mp hw with rfl | hw
    · exact hg _ hcode
    · exact hg w hw
  have hr := vx_runSW (e := e) (below := below) (meth := meth) (H := H) (locs := locs) (cells := cells) (slots := slots) (R := room_1) (nL := 7) (As := g_tS adC as ++ [Value.ref ao]) (rest := []) (g := F0 m pc ls (g_tS adC as ++ [Value.ref ao]).reverse) (n := as.length + 1) (mc := 1) (ms := 6) (cc := cL_law) ⟨hx, hb, hml, hown, hts⟩ hrun
    (⟨⟨rfl, rfl, Nat.le_of_ble_eq_true rfl, by show 8 + (nL2 + 11) + 2100 ≤ 84000; omega, pay_in hts hgood, List.mem_cons_self⟩, hts _ hcode, hts _ hini, hy, hdesc, hts _ ml, hts _ ms⟩ : vx_CSW room_1 s #[Value.ref b] RL index y2 cc2 nL2 (some .int) hh (g_wsH y2 cc2 nL2 hh) { frames := 21, cells := 1, slots := 6, locals := 2100 } 1 6 (as.length + 1))
    ⟨fun a U g mk z => by
      obtain ⟨z0, ⟨z1, zP, zK, zD, zN, zS⟩, zT⟩ := z
      exact ⟨z0, ⟨z1, zP, va_K.moved (u := U) (U := U.calling g mk a) (Vm.Alike.refl U.vm) zK, zD, ex_n_bl (fun _ => True) a U g mk zN, g_SX.vm (u := U) (U := U.calling g mk a) rfl zS⟩, g_TX.vm (u := U) (U := U.calling g mk a) rfl zT⟩,
    fun U hU hW => ⟨rfl, ⟨by rw [hU], by rw [hU]; exact hR.1, va_K.moved hW.alike hK, hR.2.1.weaken (fun _ _ _ _ => trivial), g_nw_warm hW hN, by
      rw [hU]
      exact g_SX.narrow (g_SX.kept (g_SX.warm hW hSX) (fun a h1 h2 => hR.2.2.2.1 a h1 h2)) (g_wW_keys (μ' := μ) (sz := 0) hR.2.1 hR.2.2 hA)⟩, by
      rw [hU]
      exact g_TX.narrow (g_TX.kept (g_TX.warm hW hTX) (fun a h1 h2 => hR.2.2.2.1 a h1 h2)) (g_wW_keys (μ' := μ) (sz := 0) hR.2.1 hR.2.2 hA)⟩⟩
    rfl (by simp [g_tS]) hls (by simp) (lv_room (Nat.le_of_ble_eq_true rfl)) hd ⟨hce, hsl⟩
  intro T hT Xs
  obtain ⟨v, st₀, t, T', L, h0, X', hL, e1, e2, ⟨r, o', hq, hv, hP, hD, hF⟩, stp⟩ := hr T hT Xs
  cases hv
  obtain ⟨hz, hk⟩ := hF
  rw [h0] at hz hk
  obtain ⟨t2, a1, b1⟩ := kk r o' T'.heap (locs ++ L) hq ⟨by rw [e1]; exact hP, hD.weaken (fun k q _ h => hin q.1 h), Nat.le_trans hR.2.2.1 (by rw [e1]; exact hz), fun q h1 h2 => by
      rw [e1, hk q (Nat.lt_of_lt_of_le h1 hR.2.2.1) (fun z => h2 (hin q z))]; exact hR.2.2.2.1 q h1 h2, fun q hq => by
      rcases List.mem_append.mp hq with h | h
      · exact hR.2.2.2.2 q h
      · exact hin _ (hL q h)⟩ T' rfl X'
  exact ⟨t2, stp t2 a1, b1⟩
end LjThr
