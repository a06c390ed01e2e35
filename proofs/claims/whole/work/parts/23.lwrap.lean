/-! The law's thing, fair, lie, walked -/
theorem g_metOf {l : Launch} {y : MethodName} {ws : List Cond} {rm : Room} {Pc : Array Value → State → Prop} {Qc : Array Value → State → Outcome → State → Prop} {mc ms : Nat} {free : Addr → Prop} (h : vx_Met l y ws rm Pc Qc (fun _ _ _ => False) mc ms free) : Met l y ws rm Pc Qc mc ms free := by
  intro p e h1 h2 h3 s m args below h4 h5 h6 h7
  obtain ⟨n, oc, a1, a2, a3, a4⟩ := h p e h1 h2 h3 s m args below h4 h5 h6 h7
  refine ⟨n, oc, a1, a2, a3, ?_⟩
  rcases a4 with a4 | ⟨q, -, E, ce, L, hF, -⟩
  · exact a4
  · exact hF.elim
theorem g_lcl : Cond.classLink "OwnMadeLaw" 13 n_NSE ∈ g_gw := g_in5 (List.mem_of_getElem? (i := 32) rfl) rfl
theorem dL_thing_0 : decode cL_thing 0 = .ok (.aload_n 3, 1) := by decide +kernel
theorem dL_thing_1 : decode cL_thing 1 = .ok (.iconst 0, 1) := by decide +kernel
theorem dL_thing_2 : decode cL_thing 2 = .ok (.aload_n 0, 1) := by decide +kernel
theorem dL_thing_3 : decode cL_thing 3 = .ok (.iload_n 1, 1) := by decide +kernel
theorem dL_thing_4 : decode cL_thing 4 = .ok (.iload_n 2, 1) := by decide +kernel
theorem dL_thing_5 : decode cL_thing 5 = .ok (.invokevirtual 7, 3) := by decide +kernel
theorem dL_thing_8 : decode cL_thing 8 = .ok (.i2l, 1) := by decide +kernel
theorem dL_thing_9 : decode cL_thing 9 = .ok (.lastore, 1) := by decide +kernel
theorem dL_thing_10 : decode cL_thing 10 = .ok (.goto 7, 3) := by decide +kernel
theorem dL_thing_13 : decode cL_thing 13 = .ok (.astore 4, 2) := by decide +kernel
theorem dL_thing_15 : decode cL_thing 15 = .ok (.iconst 1, 1) := by decide +kernel
theorem dL_thing_16 : decode cL_thing 16 = .ok (.ireturn, 1) := by decide +kernel
theorem dL_thing_17 : decode cL_thing 17 = .ok (.iconst 0, 1) := by decide +kernel
theorem dL_thing_18 : decode cL_thing 18 = .ok (.ireturn, 1) := by decide +kernel
theorem mq_L_7 : Cond.methodLink "OwnMadeLaw" 7 yX8_thing ∈ g_gw := g_in5 (List.mem_of_getElem? (i := 33) rfl) rfl
theorem cw_L_thing : Cond.codeWith yL_thing cL_thing 5 (some .int) [(0, 10, 13, 13)] ∈ g_gw := g_in5 (List.mem_of_getElem? (i := 31) rfl) rfl
set_option maxRecDepth 4000 in
theorem wc_thing (v1 v2 : Int32) (μ : g_St) : g_WCon yL_thing cL_thing 5 [(0, 10, 13, 13)] [.ref 0, .int v1, .int v2] μ (oo_thing v1 v2 μ) := by
  intro q μ' hX l hl0 D tys ca ad co ao wy o sz hty hto
  refine g_metOf (vx_ofWH (cc := cL_thing) (maxL := 5) (ret := some .int) (hh := [(0, 10, 13, 13)]) (by decide +kernel) rfl ?_)
  intro p e s m args below meth c s₁ B hml hv
  obtain ⟨rfl, ⟨hsz, hP, hK, hD0, hN, hSX⟩, hTX⟩ := hv
  have hts := atoms_spec (ws := g_wsH yL_thing cL_thing 5 [(0, 10, 13, 13)]) B.pre
  have hts2 : ∀ w ∈ g_gw, w.before (g_tS ad [.ref 0, .int v1, .int v2] ++ [Value.ref ao]).toArray s = true := fun w hw => hts w (List.mem_cons_of_mem _ hw)
  have hown : s.vm.findClass "OwnMadeLaw" = some m.cls := findClass_of_methodNamed B.named
  have hx := B.exec
  have hb := B.bytes
  have hex := vx_table (x := yL_thing) B (hts _ List.mem_cons_self)
  subst hsz
  have hD := hD0.self (sz := s.heap.size)
  have hA : ∀ q : Nat, s.heap.size ≤ q → va_A (g_wW ad ca gC μ ++ (ao, g_oE co o) :: wy) s.heap.size q := fun q h => Or.inr h
  refine vx_ret ?_
  rw [lg_entry_eq]
  have hl := lv_entry (g_tS ad [.ref 0, .int v1, .int v2] ++ [Value.ref ao]) (n := 5) (Nat.le_of_ble_eq_true rfl)
  generalize (lg_sl (g_tS ad [.ref 0, .int v1, .int v2] ++ [Value.ref ao]) ++ List.replicate (5 - (lg_sl (g_tS ad [.ref 0, .int v1, .int v2] ++ [Value.ref ao])).length) Slot.unset).toArray = ls at hl ⊢
  have hl : lv_has ls 5 [(0, .ref (ad 0)), (1, .int v1), (2, .int v2), (3, .ref ao)] := hl
  refine lv_aload_n hx hb dL_thing_0 rfl (lv_at hl 3 rfl) ?_
  refine lv_iconst (v := 0) hx hb dL_thing_1 (by decide) ?_
  refine lv_aload_n hx hb dL_thing_2 rfl (lv_at hl 0 rfl) ?_
  refine lv_iload_n hx hb dL_thing_3 rfl (lv_at hl 1 rfl) ?_
  refine lv_iload_n hx hb dL_thing_4 rfl (lv_at hl 2 rfl) ?_
  exact g_wtail (as := [.int v1, .int v2]) (pc := 5) (e1 := 10) (hp := 13) (k := 4) (r0 := 17) (xc_thing v1 v2 μ) hX hl0 hx hb B.returns B.notSynchronized hml hown hts2 hN hK hA hty hto hSX hTX ⟨rfl, rfl, rfl, rfl⟩ ⟨hP, hD, va_S.rf⟩ hl (Nat.le_of_ble_eq_true rfl) mq_L_7 mv_X8_thing mc_X8_thing rfl rfl (Nat.le_of_ble_eq_true rfl) rfl hex (Nat.lt_of_lt_of_le (Nat.lt_succ_self _) (Nat.le_of_ble_eq_true rfl)) g_lcl dL_thing_5 dL_thing_8 dL_thing_9 dL_thing_10 (by decide) dL_thing_17 dL_thing_18 dL_thing_13 dL_thing_15 dL_thing_16
    (fun r o' H1 locs1 t hw hR ht => ⟨r, o', hw, rfl, by rw [ht]; exact hR.1, hR.2.1, hR.2.2.F ht⟩)
theorem dL_fair_0 : decode cL_fair 0 = .ok (.aload 5, 2) := by decide +kernel
theorem dL_fair_2 : decode cL_fair 2 = .ok (.iconst 0, 1) := by decide +kernel
theorem dL_fair_3 : decode cL_fair 3 = .ok (.aload_n 0, 1) := by decide +kernel
theorem dL_fair_4 : decode cL_fair 4 = .ok (.iload_n 1, 1) := by decide +kernel
theorem dL_fair_5 : decode cL_fair 5 = .ok (.iload_n 2, 1) := by decide +kernel
theorem dL_fair_6 : decode cL_fair 6 = .ok (.iload_n 3, 1) := by decide +kernel
theorem dL_fair_7 : decode cL_fair 7 = .ok (.iload 4, 2) := by decide +kernel
theorem dL_fair_9 : decode cL_fair 9 = .ok (.invokevirtual 15, 3) := by decide +kernel
theorem dL_fair_12 : decode cL_fair 12 = .ok (.i2l, 1) := by decide +kernel
theorem dL_fair_13 : decode cL_fair 13 = .ok (.lastore, 1) := by decide +kernel
theorem dL_fair_14 : decode cL_fair 14 = .ok (.goto 7, 3) := by decide +kernel
theorem dL_fair_17 : decode cL_fair 17 = .ok (.astore 6, 2) := by decide +kernel
theorem dL_fair_19 : decode cL_fair 19 = .ok (.iconst 1, 1) := by decide +kernel
theorem dL_fair_20 : decode cL_fair 20 = .ok (.ireturn, 1) := by decide +kernel
theorem dL_fair_21 : decode cL_fair 21 = .ok (.iconst 0, 1) := by decide +kernel
theorem dL_fair_22 : decode cL_fair 22 = .ok (.ireturn, 1) := by decide +kernel
theorem mq_L_15 : Cond.methodLink "OwnMadeLaw" 15 yX8_fair ∈ g_gw := g_in5 (List.mem_of_getElem? (i := 106) rfl) rfl
theorem cw_L_fair : Cond.codeWith yL_fair cL_fair 7 (some .int) [(0, 14, 17, 13)] ∈ g_gw := g_in5 (List.mem_of_getElem? (i := 105) rfl) rfl
set_option maxRecDepth 4000 in
theorem wc_fair (F : Nat) (v1 v2 v3 v4 : Int32) (μ : g_St) : g_WCon yL_fair cL_fair 7 [(0, 14, 17, 13)] [.ref 0, .int v1, .int v2, .int v3, .int v4] μ (oo_fair F v1 v2 v3 v4 μ) := by
  intro q μ' hX l hl0 D tys ca ad co ao wy o sz hty hto
  refine g_metOf (vx_ofWH (cc := cL_fair) (maxL := 7) (ret := some .int) (hh := [(0, 14, 17, 13)]) (by decide +kernel) rfl ?_)
  intro p e s m args below meth c s₁ B hml hv
  obtain ⟨rfl, ⟨hsz, hP, hK, hD0, hN, hSX⟩, hTX⟩ := hv
  have hts := atoms_spec (ws := g_wsH yL_fair cL_fair 7 [(0, 14, 17, 13)]) B.pre
  have hts2 : ∀ w ∈ g_gw, w.before (g_tS ad [.ref 0, .int v1, .int v2, .int v3, .int v4] ++ [Value.ref ao]).toArray s = true := fun w hw => hts w (List.mem_cons_of_mem _ hw)
  have hown : s.vm.findClass "OwnMadeLaw" = some m.cls := findClass_of_methodNamed B.named
  have hx := B.exec
  have hb := B.bytes
  have hex := vx_table (x := yL_fair) B (hts _ List.mem_cons_self)
  subst hsz
  have hD := hD0.self (sz := s.heap.size)
  have hA : ∀ q : Nat, s.heap.size ≤ q → va_A (g_wW ad ca gC μ ++ (ao, g_oE co o) :: wy) s.heap.size q := fun q h => Or.inr h
  refine vx_ret ?_
  rw [lg_entry_eq]
  have hl := lv_entry (g_tS ad [.ref 0, .int v1, .int v2, .int v3, .int v4] ++ [Value.ref ao]) (n := 7) (Nat.le_of_ble_eq_true rfl)
  generalize (lg_sl (g_tS ad [.ref 0, .int v1, .int v2, .int v3, .int v4] ++ [Value.ref ao]) ++ List.replicate (7 - (lg_sl (g_tS ad [.ref 0, .int v1, .int v2, .int v3, .int v4] ++ [Value.ref ao])).length) Slot.unset).toArray = ls at hl ⊢
  have hl : lv_has ls 7 [(0, .ref (ad 0)), (1, .int v1), (2, .int v2), (3, .int v3), (4, .int v4), (5, .ref ao)] := hl
  refine lv_aload hx hb dL_fair_0 (lv_at hl 5 rfl) ?_
  refine lv_iconst (v := 0) hx hb dL_fair_2 (by decide) ?_
  refine lv_aload_n hx hb dL_fair_3 rfl (lv_at hl 0 rfl) ?_
  refine lv_iload_n hx hb dL_fair_4 rfl (lv_at hl 1 rfl) ?_
  refine lv_iload_n hx hb dL_fair_5 rfl (lv_at hl 2 rfl) ?_
  refine lv_iload_n hx hb dL_fair_6 rfl (lv_at hl 3 rfl) ?_
  refine lv_iload hx hb dL_fair_7 (lv_at hl 4 rfl) ?_
  exact g_wtail (as := [.int v1, .int v2, .int v3, .int v4]) (pc := 9) (e1 := 14) (hp := 17) (k := 6) (r0 := 21) (xc_fair F v1 v2 v3 v4 μ) hX hl0 hx hb B.returns B.notSynchronized hml hown hts2 hN hK hA hty hto hSX hTX ⟨rfl, rfl, rfl, rfl⟩ ⟨hP, hD, va_S.rf⟩ hl (Nat.le_of_ble_eq_true rfl) mq_L_15 mv_X8_fair mc_X8_fair rfl rfl (Nat.le_of_ble_eq_true rfl) rfl hex (Nat.lt_of_lt_of_le (Nat.lt_succ_self _) (Nat.le_of_ble_eq_true rfl)) g_lcl dL_fair_9 dL_fair_12 dL_fair_13 dL_fair_14 (by decide) dL_fair_21 dL_fair_22 dL_fair_17 dL_fair_19 dL_fair_20
    (fun r o' H1 locs1 t hw hR ht => ⟨r, o', hw, rfl, by rw [ht]; exact hR.1, hR.2.1, hR.2.2.F ht⟩)
theorem dL_lie_0 : decode cL_lie 0 = .ok (.aload 7, 2) := by decide +kernel
theorem dL_lie_2 : decode cL_lie 2 = .ok (.iconst 0, 1) := by decide +kernel
theorem dL_lie_3 : decode cL_lie 3 = .ok (.aload_n 0, 1) := by decide +kernel
theorem dL_lie_4 : decode cL_lie 4 = .ok (.iload_n 1, 1) := by decide +kernel
theorem dL_lie_5 : decode cL_lie 5 = .ok (.iload_n 2, 1) := by decide +kernel
theorem dL_lie_6 : decode cL_lie 6 = .ok (.iload_n 3, 1) := by decide +kernel
theorem dL_lie_7 : decode cL_lie 7 = .ok (.iload 4, 2) := by decide +kernel
theorem dL_lie_9 : decode cL_lie 9 = .ok (.iload 5, 2) := by decide +kernel
theorem dL_lie_11 : decode cL_lie 11 = .ok (.iload 6, 2) := by decide +kernel
theorem dL_lie_13 : decode cL_lie 13 = .ok (.invokevirtual 19, 3) := by decide +kernel
theorem dL_lie_16 : decode cL_lie 16 = .ok (.i2l, 1) := by decide +kernel
theorem dL_lie_17 : decode cL_lie 17 = .ok (.lastore, 1) := by decide +kernel
theorem dL_lie_18 : decode cL_lie 18 = .ok (.goto 7, 3) := by decide +kernel
theorem dL_lie_21 : decode cL_lie 21 = .ok (.astore 8, 2) := by decide +kernel
theorem dL_lie_23 : decode cL_lie 23 = .ok (.iconst 1, 1) := by decide +kernel
theorem dL_lie_24 : decode cL_lie 24 = .ok (.ireturn, 1) := by decide +kernel
theorem dL_lie_25 : decode cL_lie 25 = .ok (.iconst 0, 1) := by decide +kernel
theorem dL_lie_26 : decode cL_lie 26 = .ok (.ireturn, 1) := by decide +kernel
theorem mq_L_19 : Cond.methodLink "OwnMadeLaw" 19 yX8_lie ∈ g_gw := g_in5 (List.mem_of_getElem? (i := 114) rfl) rfl
theorem cw_L_lie : Cond.codeWith yL_lie cL_lie 9 (some .int) [(0, 18, 21, 13)] ∈ g_gw := g_in5 (List.mem_of_getElem? (i := 113) rfl) rfl
set_option maxRecDepth 4000 in
theorem wc_lie (F : Nat) (v1 v2 v3 v4 v5 v6 : Int32) (μ : g_St) : g_WCon yL_lie cL_lie 9 [(0, 18, 21, 13)] [.ref 0, .int v1, .int v2, .int v3, .int v4, .int v5, .int v6] μ (oo_lie F v1 v2 v3 v4 v5 v6 μ) := by
  intro q μ' hX l hl0 D tys ca ad co ao wy o sz hty hto
  refine g_metOf (vx_ofWH (cc := cL_lie) (maxL := 9) (ret := some .int) (hh := [(0, 18, 21, 13)]) (by decide +kernel) rfl ?_)
  intro p e s m args below meth c s₁ B hml hv
  obtain ⟨rfl, ⟨hsz, hP, hK, hD0, hN, hSX⟩, hTX⟩ := hv
  have hts := atoms_spec (ws := g_wsH yL_lie cL_lie 9 [(0, 18, 21, 13)]) B.pre
  have hts2 : ∀ w ∈ g_gw, w.before (g_tS ad [.ref 0, .int v1, .int v2, .int v3, .int v4, .int v5, .int v6] ++ [Value.ref ao]).toArray s = true := fun w hw => hts w (List.mem_cons_of_mem _ hw)
  have hown : s.vm.findClass "OwnMadeLaw" = some m.cls := findClass_of_methodNamed B.named
  have hx := B.exec
  have hb := B.bytes
  have hex := vx_table (x := yL_lie) B (hts _ List.mem_cons_self)
  subst hsz
  have hD := hD0.self (sz := s.heap.size)
  have hA : ∀ q : Nat, s.heap.size ≤ q → va_A (g_wW ad ca gC μ ++ (ao, g_oE co o) :: wy) s.heap.size q := fun q h => Or.inr h
  refine vx_ret ?_
  rw [lg_entry_eq]
  have hl := lv_entry (g_tS ad [.ref 0, .int v1, .int v2, .int v3, .int v4, .int v5, .int v6] ++ [Value.ref ao]) (n := 9) (Nat.le_of_ble_eq_true rfl)
  generalize (lg_sl (g_tS ad [.ref 0, .int v1, .int v2, .int v3, .int v4, .int v5, .int v6] ++ [Value.ref ao]) ++ List.replicate (9 - (lg_sl (g_tS ad [.ref 0, .int v1, .int v2, .int v3, .int v4, .int v5, .int v6] ++ [Value.ref ao])).length) Slot.unset).toArray = ls at hl ⊢
  have hl : lv_has ls 9 [(0, .ref (ad 0)), (1, .int v1), (2, .int v2), (3, .int v3), (4, .int v4), (5, .int v5), (6, .int v6), (7, .ref ao)] := hl
  refine lv_aload hx hb dL_lie_0 (lv_at hl 7 rfl) ?_
  refine lv_iconst (v := 0) hx hb dL_lie_2 (by decide) ?_
  refine lv_aload_n hx hb dL_lie_3 rfl (lv_at hl 0 rfl) ?_
  refine lv_iload_n hx hb dL_lie_4 rfl (lv_at hl 1 rfl) ?_
  refine lv_iload_n hx hb dL_lie_5 rfl (lv_at hl 2 rfl) ?_
  refine lv_iload_n hx hb dL_lie_6 rfl (lv_at hl 3 rfl) ?_
  refine lv_iload hx hb dL_lie_7 (lv_at hl 4 rfl) ?_
  refine lv_iload hx hb dL_lie_9 (lv_at hl 5 rfl) ?_
  refine lv_iload hx hb dL_lie_11 (lv_at hl 6 rfl) ?_
  exact g_wtail (as := [.int v1, .int v2, .int v3, .int v4, .int v5, .int v6]) (pc := 13) (e1 := 18) (hp := 21) (k := 8) (r0 := 25) (xc_lie F v1 v2 v3 v4 v5 v6 μ) hX hl0 hx hb B.returns B.notSynchronized hml hown hts2 hN hK hA hty hto hSX hTX ⟨rfl, rfl, rfl, rfl⟩ ⟨hP, hD, va_S.rf⟩ hl (Nat.le_of_ble_eq_true rfl) mq_L_19 mv_X8_lie mc_X8_lie rfl rfl (Nat.le_of_ble_eq_true rfl) rfl hex (Nat.lt_of_lt_of_le (Nat.lt_succ_self _) (Nat.le_of_ble_eq_true rfl)) g_lcl dL_lie_13 dL_lie_16 dL_lie_17 dL_lie_18 (by decide) dL_lie_25 dL_lie_26 dL_lie_21 dL_lie_23 dL_lie_24
    (fun r o' H1 locs1 t hw hR ht => ⟨r, o', hw, rfl, by rw [ht]; exact hR.1, hR.2.1, hR.2.2.F ht⟩)
