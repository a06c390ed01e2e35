/-! The law's cases: a place of the script; a call on the class; a call on the reference -/
section LjCas
variable {p : Program} {l : Launch} {e : Env} {s : State} {m : MethodId} {below : List Frame} {meth : Method} {c : Code} {H : Heap} {locs : List Loc} {cells slots : Nat} {Q : State → Prop} {b : Nat}
variable {pc : Nat} {ls : Array Slot} {D : va_G} {tys : List (ClassId × FieldType)} {caC adC caR adR : Nat → Nat} {co ao L : Nat} {xs : Nat → Int32} {μ r0 : g_St} {ox : va_E} {rest : List Value}
/-- script[i + k] -/
theorem lj_arg {i : Int32} {k : Int32} {nk : Nat} {lv : List (Nat × Value)} (hx : p.tables.exec = Jvm.exec) (hb : c.code = cL_law) (hX : lj_X s b L xs) (hS : va_S (lj_A s) s.heap H locs) (k0 k4 : Nat) (hl : lv_has ls 7 lv) (h0 : lv[k0]? = some (0, .ref b)) (h4 : lv[k4]? = some (4, .int i))
    (hpk : ∀ (st : List Value), W p l e room_1 s m #[Value.ref b] below meth c H locs cells slots Q (F0 m (pc + 3 + nk) ls (.int k :: st)) → W p l e room_1 s m #[Value.ref b] below meth c H locs cells slots Q (F0 m (pc + 3) ls st)) (hin : vp_in (i + k) L)
    (d0 : decode cL_law pc = .ok (.aload_n 0, 1)) (d1 : decode cL_law (pc + 1) = .ok (.iload 4, 2)) (d3 : decode cL_law (pc + 3 + nk) = .ok (.iadd, 1)) (d4 : decode cL_law (pc + 3 + nk + 1) = .ok (.iaload, 1))
    (kk : W p l e room_1 s m #[Value.ref b] below meth c H locs cells slots Q (F0 m (pc + 3 + nk + 2) ls (.int (xs (i + k).toNatClampNeg) :: rest))) :
    W p l e room_1 s m #[Value.ref b] below meth c H locs cells slots Q (F0 m pc ls rest) := by
  refine lv_aload_n hx hb d0 rfl (lv_at hl k0 h0) ?_
  refine lv_iload hx hb d1 (lv_at hl k4 h4) ?_
  refine hpk _ ?_
  refine lv_iadd hx hb d3 ?_
  exact va_sld hx hb hX.1 hX.2 (fun z => by have z : s.heap.size ≤ b := z; have := hX.2; omega) hS hin d4 kk
/-- a call on the class that answers an int or a boolean -/
theorem lj_cC {d2 index n : Nat} {y2 : MethodName} {cc2 : ByteArray} {nL2 : Nat} {rt2 : Option FieldType} {as st stk st2 : List Value} {f : Option (Int32 × g_St)} {x : Int32} {μ1 : g_St}
    (C : lj_C p s m b c D tys caC adC caR adR co) (hce : cells ≤ 601024) (hsl : slots ≤ 7293034) (hls : ls.size = 7) (hR : g_Rp gC D caC adC ((ao, ox) :: g_wW adR caR gR r0) (lj_A s) s.heap μ H locs)
    (hd : decode cL_law pc = .ok (.invokevirtual index, 3)) (ml : Cond.methodLink RL index y2 ∈ g_gw) (mv : g_MV y2) (mc : g_MC y2 cc2 nL2 rt2 n) (hy : y2.cls = RX8) (hn : as.length = n) (hd2 : d2 + 1 ≤ 500) (hn2 : nL2 ≤ 81) (hst : (st.map fun v => v.category).sum ≤ 8)
    (con : g_Con gC d2 y2 cc2 nL2 rt2 (.ref 0 :: as) μ (g_yi f)) (hf : f = some (x, μ1)) (hs : g_tS adC (as.reverse ++ .ref 0 :: st) = stk) (hs2 : g_tS adC st = st2)
    (kk : ∀ (H1 : Heap) (locs1 : List Loc), g_Rp gC D caC adC ((ao, ox) :: g_wW adR caR gR r0) (lj_A s) s.heap μ1 H1 locs1 → W p l e room_1 s m #[Value.ref b] below meth c H1 locs1 cells slots Q (F0 m (pc + 3) ls (.int x :: st2))) :
    W p l e room_1 s m #[Value.ref b] below meth c H locs cells slots Q (F0 m pc ls stk) := by
  subst hs
  subst hs2
  subst hf
  exact lj_call (y := yL_law) (T2 := TX8) (N2 := 15) (ty2 := tyX8) (C.1 cells slots hce hsl).1 hd ml mv mc (by rw [hy]; exact cf_X8) ly_Own_lt ly_Own hn hd2 hn2 hst con (r1 := some (.int x)) rfl hls hR kk
/-- as lj_cC, for one that looks only -/
theorem lj_cCx {d2 index n : Nat} {y2 : MethodName} {cc2 : ByteArray} {nL2 : Nat} {rt2 : Option FieldType} {as st stk st2 : List Value} {f : Option Int32} {x : Int32}
    (C : lj_C p s m b c D tys caC adC caR adR co) (hce : cells ≤ 601024) (hsl : slots ≤ 7293034) (hls : ls.size = 7) (hR : g_Rp gC D caC adC ((ao, ox) :: g_wW adR caR gR r0) (lj_A s) s.heap μ H locs)
    (hd : decode cL_law pc = .ok (.invokevirtual index, 3)) (ml : Cond.methodLink RL index y2 ∈ g_gw) (mv : g_MV y2) (mc : g_MC y2 cc2 nL2 rt2 n) (hy : y2.cls = RX8) (hn : as.length = n) (hd2 : d2 + 1 ≤ 500) (hn2 : nL2 ≤ 81) (hst : (st.map fun v => v.category).sum ≤ 8)
    (con : g_Con gC d2 y2 cc2 nL2 rt2 (.ref 0 :: as) μ (g_xi μ f)) (hf : f = some x) (hs : g_tS adC (as.reverse ++ .ref 0 :: st) = stk) (hs2 : g_tS adC st = st2)
    (kk : ∀ (H1 : Heap) (locs1 : List Loc), g_Rp gC D caC adC ((ao, ox) :: g_wW adR caR gR r0) (lj_A s) s.heap μ H1 locs1 → W p l e room_1 s m #[Value.ref b] below meth c H1 locs1 cells slots Q (F0 m (pc + 3) ls (.int x :: st2))) :
    W p l e room_1 s m #[Value.ref b] below meth c H locs cells slots Q (F0 m pc ls stk) :=
  lj_cC (f := f.map (fun x => (x, μ))) (μ1 := μ) (x := x) C hce hsl hls hR hd ml mv mc hy hn hd2 hn2 hst (by
    have : g_yi (f.map (fun x => (x, μ))) = g_xi μ f := by cases f <;> rfl
    rw [this]; exact con) (by rw [hf]; rfl) hs hs2 kk
/-- a call on the reference -/
theorem lj_cR {d2 index n : Nat} {y2 : MethodName} {cc2 : ByteArray} {nL2 : Nat} {rt2 : Option FieldType} {as st stk st2 : List Value} {f : Option (Int32 × g_St)} {x : Int32} {r1 : g_St}
    (C : lj_C p s m b c D tys caC adC caR adR co) (hce : cells ≤ 601024) (hsl : slots ≤ 7293034) (hls : ls.size = 7) (hR : g_Rp gC D caC adC ((ao, ox) :: g_wW adR caR gR r0) (lj_A s) s.heap μ H locs)
    (hd : decode cL_law pc = .ok (.invokevirtual index, 3)) (ml : Cond.methodLink RL index y2 ∈ g_gw) (mv : g_MV y2) (mc : g_MC y2 cc2 nL2 rt2 n) (hy : y2.cls = RX9) (hn : as.length = n) (hd2 : d2 + 1 ≤ 500) (hn2 : nL2 ≤ 81) (hst : (st.map fun v => v.category).sum ≤ 8)
    (con : g_Con gR d2 y2 cc2 nL2 rt2 (.ref 0 :: as) r0 (g_yi f)) (hf : f = some (x, r1)) (hs : g_tS adR (as.reverse ++ .ref 0 :: st) = stk) (hs2 : g_tS adR st = st2)
    (kk : ∀ (H1 : Heap) (locs1 : List Loc), g_Rp gC D caC adC ((ao, ox) :: g_wW adR caR gR r1) (lj_A s) s.heap μ H1 locs1 → W p l e room_1 s m #[Value.ref b] below meth c H1 locs1 cells slots Q (F0 m (pc + 3) ls (.int x :: st2))) :
    W p l e room_1 s m #[Value.ref b] below meth c H locs cells slots Q (F0 m pc ls stk) := by
  subst hs
  subst hs2
  subst hf
  exact lj_call (y := yL_law) (T2 := TX9) (N2 := 62) (ty2 := tyX9) (C.1 cells slots hce hsl).2 hd ml mv mc (by rw [hy]; exact cf_X9) (Nat.le_of_ble_eq_true rfl) (rfl : gR.2 0 = .inl (7, g_fModel)) hn hd2 hn2 hst con (r1 := some (.int x)) rfl hls (lj_swap hR) (fun H1 locs1 h => kk H1 locs1 (lj_back h))
/-- two answers alike: the next turn -/
theorem lj_same {x : Int32} {off : Int} (hx : p.tables.exec = Jvm.exec) (hb : c.code = cL_law) (hd : decode cL_law pc = .ok (.if_icmp .eq off, 3)) (ht : (pc : Int) + off = ((1617 : Nat) : Int))
    (kk : W p l e room_1 s m #[Value.ref b] below meth c H locs cells slots Q (F0 m 1617 ls rest)) : W p l e room_1 s m #[Value.ref b] below meth c H locs cells slots Q (F0 m pc ls (.int x :: .int x :: rest)) :=
  lv_icmp_eq hx hb hd ht (fun _ => kk) (fun h => absurd rfl h)
end LjCas
