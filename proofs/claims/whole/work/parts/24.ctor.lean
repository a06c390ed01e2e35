/-! Constructors that make arrays alone: from the new object to its block of cells -/
def g_mu0 : g_St := (fun _ _ => 0, fun _ _ => 0, fun _ => 0)
def g_Init (Λ : g_Lay) (μ : g_St) (o0 : va_E) (y : MethodName) (cc : ByteArray) (nL mc ms : Nat) : Prop :=
  ∀ (l : Launch) (D : va_G) (sz h0 : Nat), Met l y (g_ws y cc nL none) { frames := 20, cells := mc, slots := ms, locals := 2000 }
    (fun v U => v = #[Value.ref h0] ∧ U.heap.size = sz ∧ va_P D g_cl [(h0, o0)] U.heap ∧ va_K D g_cl [] U ∧ va_D (fun _ => True) [(h0, o0)] ∧ ∀ w ∈ g_nw, va_Nw w U)
    (fun _ st oc t => oc = .returned none ∧ (∃ (ad ca : Nat → Nat) (tys : List (ClassId × FieldType)), ad 0 = h0 ∧ g_Ty Λ tys ca ∧ va_K D g_cl tys t ∧ va_P D g_cl (g_wW ad ca Λ μ) t.heap ∧ va_D (va_A [(h0, o0)] sz) (g_wW ad ca Λ μ)) ∧ va_F (va_A [(h0, o0)] sz) st t) mc ms (va_A [(h0, o0)] sz)
theorem g_awI : Cond.arrayClass (newarray.typeOf .int) ∈ g_gw := g_in1 (List.mem_of_getElem? (i := 132) rfl) rfl
theorem g_awJ : Cond.arrayClass (newarray.typeOf .long) ∈ g_gw := g_in1 (List.mem_of_getElem? (i := 130) rfl) rfl
theorem g_awC : Cond.arrayClass (newarray.typeOf .char) ∈ g_gw := g_in1 (List.mem_of_getElem? (i := 131) rfl) rfl
theorem g_awZ : Cond.arrayClass (newarray.typeOf .boolean) ∈ g_gw := g_in6 (List.mem_of_getElem? (i := 79) rfl) rfl
theorem g_oin : Cond.instanceMethod Lib.objectInit ∈ g_gw := g_in1 (List.mem_of_getElem? (i := 30) rfl) rfl
theorem g_oco : Cond.code Lib.objectInit ⟨#[0xb1]⟩ 1 none ∈ g_gw := g_in1 (List.mem_of_getElem? (i := 31) rfl) rfl

section CiNp
variable {p : Program} {l : Launch} {e : Env} {R : Room} {s : State} {m : MethodId} {args : Array Value} {below : List Frame} {meth : Method} {c : Code} {H : Heap} {locs : List Loc} {cells slots : Nat} {Q : State → Prop}
variable {cc : ByteArray} {pc : Nat} {ls : Array Slot} {D : va_G} {A : Nat → Prop} {tys : List (ClassId × FieldType)} {H0 : Heap}
/-- a new array, put into a field of the one object: the world grows by a cell -/
theorem ci_np (hx : p.tables.exec = Jvm.exec) (hb : c.code = cc) (hts : ∀ w ∈ g_gw, w.before args s = true) {ci : Nat} {C own ref : String} {T : u_T} {N : Nat} (hin : ∀ w ∈ u_ws C T N, w ∈ g_gw) (ty0 : Nat → FieldType) (hty : ∀ k, k < N → parseFieldDescriptor (T k).2.2.1 = some (ty0 k)) (hnm : ∀ a, a < N → ∀ b, b < N → a ≠ b → (T a).2.1 ≠ (T b).2.1) (hc : g_cl[ci]? = some (C, T, N)) (hown : s.vm.findClass own = some m.cls) (hini : meth.name = "<init>") (hA : ∀ q, H0.size ≤ q → A q)
    {h0 : Nat} {fs : List Value} {ar : va_W} (hfs : fs.length = N) (hK : va_K D g_cl tys s) (hP : va_P D g_cl ((h0, .inr (ci, fs)) :: ar) H) (hD : va_D A ((h0, .inr (ci, fs)) :: ar)) (hS : va_S A H0 H locs)
    {atype : ArrayType} {ty : FieldType} {n : Int32} {N' : Nat} {a0 : vp_A} (haw : Cond.arrayClass (newarray.typeOf atype) ∈ g_gw) (htt : newarray.typeOf atype = ty) (ha : ∀ cA : ClassId, vp_cell cA a0 = arrV cA N' (fun _ => defaultValue ty)) (hn0 : ¬ n < 0) (hN : n.toNatClampNeg = N') (hby : N' * componentBytes ty ≤ 536870912) (hce : cells + 1 ≤ R.cells) (hsl : slots + N' ≤ R.slots) (hd1 : decode cc pc = .ok (.newarray atype, 2))
    {index : Nat} (k : Nat) (hk : k < N) (hlink : Cond.fieldLink own index ref (T k).2.1 (T k).2.2.1 ∈ g_gw) (hsame : ∀ x, s.fieldFound? (T k).1 (T k).2.1 (T k).2.2.1 = some x → s.fieldFound? ref (T k).2.1 (T k).2.2.1 = some x) (hfin : (T k).2.2.2 = true) (hdecl : (T k).1 = own) (hn : ∀ q : Nat, narrow (ty0 k) (.ref q) = .ref q) (hfit : ∀ q : Nat, fits (ty0 k) (.ref q) = true) (hd2 : decode cc (pc + 2) = .ok (.putfield index, 3))
    (kk : ∀ (q : Nat) (cA : ClassId) (H1 : Heap) (locs1 : List Loc), (fs.set k (.ref q)).length = N → va_K D g_cl (tys ++ [(cA, ty)]) s → va_P D g_cl ((h0, .inr (ci, fs.set k (.ref q))) :: (ar ++ [(q, .inl (cA, a0))])) H1 → va_D A ((h0, .inr (ci, fs.set k (.ref q))) :: (ar ++ [(q, .inl (cA, a0))])) → va_S A H0 H1 locs1 → W p l e R s m args below meth c H1 locs1 (cells + 1) (slots + N') Q (F0 m (pc + 5) ls [])) :
    W p l e R s m args below meth c H locs cells slots Q (F0 m pc ls [.int n, .ref h0]) := by
  refine va_newa hx hb (hts _ haw) htt hK hP hD hS hA ha hn0 hN hby hce hsl hd1 (fun q cA H1 hK hP hD hS => ?_)
  refine va_putF (D := D) (ci := ci) (v := .ref q) (ty := ty0 k) (C := C) (T := T) (N := N) hx hb hts hin ty0 hty hnm hown hK hP hD hS 0 rfl hc k hk (hts _ hlink) hsame hfin hini hdecl (hty k hk) (hn q) (hfit q) (by omega) hd2 (fun H locs hP hD hS => ?_)
  exact kk q cA H locs (by rw [List.length_set]; exact hfs) hK hP hD hS
end CiNp

theorem dX4_init_0 : decode cX4_init 0 = .ok (.aload_n 0, 1) := by decide +kernel
theorem dX4_init_1 : decode cX4_init 1 = .ok (.invokespecial 3, 3) := by decide +kernel
theorem dX4_init_4 : decode cX4_init 4 = .ok (.aload_n 0, 1) := by decide +kernel
theorem dX4_init_5 : decode cX4_init 5 = .ok (.sipush 1000, 3) := by decide +kernel
theorem dX4_init_8 : decode cX4_init 8 = .ok (.newarray .int, 2) := by decide +kernel
theorem dX4_init_10 : decode cX4_init 10 = .ok (.putfield 9, 3) := by decide +kernel
theorem dX4_init_13 : decode cX4_init 13 = .ok (.aload_n 0, 1) := by decide +kernel
theorem dX4_init_14 : decode cX4_init 14 = .ok (.bipush 6, 2) := by decide +kernel
theorem dX4_init_16 : decode cX4_init 16 = .ok (.newarray .int, 2) := by decide +kernel
theorem dX4_init_18 : decode cX4_init 18 = .ok (.putfield 15, 3) := by decide +kernel
theorem dX4_init_21 : decode cX4_init 21 = .ok (.aload_n 0, 1) := by decide +kernel
theorem dX4_init_22 : decode cX4_init 22 = .ok (.bipush 32, 2) := by decide +kernel
theorem dX4_init_24 : decode cX4_init 24 = .ok (.newarray .int, 2) := by decide +kernel
theorem dX4_init_26 : decode cX4_init 26 = .ok (.putfield 18, 3) := by decide +kernel
theorem dX4_init_29 : decode cX4_init 29 = .ok (.return_, 1) := by decide +kernel
def g_LRule : g_Lay := (4, fun id => [(.inl (3, [(2, 1), (2, 2), (0, 0), (0, 0), (2, 3)])), (.inr (0, 1000, g_zf)), (.inr (0, 6, g_zf)), (.inr (0, 32, g_zf))].getD id (.inl (0, [])))
set_option maxHeartbeats 4000000 in
set_option maxRecDepth 20000 in
theorem ci_Rule : g_Init g_LRule g_mu0 (.inr (3, [.null, .null, .int 0, .int 0, .null])) yX4_init cX4_init 1 3 1038 := by
  intro l D sz h0
  refine Met.ofW (cc := cX4_init) (maxL := 1) (ret := none) (by decide +kernel) rfl ?_
  intro p e s m args below meth c s₁ B hml hv
  obtain ⟨rfl, hsz, hP, hK, hD0, hN⟩ := hv
  have hts := atoms_spec (ws := g_ws yX4_init cX4_init 1 none) B.pre
  have hts2 : ∀ w ∈ g_gw, w.before #[Value.ref h0] s = true := fun w hw => hts w (List.mem_cons_of_mem _ hw)
  have hown : s.vm.findClass RX4 = some m.cls := findClass_of_methodNamed B.named
  have hx := B.exec
  have hb := B.bytes
  have hr := B.returns
  have hlocks := B.notSynchronized
  have hin : meth.name = "<init>" := (name_of_methodNamed B.named B.method).1
  subst hsz
  have hD := hD0.self (sz := s.heap.size)
  generalize hAe : va_A [(h0, (.inr (3, [.null, .null, .int 0, .int 0, .null])))] s.heap.size = A at hD ⊢
  have hA : ∀ q : Nat, s.heap.size ≤ q → A q := fun q h => by rw [← hAe]; exact Or.inr h
  have hS : va_S A s.heap s.heap [] := va_S.rf
  have hP : va_P D g_cl [(h0, (.inr (3, [.null, .null, .int 0, .int 0, .null])))] s.heap := hP
  have hl := lv_entry ([Value.ref h0]) (n := 1) (Nat.le_of_ble_eq_true rfl)
  rw [show (#[Value.ref h0] : Array Value) = ([Value.ref h0] : List Value).toArray from rfl, lg_entry_eq]
  generalize (lg_sl ([Value.ref h0]) ++ List.replicate (1 - (lg_sl ([Value.ref h0])).length) Slot.unset).toArray = ls at hl ⊢
  have hl : lv_has ls 1 [(0, .ref h0)] := hl
  refine lv_aload_n hx hb dX4_init_0 rfl (lv_at hl 0 rfl) ?_
  refine W.objInit (cc := cX4_init) (own := RX4) (idx := 3) hx hb hown (hts2 _ (g_in1 (List.mem_of_getElem? (i := 208) rfl) rfl)) (hts2 _ g_oin) (hts2 _ g_oco) rfl (by rw [hml]; exact hl.1) rfl dX4_init_1 (by show 1 ≤ 20; omega) (Nat.le_of_ble_eq_true rfl) ?_
  refine W.eq (g2 := F0 m 4 ls []) rfl ?_
  refine lv_aload_n hx hb dX4_init_4 rfl (lv_at hl 0 rfl) ?_
  refine lv_sipush (v := 1000) hx hb dX4_init_5 (by decide) ?_
  refine va_newa (atype := .int) (ty := .int) (N' := 1000) (a0 := (1000, .inl (fun _ => 0))) hx hb (hts2 _ g_awI) rfl hK hP hD hS hA (fun _ => rfl) (by decide) (by decide) (Nat.le_of_ble_eq_true rfl) (by show _ ≤ 3; omega) (by show _ ≤ 1038; omega) dX4_init_8 (fun q1 k1 H hK hP hD hS => ?_)
  have hP : va_P D g_cl [(h0, (.inr (3, [.null, .null, .int 0, .int 0, .null]))), (q1, .inl (k1, 1000, .inl (fun _ => 0)))] H := hP
  have hD : va_D A [(h0, (.inr (3, [.null, .null, .int 0, .int 0, .null]))), (q1, .inl (k1, 1000, .inl (fun _ => 0)))] := hD
  have hK : va_K D g_cl [(k1, .int)] s := hK
  refine va_putF (cc := cX4_init) (D := D) (ci := 3) (v := .ref q1) (ty := tyX4 0) (C := RX4) (T := TX4) (N := 5) hx hb hts2 cf_X4.2.1 tyX4 tyX4_ok nmX4 hown hK hP hD hS 0 rfl rfl 0 (Nat.le_of_ble_eq_true rfl) (hts2 _ (g_in1 (List.mem_of_getElem? (i := 209) rfl) rfl)) (fun _ h9 => h9) rfl hin rfl (tyX4_ok 0 (Nat.le_of_ble_eq_true rfl)) rfl rfl (Nat.le_of_ble_eq_true rfl) dX4_init_10 (fun H locs hP hD hS => ?_)
  have hP : va_P D g_cl [(h0, (.inr (3, [.ref q1, .null, .int 0, .int 0, .null]))), (q1, .inl (k1, 1000, .inl (fun _ => 0)))] H := hP
  have hD : va_D A [(h0, (.inr (3, [.ref q1, .null, .int 0, .int 0, .null]))), (q1, .inl (k1, 1000, .inl (fun _ => 0)))] := hD
  refine lv_aload_n hx hb dX4_init_13 rfl (lv_at hl 0 rfl) ?_
  refine lv_bipush (v := 6) hx hb dX4_init_14 (by decide) ?_
  refine va_newa (atype := .int) (ty := .int) (N' := 6) (a0 := (6, .inl (fun _ => 0))) hx hb (hts2 _ g_awI) rfl hK hP hD hS hA (fun _ => rfl) (by decide) (by decide) (Nat.le_of_ble_eq_true rfl) (by show _ ≤ 3; omega) (by show _ ≤ 1038; omega) dX4_init_16 (fun q2 k2 H hK hP hD hS => ?_)
  have hP : va_P D g_cl [(h0, (.inr (3, [.ref q1, .null, .int 0, .int 0, .null]))), (q1, .inl (k1, 1000, .inl (fun _ => 0))), (q2, .inl (k2, 6, .inl (fun _ => 0)))] H := hP
  have hD : va_D A [(h0, (.inr (3, [.ref q1, .null, .int 0, .int 0, .null]))), (q1, .inl (k1, 1000, .inl (fun _ => 0))), (q2, .inl (k2, 6, .inl (fun _ => 0)))] := hD
  have hK : va_K D g_cl [(k1, .int), (k2, .int)] s := hK
  refine va_putF (cc := cX4_init) (D := D) (ci := 3) (v := .ref q2) (ty := tyX4 1) (C := RX4) (T := TX4) (N := 5) hx hb hts2 cf_X4.2.1 tyX4 tyX4_ok nmX4 hown hK hP hD hS 0 rfl rfl 1 (Nat.le_of_ble_eq_true rfl) (hts2 _ (g_in1 (List.mem_of_getElem? (i := 210) rfl) rfl)) (fun _ h9 => h9) rfl hin rfl (tyX4_ok 1 (Nat.le_of_ble_eq_true rfl)) rfl rfl (Nat.le_of_ble_eq_true rfl) dX4_init_18 (fun H locs hP hD hS => ?_)
  have hP : va_P D g_cl [(h0, (.inr (3, [.ref q1, .ref q2, .int 0, .int 0, .null]))), (q1, .inl (k1, 1000, .inl (fun _ => 0))), (q2, .inl (k2, 6, .inl (fun _ => 0)))] H := hP
  have hD : va_D A [(h0, (.inr (3, [.ref q1, .ref q2, .int 0, .int 0, .null]))), (q1, .inl (k1, 1000, .inl (fun _ => 0))), (q2, .inl (k2, 6, .inl (fun _ => 0)))] := hD
  refine lv_aload_n hx hb dX4_init_21 rfl (lv_at hl 0 rfl) ?_
  refine lv_bipush (v := 32) hx hb dX4_init_22 (by decide) ?_
  refine va_newa (atype := .int) (ty := .int) (N' := 32) (a0 := (32, .inl (fun _ => 0))) hx hb (hts2 _ g_awI) rfl hK hP hD hS hA (fun _ => rfl) (by decide) (by decide) (Nat.le_of_ble_eq_true rfl) (by show _ ≤ 3; omega) (by show _ ≤ 1038; omega) dX4_init_24 (fun q3 k3 H hK hP hD hS => ?_)
  have hP : va_P D g_cl [(h0, (.inr (3, [.ref q1, .ref q2, .int 0, .int 0, .null]))), (q1, .inl (k1, 1000, .inl (fun _ => 0))), (q2, .inl (k2, 6, .inl (fun _ => 0))), (q3, .inl (k3, 32, .inl (fun _ => 0)))] H := hP
  have hD : va_D A [(h0, (.inr (3, [.ref q1, .ref q2, .int 0, .int 0, .null]))), (q1, .inl (k1, 1000, .inl (fun _ => 0))), (q2, .inl (k2, 6, .inl (fun _ => 0))), (q3, .inl (k3, 32, .inl (fun _ => 0)))] := hD
  have hK : va_K D g_cl [(k1, .int), (k2, .int), (k3, .int)] s := hK
  refine va_putF (cc := cX4_init) (D := D) (ci := 3) (v := .ref q3) (ty := tyX4 4) (C := RX4) (T := TX4) (N := 5) hx hb hts2 cf_X4.2.1 tyX4 tyX4_ok nmX4 hown hK hP hD hS 0 rfl rfl 4 (Nat.le_of_ble_eq_true rfl) (hts2 _ (g_in1 (List.mem_of_getElem? (i := 215) rfl) rfl)) (fun _ h9 => h9) rfl hin rfl (tyX4_ok 4 (Nat.le_of_ble_eq_true rfl)) rfl rfl (Nat.le_of_ble_eq_true rfl) dX4_init_26 (fun H locs hP hD hS => ?_)
  have hP : va_P D g_cl [(h0, (.inr (3, [.ref q1, .ref q2, .int 0, .int 0, .ref q3]))), (q1, .inl (k1, 1000, .inl (fun _ => 0))), (q2, .inl (k2, 6, .inl (fun _ => 0))), (q3, .inl (k3, 32, .inl (fun _ => 0)))] H := hP
  have hD : va_D A [(h0, (.inr (3, [.ref q1, .ref q2, .int 0, .int 0, .ref q3]))), (q1, .inl (k1, 1000, .inl (fun _ => 0))), (q2, .inl (k2, 6, .inl (fun _ => 0))), (q3, .inl (k3, 32, .inl (fun _ => 0)))] := hD
  refine W.widen (k := 3) (n := 1038) (by omega) (by omega) ?_
  exact W.vret (cc := cX4_init) hx hb hr (fun t ht hW => ⟨rfl, ⟨fun i => [h0, q1, q2, q3].getD i 0, fun i => [0, k1, k2, k3].getD i 0, [(k1, .int), (k2, .int), (k3, .int)], rfl, fun id hid ty n rf h => (match id, hid, h with
      | 0, _, h => (by cases h)
      | 1, _, h => (by cases h; exact ⟨0, rfl⟩)
      | 2, _, h => (by cases h; exact ⟨1, rfl⟩)
      | 3, _, h => (by cases h; exact ⟨2, rfl⟩)
      | k + 4, hk, _ => absurd hk (by show ¬ k + 4 < 4; omega)), va_K.moved hW.alike hK, (by rw [ht]; exact hP), hD⟩, hS.F ht⟩) hS.2.2 dX4_init_29 hlocks
theorem dX7_init_0 : decode cX7_init 0 = .ok (.aload_n 0, 1) := by decide +kernel
theorem dX7_init_1 : decode cX7_init 1 = .ok (.invokespecial 3, 3) := by decide +kernel
theorem dX7_init_4 : decode cX7_init 4 = .ok (.aload_n 0, 1) := by decide +kernel
theorem dX7_init_5 : decode cX7_init 5 = .ok (.bipush 40, 2) := by decide +kernel
theorem dX7_init_7 : decode cX7_init 7 = .ok (.newarray .int, 2) := by decide +kernel
theorem dX7_init_9 : decode cX7_init 9 = .ok (.putfield 9, 3) := by decide +kernel
theorem dX7_init_12 : decode cX7_init 12 = .ok (.aload_n 0, 1) := by decide +kernel
theorem dX7_init_13 : decode cX7_init 13 = .ok (.bipush 40, 2) := by decide +kernel
theorem dX7_init_15 : decode cX7_init 15 = .ok (.newarray .int, 2) := by decide +kernel
theorem dX7_init_17 : decode cX7_init 17 = .ok (.putfield 15, 3) := by decide +kernel
theorem dX7_init_20 : decode cX7_init 20 = .ok (.aload_n 0, 1) := by decide +kernel
theorem dX7_init_21 : decode cX7_init 21 = .ok (.bipush 40, 2) := by decide +kernel
theorem dX7_init_23 : decode cX7_init 23 = .ok (.newarray .int, 2) := by decide +kernel
theorem dX7_init_25 : decode cX7_init 25 = .ok (.putfield 18, 3) := by decide +kernel
theorem dX7_init_28 : decode cX7_init 28 = .ok (.aload_n 0, 1) := by decide +kernel
theorem dX7_init_29 : decode cX7_init 29 = .ok (.bipush 40, 2) := by decide +kernel
theorem dX7_init_31 : decode cX7_init 31 = .ok (.newarray .int, 2) := by decide +kernel
theorem dX7_init_33 : decode cX7_init 33 = .ok (.putfield 21, 3) := by decide +kernel
theorem dX7_init_36 : decode cX7_init 36 = .ok (.aload_n 0, 1) := by decide +kernel
theorem dX7_init_37 : decode cX7_init 37 = .ok (.bipush 40, 2) := by decide +kernel
theorem dX7_init_39 : decode cX7_init 39 = .ok (.newarray .int, 2) := by decide +kernel
theorem dX7_init_41 : decode cX7_init 41 = .ok (.putfield 24, 3) := by decide +kernel
theorem dX7_init_44 : decode cX7_init 44 = .ok (.aload_n 0, 1) := by decide +kernel
theorem dX7_init_45 : decode cX7_init 45 = .ok (.bipush 8, 2) := by decide +kernel
theorem dX7_init_47 : decode cX7_init 47 = .ok (.newarray .int, 2) := by decide +kernel
theorem dX7_init_49 : decode cX7_init 49 = .ok (.putfield 27, 3) := by decide +kernel
theorem dX7_init_52 : decode cX7_init 52 = .ok (.aload_n 0, 1) := by decide +kernel
theorem dX7_init_53 : decode cX7_init 53 = .ok (.bipush 8, 2) := by decide +kernel
theorem dX7_init_55 : decode cX7_init 55 = .ok (.newarray .int, 2) := by decide +kernel
theorem dX7_init_57 : decode cX7_init 57 = .ok (.putfield 30, 3) := by decide +kernel
theorem dX7_init_60 : decode cX7_init 60 = .ok (.return_, 1) := by decide +kernel
def g_LWeek : g_Lay := (8, fun id => [(.inl (5, [(0, 0), (0, 0), (2, 1), (2, 2), (2, 3), (2, 4), (2, 5), (2, 6), (2, 7)])), (.inr (0, 40, g_zf)), (.inr (0, 40, g_zf)), (.inr (0, 40, g_zf)), (.inr (0, 40, g_zf)), (.inr (0, 40, g_zf)), (.inr (0, 8, g_zf)), (.inr (0, 8, g_zf))].getD id (.inl (0, [])))
set_option maxHeartbeats 4000000 in
set_option maxRecDepth 20000 in
theorem ci_Week : g_Init g_LWeek g_mu0 (.inr (5, [.int 0, .int 0, .null, .null, .null, .null, .null, .null, .null])) yX7_init cX7_init 1 7 216 := by
  intro l D sz h0
  refine Met.ofW (cc := cX7_init) (maxL := 1) (ret := none) (by decide +kernel) rfl ?_
  intro p e s m args below meth c s₁ B hml hv
  obtain ⟨rfl, hsz, hP, hK, hD0, hN⟩ := hv
  have hts := atoms_spec (ws := g_ws yX7_init cX7_init 1 none) B.pre
  have hts2 : ∀ w ∈ g_gw, w.before #[Value.ref h0] s = true := fun w hw => hts w (List.mem_cons_of_mem _ hw)
  have hown : s.vm.findClass RX7 = some m.cls := findClass_of_methodNamed B.named
  have hx := B.exec
  have hb := B.bytes
  have hr := B.returns
  have hlocks := B.notSynchronized
  have hin : meth.name = "<init>" := (name_of_methodNamed B.named B.method).1
  subst hsz
  have hD := hD0.self (sz := s.heap.size)
  generalize hAe : va_A [(h0, (.inr (5, [.int 0, .int 0, .null, .null, .null, .null, .null, .null, .null])))] s.heap.size = A at hD ⊢
  have hA : ∀ q : Nat, s.heap.size ≤ q → A q := fun q h => by rw [← hAe]; exact Or.inr h
  have hS : va_S A s.heap s.heap [] := va_S.rf
  have hP : va_P D g_cl [(h0, (.inr (5, [.int 0, .int 0, .null, .null, .null, .null, .null, .null, .null])))] s.heap := hP
  have hl := lv_entry ([Value.ref h0]) (n := 1) (Nat.le_of_ble_eq_true rfl)
  rw [show (#[Value.ref h0] : Array Value) = ([Value.ref h0] : List Value).toArray from rfl, lg_entry_eq]
  generalize (lg_sl ([Value.ref h0]) ++ List.replicate (1 - (lg_sl ([Value.ref h0])).length) Slot.unset).toArray = ls at hl ⊢
  have hl : lv_has ls 1 [(0, .ref h0)] := hl
  refine lv_aload_n hx hb dX7_init_0 rfl (lv_at hl 0 rfl) ?_
  refine W.objInit (cc := cX7_init) (own := RX7) (idx := 3) hx hb hown (hts2 _ (g_in1 (List.mem_of_getElem? (i := 232) rfl) rfl)) (hts2 _ g_oin) (hts2 _ g_oco) rfl (by rw [hml]; exact hl.1) rfl dX7_init_1 (by show 1 ≤ 20; omega) (Nat.le_of_ble_eq_true rfl) ?_
  refine W.eq (g2 := F0 m 4 ls []) rfl ?_
  refine lv_aload_n hx hb dX7_init_4 rfl (lv_at hl 0 rfl) ?_
  refine lv_bipush (v := 40) hx hb dX7_init_5 (by decide) ?_
  refine va_newa (atype := .int) (ty := .int) (N' := 40) (a0 := (40, .inl (fun _ => 0))) hx hb (hts2 _ g_awI) rfl hK hP hD hS hA (fun _ => rfl) (by decide) (by decide) (Nat.le_of_ble_eq_true rfl) (by show _ ≤ 7; omega) (by show _ ≤ 216; omega) dX7_init_7 (fun q1 k1 H hK hP hD hS => ?_)
  have hP : va_P D g_cl [(h0, (.inr (5, [.int 0, .int 0, .null, .null, .null, .null, .null, .null, .null]))), (q1, .inl (k1, 40, .inl (fun _ => 0)))] H := hP
  have hD : va_D A [(h0, (.inr (5, [.int 0, .int 0, .null, .null, .null, .null, .null, .null, .null]))), (q1, .inl (k1, 40, .inl (fun _ => 0)))] := hD
  have hK : va_K D g_cl [(k1, .int)] s := hK
  refine va_putF (cc := cX7_init) (D := D) (ci := 5) (v := .ref q1) (ty := tyX7 2) (C := RX7) (T := TX7) (N := 9) hx hb hts2 cf_X7.2.1 tyX7 tyX7_ok nmX7 hown hK hP hD hS 0 rfl rfl 2 (Nat.le_of_ble_eq_true rfl) (hts2 _ (g_in1 (List.mem_of_getElem? (i := 237) rfl) rfl)) (fun _ h9 => h9) rfl hin rfl (tyX7_ok 2 (Nat.le_of_ble_eq_true rfl)) rfl rfl (Nat.le_of_ble_eq_true rfl) dX7_init_9 (fun H locs hP hD hS => ?_)
  have hP : va_P D g_cl [(h0, (.inr (5, [.int 0, .int 0, .ref q1, .null, .null, .null, .null, .null, .null]))), (q1, .inl (k1, 40, .inl (fun _ => 0)))] H := hP
  have hD : va_D A [(h0, (.inr (5, [.int 0, .int 0, .ref q1, .null, .null, .null, .null, .null, .null]))), (q1, .inl (k1, 40, .inl (fun _ => 0)))] := hD
  refine lv_aload_n hx hb dX7_init_12 rfl (lv_at hl 0 rfl) ?_
  refine lv_bipush (v := 40) hx hb dX7_init_13 (by decide) ?_
  refine va_newa (atype := .int) (ty := .int) (N' := 40) (a0 := (40, .inl (fun _ => 0))) hx hb (hts2 _ g_awI) rfl hK hP hD hS hA (fun _ => rfl) (by decide) (by decide) (Nat.le_of_ble_eq_true rfl) (by show _ ≤ 7; omega) (by show _ ≤ 216; omega) dX7_init_15 (fun q2 k2 H hK hP hD hS => ?_)
  have hP : va_P D g_cl [(h0, (.inr (5, [.int 0, .int 0, .ref q1, .null, .null, .null, .null, .null, .null]))), (q1, .inl (k1, 40, .inl (fun _ => 0))), (q2, .inl (k2, 40, .inl (fun _ => 0)))] H := hP
  have hD : va_D A [(h0, (.inr (5, [.int 0, .int 0, .ref q1, .null, .null, .null, .null, .null, .null]))), (q1, .inl (k1, 40, .inl (fun _ => 0))), (q2, .inl (k2, 40, .inl (fun _ => 0)))] := hD
  have hK : va_K D g_cl [(k1, .int), (k2, .int)] s := hK
  refine va_putF (cc := cX7_init) (D := D) (ci := 5) (v := .ref q2) (ty := tyX7 3) (C := RX7) (T := TX7) (N := 9) hx hb hts2 cf_X7.2.1 tyX7 tyX7_ok nmX7 hown hK hP hD hS 0 rfl rfl 3 (Nat.le_of_ble_eq_true rfl) (hts2 _ (g_in1 (List.mem_of_getElem? (i := 239) rfl) rfl)) (fun _ h9 => h9) rfl hin rfl (tyX7_ok 3 (Nat.le_of_ble_eq_true rfl)) rfl rfl (Nat.le_of_ble_eq_true rfl) dX7_init_17 (fun H locs hP hD hS => ?_)
  have hP : va_P D g_cl [(h0, (.inr (5, [.int 0, .int 0, .ref q1, .ref q2, .null, .null, .null, .null, .null]))), (q1, .inl (k1, 40, .inl (fun _ => 0))), (q2, .inl (k2, 40, .inl (fun _ => 0)))] H := hP
  have hD : va_D A [(h0, (.inr (5, [.int 0, .int 0, .ref q1, .ref q2, .null, .null, .null, .null, .null]))), (q1, .inl (k1, 40, .inl (fun _ => 0))), (q2, .inl (k2, 40, .inl (fun _ => 0)))] := hD
  refine lv_aload_n hx hb dX7_init_20 rfl (lv_at hl 0 rfl) ?_
  refine lv_bipush (v := 40) hx hb dX7_init_21 (by decide) ?_
  refine va_newa (atype := .int) (ty := .int) (N' := 40) (a0 := (40, .inl (fun _ => 0))) hx hb (hts2 _ g_awI) rfl hK hP hD hS hA (fun _ => rfl) (by decide) (by decide) (Nat.le_of_ble_eq_true rfl) (by show _ ≤ 7; omega) (by show _ ≤ 216; omega) dX7_init_23 (fun q3 k3 H hK hP hD hS => ?_)
  have hP : va_P D g_cl [(h0, (.inr (5, [.int 0, .int 0, .ref q1, .ref q2, .null, .null, .null, .null, .null]))), (q1, .inl (k1, 40, .inl (fun _ => 0))), (q2, .inl (k2, 40, .inl (fun _ => 0))), (q3, .inl (k3, 40, .inl (fun _ => 0)))] H := hP
  have hD : va_D A [(h0, (.inr (5, [.int 0, .int 0, .ref q1, .ref q2, .null, .null, .null, .null, .null]))), (q1, .inl (k1, 40, .inl (fun _ => 0))), (q2, .inl (k2, 40, .inl (fun _ => 0))), (q3, .inl (k3, 40, .inl (fun _ => 0)))] := hD
  have hK : va_K D g_cl [(k1, .int), (k2, .int), (k3, .int)] s := hK
  refine va_putF (cc := cX7_init) (D := D) (ci := 5) (v := .ref q3) (ty := tyX7 4) (C := RX7) (T := TX7) (N := 9) hx hb hts2 cf_X7.2.1 tyX7 tyX7_ok nmX7 hown hK hP hD hS 0 rfl rfl 4 (Nat.le_of_ble_eq_true rfl) (hts2 _ (g_in2 (List.mem_of_getElem? (i := 1) rfl) rfl)) (fun _ h9 => h9) rfl hin rfl (tyX7_ok 4 (Nat.le_of_ble_eq_true rfl)) rfl rfl (Nat.le_of_ble_eq_true rfl) dX7_init_25 (fun H locs hP hD hS => ?_)
  have hP : va_P D g_cl [(h0, (.inr (5, [.int 0, .int 0, .ref q1, .ref q2, .ref q3, .null, .null, .null, .null]))), (q1, .inl (k1, 40, .inl (fun _ => 0))), (q2, .inl (k2, 40, .inl (fun _ => 0))), (q3, .inl (k3, 40, .inl (fun _ => 0)))] H := hP
  have hD : va_D A [(h0, (.inr (5, [.int 0, .int 0, .ref q1, .ref q2, .ref q3, .null, .null, .null, .null]))), (q1, .inl (k1, 40, .inl (fun _ => 0))), (q2, .inl (k2, 40, .inl (fun _ => 0))), (q3, .inl (k3, 40, .inl (fun _ => 0)))] := hD
  refine lv_aload_n hx hb dX7_init_28 rfl (lv_at hl 0 rfl) ?_
  refine lv_bipush (v := 40) hx hb dX7_init_29 (by decide) ?_
  refine va_newa (atype := .int) (ty := .int) (N' := 40) (a0 := (40, .inl (fun _ => 0))) hx hb (hts2 _ g_awI) rfl hK hP hD hS hA (fun _ => rfl) (by decide) (by decide) (Nat.le_of_ble_eq_true rfl) (by show _ ≤ 7; omega) (by show _ ≤ 216; omega) dX7_init_31 (fun q4 k4 H hK hP hD hS => ?_)
  have hP : va_P D g_cl [(h0, (.inr (5, [.int 0, .int 0, .ref q1, .ref q2, .ref q3, .null, .null, .null, .null]))), (q1, .inl (k1, 40, .inl (fun _ => 0))), (q2, .inl (k2, 40, .inl (fun _ => 0))), (q3, .inl (k3, 40, .inl (fun _ => 0))), (q4, .inl (k4, 40, .inl (fun _ => 0)))] H := hP
  have hD : va_D A [(h0, (.inr (5, [.int 0, .int 0, .ref q1, .ref q2, .ref q3, .null, .null, .null, .null]))), (q1, .inl (k1, 40, .inl (fun _ => 0))), (q2, .inl (k2, 40, .inl (fun _ => 0))), (q3, .inl (k3, 40, .inl (fun _ => 0))), (q4, .inl (k4, 40, .inl (fun _ => 0)))] := hD
  have hK : va_K D g_cl [(k1, .int), (k2, .int), (k3, .int), (k4, .int)] s := hK
  refine va_putF (cc := cX7_init) (D := D) (ci := 5) (v := .ref q4) (ty := tyX7 5) (C := RX7) (T := TX7) (N := 9) hx hb hts2 cf_X7.2.1 tyX7 tyX7_ok nmX7 hown hK hP hD hS 0 rfl rfl 5 (Nat.le_of_ble_eq_true rfl) (hts2 _ (g_in2 (List.mem_of_getElem? (i := 3) rfl) rfl)) (fun _ h9 => h9) rfl hin rfl (tyX7_ok 5 (Nat.le_of_ble_eq_true rfl)) rfl rfl (Nat.le_of_ble_eq_true rfl) dX7_init_33 (fun H locs hP hD hS => ?_)
  have hP : va_P D g_cl [(h0, (.inr (5, [.int 0, .int 0, .ref q1, .ref q2, .ref q3, .ref q4, .null, .null, .null]))), (q1, .inl (k1, 40, .inl (fun _ => 0))), (q2, .inl (k2, 40, .inl (fun _ => 0))), (q3, .inl (k3, 40, .inl (fun _ => 0))), (q4, .inl (k4, 40, .inl (fun _ => 0)))] H := hP
  have hD : va_D A [(h0, (.inr (5, [.int 0, .int 0, .ref q1, .ref q2, .ref q3, .ref q4, .null, .null, .null]))), (q1, .inl (k1, 40, .inl (fun _ => 0))), (q2, .inl (k2, 40, .inl (fun _ => 0))), (q3, .inl (k3, 40, .inl (fun _ => 0))), (q4, .inl (k4, 40, .inl (fun _ => 0)))] := hD
  refine lv_aload_n hx hb dX7_init_36 rfl (lv_at hl 0 rfl) ?_
  refine lv_bipush (v := 40) hx hb dX7_init_37 (by decide) ?_
  refine va_newa (atype := .int) (ty := .int) (N' := 40) (a0 := (40, .inl (fun _ => 0))) hx hb (hts2 _ g_awI) rfl hK hP hD hS hA (fun _ => rfl) (by decide) (by decide) (Nat.le_of_ble_eq_true rfl) (by show _ ≤ 7; omega) (by show _ ≤ 216; omega) dX7_init_39 (fun q5 k5 H hK hP hD hS => ?_)
  have hP : va_P D g_cl [(h0, (.inr (5, [.int 0, .int 0, .ref q1, .ref q2, .ref q3, .ref q4, .null, .null, .null]))), (q1, .inl (k1, 40, .inl (fun _ => 0))), (q2, .inl (k2, 40, .inl (fun _ => 0))), (q3, .inl (k3, 40, .inl (fun _ => 0))), (q4, .inl (k4, 40, .inl (fun _ => 0))), (q5, .inl (k5, 40, .inl (fun _ => 0)))] H := hP
  have hD : va_D A [(h0, (.inr (5, [.int 0, .int 0, .ref q1, .ref q2, .ref q3, .ref q4, .null, .null, .null]))), (q1, .inl (k1, 40, .inl (fun _ => 0))), (q2, .inl (k2, 40, .inl (fun _ => 0))), (q3, .inl (k3, 40, .inl (fun _ => 0))), (q4, .inl (k4, 40, .inl (fun _ => 0))), (q5, .inl (k5, 40, .inl (fun _ => 0)))] := hD
  have hK : va_K D g_cl [(k1, .int), (k2, .int), (k3, .int), (k4, .int), (k5, .int)] s := hK
  refine va_putF (cc := cX7_init) (D := D) (ci := 5) (v := .ref q5) (ty := tyX7 6) (C := RX7) (T := TX7) (N := 9) hx hb hts2 cf_X7.2.1 tyX7 tyX7_ok nmX7 hown hK hP hD hS 0 rfl rfl 6 (Nat.le_of_ble_eq_true rfl) (hts2 _ (g_in2 (List.mem_of_getElem? (i := 5) rfl) rfl)) (fun _ h9 => h9) rfl hin rfl (tyX7_ok 6 (Nat.le_of_ble_eq_true rfl)) rfl rfl (Nat.le_of_ble_eq_true rfl) dX7_init_41 (fun H locs hP hD hS => ?_)
  have hP : va_P D g_cl [(h0, (.inr (5, [.int 0, .int 0, .ref q1, .ref q2, .ref q3, .ref q4, .ref q5, .null, .null]))), (q1, .inl (k1, 40, .inl (fun _ => 0))), (q2, .inl (k2, 40, .inl (fun _ => 0))), (q3, .inl (k3, 40, .inl (fun _ => 0))), (q4, .inl (k4, 40, .inl (fun _ => 0))), (q5, .inl (k5, 40, .inl (fun _ => 0)))] H := hP
  have hD : va_D A [(h0, (.inr (5, [.int 0, .int 0, .ref q1, .ref q2, .ref q3, .ref q4, .ref q5, .null, .null]))), (q1, .inl (k1, 40, .inl (fun _ => 0))), (q2, .inl (k2, 40, .inl (fun _ => 0))), (q3, .inl (k3, 40, .inl (fun _ => 0))), (q4, .inl (k4, 40, .inl (fun _ => 0))), (q5, .inl (k5, 40, .inl (fun _ => 0)))] := hD
  refine lv_aload_n hx hb dX7_init_44 rfl (lv_at hl 0 rfl) ?_
  refine lv_bipush (v := 8) hx hb dX7_init_45 (by decide) ?_
  refine va_newa (atype := .int) (ty := .int) (N' := 8) (a0 := (8, .inl (fun _ => 0))) hx hb (hts2 _ g_awI) rfl hK hP hD hS hA (fun _ => rfl) (by decide) (by decide) (Nat.le_of_ble_eq_true rfl) (by show _ ≤ 7; omega) (by show _ ≤ 216; omega) dX7_init_47 (fun q6 k6 H hK hP hD hS => ?_)
  have hP : va_P D g_cl [(h0, (.inr (5, [.int 0, .int 0, .ref q1, .ref q2, .ref q3, .ref q4, .ref q5, .null, .null]))), (q1, .inl (k1, 40, .inl (fun _ => 0))), (q2, .inl (k2, 40, .inl (fun _ => 0))), (q3, .inl (k3, 40, .inl (fun _ => 0))), (q4, .inl (k4, 40, .inl (fun _ => 0))), (q5, .inl (k5, 40, .inl (fun _ => 0))), (q6, .inl (k6, 8, .inl (fun _ => 0)))] H := hP
  have hD : va_D A [(h0, (.inr (5, [.int 0, .int 0, .ref q1, .ref q2, .ref q3, .ref q4, .ref q5, .null, .null]))), (q1, .inl (k1, 40, .inl (fun _ => 0))), (q2, .inl (k2, 40, .inl (fun _ => 0))), (q3, .inl (k3, 40, .inl (fun _ => 0))), (q4, .inl (k4, 40, .inl (fun _ => 0))), (q5, .inl (k5, 40, .inl (fun _ => 0))), (q6, .inl (k6, 8, .inl (fun _ => 0)))] := hD
  have hK : va_K D g_cl [(k1, .int), (k2, .int), (k3, .int), (k4, .int), (k5, .int), (k6, .int)] s := hK
  refine va_putF (cc := cX7_init) (D := D) (ci := 5) (v := .ref q6) (ty := tyX7 7) (C := RX7) (T := TX7) (N := 9) hx hb hts2 cf_X7.2.1 tyX7 tyX7_ok nmX7 hown hK hP hD hS 0 rfl rfl 7 (Nat.le_of_ble_eq_true rfl) (hts2 _ (g_in2 (List.mem_of_getElem? (i := 7) rfl) rfl)) (fun _ h9 => h9) rfl hin rfl (tyX7_ok 7 (Nat.le_of_ble_eq_true rfl)) rfl rfl (Nat.le_of_ble_eq_true rfl) dX7_init_49 (fun H locs hP hD hS => ?_)
  have hP : va_P D g_cl [(h0, (.inr (5, [.int 0, .int 0, .ref q1, .ref q2, .ref q3, .ref q4, .ref q5, .ref q6, .null]))), (q1, .inl (k1, 40, .inl (fun _ => 0))), (q2, .inl (k2, 40, .inl (fun _ => 0))), (q3, .inl (k3, 40, .inl (fun _ => 0))), (q4, .inl (k4, 40, .inl (fun _ => 0))), (q5, .inl (k5, 40, .inl (fun _ => 0))), (q6, .inl (k6, 8, .inl (fun _ => 0)))] H := hP
  have hD : va_D A [(h0, (.inr (5, [.int 0, .int 0, .ref q1, .ref q2, .ref q3, .ref q4, .ref q5, .ref q6, .null]))), (q1, .inl (k1, 40, .inl (fun _ => 0))), (q2, .inl (k2, 40, .inl (fun _ => 0))), (q3, .inl (k3, 40, .inl (fun _ => 0))), (q4, .inl (k4, 40, .inl (fun _ => 0))), (q5, .inl (k5, 40, .inl (fun _ => 0))), (q6, .inl (k6, 8, .inl (fun _ => 0)))] := hD
  refine lv_aload_n hx hb dX7_init_52 rfl (lv_at hl 0 rfl) ?_
  refine lv_bipush (v := 8) hx hb dX7_init_53 (by decide) ?_
  refine va_newa (atype := .int) (ty := .int) (N' := 8) (a0 := (8, .inl (fun _ => 0))) hx hb (hts2 _ g_awI) rfl hK hP hD hS hA (fun _ => rfl) (by decide) (by decide) (Nat.le_of_ble_eq_true rfl) (by show _ ≤ 7; omega) (by show _ ≤ 216; omega) dX7_init_55 (fun q7 k7 H hK hP hD hS => ?_)
  have hP : va_P D g_cl [(h0, (.inr (5, [.int 0, .int 0, .ref q1, .ref q2, .ref q3, .ref q4, .ref q5, .ref q6, .null]))), (q1, .inl (k1, 40, .inl (fun _ => 0))), (q2, .inl (k2, 40, .inl (fun _ => 0))), (q3, .inl (k3, 40, .inl (fun _ => 0))), (q4, .inl (k4, 40, .inl (fun _ => 0))), (q5, .inl (k5, 40, .inl (fun _ => 0))), (q6, .inl (k6, 8, .inl (fun _ => 0))), (q7, .inl (k7, 8, .inl (fun _ => 0)))] H := hP
  have hD : va_D A [(h0, (.inr (5, [.int 0, .int 0, .ref q1, .ref q2, .ref q3, .ref q4, .ref q5, .ref q6, .null]))), (q1, .inl (k1, 40, .inl (fun _ => 0))), (q2, .inl (k2, 40, .inl (fun _ => 0))), (q3, .inl (k3, 40, .inl (fun _ => 0))), (q4, .inl (k4, 40, .inl (fun _ => 0))), (q5, .inl (k5, 40, .inl (fun _ => 0))), (q6, .inl (k6, 8, .inl (fun _ => 0))), (q7, .inl (k7, 8, .inl (fun _ => 0)))] := hD
  have hK : va_K D g_cl [(k1, .int), (k2, .int), (k3, .int), (k4, .int), (k5, .int), (k6, .int), (k7, .int)] s := hK
  refine va_putF (cc := cX7_init) (D := D) (ci := 5) (v := .ref q7) (ty := tyX7 8) (C := RX7) (T := TX7) (N := 9) hx hb hts2 cf_X7.2.1 tyX7 tyX7_ok nmX7 hown hK hP hD hS 0 rfl rfl 8 (Nat.le_of_ble_eq_true rfl) (hts2 _ (g_in2 (List.mem_of_getElem? (i := 9) rfl) rfl)) (fun _ h9 => h9) rfl hin rfl (tyX7_ok 8 (Nat.le_of_ble_eq_true rfl)) rfl rfl (Nat.le_of_ble_eq_true rfl) dX7_init_57 (fun H locs hP hD hS => ?_)
  have hP : va_P D g_cl [(h0, (.inr (5, [.int 0, .int 0, .ref q1, .ref q2, .ref q3, .ref q4, .ref q5, .ref q6, .ref q7]))), (q1, .inl (k1, 40, .inl (fun _ => 0))), (q2, .inl (k2, 40, .inl (fun _ => 0))), (q3, .inl (k3, 40, .inl (fun _ => 0))), (q4, .inl (k4, 40, .inl (fun _ => 0))), (q5, .inl (k5, 40, .inl (fun _ => 0))), (q6, .inl (k6, 8, .inl (fun _ => 0))), (q7, .inl (k7, 8, .inl (fun _ => 0)))] H := hP
  have hD : va_D A [(h0, (.inr (5, [.int 0, .int 0, .ref q1, .ref q2, .ref q3, .ref q4, .ref q5, .ref q6, .ref q7]))), (q1, .inl (k1, 40, .inl (fun _ => 0))), (q2, .inl (k2, 40, .inl (fun _ => 0))), (q3, .inl (k3, 40, .inl (fun _ => 0))), (q4, .inl (k4, 40, .inl (fun _ => 0))), (q5, .inl (k5, 40, .inl (fun _ => 0))), (q6, .inl (k6, 8, .inl (fun _ => 0))), (q7, .inl (k7, 8, .inl (fun _ => 0)))] := hD
  refine W.widen (k := 7) (n := 216) (by omega) (by omega) ?_
  exact W.vret (cc := cX7_init) hx hb hr (fun t ht hW => ⟨rfl, ⟨fun i => [h0, q1, q2, q3, q4, q5, q6, q7].getD i 0, fun i => [0, k1, k2, k3, k4, k5, k6, k7].getD i 0, [(k1, .int), (k2, .int), (k3, .int), (k4, .int), (k5, .int), (k6, .int), (k7, .int)], rfl, fun id hid ty n rf h => (match id, hid, h with
      | 0, _, h => (by cases h)
      | 1, _, h => (by cases h; exact ⟨0, rfl⟩)
      | 2, _, h => (by cases h; exact ⟨1, rfl⟩)
      | 3, _, h => (by cases h; exact ⟨2, rfl⟩)
      | 4, _, h => (by cases h; exact ⟨3, rfl⟩)
      | 5, _, h => (by cases h; exact ⟨4, rfl⟩)
      | 6, _, h => (by cases h; exact ⟨5, rfl⟩)
      | 7, _, h => (by cases h; exact ⟨6, rfl⟩)
      | k + 8, hk, _ => absurd hk (by show ¬ k + 8 < 8; omega)), va_K.moved hW.alike hK, (by rw [ht]; exact hP), hD⟩, hS.F ht⟩) hS.2.2 dX7_init_60 hlocks
theorem dX3_init_0 : decode cX3_init 0 = .ok (.aload_n 0, 1) := by decide +kernel
theorem dX3_init_1 : decode cX3_init 1 = .ok (.invokespecial 3, 3) := by decide +kernel
theorem dX3_init_4 : decode cX3_init 4 = .ok (.aload_n 0, 1) := by decide +kernel
theorem dX3_init_5 : decode cX3_init 5 = .ok (.bipush 64, 2) := by decide +kernel
theorem dX3_init_7 : decode cX3_init 7 = .ok (.newarray .int, 2) := by decide +kernel
theorem dX3_init_9 : decode cX3_init 9 = .ok (.putfield 9, 3) := by decide +kernel
theorem dX3_init_12 : decode cX3_init 12 = .ok (.aload_n 0, 1) := by decide +kernel
theorem dX3_init_13 : decode cX3_init 13 = .ok (.bipush 48, 2) := by decide +kernel
theorem dX3_init_15 : decode cX3_init 15 = .ok (.newarray .int, 2) := by decide +kernel
theorem dX3_init_17 : decode cX3_init 17 = .ok (.putfield 15, 3) := by decide +kernel
theorem dX3_init_20 : decode cX3_init 20 = .ok (.aload_n 0, 1) := by decide +kernel
theorem dX3_init_21 : decode cX3_init 21 = .ok (.bipush 48, 2) := by decide +kernel
theorem dX3_init_23 : decode cX3_init 23 = .ok (.newarray .int, 2) := by decide +kernel
theorem dX3_init_25 : decode cX3_init 25 = .ok (.putfield 18, 3) := by decide +kernel
theorem dX3_init_28 : decode cX3_init 28 = .ok (.aload_n 0, 1) := by decide +kernel
theorem dX3_init_29 : decode cX3_init 29 = .ok (.bipush 48, 2) := by decide +kernel
theorem dX3_init_31 : decode cX3_init 31 = .ok (.newarray .int, 2) := by decide +kernel
theorem dX3_init_33 : decode cX3_init 33 = .ok (.putfield 21, 3) := by decide +kernel
theorem dX3_init_36 : decode cX3_init 36 = .ok (.aload_n 0, 1) := by decide +kernel
theorem dX3_init_37 : decode cX3_init 37 = .ok (.bipush 48, 2) := by decide +kernel
theorem dX3_init_39 : decode cX3_init 39 = .ok (.newarray .int, 2) := by decide +kernel
theorem dX3_init_41 : decode cX3_init 41 = .ok (.putfield 24, 3) := by decide +kernel
theorem dX3_init_44 : decode cX3_init 44 = .ok (.aload_n 0, 1) := by decide +kernel
theorem dX3_init_45 : decode cX3_init 45 = .ok (.sipush 256, 3) := by decide +kernel
theorem dX3_init_48 : decode cX3_init 48 = .ok (.newarray .int, 2) := by decide +kernel
theorem dX3_init_50 : decode cX3_init 50 = .ok (.putfield 27, 3) := by decide +kernel
theorem dX3_init_53 : decode cX3_init 53 = .ok (.aload_n 0, 1) := by decide +kernel
theorem dX3_init_54 : decode cX3_init 54 = .ok (.sipush 256, 3) := by decide +kernel
theorem dX3_init_57 : decode cX3_init 57 = .ok (.newarray .int, 2) := by decide +kernel
theorem dX3_init_59 : decode cX3_init 59 = .ok (.putfield 30, 3) := by decide +kernel
theorem dX3_init_62 : decode cX3_init 62 = .ok (.aload_n 0, 1) := by decide +kernel
theorem dX3_init_63 : decode cX3_init 63 = .ok (.sipush 256, 3) := by decide +kernel
theorem dX3_init_66 : decode cX3_init 66 = .ok (.newarray .int, 2) := by decide +kernel
theorem dX3_init_68 : decode cX3_init 68 = .ok (.putfield 33, 3) := by decide +kernel
theorem dX3_init_71 : decode cX3_init 71 = .ok (.aload_n 0, 1) := by decide +kernel
theorem dX3_init_72 : decode cX3_init 72 = .ok (.sipush 256, 3) := by decide +kernel
theorem dX3_init_75 : decode cX3_init 75 = .ok (.newarray .int, 2) := by decide +kernel
theorem dX3_init_77 : decode cX3_init 77 = .ok (.putfield 36, 3) := by decide +kernel
theorem dX3_init_80 : decode cX3_init 80 = .ok (.return_, 1) := by decide +kernel
def g_LRounds : g_Lay := (10, fun id => [(.inl (2, [(2, 1), (2, 2), (2, 3), (2, 4), (2, 5), (2, 6), (2, 7), (2, 8), (2, 9)])), (.inr (0, 64, g_zf)), (.inr (0, 48, g_zf)), (.inr (0, 48, g_zf)), (.inr (0, 48, g_zf)), (.inr (0, 48, g_zf)), (.inr (0, 256, g_zf)), (.inr (0, 256, g_zf)), (.inr (0, 256, g_zf)), (.inr (0, 256, g_zf))].getD id (.inl (0, [])))
set_option maxHeartbeats 4000000 in
set_option maxRecDepth 20000 in
theorem ci_Rounds : g_Init g_LRounds g_mu0 (.inr (2, [.null, .null, .null, .null, .null, .null, .null, .null, .null])) yX3_init cX3_init 1 9 1280 := by
  intro l D sz h0
  refine Met.ofW (cc := cX3_init) (maxL := 1) (ret := none) (by decide +kernel) rfl ?_
  intro p e s m args below meth c s₁ B hml hv
  obtain ⟨rfl, hsz, hP, hK, hD0, hN⟩ := hv
  have hts := atoms_spec (ws := g_ws yX3_init cX3_init 1 none) B.pre
  have hts2 : ∀ w ∈ g_gw, w.before #[Value.ref h0] s = true := fun w hw => hts w (List.mem_cons_of_mem _ hw)
  have hown : s.vm.findClass RX3 = some m.cls := findClass_of_methodNamed B.named
  have hx := B.exec
  have hb := B.bytes
  have hr := B.returns
  have hlocks := B.notSynchronized
  have hin : meth.name = "<init>" := (name_of_methodNamed B.named B.method).1
  subst hsz
  have hD := hD0.self (sz := s.heap.size)
  generalize hAe : va_A [(h0, (.inr (2, [.null, .null, .null, .null, .null, .null, .null, .null, .null])))] s.heap.size = A at hD ⊢
  have hA : ∀ q : Nat, s.heap.size ≤ q → A q := fun q h => by rw [← hAe]; exact Or.inr h
  have hS : va_S A s.heap s.heap [] := va_S.rf
  have hP : va_P D g_cl [(h0, (.inr (2, [.null, .null, .null, .null, .null, .null, .null, .null, .null])))] s.heap := hP
  have hl := lv_entry ([Value.ref h0]) (n := 1) (Nat.le_of_ble_eq_true rfl)
  rw [show (#[Value.ref h0] : Array Value) = ([Value.ref h0] : List Value).toArray from rfl, lg_entry_eq]
  generalize (lg_sl ([Value.ref h0]) ++ List.replicate (1 - (lg_sl ([Value.ref h0])).length) Slot.unset).toArray = ls at hl ⊢
  have hl : lv_has ls 1 [(0, .ref h0)] := hl
  refine lv_aload_n hx hb dX3_init_0 rfl (lv_at hl 0 rfl) ?_
  refine W.objInit (cc := cX3_init) (own := RX3) (idx := 3) hx hb hown (hts2 _ (g_in2 (List.mem_of_getElem? (i := 36) rfl) rfl)) (hts2 _ g_oin) (hts2 _ g_oco) rfl (by rw [hml]; exact hl.1) rfl dX3_init_1 (by show 1 ≤ 20; omega) (Nat.le_of_ble_eq_true rfl) ?_
  refine W.eq (g2 := F0 m 4 ls []) rfl ?_
  refine lv_aload_n hx hb dX3_init_4 rfl (lv_at hl 0 rfl) ?_
  refine lv_bipush (v := 64) hx hb dX3_init_5 (by decide) ?_
  refine va_newa (atype := .int) (ty := .int) (N' := 64) (a0 := (64, .inl (fun _ => 0))) hx hb (hts2 _ g_awI) rfl hK hP hD hS hA (fun _ => rfl) (by decide) (by decide) (Nat.le_of_ble_eq_true rfl) (by show _ ≤ 9; omega) (by show _ ≤ 1280; omega) dX3_init_7 (fun q1 k1 H hK hP hD hS => ?_)
  have hP : va_P D g_cl [(h0, (.inr (2, [.null, .null, .null, .null, .null, .null, .null, .null, .null]))), (q1, .inl (k1, 64, .inl (fun _ => 0)))] H := hP
  have hD : va_D A [(h0, (.inr (2, [.null, .null, .null, .null, .null, .null, .null, .null, .null]))), (q1, .inl (k1, 64, .inl (fun _ => 0)))] := hD
  have hK : va_K D g_cl [(k1, .int)] s := hK
  refine va_putF (cc := cX3_init) (D := D) (ci := 2) (v := .ref q1) (ty := tyX3 0) (C := RX3) (T := TX3) (N := 9) hx hb hts2 cf_X3.2.1 tyX3 tyX3_ok nmX3 hown hK hP hD hS 0 rfl rfl 0 (Nat.le_of_ble_eq_true rfl) (hts2 _ (g_in2 (List.mem_of_getElem? (i := 37) rfl) rfl)) (fun _ h9 => h9) rfl hin rfl (tyX3_ok 0 (Nat.le_of_ble_eq_true rfl)) rfl rfl (Nat.le_of_ble_eq_true rfl) dX3_init_9 (fun H locs hP hD hS => ?_)
  have hP : va_P D g_cl [(h0, (.inr (2, [.ref q1, .null, .null, .null, .null, .null, .null, .null, .null]))), (q1, .inl (k1, 64, .inl (fun _ => 0)))] H := hP
  have hD : va_D A [(h0, (.inr (2, [.ref q1, .null, .null, .null, .null, .null, .null, .null, .null]))), (q1, .inl (k1, 64, .inl (fun _ => 0)))] := hD
  refine lv_aload_n hx hb dX3_init_12 rfl (lv_at hl 0 rfl) ?_
  refine lv_bipush (v := 48) hx hb dX3_init_13 (by decide) ?_
  refine va_newa (atype := .int) (ty := .int) (N' := 48) (a0 := (48, .inl (fun _ => 0))) hx hb (hts2 _ g_awI) rfl hK hP hD hS hA (fun _ => rfl) (by decide) (by decide) (Nat.le_of_ble_eq_true rfl) (by show _ ≤ 9; omega) (by show _ ≤ 1280; omega) dX3_init_15 (fun q2 k2 H hK hP hD hS => ?_)
  have hP : va_P D g_cl [(h0, (.inr (2, [.ref q1, .null, .null, .null, .null, .null, .null, .null, .null]))), (q1, .inl (k1, 64, .inl (fun _ => 0))), (q2, .inl (k2, 48, .inl (fun _ => 0)))] H := hP
  have hD : va_D A [(h0, (.inr (2, [.ref q1, .null, .null, .null, .null, .null, .null, .null, .null]))), (q1, .inl (k1, 64, .inl (fun _ => 0))), (q2, .inl (k2, 48, .inl (fun _ => 0)))] := hD
  have hK : va_K D g_cl [(k1, .int), (k2, .int)] s := hK
  refine va_putF (cc := cX3_init) (D := D) (ci := 2) (v := .ref q2) (ty := tyX3 1) (C := RX3) (T := TX3) (N := 9) hx hb hts2 cf_X3.2.1 tyX3 tyX3_ok nmX3 hown hK hP hD hS 0 rfl rfl 1 (Nat.le_of_ble_eq_true rfl) (hts2 _ (g_in2 (List.mem_of_getElem? (i := 38) rfl) rfl)) (fun _ h9 => h9) rfl hin rfl (tyX3_ok 1 (Nat.le_of_ble_eq_true rfl)) rfl rfl (Nat.le_of_ble_eq_true rfl) dX3_init_17 (fun H locs hP hD hS => ?_)
  have hP : va_P D g_cl [(h0, (.inr (2, [.ref q1, .ref q2, .null, .null, .null, .null, .null, .null, .null]))), (q1, .inl (k1, 64, .inl (fun _ => 0))), (q2, .inl (k2, 48, .inl (fun _ => 0)))] H := hP
  have hD : va_D A [(h0, (.inr (2, [.ref q1, .ref q2, .null, .null, .null, .null, .null, .null, .null]))), (q1, .inl (k1, 64, .inl (fun _ => 0))), (q2, .inl (k2, 48, .inl (fun _ => 0)))] := hD
  refine lv_aload_n hx hb dX3_init_20 rfl (lv_at hl 0 rfl) ?_
  refine lv_bipush (v := 48) hx hb dX3_init_21 (by decide) ?_
  refine va_newa (atype := .int) (ty := .int) (N' := 48) (a0 := (48, .inl (fun _ => 0))) hx hb (hts2 _ g_awI) rfl hK hP hD hS hA (fun _ => rfl) (by decide) (by decide) (Nat.le_of_ble_eq_true rfl) (by show _ ≤ 9; omega) (by show _ ≤ 1280; omega) dX3_init_23 (fun q3 k3 H hK hP hD hS => ?_)
  have hP : va_P D g_cl [(h0, (.inr (2, [.ref q1, .ref q2, .null, .null, .null, .null, .null, .null, .null]))), (q1, .inl (k1, 64, .inl (fun _ => 0))), (q2, .inl (k2, 48, .inl (fun _ => 0))), (q3, .inl (k3, 48, .inl (fun _ => 0)))] H := hP
  have hD : va_D A [(h0, (.inr (2, [.ref q1, .ref q2, .null, .null, .null, .null, .null, .null, .null]))), (q1, .inl (k1, 64, .inl (fun _ => 0))), (q2, .inl (k2, 48, .inl (fun _ => 0))), (q3, .inl (k3, 48, .inl (fun _ => 0)))] := hD
  have hK : va_K D g_cl [(k1, .int), (k2, .int), (k3, .int)] s := hK
  refine va_putF (cc := cX3_init) (D := D) (ci := 2) (v := .ref q3) (ty := tyX3 2) (C := RX3) (T := TX3) (N := 9) hx hb hts2 cf_X3.2.1 tyX3 tyX3_ok nmX3 hown hK hP hD hS 0 rfl rfl 2 (Nat.le_of_ble_eq_true rfl) (hts2 _ (g_in2 (List.mem_of_getElem? (i := 39) rfl) rfl)) (fun _ h9 => h9) rfl hin rfl (tyX3_ok 2 (Nat.le_of_ble_eq_true rfl)) rfl rfl (Nat.le_of_ble_eq_true rfl) dX3_init_25 (fun H locs hP hD hS => ?_)
  have hP : va_P D g_cl [(h0, (.inr (2, [.ref q1, .ref q2, .ref q3, .null, .null, .null, .null, .null, .null]))), (q1, .inl (k1, 64, .inl (fun _ => 0))), (q2, .inl (k2, 48, .inl (fun _ => 0))), (q3, .inl (k3, 48, .inl (fun _ => 0)))] H := hP
  have hD : va_D A [(h0, (.inr (2, [.ref q1, .ref q2, .ref q3, .null, .null, .null, .null, .null, .null]))), (q1, .inl (k1, 64, .inl (fun _ => 0))), (q2, .inl (k2, 48, .inl (fun _ => 0))), (q3, .inl (k3, 48, .inl (fun _ => 0)))] := hD
  refine lv_aload_n hx hb dX3_init_28 rfl (lv_at hl 0 rfl) ?_
  refine lv_bipush (v := 48) hx hb dX3_init_29 (by decide) ?_
  refine va_newa (atype := .int) (ty := .int) (N' := 48) (a0 := (48, .inl (fun _ => 0))) hx hb (hts2 _ g_awI) rfl hK hP hD hS hA (fun _ => rfl) (by decide) (by decide) (Nat.le_of_ble_eq_true rfl) (by show _ ≤ 9; omega) (by show _ ≤ 1280; omega) dX3_init_31 (fun q4 k4 H hK hP hD hS => ?_)
  have hP : va_P D g_cl [(h0, (.inr (2, [.ref q1, .ref q2, .ref q3, .null, .null, .null, .null, .null, .null]))), (q1, .inl (k1, 64, .inl (fun _ => 0))), (q2, .inl (k2, 48, .inl (fun _ => 0))), (q3, .inl (k3, 48, .inl (fun _ => 0))), (q4, .inl (k4, 48, .inl (fun _ => 0)))] H := hP
  have hD : va_D A [(h0, (.inr (2, [.ref q1, .ref q2, .ref q3, .null, .null, .null, .null, .null, .null]))), (q1, .inl (k1, 64, .inl (fun _ => 0))), (q2, .inl (k2, 48, .inl (fun _ => 0))), (q3, .inl (k3, 48, .inl (fun _ => 0))), (q4, .inl (k4, 48, .inl (fun _ => 0)))] := hD
  have hK : va_K D g_cl [(k1, .int), (k2, .int), (k3, .int), (k4, .int)] s := hK
  refine va_putF (cc := cX3_init) (D := D) (ci := 2) (v := .ref q4) (ty := tyX3 3) (C := RX3) (T := TX3) (N := 9) hx hb hts2 cf_X3.2.1 tyX3 tyX3_ok nmX3 hown hK hP hD hS 0 rfl rfl 3 (Nat.le_of_ble_eq_true rfl) (hts2 _ (g_in2 (List.mem_of_getElem? (i := 40) rfl) rfl)) (fun _ h9 => h9) rfl hin rfl (tyX3_ok 3 (Nat.le_of_ble_eq_true rfl)) rfl rfl (Nat.le_of_ble_eq_true rfl) dX3_init_33 (fun H locs hP hD hS => ?_)
  have hP : va_P D g_cl [(h0, (.inr (2, [.ref q1, .ref q2, .ref q3, .ref q4, .null, .null, .null, .null, .null]))), (q1, .inl (k1, 64, .inl (fun _ => 0))), (q2, .inl (k2, 48, .inl (fun _ => 0))), (q3, .inl (k3, 48, .inl (fun _ => 0))), (q4, .inl (k4, 48, .inl (fun _ => 0)))] H := hP
  have hD : va_D A [(h0, (.inr (2, [.ref q1, .ref q2, .ref q3, .ref q4, .null, .null, .null, .null, .null]))), (q1, .inl (k1, 64, .inl (fun _ => 0))), (q2, .inl (k2, 48, .inl (fun _ => 0))), (q3, .inl (k3, 48, .inl (fun _ => 0))), (q4, .inl (k4, 48, .inl (fun _ => 0)))] := hD
  refine lv_aload_n hx hb dX3_init_36 rfl (lv_at hl 0 rfl) ?_
  refine lv_bipush (v := 48) hx hb dX3_init_37 (by decide) ?_
  refine va_newa (atype := .int) (ty := .int) (N' := 48) (a0 := (48, .inl (fun _ => 0))) hx hb (hts2 _ g_awI) rfl hK hP hD hS hA (fun _ => rfl) (by decide) (by decide) (Nat.le_of_ble_eq_true rfl) (by show _ ≤ 9; omega) (by show _ ≤ 1280; omega) dX3_init_39 (fun q5 k5 H hK hP hD hS => ?_)
  have hP : va_P D g_cl [(h0, (.inr (2, [.ref q1, .ref q2, .ref q3, .ref q4, .null, .null, .null, .null, .null]))), (q1, .inl (k1, 64, .inl (fun _ => 0))), (q2, .inl (k2, 48, .inl (fun _ => 0))), (q3, .inl (k3, 48, .inl (fun _ => 0))), (q4, .inl (k4, 48, .inl (fun _ => 0))), (q5, .inl (k5, 48, .inl (fun _ => 0)))] H := hP
  have hD : va_D A [(h0, (.inr (2, [.ref q1, .ref q2, .ref q3, .ref q4, .null, .null, .null, .null, .null]))), (q1, .inl (k1, 64, .inl (fun _ => 0))), (q2, .inl (k2, 48, .inl (fun _ => 0))), (q3, .inl (k3, 48, .inl (fun _ => 0))), (q4, .inl (k4, 48, .inl (fun _ => 0))), (q5, .inl (k5, 48, .inl (fun _ => 0)))] := hD
  have hK : va_K D g_cl [(k1, .int), (k2, .int), (k3, .int), (k4, .int), (k5, .int)] s := hK
  refine va_putF (cc := cX3_init) (D := D) (ci := 2) (v := .ref q5) (ty := tyX3 4) (C := RX3) (T := TX3) (N := 9) hx hb hts2 cf_X3.2.1 tyX3 tyX3_ok nmX3 hown hK hP hD hS 0 rfl rfl 4 (Nat.le_of_ble_eq_true rfl) (hts2 _ (g_in2 (List.mem_of_getElem? (i := 41) rfl) rfl)) (fun _ h9 => h9) rfl hin rfl (tyX3_ok 4 (Nat.le_of_ble_eq_true rfl)) rfl rfl (Nat.le_of_ble_eq_true rfl) dX3_init_41 (fun H locs hP hD hS => ?_)
  have hP : va_P D g_cl [(h0, (.inr (2, [.ref q1, .ref q2, .ref q3, .ref q4, .ref q5, .null, .null, .null, .null]))), (q1, .inl (k1, 64, .inl (fun _ => 0))), (q2, .inl (k2, 48, .inl (fun _ => 0))), (q3, .inl (k3, 48, .inl (fun _ => 0))), (q4, .inl (k4, 48, .inl (fun _ => 0))), (q5, .inl (k5, 48, .inl (fun _ => 0)))] H := hP
  have hD : va_D A [(h0, (.inr (2, [.ref q1, .ref q2, .ref q3, .ref q4, .ref q5, .null, .null, .null, .null]))), (q1, .inl (k1, 64, .inl (fun _ => 0))), (q2, .inl (k2, 48, .inl (fun _ => 0))), (q3, .inl (k3, 48, .inl (fun _ => 0))), (q4, .inl (k4, 48, .inl (fun _ => 0))), (q5, .inl (k5, 48, .inl (fun _ => 0)))] := hD
  refine lv_aload_n hx hb dX3_init_44 rfl (lv_at hl 0 rfl) ?_
  refine lv_sipush (v := 256) hx hb dX3_init_45 (by decide) ?_
  refine va_newa (atype := .int) (ty := .int) (N' := 256) (a0 := (256, .inl (fun _ => 0))) hx hb (hts2 _ g_awI) rfl hK hP hD hS hA (fun _ => rfl) (by decide) (by decide) (Nat.le_of_ble_eq_true rfl) (by show _ ≤ 9; omega) (by show _ ≤ 1280; omega) dX3_init_48 (fun q6 k6 H hK hP hD hS => ?_)
  have hP : va_P D g_cl [(h0, (.inr (2, [.ref q1, .ref q2, .ref q3, .ref q4, .ref q5, .null, .null, .null, .null]))), (q1, .inl (k1, 64, .inl (fun _ => 0))), (q2, .inl (k2, 48, .inl (fun _ => 0))), (q3, .inl (k3, 48, .inl (fun _ => 0))), (q4, .inl (k4, 48, .inl (fun _ => 0))), (q5, .inl (k5, 48, .inl (fun _ => 0))), (q6, .inl (k6, 256, .inl (fun _ => 0)))] H := hP
  have hD : va_D A [(h0, (.inr (2, [.ref q1, .ref q2, .ref q3, .ref q4, .ref q5, .null, .null, .null, .null]))), (q1, .inl (k1, 64, .inl (fun _ => 0))), (q2, .inl (k2, 48, .inl (fun _ => 0))), (q3, .inl (k3, 48, .inl (fun _ => 0))), (q4, .inl (k4, 48, .inl (fun _ => 0))), (q5, .inl (k5, 48, .inl (fun _ => 0))), (q6, .inl (k6, 256, .inl (fun _ => 0)))] := hD
  have hK : va_K D g_cl [(k1, .int), (k2, .int), (k3, .int), (k4, .int), (k5, .int), (k6, .int)] s := hK
  refine va_putF (cc := cX3_init) (D := D) (ci := 2) (v := .ref q6) (ty := tyX3 5) (C := RX3) (T := TX3) (N := 9) hx hb hts2 cf_X3.2.1 tyX3 tyX3_ok nmX3 hown hK hP hD hS 0 rfl rfl 5 (Nat.le_of_ble_eq_true rfl) (hts2 _ (g_in2 (List.mem_of_getElem? (i := 42) rfl) rfl)) (fun _ h9 => h9) rfl hin rfl (tyX3_ok 5 (Nat.le_of_ble_eq_true rfl)) rfl rfl (Nat.le_of_ble_eq_true rfl) dX3_init_50 (fun H locs hP hD hS => ?_)
  have hP : va_P D g_cl [(h0, (.inr (2, [.ref q1, .ref q2, .ref q3, .ref q4, .ref q5, .ref q6, .null, .null, .null]))), (q1, .inl (k1, 64, .inl (fun _ => 0))), (q2, .inl (k2, 48, .inl (fun _ => 0))), (q3, .inl (k3, 48, .inl (fun _ => 0))), (q4, .inl (k4, 48, .inl (fun _ => 0))), (q5, .inl (k5, 48, .inl (fun _ => 0))), (q6, .inl (k6, 256, .inl (fun _ => 0)))] H := hP
  have hD : va_D A [(h0, (.inr (2, [.ref q1, .ref q2, .ref q3, .ref q4, .ref q5, .ref q6, .null, .null, .null]))), (q1, .inl (k1, 64, .inl (fun _ => 0))), (q2, .inl (k2, 48, .inl (fun _ => 0))), (q3, .inl (k3, 48, .inl (fun _ => 0))), (q4, .inl (k4, 48, .inl (fun _ => 0))), (q5, .inl (k5, 48, .inl (fun _ => 0))), (q6, .inl (k6, 256, .inl (fun _ => 0)))] := hD
  refine lv_aload_n hx hb dX3_init_53 rfl (lv_at hl 0 rfl) ?_
  refine lv_sipush (v := 256) hx hb dX3_init_54 (by decide) ?_
  refine va_newa (atype := .int) (ty := .int) (N' := 256) (a0 := (256, .inl (fun _ => 0))) hx hb (hts2 _ g_awI) rfl hK hP hD hS hA (fun _ => rfl) (by decide) (by decide) (Nat.le_of_ble_eq_true rfl) (by show _ ≤ 9; omega) (by show _ ≤ 1280; omega) dX3_init_57 (fun q7 k7 H hK hP hD hS => ?_)
  have hP : va_P D g_cl [(h0, (.inr (2, [.ref q1, .ref q2, .ref q3, .ref q4, .ref q5, .ref q6, .null, .null, .null]))), (q1, .inl (k1, 64, .inl (fun _ => 0))), (q2, .inl (k2, 48, .inl (fun _ => 0))), (q3, .inl (k3, 48, .inl (fun _ => 0))), (q4, .inl (k4, 48, .inl (fun _ => 0))), (q5, .inl (k5, 48, .inl (fun _ => 0))), (q6, .inl (k6, 256, .inl (fun _ => 0))), (q7, .inl (k7, 256, .inl (fun _ => 0)))] H := hP
  have hD : va_D A [(h0, (.inr (2, [.ref q1, .ref q2, .ref q3, .ref q4, .ref q5, .ref q6, .null, .null, .null]))), (q1, .inl (k1, 64, .inl (fun _ => 0))), (q2, .inl (k2, 48, .inl (fun _ => 0))), (q3, .inl (k3, 48, .inl (fun _ => 0))), (q4, .inl (k4, 48, .inl (fun _ => 0))), (q5, .inl (k5, 48, .inl (fun _ => 0))), (q6, .inl (k6, 256, .inl (fun _ => 0))), (q7, .inl (k7, 256, .inl (fun _ => 0)))] := hD
  have hK : va_K D g_cl [(k1, .int), (k2, .int), (k3, .int), (k4, .int), (k5, .int), (k6, .int), (k7, .int)] s := hK
  refine va_putF (cc := cX3_init) (D := D) (ci := 2) (v := .ref q7) (ty := tyX3 6) (C := RX3) (T := TX3) (N := 9) hx hb hts2 cf_X3.2.1 tyX3 tyX3_ok nmX3 hown hK hP hD hS 0 rfl rfl 6 (Nat.le_of_ble_eq_true rfl) (hts2 _ (g_in2 (List.mem_of_getElem? (i := 44) rfl) rfl)) (fun _ h9 => h9) rfl hin rfl (tyX3_ok 6 (Nat.le_of_ble_eq_true rfl)) rfl rfl (Nat.le_of_ble_eq_true rfl) dX3_init_59 (fun H locs hP hD hS => ?_)
  have hP : va_P D g_cl [(h0, (.inr (2, [.ref q1, .ref q2, .ref q3, .ref q4, .ref q5, .ref q6, .ref q7, .null, .null]))), (q1, .inl (k1, 64, .inl (fun _ => 0))), (q2, .inl (k2, 48, .inl (fun _ => 0))), (q3, .inl (k3, 48, .inl (fun _ => 0))), (q4, .inl (k4, 48, .inl (fun _ => 0))), (q5, .inl (k5, 48, .inl (fun _ => 0))), (q6, .inl (k6, 256, .inl (fun _ => 0))), (q7, .inl (k7, 256, .inl (fun _ => 0)))] H := hP
  have hD : va_D A [(h0, (.inr (2, [.ref q1, .ref q2, .ref q3, .ref q4, .ref q5, .ref q6, .ref q7, .null, .null]))), (q1, .inl (k1, 64, .inl (fun _ => 0))), (q2, .inl (k2, 48, .inl (fun _ => 0))), (q3, .inl (k3, 48, .inl (fun _ => 0))), (q4, .inl (k4, 48, .inl (fun _ => 0))), (q5, .inl (k5, 48, .inl (fun _ => 0))), (q6, .inl (k6, 256, .inl (fun _ => 0))), (q7, .inl (k7, 256, .inl (fun _ => 0)))] := hD
  refine lv_aload_n hx hb dX3_init_62 rfl (lv_at hl 0 rfl) ?_
  refine lv_sipush (v := 256) hx hb dX3_init_63 (by decide) ?_
  refine va_newa (atype := .int) (ty := .int) (N' := 256) (a0 := (256, .inl (fun _ => 0))) hx hb (hts2 _ g_awI) rfl hK hP hD hS hA (fun _ => rfl) (by decide) (by decide) (Nat.le_of_ble_eq_true rfl) (by show _ ≤ 9; omega) (by show _ ≤ 1280; omega) dX3_init_66 (fun q8 k8 H hK hP hD hS => ?_)
  have hP : va_P D g_cl [(h0, (.inr (2, [.ref q1, .ref q2, .ref q3, .ref q4, .ref q5, .ref q6, .ref q7, .null, .null]))), (q1, .inl (k1, 64, .inl (fun _ => 0))), (q2, .inl (k2, 48, .inl (fun _ => 0))), (q3, .inl (k3, 48, .inl (fun _ => 0))), (q4, .inl (k4, 48, .inl (fun _ => 0))), (q5, .inl (k5, 48, .inl (fun _ => 0))), (q6, .inl (k6, 256, .inl (fun _ => 0))), (q7, .inl (k7, 256, .inl (fun _ => 0))), (q8, .inl (k8, 256, .inl (fun _ => 0)))] H := hP
  have hD : va_D A [(h0, (.inr (2, [.ref q1, .ref q2, .ref q3, .ref q4, .ref q5, .ref q6, .ref q7, .null, .null]))), (q1, .inl (k1, 64, .inl (fun _ => 0))), (q2, .inl (k2, 48, .inl (fun _ => 0))), (q3, .inl (k3, 48, .inl (fun _ => 0))), (q4, .inl (k4, 48, .inl (fun _ => 0))), (q5, .inl (k5, 48, .inl (fun _ => 0))), (q6, .inl (k6, 256, .inl (fun _ => 0))), (q7, .inl (k7, 256, .inl (fun _ => 0))), (q8, .inl (k8, 256, .inl (fun _ => 0)))] := hD
  have hK : va_K D g_cl [(k1, .int), (k2, .int), (k3, .int), (k4, .int), (k5, .int), (k6, .int), (k7, .int), (k8, .int)] s := hK
  refine va_putF (cc := cX3_init) (D := D) (ci := 2) (v := .ref q8) (ty := tyX3 7) (C := RX3) (T := TX3) (N := 9) hx hb hts2 cf_X3.2.1 tyX3 tyX3_ok nmX3 hown hK hP hD hS 0 rfl rfl 7 (Nat.le_of_ble_eq_true rfl) (hts2 _ (g_in2 (List.mem_of_getElem? (i := 46) rfl) rfl)) (fun _ h9 => h9) rfl hin rfl (tyX3_ok 7 (Nat.le_of_ble_eq_true rfl)) rfl rfl (Nat.le_of_ble_eq_true rfl) dX3_init_68 (fun H locs hP hD hS => ?_)
  have hP : va_P D g_cl [(h0, (.inr (2, [.ref q1, .ref q2, .ref q3, .ref q4, .ref q5, .ref q6, .ref q7, .ref q8, .null]))), (q1, .inl (k1, 64, .inl (fun _ => 0))), (q2, .inl (k2, 48, .inl (fun _ => 0))), (q3, .inl (k3, 48, .inl (fun _ => 0))), (q4, .inl (k4, 48, .inl (fun _ => 0))), (q5, .inl (k5, 48, .inl (fun _ => 0))), (q6, .inl (k6, 256, .inl (fun _ => 0))), (q7, .inl (k7, 256, .inl (fun _ => 0))), (q8, .inl (k8, 256, .inl (fun _ => 0)))] H := hP
  have hD : va_D A [(h0, (.inr (2, [.ref q1, .ref q2, .ref q3, .ref q4, .ref q5, .ref q6, .ref q7, .ref q8, .null]))), (q1, .inl (k1, 64, .inl (fun _ => 0))), (q2, .inl (k2, 48, .inl (fun _ => 0))), (q3, .inl (k3, 48, .inl (fun _ => 0))), (q4, .inl (k4, 48, .inl (fun _ => 0))), (q5, .inl (k5, 48, .inl (fun _ => 0))), (q6, .inl (k6, 256, .inl (fun _ => 0))), (q7, .inl (k7, 256, .inl (fun _ => 0))), (q8, .inl (k8, 256, .inl (fun _ => 0)))] := hD
  refine lv_aload_n hx hb dX3_init_71 rfl (lv_at hl 0 rfl) ?_
  refine lv_sipush (v := 256) hx hb dX3_init_72 (by decide) ?_
  refine va_newa (atype := .int) (ty := .int) (N' := 256) (a0 := (256, .inl (fun _ => 0))) hx hb (hts2 _ g_awI) rfl hK hP hD hS hA (fun _ => rfl) (by decide) (by decide) (Nat.le_of_ble_eq_true rfl) (by show _ ≤ 9; omega) (by show _ ≤ 1280; omega) dX3_init_75 (fun q9 k9 H hK hP hD hS => ?_)
  have hP : va_P D g_cl [(h0, (.inr (2, [.ref q1, .ref q2, .ref q3, .ref q4, .ref q5, .ref q6, .ref q7, .ref q8, .null]))), (q1, .inl (k1, 64, .inl (fun _ => 0))), (q2, .inl (k2, 48, .inl (fun _ => 0))), (q3, .inl (k3, 48, .inl (fun _ => 0))), (q4, .inl (k4, 48, .inl (fun _ => 0))), (q5, .inl (k5, 48, .inl (fun _ => 0))), (q6, .inl (k6, 256, .inl (fun _ => 0))), (q7, .inl (k7, 256, .inl (fun _ => 0))), (q8, .inl (k8, 256, .inl (fun _ => 0))), (q9, .inl (k9, 256, .inl (fun _ => 0)))] H := hP
  have hD : va_D A [(h0, (.inr (2, [.ref q1, .ref q2, .ref q3, .ref q4, .ref q5, .ref q6, .ref q7, .ref q8, .null]))), (q1, .inl (k1, 64, .inl (fun _ => 0))), (q2, .inl (k2, 48, .inl (fun _ => 0))), (q3, .inl (k3, 48, .inl (fun _ => 0))), (q4, .inl (k4, 48, .inl (fun _ => 0))), (q5, .inl (k5, 48, .inl (fun _ => 0))), (q6, .inl (k6, 256, .inl (fun _ => 0))), (q7, .inl (k7, 256, .inl (fun _ => 0))), (q8, .inl (k8, 256, .inl (fun _ => 0))), (q9, .inl (k9, 256, .inl (fun _ => 0)))] := hD
  have hK : va_K D g_cl [(k1, .int), (k2, .int), (k3, .int), (k4, .int), (k5, .int), (k6, .int), (k7, .int), (k8, .int), (k9, .int)] s := hK
  refine va_putF (cc := cX3_init) (D := D) (ci := 2) (v := .ref q9) (ty := tyX3 8) (C := RX3) (T := TX3) (N := 9) hx hb hts2 cf_X3.2.1 tyX3 tyX3_ok nmX3 hown hK hP hD hS 0 rfl rfl 8 (Nat.le_of_ble_eq_true rfl) (hts2 _ (g_in2 (List.mem_of_getElem? (i := 48) rfl) rfl)) (fun _ h9 => h9) rfl hin rfl (tyX3_ok 8 (Nat.le_of_ble_eq_true rfl)) rfl rfl (Nat.le_of_ble_eq_true rfl) dX3_init_77 (fun H locs hP hD hS => ?_)
  have hP : va_P D g_cl [(h0, (.inr (2, [.ref q1, .ref q2, .ref q3, .ref q4, .ref q5, .ref q6, .ref q7, .ref q8, .ref q9]))), (q1, .inl (k1, 64, .inl (fun _ => 0))), (q2, .inl (k2, 48, .inl (fun _ => 0))), (q3, .inl (k3, 48, .inl (fun _ => 0))), (q4, .inl (k4, 48, .inl (fun _ => 0))), (q5, .inl (k5, 48, .inl (fun _ => 0))), (q6, .inl (k6, 256, .inl (fun _ => 0))), (q7, .inl (k7, 256, .inl (fun _ => 0))), (q8, .inl (k8, 256, .inl (fun _ => 0))), (q9, .inl (k9, 256, .inl (fun _ => 0)))] H := hP
  have hD : va_D A [(h0, (.inr (2, [.ref q1, .ref q2, .ref q3, .ref q4, .ref q5, .ref q6, .ref q7, .ref q8, .ref q9]))), (q1, .inl (k1, 64, .inl (fun _ => 0))), (q2, .inl (k2, 48, .inl (fun _ => 0))), (q3, .inl (k3, 48, .inl (fun _ => 0))), (q4, .inl (k4, 48, .inl (fun _ => 0))), (q5, .inl (k5, 48, .inl (fun _ => 0))), (q6, .inl (k6, 256, .inl (fun _ => 0))), (q7, .inl (k7, 256, .inl (fun _ => 0))), (q8, .inl (k8, 256, .inl (fun _ => 0))), (q9, .inl (k9, 256, .inl (fun _ => 0)))] := hD
  refine W.widen (k := 9) (n := 1280) (by omega) (by omega) ?_
  exact W.vret (cc := cX3_init) hx hb hr (fun t ht hW => ⟨rfl, ⟨fun i => [h0, q1, q2, q3, q4, q5, q6, q7, q8, q9].getD i 0, fun i => [0, k1, k2, k3, k4, k5, k6, k7, k8, k9].getD i 0, [(k1, .int), (k2, .int), (k3, .int), (k4, .int), (k5, .int), (k6, .int), (k7, .int), (k8, .int), (k9, .int)], rfl, fun id hid ty n rf h => (match id, hid, h with
      | 0, _, h => (by cases h)
      | 1, _, h => (by cases h; exact ⟨0, rfl⟩)
      | 2, _, h => (by cases h; exact ⟨1, rfl⟩)
      | 3, _, h => (by cases h; exact ⟨2, rfl⟩)
      | 4, _, h => (by cases h; exact ⟨3, rfl⟩)
      | 5, _, h => (by cases h; exact ⟨4, rfl⟩)
      | 6, _, h => (by cases h; exact ⟨5, rfl⟩)
      | 7, _, h => (by cases h; exact ⟨6, rfl⟩)
      | 8, _, h => (by cases h; exact ⟨7, rfl⟩)
      | 9, _, h => (by cases h; exact ⟨8, rfl⟩)
      | k + 10, hk, _ => absurd hk (by show ¬ k + 10 < 10; omega)), va_K.moved hW.alike hK, (by rw [ht]; exact hP), hD⟩, hS.F ht⟩) hS.2.2 dX3_init_80 hlocks
theorem dX9_init_0 : decode cX9_init 0 = .ok (.aload_n 0, 1) := by decide +kernel
theorem dX9_init_1 : decode cX9_init 1 = .ok (.invokespecial 1, 3) := by decide +kernel
theorem dX9_init_4 : decode cX9_init 4 = .ok (.aload_n 0, 1) := by decide +kernel
theorem dX9_init_5 : decode cX9_init 5 = .ok (.sipush 1000, 3) := by decide +kernel
theorem dX9_init_8 : decode cX9_init 8 = .ok (.newarray .int, 2) := by decide +kernel
theorem dX9_init_10 : decode cX9_init 10 = .ok (.putfield 7, 3) := by decide +kernel
theorem dX9_init_13 : decode cX9_init 13 = .ok (.aload_n 0, 1) := by decide +kernel
theorem dX9_init_14 : decode cX9_init 14 = .ok (.iconst 2, 1) := by decide +kernel
theorem dX9_init_15 : decode cX9_init 15 = .ok (.newarray .int, 2) := by decide +kernel
theorem dX9_init_17 : decode cX9_init 17 = .ok (.putfield 13, 3) := by decide +kernel
theorem dX9_init_20 : decode cX9_init 20 = .ok (.aload_n 0, 1) := by decide +kernel
theorem dX9_init_21 : decode cX9_init 21 = .ok (.iconst 2, 1) := by decide +kernel
theorem dX9_init_22 : decode cX9_init 22 = .ok (.newarray .int, 2) := by decide +kernel
theorem dX9_init_24 : decode cX9_init 24 = .ok (.putfield 16, 3) := by decide +kernel
theorem dX9_init_27 : decode cX9_init 27 = .ok (.aload_n 0, 1) := by decide +kernel
theorem dX9_init_28 : decode cX9_init 28 = .ok (.iconst 2, 1) := by decide +kernel
theorem dX9_init_29 : decode cX9_init 29 = .ok (.newarray .int, 2) := by decide +kernel
theorem dX9_init_31 : decode cX9_init 31 = .ok (.putfield 19, 3) := by decide +kernel
theorem dX9_init_34 : decode cX9_init 34 = .ok (.aload_n 0, 1) := by decide +kernel
theorem dX9_init_35 : decode cX9_init 35 = .ok (.bipush 10, 2) := by decide +kernel
theorem dX9_init_37 : decode cX9_init 37 = .ok (.newarray .long, 2) := by decide +kernel
theorem dX9_init_39 : decode cX9_init 39 = .ok (.putfield 22, 3) := by decide +kernel
theorem dX9_init_42 : decode cX9_init 42 = .ok (.aload_n 0, 1) := by decide +kernel
theorem dX9_init_43 : decode cX9_init 43 = .ok (.bipush 12, 2) := by decide +kernel
theorem dX9_init_45 : decode cX9_init 45 = .ok (.newarray .long, 2) := by decide +kernel
theorem dX9_init_47 : decode cX9_init 47 = .ok (.putfield 26, 3) := by decide +kernel
theorem dX9_init_50 : decode cX9_init 50 = .ok (.aload_n 0, 1) := by decide +kernel
theorem dX9_init_51 : decode cX9_init 51 = .ok (.bipush 16, 2) := by decide +kernel
theorem dX9_init_53 : decode cX9_init 53 = .ok (.newarray .long, 2) := by decide +kernel
theorem dX9_init_55 : decode cX9_init 55 = .ok (.putfield 29, 3) := by decide +kernel
theorem dX9_init_58 : decode cX9_init 58 = .ok (.aload_n 0, 1) := by decide +kernel
theorem dX9_init_59 : decode cX9_init 59 = .ok (.bipush 50, 2) := by decide +kernel
theorem dX9_init_61 : decode cX9_init 61 = .ok (.newarray .int, 2) := by decide +kernel
theorem dX9_init_63 : decode cX9_init 63 = .ok (.putfield 32, 3) := by decide +kernel
theorem dX9_init_66 : decode cX9_init 66 = .ok (.aload_n 0, 1) := by decide +kernel
theorem dX9_init_67 : decode cX9_init 67 = .ok (.bipush 12, 2) := by decide +kernel
theorem dX9_init_69 : decode cX9_init 69 = .ok (.newarray .int, 2) := by decide +kernel
theorem dX9_init_71 : decode cX9_init 71 = .ok (.putfield 35, 3) := by decide +kernel
theorem dX9_init_74 : decode cX9_init 74 = .ok (.aload_n 0, 1) := by decide +kernel
theorem dX9_init_75 : decode cX9_init 75 = .ok (.bipush 12, 2) := by decide +kernel
theorem dX9_init_77 : decode cX9_init 77 = .ok (.newarray .int, 2) := by decide +kernel
theorem dX9_init_79 : decode cX9_init 79 = .ok (.putfield 38, 3) := by decide +kernel
theorem dX9_init_82 : decode cX9_init 82 = .ok (.aload_n 0, 1) := by decide +kernel
theorem dX9_init_83 : decode cX9_init 83 = .ok (.bipush 16, 2) := by decide +kernel
theorem dX9_init_85 : decode cX9_init 85 = .ok (.newarray .int, 2) := by decide +kernel
theorem dX9_init_87 : decode cX9_init 87 = .ok (.putfield 41, 3) := by decide +kernel
theorem dX9_init_90 : decode cX9_init 90 = .ok (.aload_n 0, 1) := by decide +kernel
theorem dX9_init_91 : decode cX9_init 91 = .ok (.bipush 16, 2) := by decide +kernel
theorem dX9_init_93 : decode cX9_init 93 = .ok (.newarray .int, 2) := by decide +kernel
theorem dX9_init_95 : decode cX9_init 95 = .ok (.putfield 44, 3) := by decide +kernel
theorem dX9_init_98 : decode cX9_init 98 = .ok (.aload_n 0, 1) := by decide +kernel
theorem dX9_init_99 : decode cX9_init 99 = .ok (.sipush 288, 3) := by decide +kernel
theorem dX9_init_102 : decode cX9_init 102 = .ok (.newarray .int, 2) := by decide +kernel
theorem dX9_init_104 : decode cX9_init 104 = .ok (.putfield 47, 3) := by decide +kernel
theorem dX9_init_107 : decode cX9_init 107 = .ok (.aload_n 0, 1) := by decide +kernel
theorem dX9_init_108 : decode cX9_init 108 = .ok (.bipush 12, 2) := by decide +kernel
theorem dX9_init_110 : decode cX9_init 110 = .ok (.newarray .int, 2) := by decide +kernel
theorem dX9_init_112 : decode cX9_init 112 = .ok (.putfield 50, 3) := by decide +kernel
theorem dX9_init_115 : decode cX9_init 115 = .ok (.aload_n 0, 1) := by decide +kernel
theorem dX9_init_116 : decode cX9_init 116 = .ok (.bipush 12, 2) := by decide +kernel
theorem dX9_init_118 : decode cX9_init 118 = .ok (.newarray .int, 2) := by decide +kernel
theorem dX9_init_120 : decode cX9_init 120 = .ok (.putfield 53, 3) := by decide +kernel
theorem dX9_init_123 : decode cX9_init 123 = .ok (.aload_n 0, 1) := by decide +kernel
theorem dX9_init_124 : decode cX9_init 124 = .ok (.sipush 2000, 3) := by decide +kernel
theorem dX9_init_127 : decode cX9_init 127 = .ok (.newarray .int, 2) := by decide +kernel
theorem dX9_init_129 : decode cX9_init 129 = .ok (.putfield 56, 3) := by decide +kernel
theorem dX9_init_132 : decode cX9_init 132 = .ok (.aload_n 0, 1) := by decide +kernel
theorem dX9_init_133 : decode cX9_init 133 = .ok (.bipush 7, 2) := by decide +kernel
theorem dX9_init_135 : decode cX9_init 135 = .ok (.newarray .int, 2) := by decide +kernel
theorem dX9_init_137 : decode cX9_init 137 = .ok (.putfield 59, 3) := by decide +kernel
theorem dX9_init_140 : decode cX9_init 140 = .ok (.aload_n 0, 1) := by decide +kernel
theorem dX9_init_141 : decode cX9_init 141 = .ok (.bipush 7, 2) := by decide +kernel
theorem dX9_init_143 : decode cX9_init 143 = .ok (.newarray .boolean, 2) := by decide +kernel
theorem dX9_init_145 : decode cX9_init 145 = .ok (.putfield 62, 3) := by decide +kernel
theorem dX9_init_148 : decode cX9_init 148 = .ok (.aload_n 0, 1) := by decide +kernel
theorem dX9_init_149 : decode cX9_init 149 = .ok (.bipush 7, 2) := by decide +kernel
theorem dX9_init_151 : decode cX9_init 151 = .ok (.newarray .int, 2) := by decide +kernel
theorem dX9_init_153 : decode cX9_init 153 = .ok (.putfield 66, 3) := by decide +kernel
theorem dX9_init_156 : decode cX9_init 156 = .ok (.aload_n 0, 1) := by decide +kernel
theorem dX9_init_157 : decode cX9_init 157 = .ok (.bipush 7, 2) := by decide +kernel
theorem dX9_init_159 : decode cX9_init 159 = .ok (.newarray .int, 2) := by decide +kernel
theorem dX9_init_161 : decode cX9_init 161 = .ok (.putfield 69, 3) := by decide +kernel
theorem dX9_init_164 : decode cX9_init 164 = .ok (.aload_n 0, 1) := by decide +kernel
theorem dX9_init_165 : decode cX9_init 165 = .ok (.bipush 7, 2) := by decide +kernel
theorem dX9_init_167 : decode cX9_init 167 = .ok (.newarray .int, 2) := by decide +kernel
theorem dX9_init_169 : decode cX9_init 169 = .ok (.putfield 72, 3) := by decide +kernel
theorem dX9_init_172 : decode cX9_init 172 = .ok (.aload_n 0, 1) := by decide +kernel
theorem dX9_init_173 : decode cX9_init 173 = .ok (.bipush 7, 2) := by decide +kernel
theorem dX9_init_175 : decode cX9_init 175 = .ok (.newarray .int, 2) := by decide +kernel
theorem dX9_init_177 : decode cX9_init 177 = .ok (.putfield 75, 3) := by decide +kernel
theorem dX9_init_180 : decode cX9_init 180 = .ok (.aload_n 0, 1) := by decide +kernel
theorem dX9_init_181 : decode cX9_init 181 = .ok (.bipush 7, 2) := by decide +kernel
theorem dX9_init_183 : decode cX9_init 183 = .ok (.newarray .int, 2) := by decide +kernel
theorem dX9_init_185 : decode cX9_init 185 = .ok (.putfield 78, 3) := by decide +kernel
theorem dX9_init_188 : decode cX9_init 188 = .ok (.aload_n 0, 1) := by decide +kernel
theorem dX9_init_189 : decode cX9_init 189 = .ok (.bipush 7, 2) := by decide +kernel
theorem dX9_init_191 : decode cX9_init 191 = .ok (.newarray .int, 2) := by decide +kernel
theorem dX9_init_193 : decode cX9_init 193 = .ok (.putfield 81, 3) := by decide +kernel
theorem dX9_init_196 : decode cX9_init 196 = .ok (.aload_n 0, 1) := by decide +kernel
theorem dX9_init_197 : decode cX9_init 197 = .ok (.bipush 7, 2) := by decide +kernel
theorem dX9_init_199 : decode cX9_init 199 = .ok (.newarray .int, 2) := by decide +kernel
theorem dX9_init_201 : decode cX9_init 201 = .ok (.putfield 84, 3) := by decide +kernel
theorem dX9_init_204 : decode cX9_init 204 = .ok (.aload_n 0, 1) := by decide +kernel
theorem dX9_init_205 : decode cX9_init 205 = .ok (.bipush 7, 2) := by decide +kernel
theorem dX9_init_207 : decode cX9_init 207 = .ok (.newarray .int, 2) := by decide +kernel
theorem dX9_init_209 : decode cX9_init 209 = .ok (.putfield 87, 3) := by decide +kernel
theorem dX9_init_212 : decode cX9_init 212 = .ok (.aload_n 0, 1) := by decide +kernel
theorem dX9_init_213 : decode cX9_init 213 = .ok (.bipush 7, 2) := by decide +kernel
theorem dX9_init_215 : decode cX9_init 215 = .ok (.newarray .int, 2) := by decide +kernel
theorem dX9_init_217 : decode cX9_init 217 = .ok (.putfield 90, 3) := by decide +kernel
theorem dX9_init_220 : decode cX9_init 220 = .ok (.aload_n 0, 1) := by decide +kernel
theorem dX9_init_221 : decode cX9_init 221 = .ok (.bipush 20, 2) := by decide +kernel
theorem dX9_init_223 : decode cX9_init 223 = .ok (.newarray .int, 2) := by decide +kernel
theorem dX9_init_225 : decode cX9_init 225 = .ok (.putfield 93, 3) := by decide +kernel
theorem dX9_init_228 : decode cX9_init 228 = .ok (.aload_n 0, 1) := by decide +kernel
theorem dX9_init_229 : decode cX9_init 229 = .ok (.bipush 40, 2) := by decide +kernel
theorem dX9_init_231 : decode cX9_init 231 = .ok (.newarray .int, 2) := by decide +kernel
theorem dX9_init_233 : decode cX9_init 233 = .ok (.putfield 96, 3) := by decide +kernel
theorem dX9_init_236 : decode cX9_init 236 = .ok (.aload_n 0, 1) := by decide +kernel
theorem dX9_init_237 : decode cX9_init 237 = .ok (.bipush 40, 2) := by decide +kernel
theorem dX9_init_239 : decode cX9_init 239 = .ok (.newarray .int, 2) := by decide +kernel
theorem dX9_init_241 : decode cX9_init 241 = .ok (.putfield 99, 3) := by decide +kernel
theorem dX9_init_244 : decode cX9_init 244 = .ok (.aload_n 0, 1) := by decide +kernel
theorem dX9_init_245 : decode cX9_init 245 = .ok (.bipush 40, 2) := by decide +kernel
theorem dX9_init_247 : decode cX9_init 247 = .ok (.newarray .int, 2) := by decide +kernel
theorem dX9_init_249 : decode cX9_init 249 = .ok (.putfield 102, 3) := by decide +kernel
theorem dX9_init_252 : decode cX9_init 252 = .ok (.aload_n 0, 1) := by decide +kernel
theorem dX9_init_253 : decode cX9_init 253 = .ok (.bipush 40, 2) := by decide +kernel
theorem dX9_init_255 : decode cX9_init 255 = .ok (.newarray .int, 2) := by decide +kernel
theorem dX9_init_257 : decode cX9_init 257 = .ok (.putfield 105, 3) := by decide +kernel
theorem dX9_init_260 : decode cX9_init 260 = .ok (.aload_n 0, 1) := by decide +kernel
theorem dX9_init_261 : decode cX9_init 261 = .ok (.bipush 40, 2) := by decide +kernel
theorem dX9_init_263 : decode cX9_init 263 = .ok (.newarray .int, 2) := by decide +kernel
theorem dX9_init_265 : decode cX9_init 265 = .ok (.putfield 108, 3) := by decide +kernel
theorem dX9_init_268 : decode cX9_init 268 = .ok (.aload_n 0, 1) := by decide +kernel
theorem dX9_init_269 : decode cX9_init 269 = .ok (.bipush 8, 2) := by decide +kernel
theorem dX9_init_271 : decode cX9_init 271 = .ok (.newarray .int, 2) := by decide +kernel
theorem dX9_init_273 : decode cX9_init 273 = .ok (.putfield 111, 3) := by decide +kernel
theorem dX9_init_276 : decode cX9_init 276 = .ok (.aload_n 0, 1) := by decide +kernel
theorem dX9_init_277 : decode cX9_init 277 = .ok (.bipush 8, 2) := by decide +kernel
theorem dX9_init_279 : decode cX9_init 279 = .ok (.newarray .int, 2) := by decide +kernel
theorem dX9_init_281 : decode cX9_init 281 = .ok (.putfield 114, 3) := by decide +kernel
theorem dX9_init_284 : decode cX9_init 284 = .ok (.aload_n 0, 1) := by decide +kernel
theorem dX9_init_285 : decode cX9_init 285 = .ok (.bipush 6, 2) := by decide +kernel
theorem dX9_init_287 : decode cX9_init 287 = .ok (.newarray .boolean, 2) := by decide +kernel
theorem dX9_init_289 : decode cX9_init 289 = .ok (.putfield 117, 3) := by decide +kernel
theorem dX9_init_292 : decode cX9_init 292 = .ok (.aload_n 0, 1) := by decide +kernel
theorem dX9_init_293 : decode cX9_init 293 = .ok (.bipush 48, 2) := by decide +kernel
theorem dX9_init_295 : decode cX9_init 295 = .ok (.newarray .int, 2) := by decide +kernel
theorem dX9_init_297 : decode cX9_init 297 = .ok (.putfield 120, 3) := by decide +kernel
theorem dX9_init_300 : decode cX9_init 300 = .ok (.aload_n 0, 1) := by decide +kernel
theorem dX9_init_301 : decode cX9_init 301 = .ok (.sipush 384, 3) := by decide +kernel
theorem dX9_init_304 : decode cX9_init 304 = .ok (.newarray .boolean, 2) := by decide +kernel
theorem dX9_init_306 : decode cX9_init 306 = .ok (.putfield 123, 3) := by decide +kernel
theorem dX9_init_309 : decode cX9_init 309 = .ok (.aload_n 0, 1) := by decide +kernel
theorem dX9_init_310 : decode cX9_init 310 = .ok (.sipush 256, 3) := by decide +kernel
theorem dX9_init_313 : decode cX9_init 313 = .ok (.newarray .int, 2) := by decide +kernel
theorem dX9_init_315 : decode cX9_init 315 = .ok (.putfield 126, 3) := by decide +kernel
theorem dX9_init_318 : decode cX9_init 318 = .ok (.aload_n 0, 1) := by decide +kernel
theorem dX9_init_319 : decode cX9_init 319 = .ok (.iconst 5, 1) := by decide +kernel
theorem dX9_init_320 : decode cX9_init 320 = .ok (.newarray .int, 2) := by decide +kernel
theorem dX9_init_322 : decode cX9_init 322 = .ok (.putfield 129, 3) := by decide +kernel
theorem dX9_init_325 : decode cX9_init 325 = .ok (.aload_n 0, 1) := by decide +kernel
theorem dX9_init_326 : decode cX9_init 326 = .ok (.sipush 216, 3) := by decide +kernel
theorem dX9_init_329 : decode cX9_init 329 = .ok (.newarray .int, 2) := by decide +kernel
theorem dX9_init_331 : decode cX9_init 331 = .ok (.putfield 132, 3) := by decide +kernel
theorem dX9_init_334 : decode cX9_init 334 = .ok (.aload_n 0, 1) := by decide +kernel
theorem dX9_init_335 : decode cX9_init 335 = .ok (.sipush 256, 3) := by decide +kernel
theorem dX9_init_338 : decode cX9_init 338 = .ok (.newarray .int, 2) := by decide +kernel
theorem dX9_init_340 : decode cX9_init 340 = .ok (.putfield 135, 3) := by decide +kernel
theorem dX9_init_343 : decode cX9_init 343 = .ok (.aload_n 0, 1) := by decide +kernel
theorem dX9_init_344 : decode cX9_init 344 = .ok (.sipush 256, 3) := by decide +kernel
theorem dX9_init_347 : decode cX9_init 347 = .ok (.newarray .int, 2) := by decide +kernel
theorem dX9_init_349 : decode cX9_init 349 = .ok (.putfield 138, 3) := by decide +kernel
theorem dX9_init_352 : decode cX9_init 352 = .ok (.aload_n 0, 1) := by decide +kernel
theorem dX9_init_353 : decode cX9_init 353 = .ok (.sipush 256, 3) := by decide +kernel
theorem dX9_init_356 : decode cX9_init 356 = .ok (.newarray .int, 2) := by decide +kernel
theorem dX9_init_358 : decode cX9_init 358 = .ok (.putfield 141, 3) := by decide +kernel
theorem dX9_init_361 : decode cX9_init 361 = .ok (.aload_n 0, 1) := by decide +kernel
theorem dX9_init_362 : decode cX9_init 362 = .ok (.sipush 1536, 3) := by decide +kernel
theorem dX9_init_365 : decode cX9_init 365 = .ok (.newarray .int, 2) := by decide +kernel
theorem dX9_init_367 : decode cX9_init 367 = .ok (.putfield 144, 3) := by decide +kernel
theorem dX9_init_370 : decode cX9_init 370 = .ok (.aload_n 0, 1) := by decide +kernel
theorem dX9_init_371 : decode cX9_init 371 = .ok (.bipush 8, 2) := by decide +kernel
theorem dX9_init_373 : decode cX9_init 373 = .ok (.newarray .int, 2) := by decide +kernel
theorem dX9_init_375 : decode cX9_init 375 = .ok (.putfield 147, 3) := by decide +kernel
theorem dX9_init_378 : decode cX9_init 378 = .ok (.aload_n 0, 1) := by decide +kernel
theorem dX9_init_379 : decode cX9_init 379 = .ok (.iconst 4, 1) := by decide +kernel
theorem dX9_init_380 : decode cX9_init 380 = .ok (.newarray .boolean, 2) := by decide +kernel
theorem dX9_init_382 : decode cX9_init 382 = .ok (.putfield 150, 3) := by decide +kernel
theorem dX9_init_385 : decode cX9_init 385 = .ok (.aload_n 0, 1) := by decide +kernel
theorem dX9_init_386 : decode cX9_init 386 = .ok (.sipush 1000, 3) := by decide +kernel
theorem dX9_init_389 : decode cX9_init 389 = .ok (.newarray .int, 2) := by decide +kernel
theorem dX9_init_391 : decode cX9_init 391 = .ok (.putfield 153, 3) := by decide +kernel
theorem dX9_init_394 : decode cX9_init 394 = .ok (.return_, 1) := by decide +kernel
def g_LModel : g_Lay := (49, fun id => [(.inl (7, [(0, 0), (0, 0), (2, 1), (0, 0), (0, 0), (0, 0), (0, 0), (1, 0), (0, 0), (0, 0), (2, 2), (2, 3), (2, 4), (2, 5), (2, 6), (2, 7), (2, 8), (2, 9), (2, 10), (2, 11), (2, 12), (2, 13), (0, 0), (2, 14), (2, 15), (2, 16), (0, 0), (2, 17), (2, 18), (2, 19), (2, 20), (2, 21), (2, 22), (2, 23), (2, 24), (2, 25), (2, 26), (2, 27), (2, 28), (0, 0), (2, 29), (2, 30), (2, 31), (2, 32), (2, 33), (2, 34), (2, 35), (2, 36), (2, 37), (2, 38), (2, 39), (2, 40), (2, 41), (2, 42), (2, 43), (2, 44), (2, 45), (0, 0), (2, 46), (1, 0), (2, 47), (2, 48)])), (.inr (0, 1000, g_zf)), (.inr (0, 2, g_zf)), (.inr (0, 2, g_zf)), (.inr (0, 2, g_zf)), (.inr (1, 10, g_zf)), (.inr (1, 12, g_zf)), (.inr (1, 16, g_zf)), (.inr (0, 50, g_zf)), (.inr (0, 12, g_zf)), (.inr (0, 12, g_zf)), (.inr (0, 16, g_zf)), (.inr (0, 16, g_zf)), (.inr (0, 288, g_zf)), (.inr (0, 12, g_zf)), (.inr (0, 12, g_zf)), (.inr (0, 2000, g_zf)), (.inr (0, 7, g_zf)), (.inr (3, 7, g_zf)), (.inr (0, 7, g_zf)), (.inr (0, 7, g_zf)), (.inr (0, 7, g_zf)), (.inr (0, 7, g_zf)), (.inr (0, 7, g_zf)), (.inr (0, 7, g_zf)), (.inr (0, 7, g_zf)), (.inr (0, 7, g_zf)), (.inr (0, 7, g_zf)), (.inr (0, 20, g_zf)), (.inr (0, 40, g_zf)), (.inr (0, 40, g_zf)), (.inr (0, 40, g_zf)), (.inr (0, 40, g_zf)), (.inr (0, 40, g_zf)), (.inr (0, 8, g_zf)), (.inr (0, 8, g_zf)), (.inr (3, 6, g_zf)), (.inr (0, 48, g_zf)), (.inr (3, 384, g_zf)), (.inr (0, 256, g_zf)), (.inr (0, 5, g_zf)), (.inr (0, 216, g_zf)), (.inr (0, 256, g_zf)), (.inr (0, 256, g_zf)), (.inr (0, 256, g_zf)), (.inr (0, 1536, g_zf)), (.inr (0, 8, g_zf)), (.inr (3, 4, g_zf)), (.inr (0, 1000, g_zf))].getD id (.inl (0, [])))
set_option maxRecDepth 100000 in
set_option maxHeartbeats 4000000 in
theorem ct_Model (k1 k2 k3 k4 k5 k6 k7 k8 k9 k10 k11 k12 k13 k14 k15 k16 k17 k18 k19 k20 k21 k22 k23 k24 k25 k26 k27 k28 k29 k30 k31 k32 k33 k34 k35 k36 k37 k38 k39 k40 k41 k42 k43 k44 k45 k46 k47 k48 : ClassId) : g_Ty g_LModel ((((((((((((((((((((((((((((((((((((((((((((((((([] : List (ClassId × FieldType)) ++ [(k1, .int)]) ++ [(k2, .int)]) ++ [(k3, .int)]) ++ [(k4, .int)]) ++ [(k5, .long)]) ++ [(k6, .long)]) ++ [(k7, .long)]) ++ [(k8, .int)]) ++ [(k9, .int)]) ++ [(k10, .int)]) ++ [(k11, .int)]) ++ [(k12, .int)]) ++ [(k13, .int)]) ++ [(k14, .int)]) ++ [(k15, .int)]) ++ [(k16, .int)]) ++ [(k17, .int)]) ++ [(k18, .boolean)]) ++ [(k19, .int)]) ++ [(k20, .int)]) ++ [(k21, .int)]) ++ [(k22, .int)]) ++ [(k23, .int)]) ++ [(k24, .int)]) ++ [(k25, .int)]) ++ [(k26, .int)]) ++ [(k27, .int)]) ++ [(k28, .int)]) ++ [(k29, .int)]) ++ [(k30, .int)]) ++ [(k31, .int)]) ++ [(k32, .int)]) ++ [(k33, .int)]) ++ [(k34, .int)]) ++ [(k35, .int)]) ++ [(k36, .boolean)]) ++ [(k37, .int)]) ++ [(k38, .boolean)]) ++ [(k39, .int)]) ++ [(k40, .int)]) ++ [(k41, .int)]) ++ [(k42, .int)]) ++ [(k43, .int)]) ++ [(k44, .int)]) ++ [(k45, .int)]) ++ [(k46, .int)]) ++ [(k47, .boolean)]) ++ [(k48, .int)]) (fun i => [0, k1, k2, k3, k4, k5, k6, k7, k8, k9, k10, k11, k12, k13, k14, k15, k16, k17, k18, k19, k20, k21, k22, k23, k24, k25, k26, k27, k28, k29, k30, k31, k32, k33, k34, k35, k36, k37, k38, k39, k40, k41, k42, k43, k44, k45, k46, k47, k48].getD i 0) := fun id hid ty n rf h => match id, hid, h with
  | 0, _, h => (by cases h)
  | 1, _, h => (by cases h; exact ⟨0, rfl⟩)
  | 2, _, h => (by cases h; exact ⟨1, rfl⟩)
  | 3, _, h => (by cases h; exact ⟨2, rfl⟩)
  | 4, _, h => (by cases h; exact ⟨3, rfl⟩)
  | 5, _, h => (by cases h; exact ⟨4, rfl⟩)
  | 6, _, h => (by cases h; exact ⟨5, rfl⟩)
  | 7, _, h => (by cases h; exact ⟨6, rfl⟩)
  | 8, _, h => (by cases h; exact ⟨7, rfl⟩)
  | 9, _, h => (by cases h; exact ⟨8, rfl⟩)
  | 10, _, h => (by cases h; exact ⟨9, rfl⟩)
  | 11, _, h => (by cases h; exact ⟨10, rfl⟩)
  | 12, _, h => (by cases h; exact ⟨11, rfl⟩)
  | 13, _, h => (by cases h; exact ⟨12, rfl⟩)
  | 14, _, h => (by cases h; exact ⟨13, rfl⟩)
  | 15, _, h => (by cases h; exact ⟨14, rfl⟩)
  | 16, _, h => (by cases h; exact ⟨15, rfl⟩)
  | 17, _, h => (by cases h; exact ⟨16, rfl⟩)
  | 18, _, h => (by cases h; exact ⟨17, rfl⟩)
  | 19, _, h => (by cases h; exact ⟨18, rfl⟩)
  | 20, _, h => (by cases h; exact ⟨19, rfl⟩)
  | 21, _, h => (by cases h; exact ⟨20, rfl⟩)
  | 22, _, h => (by cases h; exact ⟨21, rfl⟩)
  | 23, _, h => (by cases h; exact ⟨22, rfl⟩)
  | 24, _, h => (by cases h; exact ⟨23, rfl⟩)
  | 25, _, h => (by cases h; exact ⟨24, rfl⟩)
  | 26, _, h => (by cases h; exact ⟨25, rfl⟩)
  | 27, _, h => (by cases h; exact ⟨26, rfl⟩)
  | 28, _, h => (by cases h; exact ⟨27, rfl⟩)
  | 29, _, h => (by cases h; exact ⟨28, rfl⟩)
  | 30, _, h => (by cases h; exact ⟨29, rfl⟩)
  | 31, _, h => (by cases h; exact ⟨30, rfl⟩)
  | 32, _, h => (by cases h; exact ⟨31, rfl⟩)
  | 33, _, h => (by cases h; exact ⟨32, rfl⟩)
  | 34, _, h => (by cases h; exact ⟨33, rfl⟩)
  | 35, _, h => (by cases h; exact ⟨34, rfl⟩)
  | 36, _, h => (by cases h; exact ⟨35, rfl⟩)
  | 37, _, h => (by cases h; exact ⟨36, rfl⟩)
  | 38, _, h => (by cases h; exact ⟨37, rfl⟩)
  | 39, _, h => (by cases h; exact ⟨38, rfl⟩)
  | 40, _, h => (by cases h; exact ⟨39, rfl⟩)
  | 41, _, h => (by cases h; exact ⟨40, rfl⟩)
  | 42, _, h => (by cases h; exact ⟨41, rfl⟩)
  | 43, _, h => (by cases h; exact ⟨42, rfl⟩)
  | 44, _, h => (by cases h; exact ⟨43, rfl⟩)
  | 45, _, h => (by cases h; exact ⟨44, rfl⟩)
  | 46, _, h => (by cases h; exact ⟨45, rfl⟩)
  | 47, _, h => (by cases h; exact ⟨46, rfl⟩)
  | 48, _, h => (by cases h; exact ⟨47, rfl⟩)
  | k + 49, hk, _ => absurd hk (by show ¬ k + 49 < 49; omega)
set_option maxRecDepth 100000 in
set_option maxHeartbeats 4000000 in
theorem cw_Model (h0 q1 q2 q3 q4 q5 q6 q7 q8 q9 q10 q11 q12 q13 q14 q15 q16 q17 q18 q19 q20 q21 q22 q23 q24 q25 q26 q27 q28 q29 q30 q31 q32 q33 q34 q35 q36 q37 q38 q39 q40 q41 q42 q43 q44 q45 q46 q47 q48 : Nat) (k1 k2 k3 k4 k5 k6 k7 k8 k9 k10 k11 k12 k13 k14 k15 k16 k17 k18 k19 k20 k21 k22 k23 k24 k25 k26 k27 k28 k29 k30 k31 k32 k33 k34 k35 k36 k37 k38 k39 k40 k41 k42 k43 k44 k45 k46 k47 k48 : ClassId) : g_wW (fun i => [h0, q1, q2, q3, q4, q5, q6, q7, q8, q9, q10, q11, q12, q13, q14, q15, q16, q17, q18, q19, q20, q21, q22, q23, q24, q25, q26, q27, q28, q29, q30, q31, q32, q33, q34, q35, q36, q37, q38, q39, q40, q41, q42, q43, q44, q45, q46, q47, q48].getD i 0) (fun i => [0, k1, k2, k3, k4, k5, k6, k7, k8, k9, k10, k11, k12, k13, k14, k15, k16, k17, k18, k19, k20, k21, k22, k23, k24, k25, k26, k27, k28, k29, k30, k31, k32, k33, k34, k35, k36, k37, k38, k39, k40, k41, k42, k43, k44, k45, k46, k47, k48].getD i 0) g_LModel g_mu0 = (h0, .inr (7, (List.set (List.set (List.set (List.set (List.set (List.set (List.set (List.set (List.set (List.set (List.set (List.set (List.set (List.set (List.set (List.set (List.set (List.set (List.set (List.set (List.set (List.set (List.set (List.set (List.set (List.set (List.set (List.set (List.set (List.set (List.set (List.set (List.set (List.set (List.set (List.set (List.set (List.set (List.set (List.set (List.set (List.set (List.set (List.set (List.set (List.set (List.set (List.set [.int 0, .int 0, .null, .int 0, .int 0, .int 0, .int 0, .long 0, .int 0, .int 0, .null, .null, .null, .null, .null, .null, .null, .null, .null, .null, .null, .null, .int 0, .null, .null, .null, .int 0, .null, .null, .null, .null, .null, .null, .null, .null, .null, .null, .null, .null, .int 0, .null, .null, .null, .null, .null, .null, .null, .null, .null, .null, .null, .null, .null, .null, .null, .null, .null, .int 0, .null, .long 0, .null, .null] 2 (.ref q1)) 10 (.ref q2)) 11 (.ref q3)) 12 (.ref q4)) 13 (.ref q5)) 14 (.ref q6)) 15 (.ref q7)) 16 (.ref q8)) 17 (.ref q9)) 18 (.ref q10)) 19 (.ref q11)) 20 (.ref q12)) 21 (.ref q13)) 23 (.ref q14)) 24 (.ref q15)) 25 (.ref q16)) 27 (.ref q17)) 28 (.ref q18)) 29 (.ref q19)) 30 (.ref q20)) 31 (.ref q21)) 32 (.ref q22)) 33 (.ref q23)) 34 (.ref q24)) 35 (.ref q25)) 36 (.ref q26)) 37 (.ref q27)) 38 (.ref q28)) 40 (.ref q29)) 41 (.ref q30)) 42 (.ref q31)) 43 (.ref q32)) 44 (.ref q33)) 45 (.ref q34)) 46 (.ref q35)) 47 (.ref q36)) 48 (.ref q37)) 49 (.ref q38)) 50 (.ref q39)) 51 (.ref q40)) 52 (.ref q41)) 53 (.ref q42)) 54 (.ref q43)) 55 (.ref q44)) 56 (.ref q45)) 58 (.ref q46)) 60 (.ref q47)) 61 (.ref q48)))) :: ((((((((((((((((((((((((((((((((((((((((((((((((([] : va_W) ++ [(q1, .inl (k1, (1000, .inl (fun _ => 0))))]) ++ [(q2, .inl (k2, (2, .inl (fun _ => 0))))]) ++ [(q3, .inl (k3, (2, .inl (fun _ => 0))))]) ++ [(q4, .inl (k4, (2, .inl (fun _ => 0))))]) ++ [(q5, .inl (k5, (10, .inr (.inl (fun _ => 0)))))]) ++ [(q6, .inl (k6, (12, .inr (.inl (fun _ => 0)))))]) ++ [(q7, .inl (k7, (16, .inr (.inl (fun _ => 0)))))]) ++ [(q8, .inl (k8, (50, .inl (fun _ => 0))))]) ++ [(q9, .inl (k9, (12, .inl (fun _ => 0))))]) ++ [(q10, .inl (k10, (12, .inl (fun _ => 0))))]) ++ [(q11, .inl (k11, (16, .inl (fun _ => 0))))]) ++ [(q12, .inl (k12, (16, .inl (fun _ => 0))))]) ++ [(q13, .inl (k13, (288, .inl (fun _ => 0))))]) ++ [(q14, .inl (k14, (12, .inl (fun _ => 0))))]) ++ [(q15, .inl (k15, (12, .inl (fun _ => 0))))]) ++ [(q16, .inl (k16, (2000, .inl (fun _ => 0))))]) ++ [(q17, .inl (k17, (7, .inl (fun _ => 0))))]) ++ [(q18, .inl (k18, (7, .inl (fun _ => 0))))]) ++ [(q19, .inl (k19, (7, .inl (fun _ => 0))))]) ++ [(q20, .inl (k20, (7, .inl (fun _ => 0))))]) ++ [(q21, .inl (k21, (7, .inl (fun _ => 0))))]) ++ [(q22, .inl (k22, (7, .inl (fun _ => 0))))]) ++ [(q23, .inl (k23, (7, .inl (fun _ => 0))))]) ++ [(q24, .inl (k24, (7, .inl (fun _ => 0))))]) ++ [(q25, .inl (k25, (7, .inl (fun _ => 0))))]) ++ [(q26, .inl (k26, (7, .inl (fun _ => 0))))]) ++ [(q27, .inl (k27, (7, .inl (fun _ => 0))))]) ++ [(q28, .inl (k28, (20, .inl (fun _ => 0))))]) ++ [(q29, .inl (k29, (40, .inl (fun _ => 0))))]) ++ [(q30, .inl (k30, (40, .inl (fun _ => 0))))]) ++ [(q31, .inl (k31, (40, .inl (fun _ => 0))))]) ++ [(q32, .inl (k32, (40, .inl (fun _ => 0))))]) ++ [(q33, .inl (k33, (40, .inl (fun _ => 0))))]) ++ [(q34, .inl (k34, (8, .inl (fun _ => 0))))]) ++ [(q35, .inl (k35, (8, .inl (fun _ => 0))))]) ++ [(q36, .inl (k36, (6, .inl (fun _ => 0))))]) ++ [(q37, .inl (k37, (48, .inl (fun _ => 0))))]) ++ [(q38, .inl (k38, (384, .inl (fun _ => 0))))]) ++ [(q39, .inl (k39, (256, .inl (fun _ => 0))))]) ++ [(q40, .inl (k40, (5, .inl (fun _ => 0))))]) ++ [(q41, .inl (k41, (216, .inl (fun _ => 0))))]) ++ [(q42, .inl (k42, (256, .inl (fun _ => 0))))]) ++ [(q43, .inl (k43, (256, .inl (fun _ => 0))))]) ++ [(q44, .inl (k44, (256, .inl (fun _ => 0))))]) ++ [(q45, .inl (k45, (1536, .inl (fun _ => 0))))]) ++ [(q46, .inl (k46, (8, .inl (fun _ => 0))))]) ++ [(q47, .inl (k47, (4, .inl (fun _ => 0))))]) ++ [(q48, .inl (k48, (1000, .inl (fun _ => 0))))]) := rfl
set_option maxHeartbeats 4000000 in
set_option maxRecDepth 20000 in
theorem ci_Model : g_Init g_LModel g_mu0 (.inr (7, [.int 0, .int 0, .null, .int 0, .int 0, .int 0, .int 0, .long 0, .int 0, .int 0, .null, .null, .null, .null, .null, .null, .null, .null, .null, .null, .null, .null, .int 0, .null, .null, .null, .int 0, .null, .null, .null, .null, .null, .null, .null, .null, .null, .null, .null, .null, .int 0, .null, .null, .null, .null, .null, .null, .null, .null, .null, .null, .null, .null, .null, .null, .null, .null, .null, .int 0, .null, .long 0, .null, .null])) yX9_init cX9_init 1 48 8006 := by
  intro l D sz h0
  refine Met.ofW (cc := cX9_init) (maxL := 1) (ret := none) (by decide +kernel) rfl ?_
  intro p e s m args below meth c s₁ B hml hv
  obtain ⟨rfl, hsz, hP, hK, hD0, hN⟩ := hv
  have hts := atoms_spec (ws := g_ws yX9_init cX9_init 1 none) B.pre
  have hts2 : ∀ w ∈ g_gw, w.before #[Value.ref h0] s = true := fun w hw => hts w (List.mem_cons_of_mem _ hw)
  have hown : s.vm.findClass RX9 = some m.cls := findClass_of_methodNamed B.named
  have hx := B.exec
  have hb := B.bytes
  have hr := B.returns
  have hlocks := B.notSynchronized
  have hin : meth.name = "<init>" := (name_of_methodNamed B.named B.method).1
  subst hsz
  have hD := hD0.self (sz := s.heap.size)
  generalize hAe : va_A [(h0, (.inr (7, [.int 0, .int 0, .null, .int 0, .int 0, .int 0, .int 0, .long 0, .int 0, .int 0, .null, .null, .null, .null, .null, .null, .null, .null, .null, .null, .null, .null, .int 0, .null, .null, .null, .int 0, .null, .null, .null, .null, .null, .null, .null, .null, .null, .null, .null, .null, .int 0, .null, .null, .null, .null, .null, .null, .null, .null, .null, .null, .null, .null, .null, .null, .null, .null, .null, .int 0, .null, .long 0, .null, .null])))] s.heap.size = A at hD ⊢
  have hA : ∀ q : Nat, s.heap.size ≤ q → A q := fun q h => by rw [← hAe]; exact Or.inr h
  have hS : va_S A s.heap s.heap [] := va_S.rf
  have hf : ([.int 0, .int 0, .null, .int 0, .int 0, .int 0, .int 0, .long 0, .int 0, .int 0, .null, .null, .null, .null, .null, .null, .null, .null, .null, .null, .null, .null, .int 0, .null, .null, .null, .int 0, .null, .null, .null, .null, .null, .null, .null, .null, .null, .null, .null, .null, .int 0, .null, .null, .null, .null, .null, .null, .null, .null, .null, .null, .null, .null, .null, .null, .null, .null, .null, .int 0, .null, .long 0, .null, .null] : List Value).length = 62 := rfl
  have hl := lv_entry ([Value.ref h0]) (n := 1) (Nat.le_of_ble_eq_true rfl)
  rw [show (#[Value.ref h0] : Array Value) = ([Value.ref h0] : List Value).toArray from rfl, lg_entry_eq]
  generalize (lg_sl ([Value.ref h0]) ++ List.replicate (1 - (lg_sl ([Value.ref h0])).length) Slot.unset).toArray = ls at hl ⊢
  have hl : lv_has ls 1 [(0, .ref h0)] := hl
  refine lv_aload_n hx hb dX9_init_0 rfl (lv_at hl 0 rfl) ?_
  refine W.objInit (cc := cX9_init) (own := RX9) (idx := 1) hx hb hown (hts2 _ (g_in5 (List.mem_of_getElem? (i := 131) rfl) rfl)) (hts2 _ g_oin) (hts2 _ g_oco) rfl (by rw [hml]; exact hl.1) rfl dX9_init_1 (by show 1 ≤ 20; omega) (Nat.le_of_ble_eq_true rfl) ?_
  refine W.eq (g2 := F0 m 4 ls []) rfl ?_
  refine lv_aload_n hx hb dX9_init_4 rfl (lv_at hl 0 rfl) ?_
  refine lv_sipush (v := 1000) hx hb dX9_init_5 (by decide) ?_
  refine ci_np (cc := cX9_init) (ci := 7) (C := RX9) (T := TX9) (N := 62) (atype := .int) (ty := .int) (N' := 1000) (a0 := (1000, .inl (fun _ => 0))) hx hb hts2 cf_X9.2.1 tyX9 tyX9_ok nmX9 rfl hown hin hA hf hK hP hD hS g_awI rfl (fun _ => rfl) (by decide) (by decide) (Nat.le_of_ble_eq_true rfl) (Nat.le_of_ble_eq_true rfl) (Nat.le_of_ble_eq_true rfl) dX9_init_8 2 (Nat.le_of_ble_eq_true rfl) (g_in5 (List.mem_of_getElem? (i := 134) rfl) rfl) (fun _ h9 => h9) rfl rfl (fun _ => rfl) (fun _ => rfl) dX9_init_10 (fun q1 k1 H locs hf hK hP hD hS => ?_)
  refine lv_aload_n hx hb dX9_init_13 rfl (lv_at hl 0 rfl) ?_
  refine lv_iconst (v := 2) hx hb dX9_init_14 (by decide) ?_
  refine ci_np (cc := cX9_init) (ci := 7) (C := RX9) (T := TX9) (N := 62) (atype := .int) (ty := .int) (N' := 2) (a0 := (2, .inl (fun _ => 0))) hx hb hts2 cf_X9.2.1 tyX9 tyX9_ok nmX9 rfl hown hin hA hf hK hP hD hS g_awI rfl (fun _ => rfl) (by decide) (by decide) (Nat.le_of_ble_eq_true rfl) (Nat.le_of_ble_eq_true rfl) (Nat.le_of_ble_eq_true rfl) dX9_init_15 10 (Nat.le_of_ble_eq_true rfl) (g_in5 (List.mem_of_getElem? (i := 142) rfl) rfl) (fun _ h9 => h9) rfl rfl (fun _ => rfl) (fun _ => rfl) dX9_init_17 (fun q2 k2 H locs hf hK hP hD hS => ?_)
  refine lv_aload_n hx hb dX9_init_20 rfl (lv_at hl 0 rfl) ?_
  refine lv_iconst (v := 2) hx hb dX9_init_21 (by decide) ?_
  refine ci_np (cc := cX9_init) (ci := 7) (C := RX9) (T := TX9) (N := 62) (atype := .int) (ty := .int) (N' := 2) (a0 := (2, .inl (fun _ => 0))) hx hb hts2 cf_X9.2.1 tyX9 tyX9_ok nmX9 rfl hown hin hA hf hK hP hD hS g_awI rfl (fun _ => rfl) (by decide) (by decide) (Nat.le_of_ble_eq_true rfl) (Nat.le_of_ble_eq_true rfl) (Nat.le_of_ble_eq_true rfl) dX9_init_22 11 (Nat.le_of_ble_eq_true rfl) (g_in5 (List.mem_of_getElem? (i := 143) rfl) rfl) (fun _ h9 => h9) rfl rfl (fun _ => rfl) (fun _ => rfl) dX9_init_24 (fun q3 k3 H locs hf hK hP hD hS => ?_)
  refine lv_aload_n hx hb dX9_init_27 rfl (lv_at hl 0 rfl) ?_
  refine lv_iconst (v := 2) hx hb dX9_init_28 (by decide) ?_
  refine ci_np (cc := cX9_init) (ci := 7) (C := RX9) (T := TX9) (N := 62) (atype := .int) (ty := .int) (N' := 2) (a0 := (2, .inl (fun _ => 0))) hx hb hts2 cf_X9.2.1 tyX9 tyX9_ok nmX9 rfl hown hin hA hf hK hP hD hS g_awI rfl (fun _ => rfl) (by decide) (by decide) (Nat.le_of_ble_eq_true rfl) (Nat.le_of_ble_eq_true rfl) (Nat.le_of_ble_eq_true rfl) dX9_init_29 12 (Nat.le_of_ble_eq_true rfl) (g_in5 (List.mem_of_getElem? (i := 144) rfl) rfl) (fun _ h9 => h9) rfl rfl (fun _ => rfl) (fun _ => rfl) dX9_init_31 (fun q4 k4 H locs hf hK hP hD hS => ?_)
  refine lv_aload_n hx hb dX9_init_34 rfl (lv_at hl 0 rfl) ?_
  refine lv_bipush (v := 10) hx hb dX9_init_35 (by decide) ?_
  refine ci_np (cc := cX9_init) (ci := 7) (C := RX9) (T := TX9) (N := 62) (atype := .long) (ty := .long) (N' := 10) (a0 := (10, .inr (.inl (fun _ => 0)))) hx hb hts2 cf_X9.2.1 tyX9 tyX9_ok nmX9 rfl hown hin hA hf hK hP hD hS g_awJ rfl (fun _ => rfl) (by decide) (by decide) (Nat.le_of_ble_eq_true rfl) (Nat.le_of_ble_eq_true rfl) (Nat.le_of_ble_eq_true rfl) dX9_init_37 13 (Nat.le_of_ble_eq_true rfl) (g_in5 (List.mem_of_getElem? (i := 145) rfl) rfl) (fun _ h9 => h9) rfl rfl (fun _ => rfl) (fun _ => rfl) dX9_init_39 (fun q5 k5 H locs hf hK hP hD hS => ?_)
  refine lv_aload_n hx hb dX9_init_42 rfl (lv_at hl 0 rfl) ?_
  refine lv_bipush (v := 12) hx hb dX9_init_43 (by decide) ?_
  refine ci_np (cc := cX9_init) (ci := 7) (C := RX9) (T := TX9) (N := 62) (atype := .long) (ty := .long) (N' := 12) (a0 := (12, .inr (.inl (fun _ => 0)))) hx hb hts2 cf_X9.2.1 tyX9 tyX9_ok nmX9 rfl hown hin hA hf hK hP hD hS g_awJ rfl (fun _ => rfl) (by decide) (by decide) (Nat.le_of_ble_eq_true rfl) (Nat.le_of_ble_eq_true rfl) (Nat.le_of_ble_eq_true rfl) dX9_init_45 14 (Nat.le_of_ble_eq_true rfl) (g_in5 (List.mem_of_getElem? (i := 146) rfl) rfl) (fun _ h9 => h9) rfl rfl (fun _ => rfl) (fun _ => rfl) dX9_init_47 (fun q6 k6 H locs hf hK hP hD hS => ?_)
  refine lv_aload_n hx hb dX9_init_50 rfl (lv_at hl 0 rfl) ?_
  refine lv_bipush (v := 16) hx hb dX9_init_51 (by decide) ?_
  refine ci_np (cc := cX9_init) (ci := 7) (C := RX9) (T := TX9) (N := 62) (atype := .long) (ty := .long) (N' := 16) (a0 := (16, .inr (.inl (fun _ => 0)))) hx hb hts2 cf_X9.2.1 tyX9 tyX9_ok nmX9 rfl hown hin hA hf hK hP hD hS g_awJ rfl (fun _ => rfl) (by decide) (by decide) (Nat.le_of_ble_eq_true rfl) (Nat.le_of_ble_eq_true rfl) (Nat.le_of_ble_eq_true rfl) dX9_init_53 15 (Nat.le_of_ble_eq_true rfl) (g_in5 (List.mem_of_getElem? (i := 147) rfl) rfl) (fun _ h9 => h9) rfl rfl (fun _ => rfl) (fun _ => rfl) dX9_init_55 (fun q7 k7 H locs hf hK hP hD hS => ?_)
  refine lv_aload_n hx hb dX9_init_58 rfl (lv_at hl 0 rfl) ?_
  refine lv_bipush (v := 50) hx hb dX9_init_59 (by decide) ?_
  refine ci_np (cc := cX9_init) (ci := 7) (C := RX9) (T := TX9) (N := 62) (atype := .int) (ty := .int) (N' := 50) (a0 := (50, .inl (fun _ => 0))) hx hb hts2 cf_X9.2.1 tyX9 tyX9_ok nmX9 rfl hown hin hA hf hK hP hD hS g_awI rfl (fun _ => rfl) (by decide) (by decide) (Nat.le_of_ble_eq_true rfl) (Nat.le_of_ble_eq_true rfl) (Nat.le_of_ble_eq_true rfl) dX9_init_61 16 (Nat.le_of_ble_eq_true rfl) (g_in5 (List.mem_of_getElem? (i := 148) rfl) rfl) (fun _ h9 => h9) rfl rfl (fun _ => rfl) (fun _ => rfl) dX9_init_63 (fun q8 k8 H locs hf hK hP hD hS => ?_)
  refine lv_aload_n hx hb dX9_init_66 rfl (lv_at hl 0 rfl) ?_
  refine lv_bipush (v := 12) hx hb dX9_init_67 (by decide) ?_
  refine ci_np (cc := cX9_init) (ci := 7) (C := RX9) (T := TX9) (N := 62) (atype := .int) (ty := .int) (N' := 12) (a0 := (12, .inl (fun _ => 0))) hx hb hts2 cf_X9.2.1 tyX9 tyX9_ok nmX9 rfl hown hin hA hf hK hP hD hS g_awI rfl (fun _ => rfl) (by decide) (by decide) (Nat.le_of_ble_eq_true rfl) (Nat.le_of_ble_eq_true rfl) (Nat.le_of_ble_eq_true rfl) dX9_init_69 17 (Nat.le_of_ble_eq_true rfl) (g_in5 (List.mem_of_getElem? (i := 149) rfl) rfl) (fun _ h9 => h9) rfl rfl (fun _ => rfl) (fun _ => rfl) dX9_init_71 (fun q9 k9 H locs hf hK hP hD hS => ?_)
  refine lv_aload_n hx hb dX9_init_74 rfl (lv_at hl 0 rfl) ?_
  refine lv_bipush (v := 12) hx hb dX9_init_75 (by decide) ?_
  refine ci_np (cc := cX9_init) (ci := 7) (C := RX9) (T := TX9) (N := 62) (atype := .int) (ty := .int) (N' := 12) (a0 := (12, .inl (fun _ => 0))) hx hb hts2 cf_X9.2.1 tyX9 tyX9_ok nmX9 rfl hown hin hA hf hK hP hD hS g_awI rfl (fun _ => rfl) (by decide) (by decide) (Nat.le_of_ble_eq_true rfl) (Nat.le_of_ble_eq_true rfl) (Nat.le_of_ble_eq_true rfl) dX9_init_77 18 (Nat.le_of_ble_eq_true rfl) (g_in5 (List.mem_of_getElem? (i := 150) rfl) rfl) (fun _ h9 => h9) rfl rfl (fun _ => rfl) (fun _ => rfl) dX9_init_79 (fun q10 k10 H locs hf hK hP hD hS => ?_)
  refine lv_aload_n hx hb dX9_init_82 rfl (lv_at hl 0 rfl) ?_
  refine lv_bipush (v := 16) hx hb dX9_init_83 (by decide) ?_
  refine ci_np (cc := cX9_init) (ci := 7) (C := RX9) (T := TX9) (N := 62) (atype := .int) (ty := .int) (N' := 16) (a0 := (16, .inl (fun _ => 0))) hx hb hts2 cf_X9.2.1 tyX9 tyX9_ok nmX9 rfl hown hin hA hf hK hP hD hS g_awI rfl (fun _ => rfl) (by decide) (by decide) (Nat.le_of_ble_eq_true rfl) (Nat.le_of_ble_eq_true rfl) (Nat.le_of_ble_eq_true rfl) dX9_init_85 19 (Nat.le_of_ble_eq_true rfl) (g_in5 (List.mem_of_getElem? (i := 151) rfl) rfl) (fun _ h9 => h9) rfl rfl (fun _ => rfl) (fun _ => rfl) dX9_init_87 (fun q11 k11 H locs hf hK hP hD hS => ?_)
  refine lv_aload_n hx hb dX9_init_90 rfl (lv_at hl 0 rfl) ?_
  refine lv_bipush (v := 16) hx hb dX9_init_91 (by decide) ?_
  refine ci_np (cc := cX9_init) (ci := 7) (C := RX9) (T := TX9) (N := 62) (atype := .int) (ty := .int) (N' := 16) (a0 := (16, .inl (fun _ => 0))) hx hb hts2 cf_X9.2.1 tyX9 tyX9_ok nmX9 rfl hown hin hA hf hK hP hD hS g_awI rfl (fun _ => rfl) (by decide) (by decide) (Nat.le_of_ble_eq_true rfl) (Nat.le_of_ble_eq_true rfl) (Nat.le_of_ble_eq_true rfl) dX9_init_93 20 (Nat.le_of_ble_eq_true rfl) (g_in5 (List.mem_of_getElem? (i := 152) rfl) rfl) (fun _ h9 => h9) rfl rfl (fun _ => rfl) (fun _ => rfl) dX9_init_95 (fun q12 k12 H locs hf hK hP hD hS => ?_)
  refine lv_aload_n hx hb dX9_init_98 rfl (lv_at hl 0 rfl) ?_
  refine lv_sipush (v := 288) hx hb dX9_init_99 (by decide) ?_
  refine ci_np (cc := cX9_init) (ci := 7) (C := RX9) (T := TX9) (N := 62) (atype := .int) (ty := .int) (N' := 288) (a0 := (288, .inl (fun _ => 0))) hx hb hts2 cf_X9.2.1 tyX9 tyX9_ok nmX9 rfl hown hin hA hf hK hP hD hS g_awI rfl (fun _ => rfl) (by decide) (by decide) (Nat.le_of_ble_eq_true rfl) (Nat.le_of_ble_eq_true rfl) (Nat.le_of_ble_eq_true rfl) dX9_init_102 21 (Nat.le_of_ble_eq_true rfl) (g_in5 (List.mem_of_getElem? (i := 153) rfl) rfl) (fun _ h9 => h9) rfl rfl (fun _ => rfl) (fun _ => rfl) dX9_init_104 (fun q13 k13 H locs hf hK hP hD hS => ?_)
  refine lv_aload_n hx hb dX9_init_107 rfl (lv_at hl 0 rfl) ?_
  refine lv_bipush (v := 12) hx hb dX9_init_108 (by decide) ?_
  refine ci_np (cc := cX9_init) (ci := 7) (C := RX9) (T := TX9) (N := 62) (atype := .int) (ty := .int) (N' := 12) (a0 := (12, .inl (fun _ => 0))) hx hb hts2 cf_X9.2.1 tyX9 tyX9_ok nmX9 rfl hown hin hA hf hK hP hD hS g_awI rfl (fun _ => rfl) (by decide) (by decide) (Nat.le_of_ble_eq_true rfl) (Nat.le_of_ble_eq_true rfl) (Nat.le_of_ble_eq_true rfl) dX9_init_110 23 (Nat.le_of_ble_eq_true rfl) (g_in5 (List.mem_of_getElem? (i := 155) rfl) rfl) (fun _ h9 => h9) rfl rfl (fun _ => rfl) (fun _ => rfl) dX9_init_112 (fun q14 k14 H locs hf hK hP hD hS => ?_)
  refine lv_aload_n hx hb dX9_init_115 rfl (lv_at hl 0 rfl) ?_
  refine lv_bipush (v := 12) hx hb dX9_init_116 (by decide) ?_
  refine ci_np (cc := cX9_init) (ci := 7) (C := RX9) (T := TX9) (N := 62) (atype := .int) (ty := .int) (N' := 12) (a0 := (12, .inl (fun _ => 0))) hx hb hts2 cf_X9.2.1 tyX9 tyX9_ok nmX9 rfl hown hin hA hf hK hP hD hS g_awI rfl (fun _ => rfl) (by decide) (by decide) (Nat.le_of_ble_eq_true rfl) (Nat.le_of_ble_eq_true rfl) (Nat.le_of_ble_eq_true rfl) dX9_init_118 24 (Nat.le_of_ble_eq_true rfl) (g_in5 (List.mem_of_getElem? (i := 156) rfl) rfl) (fun _ h9 => h9) rfl rfl (fun _ => rfl) (fun _ => rfl) dX9_init_120 (fun q15 k15 H locs hf hK hP hD hS => ?_)
  refine lv_aload_n hx hb dX9_init_123 rfl (lv_at hl 0 rfl) ?_
  refine lv_sipush (v := 2000) hx hb dX9_init_124 (by decide) ?_
  refine ci_np (cc := cX9_init) (ci := 7) (C := RX9) (T := TX9) (N := 62) (atype := .int) (ty := .int) (N' := 2000) (a0 := (2000, .inl (fun _ => 0))) hx hb hts2 cf_X9.2.1 tyX9 tyX9_ok nmX9 rfl hown hin hA hf hK hP hD hS g_awI rfl (fun _ => rfl) (by decide) (by decide) (Nat.le_of_ble_eq_true rfl) (Nat.le_of_ble_eq_true rfl) (Nat.le_of_ble_eq_true rfl) dX9_init_127 25 (Nat.le_of_ble_eq_true rfl) (g_in5 (List.mem_of_getElem? (i := 157) rfl) rfl) (fun _ h9 => h9) rfl rfl (fun _ => rfl) (fun _ => rfl) dX9_init_129 (fun q16 k16 H locs hf hK hP hD hS => ?_)
  refine lv_aload_n hx hb dX9_init_132 rfl (lv_at hl 0 rfl) ?_
  refine lv_bipush (v := 7) hx hb dX9_init_133 (by decide) ?_
  refine ci_np (cc := cX9_init) (ci := 7) (C := RX9) (T := TX9) (N := 62) (atype := .int) (ty := .int) (N' := 7) (a0 := (7, .inl (fun _ => 0))) hx hb hts2 cf_X9.2.1 tyX9 tyX9_ok nmX9 rfl hown hin hA hf hK hP hD hS g_awI rfl (fun _ => rfl) (by decide) (by decide) (Nat.le_of_ble_eq_true rfl) (Nat.le_of_ble_eq_true rfl) (Nat.le_of_ble_eq_true rfl) dX9_init_135 27 (Nat.le_of_ble_eq_true rfl) (g_in5 (List.mem_of_getElem? (i := 159) rfl) rfl) (fun _ h9 => h9) rfl rfl (fun _ => rfl) (fun _ => rfl) dX9_init_137 (fun q17 k17 H locs hf hK hP hD hS => ?_)
  refine lv_aload_n hx hb dX9_init_140 rfl (lv_at hl 0 rfl) ?_
  refine lv_bipush (v := 7) hx hb dX9_init_141 (by decide) ?_
  refine ci_np (cc := cX9_init) (ci := 7) (C := RX9) (T := TX9) (N := 62) (atype := .boolean) (ty := .boolean) (N' := 7) (a0 := (7, .inl (fun _ => 0))) hx hb hts2 cf_X9.2.1 tyX9 tyX9_ok nmX9 rfl hown hin hA hf hK hP hD hS g_awZ rfl (fun _ => rfl) (by decide) (by decide) (Nat.le_of_ble_eq_true rfl) (Nat.le_of_ble_eq_true rfl) (Nat.le_of_ble_eq_true rfl) dX9_init_143 28 (Nat.le_of_ble_eq_true rfl) (g_in5 (List.mem_of_getElem? (i := 160) rfl) rfl) (fun _ h9 => h9) rfl rfl (fun _ => rfl) (fun _ => rfl) dX9_init_145 (fun q18 k18 H locs hf hK hP hD hS => ?_)
  refine lv_aload_n hx hb dX9_init_148 rfl (lv_at hl 0 rfl) ?_
  refine lv_bipush (v := 7) hx hb dX9_init_149 (by decide) ?_
  refine ci_np (cc := cX9_init) (ci := 7) (C := RX9) (T := TX9) (N := 62) (atype := .int) (ty := .int) (N' := 7) (a0 := (7, .inl (fun _ => 0))) hx hb hts2 cf_X9.2.1 tyX9 tyX9_ok nmX9 rfl hown hin hA hf hK hP hD hS g_awI rfl (fun _ => rfl) (by decide) (by decide) (Nat.le_of_ble_eq_true rfl) (Nat.le_of_ble_eq_true rfl) (Nat.le_of_ble_eq_true rfl) dX9_init_151 29 (Nat.le_of_ble_eq_true rfl) (g_in5 (List.mem_of_getElem? (i := 161) rfl) rfl) (fun _ h9 => h9) rfl rfl (fun _ => rfl) (fun _ => rfl) dX9_init_153 (fun q19 k19 H locs hf hK hP hD hS => ?_)
  refine lv_aload_n hx hb dX9_init_156 rfl (lv_at hl 0 rfl) ?_
  refine lv_bipush (v := 7) hx hb dX9_init_157 (by decide) ?_
  refine ci_np (cc := cX9_init) (ci := 7) (C := RX9) (T := TX9) (N := 62) (atype := .int) (ty := .int) (N' := 7) (a0 := (7, .inl (fun _ => 0))) hx hb hts2 cf_X9.2.1 tyX9 tyX9_ok nmX9 rfl hown hin hA hf hK hP hD hS g_awI rfl (fun _ => rfl) (by decide) (by decide) (Nat.le_of_ble_eq_true rfl) (Nat.le_of_ble_eq_true rfl) (Nat.le_of_ble_eq_true rfl) dX9_init_159 30 (Nat.le_of_ble_eq_true rfl) (g_in5 (List.mem_of_getElem? (i := 162) rfl) rfl) (fun _ h9 => h9) rfl rfl (fun _ => rfl) (fun _ => rfl) dX9_init_161 (fun q20 k20 H locs hf hK hP hD hS => ?_)
  refine lv_aload_n hx hb dX9_init_164 rfl (lv_at hl 0 rfl) ?_
  refine lv_bipush (v := 7) hx hb dX9_init_165 (by decide) ?_
  refine ci_np (cc := cX9_init) (ci := 7) (C := RX9) (T := TX9) (N := 62) (atype := .int) (ty := .int) (N' := 7) (a0 := (7, .inl (fun _ => 0))) hx hb hts2 cf_X9.2.1 tyX9 tyX9_ok nmX9 rfl hown hin hA hf hK hP hD hS g_awI rfl (fun _ => rfl) (by decide) (by decide) (Nat.le_of_ble_eq_true rfl) (Nat.le_of_ble_eq_true rfl) (Nat.le_of_ble_eq_true rfl) dX9_init_167 31 (Nat.le_of_ble_eq_true rfl) (g_in5 (List.mem_of_getElem? (i := 163) rfl) rfl) (fun _ h9 => h9) rfl rfl (fun _ => rfl) (fun _ => rfl) dX9_init_169 (fun q21 k21 H locs hf hK hP hD hS => ?_)
  refine lv_aload_n hx hb dX9_init_172 rfl (lv_at hl 0 rfl) ?_
  refine lv_bipush (v := 7) hx hb dX9_init_173 (by decide) ?_
  refine ci_np (cc := cX9_init) (ci := 7) (C := RX9) (T := TX9) (N := 62) (atype := .int) (ty := .int) (N' := 7) (a0 := (7, .inl (fun _ => 0))) hx hb hts2 cf_X9.2.1 tyX9 tyX9_ok nmX9 rfl hown hin hA hf hK hP hD hS g_awI rfl (fun _ => rfl) (by decide) (by decide) (Nat.le_of_ble_eq_true rfl) (Nat.le_of_ble_eq_true rfl) (Nat.le_of_ble_eq_true rfl) dX9_init_175 32 (Nat.le_of_ble_eq_true rfl) (g_in5 (List.mem_of_getElem? (i := 164) rfl) rfl) (fun _ h9 => h9) rfl rfl (fun _ => rfl) (fun _ => rfl) dX9_init_177 (fun q22 k22 H locs hf hK hP hD hS => ?_)
  refine lv_aload_n hx hb dX9_init_180 rfl (lv_at hl 0 rfl) ?_
  refine lv_bipush (v := 7) hx hb dX9_init_181 (by decide) ?_
  refine ci_np (cc := cX9_init) (ci := 7) (C := RX9) (T := TX9) (N := 62) (atype := .int) (ty := .int) (N' := 7) (a0 := (7, .inl (fun _ => 0))) hx hb hts2 cf_X9.2.1 tyX9 tyX9_ok nmX9 rfl hown hin hA hf hK hP hD hS g_awI rfl (fun _ => rfl) (by decide) (by decide) (Nat.le_of_ble_eq_true rfl) (Nat.le_of_ble_eq_true rfl) (Nat.le_of_ble_eq_true rfl) dX9_init_183 33 (Nat.le_of_ble_eq_true rfl) (g_in5 (List.mem_of_getElem? (i := 165) rfl) rfl) (fun _ h9 => h9) rfl rfl (fun _ => rfl) (fun _ => rfl) dX9_init_185 (fun q23 k23 H locs hf hK hP hD hS => ?_)
  refine lv_aload_n hx hb dX9_init_188 rfl (lv_at hl 0 rfl) ?_
  refine lv_bipush (v := 7) hx hb dX9_init_189 (by decide) ?_
  refine ci_np (cc := cX9_init) (ci := 7) (C := RX9) (T := TX9) (N := 62) (atype := .int) (ty := .int) (N' := 7) (a0 := (7, .inl (fun _ => 0))) hx hb hts2 cf_X9.2.1 tyX9 tyX9_ok nmX9 rfl hown hin hA hf hK hP hD hS g_awI rfl (fun _ => rfl) (by decide) (by decide) (Nat.le_of_ble_eq_true rfl) (Nat.le_of_ble_eq_true rfl) (Nat.le_of_ble_eq_true rfl) dX9_init_191 34 (Nat.le_of_ble_eq_true rfl) (g_in5 (List.mem_of_getElem? (i := 166) rfl) rfl) (fun _ h9 => h9) rfl rfl (fun _ => rfl) (fun _ => rfl) dX9_init_193 (fun q24 k24 H locs hf hK hP hD hS => ?_)
  refine lv_aload_n hx hb dX9_init_196 rfl (lv_at hl 0 rfl) ?_
  refine lv_bipush (v := 7) hx hb dX9_init_197 (by decide) ?_
  refine ci_np (cc := cX9_init) (ci := 7) (C := RX9) (T := TX9) (N := 62) (atype := .int) (ty := .int) (N' := 7) (a0 := (7, .inl (fun _ => 0))) hx hb hts2 cf_X9.2.1 tyX9 tyX9_ok nmX9 rfl hown hin hA hf hK hP hD hS g_awI rfl (fun _ => rfl) (by decide) (by decide) (Nat.le_of_ble_eq_true rfl) (Nat.le_of_ble_eq_true rfl) (Nat.le_of_ble_eq_true rfl) dX9_init_199 35 (Nat.le_of_ble_eq_true rfl) (g_in5 (List.mem_of_getElem? (i := 167) rfl) rfl) (fun _ h9 => h9) rfl rfl (fun _ => rfl) (fun _ => rfl) dX9_init_201 (fun q25 k25 H locs hf hK hP hD hS => ?_)
  refine lv_aload_n hx hb dX9_init_204 rfl (lv_at hl 0 rfl) ?_
  refine lv_bipush (v := 7) hx hb dX9_init_205 (by decide) ?_
  refine ci_np (cc := cX9_init) (ci := 7) (C := RX9) (T := TX9) (N := 62) (atype := .int) (ty := .int) (N' := 7) (a0 := (7, .inl (fun _ => 0))) hx hb hts2 cf_X9.2.1 tyX9 tyX9_ok nmX9 rfl hown hin hA hf hK hP hD hS g_awI rfl (fun _ => rfl) (by decide) (by decide) (Nat.le_of_ble_eq_true rfl) (Nat.le_of_ble_eq_true rfl) (Nat.le_of_ble_eq_true rfl) dX9_init_207 36 (Nat.le_of_ble_eq_true rfl) (g_in5 (List.mem_of_getElem? (i := 168) rfl) rfl) (fun _ h9 => h9) rfl rfl (fun _ => rfl) (fun _ => rfl) dX9_init_209 (fun q26 k26 H locs hf hK hP hD hS => ?_)
  refine lv_aload_n hx hb dX9_init_212 rfl (lv_at hl 0 rfl) ?_
  refine lv_bipush (v := 7) hx hb dX9_init_213 (by decide) ?_
  refine ci_np (cc := cX9_init) (ci := 7) (C := RX9) (T := TX9) (N := 62) (atype := .int) (ty := .int) (N' := 7) (a0 := (7, .inl (fun _ => 0))) hx hb hts2 cf_X9.2.1 tyX9 tyX9_ok nmX9 rfl hown hin hA hf hK hP hD hS g_awI rfl (fun _ => rfl) (by decide) (by decide) (Nat.le_of_ble_eq_true rfl) (Nat.le_of_ble_eq_true rfl) (Nat.le_of_ble_eq_true rfl) dX9_init_215 37 (Nat.le_of_ble_eq_true rfl) (g_in5 (List.mem_of_getElem? (i := 169) rfl) rfl) (fun _ h9 => h9) rfl rfl (fun _ => rfl) (fun _ => rfl) dX9_init_217 (fun q27 k27 H locs hf hK hP hD hS => ?_)
  refine lv_aload_n hx hb dX9_init_220 rfl (lv_at hl 0 rfl) ?_
  refine lv_bipush (v := 20) hx hb dX9_init_221 (by decide) ?_
  refine ci_np (cc := cX9_init) (ci := 7) (C := RX9) (T := TX9) (N := 62) (atype := .int) (ty := .int) (N' := 20) (a0 := (20, .inl (fun _ => 0))) hx hb hts2 cf_X9.2.1 tyX9 tyX9_ok nmX9 rfl hown hin hA hf hK hP hD hS g_awI rfl (fun _ => rfl) (by decide) (by decide) (Nat.le_of_ble_eq_true rfl) (Nat.le_of_ble_eq_true rfl) (Nat.le_of_ble_eq_true rfl) dX9_init_223 38 (Nat.le_of_ble_eq_true rfl) (g_in5 (List.mem_of_getElem? (i := 170) rfl) rfl) (fun _ h9 => h9) rfl rfl (fun _ => rfl) (fun _ => rfl) dX9_init_225 (fun q28 k28 H locs hf hK hP hD hS => ?_)
  refine lv_aload_n hx hb dX9_init_228 rfl (lv_at hl 0 rfl) ?_
  refine lv_bipush (v := 40) hx hb dX9_init_229 (by decide) ?_
  refine ci_np (cc := cX9_init) (ci := 7) (C := RX9) (T := TX9) (N := 62) (atype := .int) (ty := .int) (N' := 40) (a0 := (40, .inl (fun _ => 0))) hx hb hts2 cf_X9.2.1 tyX9 tyX9_ok nmX9 rfl hown hin hA hf hK hP hD hS g_awI rfl (fun _ => rfl) (by decide) (by decide) (Nat.le_of_ble_eq_true rfl) (Nat.le_of_ble_eq_true rfl) (Nat.le_of_ble_eq_true rfl) dX9_init_231 40 (Nat.le_of_ble_eq_true rfl) (g_in5 (List.mem_of_getElem? (i := 172) rfl) rfl) (fun _ h9 => h9) rfl rfl (fun _ => rfl) (fun _ => rfl) dX9_init_233 (fun q29 k29 H locs hf hK hP hD hS => ?_)
  refine lv_aload_n hx hb dX9_init_236 rfl (lv_at hl 0 rfl) ?_
  refine lv_bipush (v := 40) hx hb dX9_init_237 (by decide) ?_
  refine ci_np (cc := cX9_init) (ci := 7) (C := RX9) (T := TX9) (N := 62) (atype := .int) (ty := .int) (N' := 40) (a0 := (40, .inl (fun _ => 0))) hx hb hts2 cf_X9.2.1 tyX9 tyX9_ok nmX9 rfl hown hin hA hf hK hP hD hS g_awI rfl (fun _ => rfl) (by decide) (by decide) (Nat.le_of_ble_eq_true rfl) (Nat.le_of_ble_eq_true rfl) (Nat.le_of_ble_eq_true rfl) dX9_init_239 41 (Nat.le_of_ble_eq_true rfl) (g_in5 (List.mem_of_getElem? (i := 173) rfl) rfl) (fun _ h9 => h9) rfl rfl (fun _ => rfl) (fun _ => rfl) dX9_init_241 (fun q30 k30 H locs hf hK hP hD hS => ?_)
  refine lv_aload_n hx hb dX9_init_244 rfl (lv_at hl 0 rfl) ?_
  refine lv_bipush (v := 40) hx hb dX9_init_245 (by decide) ?_
  refine ci_np (cc := cX9_init) (ci := 7) (C := RX9) (T := TX9) (N := 62) (atype := .int) (ty := .int) (N' := 40) (a0 := (40, .inl (fun _ => 0))) hx hb hts2 cf_X9.2.1 tyX9 tyX9_ok nmX9 rfl hown hin hA hf hK hP hD hS g_awI rfl (fun _ => rfl) (by decide) (by decide) (Nat.le_of_ble_eq_true rfl) (Nat.le_of_ble_eq_true rfl) (Nat.le_of_ble_eq_true rfl) dX9_init_247 42 (Nat.le_of_ble_eq_true rfl) (g_in5 (List.mem_of_getElem? (i := 174) rfl) rfl) (fun _ h9 => h9) rfl rfl (fun _ => rfl) (fun _ => rfl) dX9_init_249 (fun q31 k31 H locs hf hK hP hD hS => ?_)
  refine lv_aload_n hx hb dX9_init_252 rfl (lv_at hl 0 rfl) ?_
  refine lv_bipush (v := 40) hx hb dX9_init_253 (by decide) ?_
  refine ci_np (cc := cX9_init) (ci := 7) (C := RX9) (T := TX9) (N := 62) (atype := .int) (ty := .int) (N' := 40) (a0 := (40, .inl (fun _ => 0))) hx hb hts2 cf_X9.2.1 tyX9 tyX9_ok nmX9 rfl hown hin hA hf hK hP hD hS g_awI rfl (fun _ => rfl) (by decide) (by decide) (Nat.le_of_ble_eq_true rfl) (Nat.le_of_ble_eq_true rfl) (Nat.le_of_ble_eq_true rfl) dX9_init_255 43 (Nat.le_of_ble_eq_true rfl) (g_in5 (List.mem_of_getElem? (i := 175) rfl) rfl) (fun _ h9 => h9) rfl rfl (fun _ => rfl) (fun _ => rfl) dX9_init_257 (fun q32 k32 H locs hf hK hP hD hS => ?_)
  refine lv_aload_n hx hb dX9_init_260 rfl (lv_at hl 0 rfl) ?_
  refine lv_bipush (v := 40) hx hb dX9_init_261 (by decide) ?_
  refine ci_np (cc := cX9_init) (ci := 7) (C := RX9) (T := TX9) (N := 62) (atype := .int) (ty := .int) (N' := 40) (a0 := (40, .inl (fun _ => 0))) hx hb hts2 cf_X9.2.1 tyX9 tyX9_ok nmX9 rfl hown hin hA hf hK hP hD hS g_awI rfl (fun _ => rfl) (by decide) (by decide) (Nat.le_of_ble_eq_true rfl) (Nat.le_of_ble_eq_true rfl) (Nat.le_of_ble_eq_true rfl) dX9_init_263 44 (Nat.le_of_ble_eq_true rfl) (g_in5 (List.mem_of_getElem? (i := 176) rfl) rfl) (fun _ h9 => h9) rfl rfl (fun _ => rfl) (fun _ => rfl) dX9_init_265 (fun q33 k33 H locs hf hK hP hD hS => ?_)
  refine lv_aload_n hx hb dX9_init_268 rfl (lv_at hl 0 rfl) ?_
  refine lv_bipush (v := 8) hx hb dX9_init_269 (by decide) ?_
  refine ci_np (cc := cX9_init) (ci := 7) (C := RX9) (T := TX9) (N := 62) (atype := .int) (ty := .int) (N' := 8) (a0 := (8, .inl (fun _ => 0))) hx hb hts2 cf_X9.2.1 tyX9 tyX9_ok nmX9 rfl hown hin hA hf hK hP hD hS g_awI rfl (fun _ => rfl) (by decide) (by decide) (Nat.le_of_ble_eq_true rfl) (Nat.le_of_ble_eq_true rfl) (Nat.le_of_ble_eq_true rfl) dX9_init_271 45 (Nat.le_of_ble_eq_true rfl) (g_in5 (List.mem_of_getElem? (i := 177) rfl) rfl) (fun _ h9 => h9) rfl rfl (fun _ => rfl) (fun _ => rfl) dX9_init_273 (fun q34 k34 H locs hf hK hP hD hS => ?_)
  refine lv_aload_n hx hb dX9_init_276 rfl (lv_at hl 0 rfl) ?_
  refine lv_bipush (v := 8) hx hb dX9_init_277 (by decide) ?_
  refine ci_np (cc := cX9_init) (ci := 7) (C := RX9) (T := TX9) (N := 62) (atype := .int) (ty := .int) (N' := 8) (a0 := (8, .inl (fun _ => 0))) hx hb hts2 cf_X9.2.1 tyX9 tyX9_ok nmX9 rfl hown hin hA hf hK hP hD hS g_awI rfl (fun _ => rfl) (by decide) (by decide) (Nat.le_of_ble_eq_true rfl) (Nat.le_of_ble_eq_true rfl) (Nat.le_of_ble_eq_true rfl) dX9_init_279 46 (Nat.le_of_ble_eq_true rfl) (g_in5 (List.mem_of_getElem? (i := 178) rfl) rfl) (fun _ h9 => h9) rfl rfl (fun _ => rfl) (fun _ => rfl) dX9_init_281 (fun q35 k35 H locs hf hK hP hD hS => ?_)
  refine lv_aload_n hx hb dX9_init_284 rfl (lv_at hl 0 rfl) ?_
  refine lv_bipush (v := 6) hx hb dX9_init_285 (by decide) ?_
  refine ci_np (cc := cX9_init) (ci := 7) (C := RX9) (T := TX9) (N := 62) (atype := .boolean) (ty := .boolean) (N' := 6) (a0 := (6, .inl (fun _ => 0))) hx hb hts2 cf_X9.2.1 tyX9 tyX9_ok nmX9 rfl hown hin hA hf hK hP hD hS g_awZ rfl (fun _ => rfl) (by decide) (by decide) (Nat.le_of_ble_eq_true rfl) (Nat.le_of_ble_eq_true rfl) (Nat.le_of_ble_eq_true rfl) dX9_init_287 47 (Nat.le_of_ble_eq_true rfl) (g_in5 (List.mem_of_getElem? (i := 179) rfl) rfl) (fun _ h9 => h9) rfl rfl (fun _ => rfl) (fun _ => rfl) dX9_init_289 (fun q36 k36 H locs hf hK hP hD hS => ?_)
  refine lv_aload_n hx hb dX9_init_292 rfl (lv_at hl 0 rfl) ?_
  refine lv_bipush (v := 48) hx hb dX9_init_293 (by decide) ?_
  refine ci_np (cc := cX9_init) (ci := 7) (C := RX9) (T := TX9) (N := 62) (atype := .int) (ty := .int) (N' := 48) (a0 := (48, .inl (fun _ => 0))) hx hb hts2 cf_X9.2.1 tyX9 tyX9_ok nmX9 rfl hown hin hA hf hK hP hD hS g_awI rfl (fun _ => rfl) (by decide) (by decide) (Nat.le_of_ble_eq_true rfl) (Nat.le_of_ble_eq_true rfl) (Nat.le_of_ble_eq_true rfl) dX9_init_295 48 (Nat.le_of_ble_eq_true rfl) (g_in5 (List.mem_of_getElem? (i := 180) rfl) rfl) (fun _ h9 => h9) rfl rfl (fun _ => rfl) (fun _ => rfl) dX9_init_297 (fun q37 k37 H locs hf hK hP hD hS => ?_)
  refine lv_aload_n hx hb dX9_init_300 rfl (lv_at hl 0 rfl) ?_
  refine lv_sipush (v := 384) hx hb dX9_init_301 (by decide) ?_
  refine ci_np (cc := cX9_init) (ci := 7) (C := RX9) (T := TX9) (N := 62) (atype := .boolean) (ty := .boolean) (N' := 384) (a0 := (384, .inl (fun _ => 0))) hx hb hts2 cf_X9.2.1 tyX9 tyX9_ok nmX9 rfl hown hin hA hf hK hP hD hS g_awZ rfl (fun _ => rfl) (by decide) (by decide) (Nat.le_of_ble_eq_true rfl) (Nat.le_of_ble_eq_true rfl) (Nat.le_of_ble_eq_true rfl) dX9_init_304 49 (Nat.le_of_ble_eq_true rfl) (g_in5 (List.mem_of_getElem? (i := 181) rfl) rfl) (fun _ h9 => h9) rfl rfl (fun _ => rfl) (fun _ => rfl) dX9_init_306 (fun q38 k38 H locs hf hK hP hD hS => ?_)
  refine lv_aload_n hx hb dX9_init_309 rfl (lv_at hl 0 rfl) ?_
  refine lv_sipush (v := 256) hx hb dX9_init_310 (by decide) ?_
  refine ci_np (cc := cX9_init) (ci := 7) (C := RX9) (T := TX9) (N := 62) (atype := .int) (ty := .int) (N' := 256) (a0 := (256, .inl (fun _ => 0))) hx hb hts2 cf_X9.2.1 tyX9 tyX9_ok nmX9 rfl hown hin hA hf hK hP hD hS g_awI rfl (fun _ => rfl) (by decide) (by decide) (Nat.le_of_ble_eq_true rfl) (Nat.le_of_ble_eq_true rfl) (Nat.le_of_ble_eq_true rfl) dX9_init_313 50 (Nat.le_of_ble_eq_true rfl) (g_in5 (List.mem_of_getElem? (i := 182) rfl) rfl) (fun _ h9 => h9) rfl rfl (fun _ => rfl) (fun _ => rfl) dX9_init_315 (fun q39 k39 H locs hf hK hP hD hS => ?_)
  refine lv_aload_n hx hb dX9_init_318 rfl (lv_at hl 0 rfl) ?_
  refine lv_iconst (v := 5) hx hb dX9_init_319 (by decide) ?_
  refine ci_np (cc := cX9_init) (ci := 7) (C := RX9) (T := TX9) (N := 62) (atype := .int) (ty := .int) (N' := 5) (a0 := (5, .inl (fun _ => 0))) hx hb hts2 cf_X9.2.1 tyX9 tyX9_ok nmX9 rfl hown hin hA hf hK hP hD hS g_awI rfl (fun _ => rfl) (by decide) (by decide) (Nat.le_of_ble_eq_true rfl) (Nat.le_of_ble_eq_true rfl) (Nat.le_of_ble_eq_true rfl) dX9_init_320 51 (Nat.le_of_ble_eq_true rfl) (g_in5 (List.mem_of_getElem? (i := 183) rfl) rfl) (fun _ h9 => h9) rfl rfl (fun _ => rfl) (fun _ => rfl) dX9_init_322 (fun q40 k40 H locs hf hK hP hD hS => ?_)
  refine lv_aload_n hx hb dX9_init_325 rfl (lv_at hl 0 rfl) ?_
  refine lv_sipush (v := 216) hx hb dX9_init_326 (by decide) ?_
  refine ci_np (cc := cX9_init) (ci := 7) (C := RX9) (T := TX9) (N := 62) (atype := .int) (ty := .int) (N' := 216) (a0 := (216, .inl (fun _ => 0))) hx hb hts2 cf_X9.2.1 tyX9 tyX9_ok nmX9 rfl hown hin hA hf hK hP hD hS g_awI rfl (fun _ => rfl) (by decide) (by decide) (Nat.le_of_ble_eq_true rfl) (Nat.le_of_ble_eq_true rfl) (Nat.le_of_ble_eq_true rfl) dX9_init_329 52 (Nat.le_of_ble_eq_true rfl) (g_in5 (List.mem_of_getElem? (i := 184) rfl) rfl) (fun _ h9 => h9) rfl rfl (fun _ => rfl) (fun _ => rfl) dX9_init_331 (fun q41 k41 H locs hf hK hP hD hS => ?_)
  refine lv_aload_n hx hb dX9_init_334 rfl (lv_at hl 0 rfl) ?_
  refine lv_sipush (v := 256) hx hb dX9_init_335 (by decide) ?_
  refine ci_np (cc := cX9_init) (ci := 7) (C := RX9) (T := TX9) (N := 62) (atype := .int) (ty := .int) (N' := 256) (a0 := (256, .inl (fun _ => 0))) hx hb hts2 cf_X9.2.1 tyX9 tyX9_ok nmX9 rfl hown hin hA hf hK hP hD hS g_awI rfl (fun _ => rfl) (by decide) (by decide) (Nat.le_of_ble_eq_true rfl) (Nat.le_of_ble_eq_true rfl) (Nat.le_of_ble_eq_true rfl) dX9_init_338 53 (Nat.le_of_ble_eq_true rfl) (g_in5 (List.mem_of_getElem? (i := 185) rfl) rfl) (fun _ h9 => h9) rfl rfl (fun _ => rfl) (fun _ => rfl) dX9_init_340 (fun q42 k42 H locs hf hK hP hD hS => ?_)
  refine lv_aload_n hx hb dX9_init_343 rfl (lv_at hl 0 rfl) ?_
  refine lv_sipush (v := 256) hx hb dX9_init_344 (by decide) ?_
  refine ci_np (cc := cX9_init) (ci := 7) (C := RX9) (T := TX9) (N := 62) (atype := .int) (ty := .int) (N' := 256) (a0 := (256, .inl (fun _ => 0))) hx hb hts2 cf_X9.2.1 tyX9 tyX9_ok nmX9 rfl hown hin hA hf hK hP hD hS g_awI rfl (fun _ => rfl) (by decide) (by decide) (Nat.le_of_ble_eq_true rfl) (Nat.le_of_ble_eq_true rfl) (Nat.le_of_ble_eq_true rfl) dX9_init_347 54 (Nat.le_of_ble_eq_true rfl) (g_in5 (List.mem_of_getElem? (i := 186) rfl) rfl) (fun _ h9 => h9) rfl rfl (fun _ => rfl) (fun _ => rfl) dX9_init_349 (fun q43 k43 H locs hf hK hP hD hS => ?_)
  refine lv_aload_n hx hb dX9_init_352 rfl (lv_at hl 0 rfl) ?_
  refine lv_sipush (v := 256) hx hb dX9_init_353 (by decide) ?_
  refine ci_np (cc := cX9_init) (ci := 7) (C := RX9) (T := TX9) (N := 62) (atype := .int) (ty := .int) (N' := 256) (a0 := (256, .inl (fun _ => 0))) hx hb hts2 cf_X9.2.1 tyX9 tyX9_ok nmX9 rfl hown hin hA hf hK hP hD hS g_awI rfl (fun _ => rfl) (by decide) (by decide) (Nat.le_of_ble_eq_true rfl) (Nat.le_of_ble_eq_true rfl) (Nat.le_of_ble_eq_true rfl) dX9_init_356 55 (Nat.le_of_ble_eq_true rfl) (g_in5 (List.mem_of_getElem? (i := 187) rfl) rfl) (fun _ h9 => h9) rfl rfl (fun _ => rfl) (fun _ => rfl) dX9_init_358 (fun q44 k44 H locs hf hK hP hD hS => ?_)
  refine lv_aload_n hx hb dX9_init_361 rfl (lv_at hl 0 rfl) ?_
  refine lv_sipush (v := 1536) hx hb dX9_init_362 (by decide) ?_
  refine ci_np (cc := cX9_init) (ci := 7) (C := RX9) (T := TX9) (N := 62) (atype := .int) (ty := .int) (N' := 1536) (a0 := (1536, .inl (fun _ => 0))) hx hb hts2 cf_X9.2.1 tyX9 tyX9_ok nmX9 rfl hown hin hA hf hK hP hD hS g_awI rfl (fun _ => rfl) (by decide) (by decide) (Nat.le_of_ble_eq_true rfl) (Nat.le_of_ble_eq_true rfl) (Nat.le_of_ble_eq_true rfl) dX9_init_365 56 (Nat.le_of_ble_eq_true rfl) (g_in5 (List.mem_of_getElem? (i := 188) rfl) rfl) (fun _ h9 => h9) rfl rfl (fun _ => rfl) (fun _ => rfl) dX9_init_367 (fun q45 k45 H locs hf hK hP hD hS => ?_)
  refine lv_aload_n hx hb dX9_init_370 rfl (lv_at hl 0 rfl) ?_
  refine lv_bipush (v := 8) hx hb dX9_init_371 (by decide) ?_
  refine ci_np (cc := cX9_init) (ci := 7) (C := RX9) (T := TX9) (N := 62) (atype := .int) (ty := .int) (N' := 8) (a0 := (8, .inl (fun _ => 0))) hx hb hts2 cf_X9.2.1 tyX9 tyX9_ok nmX9 rfl hown hin hA hf hK hP hD hS g_awI rfl (fun _ => rfl) (by decide) (by decide) (Nat.le_of_ble_eq_true rfl) (Nat.le_of_ble_eq_true rfl) (Nat.le_of_ble_eq_true rfl) dX9_init_373 58 (Nat.le_of_ble_eq_true rfl) (g_in5 (List.mem_of_getElem? (i := 190) rfl) rfl) (fun _ h9 => h9) rfl rfl (fun _ => rfl) (fun _ => rfl) dX9_init_375 (fun q46 k46 H locs hf hK hP hD hS => ?_)
  refine lv_aload_n hx hb dX9_init_378 rfl (lv_at hl 0 rfl) ?_
  refine lv_iconst (v := 4) hx hb dX9_init_379 (by decide) ?_
  refine ci_np (cc := cX9_init) (ci := 7) (C := RX9) (T := TX9) (N := 62) (atype := .boolean) (ty := .boolean) (N' := 4) (a0 := (4, .inl (fun _ => 0))) hx hb hts2 cf_X9.2.1 tyX9 tyX9_ok nmX9 rfl hown hin hA hf hK hP hD hS g_awZ rfl (fun _ => rfl) (by decide) (by decide) (Nat.le_of_ble_eq_true rfl) (Nat.le_of_ble_eq_true rfl) (Nat.le_of_ble_eq_true rfl) dX9_init_380 60 (Nat.le_of_ble_eq_true rfl) (g_in5 (List.mem_of_getElem? (i := 192) rfl) rfl) (fun _ h9 => h9) rfl rfl (fun _ => rfl) (fun _ => rfl) dX9_init_382 (fun q47 k47 H locs hf hK hP hD hS => ?_)
  refine lv_aload_n hx hb dX9_init_385 rfl (lv_at hl 0 rfl) ?_
  refine lv_sipush (v := 1000) hx hb dX9_init_386 (by decide) ?_
  refine ci_np (cc := cX9_init) (ci := 7) (C := RX9) (T := TX9) (N := 62) (atype := .int) (ty := .int) (N' := 1000) (a0 := (1000, .inl (fun _ => 0))) hx hb hts2 cf_X9.2.1 tyX9 tyX9_ok nmX9 rfl hown hin hA hf hK hP hD hS g_awI rfl (fun _ => rfl) (by decide) (by decide) (Nat.le_of_ble_eq_true rfl) (Nat.le_of_ble_eq_true rfl) (Nat.le_of_ble_eq_true rfl) dX9_init_389 61 (Nat.le_of_ble_eq_true rfl) (g_in5 (List.mem_of_getElem? (i := 193) rfl) rfl) (fun _ h9 => h9) rfl rfl (fun _ => rfl) (fun _ => rfl) dX9_init_391 (fun q48 k48 H locs hf hK hP hD hS => ?_)
  exact W.vret (cc := cX9_init) hx hb hr (fun t ht hW => ⟨rfl, ⟨fun i => [h0, q1, q2, q3, q4, q5, q6, q7, q8, q9, q10, q11, q12, q13, q14, q15, q16, q17, q18, q19, q20, q21, q22, q23, q24, q25, q26, q27, q28, q29, q30, q31, q32, q33, q34, q35, q36, q37, q38, q39, q40, q41, q42, q43, q44, q45, q46, q47, q48].getD i 0, fun i => [0, k1, k2, k3, k4, k5, k6, k7, k8, k9, k10, k11, k12, k13, k14, k15, k16, k17, k18, k19, k20, k21, k22, k23, k24, k25, k26, k27, k28, k29, k30, k31, k32, k33, k34, k35, k36, k37, k38, k39, k40, k41, k42, k43, k44, k45, k46, k47, k48].getD i 0, _, rfl, ct_Model k1 k2 k3 k4 k5 k6 k7 k8 k9 k10 k11 k12 k13 k14 k15 k16 k17 k18 k19 k20 k21 k22 k23 k24 k25 k26 k27 k28 k29 k30 k31 k32 k33 k34 k35 k36 k37 k38 k39 k40 k41 k42 k43 k44 k45 k46 k47 k48, va_K.moved hW.alike hK, (by rw [ht, cw_Model]; exact hP), (by rw [cw_Model]; exact hD)⟩, hS.F ht⟩) hS.2.2 dX9_init_394 hlocks
