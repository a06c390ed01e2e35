/-! OwnMade's constructor -/
theorem dX8_init_0 : decode cX8_init 0 = .ok (.aload_n 0, 1) := by decide +kernel
theorem dX8_init_1 : decode cX8_init 1 = .ok (.invokespecial 1, 3) := by decide +kernel
theorem dX8_init_4 : decode cX8_init 4 = .ok (.aload_n 0, 1) := by decide +kernel
theorem dX8_init_5 : decode cX8_init 5 = .ok (.new 7, 3) := by decide +kernel
theorem dX8_init_8 : decode cX8_init 8 = .ok (.dup, 1) := by decide +kernel
theorem dX8_init_9 : decode cX8_init 9 = .ok (.invokespecial 9, 3) := by decide +kernel
theorem dX8_init_12 : decode cX8_init 12 = .ok (.putfield 10, 3) := by decide +kernel
theorem dX8_init_15 : decode cX8_init 15 = .ok (.aload_n 0, 1) := by decide +kernel
theorem dX8_init_16 : decode cX8_init 16 = .ok (.new 16, 3) := by decide +kernel
theorem dX8_init_19 : decode cX8_init 19 = .ok (.dup, 1) := by decide +kernel
theorem dX8_init_20 : decode cX8_init 20 = .ok (.invokespecial 18, 3) := by decide +kernel
theorem dX8_init_23 : decode cX8_init 23 = .ok (.putfield 19, 3) := by decide +kernel
theorem dX8_init_26 : decode cX8_init 26 = .ok (.aload_n 0, 1) := by decide +kernel
theorem dX8_init_27 : decode cX8_init 27 = .ok (.new 16, 3) := by decide +kernel
theorem dX8_init_30 : decode cX8_init 30 = .ok (.dup, 1) := by decide +kernel
theorem dX8_init_31 : decode cX8_init 31 = .ok (.invokespecial 18, 3) := by decide +kernel
theorem dX8_init_34 : decode cX8_init 34 = .ok (.putfield 23, 3) := by decide +kernel
theorem dX8_init_37 : decode cX8_init 37 = .ok (.aload_n 0, 1) := by decide +kernel
theorem dX8_init_38 : decode cX8_init 38 = .ok (.new 26, 3) := by decide +kernel
theorem dX8_init_41 : decode cX8_init 41 = .ok (.dup, 1) := by decide +kernel
theorem dX8_init_42 : decode cX8_init 42 = .ok (.invokespecial 28, 3) := by decide +kernel
theorem dX8_init_45 : decode cX8_init 45 = .ok (.putfield 29, 3) := by decide +kernel
theorem dX8_init_48 : decode cX8_init 48 = .ok (.aload_n 0, 1) := by decide +kernel
theorem dX8_init_49 : decode cX8_init 49 = .ok (.new 26, 3) := by decide +kernel
theorem dX8_init_52 : decode cX8_init 52 = .ok (.dup, 1) := by decide +kernel
theorem dX8_init_53 : decode cX8_init 53 = .ok (.invokespecial 28, 3) := by decide +kernel
theorem dX8_init_56 : decode cX8_init 56 = .ok (.putfield 33, 3) := by decide +kernel
theorem dX8_init_59 : decode cX8_init 59 = .ok (.aload_n 0, 1) := by decide +kernel
theorem dX8_init_60 : decode cX8_init 60 = .ok (.new 36, 3) := by decide +kernel
theorem dX8_init_63 : decode cX8_init 63 = .ok (.dup, 1) := by decide +kernel
theorem dX8_init_64 : decode cX8_init 64 = .ok (.invokespecial 38, 3) := by decide +kernel
theorem dX8_init_67 : decode cX8_init 67 = .ok (.putfield 39, 3) := by decide +kernel
theorem dX8_init_70 : decode cX8_init 70 = .ok (.aload_n 0, 1) := by decide +kernel
theorem dX8_init_71 : decode cX8_init 71 = .ok (.iconst 4, 1) := by decide +kernel
theorem dX8_init_72 : decode cX8_init 72 = .ok (.anewarray 36, 3) := by decide +kernel
theorem dX8_init_75 : decode cX8_init 75 = .ok (.putfield 43, 3) := by decide +kernel
theorem dX8_init_78 : decode cX8_init 78 = .ok (.aload_n 0, 1) := by decide +kernel
theorem dX8_init_79 : decode cX8_init 79 = .ok (.bipush 20, 2) := by decide +kernel
theorem dX8_init_81 : decode cX8_init 81 = .ok (.newarray .int, 2) := by decide +kernel
theorem dX8_init_83 : decode cX8_init 83 = .ok (.putfield 47, 3) := by decide +kernel
theorem dX8_init_86 : decode cX8_init 86 = .ok (.aload_n 0, 1) := by decide +kernel
theorem dX8_init_87 : decode cX8_init 87 = .ok (.new 51, 3) := by decide +kernel
theorem dX8_init_90 : decode cX8_init 90 = .ok (.dup, 1) := by decide +kernel
theorem dX8_init_91 : decode cX8_init 91 = .ok (.invokespecial 53, 3) := by decide +kernel
theorem dX8_init_94 : decode cX8_init 94 = .ok (.putfield 54, 3) := by decide +kernel
theorem dX8_init_97 : decode cX8_init 97 = .ok (.aload_n 0, 1) := by decide +kernel
theorem dX8_init_98 : decode cX8_init 98 = .ok (.new 51, 3) := by decide +kernel
theorem dX8_init_101 : decode cX8_init 101 = .ok (.dup, 1) := by decide +kernel
theorem dX8_init_102 : decode cX8_init 102 = .ok (.invokespecial 53, 3) := by decide +kernel
theorem dX8_init_105 : decode cX8_init 105 = .ok (.putfield 58, 3) := by decide +kernel
theorem dX8_init_108 : decode cX8_init 108 = .ok (.aload_n 0, 1) := by decide +kernel
theorem dX8_init_109 : decode cX8_init 109 = .ok (.new 61, 3) := by decide +kernel
theorem dX8_init_112 : decode cX8_init 112 = .ok (.dup, 1) := by decide +kernel
theorem dX8_init_113 : decode cX8_init 113 = .ok (.invokespecial 63, 3) := by decide +kernel
theorem dX8_init_116 : decode cX8_init 116 = .ok (.putfield 64, 3) := by decide +kernel
theorem dX8_init_119 : decode cX8_init 119 = .ok (.aload_n 0, 1) := by decide +kernel
theorem dX8_init_120 : decode cX8_init 120 = .ok (.bipush 8, 2) := by decide +kernel
theorem dX8_init_122 : decode cX8_init 122 = .ok (.newarray .int, 2) := by decide +kernel
theorem dX8_init_124 : decode cX8_init 124 = .ok (.putfield 68, 3) := by decide +kernel
theorem dX8_init_127 : decode cX8_init 127 = .ok (.aload_n 0, 1) := by decide +kernel
theorem dX8_init_128 : decode cX8_init 128 = .ok (.bipush 64, 2) := by decide +kernel
theorem dX8_init_130 : decode cX8_init 130 = .ok (.newarray .int, 2) := by decide +kernel
theorem dX8_init_132 : decode cX8_init 132 = .ok (.putfield 71, 3) := by decide +kernel
theorem dX8_init_135 : decode cX8_init 135 = .ok (.iconst 0, 1) := by decide +kernel
theorem dX8_init_136 : decode cX8_init 136 = .ok (.istore_n 1, 1) := by decide +kernel
theorem dX8_init_137 : decode cX8_init 137 = .ok (.iload_n 1, 1) := by decide +kernel
theorem dX8_init_138 : decode cX8_init 138 = .ok (.iconst 4, 1) := by decide +kernel
theorem dX8_init_139 : decode cX8_init 139 = .ok (.if_icmp .ge 22, 3) := by decide +kernel
theorem dX8_init_142 : decode cX8_init 142 = .ok (.aload_n 0, 1) := by decide +kernel
theorem dX8_init_143 : decode cX8_init 143 = .ok (.getfield 43, 3) := by decide +kernel
theorem dX8_init_146 : decode cX8_init 146 = .ok (.iload_n 1, 1) := by decide +kernel
theorem dX8_init_147 : decode cX8_init 147 = .ok (.new 36, 3) := by decide +kernel
theorem dX8_init_150 : decode cX8_init 150 = .ok (.dup, 1) := by decide +kernel
theorem dX8_init_151 : decode cX8_init 151 = .ok (.invokespecial 38, 3) := by decide +kernel
theorem dX8_init_154 : decode cX8_init 154 = .ok (.aastore, 1) := by decide +kernel
theorem dX8_init_155 : decode cX8_init 155 = .ok (.iinc 1 1, 3) := by decide +kernel
theorem dX8_init_158 : decode cX8_init 158 = .ok (.goto (-21), 3) := by decide +kernel
theorem dX8_init_161 : decode cX8_init 161 = .ok (.return_, 1) := by decide +kernel
theorem ex_n_bl (B : Nat → Prop) (a : Array Value) (U : State) (g : JFrame) (mk : MethodId) (h : ∀ w ∈ g_nw, va_Nw w U) : ∀ w ∈ g_nw, va_Nw w (U.calling g mk a) := fun w hw => by
  have h2 : g_isN w = true := (List.mem_filter.mp hw).2
  cases w <;> first | exact va_Nw.same rfl rfl (h _ hw) | cases h2
theorem cz_Own (ad : Nat → Nat) (h0 : Nat) (h : ad 0 = h0) (ca : Nat → Nat) : cs_w ad ca 0 0 = [(h0, (.inr (6, [.null, .null, .null, .null, .null, .null, .null, .int 0, .null, .null, .null, .null, .null, .null, .int 0])))] := by
  subst h
  unfold cs_w ci_f cs_F
  simp only [List.mapIdx_cons, List.mapIdx_nil]
  rfl
def g_InitO (mc ms : Nat) : Prop :=
  ∀ (l : Launch) (D : va_G) (adS : Nat → Nat) (sz h0 : Nat), Met l yX8_init (g_ws yX8_init cX8_init 2 none) { frames := 30, cells := mc, slots := ms, locals := 3000 }
    (fun v U => v = #[Value.ref h0] ∧ U.heap.size = sz ∧ va_P D g_cl [(h0, (.inr (6, [.null, .null, .null, .null, .null, .null, .null, .int 0, .null, .null, .null, .null, .null, .null, .int 0])))] U.heap ∧ va_K D g_cl [] U ∧ va_D (fun _ => True) [(h0, (.inr (6, [.null, .null, .null, .null, .null, .null, .null, .int 0, .null, .null, .null, .null, .null, .null, .int 0])))] ∧ (∀ w ∈ g_nw, va_Nw w U) ∧ g_SX adS (va_A [(h0, (.inr (6, [.null, .null, .null, .null, .null, .null, .null, .int 0, .null, .null, .null, .null, .null, .null, .int 0])))] sz) U U.heap ∧ cq_AO U ∧ va_AO "OwnMade$Week" U)
    (fun _ st oc t => oc = .returned none ∧ (∃ (ad ca : Nat → Nat) (tys : List (ClassId × FieldType)), (ad 0 = h0 ∧ ∀ i, 900 ≤ i → ad i = adS i) ∧ g_Ty gC tys ca ∧ va_K D g_cl tys t ∧ va_P D g_cl (g_wW ad ca gC cs_c0) t.heap ∧ va_D (va_A [(h0, (.inr (6, [.null, .null, .null, .null, .null, .null, .null, .int 0, .null, .null, .null, .null, .null, .null, .int 0])))] sz) (g_wW ad ca gC cs_c0)) ∧ va_F (va_A [(h0, (.inr (6, [.null, .null, .null, .null, .null, .null, .null, .int 0, .null, .null, .null, .null, .null, .null, .int 0])))] sz) st t) mc ms (va_A [(h0, (.inr (6, [.null, .null, .null, .null, .null, .null, .null, .int 0, .null, .null, .null, .null, .null, .null, .int 0])))] sz)

theorem ct_mu (i : Nat) (_ : i < g_LTape.1) : cs_c0.1 (0 + 1 + i) = g_muT.1 i ∧ cs_c0.2.1 (0 + 1 + i) = g_muT.2.1 i := ⟨rfl, funext fun k => by
  show (if 0 + 1 + i = 2 then zt_wd k else 0) = (if i = 1 then zt_wd k else 0)
  by_cases e : i = 1
  · rw [if_pos e, if_pos (by omega)]
  · rw [if_neg e, if_neg (by omega)]⟩
section CsMarks
variable {p : Program} {l : Launch} {e : Env} {R : Room} {s : State} {m : MethodId} {args : Array Value} {below : List Frame} {meth : Method} {c : Code} {H : Heap} {locs : List Loc} {cells slots : Nat} {Q : State → Prop}
variable {cc : ByteArray} {pc : Nat} {ls : Array Slot} {D : va_G} {A : Nat → Prop} {tys : List (ClassId × FieldType)}
theorem cs_marks {adS ad ca : Nat → Nat} {h0 n mk index : Nat} {rest : List Value} (hx : p.tables.exec = Jvm.exec) (hb : c.code = cc) (hown : s.vm.findClass RX8 = some m.cls) (hts : ∀ w ∈ g_gw, w.before args s = true) (hfl : Cond.fieldLink RX8 index RX8 (TX8 6).2.1 (TX8 6).2.2.1 ∈ g_gw) (hd : decode cc pc = .ok (.getfield index, 3)) (hn : 69 ≤ n) (S : cs_S D A tys adS ad ca n mk h0 s H locs)
    (kk : W p l e R s m args below meth c H locs cells slots Q (F0 m (pc + 3) ls (.ref (ad 69) :: rest))) : W p l e R s m args below meth c H locs cells slots Q (F0 m pc ls (.ref h0 :: rest)) := by
  obtain ⟨a0, a9, hT, hK, hP, hD, hS⟩ := S
  subst a0
  refine va_get (v := .ref (ad 69)) (cc := cc) hx hb hts cf_X8.2.1 hown hK hP 0 rfl cf_X8.1 6 (Nat.le_of_ble_eq_true rfl) (hts _ hfl) (fun _ h => h) ?_ hd kk
  unfold ci_f
  rw [List.getElem?_mapIdx]
  show some (if 2 = 2 ∧ n < 69 then Value.null else Value.ref (ad 69)) = some (.ref (ad 69))
  rw [if_neg (by omega)]
end CsMarks
set_option maxHeartbeats 4000000 in
set_option maxRecDepth 20000 in
theorem ci_Own : g_InitO 132 11949 := by
  intro l D adS sz h0
  refine Met.ofW (cc := cX8_init) (maxL := 2) (ret := none) (by decide +kernel) rfl ?_
  intro p e s m args below meth c s₁ B hml hv
  obtain ⟨rfl, hsz, hP, hK, hD0, hN, hSX, hAO, hAW⟩ := hv
  have hts := atoms_spec (ws := g_ws yX8_init cX8_init 2 none) B.pre
  have hts2 : ∀ w ∈ g_gw, w.before #[Value.ref h0] s = true := fun w hw => hts w (List.mem_cons_of_mem _ hw)
  have hown : s.vm.findClass RX8 = some m.cls := findClass_of_methodNamed B.named
  have hx := B.exec
  have hb := B.bytes
  have hr := B.returns
  have hlocks := B.notSynchronized
  have hin : meth.name = "<init>" := (name_of_methodNamed B.named B.method).1
  subst hsz
  have hD := hD0.self (sz := s.heap.size)
  generalize hAe : va_A [(h0, (.inr (6, [.null, .null, .null, .null, .null, .null, .null, .int 0, .null, .null, .null, .null, .null, .null, .int 0])))] s.heap.size = A at hD hSX ⊢
  have hA : ∀ q : Nat, s.heap.size ≤ q → A q := fun q h => by rw [← hAe]; exact Or.inr h
  have hS : va_S A s.heap s.heap [] := va_S.rf
  rw [← cz_Own (fun i => if 900 ≤ i then adS i else h0) h0 rfl (fun _ => 0)] at hP hD
  have hS : cs_S D A [] adS (fun i => if 900 ≤ i then adS i else h0) (fun _ => 0) 0 0 h0 s s.heap [] := ⟨rfl, fun i hi => if_pos hi, fun i h1 h2 => absurd h1 (by omega), hK, hP, hD, hS⟩
  clear hP hD hK
  generalize (fun i : Nat => if 900 ≤ i then adS i else h0) = ad at hS
  generalize (fun _ : Nat => (0 : Nat)) = ca at hS
  have hl := lv_entry ([Value.ref h0]) (n := 2) (Nat.le_of_ble_eq_true rfl)
  rw [show (#[Value.ref h0] : Array Value) = ([Value.ref h0] : List Value).toArray from rfl, lg_entry_eq]
  generalize (lg_sl ([Value.ref h0]) ++ List.replicate (2 - (lg_sl ([Value.ref h0])).length) Slot.unset).toArray = ls at hl ⊢
  have hl : lv_has ls 2 [(0, .ref h0)] := hl
  refine lv_aload_n hx hb dX8_init_0 rfl (lv_at hl 0 rfl) ?_
  refine W.objInit (cc := cX8_init) (own := RX8) (idx := 1) hx hb hown (hts2 _ (g_in1 (List.mem_of_getElem? (i := 29) rfl) rfl)) (hts2 _ g_oin) (hts2 _ g_oco) rfl (by rw [hml]; exact hl.1) rfl dX8_init_1 (by show 1 ≤ 30; omega) (Nat.le_of_ble_eq_true rfl) ?_
  refine W.eq (g2 := F0 m 4 ls []) rfl ?_
  refine lv_aload_n hx hb dX8_init_4 rfl (lv_at hl 0 rfl) ?_
  refine cs_new (Ex := fun B U => (∀ w ∈ g_nw, va_Nw w U) ∧ g_SX adS B U U.heap) (n := 0) (mk := 0) (k := 0) (Λ' := g_LTape) (μ' := g_muT) (cc2 := cX6_init) (nL2 := 3) (mc := 5) (ms := 4023) (y2 := yX6_init) (fs0 := [.null, .null, .int 0, .null, .null, .null, .int 0, .int 0, .int 0, .long 0, .int 0]) hx hb hml hown hts2 hN hin (fun l D sz h0 => ci_Tape l D adS sz h0) cf_X6 (fun j hj => match j, hj with | 0, _ => rfl | 1, _ => rfl | 2, _ => rfl | 3, _ => rfl | 4, _ => rfl | 5, _ => rfl | 6, _ => rfl | 7, _ => rfl | 8, _ => rfl | 9, _ => rfl | 10, _ => rfl | k + 11, h => absurd h (by omega)) (g_in1 (List.mem_of_getElem? (i := 32) rfl) rfl) (g_in1 (List.mem_of_getElem? (i := 33) rfl) rfl) (g_in1 (List.mem_of_getElem? (i := 2) rfl) rfl) rfl (g_nn1 (List.mem_of_getElem? (i := 34) rfl) rfl) (g_in1 (List.mem_of_getElem? (i := 36) rfl) rfl) (g_in1 (List.mem_of_getElem? (i := 35) rfl) rfl) rfl (by decide +kernel) dX8_init_5 dX8_init_8 dX8_init_9 hl.1 (Nat.le_of_ble_eq_true rfl) ⟨Nat.le_of_ble_eq_true rfl, Nat.le_of_ble_eq_true rfl⟩ (Nat.le_of_ble_eq_true rfl) (Nat.le_of_ble_eq_true rfl) hA (fun B a U g mk h => ⟨ex_n_bl B a U g mk h.1, g_SX.vm (u := U) (U := U.calling g mk a) rfl h.2⟩) (fun U H1 B locs1 hW hU hS hB => ⟨g_nw_warm hW hN, by rw [hU]; exact g_SX.narrow (g_SX.kept (g_SX.warm hW hSX) (fun a h1 h2 => hS.2.1 a h1 h2)) hB⟩) (Nat.le_of_ble_eq_true rfl) rfl (g_in2 (List.mem_of_getElem? (i := 97) rfl) rfl) rfl (fun _ => rfl) (fun _ => rfl) dX8_init_12 (by decide +kernel) (by decide +kernel) (fun j hj => absurd hj (by omega)) ct_mu (by decide +kernel) (Nat.le_of_ble_eq_true rfl) (Nat.le_of_ble_eq_true rfl) hS ?_
  clear hS
  intro ad ca tys H locs hS
  have hS : cs_S D A tys adS ad ca 6 0 h0 s H locs := hS
  refine lv_aload_n hx hb dX8_init_15 rfl (lv_at hl 0 rfl) ?_
  refine cs_new (Ex := fun _ U => cq_AO U) (n := 6) (mk := 0) (k := 1) (Λ' := g_LLand) (μ' := g_mu0) (cc2 := cX1_init) (nL2 := 1) (mc := 22) (ms := 229) (y2 := yX1_init) (fs0 := [.int 0, .int 0, .int 0, .null, .null, .null, .null, .null, .null, .null, .null, .null]) hx hb hml hown hts2 hN hin (fun l D sz h0 => ci_Land l D sz h0) cf_X1 (fun j hj => match j, hj with | 0, _ => rfl | 1, _ => rfl | 2, _ => rfl | 3, _ => rfl | 4, _ => rfl | 5, _ => rfl | 6, _ => rfl | 7, _ => rfl | 8, _ => rfl | 9, _ => rfl | 10, _ => rfl | 11, _ => rfl | k + 12, h => absurd h (by omega)) (g_in1 (List.mem_of_getElem? (i := 134) rfl) rfl) (g_in1 (List.mem_of_getElem? (i := 135) rfl) rfl) (g_in1 (List.mem_of_getElem? (i := 7) rfl) rfl) rfl (g_nn1 (List.mem_of_getElem? (i := 136) rfl) rfl) (g_in1 (List.mem_of_getElem? (i := 138) rfl) rfl) (g_in1 (List.mem_of_getElem? (i := 137) rfl) rfl) rfl (by decide +kernel) dX8_init_16 dX8_init_19 dX8_init_20 hl.1 (Nat.le_of_ble_eq_true rfl) ⟨Nat.le_of_ble_eq_true rfl, Nat.le_of_ble_eq_true rfl⟩ (Nat.le_of_ble_eq_true rfl) (Nat.le_of_ble_eq_true rfl) hA (fun B a U g mk h => cq_AO.moved (u := U) (U := U.calling g mk a) (Vm.Alike.refl U.vm) h) (fun U H1 B locs1 hW hU hS hB => cq_AO.moved hW.alike hAO) (Nat.le_of_ble_eq_true rfl) rfl (g_in2 (List.mem_of_getElem? (i := 98) rfl) rfl) rfl (fun _ => rfl) (fun _ => rfl) dX8_init_23 (by decide +kernel) (by decide +kernel) (fun j hj => absurd hj (by omega)) (fun i hi => ⟨rfl, funext fun k => if_neg (by omega)⟩) (by decide +kernel) (Nat.le_of_ble_eq_true rfl) (Nat.le_of_ble_eq_true rfl) hS ?_
  clear hS
  intro ad ca tys H locs hS
  have hS : cs_S D A tys adS ad ca 29 0 h0 s H locs := hS
  refine lv_aload_n hx hb dX8_init_26 rfl (lv_at hl 0 rfl) ?_
  refine cs_new (Ex := fun _ U => cq_AO U) (n := 29) (mk := 0) (k := 2) (Λ' := g_LLand) (μ' := g_mu0) (cc2 := cX1_init) (nL2 := 1) (mc := 22) (ms := 229) (y2 := yX1_init) (fs0 := [.int 0, .int 0, .int 0, .null, .null, .null, .null, .null, .null, .null, .null, .null]) hx hb hml hown hts2 hN hin (fun l D sz h0 => ci_Land l D sz h0) cf_X1 (fun j hj => match j, hj with | 0, _ => rfl | 1, _ => rfl | 2, _ => rfl | 3, _ => rfl | 4, _ => rfl | 5, _ => rfl | 6, _ => rfl | 7, _ => rfl | 8, _ => rfl | 9, _ => rfl | 10, _ => rfl | 11, _ => rfl | k + 12, h => absurd h (by omega)) (g_in1 (List.mem_of_getElem? (i := 134) rfl) rfl) (g_in1 (List.mem_of_getElem? (i := 135) rfl) rfl) (g_in1 (List.mem_of_getElem? (i := 7) rfl) rfl) rfl (g_nn1 (List.mem_of_getElem? (i := 136) rfl) rfl) (g_in1 (List.mem_of_getElem? (i := 138) rfl) rfl) (g_in1 (List.mem_of_getElem? (i := 137) rfl) rfl) rfl (by decide +kernel) dX8_init_27 dX8_init_30 dX8_init_31 hl.1 (Nat.le_of_ble_eq_true rfl) ⟨Nat.le_of_ble_eq_true rfl, Nat.le_of_ble_eq_true rfl⟩ (Nat.le_of_ble_eq_true rfl) (Nat.le_of_ble_eq_true rfl) hA (fun B a U g mk h => cq_AO.moved (u := U) (U := U.calling g mk a) (Vm.Alike.refl U.vm) h) (fun U H1 B locs1 hW hU hS hB => cq_AO.moved hW.alike hAO) (Nat.le_of_ble_eq_true rfl) rfl (g_in2 (List.mem_of_getElem? (i := 99) rfl) rfl) rfl (fun _ => rfl) (fun _ => rfl) dX8_init_34 (by decide +kernel) (by decide +kernel) (fun j hj => absurd hj (by omega)) (fun i hi => ⟨rfl, funext fun k => if_neg (by omega)⟩) (by decide +kernel) (Nat.le_of_ble_eq_true rfl) (Nat.le_of_ble_eq_true rfl) hS ?_
  clear hS
  intro ad ca tys H locs hS
  have hS : cs_S D A tys adS ad ca 52 0 h0 s H locs := hS
  refine lv_aload_n hx hb dX8_init_37 rfl (lv_at hl 0 rfl) ?_
  refine cs_new (Ex := fun _ U => ∀ w ∈ g_nw, va_Nw w U) (n := 52) (mk := 0) (k := 3) (Λ' := g_LRule) (μ' := g_mu0) (cc2 := cX4_init) (nL2 := 1) (mc := 3) (ms := 1038) (y2 := yX4_init) (fs0 := [.null, .null, .int 0, .int 0, .null]) hx hb hml hown hts2 hN hin (fun l D sz h0 => ci_Rule l D sz h0) cf_X4 (fun j hj => match j, hj with | 0, _ => rfl | 1, _ => rfl | 2, _ => rfl | 3, _ => rfl | 4, _ => rfl | k + 5, h => absurd h (by omega)) (g_in1 (List.mem_of_getElem? (i := 203) rfl) rfl) (g_in1 (List.mem_of_getElem? (i := 204) rfl) rfl) (g_in1 (List.mem_of_getElem? (i := 8) rfl) rfl) rfl (g_nn1 (List.mem_of_getElem? (i := 205) rfl) rfl) (g_in1 (List.mem_of_getElem? (i := 207) rfl) rfl) (g_in1 (List.mem_of_getElem? (i := 206) rfl) rfl) rfl (by decide +kernel) dX8_init_38 dX8_init_41 dX8_init_42 hl.1 (Nat.le_of_ble_eq_true rfl) ⟨Nat.le_of_ble_eq_true rfl, Nat.le_of_ble_eq_true rfl⟩ (Nat.le_of_ble_eq_true rfl) (Nat.le_of_ble_eq_true rfl) hA ex_n_bl (fun U H1 B locs1 hW hU hS hB => g_nw_warm hW hN) (Nat.le_of_ble_eq_true rfl) rfl (g_in2 (List.mem_of_getElem? (i := 100) rfl) rfl) rfl (fun _ => rfl) (fun _ => rfl) dX8_init_45 (by decide +kernel) (by decide +kernel) (fun j hj => absurd hj (by omega)) (fun i hi => ⟨rfl, funext fun k => if_neg (by omega)⟩) (by decide +kernel) (Nat.le_of_ble_eq_true rfl) (Nat.le_of_ble_eq_true rfl) hS ?_
  clear hS
  intro ad ca tys H locs hS
  have hS : cs_S D A tys adS ad ca 56 0 h0 s H locs := hS
  refine lv_aload_n hx hb dX8_init_48 rfl (lv_at hl 0 rfl) ?_
  refine cs_new (Ex := fun _ U => ∀ w ∈ g_nw, va_Nw w U) (n := 56) (mk := 0) (k := 4) (Λ' := g_LRule) (μ' := g_mu0) (cc2 := cX4_init) (nL2 := 1) (mc := 3) (ms := 1038) (y2 := yX4_init) (fs0 := [.null, .null, .int 0, .int 0, .null]) hx hb hml hown hts2 hN hin (fun l D sz h0 => ci_Rule l D sz h0) cf_X4 (fun j hj => match j, hj with | 0, _ => rfl | 1, _ => rfl | 2, _ => rfl | 3, _ => rfl | 4, _ => rfl | k + 5, h => absurd h (by omega)) (g_in1 (List.mem_of_getElem? (i := 203) rfl) rfl) (g_in1 (List.mem_of_getElem? (i := 204) rfl) rfl) (g_in1 (List.mem_of_getElem? (i := 8) rfl) rfl) rfl (g_nn1 (List.mem_of_getElem? (i := 205) rfl) rfl) (g_in1 (List.mem_of_getElem? (i := 207) rfl) rfl) (g_in1 (List.mem_of_getElem? (i := 206) rfl) rfl) rfl (by decide +kernel) dX8_init_49 dX8_init_52 dX8_init_53 hl.1 (Nat.le_of_ble_eq_true rfl) ⟨Nat.le_of_ble_eq_true rfl, Nat.le_of_ble_eq_true rfl⟩ (Nat.le_of_ble_eq_true rfl) (Nat.le_of_ble_eq_true rfl) hA ex_n_bl (fun U H1 B locs1 hW hU hS hB => g_nw_warm hW hN) (Nat.le_of_ble_eq_true rfl) rfl (g_in2 (List.mem_of_getElem? (i := 101) rfl) rfl) rfl (fun _ => rfl) (fun _ => rfl) dX8_init_56 (by decide +kernel) (by decide +kernel) (fun j hj => absurd hj (by omega)) (fun i hi => ⟨rfl, funext fun k => if_neg (by omega)⟩) (by decide +kernel) (Nat.le_of_ble_eq_true rfl) (Nat.le_of_ble_eq_true rfl) hS ?_
  clear hS
  intro ad ca tys H locs hS
  have hS : cs_S D A tys adS ad ca 60 0 h0 s H locs := hS
  refine lv_aload_n hx hb dX8_init_59 rfl (lv_at hl 0 rfl) ?_
  refine cs_new (Ex := fun _ U => ∀ w ∈ g_nw, va_Nw w U) (n := 60) (mk := 0) (k := 5) (Λ' := g_LWeek) (μ' := g_mu0) (cc2 := cX7_init) (nL2 := 1) (mc := 7) (ms := 216) (y2 := yX7_init) (fs0 := [.int 0, .int 0, .null, .null, .null, .null, .null, .null, .null]) hx hb hml hown hts2 hN hin (fun l D sz h0 => ci_Week l D sz h0) cf_X7 (fun j hj => match j, hj with | 0, _ => rfl | 1, _ => rfl | 2, _ => rfl | 3, _ => rfl | 4, _ => rfl | 5, _ => rfl | 6, _ => rfl | 7, _ => rfl | 8, _ => rfl | k + 9, h => absurd h (by omega)) (g_in1 (List.mem_of_getElem? (i := 227) rfl) rfl) (g_in1 (List.mem_of_getElem? (i := 228) rfl) rfl) (g_in1 (List.mem_of_getElem? (i := 9) rfl) rfl) rfl (g_nn1 (List.mem_of_getElem? (i := 229) rfl) rfl) (g_in1 (List.mem_of_getElem? (i := 231) rfl) rfl) (g_in1 (List.mem_of_getElem? (i := 230) rfl) rfl) rfl (by decide +kernel) dX8_init_60 dX8_init_63 dX8_init_64 hl.1 (Nat.le_of_ble_eq_true rfl) ⟨Nat.le_of_ble_eq_true rfl, Nat.le_of_ble_eq_true rfl⟩ (Nat.le_of_ble_eq_true rfl) (Nat.le_of_ble_eq_true rfl) hA ex_n_bl (fun U H1 B locs1 hW hU hS hB => g_nw_warm hW hN) (Nat.le_of_ble_eq_true rfl) rfl (g_in2 (List.mem_of_getElem? (i := 102) rfl) rfl) rfl (fun _ => rfl) (fun _ => rfl) dX8_init_67 (by decide +kernel) (by decide +kernel) (fun j hj => absurd hj (by omega)) (fun i hi => ⟨rfl, funext fun k => if_neg (by omega)⟩) (by decide +kernel) (Nat.le_of_ble_eq_true rfl) (Nat.le_of_ble_eq_true rfl) hS ?_
  clear hS
  intro ad ca tys H locs hS
  have hS : cs_S D A tys adS ad ca 68 0 h0 s H locs := hS
  refine lv_aload_n hx hb dX8_init_70 rfl (lv_at hl 0 rfl) ?_
  refine lv_iconst (v := 4) hx hb dX8_init_71 (by decide) ?_
  refine cs_mark hx hb hown hts2 hin hA hAW (g_in1 (List.mem_of_getElem? (i := 227) rfl) rfl) (Nat.le_of_ble_eq_true rfl) (Nat.le_of_ble_eq_true rfl) dX8_init_72 (g_in2 (List.mem_of_getElem? (i := 103) rfl) rfl) dX8_init_75 hS ?_
  clear hS
  intro ad ca tys H locs hS
  refine lv_aload_n hx hb dX8_init_78 rfl (lv_at hl 0 rfl) ?_
  refine lv_bipush (v := 20) hx hb dX8_init_79 (by decide) ?_
  refine cs_row (n := 69) (mk := 0) (k := 8) (N' := 20) hx hb hown hts2 hin hA (by decide) (by decide) (Nat.le_of_ble_eq_true rfl) (Nat.le_of_ble_eq_true rfl) (Nat.le_of_ble_eq_true rfl) dX8_init_81 (Nat.le_of_ble_eq_true rfl) rfl (g_in2 (List.mem_of_getElem? (i := 105) rfl) rfl) rfl (fun _ => rfl) (fun _ => rfl) dX8_init_83 (by decide +kernel) (by decide +kernel) (fun j hj => absurd hj (by omega)) (by omega) (by decide +kernel) (by omega) hS ?_
  clear hS
  intro ad ca tys H locs hS
  have hS : cs_S D A tys adS ad ca 70 0 h0 s H locs := hS
  refine lv_aload_n hx hb dX8_init_86 rfl (lv_at hl 0 rfl) ?_
  refine cs_new (Ex := fun _ U => ∀ w ∈ g_nw, va_Nw w U) (n := 70) (mk := 0) (k := 9) (Λ' := g_LRounds) (μ' := g_mu0) (cc2 := cX3_init) (nL2 := 1) (mc := 9) (ms := 1280) (y2 := yX3_init) (fs0 := [.null, .null, .null, .null, .null, .null, .null, .null, .null]) hx hb hml hown hts2 hN hin (fun l D sz h0 => ci_Rounds l D sz h0) cf_X3 (fun j hj => match j, hj with | 0, _ => rfl | 1, _ => rfl | 2, _ => rfl | 3, _ => rfl | 4, _ => rfl | 5, _ => rfl | 6, _ => rfl | 7, _ => rfl | 8, _ => rfl | k + 9, h => absurd h (by omega)) (g_in2 (List.mem_of_getElem? (i := 31) rfl) rfl) (g_in2 (List.mem_of_getElem? (i := 32) rfl) rfl) (g_in1 (List.mem_of_getElem? (i := 10) rfl) rfl) rfl (g_nn2 (List.mem_of_getElem? (i := 33) rfl) rfl) (g_in2 (List.mem_of_getElem? (i := 35) rfl) rfl) (g_in2 (List.mem_of_getElem? (i := 34) rfl) rfl) rfl (by decide +kernel) dX8_init_87 dX8_init_90 dX8_init_91 hl.1 (Nat.le_of_ble_eq_true rfl) ⟨Nat.le_of_ble_eq_true rfl, Nat.le_of_ble_eq_true rfl⟩ (Nat.le_of_ble_eq_true rfl) (Nat.le_of_ble_eq_true rfl) hA ex_n_bl (fun U H1 B locs1 hW hU hS hB => g_nw_warm hW hN) (Nat.le_of_ble_eq_true rfl) rfl (g_in2 (List.mem_of_getElem? (i := 106) rfl) rfl) rfl (fun _ => rfl) (fun _ => rfl) dX8_init_94 (by decide +kernel) (by decide +kernel) (fun j hj => absurd hj (by omega)) (fun i hi => ⟨rfl, funext fun k => if_neg (by omega)⟩) (by decide +kernel) (Nat.le_of_ble_eq_true rfl) (Nat.le_of_ble_eq_true rfl) hS ?_
  clear hS
  intro ad ca tys H locs hS
  have hS : cs_S D A tys adS ad ca 80 0 h0 s H locs := hS
  refine lv_aload_n hx hb dX8_init_97 rfl (lv_at hl 0 rfl) ?_
  refine cs_new (Ex := fun _ U => ∀ w ∈ g_nw, va_Nw w U) (n := 80) (mk := 0) (k := 10) (Λ' := g_LRounds) (μ' := g_mu0) (cc2 := cX3_init) (nL2 := 1) (mc := 9) (ms := 1280) (y2 := yX3_init) (fs0 := [.null, .null, .null, .null, .null, .null, .null, .null, .null]) hx hb hml hown hts2 hN hin (fun l D sz h0 => ci_Rounds l D sz h0) cf_X3 (fun j hj => match j, hj with | 0, _ => rfl | 1, _ => rfl | 2, _ => rfl | 3, _ => rfl | 4, _ => rfl | 5, _ => rfl | 6, _ => rfl | 7, _ => rfl | 8, _ => rfl | k + 9, h => absurd h (by omega)) (g_in2 (List.mem_of_getElem? (i := 31) rfl) rfl) (g_in2 (List.mem_of_getElem? (i := 32) rfl) rfl) (g_in1 (List.mem_of_getElem? (i := 10) rfl) rfl) rfl (g_nn2 (List.mem_of_getElem? (i := 33) rfl) rfl) (g_in2 (List.mem_of_getElem? (i := 35) rfl) rfl) (g_in2 (List.mem_of_getElem? (i := 34) rfl) rfl) rfl (by decide +kernel) dX8_init_98 dX8_init_101 dX8_init_102 hl.1 (Nat.le_of_ble_eq_true rfl) ⟨Nat.le_of_ble_eq_true rfl, Nat.le_of_ble_eq_true rfl⟩ (Nat.le_of_ble_eq_true rfl) (Nat.le_of_ble_eq_true rfl) hA ex_n_bl (fun U H1 B locs1 hW hU hS hB => g_nw_warm hW hN) (Nat.le_of_ble_eq_true rfl) rfl (g_in2 (List.mem_of_getElem? (i := 107) rfl) rfl) rfl (fun _ => rfl) (fun _ => rfl) dX8_init_105 (by decide +kernel) (by decide +kernel) (fun j hj => absurd hj (by omega)) (fun i hi => ⟨rfl, funext fun k => if_neg (by omega)⟩) (by decide +kernel) (Nat.le_of_ble_eq_true rfl) (Nat.le_of_ble_eq_true rfl) hS ?_
  clear hS
  intro ad ca tys H locs hS
  have hS : cs_S D A tys adS ad ca 90 0 h0 s H locs := hS
  refine lv_aload_n hx hb dX8_init_108 rfl (lv_at hl 0 rfl) ?_
  refine cs_new (Ex := fun _ U => cq_AO U) (n := 90) (mk := 0) (k := 11) (Λ' := g_LHomes) (μ' := g_mu0) (cc2 := cX0_init) (nL2 := 1) (mc := 7) (ms := 1542) (y2 := yX0_init) (fs0 := [.null, .int 0, .int 0, .int 0, .int 0, .int 0]) hx hb hml hown hts2 hN hin (fun l D sz h0 => ci_Homes l D sz h0) cf_X0 (fun j hj => match j, hj with | 0, _ => rfl | 1, _ => rfl | 2, _ => rfl | 3, _ => rfl | 4, _ => rfl | 5, _ => rfl | k + 6, h => absurd h (by omega)) (g_in2 (List.mem_of_getElem? (i := 69) rfl) rfl) (g_in2 (List.mem_of_getElem? (i := 70) rfl) rfl) (g_in1 (List.mem_of_getElem? (i := 11) rfl) rfl) rfl (g_nn2 (List.mem_of_getElem? (i := 71) rfl) rfl) (g_in2 (List.mem_of_getElem? (i := 73) rfl) rfl) (g_in2 (List.mem_of_getElem? (i := 72) rfl) rfl) rfl (by decide +kernel) dX8_init_109 dX8_init_112 dX8_init_113 hl.1 (Nat.le_of_ble_eq_true rfl) ⟨Nat.le_of_ble_eq_true rfl, Nat.le_of_ble_eq_true rfl⟩ (Nat.le_of_ble_eq_true rfl) (Nat.le_of_ble_eq_true rfl) hA (fun B a U g mk h => cq_AO.moved (u := U) (U := U.calling g mk a) (Vm.Alike.refl U.vm) h) (fun U H1 B locs1 hW hU hS hB => cq_AO.moved hW.alike hAO) (Nat.le_of_ble_eq_true rfl) rfl (g_in2 (List.mem_of_getElem? (i := 108) rfl) rfl) rfl (fun _ => rfl) (fun _ => rfl) dX8_init_116 (by decide +kernel) (by decide +kernel) (fun j hj => absurd hj (by omega)) (fun i hi => ⟨rfl, funext fun k => if_neg (by omega)⟩) (by decide +kernel) (Nat.le_of_ble_eq_true rfl) (Nat.le_of_ble_eq_true rfl) hS ?_
  clear hS
  intro ad ca tys H locs hS
  have hS : cs_S D A tys adS ad ca 98 0 h0 s H locs := hS
  refine lv_aload_n hx hb dX8_init_119 rfl (lv_at hl 0 rfl) ?_
  refine lv_bipush (v := 8) hx hb dX8_init_120 (by decide) ?_
  refine cs_row (n := 98) (mk := 0) (k := 12) (N' := 8) hx hb hown hts2 hin hA (by decide) (by decide) (Nat.le_of_ble_eq_true rfl) (Nat.le_of_ble_eq_true rfl) (Nat.le_of_ble_eq_true rfl) dX8_init_122 (Nat.le_of_ble_eq_true rfl) rfl (g_in2 (List.mem_of_getElem? (i := 109) rfl) rfl) rfl (fun _ => rfl) (fun _ => rfl) dX8_init_124 (by decide +kernel) (by decide +kernel) (fun j hj => absurd hj (by omega)) (by omega) (by decide +kernel) (by omega) hS ?_
  clear hS
  intro ad ca tys H locs hS
  have hS : cs_S D A tys adS ad ca 99 0 h0 s H locs := hS
  refine lv_aload_n hx hb dX8_init_127 rfl (lv_at hl 0 rfl) ?_
  refine lv_bipush (v := 64) hx hb dX8_init_128 (by decide) ?_
  refine cs_row (n := 99) (mk := 0) (k := 13) (N' := 64) hx hb hown hts2 hin hA (by decide) (by decide) (Nat.le_of_ble_eq_true rfl) (Nat.le_of_ble_eq_true rfl) (Nat.le_of_ble_eq_true rfl) dX8_init_130 (Nat.le_of_ble_eq_true rfl) rfl (g_in2 (List.mem_of_getElem? (i := 110) rfl) rfl) rfl (fun _ => rfl) (fun _ => rfl) dX8_init_132 (by decide +kernel) (by decide +kernel) (fun j hj => absurd hj (by omega)) (by omega) (by decide +kernel) (by omega) hS ?_
  clear hS
  intro ad ca tys H locs hS
  have hS : cs_S D A tys adS ad ca 100 0 h0 s H locs := hS
  refine lv_iconst (v := 0) hx hb dX8_init_135 (by decide) ?_
  refine lv_istore_n (lv' := [(1, .int 0), (0, .ref h0)]) hx hb dX8_init_136 rfl hl (by decide) rfl (fun ls hl => ?_)
  refine lv_iload_n hx hb dX8_init_137 rfl (lv_at hl 0 rfl) ?_
  refine lv_iconst (v := 4) hx hb dX8_init_138 (by decide) ?_
  refine lv_icmp_ge (tgt := 161) hx hb dX8_init_139 (by decide) (fun h => absurd h (by decide)) (fun _ => ?_)
  refine lv_aload_n hx hb dX8_init_142 rfl (lv_at hl 1 rfl) ?_
  refine cs_marks hx hb hown hts2 (g_in2 (List.mem_of_getElem? (i := 103) rfl) rfl) dX8_init_143 (by omega) hS ?_
  refine lv_iload_n hx hb dX8_init_146 rfl (lv_at hl 0 rfl) ?_
  refine cs_week (j := 0) (Ex := fun _ U => ∀ w ∈ g_nw, va_Nw w U) (Λ' := g_LWeek) (cc2 := cX7_init) (nL2 := 1) (mc := 7) (ms := 216) (y2 := yX7_init) (fs0 := [.int 0, .int 0, .null, .null, .null, .null, .null, .null, .null]) hx hb hml hown hts2 hN (fun l D sz h0 => ci_Week l D sz h0) (fun j hj => match j, hj with | 0, _ => rfl | 1, _ => rfl | 2, _ => rfl | 3, _ => rfl | 4, _ => rfl | 5, _ => rfl | 6, _ => rfl | 7, _ => rfl | 8, _ => rfl | k + 9, h => absurd h (by omega)) (g_in1 (List.mem_of_getElem? (i := 227) rfl) rfl) (g_in1 (List.mem_of_getElem? (i := 228) rfl) rfl) (g_in1 (List.mem_of_getElem? (i := 9) rfl) rfl) rfl (g_nn1 (List.mem_of_getElem? (i := 229) rfl) rfl) (g_in1 (List.mem_of_getElem? (i := 231) rfl) rfl) (g_in1 (List.mem_of_getElem? (i := 230) rfl) rfl) rfl (by decide +kernel) dX8_init_147 dX8_init_150 dX8_init_151 dX8_init_154 hl.1 (Nat.le_of_ble_eq_true rfl) ⟨Nat.le_of_ble_eq_true rfl, Nat.le_of_ble_eq_true rfl⟩ (Nat.le_of_ble_eq_true rfl) (Nat.le_of_ble_eq_true rfl) hA ex_n_bl (fun U H1 B locs1 hW hU hS hB => g_nw_warm hW hN) rfl rfl (by omega) (by decide) (fun h => absurd h (by decide)) (by decide +kernel) (by decide +kernel) (by decide +kernel) hS ?_
  clear hS
  intro ad ca tys H locs hS
  have hS : cs_S D A tys adS ad ca (100 + 8 * 1) 1 h0 s H locs := hS
  refine lv_iinc (v := 1) (lv' := [(1, .int 1), (0, .ref h0)]) hx hb dX8_init_155 hl (k := 0) rfl (by decide) (by decide) rfl (fun ls hl => ?_)
  refine lv_goto (tgt := 137) hx hb dX8_init_158 (by decide) ?_
  refine lv_iload_n hx hb dX8_init_137 rfl (lv_at hl 0 rfl) ?_
  refine lv_iconst (v := 4) hx hb dX8_init_138 (by decide) ?_
  refine lv_icmp_ge (tgt := 161) hx hb dX8_init_139 (by decide) (fun h => absurd h (by decide)) (fun _ => ?_)
  refine lv_aload_n hx hb dX8_init_142 rfl (lv_at hl 1 rfl) ?_
  refine cs_marks hx hb hown hts2 (g_in2 (List.mem_of_getElem? (i := 103) rfl) rfl) dX8_init_143 (by omega) hS ?_
  refine lv_iload_n hx hb dX8_init_146 rfl (lv_at hl 0 rfl) ?_
  refine cs_week (j := 1) (Ex := fun _ U => ∀ w ∈ g_nw, va_Nw w U) (Λ' := g_LWeek) (cc2 := cX7_init) (nL2 := 1) (mc := 7) (ms := 216) (y2 := yX7_init) (fs0 := [.int 0, .int 0, .null, .null, .null, .null, .null, .null, .null]) hx hb hml hown hts2 hN (fun l D sz h0 => ci_Week l D sz h0) (fun j hj => match j, hj with | 0, _ => rfl | 1, _ => rfl | 2, _ => rfl | 3, _ => rfl | 4, _ => rfl | 5, _ => rfl | 6, _ => rfl | 7, _ => rfl | 8, _ => rfl | k + 9, h => absurd h (by omega)) (g_in1 (List.mem_of_getElem? (i := 227) rfl) rfl) (g_in1 (List.mem_of_getElem? (i := 228) rfl) rfl) (g_in1 (List.mem_of_getElem? (i := 9) rfl) rfl) rfl (g_nn1 (List.mem_of_getElem? (i := 229) rfl) rfl) (g_in1 (List.mem_of_getElem? (i := 231) rfl) rfl) (g_in1 (List.mem_of_getElem? (i := 230) rfl) rfl) rfl (by decide +kernel) dX8_init_147 dX8_init_150 dX8_init_151 dX8_init_154 hl.1 (Nat.le_of_ble_eq_true rfl) ⟨Nat.le_of_ble_eq_true rfl, Nat.le_of_ble_eq_true rfl⟩ (Nat.le_of_ble_eq_true rfl) (Nat.le_of_ble_eq_true rfl) hA ex_n_bl (fun U H1 B locs1 hW hU hS hB => g_nw_warm hW hN) rfl rfl (by omega) (by decide) (fun h => absurd h (by decide)) (by decide +kernel) (by decide +kernel) (by decide +kernel) hS ?_
  clear hS
  intro ad ca tys H locs hS
  have hS : cs_S D A tys adS ad ca (100 + 8 * 2) 2 h0 s H locs := hS
  refine lv_iinc (v := 2) (lv' := [(1, .int 2), (0, .ref h0)]) hx hb dX8_init_155 hl (k := 0) rfl (by decide) (by decide) rfl (fun ls hl => ?_)
  refine lv_goto (tgt := 137) hx hb dX8_init_158 (by decide) ?_
  refine lv_iload_n hx hb dX8_init_137 rfl (lv_at hl 0 rfl) ?_
  refine lv_iconst (v := 4) hx hb dX8_init_138 (by decide) ?_
  refine lv_icmp_ge (tgt := 161) hx hb dX8_init_139 (by decide) (fun h => absurd h (by decide)) (fun _ => ?_)
  refine lv_aload_n hx hb dX8_init_142 rfl (lv_at hl 1 rfl) ?_
  refine cs_marks hx hb hown hts2 (g_in2 (List.mem_of_getElem? (i := 103) rfl) rfl) dX8_init_143 (by omega) hS ?_
  refine lv_iload_n hx hb dX8_init_146 rfl (lv_at hl 0 rfl) ?_
  refine cs_week (j := 2) (Ex := fun _ U => ∀ w ∈ g_nw, va_Nw w U) (Λ' := g_LWeek) (cc2 := cX7_init) (nL2 := 1) (mc := 7) (ms := 216) (y2 := yX7_init) (fs0 := [.int 0, .int 0, .null, .null, .null, .null, .null, .null, .null]) hx hb hml hown hts2 hN (fun l D sz h0 => ci_Week l D sz h0) (fun j hj => match j, hj with | 0, _ => rfl | 1, _ => rfl | 2, _ => rfl | 3, _ => rfl | 4, _ => rfl | 5, _ => rfl | 6, _ => rfl | 7, _ => rfl | 8, _ => rfl | k + 9, h => absurd h (by omega)) (g_in1 (List.mem_of_getElem? (i := 227) rfl) rfl) (g_in1 (List.mem_of_getElem? (i := 228) rfl) rfl) (g_in1 (List.mem_of_getElem? (i := 9) rfl) rfl) rfl (g_nn1 (List.mem_of_getElem? (i := 229) rfl) rfl) (g_in1 (List.mem_of_getElem? (i := 231) rfl) rfl) (g_in1 (List.mem_of_getElem? (i := 230) rfl) rfl) rfl (by decide +kernel) dX8_init_147 dX8_init_150 dX8_init_151 dX8_init_154 hl.1 (Nat.le_of_ble_eq_true rfl) ⟨Nat.le_of_ble_eq_true rfl, Nat.le_of_ble_eq_true rfl⟩ (Nat.le_of_ble_eq_true rfl) (Nat.le_of_ble_eq_true rfl) hA ex_n_bl (fun U H1 B locs1 hW hU hS hB => g_nw_warm hW hN) rfl rfl (by omega) (by decide) (fun h => absurd h (by decide)) (by decide +kernel) (by decide +kernel) (by decide +kernel) hS ?_
  clear hS
  intro ad ca tys H locs hS
  have hS : cs_S D A tys adS ad ca (100 + 8 * 3) 3 h0 s H locs := hS
  refine lv_iinc (v := 3) (lv' := [(1, .int 3), (0, .ref h0)]) hx hb dX8_init_155 hl (k := 0) rfl (by decide) (by decide) rfl (fun ls hl => ?_)
  refine lv_goto (tgt := 137) hx hb dX8_init_158 (by decide) ?_
  refine lv_iload_n hx hb dX8_init_137 rfl (lv_at hl 0 rfl) ?_
  refine lv_iconst (v := 4) hx hb dX8_init_138 (by decide) ?_
  refine lv_icmp_ge (tgt := 161) hx hb dX8_init_139 (by decide) (fun h => absurd h (by decide)) (fun _ => ?_)
  refine lv_aload_n hx hb dX8_init_142 rfl (lv_at hl 1 rfl) ?_
  refine cs_marks hx hb hown hts2 (g_in2 (List.mem_of_getElem? (i := 103) rfl) rfl) dX8_init_143 (by omega) hS ?_
  refine lv_iload_n hx hb dX8_init_146 rfl (lv_at hl 0 rfl) ?_
  refine cs_week (j := 3) (Ex := fun _ U => ∀ w ∈ g_nw, va_Nw w U) (Λ' := g_LWeek) (cc2 := cX7_init) (nL2 := 1) (mc := 7) (ms := 216) (y2 := yX7_init) (fs0 := [.int 0, .int 0, .null, .null, .null, .null, .null, .null, .null]) hx hb hml hown hts2 hN (fun l D sz h0 => ci_Week l D sz h0) (fun j hj => match j, hj with | 0, _ => rfl | 1, _ => rfl | 2, _ => rfl | 3, _ => rfl | 4, _ => rfl | 5, _ => rfl | 6, _ => rfl | 7, _ => rfl | 8, _ => rfl | k + 9, h => absurd h (by omega)) (g_in1 (List.mem_of_getElem? (i := 227) rfl) rfl) (g_in1 (List.mem_of_getElem? (i := 228) rfl) rfl) (g_in1 (List.mem_of_getElem? (i := 9) rfl) rfl) rfl (g_nn1 (List.mem_of_getElem? (i := 229) rfl) rfl) (g_in1 (List.mem_of_getElem? (i := 231) rfl) rfl) (g_in1 (List.mem_of_getElem? (i := 230) rfl) rfl) rfl (by decide +kernel) dX8_init_147 dX8_init_150 dX8_init_151 dX8_init_154 hl.1 (Nat.le_of_ble_eq_true rfl) ⟨Nat.le_of_ble_eq_true rfl, Nat.le_of_ble_eq_true rfl⟩ (Nat.le_of_ble_eq_true rfl) (Nat.le_of_ble_eq_true rfl) hA ex_n_bl (fun U H1 B locs1 hW hU hS hB => g_nw_warm hW hN) rfl rfl (by omega) (by decide) (fun h => absurd h (by decide)) (by decide +kernel) (by decide +kernel) (by decide +kernel) hS ?_
  clear hS
  intro ad ca tys H locs hS
  have hS : cs_S D A tys adS ad ca (100 + 8 * 4) 4 h0 s H locs := hS
  refine lv_iinc (v := 4) (lv' := [(1, .int 4), (0, .ref h0)]) hx hb dX8_init_155 hl (k := 0) rfl (by decide) (by decide) rfl (fun ls hl => ?_)
  refine lv_goto (tgt := 137) hx hb dX8_init_158 (by decide) ?_
  refine lv_iload_n hx hb dX8_init_137 rfl (lv_at hl 0 rfl) ?_
  refine lv_iconst (v := 4) hx hb dX8_init_138 (by decide) ?_
  refine lv_icmp_ge (tgt := 161) hx hb dX8_init_139 (by decide) (fun _ => ?_) (fun h => absurd (by decide) h)
  obtain ⟨h9, hS9, hT, hK, hP, hD, hS⟩ := hS
  have hP := cj_P cs_fin hP
  have hD := cj_D cs_fin hD
  exact W.vret (cc := cX8_init) hx hb hr (fun t ht hW => ⟨rfl, ⟨ad, ca, tys, ⟨h9, hS9⟩, ci_tys ly_Own rfl hT, va_K.moved hW.alike hK, (by rw [ht]; exact hP), hD⟩, hS.F ht⟩) hS.2.2 dX8_init_161 hlocks
