theorem dX0_init_0 : decode cX0_init 0 = .ok (.aload_n 0, 1) := by decide +kernel
theorem dX0_init_1 : decode cX0_init 1 = .ok (.invokespecial 3, 3) := by decide +kernel
theorem dX0_init_4 : decode cX0_init 4 = .ok (.aload_n 0, 1) := by decide +kernel
theorem dX0_init_5 : decode cX0_init 5 = .ok (.bipush 6, 2) := by decide +kernel
theorem dX0_init_7 : decode cX0_init 7 = .ok (.sipush 256, 3) := by decide +kernel
theorem dX0_init_10 : decode cX0_init 10 = .ok (.multianewarray 9 2, 4) := by decide +kernel
theorem dX0_init_14 : decode cX0_init 14 = .ok (.putfield 11, 3) := by decide +kernel
theorem dX0_init_17 : decode cX0_init 17 = .ok (.return_, 1) := by decide +kernel
def g_FHomes : List (Nat × Nat) := [(2, 1), (0, 0), (0, 0), (0, 0), (0, 0), (0, 0)]
def g_LHomes : g_Lay := (8, fun id => [(.inl (0, g_FHomes)), (.inr (4, 6, fun j => 2 + j)), (.inr (0, 256, g_zf)), (.inr (0, 256, g_zf)), (.inr (0, 256, g_zf)), (.inr (0, 256, g_zf)), (.inr (0, 256, g_zf)), (.inr (0, 256, g_zf))].getD id (.inl (0, [])))
theorem cF_Homes : g_FHomes.all (fun p => decide (p.1 ≤ 2)) = true := by decide +kernel
theorem cB_Homes : g_FHomes.all (fun p => decide (p.1 = 2 → p.2 ≤ 7)) = true := by decide +kernel
theorem cO_Homes : ci_one g_FHomes := (by decide +kernel : g_FHomes.Pairwise (fun p q => p.1 = 2 → q.1 = 2 → p.2 ≠ q.2))
set_option maxRecDepth 100000 in
theorem cz_Homes (h0 : Nat) (ca : Nat → Nat) : ci_w g_LHomes g_mu0 0 g_FHomes (fun _ => h0) ca 0 = [(h0, (.inr (0, [.null, .int 0, .int 0, .int 0, .int 0, .int 0])))] := by
  unfold ci_w ci_f g_FHomes
  simp only [List.mapIdx_cons, List.mapIdx_nil]
  rfl
set_option maxHeartbeats 4000000 in
set_option maxRecDepth 20000 in
theorem ci_Homes : g_InitA g_LHomes g_mu0 (.inr (0, [.null, .int 0, .int 0, .int 0, .int 0, .int 0])) yX0_init cX0_init 1 7 1542 := by
  intro l D sz h0
  refine Met.ofW (cc := cX0_init) (maxL := 1) (ret := none) (by decide +kernel) rfl ?_
  intro p e s m args below meth c s₁ B hml hv
  obtain ⟨rfl, hsz, hP, hK, hD0, hN⟩ := hv
  have hts := atoms_spec (ws := g_ws yX0_init cX0_init 1 none) B.pre
  have hts2 : ∀ w ∈ g_gw, w.before #[Value.ref h0] s = true := fun w hw => hts w (List.mem_cons_of_mem _ hw)
  have hown : s.vm.findClass RX0 = some m.cls := findClass_of_methodNamed B.named
  have hx := B.exec
  have hb := B.bytes
  have hr := B.returns
  have hlocks := B.notSynchronized
  have hin : meth.name = "<init>" := (name_of_methodNamed B.named B.method).1
  subst hsz
  have hD := hD0.self (sz := s.heap.size)
  generalize hAe : va_A [(h0, (.inr (0, [.null, .int 0, .int 0, .int 0, .int 0, .int 0])))] s.heap.size = A at hD ⊢
  have hA : ∀ q : Nat, s.heap.size ≤ q → A q := fun q h => by rw [← hAe]; exact Or.inr h
  have hS : va_S A s.heap s.heap [] := va_S.rf
  rw [← cz_Homes h0 (fun _ => 0)] at hP hD
  have h9 : (fun _ : Nat => h0) 0 = h0 := rfl
  generalize (fun _ : Nat => h0) = ad at h9 hP hD
  have hT : ci_ty g_LHomes (fun _ => 0) [] 0 := fun i h1 h2 => absurd h1 (by omega)
  generalize (fun _ : Nat => (0 : Nat)) = ca at hT hP hD
  have hl := lv_entry ([Value.ref h0]) (n := 1) (Nat.le_of_ble_eq_true rfl)
  rw [show (#[Value.ref h0] : Array Value) = ([Value.ref h0] : List Value).toArray from rfl, lg_entry_eq]
  generalize (lg_sl ([Value.ref h0]) ++ List.replicate (1 - (lg_sl ([Value.ref h0])).length) Slot.unset).toArray = ls at hl ⊢
  have hl : lv_has ls 1 [(0, .ref h0)] := hl
  refine lv_aload_n hx hb dX0_init_0 rfl (lv_at hl 0 rfl) ?_
  refine W.objInit (cc := cX0_init) (own := RX0) (idx := 3) hx hb hown (hts2 _ (g_in2 (List.mem_of_getElem? (i := 74) rfl) rfl)) (hts2 _ g_oin) (hts2 _ g_oco) rfl (by rw [hml]; exact hl.1) rfl dX0_init_1 (by show 1 ≤ 20; omega) (Nat.le_of_ble_eq_true rfl) ?_
  refine W.eq (g2 := F0 m 4 ls []) rfl ?_
  refine lv_aload_n hx hb dX0_init_4 rfl (lv_at hl 0 rfl) ?_
  refine lv_bipush (v := 6) hx hb dX0_init_5 (by decide) ?_
  refine lv_sipush (v := 256) hx hb dX0_init_7 (by decide) ?_
  refine ci_step2 (Λ := g_LHomes) (n := 0) (cc := cX0_init) (ref := RX0) (N' := 6) (K' := 256) hx hb hts2 cf_X0 hown hin hA rfl cF_Homes (by decide +kernel) cO_Homes (ci_sh_of (by decide +kernel)) rfl (fun _ _ => rfl) (fun j hj => match j, hj with | 0, _ => rfl | 1, _ => rfl | 2, _ => rfl | 3, _ => rfl | 4, _ => rfl | 5, _ => rfl | k + 6, h => absurd h (by omega)) h9 hT hK hP hD hS (g_in2 (List.mem_of_getElem? (i := 75) rfl) rfl) hN (by decide) (by decide) (by decide) (by decide) (Nat.le_of_ble_eq_true rfl) (Nat.le_of_ble_eq_true rfl) (Nat.le_of_ble_eq_true rfl) (Nat.le_of_ble_eq_true rfl) dX0_init_10 0 (Nat.le_of_ble_eq_true rfl) rfl (g_in2 (List.mem_of_getElem? (i := 76) rfl) rfl) (fun _ h => h) rfl rfl (fun _ => rfl) (fun _ => rfl) dX0_init_14 ?_
  clear h9 hT hK hP hD hS
  intro ad ca tys H locs h9 hT hK hP hD hS
  rw [ci_fin (Λ := g_LHomes) rfl rfl cB_Homes] at hP hD
  exact W.vret (cc := cX0_init) hx hb hr (fun t ht hW => ⟨rfl, ⟨ad, ca, tys, h9, ci_tys rfl rfl hT, va_K.moved hW.alike hK, (by rw [ht]; exact hP), hD⟩, hS.F ht⟩) hS.2.2 dX0_init_17 hlocks
theorem dX1_init_0 : decode cX1_init 0 = .ok (.aload_n 0, 1) := by decide +kernel
theorem dX1_init_1 : decode cX1_init 1 = .ok (.invokespecial 3, 3) := by decide +kernel
theorem dX1_init_4 : decode cX1_init 4 = .ok (.aload_n 0, 1) := by decide +kernel
theorem dX1_init_5 : decode cX1_init 5 = .ok (.iconst 5, 1) := by decide +kernel
theorem dX1_init_6 : decode cX1_init 6 = .ok (.newarray .long, 2) := by decide +kernel
theorem dX1_init_8 : decode cX1_init 8 = .ok (.putfield 9, 3) := by decide +kernel
theorem dX1_init_11 : decode cX1_init 11 = .ok (.aload_n 0, 1) := by decide +kernel
theorem dX1_init_12 : decode cX1_init 12 = .ok (.bipush 6, 2) := by decide +kernel
theorem dX1_init_14 : decode cX1_init 14 = .ok (.newarray .long, 2) := by decide +kernel
theorem dX1_init_16 : decode cX1_init 16 = .ok (.putfield 15, 3) := by decide +kernel
theorem dX1_init_19 : decode cX1_init 19 = .ok (.aload_n 0, 1) := by decide +kernel
theorem dX1_init_20 : decode cX1_init 20 = .ok (.bipush 8, 2) := by decide +kernel
theorem dX1_init_22 : decode cX1_init 22 = .ok (.newarray .long, 2) := by decide +kernel
theorem dX1_init_24 : decode cX1_init 24 = .ok (.putfield 18, 3) := by decide +kernel
theorem dX1_init_27 : decode cX1_init 27 = .ok (.aload_n 0, 1) := by decide +kernel
theorem dX1_init_28 : decode cX1_init 28 = .ok (.iconst 5, 1) := by decide +kernel
theorem dX1_init_29 : decode cX1_init 29 = .ok (.iconst 5, 1) := by decide +kernel
theorem dX1_init_30 : decode cX1_init 30 = .ok (.multianewarray 21 2, 4) := by decide +kernel
theorem dX1_init_34 : decode cX1_init 34 = .ok (.putfield 23, 3) := by decide +kernel
theorem dX1_init_37 : decode cX1_init 37 = .ok (.aload_n 0, 1) := by decide +kernel
theorem dX1_init_38 : decode cX1_init 38 = .ok (.bipush 6, 2) := by decide +kernel
theorem dX1_init_40 : decode cX1_init 40 = .ok (.newarray .int, 2) := by decide +kernel
theorem dX1_init_42 : decode cX1_init 42 = .ok (.putfield 26, 3) := by decide +kernel
theorem dX1_init_45 : decode cX1_init 45 = .ok (.aload_n 0, 1) := by decide +kernel
theorem dX1_init_46 : decode cX1_init 46 = .ok (.bipush 6, 2) := by decide +kernel
theorem dX1_init_48 : decode cX1_init 48 = .ok (.newarray .int, 2) := by decide +kernel
theorem dX1_init_50 : decode cX1_init 50 = .ok (.putfield 30, 3) := by decide +kernel
theorem dX1_init_53 : decode cX1_init 53 = .ok (.aload_n 0, 1) := by decide +kernel
theorem dX1_init_54 : decode cX1_init 54 = .ok (.bipush 8, 2) := by decide +kernel
theorem dX1_init_56 : decode cX1_init 56 = .ok (.newarray .int, 2) := by decide +kernel
theorem dX1_init_58 : decode cX1_init 58 = .ok (.putfield 33, 3) := by decide +kernel
theorem dX1_init_61 : decode cX1_init 61 = .ok (.aload_n 0, 1) := by decide +kernel
theorem dX1_init_62 : decode cX1_init 62 = .ok (.bipush 8, 2) := by decide +kernel
theorem dX1_init_64 : decode cX1_init 64 = .ok (.newarray .int, 2) := by decide +kernel
theorem dX1_init_66 : decode cX1_init 66 = .ok (.putfield 36, 3) := by decide +kernel
theorem dX1_init_69 : decode cX1_init 69 = .ok (.aload_n 0, 1) := by decide +kernel
theorem dX1_init_70 : decode cX1_init 70 = .ok (.bipush 8, 2) := by decide +kernel
theorem dX1_init_72 : decode cX1_init 72 = .ok (.bipush 18, 2) := by decide +kernel
theorem dX1_init_74 : decode cX1_init 74 = .ok (.multianewarray 21 2, 4) := by decide +kernel
theorem dX1_init_78 : decode cX1_init 78 = .ok (.putfield 39, 3) := by decide +kernel
theorem dX1_init_81 : decode cX1_init 81 = .ok (.return_, 1) := by decide +kernel
def g_FLand : List (Nat × Nat) := [(0, 0), (0, 0), (0, 0), (2, 1), (2, 2), (2, 3), (2, 4), (2, 10), (2, 11), (2, 12), (2, 13), (2, 14)]
def g_LLand : g_Lay := (23, fun id => [(.inl (1, g_FLand)), (.inr (1, 5, g_zf)), (.inr (1, 6, g_zf)), (.inr (1, 8, g_zf)), (.inr (4, 5, fun j => 5 + j)), (.inr (0, 5, g_zf)), (.inr (0, 5, g_zf)), (.inr (0, 5, g_zf)), (.inr (0, 5, g_zf)), (.inr (0, 5, g_zf)), (.inr (0, 6, g_zf)), (.inr (0, 6, g_zf)), (.inr (0, 8, g_zf)), (.inr (0, 8, g_zf)), (.inr (4, 8, fun j => 15 + j)), (.inr (0, 18, g_zf)), (.inr (0, 18, g_zf)), (.inr (0, 18, g_zf)), (.inr (0, 18, g_zf)), (.inr (0, 18, g_zf)), (.inr (0, 18, g_zf)), (.inr (0, 18, g_zf)), (.inr (0, 18, g_zf))].getD id (.inl (0, [])))
theorem cF_Land : g_FLand.all (fun p => decide (p.1 ≤ 2)) = true := by decide +kernel
theorem cB_Land : g_FLand.all (fun p => decide (p.1 = 2 → p.2 ≤ 22)) = true := by decide +kernel
theorem cO_Land : ci_one g_FLand := (by decide +kernel : g_FLand.Pairwise (fun p q => p.1 = 2 → q.1 = 2 → p.2 ≠ q.2))
set_option maxRecDepth 100000 in
theorem cz_Land (h0 : Nat) (ca : Nat → Nat) : ci_w g_LLand g_mu0 1 g_FLand (fun _ => h0) ca 0 = [(h0, (.inr (1, [.int 0, .int 0, .int 0, .null, .null, .null, .null, .null, .null, .null, .null, .null])))] := by
  unfold ci_w ci_f g_FLand
  simp only [List.mapIdx_cons, List.mapIdx_nil]
  rfl
set_option maxHeartbeats 4000000 in
set_option maxRecDepth 20000 in
theorem ci_Land : g_InitA g_LLand g_mu0 (.inr (1, [.int 0, .int 0, .int 0, .null, .null, .null, .null, .null, .null, .null, .null, .null])) yX1_init cX1_init 1 22 229 := by
  intro l D sz h0
  refine Met.ofW (cc := cX1_init) (maxL := 1) (ret := none) (by decide +kernel) rfl ?_
  intro p e s m args below meth c s₁ B hml hv
  obtain ⟨rfl, hsz, hP, hK, hD0, hN⟩ := hv
  have hts := atoms_spec (ws := g_ws yX1_init cX1_init 1 none) B.pre
  have hts2 : ∀ w ∈ g_gw, w.before #[Value.ref h0] s = true := fun w hw => hts w (List.mem_cons_of_mem _ hw)
  have hown : s.vm.findClass RX1 = some m.cls := findClass_of_methodNamed B.named
  have hx := B.exec
  have hb := B.bytes
  have hr := B.returns
  have hlocks := B.notSynchronized
  have hin : meth.name = "<init>" := (name_of_methodNamed B.named B.method).1
  subst hsz
  have hD := hD0.self (sz := s.heap.size)
  generalize hAe : va_A [(h0, (.inr (1, [.int 0, .int 0, .int 0, .null, .null, .null, .null, .null, .null, .null, .null, .null])))] s.heap.size = A at hD ⊢
  have hA : ∀ q : Nat, s.heap.size ≤ q → A q := fun q h => by rw [← hAe]; exact Or.inr h
  have hS : va_S A s.heap s.heap [] := va_S.rf
  rw [← cz_Land h0 (fun _ => 0)] at hP hD
  have h9 : (fun _ : Nat => h0) 0 = h0 := rfl
  generalize (fun _ : Nat => h0) = ad at h9 hP hD
  have hT : ci_ty g_LLand (fun _ => 0) [] 0 := fun i h1 h2 => absurd h1 (by omega)
  generalize (fun _ : Nat => (0 : Nat)) = ca at hT hP hD
  have hl := lv_entry ([Value.ref h0]) (n := 1) (Nat.le_of_ble_eq_true rfl)
  rw [show (#[Value.ref h0] : Array Value) = ([Value.ref h0] : List Value).toArray from rfl, lg_entry_eq]
  generalize (lg_sl ([Value.ref h0]) ++ List.replicate (1 - (lg_sl ([Value.ref h0])).length) Slot.unset).toArray = ls at hl ⊢
  have hl : lv_has ls 1 [(0, .ref h0)] := hl
  refine lv_aload_n hx hb dX1_init_0 rfl (lv_at hl 0 rfl) ?_
  refine W.objInit (cc := cX1_init) (own := RX1) (idx := 3) hx hb hown (hts2 _ (g_in1 (List.mem_of_getElem? (i := 139) rfl) rfl)) (hts2 _ g_oin) (hts2 _ g_oco) rfl (by rw [hml]; exact hl.1) rfl dX1_init_1 (by show 1 ≤ 20; omega) (Nat.le_of_ble_eq_true rfl) ?_
  refine W.eq (g2 := F0 m 4 ls []) rfl ?_
  refine lv_aload_n hx hb dX1_init_4 rfl (lv_at hl 0 rfl) ?_
  refine lv_iconst (v := 5) hx hb dX1_init_5 (by decide) ?_
  refine ci_step3 (Λ := g_LLand) (n := 0) (cc := cX1_init) (ref := RX1) (atype := .long) (ty := .long) (N' := 5) hx hb hts2 cf_X1 hown hin hA rfl cF_Land cO_Land (ci_sh_of (by decide +kernel)) rfl (Nat.le_of_ble_eq_true rfl) h9 hT hK hP hD hS g_awJ rfl rfl (fun _ _ => rfl) (by decide) (by decide) (Nat.le_of_ble_eq_true rfl) (Nat.le_of_ble_eq_true rfl) (Nat.le_of_ble_eq_true rfl) dX1_init_6 3 (Nat.le_of_ble_eq_true rfl) rfl (g_in1 (List.mem_of_getElem? (i := 154) rfl) rfl) (fun _ h => h) rfl rfl (fun _ => rfl) (fun _ => rfl) dX1_init_8 ?_
  clear h9 hT hK hP hD hS
  intro ad ca tys H locs h9 hT hK hP hD hS
  refine lv_aload_n hx hb dX1_init_11 rfl (lv_at hl 0 rfl) ?_
  refine lv_bipush (v := 6) hx hb dX1_init_12 (by decide) ?_
  refine ci_step3 (Λ := g_LLand) (n := 1) (cc := cX1_init) (ref := RX1) (atype := .long) (ty := .long) (N' := 6) hx hb hts2 cf_X1 hown hin hA rfl cF_Land cO_Land (ci_sh_of (by decide +kernel)) rfl (Nat.le_of_ble_eq_true rfl) h9 hT hK hP hD hS g_awJ rfl rfl (fun _ _ => rfl) (by decide) (by decide) (Nat.le_of_ble_eq_true rfl) (Nat.le_of_ble_eq_true rfl) (Nat.le_of_ble_eq_true rfl) dX1_init_14 4 (Nat.le_of_ble_eq_true rfl) rfl (g_in1 (List.mem_of_getElem? (i := 156) rfl) rfl) (fun _ h => h) rfl rfl (fun _ => rfl) (fun _ => rfl) dX1_init_16 ?_
  clear h9 hT hK hP hD hS
  intro ad ca tys H locs h9 hT hK hP hD hS
  refine lv_aload_n hx hb dX1_init_19 rfl (lv_at hl 0 rfl) ?_
  refine lv_bipush (v := 8) hx hb dX1_init_20 (by decide) ?_
  refine ci_step3 (Λ := g_LLand) (n := 2) (cc := cX1_init) (ref := RX1) (atype := .long) (ty := .long) (N' := 8) hx hb hts2 cf_X1 hown hin hA rfl cF_Land cO_Land (ci_sh_of (by decide +kernel)) rfl (Nat.le_of_ble_eq_true rfl) h9 hT hK hP hD hS g_awJ rfl rfl (fun _ _ => rfl) (by decide) (by decide) (Nat.le_of_ble_eq_true rfl) (Nat.le_of_ble_eq_true rfl) (Nat.le_of_ble_eq_true rfl) dX1_init_22 5 (Nat.le_of_ble_eq_true rfl) rfl (g_in1 (List.mem_of_getElem? (i := 158) rfl) rfl) (fun _ h => h) rfl rfl (fun _ => rfl) (fun _ => rfl) dX1_init_24 ?_
  clear h9 hT hK hP hD hS
  intro ad ca tys H locs h9 hT hK hP hD hS
  refine lv_aload_n hx hb dX1_init_27 rfl (lv_at hl 0 rfl) ?_
  refine lv_iconst (v := 5) hx hb dX1_init_28 (by decide) ?_
  refine lv_iconst (v := 5) hx hb dX1_init_29 (by decide) ?_
  refine ci_step2 (Λ := g_LLand) (n := 3) (cc := cX1_init) (ref := RX1) (N' := 5) (K' := 5) hx hb hts2 cf_X1 hown hin hA rfl cF_Land (by decide +kernel) cO_Land (ci_sh_of (by decide +kernel)) rfl (fun _ _ => rfl) (fun j hj => match j, hj with | 0, _ => rfl | 1, _ => rfl | 2, _ => rfl | 3, _ => rfl | 4, _ => rfl | k + 5, h => absurd h (by omega)) h9 hT hK hP hD hS (g_in1 (List.mem_of_getElem? (i := 140) rfl) rfl) hN (by decide) (by decide) (by decide) (by decide) (Nat.le_of_ble_eq_true rfl) (Nat.le_of_ble_eq_true rfl) (Nat.le_of_ble_eq_true rfl) (Nat.le_of_ble_eq_true rfl) dX1_init_30 6 (Nat.le_of_ble_eq_true rfl) rfl (g_in1 (List.mem_of_getElem? (i := 160) rfl) rfl) (fun _ h => h) rfl rfl (fun _ => rfl) (fun _ => rfl) dX1_init_34 ?_
  clear h9 hT hK hP hD hS
  intro ad ca tys H locs h9 hT hK hP hD hS
  refine lv_aload_n hx hb dX1_init_37 rfl (lv_at hl 0 rfl) ?_
  refine lv_bipush (v := 6) hx hb dX1_init_38 (by decide) ?_
  refine ci_step3 (Λ := g_LLand) (n := 9) (cc := cX1_init) (ref := RX1) (atype := .int) (ty := .int) (N' := 6) hx hb hts2 cf_X1 hown hin hA rfl cF_Land cO_Land (ci_sh_of (by decide +kernel)) rfl (Nat.le_of_ble_eq_true rfl) h9 hT hK hP hD hS g_awI rfl rfl (fun _ _ => rfl) (by decide) (by decide) (Nat.le_of_ble_eq_true rfl) (Nat.le_of_ble_eq_true rfl) (Nat.le_of_ble_eq_true rfl) dX1_init_40 7 (Nat.le_of_ble_eq_true rfl) rfl (g_in1 (List.mem_of_getElem? (i := 163) rfl) rfl) (fun _ h => h) rfl rfl (fun _ => rfl) (fun _ => rfl) dX1_init_42 ?_
  clear h9 hT hK hP hD hS
  intro ad ca tys H locs h9 hT hK hP hD hS
  refine lv_aload_n hx hb dX1_init_45 rfl (lv_at hl 0 rfl) ?_
  refine lv_bipush (v := 6) hx hb dX1_init_46 (by decide) ?_
  refine ci_step3 (Λ := g_LLand) (n := 10) (cc := cX1_init) (ref := RX1) (atype := .int) (ty := .int) (N' := 6) hx hb hts2 cf_X1 hown hin hA rfl cF_Land cO_Land (ci_sh_of (by decide +kernel)) rfl (Nat.le_of_ble_eq_true rfl) h9 hT hK hP hD hS g_awI rfl rfl (fun _ _ => rfl) (by decide) (by decide) (Nat.le_of_ble_eq_true rfl) (Nat.le_of_ble_eq_true rfl) (Nat.le_of_ble_eq_true rfl) dX1_init_48 8 (Nat.le_of_ble_eq_true rfl) rfl (g_in1 (List.mem_of_getElem? (i := 166) rfl) rfl) (fun _ h => h) rfl rfl (fun _ => rfl) (fun _ => rfl) dX1_init_50 ?_
  clear h9 hT hK hP hD hS
  intro ad ca tys H locs h9 hT hK hP hD hS
  refine lv_aload_n hx hb dX1_init_53 rfl (lv_at hl 0 rfl) ?_
  refine lv_bipush (v := 8) hx hb dX1_init_54 (by decide) ?_
  refine ci_step3 (Λ := g_LLand) (n := 11) (cc := cX1_init) (ref := RX1) (atype := .int) (ty := .int) (N' := 8) hx hb hts2 cf_X1 hown hin hA rfl cF_Land cO_Land (ci_sh_of (by decide +kernel)) rfl (Nat.le_of_ble_eq_true rfl) h9 hT hK hP hD hS g_awI rfl rfl (fun _ _ => rfl) (by decide) (by decide) (Nat.le_of_ble_eq_true rfl) (Nat.le_of_ble_eq_true rfl) (Nat.le_of_ble_eq_true rfl) dX1_init_56 9 (Nat.le_of_ble_eq_true rfl) rfl (g_in1 (List.mem_of_getElem? (i := 169) rfl) rfl) (fun _ h => h) rfl rfl (fun _ => rfl) (fun _ => rfl) dX1_init_58 ?_
  clear h9 hT hK hP hD hS
  intro ad ca tys H locs h9 hT hK hP hD hS
  refine lv_aload_n hx hb dX1_init_61 rfl (lv_at hl 0 rfl) ?_
  refine lv_bipush (v := 8) hx hb dX1_init_62 (by decide) ?_
  refine ci_step3 (Λ := g_LLand) (n := 12) (cc := cX1_init) (ref := RX1) (atype := .int) (ty := .int) (N' := 8) hx hb hts2 cf_X1 hown hin hA rfl cF_Land cO_Land (ci_sh_of (by decide +kernel)) rfl (Nat.le_of_ble_eq_true rfl) h9 hT hK hP hD hS g_awI rfl rfl (fun _ _ => rfl) (by decide) (by decide) (Nat.le_of_ble_eq_true rfl) (Nat.le_of_ble_eq_true rfl) (Nat.le_of_ble_eq_true rfl) dX1_init_64 10 (Nat.le_of_ble_eq_true rfl) rfl (g_in1 (List.mem_of_getElem? (i := 173) rfl) rfl) (fun _ h => h) rfl rfl (fun _ => rfl) (fun _ => rfl) dX1_init_66 ?_
  clear h9 hT hK hP hD hS
  intro ad ca tys H locs h9 hT hK hP hD hS
  refine lv_aload_n hx hb dX1_init_69 rfl (lv_at hl 0 rfl) ?_
  refine lv_bipush (v := 8) hx hb dX1_init_70 (by decide) ?_
  refine lv_bipush (v := 18) hx hb dX1_init_72 (by decide) ?_
  refine ci_step2 (Λ := g_LLand) (n := 13) (cc := cX1_init) (ref := RX1) (N' := 8) (K' := 18) hx hb hts2 cf_X1 hown hin hA rfl cF_Land (by decide +kernel) cO_Land (ci_sh_of (by decide +kernel)) rfl (fun _ _ => rfl) (fun j hj => match j, hj with | 0, _ => rfl | 1, _ => rfl | 2, _ => rfl | 3, _ => rfl | 4, _ => rfl | 5, _ => rfl | 6, _ => rfl | 7, _ => rfl | k + 8, h => absurd h (by omega)) h9 hT hK hP hD hS (g_in1 (List.mem_of_getElem? (i := 140) rfl) rfl) hN (by decide) (by decide) (by decide) (by decide) (Nat.le_of_ble_eq_true rfl) (Nat.le_of_ble_eq_true rfl) (Nat.le_of_ble_eq_true rfl) (Nat.le_of_ble_eq_true rfl) dX1_init_74 11 (Nat.le_of_ble_eq_true rfl) rfl (g_in1 (List.mem_of_getElem? (i := 176) rfl) rfl) (fun _ h => h) rfl rfl (fun _ => rfl) (fun _ => rfl) dX1_init_78 ?_
  clear h9 hT hK hP hD hS
  intro ad ca tys H locs h9 hT hK hP hD hS
  rw [ci_fin (Λ := g_LLand) rfl rfl cB_Land] at hP hD
  exact W.vret (cc := cX1_init) hx hb hr (fun t ht hW => ⟨rfl, ⟨ad, ca, tys, h9, ci_tys rfl rfl hT, va_K.moved hW.alike hK, (by rw [ht]; exact hP), hD⟩, hS.F ht⟩) hS.2.2 dX1_init_81 hlocks
