/-! Tape's constructor -/
theorem cF_Tape : g_FTape.all (fun p => decide (p.1 ≤ 2)) = true := by decide +kernel
theorem cB_Tape : g_FTape.all (fun p => decide (p.1 = 2 → p.2 ≤ 5)) = true := by decide +kernel
theorem cO_Tape : ci_one g_FTape := (by decide +kernel : g_FTape.Pairwise (fun p q => p.1 = 2 → q.1 = 2 → p.2 ≠ q.2))
theorem cN_Tape : ci_num g_LTape := ci_num_of (by decide +kernel)
theorem cz_Tape (ad : Nat → Nat) (h0 : Nat) (h : ad 0 = h0) (ca : Nat → Nat) : ci_w g_LTape g_mu0 4 g_FTape ad ca 0 = [(h0, (.inr (4, [.null, .null, .int 0, .null, .null, .null, .int 0, .int 0, .int 0, .long 0, .int 0])))] := by
  subst h
  unfold ci_w ci_f g_FTape
  simp only [List.mapIdx_cons, List.mapIdx_nil]
  rfl
def g_muT : g_St := (fun _ _ => 0, fun id k => if id = 1 then zt_wd k else 0, fun _ => 0)
theorem cj_wW {ad ca : Nat → Nat} {Λ : g_Lay} {μ μ' : g_St} (h : ∀ id, id < Λ.1 → ∀ D H, va_at D g_cl (ad id, g_ent ad ca Λ μ id) H → va_at D g_cl (ad id, g_ent ad ca Λ μ' id) H) : cj_e (g_wW ad ca Λ μ) (g_wW ad ca Λ μ') := by
  refine ⟨by simp [g_wW], fun k q q' h1 h2 => ?_⟩
  have hk : k < Λ.1 := by
    have := (List.getElem?_eq_some_iff.mp h1).1
    simpa [g_wW] using this
  unfold g_wW at h1 h2
  rw [List.getElem?_map, List.getElem?_range hk] at h1 h2
  cases h1
  cases h2
  exact ⟨rfl, fun D H z => h k hk D H z⟩
theorem ct_lp_w : ∃ μ', ct_lp 100 0 0 g_mu0 = some μ' ∧ ∀ ad ca, cj_e (g_wW ad ca g_LTape μ') (g_wW ad ca g_LTape g_muT) := by
  have hv := ct_lp_v
  cases hq : ct_lp 100 0 0 g_mu0 with
  | none => rw [hq] at hv; cases hv
  | some μ' =>
    rw [hq] at hv
    have hv : (List.range 20).map (μ'.2.1 1) = (List.range 20).map zt_wd := Option.some.inj hv
    have hv : ∀ k, k < 20 → μ'.2.1 1 k = zt_wd k := fun k hk => List.map_inj_left.mp hv k (List.mem_range.mpr hk)
    obtain ⟨h1, h2, h3⟩ := ct_lp_o 100 0 0 _ _ hq
    refine ⟨μ', rfl, fun ad ca => cj_wW (fun id hid D H h => ?_)⟩
    by_cases e : id = 1
    · subst e
      rw [g_ent_a (rfl : g_LTape.2 1 = .inr (1, 20, g_zf))] at h ⊢
      have h : H[ad 1]? = some (vp_cell (ca 1) (g_ar ad μ' 1 1 20 g_zf)) := h
      show H[ad 1]? = some (vp_cell (ca 1) (g_ar ad g_muT 1 1 20 g_zf))
      rw [h]
      exact congrArg some (cj_arr (f := fun k => .long (μ'.2.1 1 k)) (g := fun k => .long (zt_wd k)) (fun k hk => congrArg Value.long (hv k hk)))
    · have h4 : μ'.2.1 id = g_muT.2.1 id := (h3 id e).trans (funext fun k => (if_neg e).symm)
      have : g_ent ad ca g_LTape μ' id = g_ent ad ca g_LTape g_muT id := by
        unfold g_ent g_fs g_fv g_ar
        rw [h1, h2, h4]
        rfl
      rw [← this]; exact h
theorem lk_tp0 : g_Go g_LTape 4 yX6_init cX6_init 3 (none : Option Jvm.ClassFile.FieldType) 48 [some (.ref 0), none, none] [] g_mu0 (Option.map o_yv0 (ct_lp 100 0 0 g_mu0)) := by
  refine g_iconst dX6_init_48 ic_0 ?_
  refine g_istore_n (lo2 := [_, _, _]) dX6_init_49 rfl (Nat.le_of_ble_eq_true rfl) rfl rfl ?_
  refine g_iconst dX6_init_50 ic_0 ?_
  refine g_istore_n (lo2 := [_, _, _]) dX6_init_51 rfl (Nat.le_of_ble_eq_true rfl) rfl rfl ?_
  exact lk_tp 100 0 0 g_mu0
def g_InitS (Λ : g_Lay) (μ : g_St) (o0 : va_E) (y : MethodName) (cc : ByteArray) (nL mc ms : Nat) : Prop :=
  ∀ (l : Launch) (D : va_G) (adS : Nat → Nat) (sz h0 : Nat), Met l y (g_ws y cc nL none) { frames := 20, cells := mc, slots := ms, locals := 2000 }
    (fun v U => v = #[Value.ref h0] ∧ U.heap.size = sz ∧ va_P D g_cl [(h0, o0)] U.heap ∧ va_K D g_cl [] U ∧ va_D (fun _ => True) [(h0, o0)] ∧ (∀ w ∈ g_nw, va_Nw w U) ∧ g_SX adS (va_A [(h0, o0)] sz) U U.heap)
    (fun _ st oc t => oc = .returned none ∧ (∃ (ad ca : Nat → Nat) (tys : List (ClassId × FieldType)), ad 0 = h0 ∧ g_Ty Λ tys ca ∧ va_K D g_cl tys t ∧ va_P D g_cl (g_wW ad ca Λ μ) t.heap ∧ va_D (va_A [(h0, o0)] sz) (g_wW ad ca Λ μ)) ∧ va_F (va_A [(h0, o0)] sz) st t) mc ms (va_A [(h0, o0)] sz)
set_option maxHeartbeats 4000000 in
set_option maxRecDepth 20000 in
theorem ci_Tape : g_InitS g_LTape g_muT (.inr (4, [.null, .null, .int 0, .null, .null, .null, .int 0, .int 0, .int 0, .long 0, .int 0])) yX6_init cX6_init 3 5 4023 := by
  intro l D adS sz h0
  refine Met.ofW (cc := cX6_init) (maxL := 3) (ret := none) (by decide +kernel) rfl ?_
  intro p e s m args below meth c s₁ B hml hv
  obtain ⟨rfl, hsz, hP, hK, hD0, hN, hSX⟩ := hv
  have hts := atoms_spec (ws := g_ws yX6_init cX6_init 3 none) B.pre
  have hts2 : ∀ w ∈ g_gw, w.before #[Value.ref h0] s = true := fun w hw => hts w (List.mem_cons_of_mem _ hw)
  have hown : s.vm.findClass RX6 = some m.cls := findClass_of_methodNamed B.named
  have hx := B.exec
  have hb := B.bytes
  have hr := B.returns
  have hlocks := B.notSynchronized
  have hin : meth.name = "<init>" := (name_of_methodNamed B.named B.method).1
  subst hsz
  have hD := hD0.self (sz := s.heap.size)
  generalize hAe : va_A [(h0, (.inr (4, [.null, .null, .int 0, .null, .null, .null, .int 0, .int 0, .int 0, .long 0, .int 0])))] s.heap.size = A at hD hSX ⊢
  have hA : ∀ q : Nat, s.heap.size ≤ q → A q := fun q h => by rw [← hAe]; exact Or.inr h
  have hS : va_S A s.heap s.heap [] := va_S.rf
  rw [← cz_Tape (fun i => if 900 ≤ i then adS i else h0) h0 rfl (fun _ => 0)] at hP hD
  have h9 : (fun i : Nat => if 900 ≤ i then adS i else h0) 0 = h0 := rfl
  have hS9 : ∀ i, 900 ≤ i → (fun i : Nat => if 900 ≤ i then adS i else h0) i = adS i := fun i hi => if_pos hi
  generalize (fun i : Nat => if 900 ≤ i then adS i else h0) = ad at h9 hS9 hP hD
  have hT : ci_ty g_LTape (fun _ => 0) [] 0 := fun i h1 h2 => absurd h1 (by omega)
  generalize (fun _ : Nat => (0 : Nat)) = ca at hT hP hD
  have hl := lv_entry ([Value.ref h0]) (n := 3) (Nat.le_of_ble_eq_true rfl)
  rw [show (#[Value.ref h0] : Array Value) = ([Value.ref h0] : List Value).toArray from rfl, lg_entry_eq]
  generalize (lg_sl ([Value.ref h0]) ++ List.replicate (3 - (lg_sl ([Value.ref h0])).length) Slot.unset).toArray = ls at hl ⊢
  have hl : lv_has ls 3 [(0, .ref h0)] := hl
  refine lv_aload_n hx hb dX6_init_0 rfl (lv_at hl 0 rfl) ?_
  refine W.objInit (cc := cX6_init) (own := RX6) (idx := 3) hx hb hown (hts2 _ (g_in1 (List.mem_of_getElem? (i := 37) rfl) rfl)) (hts2 _ g_oin) (hts2 _ g_oco) rfl (by rw [hml]; exact hl.1) rfl dX6_init_1 (by show 1 ≤ 20; omega) (Nat.le_of_ble_eq_true rfl) ?_
  refine W.eq (g2 := F0 m 4 ls []) rfl ?_
  refine lv_aload_n hx hb dX6_init_4 rfl (lv_at hl 0 rfl) ?_
  refine lv_bipush (v := 20) hx hb dX6_init_5 (by decide) ?_
  refine ci_step9 (Λ := g_LTape) (n := 0) (cc := cX6_init) (ref := RX6) (atype := .long) (ty := .long) (N' := 20) hx hb hts2 cf_X6 hown hin hA rfl cF_Tape cO_Tape cN_Tape (Nat.le_of_ble_eq_true rfl) rfl (Nat.le_of_ble_eq_true rfl) (Nat.le_of_ble_eq_true rfl) hS9 h9 hT hK hP hD hS g_awJ rfl rfl (fun _ _ => rfl) (by decide) (by decide) (Nat.le_of_ble_eq_true rfl) (Nat.le_of_ble_eq_true rfl) (Nat.le_of_ble_eq_true rfl) dX6_init_7 0 (Nat.le_of_ble_eq_true rfl) rfl (g_in1 (List.mem_of_getElem? (i := 91) rfl) rfl) (fun _ h => h) rfl rfl (fun _ => rfl) (fun _ => rfl) dX6_init_9 ?_
  clear h9 hS9 hT hK hP hD hS
  intro ad ca tys H locs h9 hS9 hT hK hP hD hS
  refine lv_aload_n hx hb dX6_init_12 rfl (lv_at hl 0 rfl) ?_
  refine lv_sipush (v := 1000) hx hb dX6_init_13 (by decide) ?_
  refine ci_step9 (Λ := g_LTape) (n := 1) (cc := cX6_init) (ref := RX6) (atype := .char) (ty := .char) (N' := 1000) hx hb hts2 cf_X6 hown hin hA rfl cF_Tape cO_Tape cN_Tape (Nat.le_of_ble_eq_true rfl) rfl (Nat.le_of_ble_eq_true rfl) (Nat.le_of_ble_eq_true rfl) hS9 h9 hT hK hP hD hS g_awC rfl rfl (fun _ _ => rfl) (by decide) (by decide) (Nat.le_of_ble_eq_true rfl) (Nat.le_of_ble_eq_true rfl) (Nat.le_of_ble_eq_true rfl) dX6_init_16 1 (Nat.le_of_ble_eq_true rfl) rfl (g_in1 (List.mem_of_getElem? (i := 92) rfl) rfl) (fun _ h => h) rfl rfl (fun _ => rfl) (fun _ => rfl) dX6_init_18 ?_
  clear h9 hS9 hT hK hP hD hS
  intro ad ca tys H locs h9 hS9 hT hK hP hD hS
  refine lv_aload_n hx hb dX6_init_21 rfl (lv_at hl 0 rfl) ?_
  refine lv_sipush (v := 1001) hx hb dX6_init_22 (by decide) ?_
  refine ci_step9 (Λ := g_LTape) (n := 2) (cc := cX6_init) (ref := RX6) (atype := .int) (ty := .int) (N' := 1001) hx hb hts2 cf_X6 hown hin hA rfl cF_Tape cO_Tape cN_Tape (Nat.le_of_ble_eq_true rfl) rfl (Nat.le_of_ble_eq_true rfl) (Nat.le_of_ble_eq_true rfl) hS9 h9 hT hK hP hD hS g_awI rfl rfl (fun _ _ => rfl) (by decide) (by decide) (Nat.le_of_ble_eq_true rfl) (Nat.le_of_ble_eq_true rfl) (Nat.le_of_ble_eq_true rfl) dX6_init_25 3 (Nat.le_of_ble_eq_true rfl) rfl (g_in1 (List.mem_of_getElem? (i := 95) rfl) rfl) (fun _ h => h) rfl rfl (fun _ => rfl) (fun _ => rfl) dX6_init_27 ?_
  clear h9 hS9 hT hK hP hD hS
  intro ad ca tys H locs h9 hS9 hT hK hP hD hS
  refine lv_aload_n hx hb dX6_init_30 rfl (lv_at hl 0 rfl) ?_
  refine lv_sipush (v := 1001) hx hb dX6_init_31 (by decide) ?_
  refine ci_step9 (Λ := g_LTape) (n := 3) (cc := cX6_init) (ref := RX6) (atype := .int) (ty := .int) (N' := 1001) hx hb hts2 cf_X6 hown hin hA rfl cF_Tape cO_Tape cN_Tape (Nat.le_of_ble_eq_true rfl) rfl (Nat.le_of_ble_eq_true rfl) (Nat.le_of_ble_eq_true rfl) hS9 h9 hT hK hP hD hS g_awI rfl rfl (fun _ _ => rfl) (by decide) (by decide) (Nat.le_of_ble_eq_true rfl) (Nat.le_of_ble_eq_true rfl) (Nat.le_of_ble_eq_true rfl) dX6_init_34 4 (Nat.le_of_ble_eq_true rfl) rfl (g_in1 (List.mem_of_getElem? (i := 96) rfl) rfl) (fun _ h => h) rfl rfl (fun _ => rfl) (fun _ => rfl) dX6_init_36 ?_
  clear h9 hS9 hT hK hP hD hS
  intro ad ca tys H locs h9 hS9 hT hK hP hD hS
  refine lv_aload_n hx hb dX6_init_39 rfl (lv_at hl 0 rfl) ?_
  refine lv_sipush (v := 1001) hx hb dX6_init_40 (by decide) ?_
  refine ci_step9 (Λ := g_LTape) (n := 4) (cc := cX6_init) (ref := RX6) (atype := .long) (ty := .long) (N' := 1001) hx hb hts2 cf_X6 hown hin hA rfl cF_Tape cO_Tape cN_Tape (Nat.le_of_ble_eq_true rfl) rfl (Nat.le_of_ble_eq_true rfl) (Nat.le_of_ble_eq_true rfl) hS9 h9 hT hK hP hD hS g_awJ rfl rfl (fun _ _ => rfl) (by decide) (by decide) (Nat.le_of_ble_eq_true rfl) (Nat.le_of_ble_eq_true rfl) (Nat.le_of_ble_eq_true rfl) dX6_init_43 5 (Nat.le_of_ble_eq_true rfl) rfl (g_in1 (List.mem_of_getElem? (i := 97) rfl) rfl) (fun _ h => h) rfl rfl (fun _ => rfl) (fun _ => rfl) dX6_init_45 ?_
  clear h9 hS9 hT hK hP hD hS
  intro ad ca tys H locs h9 hS9 hT hK hP hD hS
  rw [ci_fin (Λ := g_LTape) rfl rfl cB_Tape] at hP hD
  obtain ⟨μ', hq, hw⟩ := ct_lp_w
  have hLo : g_Lo ad [some (.ref 0), none, none] 3 ls := ⟨hl.1, hl.2.1, fun i v hi => by
    match i, hi with
    | 0, hi => cases hi; show ls[0]? = some (.val (.ref (ad 0))); rw [h9]; exact lv_at hl 0 rfl
    | 1, hi => cases hi
    | 2, hi => cases hi
    | k + 3, hi => cases hi⟩
  have hSX : g_SX ad A s s.heap := by
    have e : ∀ i, i < 5 → ad (900 + i) = adS (900 + i) := fun i hi => hS9 _ (by omega)
    unfold g_SX at hSX ⊢
    rw [show ad 900 = adS 900 from e 0 (by omega), show ad 902 = adS 902 from e 2 (by omega), show ad 904 = adS 904 from e 4 (by omega)]
    refine ⟨hSX.1, fun i hi => ?_, hSX.2.2⟩
    have h := hSX.2.1 i hi
    rw [show ad (900 + 2 * i) = adS (900 + 2 * i) from hS9 _ (by omega), show ad (901 + 2 * i) = adS (901 + 2 * i) from hS9 _ (by omega)]
    exact h
  refine lk_tp0 none μ' (by rw [hq]; rfl) p l e _ s m _ below meth c (0 + 1 + 1 + 1 + 1 + 1) (0 + 20 + 1000 + 1001 + 1001 + 1001) _ D tys ca ad [] A ⟨hx, hb, hml, hown, hts2, hN, hK, hA, ci_tys rfl rfl hT, ⟨Nat.le_of_ble_eq_true rfl, Nat.le_of_ble_eq_true rfl, Nat.le_of_ble_eq_true rfl, Nat.le_of_ble_eq_true rfl⟩, hSX⟩ ?_ ls H locs (by unfold g_Rp; rw [List.append_nil]; exact ⟨hP, hD, hS⟩) hLo
  intro pc' ls H locs w he hls hR
  obtain ⟨hd, hw0⟩ := he
  have hw0 : w = none := by
    cases w with
    | none => rfl
    | some v => cases hw0
  subst hw0
  unfold g_Rp at hR
  rw [List.append_nil] at hR
  have hP := cj_P (hw ad ca) hR.1
  have hD := cj_D (hw ad ca) hR.2.1
  exact W.vret (cc := cX6_init) hx hb hr (fun t ht hW => ⟨rfl, ⟨ad, ca, tys, h9, ci_tys rfl rfl hT, va_K.moved hW.alike hK, (by rw [ht]; exact hP), hD⟩, hR.2.2.F ht⟩) hR.2.2.2.2 hd hlocks
