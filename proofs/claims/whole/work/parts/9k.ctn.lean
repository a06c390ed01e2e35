section CiStep1
variable {p : Program} {l : Launch} {e : Env} {R : Room} {s : State} {m : MethodId} {args : Array Value} {below : List Frame} {meth : Method} {c : Code} {H : Heap} {locs : List Loc} {cells slots : Nat} {Q : State → Prop}
variable {cc : ByteArray} {pc : Nat} {ls : Array Slot} {D : va_G} {A : Nat → Prop} {tys : List (ClassId × FieldType)} {H0 : Heap}
def ci_num (Λ : g_Lay) : Prop := ∀ i, 1 ≤ i → i < Λ.1 → ∃ ty N rf, Λ.2 i = .inr (ty, N, rf) ∧ ty < 4
theorem ci_num_of {Λ : g_Lay} (h : (List.range Λ.1).all (fun i => i == 0 || (match Λ.2 i with | .inl _ => false | .inr (ty, _, _) => decide (ty < 4))) = true) : ci_num Λ := by
  intro i h1 h2
  have h3 := List.all_eq_true.mp h i (List.mem_range.mpr h2)
  have h0 : (i == 0) = false := by simp; omega
  rw [h0, Bool.false_or] at h3
  cases hq : Λ.2 i with
  | inl x => rw [hq] at h3; exact absurd h3 (by simp)
  | inr x =>
    obtain ⟨ty, N, rf⟩ := x
    rw [hq] at h3
    exact ⟨ty, N, rf, rfl, by simpa using h3⟩
def ci_one (F : List (Nat × Nat)) : Prop := F.Pairwise (fun p q => p.1 = 2 → q.1 = 2 → p.2 ≠ q.2)
theorem ci_one_u {F : List (Nat × Nat)} (h : ci_one F) {k n : Nat} (hk : F[k]? = some (2, n + 1)) (j : Nat) (p : Nat × Nat) (hj : j ≠ k) (hp : F[j]? = some p) (e : p.1 = 2) : p.2 ≤ n ∨ n + 1 < p.2 := by
  have h := List.pairwise_iff_getElem.mp h
  obtain ⟨kl, kv⟩ := List.getElem?_eq_some_iff.mp hk
  obtain ⟨jl, jv⟩ := List.getElem?_eq_some_iff.mp hp
  have : p.2 ≠ n + 1 := by
    rcases (show j < k ∨ k < j by omega) with z | z
    · have h := h j k jl kl z
      rw [jv, kv] at h
      exact h e rfl
    · have h := h k j kl jl z
      rw [jv, kv] at h
      exact fun z => h rfl e z.symm
  omega
theorem ci_step1 (hx : p.tables.exec = Jvm.exec) (hb : c.code = cc) (hts : ∀ w ∈ g_gw, w.before args s = true) {ci : Nat} {C own ref : String} {T : u_T} {N : Nat} {ty0 : Nat → FieldType} (cf : g_CF ci C T N ty0) (hown : s.vm.findClass own = some m.cls) (hini : meth.name = "<init>") (hA : ∀ q, H0.size ≤ q → A q)
    {Λ : g_Lay} {F : List (Nat × Nat)} {ad ca : Nat → Nat} {n tn N' h0 : Nat} {rf : Nat → Nat} (hlen : F.length = N) (hF : F.all (fun p => decide (p.1 ≤ 2)) = true) (hF1 : ci_one F) (hnu : ci_num Λ) (hn1 : n + 1 < Λ.1) (hs : Λ.2 (n + 1) = .inr (tn, N', rf)) (ht4 : tn < 4)
    (e0 : ad 0 = h0) (hT : ci_ty Λ ca tys n) (hK : va_K D g_cl tys s) (hP : va_P D g_cl (ci_w Λ g_mu0 ci F ad ca n) H) (hD : va_D A (ci_w Λ g_mu0 ci F ad ca n)) (hS : va_S A H0 H locs)
    {atype : ArrayType} {ty : FieldType} {nn : Int32} (haw : Cond.arrayClass (newarray.typeOf atype) ∈ g_gw) (htt : newarray.typeOf atype = ty) (hty : g_tyOf tn = ty) (ha : ∀ (ad : Nat → Nat) (cA : ClassId), vp_cell cA (g_ar ad g_mu0 (n + 1) tn N' rf) = arrV cA N' (fun _ => defaultValue ty)) (hn0 : ¬ nn < 0) (hN : nn.toNatClampNeg = N') (hby : N' * componentBytes ty ≤ 536870912) (hce : cells + 1 ≤ R.cells) (hsl : slots + N' ≤ R.slots) (hd1 : decode cc pc = .ok (.newarray atype, 2))
    {index : Nat} (k : Nat) (hk : k < N) (hFk : F[k]? = some (2, n + 1)) (hlink : Cond.fieldLink own index ref (T k).2.1 (T k).2.2.1 ∈ g_gw) (hsame : ∀ x, s.fieldFound? (T k).1 (T k).2.1 (T k).2.2.1 = some x → s.fieldFound? ref (T k).2.1 (T k).2.2.1 = some x) (hfin : (T k).2.2.2 = true) (hdecl : (T k).1 = own) (hn : ∀ q : Nat, narrow (ty0 k) (.ref q) = .ref q) (hfit : ∀ q : Nat, fits (ty0 k) (.ref q) = true) (hd2 : decode cc (pc + 2) = .ok (.putfield index, 3))
    (kk : ∀ (ad' ca' : Nat → Nat) (tys' : List (ClassId × FieldType)) (H1 : Heap) (locs1 : List Loc), ad' 0 = h0 → ci_ty Λ ca' tys' (n + 1) → va_K D g_cl tys' s → va_P D g_cl (ci_w Λ g_mu0 ci F ad' ca' (n + 1)) H1 → va_D A (ci_w Λ g_mu0 ci F ad' ca' (n + 1)) → va_S A H0 H1 locs1 → W p l e R s m args below meth c H1 locs1 (cells + 1) (slots + N') Q (F0 m (pc + 5) ls [])) :
    W p l e R s m args below meth c H locs cells slots Q (F0 m pc ls [.int nn, .ref h0]) := by
  subst e0
  exact ci_step hx hb hts cf hown hini hA hlen hF (fun i h1 h2 => by
    obtain ⟨t, N1, r1, h3, h4⟩ := hnu i h1 (by omega)
    exact ⟨t, N1, r1, h3, .inl h4⟩) hs ht4 hT hK hP hD hS haw htt hty (ha ad) hn0 hN hby hce hsl hd1 k hk hFk (ci_one_u hF1 hFk) hlink hsame hfin hdecl hn hfit hd2 (fun ad' ca' tys' H1 locs1 h => kk ad' ca' tys' H1 locs1 (h 0 (by omega)))
theorem ci_step9 (hx : p.tables.exec = Jvm.exec) (hb : c.code = cc) (hts : ∀ w ∈ g_gw, w.before args s = true) {ci : Nat} {C own ref : String} {T : u_T} {N : Nat} {ty0 : Nat → FieldType} (cf : g_CF ci C T N ty0) (hown : s.vm.findClass own = some m.cls) (hini : meth.name = "<init>") (hA : ∀ q, H0.size ≤ q → A q)
    {Λ : g_Lay} {F : List (Nat × Nat)} {ad ca : Nat → Nat} {n tn N' h0 : Nat} {rf : Nat → Nat} (hlen : F.length = N) (hF : F.all (fun p => decide (p.1 ≤ 2)) = true) (hF1 : ci_one F) (hnu : ci_num Λ) (hn1 : n + 1 < Λ.1) (hs : Λ.2 (n + 1) = .inr (tn, N', rf)) (ht4 : tn < 4)
    {adS : Nat → Nat} (h9 : n + 1 < 900) (e9 : ∀ i, 900 ≤ i → ad i = adS i) (e0 : ad 0 = h0) (hT : ci_ty Λ ca tys n) (hK : va_K D g_cl tys s) (hP : va_P D g_cl (ci_w Λ g_mu0 ci F ad ca n) H) (hD : va_D A (ci_w Λ g_mu0 ci F ad ca n)) (hS : va_S A H0 H locs)
    {atype : ArrayType} {ty : FieldType} {nn : Int32} (haw : Cond.arrayClass (newarray.typeOf atype) ∈ g_gw) (htt : newarray.typeOf atype = ty) (hty : g_tyOf tn = ty) (ha : ∀ (ad : Nat → Nat) (cA : ClassId), vp_cell cA (g_ar ad g_mu0 (n + 1) tn N' rf) = arrV cA N' (fun _ => defaultValue ty)) (hn0 : ¬ nn < 0) (hN : nn.toNatClampNeg = N') (hby : N' * componentBytes ty ≤ 536870912) (hce : cells + 1 ≤ R.cells) (hsl : slots + N' ≤ R.slots) (hd1 : decode cc pc = .ok (.newarray atype, 2))
    {index : Nat} (k : Nat) (hk : k < N) (hFk : F[k]? = some (2, n + 1)) (hlink : Cond.fieldLink own index ref (T k).2.1 (T k).2.2.1 ∈ g_gw) (hsame : ∀ x, s.fieldFound? (T k).1 (T k).2.1 (T k).2.2.1 = some x → s.fieldFound? ref (T k).2.1 (T k).2.2.1 = some x) (hfin : (T k).2.2.2 = true) (hdecl : (T k).1 = own) (hn : ∀ q : Nat, narrow (ty0 k) (.ref q) = .ref q) (hfit : ∀ q : Nat, fits (ty0 k) (.ref q) = true) (hd2 : decode cc (pc + 2) = .ok (.putfield index, 3))
    (kk : ∀ (ad' ca' : Nat → Nat) (tys' : List (ClassId × FieldType)) (H1 : Heap) (locs1 : List Loc), ad' 0 = h0 → (∀ i, 900 ≤ i → ad' i = adS i) → ci_ty Λ ca' tys' (n + 1) → va_K D g_cl tys' s → va_P D g_cl (ci_w Λ g_mu0 ci F ad' ca' (n + 1)) H1 → va_D A (ci_w Λ g_mu0 ci F ad' ca' (n + 1)) → va_S A H0 H1 locs1 → W p l e R s m args below meth c H1 locs1 (cells + 1) (slots + N') Q (F0 m (pc + 5) ls [])) :
    W p l e R s m args below meth c H locs cells slots Q (F0 m pc ls [.int nn, .ref h0]) := by
  subst e0
  exact ci_step hx hb hts cf hown hini hA hlen hF (fun i h1 h2 => by
    obtain ⟨t, N1, r1, h3, h4⟩ := hnu i h1 (by omega)
    exact ⟨t, N1, r1, h3, .inl h4⟩) hs ht4 hT hK hP hD hS haw htt hty (ha ad) hn0 hN hby hce hsl hd1 k hk hFk (ci_one_u hF1 hFk) hlink hsame hfin hdecl hn hfit hd2 (fun ad' ca' tys' H1 locs1 h => kk ad' ca' tys' H1 locs1 (h 0 (by omega)) (fun i hi => (h i (by omega)).trans (e9 i hi)))
theorem ci_tys {Λ : g_Lay} {ca : Nat → Nat} {n : Nat} {ci : Nat} {F : List (Nat × Nat)} (h0 : Λ.2 0 = .inl (ci, F)) (hn : Λ.1 = n + 1) (h : ci_ty Λ ca tys n) : g_Ty Λ tys ca := by
  intro id hid ty N rf hs
  cases id with
  | zero => rw [h0] at hs; cases hs
  | succ id => exact h (id + 1) (by omega) (by omega) ty N rf hs
end CiStep1

theorem dX4_init_0 : decode cX4_init 0 = .ok (.aload_n 0, 1) := by decide +kernel
theorem dX4_init_1 : decode cX4_init 1 = .ok (.invokespecial 3, 3) := by decide +kernel
theorem dX4_init_4 : decode cX4_init 4 = .ok (.aload_n 0, 1) := by decide +kernel
theorem dX4_init_5 : decode cX4_init 5 = .ok (.sipush 1000, 3) := by decide +kernel
theorem dX4_init_8 : decode cX4_init 8 = .ok (.newarray .int, 2) := by decide +kernel
theorem dX4_init_10 : decode cX4_init 10 = .ok (.putfield 9, 3) := by decide +kernel
theorem dX4_init_13 : decode cX4_init 13 = .ok (.aload_n 0, 1) := by decide +kernel
theorem dX4_init_14 : decode cX4_init 14 = .ok (.bipush 6, 2) := by decide +kernel
theorem dX4_init_16 : decode cX4_init 16 = .ok (.newarray .int, 2) := by decide +kernel
theorem dX4_init_18 : decode cX4_init 18 = .ok (.putfield 15, 3) := by decide +kernel
theorem dX4_init_21 : decode cX4_init 21 = .ok (.aload_n 0, 1) := by decide +kernel
theorem dX4_init_22 : decode cX4_init 22 = .ok (.bipush 32, 2) := by decide +kernel
theorem dX4_init_24 : decode cX4_init 24 = .ok (.newarray .int, 2) := by decide +kernel
theorem dX4_init_26 : decode cX4_init 26 = .ok (.putfield 18, 3) := by decide +kernel
theorem dX4_init_29 : decode cX4_init 29 = .ok (.return_, 1) := by decide +kernel
def g_FRule : List (Nat × Nat) := [(2, 1), (2, 2), (0, 0), (0, 0), (2, 3)]
def g_LRule : g_Lay := (4, fun id => [(.inl (3, g_FRule)), (.inr (0, 1000, g_zf)), (.inr (0, 6, g_zf)), (.inr (0, 32, g_zf))].getD id (.inl (0, [])))
theorem cF_Rule : g_FRule.all (fun p => decide (p.1 ≤ 2)) = true := by decide +kernel
theorem cB_Rule : g_FRule.all (fun p => decide (p.1 = 2 → p.2 ≤ 3)) = true := by decide +kernel
theorem cO_Rule : ci_one g_FRule := (by decide +kernel : g_FRule.Pairwise (fun p q => p.1 = 2 → q.1 = 2 → p.2 ≠ q.2))
theorem cN_Rule : ci_num g_LRule := ci_num_of (by decide +kernel)
set_option maxRecDepth 100000 in
theorem cz_Rule (h0 : Nat) (ca : Nat → Nat) : ci_w g_LRule g_mu0 3 g_FRule (fun _ => h0) ca 0 = [(h0, (.inr (3, [.null, .null, .int 0, .int 0, .null])))] := by
  unfold ci_w ci_f g_FRule
  simp only [List.mapIdx_cons, List.mapIdx_nil]
  rfl
set_option maxHeartbeats 4000000 in
set_option maxRecDepth 20000 in
theorem ci_Rule : g_Init g_LRule g_mu0 (.inr (3, [.null, .null, .int 0, .int 0, .null])) yX4_init cX4_init 1 3 1038 := by
  intro l D sz h0
  refine Met.ofW (cc := cX4_init) (maxL := 1) (ret := none) (by decide +kernel) rfl ?_
  intro p e s m args below meth c s₁ B hml hv
  obtain ⟨rfl, hsz, hP, hK, hD0, hN⟩ := hv
  have hts := atoms_spec (ws := g_ws yX4_init cX4_init 1 none) B.pre
  have hts2 : ∀ w ∈ g_gw, w.before #[Value.ref h0] s = true := fun w hw => hts w (List.mem_cons_of_mem _ hw)
  have hown : s.vm.findClass RX4 = some m.cls := findClass_of_methodNamed B.named
  have hx := B.exec
  have hb := B.bytes
  have hr := B.returns
  have hlocks := B.notSynchronized
  have hin : meth.name = "<init>" := (name_of_methodNamed B.named B.method).1
  subst hsz
  have hD := hD0.self (sz := s.heap.size)
  generalize hAe : va_A [(h0, (.inr (3, [.null, .null, .int 0, .int 0, .null])))] s.heap.size = A at hD ⊢
  have hA : ∀ q : Nat, s.heap.size ≤ q → A q := fun q h => by rw [← hAe]; exact Or.inr h
  have hS : va_S A s.heap s.heap [] := va_S.rf
  rw [← cz_Rule h0 (fun _ => 0)] at hP hD
  have h9 : (fun _ : Nat => h0) 0 = h0 := rfl
  generalize (fun _ : Nat => h0) = ad at h9 hP hD
  have hT : ci_ty g_LRule (fun _ => 0) [] 0 := fun i h1 h2 => absurd h1 (by omega)
  generalize (fun _ : Nat => (0 : Nat)) = ca at hT hP hD
  have hl := lv_entry ([Value.ref h0]) (n := 1) (Nat.le_of_ble_eq_true rfl)
  rw [show (#[Value.ref h0] : Array Value) = ([Value.ref h0] : List Value).toArray from rfl, lg_entry_eq]
  generalize (lg_sl ([Value.ref h0]) ++ List.replicate (1 - (lg_sl ([Value.ref h0])).length) Slot.unset).toArray = ls at hl ⊢
  have hl : lv_has ls 1 [(0, .ref h0)] := hl
  refine lv_aload_n hx hb dX4_init_0 rfl (lv_at hl 0 rfl) ?_
  refine W.objInit (cc := cX4_init) (own := RX4) (idx := 3) hx hb hown (hts2 _ (g_in1 (List.mem_of_getElem? (i := 208) rfl) rfl)) (hts2 _ g_oin) (hts2 _ g_oco) rfl (by rw [hml]; exact hl.1) rfl dX4_init_1 (by show 1 ≤ 20; omega) (Nat.le_of_ble_eq_true rfl) ?_
  refine W.eq (g2 := F0 m 4 ls []) rfl ?_
  refine lv_aload_n hx hb dX4_init_4 rfl (lv_at hl 0 rfl) ?_
  refine lv_sipush (v := 1000) hx hb dX4_init_5 (by decide) ?_
  refine ci_step1 (Λ := g_LRule) (n := 0) (cc := cX4_init) (ref := RX4) (atype := .int) (ty := .int) (N' := 1000) hx hb hts2 cf_X4 hown hin hA rfl cF_Rule cO_Rule cN_Rule (Nat.le_of_ble_eq_true rfl) rfl (Nat.le_of_ble_eq_true rfl) h9 hT hK hP hD hS g_awI rfl rfl (fun _ _ => rfl) (by decide) (by decide) (Nat.le_of_ble_eq_true rfl) (Nat.le_of_ble_eq_true rfl) (Nat.le_of_ble_eq_true rfl) dX4_init_8 0 (Nat.le_of_ble_eq_true rfl) rfl (g_in1 (List.mem_of_getElem? (i := 209) rfl) rfl) (fun _ h => h) rfl rfl (fun _ => rfl) (fun _ => rfl) dX4_init_10 ?_
  clear h9 hT hK hP hD hS
  intro ad ca tys H locs h9 hT hK hP hD hS
  refine lv_aload_n hx hb dX4_init_13 rfl (lv_at hl 0 rfl) ?_
  refine lv_bipush (v := 6) hx hb dX4_init_14 (by decide) ?_
  refine ci_step1 (Λ := g_LRule) (n := 1) (cc := cX4_init) (ref := RX4) (atype := .int) (ty := .int) (N' := 6) hx hb hts2 cf_X4 hown hin hA rfl cF_Rule cO_Rule cN_Rule (Nat.le_of_ble_eq_true rfl) rfl (Nat.le_of_ble_eq_true rfl) h9 hT hK hP hD hS g_awI rfl rfl (fun _ _ => rfl) (by decide) (by decide) (Nat.le_of_ble_eq_true rfl) (Nat.le_of_ble_eq_true rfl) (Nat.le_of_ble_eq_true rfl) dX4_init_16 1 (Nat.le_of_ble_eq_true rfl) rfl (g_in1 (List.mem_of_getElem? (i := 210) rfl) rfl) (fun _ h => h) rfl rfl (fun _ => rfl) (fun _ => rfl) dX4_init_18 ?_
  clear h9 hT hK hP hD hS
  intro ad ca tys H locs h9 hT hK hP hD hS
  refine lv_aload_n hx hb dX4_init_21 rfl (lv_at hl 0 rfl) ?_
  refine lv_bipush (v := 32) hx hb dX4_init_22 (by decide) ?_
  refine ci_step1 (Λ := g_LRule) (n := 2) (cc := cX4_init) (ref := RX4) (atype := .int) (ty := .int) (N' := 32) hx hb hts2 cf_X4 hown hin hA rfl cF_Rule cO_Rule cN_Rule (Nat.le_of_ble_eq_true rfl) rfl (Nat.le_of_ble_eq_true rfl) h9 hT hK hP hD hS g_awI rfl rfl (fun _ _ => rfl) (by decide) (by decide) (Nat.le_of_ble_eq_true rfl) (Nat.le_of_ble_eq_true rfl) (Nat.le_of_ble_eq_true rfl) dX4_init_24 4 (Nat.le_of_ble_eq_true rfl) rfl (g_in1 (List.mem_of_getElem? (i := 215) rfl) rfl) (fun _ h => h) rfl rfl (fun _ => rfl) (fun _ => rfl) dX4_init_26 ?_
  clear h9 hT hK hP hD hS
  intro ad ca tys H locs h9 hT hK hP hD hS
  rw [ci_fin (Λ := g_LRule) rfl rfl cB_Rule] at hP hD
  exact W.vret (cc := cX4_init) hx hb hr (fun t ht hW => ⟨rfl, ⟨ad, ca, tys, h9, ci_tys rfl rfl hT, va_K.moved hW.alike hK, (by rw [ht]; exact hP), hD⟩, hS.F ht⟩) hS.2.2 dX4_init_29 hlocks
theorem dX7_init_0 : decode cX7_init 0 = .ok (.aload_n 0, 1) := by decide +kernel
theorem dX7_init_1 : decode cX7_init 1 = .ok (.invokespecial 3, 3) := by decide +kernel
theorem dX7_init_4 : decode cX7_init 4 = .ok (.aload_n 0, 1) := by decide +kernel
theorem dX7_init_5 : decode cX7_init 5 = .ok (.bipush 40, 2) := by decide +kernel
theorem dX7_init_7 : decode cX7_init 7 = .ok (.newarray .int, 2) := by decide +kernel
theorem dX7_init_9 : decode cX7_init 9 = .ok (.putfield 9, 3) := by decide +kernel
theorem dX7_init_12 : decode cX7_init 12 = .ok (.aload_n 0, 1) := by decide +kernel
theorem dX7_init_13 : decode cX7_init 13 = .ok (.bipush 40, 2) := by decide +kernel
theorem dX7_init_15 : decode cX7_init 15 = .ok (.newarray .int, 2) := by decide +kernel
theorem dX7_init_17 : decode cX7_init 17 = .ok (.putfield 15, 3) := by decide +kernel
theorem dX7_init_20 : decode cX7_init 20 = .ok (.aload_n 0, 1) := by decide +kernel
theorem dX7_init_21 : decode cX7_init 21 = .ok (.bipush 40, 2) := by decide +kernel
theorem dX7_init_23 : decode cX7_init 23 = .ok (.newarray .int, 2) := by decide +kernel
theorem dX7_init_25 : decode cX7_init 25 = .ok (.putfield 18, 3) := by decide +kernel
theorem dX7_init_28 : decode cX7_init 28 = .ok (.aload_n 0, 1) := by decide +kernel
theorem dX7_init_29 : decode cX7_init 29 = .ok (.bipush 40, 2) := by decide +kernel
theorem dX7_init_31 : decode cX7_init 31 = .ok (.newarray .int, 2) := by decide +kernel
theorem dX7_init_33 : decode cX7_init 33 = .ok (.putfield 21, 3) := by decide +kernel
theorem dX7_init_36 : decode cX7_init 36 = .ok (.aload_n 0, 1) := by decide +kernel
theorem dX7_init_37 : decode cX7_init 37 = .ok (.bipush 40, 2) := by decide +kernel
theorem dX7_init_39 : decode cX7_init 39 = .ok (.newarray .int, 2) := by decide +kernel
theorem dX7_init_41 : decode cX7_init 41 = .ok (.putfield 24, 3) := by decide +kernel
theorem dX7_init_44 : decode cX7_init 44 = .ok (.aload_n 0, 1) := by decide +kernel
theorem dX7_init_45 : decode cX7_init 45 = .ok (.bipush 8, 2) := by decide +kernel
theorem dX7_init_47 : decode cX7_init 47 = .ok (.newarray .int, 2) := by decide +kernel
theorem dX7_init_49 : decode cX7_init 49 = .ok (.putfield 27, 3) := by decide +kernel
theorem dX7_init_52 : decode cX7_init 52 = .ok (.aload_n 0, 1) := by decide +kernel
theorem dX7_init_53 : decode cX7_init 53 = .ok (.bipush 8, 2) := by decide +kernel
theorem dX7_init_55 : decode cX7_init 55 = .ok (.newarray .int, 2) := by decide +kernel
theorem dX7_init_57 : decode cX7_init 57 = .ok (.putfield 30, 3) := by decide +kernel
theorem dX7_init_60 : decode cX7_init 60 = .ok (.return_, 1) := by decide +kernel
def g_FWeek : List (Nat × Nat) := [(0, 0), (0, 0), (2, 1), (2, 2), (2, 3), (2, 4), (2, 5), (2, 6), (2, 7)]
def g_LWeek : g_Lay := (8, fun id => [(.inl (5, g_FWeek)), (.inr (0, 40, g_zf)), (.inr (0, 40, g_zf)), (.inr (0, 40, g_zf)), (.inr (0, 40, g_zf)), (.inr (0, 40, g_zf)), (.inr (0, 8, g_zf)), (.inr (0, 8, g_zf))].getD id (.inl (0, [])))
theorem cF_Week : g_FWeek.all (fun p => decide (p.1 ≤ 2)) = true := by decide +kernel
theorem cB_Week : g_FWeek.all (fun p => decide (p.1 = 2 → p.2 ≤ 7)) = true := by decide +kernel
theorem cO_Week : ci_one g_FWeek := (by decide +kernel : g_FWeek.Pairwise (fun p q => p.1 = 2 → q.1 = 2 → p.2 ≠ q.2))
theorem cN_Week : ci_num g_LWeek := ci_num_of (by decide +kernel)
set_option maxRecDepth 100000 in
theorem cz_Week (h0 : Nat) (ca : Nat → Nat) : ci_w g_LWeek g_mu0 5 g_FWeek (fun _ => h0) ca 0 = [(h0, (.inr (5, [.int 0, .int 0, .null, .null, .null, .null, .null, .null, .null])))] := by
  unfold ci_w ci_f g_FWeek
  simp only [List.mapIdx_cons, List.mapIdx_nil]
  rfl
set_option maxHeartbeats 4000000 in
set_option maxRecDepth 20000 in
theorem ci_Week : g_Init g_LWeek g_mu0 (.inr (5, [.int 0, .int 0, .null, .null, .null, .null, .null, .null, .null])) yX7_init cX7_init 1 7 216 := by
  intro l D sz h0
  refine Met.ofW (cc := cX7_init) (maxL := 1) (ret := none) (by decide +kernel) rfl ?_
  intro p e s m args below meth c s₁ B hml hv
  obtain ⟨rfl, hsz, hP, hK, hD0, hN⟩ := hv
  have hts := atoms_spec (ws := g_ws yX7_init cX7_init 1 none) B.pre
  have hts2 : ∀ w ∈ g_gw, w.before #[Value.ref h0] s = true := fun w hw => hts w (List.mem_cons_of_mem _ hw)
  have hown : s.vm.findClass RX7 = some m.cls := findClass_of_methodNamed B.named
  have hx := B.exec
  have hb := B.bytes
  have hr := B.returns
  have hlocks := B.notSynchronized
  have hin : meth.name = "<init>" := (name_of_methodNamed B.named B.method).1
  subst hsz
  have hD := hD0.self (sz := s.heap.size)
  generalize hAe : va_A [(h0, (.inr (5, [.int 0, .int 0, .null, .null, .null, .null, .null, .null, .null])))] s.heap.size = A at hD ⊢
  have hA : ∀ q : Nat, s.heap.size ≤ q → A q := fun q h => by rw [← hAe]; exact Or.inr h
  have hS : va_S A s.heap s.heap [] := va_S.rf
  rw [← cz_Week h0 (fun _ => 0)] at hP hD
  have h9 : (fun _ : Nat => h0) 0 = h0 := rfl
  generalize (fun _ : Nat => h0) = ad at h9 hP hD
  have hT : ci_ty g_LWeek (fun _ => 0) [] 0 := fun i h1 h2 => absurd h1 (by omega)
  generalize (fun _ : Nat => (0 : Nat)) = ca at hT hP hD
  have hl := lv_entry ([Value.ref h0]) (n := 1) (Nat.le_of_ble_eq_true rfl)
  rw [show (#[Value.ref h0] : Array Value) = ([Value.ref h0] : List Value).toArray from rfl, lg_entry_eq]
  generalize (lg_sl ([Value.ref h0]) ++ List.replicate (1 - (lg_sl ([Value.ref h0])).length) Slot.unset).toArray = ls at hl ⊢
  have hl : lv_has ls 1 [(0, .ref h0)] := hl
  refine lv_aload_n hx hb dX7_init_0 rfl (lv_at hl 0 rfl) ?_
  refine W.objInit (cc := cX7_init) (own := RX7) (idx := 3) hx hb hown (hts2 _ (g_in1 (List.mem_of_getElem? (i := 232) rfl) rfl)) (hts2 _ g_oin) (hts2 _ g_oco) rfl (by rw [hml]; exact hl.1) rfl dX7_init_1 (by show 1 ≤ 20; omega) (Nat.le_of_ble_eq_true rfl) ?_
  refine W.eq (g2 := F0 m 4 ls []) rfl ?_
  refine lv_aload_n hx hb dX7_init_4 rfl (lv_at hl 0 rfl) ?_
  refine lv_bipush (v := 40) hx hb dX7_init_5 (by decide) ?_
  refine ci_step1 (Λ := g_LWeek) (n := 0) (cc := cX7_init) (ref := RX7) (atype := .int) (ty := .int) (N' := 40) hx hb hts2 cf_X7 hown hin hA rfl cF_Week cO_Week cN_Week (Nat.le_of_ble_eq_true rfl) rfl (Nat.le_of_ble_eq_true rfl) h9 hT hK hP hD hS g_awI rfl rfl (fun _ _ => rfl) (by decide) (by decide) (Nat.le_of_ble_eq_true rfl) (Nat.le_of_ble_eq_true rfl) (Nat.le_of_ble_eq_true rfl) dX7_init_7 2 (Nat.le_of_ble_eq_true rfl) rfl (g_in1 (List.mem_of_getElem? (i := 237) rfl) rfl) (fun _ h => h) rfl rfl (fun _ => rfl) (fun _ => rfl) dX7_init_9 ?_
  clear h9 hT hK hP hD hS
  intro ad ca tys H locs h9 hT hK hP hD hS
  refine lv_aload_n hx hb dX7_init_12 rfl (lv_at hl 0 rfl) ?_
  refine lv_bipush (v := 40) hx hb dX7_init_13 (by decide) ?_
  refine ci_step1 (Λ := g_LWeek) (n := 1) (cc := cX7_init) (ref := RX7) (atype := .int) (ty := .int) (N' := 40) hx hb hts2 cf_X7 hown hin hA rfl cF_Week cO_Week cN_Week (Nat.le_of_ble_eq_true rfl) rfl (Nat.le_of_ble_eq_true rfl) h9 hT hK hP hD hS g_awI rfl rfl (fun _ _ => rfl) (by decide) (by decide) (Nat.le_of_ble_eq_true rfl) (Nat.le_of_ble_eq_true rfl) (Nat.le_of_ble_eq_true rfl) dX7_init_15 3 (Nat.le_of_ble_eq_true rfl) rfl (g_in1 (List.mem_of_getElem? (i := 239) rfl) rfl) (fun _ h => h) rfl rfl (fun _ => rfl) (fun _ => rfl) dX7_init_17 ?_
  clear h9 hT hK hP hD hS
  intro ad ca tys H locs h9 hT hK hP hD hS
  refine lv_aload_n hx hb dX7_init_20 rfl (lv_at hl 0 rfl) ?_
  refine lv_bipush (v := 40) hx hb dX7_init_21 (by decide) ?_
  refine ci_step1 (Λ := g_LWeek) (n := 2) (cc := cX7_init) (ref := RX7) (atype := .int) (ty := .int) (N' := 40) hx hb hts2 cf_X7 hown hin hA rfl cF_Week cO_Week cN_Week (Nat.le_of_ble_eq_true rfl) rfl (Nat.le_of_ble_eq_true rfl) h9 hT hK hP hD hS g_awI rfl rfl (fun _ _ => rfl) (by decide) (by decide) (Nat.le_of_ble_eq_true rfl) (Nat.le_of_ble_eq_true rfl) (Nat.le_of_ble_eq_true rfl) dX7_init_23 4 (Nat.le_of_ble_eq_true rfl) rfl (g_in2 (List.mem_of_getElem? (i := 1) rfl) rfl) (fun _ h => h) rfl rfl (fun _ => rfl) (fun _ => rfl) dX7_init_25 ?_
  clear h9 hT hK hP hD hS
  intro ad ca tys H locs h9 hT hK hP hD hS
  refine lv_aload_n hx hb dX7_init_28 rfl (lv_at hl 0 rfl) ?_
  refine lv_bipush (v := 40) hx hb dX7_init_29 (by decide) ?_
  refine ci_step1 (Λ := g_LWeek) (n := 3) (cc := cX7_init) (ref := RX7) (atype := .int) (ty := .int) (N' := 40) hx hb hts2 cf_X7 hown hin hA rfl cF_Week cO_Week cN_Week (Nat.le_of_ble_eq_true rfl) rfl (Nat.le_of_ble_eq_true rfl) h9 hT hK hP hD hS g_awI rfl rfl (fun _ _ => rfl) (by decide) (by decide) (Nat.le_of_ble_eq_true rfl) (Nat.le_of_ble_eq_true rfl) (Nat.le_of_ble_eq_true rfl) dX7_init_31 5 (Nat.le_of_ble_eq_true rfl) rfl (g_in2 (List.mem_of_getElem? (i := 3) rfl) rfl) (fun _ h => h) rfl rfl (fun _ => rfl) (fun _ => rfl) dX7_init_33 ?_
  clear h9 hT hK hP hD hS
  intro ad ca tys H locs h9 hT hK hP hD hS
  refine lv_aload_n hx hb dX7_init_36 rfl (lv_at hl 0 rfl) ?_
  refine lv_bipush (v := 40) hx hb dX7_init_37 (by decide) ?_
  refine ci_step1 (Λ := g_LWeek) (n := 4) (cc := cX7_init) (ref := RX7) (atype := .int) (ty := .int) (N' := 40) hx hb hts2 cf_X7 hown hin hA rfl cF_Week cO_Week cN_Week (Nat.le_of_ble_eq_true rfl) rfl (Nat.le_of_ble_eq_true rfl) h9 hT hK hP hD hS g_awI rfl rfl (fun _ _ => rfl) (by decide) (by decide) (Nat.le_of_ble_eq_true rfl) (Nat.le_of_ble_eq_true rfl) (Nat.le_of_ble_eq_true rfl) dX7_init_39 6 (Nat.le_of_ble_eq_true rfl) rfl (g_in2 (List.mem_of_getElem? (i := 5) rfl) rfl) (fun _ h => h) rfl rfl (fun _ => rfl) (fun _ => rfl) dX7_init_41 ?_
  clear h9 hT hK hP hD hS
  intro ad ca tys H locs h9 hT hK hP hD hS
  refine lv_aload_n hx hb dX7_init_44 rfl (lv_at hl 0 rfl) ?_
  refine lv_bipush (v := 8) hx hb dX7_init_45 (by decide) ?_
  refine ci_step1 (Λ := g_LWeek) (n := 5) (cc := cX7_init) (ref := RX7) (atype := .int) (ty := .int) (N' := 8) hx hb hts2 cf_X7 hown hin hA rfl cF_Week cO_Week cN_Week (Nat.le_of_ble_eq_true rfl) rfl (Nat.le_of_ble_eq_true rfl) h9 hT hK hP hD hS g_awI rfl rfl (fun _ _ => rfl) (by decide) (by decide) (Nat.le_of_ble_eq_true rfl) (Nat.le_of_ble_eq_true rfl) (Nat.le_of_ble_eq_true rfl) dX7_init_47 7 (Nat.le_of_ble_eq_true rfl) rfl (g_in2 (List.mem_of_getElem? (i := 7) rfl) rfl) (fun _ h => h) rfl rfl (fun _ => rfl) (fun _ => rfl) dX7_init_49 ?_
  clear h9 hT hK hP hD hS
  intro ad ca tys H locs h9 hT hK hP hD hS
  refine lv_aload_n hx hb dX7_init_52 rfl (lv_at hl 0 rfl) ?_
  refine lv_bipush (v := 8) hx hb dX7_init_53 (by decide) ?_
  refine ci_step1 (Λ := g_LWeek) (n := 6) (cc := cX7_init) (ref := RX7) (atype := .int) (ty := .int) (N' := 8) hx hb hts2 cf_X7 hown hin hA rfl cF_Week cO_Week cN_Week (Nat.le_of_ble_eq_true rfl) rfl (Nat.le_of_ble_eq_true rfl) h9 hT hK hP hD hS g_awI rfl rfl (fun _ _ => rfl) (by decide) (by decide) (Nat.le_of_ble_eq_true rfl) (Nat.le_of_ble_eq_true rfl) (Nat.le_of_ble_eq_true rfl) dX7_init_55 8 (Nat.le_of_ble_eq_true rfl) rfl (g_in2 (List.mem_of_getElem? (i := 9) rfl) rfl) (fun _ h => h) rfl rfl (fun _ => rfl) (fun _ => rfl) dX7_init_57 ?_
  clear h9 hT hK hP hD hS
  intro ad ca tys H locs h9 hT hK hP hD hS
  rw [ci_fin (Λ := g_LWeek) rfl rfl cB_Week] at hP hD
  exact W.vret (cc := cX7_init) hx hb hr (fun t ht hW => ⟨rfl, ⟨ad, ca, tys, h9, ci_tys rfl rfl hT, va_K.moved hW.alike hK, (by rw [ht]; exact hP), hD⟩, hS.F ht⟩) hS.2.2 dX7_init_60 hlocks
theorem dX3_init_0 : decode cX3_init 0 = .ok (.aload_n 0, 1) := by decide +kernel
theorem dX3_init_1 : decode cX3_init 1 = .ok (.invokespecial 3, 3) := by decide +kernel
theorem dX3_init_4 : decode cX3_init 4 = .ok (.aload_n 0, 1) := by decide +kernel
theorem dX3_init_5 : decode cX3_init 5 = .ok (.bipush 64, 2) := by decide +kernel
theorem dX3_init_7 : decode cX3_init 7 = .ok (.newarray .int, 2) := by decide +kernel
theorem dX3_init_9 : decode cX3_init 9 = .ok (.putfield 9, 3) := by decide +kernel
theorem dX3_init_12 : decode cX3_init 12 = .ok (.aload_n 0, 1) := by decide +kernel
theorem dX3_init_13 : decode cX3_init 13 = .ok (.bipush 48, 2) := by decide +kernel
theorem dX3_init_15 : decode cX3_init 15 = .ok (.newarray .int, 2) := by decide +kernel
theorem dX3_init_17 : decode cX3_init 17 = .ok (.putfield 15, 3) := by decide +kernel
theorem dX3_init_20 : decode cX3_init 20 = .ok (.aload_n 0, 1) := by decide +kernel
theorem dX3_init_21 : decode cX3_init 21 = .ok (.bipush 48, 2) := by decide +kernel
theorem dX3_init_23 : decode cX3_init 23 = .ok (.newarray .int, 2) := by decide +kernel
theorem dX3_init_25 : decode cX3_init 25 = .ok (.putfield 18, 3) := by decide +kernel
theorem dX3_init_28 : decode cX3_init 28 = .ok (.aload_n 0, 1) := by decide +kernel
theorem dX3_init_29 : decode cX3_init 29 = .ok (.bipush 48, 2) := by decide +kernel
theorem dX3_init_31 : decode cX3_init 31 = .ok (.newarray .int, 2) := by decide +kernel
theorem dX3_init_33 : decode cX3_init 33 = .ok (.putfield 21, 3) := by decide +kernel
theorem dX3_init_36 : decode cX3_init 36 = .ok (.aload_n 0, 1) := by decide +kernel
theorem dX3_init_37 : decode cX3_init 37 = .ok (.bipush 48, 2) := by decide +kernel
theorem dX3_init_39 : decode cX3_init 39 = .ok (.newarray .int, 2) := by decide +kernel
theorem dX3_init_41 : decode cX3_init 41 = .ok (.putfield 24, 3) := by decide +kernel
theorem dX3_init_44 : decode cX3_init 44 = .ok (.aload_n 0, 1) := by decide +kernel
theorem dX3_init_45 : decode cX3_init 45 = .ok (.sipush 256, 3) := by decide +kernel
theorem dX3_init_48 : decode cX3_init 48 = .ok (.newarray .int, 2) := by decide +kernel
theorem dX3_init_50 : decode cX3_init 50 = .ok (.putfield 27, 3) := by decide +kernel
theorem dX3_init_53 : decode cX3_init 53 = .ok (.aload_n 0, 1) := by decide +kernel
theorem dX3_init_54 : decode cX3_init 54 = .ok (.sipush 256, 3) := by decide +kernel
theorem dX3_init_57 : decode cX3_init 57 = .ok (.newarray .int, 2) := by decide +kernel
theorem dX3_init_59 : decode cX3_init 59 = .ok (.putfield 30, 3) := by decide +kernel
theorem dX3_init_62 : decode cX3_init 62 = .ok (.aload_n 0, 1) := by decide +kernel
theorem dX3_init_63 : decode cX3_init 63 = .ok (.sipush 256, 3) := by decide +kernel
theorem dX3_init_66 : decode cX3_init 66 = .ok (.newarray .int, 2) := by decide +kernel
theorem dX3_init_68 : decode cX3_init 68 = .ok (.putfield 33, 3) := by decide +kernel
theorem dX3_init_71 : decode cX3_init 71 = .ok (.aload_n 0, 1) := by decide +kernel
theorem dX3_init_72 : decode cX3_init 72 = .ok (.sipush 256, 3) := by decide +kernel
theorem dX3_init_75 : decode cX3_init 75 = .ok (.newarray .int, 2) := by decide +kernel
theorem dX3_init_77 : decode cX3_init 77 = .ok (.putfield 36, 3) := by decide +kernel
theorem dX3_init_80 : decode cX3_init 80 = .ok (.return_, 1) := by decide +kernel
def g_FRounds : List (Nat × Nat) := [(2, 1), (2, 2), (2, 3), (2, 4), (2, 5), (2, 6), (2, 7), (2, 8), (2, 9)]
def g_LRounds : g_Lay := (10, fun id => [(.inl (2, g_FRounds)), (.inr (0, 64, g_zf)), (.inr (0, 48, g_zf)), (.inr (0, 48, g_zf)), (.inr (0, 48, g_zf)), (.inr (0, 48, g_zf)), (.inr (0, 256, g_zf)), (.inr (0, 256, g_zf)), (.inr (0, 256, g_zf)), (.inr (0, 256, g_zf))].getD id (.inl (0, [])))
theorem cF_Rounds : g_FRounds.all (fun p => decide (p.1 ≤ 2)) = true := by decide +kernel
theorem cB_Rounds : g_FRounds.all (fun p => decide (p.1 = 2 → p.2 ≤ 9)) = true := by decide +kernel
theorem cO_Rounds : ci_one g_FRounds := (by decide +kernel : g_FRounds.Pairwise (fun p q => p.1 = 2 → q.1 = 2 → p.2 ≠ q.2))
theorem cN_Rounds : ci_num g_LRounds := ci_num_of (by decide +kernel)
set_option maxRecDepth 100000 in
theorem cz_Rounds (h0 : Nat) (ca : Nat → Nat) : ci_w g_LRounds g_mu0 2 g_FRounds (fun _ => h0) ca 0 = [(h0, (.inr (2, [.null, .null, .null, .null, .null, .null, .null, .null, .null])))] := by
  unfold ci_w ci_f g_FRounds
  simp only [List.mapIdx_cons, List.mapIdx_nil]
  rfl
set_option maxHeartbeats 4000000 in
set_option maxRecDepth 20000 in
theorem ci_Rounds : g_Init g_LRounds g_mu0 (.inr (2, [.null, .null, .null, .null, .null, .null, .null, .null, .null])) yX3_init cX3_init 1 9 1280 := by
  intro l D sz h0
  refine Met.ofW (cc := cX3_init) (maxL := 1) (ret := none) (by decide +kernel) rfl ?_
  intro p e s m args below meth c s₁ B hml hv
  obtain ⟨rfl, hsz, hP, hK, hD0, hN⟩ := hv
  have hts := atoms_spec (ws := g_ws yX3_init cX3_init 1 none) B.pre
  have hts2 : ∀ w ∈ g_gw, w.before #[Value.ref h0] s = true := fun w hw => hts w (List.mem_cons_of_mem _ hw)
  have hown : s.vm.findClass RX3 = some m.cls := findClass_of_methodNamed B.named
  have hx := B.exec
  have hb := B.bytes
  have hr := B.returns
  have hlocks := B.notSynchronized
  have hin : meth.name = "<init>" := (name_of_methodNamed B.named B.method).1
  subst hsz
  have hD := hD0.self (sz := s.heap.size)
  generalize hAe : va_A [(h0, (.inr (2, [.null, .null, .null, .null, .null, .null, .null, .null, .null])))] s.heap.size = A at hD ⊢
  have hA : ∀ q : Nat, s.heap.size ≤ q → A q := fun q h => by rw [← hAe]; exact Or.inr h
  have hS : va_S A s.heap s.heap [] := va_S.rf
  rw [← cz_Rounds h0 (fun _ => 0)] at hP hD
  have h9 : (fun _ : Nat => h0) 0 = h0 := rfl
  generalize (fun _ : Nat => h0) = ad at h9 hP hD
  have hT : ci_ty g_LRounds (fun _ => 0) [] 0 := fun i h1 h2 => absurd h1 (by omega)
  generalize (fun _ : Nat => (0 : Nat)) = ca at hT hP hD
  have hl := lv_entry ([Value.ref h0]) (n := 1) (Nat.le_of_ble_eq_true rfl)
  rw [show (#[Value.ref h0] : Array Value) = ([Value.ref h0] : List Value).toArray from rfl, lg_entry_eq]
  generalize (lg_sl ([Value.ref h0]) ++ List.replicate (1 - (lg_sl ([Value.ref h0])).length) Slot.unset).toArray = ls at hl ⊢
  have hl : lv_has ls 1 [(0, .ref h0)] := hl
  refine lv_aload_n hx hb dX3_init_0 rfl (lv_at hl 0 rfl) ?_
  refine W.objInit (cc := cX3_init) (own := RX3) (idx := 3) hx hb hown (hts2 _ (g_in2 (List.mem_of_getElem? (i := 36) rfl) rfl)) (hts2 _ g_oin) (hts2 _ g_oco) rfl (by rw [hml]; exact hl.1) rfl dX3_init_1 (by show 1 ≤ 20; omega) (Nat.le_of_ble_eq_true rfl) ?_
  refine W.eq (g2 := F0 m 4 ls []) rfl ?_
  refine lv_aload_n hx hb dX3_init_4 rfl (lv_at hl 0 rfl) ?_
  refine lv_bipush (v := 64) hx hb dX3_init_5 (by decide) ?_
  refine ci_step1 (Λ := g_LRounds) (n := 0) (cc := cX3_init) (ref := RX3) (atype := .int) (ty := .int) (N' := 64) hx hb hts2 cf_X3 hown hin hA rfl cF_Rounds cO_Rounds cN_Rounds (Nat.le_of_ble_eq_true rfl) rfl (Nat.le_of_ble_eq_true rfl) h9 hT hK hP hD hS g_awI rfl rfl (fun _ _ => rfl) (by decide) (by decide) (Nat.le_of_ble_eq_true rfl) (Nat.le_of_ble_eq_true rfl) (Nat.le_of_ble_eq_true rfl) dX3_init_7 0 (Nat.le_of_ble_eq_true rfl) rfl (g_in2 (List.mem_of_getElem? (i := 37) rfl) rfl) (fun _ h => h) rfl rfl (fun _ => rfl) (fun _ => rfl) dX3_init_9 ?_
  clear h9 hT hK hP hD hS
  intro ad ca tys H locs h9 hT hK hP hD hS
  refine lv_aload_n hx hb dX3_init_12 rfl (lv_at hl 0 rfl) ?_
  refine lv_bipush (v := 48) hx hb dX3_init_13 (by decide) ?_
  refine ci_step1 (Λ := g_LRounds) (n := 1) (cc := cX3_init) (ref := RX3) (atype := .int) (ty := .int) (N' := 48) hx hb hts2 cf_X3 hown hin hA rfl cF_Rounds cO_Rounds cN_Rounds (Nat.le_of_ble_eq_true rfl) rfl (Nat.le_of_ble_eq_true rfl) h9 hT hK hP hD hS g_awI rfl rfl (fun _ _ => rfl) (by decide) (by decide) (Nat.le_of_ble_eq_true rfl) (Nat.le_of_ble_eq_true rfl) (Nat.le_of_ble_eq_true rfl) dX3_init_15 1 (Nat.le_of_ble_eq_true rfl) rfl (g_in2 (List.mem_of_getElem? (i := 38) rfl) rfl) (fun _ h => h) rfl rfl (fun _ => rfl) (fun _ => rfl) dX3_init_17 ?_
  clear h9 hT hK hP hD hS
  intro ad ca tys H locs h9 hT hK hP hD hS
  refine lv_aload_n hx hb dX3_init_20 rfl (lv_at hl 0 rfl) ?_
  refine lv_bipush (v := 48) hx hb dX3_init_21 (by decide) ?_
  refine ci_step1 (Λ := g_LRounds) (n := 2) (cc := cX3_init) (ref := RX3) (atype := .int) (ty := .int) (N' := 48) hx hb hts2 cf_X3 hown hin hA rfl cF_Rounds cO_Rounds cN_Rounds (Nat.le_of_ble_eq_true rfl) rfl (Nat.le_of_ble_eq_true rfl) h9 hT hK hP hD hS g_awI rfl rfl (fun _ _ => rfl) (by decide) (by decide) (Nat.le_of_ble_eq_true rfl) (Nat.le_of_ble_eq_true rfl) (Nat.le_of_ble_eq_true rfl) dX3_init_23 2 (Nat.le_of_ble_eq_true rfl) rfl (g_in2 (List.mem_of_getElem? (i := 39) rfl) rfl) (fun _ h => h) rfl rfl (fun _ => rfl) (fun _ => rfl) dX3_init_25 ?_
  clear h9 hT hK hP hD hS
  intro ad ca tys H locs h9 hT hK hP hD hS
  refine lv_aload_n hx hb dX3_init_28 rfl (lv_at hl 0 rfl) ?_
  refine lv_bipush (v := 48) hx hb dX3_init_29 (by decide) ?_
  refine ci_step1 (Λ := g_LRounds) (n := 3) (cc := cX3_init) (ref := RX3) (atype := .int) (ty := .int) (N' := 48) hx hb hts2 cf_X3 hown hin hA rfl cF_Rounds cO_Rounds cN_Rounds (Nat.le_of_ble_eq_true rfl) rfl (Nat.le_of_ble_eq_true rfl) h9 hT hK hP hD hS g_awI rfl rfl (fun _ _ => rfl) (by decide) (by decide) (Nat.le_of_ble_eq_true rfl) (Nat.le_of_ble_eq_true rfl) (Nat.le_of_ble_eq_true rfl) dX3_init_31 3 (Nat.le_of_ble_eq_true rfl) rfl (g_in2 (List.mem_of_getElem? (i := 40) rfl) rfl) (fun _ h => h) rfl rfl (fun _ => rfl) (fun _ => rfl) dX3_init_33 ?_
  clear h9 hT hK hP hD hS
  intro ad ca tys H locs h9 hT hK hP hD hS
  refine lv_aload_n hx hb dX3_init_36 rfl (lv_at hl 0 rfl) ?_
  refine lv_bipush (v := 48) hx hb dX3_init_37 (by decide) ?_
  refine ci_step1 (Λ := g_LRounds) (n := 4) (cc := cX3_init) (ref := RX3) (atype := .int) (ty := .int) (N' := 48) hx hb hts2 cf_X3 hown hin hA rfl cF_Rounds cO_Rounds cN_Rounds (Nat.le_of_ble_eq_true rfl) rfl (Nat.le_of_ble_eq_true rfl) h9 hT hK hP hD hS g_awI rfl rfl (fun _ _ => rfl) (by decide) (by decide) (Nat.le_of_ble_eq_true rfl) (Nat.le_of_ble_eq_true rfl) (Nat.le_of_ble_eq_true rfl) dX3_init_39 4 (Nat.le_of_ble_eq_true rfl) rfl (g_in2 (List.mem_of_getElem? (i := 41) rfl) rfl) (fun _ h => h) rfl rfl (fun _ => rfl) (fun _ => rfl) dX3_init_41 ?_
  clear h9 hT hK hP hD hS
  intro ad ca tys H locs h9 hT hK hP hD hS
  refine lv_aload_n hx hb dX3_init_44 rfl (lv_at hl 0 rfl) ?_
  refine lv_sipush (v := 256) hx hb dX3_init_45 (by decide) ?_
  refine ci_step1 (Λ := g_LRounds) (n := 5) (cc := cX3_init) (ref := RX3) (atype := .int) (ty := .int) (N' := 256) hx hb hts2 cf_X3 hown hin hA rfl cF_Rounds cO_Rounds cN_Rounds (Nat.le_of_ble_eq_true rfl) rfl (Nat.le_of_ble_eq_true rfl) h9 hT hK hP hD hS g_awI rfl rfl (fun _ _ => rfl) (by decide) (by decide) (Nat.le_of_ble_eq_true rfl) (Nat.le_of_ble_eq_true rfl) (Nat.le_of_ble_eq_true rfl) dX3_init_48 5 (Nat.le_of_ble_eq_true rfl) rfl (g_in2 (List.mem_of_getElem? (i := 42) rfl) rfl) (fun _ h => h) rfl rfl (fun _ => rfl) (fun _ => rfl) dX3_init_50 ?_
  clear h9 hT hK hP hD hS
  intro ad ca tys H locs h9 hT hK hP hD hS
  refine lv_aload_n hx hb dX3_init_53 rfl (lv_at hl 0 rfl) ?_
  refine lv_sipush (v := 256) hx hb dX3_init_54 (by decide) ?_
  refine ci_step1 (Λ := g_LRounds) (n := 6) (cc := cX3_init) (ref := RX3) (atype := .int) (ty := .int) (N' := 256) hx hb hts2 cf_X3 hown hin hA rfl cF_Rounds cO_Rounds cN_Rounds (Nat.le_of_ble_eq_true rfl) rfl (Nat.le_of_ble_eq_true rfl) h9 hT hK hP hD hS g_awI rfl rfl (fun _ _ => rfl) (by decide) (by decide) (Nat.le_of_ble_eq_true rfl) (Nat.le_of_ble_eq_true rfl) (Nat.le_of_ble_eq_true rfl) dX3_init_57 6 (Nat.le_of_ble_eq_true rfl) rfl (g_in2 (List.mem_of_getElem? (i := 44) rfl) rfl) (fun _ h => h) rfl rfl (fun _ => rfl) (fun _ => rfl) dX3_init_59 ?_
  clear h9 hT hK hP hD hS
  intro ad ca tys H locs h9 hT hK hP hD hS
  refine lv_aload_n hx hb dX3_init_62 rfl (lv_at hl 0 rfl) ?_
  refine lv_sipush (v := 256) hx hb dX3_init_63 (by decide) ?_
  refine ci_step1 (Λ := g_LRounds) (n := 7) (cc := cX3_init) (ref := RX3) (atype := .int) (ty := .int) (N' := 256) hx hb hts2 cf_X3 hown hin hA rfl cF_Rounds cO_Rounds cN_Rounds (Nat.le_of_ble_eq_true rfl) rfl (Nat.le_of_ble_eq_true rfl) h9 hT hK hP hD hS g_awI rfl rfl (fun _ _ => rfl) (by decide) (by decide) (Nat.le_of_ble_eq_true rfl) (Nat.le_of_ble_eq_true rfl) (Nat.le_of_ble_eq_true rfl) dX3_init_66 7 (Nat.le_of_ble_eq_true rfl) rfl (g_in2 (List.mem_of_getElem? (i := 46) rfl) rfl) (fun _ h => h) rfl rfl (fun _ => rfl) (fun _ => rfl) dX3_init_68 ?_
  clear h9 hT hK hP hD hS
  intro ad ca tys H locs h9 hT hK hP hD hS
  refine lv_aload_n hx hb dX3_init_71 rfl (lv_at hl 0 rfl) ?_
  refine lv_sipush (v := 256) hx hb dX3_init_72 (by decide) ?_
  refine ci_step1 (Λ := g_LRounds) (n := 8) (cc := cX3_init) (ref := RX3) (atype := .int) (ty := .int) (N' := 256) hx hb hts2 cf_X3 hown hin hA rfl cF_Rounds cO_Rounds cN_Rounds (Nat.le_of_ble_eq_true rfl) rfl (Nat.le_of_ble_eq_true rfl) h9 hT hK hP hD hS g_awI rfl rfl (fun _ _ => rfl) (by decide) (by decide) (Nat.le_of_ble_eq_true rfl) (Nat.le_of_ble_eq_true rfl) (Nat.le_of_ble_eq_true rfl) dX3_init_75 8 (Nat.le_of_ble_eq_true rfl) rfl (g_in2 (List.mem_of_getElem? (i := 48) rfl) rfl) (fun _ h => h) rfl rfl (fun _ => rfl) (fun _ => rfl) dX3_init_77 ?_
  clear h9 hT hK hP hD hS
  intro ad ca tys H locs h9 hT hK hP hD hS
  rw [ci_fin (Λ := g_LRounds) rfl rfl cB_Rounds] at hP hD
  exact W.vret (cc := cX3_init) hx hb hr (fun t ht hW => ⟨rfl, ⟨ad, ca, tys, h9, ci_tys rfl rfl hT, va_K.moved hW.alike hK, (by rw [ht]; exact hP), hD⟩, hS.F ht⟩) hS.2.2 dX3_init_80 hlocks
theorem dX9_init_0 : decode cX9_init 0 = .ok (.aload_n 0, 1) := by decide +kernel
theorem dX9_init_1 : decode cX9_init 1 = .ok (.invokespecial 1, 3) := by decide +kernel
theorem dX9_init_4 : decode cX9_init 4 = .ok (.aload_n 0, 1) := by decide +kernel
theorem dX9_init_5 : decode cX9_init 5 = .ok (.sipush 1000, 3) := by decide +kernel
theorem dX9_init_8 : decode cX9_init 8 = .ok (.newarray .int, 2) := by decide +kernel
theorem dX9_init_10 : decode cX9_init 10 = .ok (.putfield 7, 3) := by decide +kernel
theorem dX9_init_13 : decode cX9_init 13 = .ok (.aload_n 0, 1) := by decide +kernel
theorem dX9_init_14 : decode cX9_init 14 = .ok (.iconst 2, 1) := by decide +kernel
theorem dX9_init_15 : decode cX9_init 15 = .ok (.newarray .int, 2) := by decide +kernel
theorem dX9_init_17 : decode cX9_init 17 = .ok (.putfield 13, 3) := by decide +kernel
theorem dX9_init_20 : decode cX9_init 20 = .ok (.aload_n 0, 1) := by decide +kernel
theorem dX9_init_21 : decode cX9_init 21 = .ok (.iconst 2, 1) := by decide +kernel
theorem dX9_init_22 : decode cX9_init 22 = .ok (.newarray .int, 2) := by decide +kernel
theorem dX9_init_24 : decode cX9_init 24 = .ok (.putfield 16, 3) := by decide +kernel
theorem dX9_init_27 : decode cX9_init 27 = .ok (.aload_n 0, 1) := by decide +kernel
theorem dX9_init_28 : decode cX9_init 28 = .ok (.iconst 2, 1) := by decide +kernel
theorem dX9_init_29 : decode cX9_init 29 = .ok (.newarray .int, 2) := by decide +kernel
theorem dX9_init_31 : decode cX9_init 31 = .ok (.putfield 19, 3) := by decide +kernel
theorem dX9_init_34 : decode cX9_init 34 = .ok (.aload_n 0, 1) := by decide +kernel
theorem dX9_init_35 : decode cX9_init 35 = .ok (.bipush 10, 2) := by decide +kernel
theorem dX9_init_37 : decode cX9_init 37 = .ok (.newarray .long, 2) := by decide +kernel
theorem dX9_init_39 : decode cX9_init 39 = .ok (.putfield 22, 3) := by decide +kernel
theorem dX9_init_42 : decode cX9_init 42 = .ok (.aload_n 0, 1) := by decide +kernel
theorem dX9_init_43 : decode cX9_init 43 = .ok (.bipush 12, 2) := by decide +kernel
theorem dX9_init_45 : decode cX9_init 45 = .ok (.newarray .long, 2) := by decide +kernel
theorem dX9_init_47 : decode cX9_init 47 = .ok (.putfield 26, 3) := by decide +kernel
theorem dX9_init_50 : decode cX9_init 50 = .ok (.aload_n 0, 1) := by decide +kernel
theorem dX9_init_51 : decode cX9_init 51 = .ok (.bipush 16, 2) := by decide +kernel
theorem dX9_init_53 : decode cX9_init 53 = .ok (.newarray .long, 2) := by decide +kernel
theorem dX9_init_55 : decode cX9_init 55 = .ok (.putfield 29, 3) := by decide +kernel
theorem dX9_init_58 : decode cX9_init 58 = .ok (.aload_n 0, 1) := by decide +kernel
theorem dX9_init_59 : decode cX9_init 59 = .ok (.bipush 50, 2) := by decide +kernel
theorem dX9_init_61 : decode cX9_init 61 = .ok (.newarray .int, 2) := by decide +kernel
theorem dX9_init_63 : decode cX9_init 63 = .ok (.putfield 32, 3) := by decide +kernel
theorem dX9_init_66 : decode cX9_init 66 = .ok (.aload_n 0, 1) := by decide +kernel
theorem dX9_init_67 : decode cX9_init 67 = .ok (.bipush 12, 2) := by decide +kernel
theorem dX9_init_69 : decode cX9_init 69 = .ok (.newarray .int, 2) := by decide +kernel
theorem dX9_init_71 : decode cX9_init 71 = .ok (.putfield 35, 3) := by decide +kernel
theorem dX9_init_74 : decode cX9_init 74 = .ok (.aload_n 0, 1) := by decide +kernel
theorem dX9_init_75 : decode cX9_init 75 = .ok (.bipush 12, 2) := by decide +kernel
theorem dX9_init_77 : decode cX9_init 77 = .ok (.newarray .int, 2) := by decide +kernel
theorem dX9_init_79 : decode cX9_init 79 = .ok (.putfield 38, 3) := by decide +kernel
theorem dX9_init_82 : decode cX9_init 82 = .ok (.aload_n 0, 1) := by decide +kernel
theorem dX9_init_83 : decode cX9_init 83 = .ok (.bipush 16, 2) := by decide +kernel
theorem dX9_init_85 : decode cX9_init 85 = .ok (.newarray .int, 2) := by decide +kernel
theorem dX9_init_87 : decode cX9_init 87 = .ok (.putfield 41, 3) := by decide +kernel
theorem dX9_init_90 : decode cX9_init 90 = .ok (.aload_n 0, 1) := by decide +kernel
theorem dX9_init_91 : decode cX9_init 91 = .ok (.bipush 16, 2) := by decide +kernel
theorem dX9_init_93 : decode cX9_init 93 = .ok (.newarray .int, 2) := by decide +kernel
theorem dX9_init_95 : decode cX9_init 95 = .ok (.putfield 44, 3) := by decide +kernel
theorem dX9_init_98 : decode cX9_init 98 = .ok (.aload_n 0, 1) := by decide +kernel
theorem dX9_init_99 : decode cX9_init 99 = .ok (.sipush 288, 3) := by decide +kernel
theorem dX9_init_102 : decode cX9_init 102 = .ok (.newarray .int, 2) := by decide +kernel
theorem dX9_init_104 : decode cX9_init 104 = .ok (.putfield 47, 3) := by decide +kernel
theorem dX9_init_107 : decode cX9_init 107 = .ok (.aload_n 0, 1) := by decide +kernel
theorem dX9_init_108 : decode cX9_init 108 = .ok (.bipush 12, 2) := by decide +kernel
theorem dX9_init_110 : decode cX9_init 110 = .ok (.newarray .int, 2) := by decide +kernel
theorem dX9_init_112 : decode cX9_init 112 = .ok (.putfield 50, 3) := by decide +kernel
theorem dX9_init_115 : decode cX9_init 115 = .ok (.aload_n 0, 1) := by decide +kernel
theorem dX9_init_116 : decode cX9_init 116 = .ok (.bipush 12, 2) := by decide +kernel
theorem dX9_init_118 : decode cX9_init 118 = .ok (.newarray .int, 2) := by decide +kernel
theorem dX9_init_120 : decode cX9_init 120 = .ok (.putfield 53, 3) := by decide +kernel
theorem dX9_init_123 : decode cX9_init 123 = .ok (.aload_n 0, 1) := by decide +kernel
theorem dX9_init_124 : decode cX9_init 124 = .ok (.sipush 2000, 3) := by decide +kernel
theorem dX9_init_127 : decode cX9_init 127 = .ok (.newarray .int, 2) := by decide +kernel
theorem dX9_init_129 : decode cX9_init 129 = .ok (.putfield 56, 3) := by decide +kernel
theorem dX9_init_132 : decode cX9_init 132 = .ok (.aload_n 0, 1) := by decide +kernel
theorem dX9_init_133 : decode cX9_init 133 = .ok (.bipush 7, 2) := by decide +kernel
theorem dX9_init_135 : decode cX9_init 135 = .ok (.newarray .int, 2) := by decide +kernel
theorem dX9_init_137 : decode cX9_init 137 = .ok (.putfield 59, 3) := by decide +kernel
theorem dX9_init_140 : decode cX9_init 140 = .ok (.aload_n 0, 1) := by decide +kernel
theorem dX9_init_141 : decode cX9_init 141 = .ok (.bipush 7, 2) := by decide +kernel
theorem dX9_init_143 : decode cX9_init 143 = .ok (.newarray .boolean, 2) := by decide +kernel
theorem dX9_init_145 : decode cX9_init 145 = .ok (.putfield 62, 3) := by decide +kernel
theorem dX9_init_148 : decode cX9_init 148 = .ok (.aload_n 0, 1) := by decide +kernel
theorem dX9_init_149 : decode cX9_init 149 = .ok (.bipush 7, 2) := by decide +kernel
theorem dX9_init_151 : decode cX9_init 151 = .ok (.newarray .int, 2) := by decide +kernel
theorem dX9_init_153 : decode cX9_init 153 = .ok (.putfield 66, 3) := by decide +kernel
theorem dX9_init_156 : decode cX9_init 156 = .ok (.aload_n 0, 1) := by decide +kernel
theorem dX9_init_157 : decode cX9_init 157 = .ok (.bipush 7, 2) := by decide +kernel
theorem dX9_init_159 : decode cX9_init 159 = .ok (.newarray .int, 2) := by decide +kernel
theorem dX9_init_161 : decode cX9_init 161 = .ok (.putfield 69, 3) := by decide +kernel
theorem dX9_init_164 : decode cX9_init 164 = .ok (.aload_n 0, 1) := by decide +kernel
theorem dX9_init_165 : decode cX9_init 165 = .ok (.bipush 7, 2) := by decide +kernel
theorem dX9_init_167 : decode cX9_init 167 = .ok (.newarray .int, 2) := by decide +kernel
theorem dX9_init_169 : decode cX9_init 169 = .ok (.putfield 72, 3) := by decide +kernel
theorem dX9_init_172 : decode cX9_init 172 = .ok (.aload_n 0, 1) := by decide +kernel
theorem dX9_init_173 : decode cX9_init 173 = .ok (.bipush 7, 2) := by decide +kernel
theorem dX9_init_175 : decode cX9_init 175 = .ok (.newarray .int, 2) := by decide +kernel
theorem dX9_init_177 : decode cX9_init 177 = .ok (.putfield 75, 3) := by decide +kernel
theorem dX9_init_180 : decode cX9_init 180 = .ok (.aload_n 0, 1) := by decide +kernel
theorem dX9_init_181 : decode cX9_init 181 = .ok (.bipush 7, 2) := by decide +kernel
theorem dX9_init_183 : decode cX9_init 183 = .ok (.newarray .int, 2) := by decide +kernel
theorem dX9_init_185 : decode cX9_init 185 = .ok (.putfield 78, 3) := by decide +kernel
theorem dX9_init_188 : decode cX9_init 188 = .ok (.aload_n 0, 1) := by decide +kernel
theorem dX9_init_189 : decode cX9_init 189 = .ok (.bipush 7, 2) := by decide +kernel
theorem dX9_init_191 : decode cX9_init 191 = .ok (.newarray .int, 2) := by decide +kernel
theorem dX9_init_193 : decode cX9_init 193 = .ok (.putfield 81, 3) := by decide +kernel
theorem dX9_init_196 : decode cX9_init 196 = .ok (.aload_n 0, 1) := by decide +kernel
theorem dX9_init_197 : decode cX9_init 197 = .ok (.bipush 7, 2) := by decide +kernel
theorem dX9_init_199 : decode cX9_init 199 = .ok (.newarray .int, 2) := by decide +kernel
theorem dX9_init_201 : decode cX9_init 201 = .ok (.putfield 84, 3) := by decide +kernel
theorem dX9_init_204 : decode cX9_init 204 = .ok (.aload_n 0, 1) := by decide +kernel
theorem dX9_init_205 : decode cX9_init 205 = .ok (.bipush 7, 2) := by decide +kernel
theorem dX9_init_207 : decode cX9_init 207 = .ok (.newarray .int, 2) := by decide +kernel
theorem dX9_init_209 : decode cX9_init 209 = .ok (.putfield 87, 3) := by decide +kernel
theorem dX9_init_212 : decode cX9_init 212 = .ok (.aload_n 0, 1) := by decide +kernel
theorem dX9_init_213 : decode cX9_init 213 = .ok (.bipush 7, 2) := by decide +kernel
theorem dX9_init_215 : decode cX9_init 215 = .ok (.newarray .int, 2) := by decide +kernel
theorem dX9_init_217 : decode cX9_init 217 = .ok (.putfield 90, 3) := by decide +kernel
theorem dX9_init_220 : decode cX9_init 220 = .ok (.aload_n 0, 1) := by decide +kernel
theorem dX9_init_221 : decode cX9_init 221 = .ok (.bipush 20, 2) := by decide +kernel
theorem dX9_init_223 : decode cX9_init 223 = .ok (.newarray .int, 2) := by decide +kernel
theorem dX9_init_225 : decode cX9_init 225 = .ok (.putfield 93, 3) := by decide +kernel
theorem dX9_init_228 : decode cX9_init 228 = .ok (.aload_n 0, 1) := by decide +kernel
theorem dX9_init_229 : decode cX9_init 229 = .ok (.bipush 40, 2) := by decide +kernel
theorem dX9_init_231 : decode cX9_init 231 = .ok (.newarray .int, 2) := by decide +kernel
theorem dX9_init_233 : decode cX9_init 233 = .ok (.putfield 96, 3) := by decide +kernel
theorem dX9_init_236 : decode cX9_init 236 = .ok (.aload_n 0, 1) := by decide +kernel
theorem dX9_init_237 : decode cX9_init 237 = .ok (.bipush 40, 2) := by decide +kernel
theorem dX9_init_239 : decode cX9_init 239 = .ok (.newarray .int, 2) := by decide +kernel
theorem dX9_init_241 : decode cX9_init 241 = .ok (.putfield 99, 3) := by decide +kernel
theorem dX9_init_244 : decode cX9_init 244 = .ok (.aload_n 0, 1) := by decide +kernel
theorem dX9_init_245 : decode cX9_init 245 = .ok (.bipush 40, 2) := by decide +kernel
theorem dX9_init_247 : decode cX9_init 247 = .ok (.newarray .int, 2) := by decide +kernel
theorem dX9_init_249 : decode cX9_init 249 = .ok (.putfield 102, 3) := by decide +kernel
theorem dX9_init_252 : decode cX9_init 252 = .ok (.aload_n 0, 1) := by decide +kernel
theorem dX9_init_253 : decode cX9_init 253 = .ok (.bipush 40, 2) := by decide +kernel
theorem dX9_init_255 : decode cX9_init 255 = .ok (.newarray .int, 2) := by decide +kernel
theorem dX9_init_257 : decode cX9_init 257 = .ok (.putfield 105, 3) := by decide +kernel
theorem dX9_init_260 : decode cX9_init 260 = .ok (.aload_n 0, 1) := by decide +kernel
theorem dX9_init_261 : decode cX9_init 261 = .ok (.bipush 40, 2) := by decide +kernel
theorem dX9_init_263 : decode cX9_init 263 = .ok (.newarray .int, 2) := by decide +kernel
theorem dX9_init_265 : decode cX9_init 265 = .ok (.putfield 108, 3) := by decide +kernel
theorem dX9_init_268 : decode cX9_init 268 = .ok (.aload_n 0, 1) := by decide +kernel
theorem dX9_init_269 : decode cX9_init 269 = .ok (.bipush 8, 2) := by decide +kernel
theorem dX9_init_271 : decode cX9_init 271 = .ok (.newarray .int, 2) := by decide +kernel
theorem dX9_init_273 : decode cX9_init 273 = .ok (.putfield 111, 3) := by decide +kernel
theorem dX9_init_276 : decode cX9_init 276 = .ok (.aload_n 0, 1) := by decide +kernel
theorem dX9_init_277 : decode cX9_init 277 = .ok (.bipush 8, 2) := by decide +kernel
theorem dX9_init_279 : decode cX9_init 279 = .ok (.newarray .int, 2) := by decide +kernel
theorem dX9_init_281 : decode cX9_init 281 = .ok (.putfield 114, 3) := by decide +kernel
theorem dX9_init_284 : decode cX9_init 284 = .ok (.aload_n 0, 1) := by decide +kernel
theorem dX9_init_285 : decode cX9_init 285 = .ok (.bipush 6, 2) := by decide +kernel
theorem dX9_init_287 : decode cX9_init 287 = .ok (.newarray .boolean, 2) := by decide +kernel
theorem dX9_init_289 : decode cX9_init 289 = .ok (.putfield 117, 3) := by decide +kernel
theorem dX9_init_292 : decode cX9_init 292 = .ok (.aload_n 0, 1) := by decide +kernel
theorem dX9_init_293 : decode cX9_init 293 = .ok (.bipush 48, 2) := by decide +kernel
theorem dX9_init_295 : decode cX9_init 295 = .ok (.newarray .int, 2) := by decide +kernel
theorem dX9_init_297 : decode cX9_init 297 = .ok (.putfield 120, 3) := by decide +kernel
theorem dX9_init_300 : decode cX9_init 300 = .ok (.aload_n 0, 1) := by decide +kernel
theorem dX9_init_301 : decode cX9_init 301 = .ok (.sipush 384, 3) := by decide +kernel
theorem dX9_init_304 : decode cX9_init 304 = .ok (.newarray .boolean, 2) := by decide +kernel
theorem dX9_init_306 : decode cX9_init 306 = .ok (.putfield 123, 3) := by decide +kernel
theorem dX9_init_309 : decode cX9_init 309 = .ok (.aload_n 0, 1) := by decide +kernel
theorem dX9_init_310 : decode cX9_init 310 = .ok (.sipush 256, 3) := by decide +kernel
theorem dX9_init_313 : decode cX9_init 313 = .ok (.newarray .int, 2) := by decide +kernel
theorem dX9_init_315 : decode cX9_init 315 = .ok (.putfield 126, 3) := by decide +kernel
theorem dX9_init_318 : decode cX9_init 318 = .ok (.aload_n 0, 1) := by decide +kernel
theorem dX9_init_319 : decode cX9_init 319 = .ok (.iconst 5, 1) := by decide +kernel
theorem dX9_init_320 : decode cX9_init 320 = .ok (.newarray .int, 2) := by decide +kernel
theorem dX9_init_322 : decode cX9_init 322 = .ok (.putfield 129, 3) := by decide +kernel
theorem dX9_init_325 : decode cX9_init 325 = .ok (.aload_n 0, 1) := by decide +kernel
theorem dX9_init_326 : decode cX9_init 326 = .ok (.sipush 216, 3) := by decide +kernel
theorem dX9_init_329 : decode cX9_init 329 = .ok (.newarray .int, 2) := by decide +kernel
theorem dX9_init_331 : decode cX9_init 331 = .ok (.putfield 132, 3) := by decide +kernel
theorem dX9_init_334 : decode cX9_init 334 = .ok (.aload_n 0, 1) := by decide +kernel
theorem dX9_init_335 : decode cX9_init 335 = .ok (.sipush 256, 3) := by decide +kernel
theorem dX9_init_338 : decode cX9_init 338 = .ok (.newarray .int, 2) := by decide +kernel
theorem dX9_init_340 : decode cX9_init 340 = .ok (.putfield 135, 3) := by decide +kernel
theorem dX9_init_343 : decode cX9_init 343 = .ok (.aload_n 0, 1) := by decide +kernel
theorem dX9_init_344 : decode cX9_init 344 = .ok (.sipush 256, 3) := by decide +kernel
theorem dX9_init_347 : decode cX9_init 347 = .ok (.newarray .int, 2) := by decide +kernel
theorem dX9_init_349 : decode cX9_init 349 = .ok (.putfield 138, 3) := by decide +kernel
theorem dX9_init_352 : decode cX9_init 352 = .ok (.aload_n 0, 1) := by decide +kernel
theorem dX9_init_353 : decode cX9_init 353 = .ok (.sipush 256, 3) := by decide +kernel
theorem dX9_init_356 : decode cX9_init 356 = .ok (.newarray .int, 2) := by decide +kernel
theorem dX9_init_358 : decode cX9_init 358 = .ok (.putfield 141, 3) := by decide +kernel
theorem dX9_init_361 : decode cX9_init 361 = .ok (.aload_n 0, 1) := by decide +kernel
theorem dX9_init_362 : decode cX9_init 362 = .ok (.sipush 1536, 3) := by decide +kernel
theorem dX9_init_365 : decode cX9_init 365 = .ok (.newarray .int, 2) := by decide +kernel
theorem dX9_init_367 : decode cX9_init 367 = .ok (.putfield 144, 3) := by decide +kernel
theorem dX9_init_370 : decode cX9_init 370 = .ok (.aload_n 0, 1) := by decide +kernel
theorem dX9_init_371 : decode cX9_init 371 = .ok (.bipush 8, 2) := by decide +kernel
theorem dX9_init_373 : decode cX9_init 373 = .ok (.newarray .int, 2) := by decide +kernel
theorem dX9_init_375 : decode cX9_init 375 = .ok (.putfield 147, 3) := by decide +kernel
theorem dX9_init_378 : decode cX9_init 378 = .ok (.aload_n 0, 1) := by decide +kernel
theorem dX9_init_379 : decode cX9_init 379 = .ok (.iconst 4, 1) := by decide +kernel
theorem dX9_init_380 : decode cX9_init 380 = .ok (.newarray .boolean, 2) := by decide +kernel
theorem dX9_init_382 : decode cX9_init 382 = .ok (.putfield 150, 3) := by decide +kernel
theorem dX9_init_385 : decode cX9_init 385 = .ok (.aload_n 0, 1) := by decide +kernel
theorem dX9_init_386 : decode cX9_init 386 = .ok (.sipush 1000, 3) := by decide +kernel
theorem dX9_init_389 : decode cX9_init 389 = .ok (.newarray .int, 2) := by decide +kernel
theorem dX9_init_391 : decode cX9_init 391 = .ok (.putfield 153, 3) := by decide +kernel
theorem dX9_init_394 : decode cX9_init 394 = .ok (.return_, 1) := by decide +kernel
theorem cF_Model : g_fModel.all (fun p => decide (p.1 ≤ 2)) = true := by decide +kernel
theorem cB_Model : g_fModel.all (fun p => decide (p.1 = 2 → p.2 ≤ 48)) = true := by decide +kernel
theorem cO_Model : ci_one g_fModel := (by decide +kernel : g_fModel.Pairwise (fun p q => p.1 = 2 → q.1 = 2 → p.2 ≠ q.2))
theorem cN_Model : ci_num gR := ci_num_of (by decide +kernel)
set_option maxRecDepth 100000 in
theorem cz_Model (h0 : Nat) (ca : Nat → Nat) : ci_w gR g_mu0 7 g_fModel (fun _ => h0) ca 0 = [(h0, (.inr (7, [.int 0, .int 0, .null, .int 0, .int 0, .int 0, .int 0, .long 0, .int 0, .int 0, .null, .null, .null, .null, .null, .null, .null, .null, .null, .null, .null, .null, .int 0, .null, .null, .null, .int 0, .null, .null, .null, .null, .null, .null, .null, .null, .null, .null, .null, .null, .int 0, .null, .null, .null, .null, .null, .null, .null, .null, .null, .null, .null, .null, .null, .null, .null, .null, .null, .int 0, .null, .long 0, .null, .null])))] := by
  unfold ci_w ci_f g_fModel
  simp only [List.mapIdx_cons, List.mapIdx_nil]
  rfl
set_option maxHeartbeats 4000000 in
set_option maxRecDepth 20000 in
theorem ci_Model : g_Init gR g_mu0 (.inr (7, [.int 0, .int 0, .null, .int 0, .int 0, .int 0, .int 0, .long 0, .int 0, .int 0, .null, .null, .null, .null, .null, .null, .null, .null, .null, .null, .null, .null, .int 0, .null, .null, .null, .int 0, .null, .null, .null, .null, .null, .null, .null, .null, .null, .null, .null, .null, .int 0, .null, .null, .null, .null, .null, .null, .null, .null, .null, .null, .null, .null, .null, .null, .null, .null, .null, .int 0, .null, .long 0, .null, .null])) yX9_init cX9_init 1 48 8006 := by
  intro l D sz h0
  refine Met.ofW (cc := cX9_init) (maxL := 1) (ret := none) (by decide +kernel) rfl ?_
  intro p e s m args below meth c s₁ B hml hv
  obtain ⟨rfl, hsz, hP, hK, hD0, hN⟩ := hv
  have hts := atoms_spec (ws := g_ws yX9_init cX9_init 1 none) B.pre
  have hts2 : ∀ w ∈ g_gw, w.before #[Value.ref h0] s = true := fun w hw => hts w (List.mem_cons_of_mem _ hw)
  have hown : s.vm.findClass RX9 = some m.cls := findClass_of_methodNamed B.named
  have hx := B.exec
  have hb := B.bytes
  have hr := B.returns
  have hlocks := B.notSynchronized
  have hin : meth.name = "<init>" := (name_of_methodNamed B.named B.method).1
  subst hsz
  have hD := hD0.self (sz := s.heap.size)
  generalize hAe : va_A [(h0, (.inr (7, [.int 0, .int 0, .null, .int 0, .int 0, .int 0, .int 0, .long 0, .int 0, .int 0, .null, .null, .null, .null, .null, .null, .null, .null, .null, .null, .null, .null, .int 0, .null, .null, .null, .int 0, .null, .null, .null, .null, .null, .null, .null, .null, .null, .null, .null, .null, .int 0, .null, .null, .null, .null, .null, .null, .null, .null, .null, .null, .null, .null, .null, .null, .null, .null, .null, .int 0, .null, .long 0, .null, .null])))] s.heap.size = A at hD ⊢
  have hA : ∀ q : Nat, s.heap.size ≤ q → A q := fun q h => by rw [← hAe]; exact Or.inr h
  have hS : va_S A s.heap s.heap [] := va_S.rf
  rw [← cz_Model h0 (fun _ => 0)] at hP hD
  have h9 : (fun _ : Nat => h0) 0 = h0 := rfl
  generalize (fun _ : Nat => h0) = ad at h9 hP hD
  have hT : ci_ty gR (fun _ => 0) [] 0 := fun i h1 h2 => absurd h1 (by omega)
  generalize (fun _ : Nat => (0 : Nat)) = ca at hT hP hD
  have hl := lv_entry ([Value.ref h0]) (n := 1) (Nat.le_of_ble_eq_true rfl)
  rw [show (#[Value.ref h0] : Array Value) = ([Value.ref h0] : List Value).toArray from rfl, lg_entry_eq]
  generalize (lg_sl ([Value.ref h0]) ++ List.replicate (1 - (lg_sl ([Value.ref h0])).length) Slot.unset).toArray = ls at hl ⊢
  have hl : lv_has ls 1 [(0, .ref h0)] := hl
  refine lv_aload_n hx hb dX9_init_0 rfl (lv_at hl 0 rfl) ?_
  refine W.objInit (cc := cX9_init) (own := RX9) (idx := 1) hx hb hown (hts2 _ (g_in5 (List.mem_of_getElem? (i := 130) rfl) rfl)) (hts2 _ g_oin) (hts2 _ g_oco) rfl (by rw [hml]; exact hl.1) rfl dX9_init_1 (by show 1 ≤ 20; omega) (Nat.le_of_ble_eq_true rfl) ?_
  refine W.eq (g2 := F0 m 4 ls []) rfl ?_
  refine lv_aload_n hx hb dX9_init_4 rfl (lv_at hl 0 rfl) ?_
  refine lv_sipush (v := 1000) hx hb dX9_init_5 (by decide) ?_
  refine ci_step1 (Λ := gR) (n := 0) (cc := cX9_init) (ref := RX9) (atype := .int) (ty := .int) (N' := 1000) hx hb hts2 cf_X9 hown hin hA rfl cF_Model cO_Model cN_Model (Nat.le_of_ble_eq_true rfl) rfl (Nat.le_of_ble_eq_true rfl) h9 hT hK hP hD hS g_awI rfl rfl (fun _ _ => rfl) (by decide) (by decide) (Nat.le_of_ble_eq_true rfl) (Nat.le_of_ble_eq_true rfl) (Nat.le_of_ble_eq_true rfl) dX9_init_8 2 (Nat.le_of_ble_eq_true rfl) rfl (g_in5 (List.mem_of_getElem? (i := 133) rfl) rfl) (fun _ h => h) rfl rfl (fun _ => rfl) (fun _ => rfl) dX9_init_10 ?_
  clear h9 hT hK hP hD hS
  intro ad ca tys H locs h9 hT hK hP hD hS
  refine lv_aload_n hx hb dX9_init_13 rfl (lv_at hl 0 rfl) ?_
  refine lv_iconst (v := 2) hx hb dX9_init_14 (by decide) ?_
  refine ci_step1 (Λ := gR) (n := 1) (cc := cX9_init) (ref := RX9) (atype := .int) (ty := .int) (N' := 2) hx hb hts2 cf_X9 hown hin hA rfl cF_Model cO_Model cN_Model (Nat.le_of_ble_eq_true rfl) rfl (Nat.le_of_ble_eq_true rfl) h9 hT hK hP hD hS g_awI rfl rfl (fun _ _ => rfl) (by decide) (by decide) (Nat.le_of_ble_eq_true rfl) (Nat.le_of_ble_eq_true rfl) (Nat.le_of_ble_eq_true rfl) dX9_init_15 10 (Nat.le_of_ble_eq_true rfl) rfl (g_in5 (List.mem_of_getElem? (i := 141) rfl) rfl) (fun _ h => h) rfl rfl (fun _ => rfl) (fun _ => rfl) dX9_init_17 ?_
  clear h9 hT hK hP hD hS
  intro ad ca tys H locs h9 hT hK hP hD hS
  refine lv_aload_n hx hb dX9_init_20 rfl (lv_at hl 0 rfl) ?_
  refine lv_iconst (v := 2) hx hb dX9_init_21 (by decide) ?_
  refine ci_step1 (Λ := gR) (n := 2) (cc := cX9_init) (ref := RX9) (atype := .int) (ty := .int) (N' := 2) hx hb hts2 cf_X9 hown hin hA rfl cF_Model cO_Model cN_Model (Nat.le_of_ble_eq_true rfl) rfl (Nat.le_of_ble_eq_true rfl) h9 hT hK hP hD hS g_awI rfl rfl (fun _ _ => rfl) (by decide) (by decide) (Nat.le_of_ble_eq_true rfl) (Nat.le_of_ble_eq_true rfl) (Nat.le_of_ble_eq_true rfl) dX9_init_22 11 (Nat.le_of_ble_eq_true rfl) rfl (g_in5 (List.mem_of_getElem? (i := 142) rfl) rfl) (fun _ h => h) rfl rfl (fun _ => rfl) (fun _ => rfl) dX9_init_24 ?_
  clear h9 hT hK hP hD hS
  intro ad ca tys H locs h9 hT hK hP hD hS
  refine lv_aload_n hx hb dX9_init_27 rfl (lv_at hl 0 rfl) ?_
  refine lv_iconst (v := 2) hx hb dX9_init_28 (by decide) ?_
  refine ci_step1 (Λ := gR) (n := 3) (cc := cX9_init) (ref := RX9) (atype := .int) (ty := .int) (N' := 2) hx hb hts2 cf_X9 hown hin hA rfl cF_Model cO_Model cN_Model (Nat.le_of_ble_eq_true rfl) rfl (Nat.le_of_ble_eq_true rfl) h9 hT hK hP hD hS g_awI rfl rfl (fun _ _ => rfl) (by decide) (by decide) (Nat.le_of_ble_eq_true rfl) (Nat.le_of_ble_eq_true rfl) (Nat.le_of_ble_eq_true rfl) dX9_init_29 12 (Nat.le_of_ble_eq_true rfl) rfl (g_in5 (List.mem_of_getElem? (i := 143) rfl) rfl) (fun _ h => h) rfl rfl (fun _ => rfl) (fun _ => rfl) dX9_init_31 ?_
  clear h9 hT hK hP hD hS
  intro ad ca tys H locs h9 hT hK hP hD hS
  refine lv_aload_n hx hb dX9_init_34 rfl (lv_at hl 0 rfl) ?_
  refine lv_bipush (v := 10) hx hb dX9_init_35 (by decide) ?_
  refine ci_step1 (Λ := gR) (n := 4) (cc := cX9_init) (ref := RX9) (atype := .long) (ty := .long) (N' := 10) hx hb hts2 cf_X9 hown hin hA rfl cF_Model cO_Model cN_Model (Nat.le_of_ble_eq_true rfl) rfl (Nat.le_of_ble_eq_true rfl) h9 hT hK hP hD hS g_awJ rfl rfl (fun _ _ => rfl) (by decide) (by decide) (Nat.le_of_ble_eq_true rfl) (Nat.le_of_ble_eq_true rfl) (Nat.le_of_ble_eq_true rfl) dX9_init_37 13 (Nat.le_of_ble_eq_true rfl) rfl (g_in5 (List.mem_of_getElem? (i := 144) rfl) rfl) (fun _ h => h) rfl rfl (fun _ => rfl) (fun _ => rfl) dX9_init_39 ?_
  clear h9 hT hK hP hD hS
  intro ad ca tys H locs h9 hT hK hP hD hS
  refine lv_aload_n hx hb dX9_init_42 rfl (lv_at hl 0 rfl) ?_
  refine lv_bipush (v := 12) hx hb dX9_init_43 (by decide) ?_
  refine ci_step1 (Λ := gR) (n := 5) (cc := cX9_init) (ref := RX9) (atype := .long) (ty := .long) (N' := 12) hx hb hts2 cf_X9 hown hin hA rfl cF_Model cO_Model cN_Model (Nat.le_of_ble_eq_true rfl) rfl (Nat.le_of_ble_eq_true rfl) h9 hT hK hP hD hS g_awJ rfl rfl (fun _ _ => rfl) (by decide) (by decide) (Nat.le_of_ble_eq_true rfl) (Nat.le_of_ble_eq_true rfl) (Nat.le_of_ble_eq_true rfl) dX9_init_45 14 (Nat.le_of_ble_eq_true rfl) rfl (g_in5 (List.mem_of_getElem? (i := 145) rfl) rfl) (fun _ h => h) rfl rfl (fun _ => rfl) (fun _ => rfl) dX9_init_47 ?_
  clear h9 hT hK hP hD hS
  intro ad ca tys H locs h9 hT hK hP hD hS
  refine lv_aload_n hx hb dX9_init_50 rfl (lv_at hl 0 rfl) ?_
  refine lv_bipush (v := 16) hx hb dX9_init_51 (by decide) ?_
  refine ci_step1 (Λ := gR) (n := 6) (cc := cX9_init) (ref := RX9) (atype := .long) (ty := .long) (N' := 16) hx hb hts2 cf_X9 hown hin hA rfl cF_Model cO_Model cN_Model (Nat.le_of_ble_eq_true rfl) rfl (Nat.le_of_ble_eq_true rfl) h9 hT hK hP hD hS g_awJ rfl rfl (fun _ _ => rfl) (by decide) (by decide) (Nat.le_of_ble_eq_true rfl) (Nat.le_of_ble_eq_true rfl) (Nat.le_of_ble_eq_true rfl) dX9_init_53 15 (Nat.le_of_ble_eq_true rfl) rfl (g_in5 (List.mem_of_getElem? (i := 146) rfl) rfl) (fun _ h => h) rfl rfl (fun _ => rfl) (fun _ => rfl) dX9_init_55 ?_
  clear h9 hT hK hP hD hS
  intro ad ca tys H locs h9 hT hK hP hD hS
  refine lv_aload_n hx hb dX9_init_58 rfl (lv_at hl 0 rfl) ?_
  refine lv_bipush (v := 50) hx hb dX9_init_59 (by decide) ?_
  refine ci_step1 (Λ := gR) (n := 7) (cc := cX9_init) (ref := RX9) (atype := .int) (ty := .int) (N' := 50) hx hb hts2 cf_X9 hown hin hA rfl cF_Model cO_Model cN_Model (Nat.le_of_ble_eq_true rfl) rfl (Nat.le_of_ble_eq_true rfl) h9 hT hK hP hD hS g_awI rfl rfl (fun _ _ => rfl) (by decide) (by decide) (Nat.le_of_ble_eq_true rfl) (Nat.le_of_ble_eq_true rfl) (Nat.le_of_ble_eq_true rfl) dX9_init_61 16 (Nat.le_of_ble_eq_true rfl) rfl (g_in5 (List.mem_of_getElem? (i := 147) rfl) rfl) (fun _ h => h) rfl rfl (fun _ => rfl) (fun _ => rfl) dX9_init_63 ?_
  clear h9 hT hK hP hD hS
  intro ad ca tys H locs h9 hT hK hP hD hS
  refine lv_aload_n hx hb dX9_init_66 rfl (lv_at hl 0 rfl) ?_
  refine lv_bipush (v := 12) hx hb dX9_init_67 (by decide) ?_
  refine ci_step1 (Λ := gR) (n := 8) (cc := cX9_init) (ref := RX9) (atype := .int) (ty := .int) (N' := 12) hx hb hts2 cf_X9 hown hin hA rfl cF_Model cO_Model cN_Model (Nat.le_of_ble_eq_true rfl) rfl (Nat.le_of_ble_eq_true rfl) h9 hT hK hP hD hS g_awI rfl rfl (fun _ _ => rfl) (by decide) (by decide) (Nat.le_of_ble_eq_true rfl) (Nat.le_of_ble_eq_true rfl) (Nat.le_of_ble_eq_true rfl) dX9_init_69 17 (Nat.le_of_ble_eq_true rfl) rfl (g_in5 (List.mem_of_getElem? (i := 148) rfl) rfl) (fun _ h => h) rfl rfl (fun _ => rfl) (fun _ => rfl) dX9_init_71 ?_
  clear h9 hT hK hP hD hS
  intro ad ca tys H locs h9 hT hK hP hD hS
  refine lv_aload_n hx hb dX9_init_74 rfl (lv_at hl 0 rfl) ?_
  refine lv_bipush (v := 12) hx hb dX9_init_75 (by decide) ?_
  refine ci_step1 (Λ := gR) (n := 9) (cc := cX9_init) (ref := RX9) (atype := .int) (ty := .int) (N' := 12) hx hb hts2 cf_X9 hown hin hA rfl cF_Model cO_Model cN_Model (Nat.le_of_ble_eq_true rfl) rfl (Nat.le_of_ble_eq_true rfl) h9 hT hK hP hD hS g_awI rfl rfl (fun _ _ => rfl) (by decide) (by decide) (Nat.le_of_ble_eq_true rfl) (Nat.le_of_ble_eq_true rfl) (Nat.le_of_ble_eq_true rfl) dX9_init_77 18 (Nat.le_of_ble_eq_true rfl) rfl (g_in5 (List.mem_of_getElem? (i := 149) rfl) rfl) (fun _ h => h) rfl rfl (fun _ => rfl) (fun _ => rfl) dX9_init_79 ?_
  clear h9 hT hK hP hD hS
  intro ad ca tys H locs h9 hT hK hP hD hS
  refine lv_aload_n hx hb dX9_init_82 rfl (lv_at hl 0 rfl) ?_
  refine lv_bipush (v := 16) hx hb dX9_init_83 (by decide) ?_
  refine ci_step1 (Λ := gR) (n := 10) (cc := cX9_init) (ref := RX9) (atype := .int) (ty := .int) (N' := 16) hx hb hts2 cf_X9 hown hin hA rfl cF_Model cO_Model cN_Model (Nat.le_of_ble_eq_true rfl) rfl (Nat.le_of_ble_eq_true rfl) h9 hT hK hP hD hS g_awI rfl rfl (fun _ _ => rfl) (by decide) (by decide) (Nat.le_of_ble_eq_true rfl) (Nat.le_of_ble_eq_true rfl) (Nat.le_of_ble_eq_true rfl) dX9_init_85 19 (Nat.le_of_ble_eq_true rfl) rfl (g_in5 (List.mem_of_getElem? (i := 150) rfl) rfl) (fun _ h => h) rfl rfl (fun _ => rfl) (fun _ => rfl) dX9_init_87 ?_
  clear h9 hT hK hP hD hS
  intro ad ca tys H locs h9 hT hK hP hD hS
  refine lv_aload_n hx hb dX9_init_90 rfl (lv_at hl 0 rfl) ?_
  refine lv_bipush (v := 16) hx hb dX9_init_91 (by decide) ?_
  refine ci_step1 (Λ := gR) (n := 11) (cc := cX9_init) (ref := RX9) (atype := .int) (ty := .int) (N' := 16) hx hb hts2 cf_X9 hown hin hA rfl cF_Model cO_Model cN_Model (Nat.le_of_ble_eq_true rfl) rfl (Nat.le_of_ble_eq_true rfl) h9 hT hK hP hD hS g_awI rfl rfl (fun _ _ => rfl) (by decide) (by decide) (Nat.le_of_ble_eq_true rfl) (Nat.le_of_ble_eq_true rfl) (Nat.le_of_ble_eq_true rfl) dX9_init_93 20 (Nat.le_of_ble_eq_true rfl) rfl (g_in5 (List.mem_of_getElem? (i := 151) rfl) rfl) (fun _ h => h) rfl rfl (fun _ => rfl) (fun _ => rfl) dX9_init_95 ?_
  clear h9 hT hK hP hD hS
  intro ad ca tys H locs h9 hT hK hP hD hS
  refine lv_aload_n hx hb dX9_init_98 rfl (lv_at hl 0 rfl) ?_
  refine lv_sipush (v := 288) hx hb dX9_init_99 (by decide) ?_
  refine ci_step1 (Λ := gR) (n := 12) (cc := cX9_init) (ref := RX9) (atype := .int) (ty := .int) (N' := 288) hx hb hts2 cf_X9 hown hin hA rfl cF_Model cO_Model cN_Model (Nat.le_of_ble_eq_true rfl) rfl (Nat.le_of_ble_eq_true rfl) h9 hT hK hP hD hS g_awI rfl rfl (fun _ _ => rfl) (by decide) (by decide) (Nat.le_of_ble_eq_true rfl) (Nat.le_of_ble_eq_true rfl) (Nat.le_of_ble_eq_true rfl) dX9_init_102 21 (Nat.le_of_ble_eq_true rfl) rfl (g_in5 (List.mem_of_getElem? (i := 152) rfl) rfl) (fun _ h => h) rfl rfl (fun _ => rfl) (fun _ => rfl) dX9_init_104 ?_
  clear h9 hT hK hP hD hS
  intro ad ca tys H locs h9 hT hK hP hD hS
  refine lv_aload_n hx hb dX9_init_107 rfl (lv_at hl 0 rfl) ?_
  refine lv_bipush (v := 12) hx hb dX9_init_108 (by decide) ?_
  refine ci_step1 (Λ := gR) (n := 13) (cc := cX9_init) (ref := RX9) (atype := .int) (ty := .int) (N' := 12) hx hb hts2 cf_X9 hown hin hA rfl cF_Model cO_Model cN_Model (Nat.le_of_ble_eq_true rfl) rfl (Nat.le_of_ble_eq_true rfl) h9 hT hK hP hD hS g_awI rfl rfl (fun _ _ => rfl) (by decide) (by decide) (Nat.le_of_ble_eq_true rfl) (Nat.le_of_ble_eq_true rfl) (Nat.le_of_ble_eq_true rfl) dX9_init_110 23 (Nat.le_of_ble_eq_true rfl) rfl (g_in5 (List.mem_of_getElem? (i := 154) rfl) rfl) (fun _ h => h) rfl rfl (fun _ => rfl) (fun _ => rfl) dX9_init_112 ?_
  clear h9 hT hK hP hD hS
  intro ad ca tys H locs h9 hT hK hP hD hS
  refine lv_aload_n hx hb dX9_init_115 rfl (lv_at hl 0 rfl) ?_
  refine lv_bipush (v := 12) hx hb dX9_init_116 (by decide) ?_
  refine ci_step1 (Λ := gR) (n := 14) (cc := cX9_init) (ref := RX9) (atype := .int) (ty := .int) (N' := 12) hx hb hts2 cf_X9 hown hin hA rfl cF_Model cO_Model cN_Model (Nat.le_of_ble_eq_true rfl) rfl (Nat.le_of_ble_eq_true rfl) h9 hT hK hP hD hS g_awI rfl rfl (fun _ _ => rfl) (by decide) (by decide) (Nat.le_of_ble_eq_true rfl) (Nat.le_of_ble_eq_true rfl) (Nat.le_of_ble_eq_true rfl) dX9_init_118 24 (Nat.le_of_ble_eq_true rfl) rfl (g_in5 (List.mem_of_getElem? (i := 155) rfl) rfl) (fun _ h => h) rfl rfl (fun _ => rfl) (fun _ => rfl) dX9_init_120 ?_
  clear h9 hT hK hP hD hS
  intro ad ca tys H locs h9 hT hK hP hD hS
  refine lv_aload_n hx hb dX9_init_123 rfl (lv_at hl 0 rfl) ?_
  refine lv_sipush (v := 2000) hx hb dX9_init_124 (by decide) ?_
  refine ci_step1 (Λ := gR) (n := 15) (cc := cX9_init) (ref := RX9) (atype := .int) (ty := .int) (N' := 2000) hx hb hts2 cf_X9 hown hin hA rfl cF_Model cO_Model cN_Model (Nat.le_of_ble_eq_true rfl) rfl (Nat.le_of_ble_eq_true rfl) h9 hT hK hP hD hS g_awI rfl rfl (fun _ _ => rfl) (by decide) (by decide) (Nat.le_of_ble_eq_true rfl) (Nat.le_of_ble_eq_true rfl) (Nat.le_of_ble_eq_true rfl) dX9_init_127 25 (Nat.le_of_ble_eq_true rfl) rfl (g_in5 (List.mem_of_getElem? (i := 156) rfl) rfl) (fun _ h => h) rfl rfl (fun _ => rfl) (fun _ => rfl) dX9_init_129 ?_
  clear h9 hT hK hP hD hS
  intro ad ca tys H locs h9 hT hK hP hD hS
  refine lv_aload_n hx hb dX9_init_132 rfl (lv_at hl 0 rfl) ?_
  refine lv_bipush (v := 7) hx hb dX9_init_133 (by decide) ?_
  refine ci_step1 (Λ := gR) (n := 16) (cc := cX9_init) (ref := RX9) (atype := .int) (ty := .int) (N' := 7) hx hb hts2 cf_X9 hown hin hA rfl cF_Model cO_Model cN_Model (Nat.le_of_ble_eq_true rfl) rfl (Nat.le_of_ble_eq_true rfl) h9 hT hK hP hD hS g_awI rfl rfl (fun _ _ => rfl) (by decide) (by decide) (Nat.le_of_ble_eq_true rfl) (Nat.le_of_ble_eq_true rfl) (Nat.le_of_ble_eq_true rfl) dX9_init_135 27 (Nat.le_of_ble_eq_true rfl) rfl (g_in5 (List.mem_of_getElem? (i := 158) rfl) rfl) (fun _ h => h) rfl rfl (fun _ => rfl) (fun _ => rfl) dX9_init_137 ?_
  clear h9 hT hK hP hD hS
  intro ad ca tys H locs h9 hT hK hP hD hS
  refine lv_aload_n hx hb dX9_init_140 rfl (lv_at hl 0 rfl) ?_
  refine lv_bipush (v := 7) hx hb dX9_init_141 (by decide) ?_
  refine ci_step1 (Λ := gR) (n := 17) (cc := cX9_init) (ref := RX9) (atype := .boolean) (ty := .boolean) (N' := 7) hx hb hts2 cf_X9 hown hin hA rfl cF_Model cO_Model cN_Model (Nat.le_of_ble_eq_true rfl) rfl (Nat.le_of_ble_eq_true rfl) h9 hT hK hP hD hS g_awZ rfl rfl (fun _ _ => rfl) (by decide) (by decide) (Nat.le_of_ble_eq_true rfl) (Nat.le_of_ble_eq_true rfl) (Nat.le_of_ble_eq_true rfl) dX9_init_143 28 (Nat.le_of_ble_eq_true rfl) rfl (g_in5 (List.mem_of_getElem? (i := 159) rfl) rfl) (fun _ h => h) rfl rfl (fun _ => rfl) (fun _ => rfl) dX9_init_145 ?_
  clear h9 hT hK hP hD hS
  intro ad ca tys H locs h9 hT hK hP hD hS
  refine lv_aload_n hx hb dX9_init_148 rfl (lv_at hl 0 rfl) ?_
  refine lv_bipush (v := 7) hx hb dX9_init_149 (by decide) ?_
  refine ci_step1 (Λ := gR) (n := 18) (cc := cX9_init) (ref := RX9) (atype := .int) (ty := .int) (N' := 7) hx hb hts2 cf_X9 hown hin hA rfl cF_Model cO_Model cN_Model (Nat.le_of_ble_eq_true rfl) rfl (Nat.le_of_ble_eq_true rfl) h9 hT hK hP hD hS g_awI rfl rfl (fun _ _ => rfl) (by decide) (by decide) (Nat.le_of_ble_eq_true rfl) (Nat.le_of_ble_eq_true rfl) (Nat.le_of_ble_eq_true rfl) dX9_init_151 29 (Nat.le_of_ble_eq_true rfl) rfl (g_in5 (List.mem_of_getElem? (i := 160) rfl) rfl) (fun _ h => h) rfl rfl (fun _ => rfl) (fun _ => rfl) dX9_init_153 ?_
  clear h9 hT hK hP hD hS
  intro ad ca tys H locs h9 hT hK hP hD hS
  refine lv_aload_n hx hb dX9_init_156 rfl (lv_at hl 0 rfl) ?_
  refine lv_bipush (v := 7) hx hb dX9_init_157 (by decide) ?_
  refine ci_step1 (Λ := gR) (n := 19) (cc := cX9_init) (ref := RX9) (atype := .int) (ty := .int) (N' := 7) hx hb hts2 cf_X9 hown hin hA rfl cF_Model cO_Model cN_Model (Nat.le_of_ble_eq_true rfl) rfl (Nat.le_of_ble_eq_true rfl) h9 hT hK hP hD hS g_awI rfl rfl (fun _ _ => rfl) (by decide) (by decide) (Nat.le_of_ble_eq_true rfl) (Nat.le_of_ble_eq_true rfl) (Nat.le_of_ble_eq_true rfl) dX9_init_159 30 (Nat.le_of_ble_eq_true rfl) rfl (g_in5 (List.mem_of_getElem? (i := 161) rfl) rfl) (fun _ h => h) rfl rfl (fun _ => rfl) (fun _ => rfl) dX9_init_161 ?_
  clear h9 hT hK hP hD hS
  intro ad ca tys H locs h9 hT hK hP hD hS
  refine lv_aload_n hx hb dX9_init_164 rfl (lv_at hl 0 rfl) ?_
  refine lv_bipush (v := 7) hx hb dX9_init_165 (by decide) ?_
  refine ci_step1 (Λ := gR) (n := 20) (cc := cX9_init) (ref := RX9) (atype := .int) (ty := .int) (N' := 7) hx hb hts2 cf_X9 hown hin hA rfl cF_Model cO_Model cN_Model (Nat.le_of_ble_eq_true rfl) rfl (Nat.le_of_ble_eq_true rfl) h9 hT hK hP hD hS g_awI rfl rfl (fun _ _ => rfl) (by decide) (by decide) (Nat.le_of_ble_eq_true rfl) (Nat.le_of_ble_eq_true rfl) (Nat.le_of_ble_eq_true rfl) dX9_init_167 31 (Nat.le_of_ble_eq_true rfl) rfl (g_in5 (List.mem_of_getElem? (i := 162) rfl) rfl) (fun _ h => h) rfl rfl (fun _ => rfl) (fun _ => rfl) dX9_init_169 ?_
  clear h9 hT hK hP hD hS
  intro ad ca tys H locs h9 hT hK hP hD hS
  refine lv_aload_n hx hb dX9_init_172 rfl (lv_at hl 0 rfl) ?_
  refine lv_bipush (v := 7) hx hb dX9_init_173 (by decide) ?_
  refine ci_step1 (Λ := gR) (n := 21) (cc := cX9_init) (ref := RX9) (atype := .int) (ty := .int) (N' := 7) hx hb hts2 cf_X9 hown hin hA rfl cF_Model cO_Model cN_Model (Nat.le_of_ble_eq_true rfl) rfl (Nat.le_of_ble_eq_true rfl) h9 hT hK hP hD hS g_awI rfl rfl (fun _ _ => rfl) (by decide) (by decide) (Nat.le_of_ble_eq_true rfl) (Nat.le_of_ble_eq_true rfl) (Nat.le_of_ble_eq_true rfl) dX9_init_175 32 (Nat.le_of_ble_eq_true rfl) rfl (g_in5 (List.mem_of_getElem? (i := 163) rfl) rfl) (fun _ h => h) rfl rfl (fun _ => rfl) (fun _ => rfl) dX9_init_177 ?_
  clear h9 hT hK hP hD hS
  intro ad ca tys H locs h9 hT hK hP hD hS
  refine lv_aload_n hx hb dX9_init_180 rfl (lv_at hl 0 rfl) ?_
  refine lv_bipush (v := 7) hx hb dX9_init_181 (by decide) ?_
  refine ci_step1 (Λ := gR) (n := 22) (cc := cX9_init) (ref := RX9) (atype := .int) (ty := .int) (N' := 7) hx hb hts2 cf_X9 hown hin hA rfl cF_Model cO_Model cN_Model (Nat.le_of_ble_eq_true rfl) rfl (Nat.le_of_ble_eq_true rfl) h9 hT hK hP hD hS g_awI rfl rfl (fun _ _ => rfl) (by decide) (by decide) (Nat.le_of_ble_eq_true rfl) (Nat.le_of_ble_eq_true rfl) (Nat.le_of_ble_eq_true rfl) dX9_init_183 33 (Nat.le_of_ble_eq_true rfl) rfl (g_in5 (List.mem_of_getElem? (i := 164) rfl) rfl) (fun _ h => h) rfl rfl (fun _ => rfl) (fun _ => rfl) dX9_init_185 ?_
  clear h9 hT hK hP hD hS
  intro ad ca tys H locs h9 hT hK hP hD hS
  refine lv_aload_n hx hb dX9_init_188 rfl (lv_at hl 0 rfl) ?_
  refine lv_bipush (v := 7) hx hb dX9_init_189 (by decide) ?_
  refine ci_step1 (Λ := gR) (n := 23) (cc := cX9_init) (ref := RX9) (atype := .int) (ty := .int) (N' := 7) hx hb hts2 cf_X9 hown hin hA rfl cF_Model cO_Model cN_Model (Nat.le_of_ble_eq_true rfl) rfl (Nat.le_of_ble_eq_true rfl) h9 hT hK hP hD hS g_awI rfl rfl (fun _ _ => rfl) (by decide) (by decide) (Nat.le_of_ble_eq_true rfl) (Nat.le_of_ble_eq_true rfl) (Nat.le_of_ble_eq_true rfl) dX9_init_191 34 (Nat.le_of_ble_eq_true rfl) rfl (g_in5 (List.mem_of_getElem? (i := 165) rfl) rfl) (fun _ h => h) rfl rfl (fun _ => rfl) (fun _ => rfl) dX9_init_193 ?_
  clear h9 hT hK hP hD hS
  intro ad ca tys H locs h9 hT hK hP hD hS
  refine lv_aload_n hx hb dX9_init_196 rfl (lv_at hl 0 rfl) ?_
  refine lv_bipush (v := 7) hx hb dX9_init_197 (by decide) ?_
  refine ci_step1 (Λ := gR) (n := 24) (cc := cX9_init) (ref := RX9) (atype := .int) (ty := .int) (N' := 7) hx hb hts2 cf_X9 hown hin hA rfl cF_Model cO_Model cN_Model (Nat.le_of_ble_eq_true rfl) rfl (Nat.le_of_ble_eq_true rfl) h9 hT hK hP hD hS g_awI rfl rfl (fun _ _ => rfl) (by decide) (by decide) (Nat.le_of_ble_eq_true rfl) (Nat.le_of_ble_eq_true rfl) (Nat.le_of_ble_eq_true rfl) dX9_init_199 35 (Nat.le_of_ble_eq_true rfl) rfl (g_in5 (List.mem_of_getElem? (i := 166) rfl) rfl) (fun _ h => h) rfl rfl (fun _ => rfl) (fun _ => rfl) dX9_init_201 ?_
  clear h9 hT hK hP hD hS
  intro ad ca tys H locs h9 hT hK hP hD hS
  refine lv_aload_n hx hb dX9_init_204 rfl (lv_at hl 0 rfl) ?_
  refine lv_bipush (v := 7) hx hb dX9_init_205 (by decide) ?_
  refine ci_step1 (Λ := gR) (n := 25) (cc := cX9_init) (ref := RX9) (atype := .int) (ty := .int) (N' := 7) hx hb hts2 cf_X9 hown hin hA rfl cF_Model cO_Model cN_Model (Nat.le_of_ble_eq_true rfl) rfl (Nat.le_of_ble_eq_true rfl) h9 hT hK hP hD hS g_awI rfl rfl (fun _ _ => rfl) (by decide) (by decide) (Nat.le_of_ble_eq_true rfl) (Nat.le_of_ble_eq_true rfl) (Nat.le_of_ble_eq_true rfl) dX9_init_207 36 (Nat.le_of_ble_eq_true rfl) rfl (g_in5 (List.mem_of_getElem? (i := 167) rfl) rfl) (fun _ h => h) rfl rfl (fun _ => rfl) (fun _ => rfl) dX9_init_209 ?_
  clear h9 hT hK hP hD hS
  intro ad ca tys H locs h9 hT hK hP hD hS
  refine lv_aload_n hx hb dX9_init_212 rfl (lv_at hl 0 rfl) ?_
  refine lv_bipush (v := 7) hx hb dX9_init_213 (by decide) ?_
  refine ci_step1 (Λ := gR) (n := 26) (cc := cX9_init) (ref := RX9) (atype := .int) (ty := .int) (N' := 7) hx hb hts2 cf_X9 hown hin hA rfl cF_Model cO_Model cN_Model (Nat.le_of_ble_eq_true rfl) rfl (Nat.le_of_ble_eq_true rfl) h9 hT hK hP hD hS g_awI rfl rfl (fun _ _ => rfl) (by decide) (by decide) (Nat.le_of_ble_eq_true rfl) (Nat.le_of_ble_eq_true rfl) (Nat.le_of_ble_eq_true rfl) dX9_init_215 37 (Nat.le_of_ble_eq_true rfl) rfl (g_in5 (List.mem_of_getElem? (i := 168) rfl) rfl) (fun _ h => h) rfl rfl (fun _ => rfl) (fun _ => rfl) dX9_init_217 ?_
  clear h9 hT hK hP hD hS
  intro ad ca tys H locs h9 hT hK hP hD hS
  refine lv_aload_n hx hb dX9_init_220 rfl (lv_at hl 0 rfl) ?_
  refine lv_bipush (v := 20) hx hb dX9_init_221 (by decide) ?_
  refine ci_step1 (Λ := gR) (n := 27) (cc := cX9_init) (ref := RX9) (atype := .int) (ty := .int) (N' := 20) hx hb hts2 cf_X9 hown hin hA rfl cF_Model cO_Model cN_Model (Nat.le_of_ble_eq_true rfl) rfl (Nat.le_of_ble_eq_true rfl) h9 hT hK hP hD hS g_awI rfl rfl (fun _ _ => rfl) (by decide) (by decide) (Nat.le_of_ble_eq_true rfl) (Nat.le_of_ble_eq_true rfl) (Nat.le_of_ble_eq_true rfl) dX9_init_223 38 (Nat.le_of_ble_eq_true rfl) rfl (g_in5 (List.mem_of_getElem? (i := 169) rfl) rfl) (fun _ h => h) rfl rfl (fun _ => rfl) (fun _ => rfl) dX9_init_225 ?_
  clear h9 hT hK hP hD hS
  intro ad ca tys H locs h9 hT hK hP hD hS
  refine lv_aload_n hx hb dX9_init_228 rfl (lv_at hl 0 rfl) ?_
  refine lv_bipush (v := 40) hx hb dX9_init_229 (by decide) ?_
  refine ci_step1 (Λ := gR) (n := 28) (cc := cX9_init) (ref := RX9) (atype := .int) (ty := .int) (N' := 40) hx hb hts2 cf_X9 hown hin hA rfl cF_Model cO_Model cN_Model (Nat.le_of_ble_eq_true rfl) rfl (Nat.le_of_ble_eq_true rfl) h9 hT hK hP hD hS g_awI rfl rfl (fun _ _ => rfl) (by decide) (by decide) (Nat.le_of_ble_eq_true rfl) (Nat.le_of_ble_eq_true rfl) (Nat.le_of_ble_eq_true rfl) dX9_init_231 40 (Nat.le_of_ble_eq_true rfl) rfl (g_in5 (List.mem_of_getElem? (i := 171) rfl) rfl) (fun _ h => h) rfl rfl (fun _ => rfl) (fun _ => rfl) dX9_init_233 ?_
  clear h9 hT hK hP hD hS
  intro ad ca tys H locs h9 hT hK hP hD hS
  refine lv_aload_n hx hb dX9_init_236 rfl (lv_at hl 0 rfl) ?_
  refine lv_bipush (v := 40) hx hb dX9_init_237 (by decide) ?_
  refine ci_step1 (Λ := gR) (n := 29) (cc := cX9_init) (ref := RX9) (atype := .int) (ty := .int) (N' := 40) hx hb hts2 cf_X9 hown hin hA rfl cF_Model cO_Model cN_Model (Nat.le_of_ble_eq_true rfl) rfl (Nat.le_of_ble_eq_true rfl) h9 hT hK hP hD hS g_awI rfl rfl (fun _ _ => rfl) (by decide) (by decide) (Nat.le_of_ble_eq_true rfl) (Nat.le_of_ble_eq_true rfl) (Nat.le_of_ble_eq_true rfl) dX9_init_239 41 (Nat.le_of_ble_eq_true rfl) rfl (g_in5 (List.mem_of_getElem? (i := 172) rfl) rfl) (fun _ h => h) rfl rfl (fun _ => rfl) (fun _ => rfl) dX9_init_241 ?_
  clear h9 hT hK hP hD hS
  intro ad ca tys H locs h9 hT hK hP hD hS
  refine lv_aload_n hx hb dX9_init_244 rfl (lv_at hl 0 rfl) ?_
  refine lv_bipush (v := 40) hx hb dX9_init_245 (by decide) ?_
  refine ci_step1 (Λ := gR) (n := 30) (cc := cX9_init) (ref := RX9) (atype := .int) (ty := .int) (N' := 40) hx hb hts2 cf_X9 hown hin hA rfl cF_Model cO_Model cN_Model (Nat.le_of_ble_eq_true rfl) rfl (Nat.le_of_ble_eq_true rfl) h9 hT hK hP hD hS g_awI rfl rfl (fun _ _ => rfl) (by decide) (by decide) (Nat.le_of_ble_eq_true rfl) (Nat.le_of_ble_eq_true rfl) (Nat.le_of_ble_eq_true rfl) dX9_init_247 42 (Nat.le_of_ble_eq_true rfl) rfl (g_in5 (List.mem_of_getElem? (i := 173) rfl) rfl) (fun _ h => h) rfl rfl (fun _ => rfl) (fun _ => rfl) dX9_init_249 ?_
  clear h9 hT hK hP hD hS
  intro ad ca tys H locs h9 hT hK hP hD hS
  refine lv_aload_n hx hb dX9_init_252 rfl (lv_at hl 0 rfl) ?_
  refine lv_bipush (v := 40) hx hb dX9_init_253 (by decide) ?_
  refine ci_step1 (Λ := gR) (n := 31) (cc := cX9_init) (ref := RX9) (atype := .int) (ty := .int) (N' := 40) hx hb hts2 cf_X9 hown hin hA rfl cF_Model cO_Model cN_Model (Nat.le_of_ble_eq_true rfl) rfl (Nat.le_of_ble_eq_true rfl) h9 hT hK hP hD hS g_awI rfl rfl (fun _ _ => rfl) (by decide) (by decide) (Nat.le_of_ble_eq_true rfl) (Nat.le_of_ble_eq_true rfl) (Nat.le_of_ble_eq_true rfl) dX9_init_255 43 (Nat.le_of_ble_eq_true rfl) rfl (g_in5 (List.mem_of_getElem? (i := 174) rfl) rfl) (fun _ h => h) rfl rfl (fun _ => rfl) (fun _ => rfl) dX9_init_257 ?_
  clear h9 hT hK hP hD hS
  intro ad ca tys H locs h9 hT hK hP hD hS
  refine lv_aload_n hx hb dX9_init_260 rfl (lv_at hl 0 rfl) ?_
  refine lv_bipush (v := 40) hx hb dX9_init_261 (by decide) ?_
  refine ci_step1 (Λ := gR) (n := 32) (cc := cX9_init) (ref := RX9) (atype := .int) (ty := .int) (N' := 40) hx hb hts2 cf_X9 hown hin hA rfl cF_Model cO_Model cN_Model (Nat.le_of_ble_eq_true rfl) rfl (Nat.le_of_ble_eq_true rfl) h9 hT hK hP hD hS g_awI rfl rfl (fun _ _ => rfl) (by decide) (by decide) (Nat.le_of_ble_eq_true rfl) (Nat.le_of_ble_eq_true rfl) (Nat.le_of_ble_eq_true rfl) dX9_init_263 44 (Nat.le_of_ble_eq_true rfl) rfl (g_in5 (List.mem_of_getElem? (i := 175) rfl) rfl) (fun _ h => h) rfl rfl (fun _ => rfl) (fun _ => rfl) dX9_init_265 ?_
  clear h9 hT hK hP hD hS
  intro ad ca tys H locs h9 hT hK hP hD hS
  refine lv_aload_n hx hb dX9_init_268 rfl (lv_at hl 0 rfl) ?_
  refine lv_bipush (v := 8) hx hb dX9_init_269 (by decide) ?_
  refine ci_step1 (Λ := gR) (n := 33) (cc := cX9_init) (ref := RX9) (atype := .int) (ty := .int) (N' := 8) hx hb hts2 cf_X9 hown hin hA rfl cF_Model cO_Model cN_Model (Nat.le_of_ble_eq_true rfl) rfl (Nat.le_of_ble_eq_true rfl) h9 hT hK hP hD hS g_awI rfl rfl (fun _ _ => rfl) (by decide) (by decide) (Nat.le_of_ble_eq_true rfl) (Nat.le_of_ble_eq_true rfl) (Nat.le_of_ble_eq_true rfl) dX9_init_271 45 (Nat.le_of_ble_eq_true rfl) rfl (g_in5 (List.mem_of_getElem? (i := 176) rfl) rfl) (fun _ h => h) rfl rfl (fun _ => rfl) (fun _ => rfl) dX9_init_273 ?_
  clear h9 hT hK hP hD hS
  intro ad ca tys H locs h9 hT hK hP hD hS
  refine lv_aload_n hx hb dX9_init_276 rfl (lv_at hl 0 rfl) ?_
  refine lv_bipush (v := 8) hx hb dX9_init_277 (by decide) ?_
  refine ci_step1 (Λ := gR) (n := 34) (cc := cX9_init) (ref := RX9) (atype := .int) (ty := .int) (N' := 8) hx hb hts2 cf_X9 hown hin hA rfl cF_Model cO_Model cN_Model (Nat.le_of_ble_eq_true rfl) rfl (Nat.le_of_ble_eq_true rfl) h9 hT hK hP hD hS g_awI rfl rfl (fun _ _ => rfl) (by decide) (by decide) (Nat.le_of_ble_eq_true rfl) (Nat.le_of_ble_eq_true rfl) (Nat.le_of_ble_eq_true rfl) dX9_init_279 46 (Nat.le_of_ble_eq_true rfl) rfl (g_in5 (List.mem_of_getElem? (i := 177) rfl) rfl) (fun _ h => h) rfl rfl (fun _ => rfl) (fun _ => rfl) dX9_init_281 ?_
  clear h9 hT hK hP hD hS
  intro ad ca tys H locs h9 hT hK hP hD hS
  refine lv_aload_n hx hb dX9_init_284 rfl (lv_at hl 0 rfl) ?_
  refine lv_bipush (v := 6) hx hb dX9_init_285 (by decide) ?_
  refine ci_step1 (Λ := gR) (n := 35) (cc := cX9_init) (ref := RX9) (atype := .boolean) (ty := .boolean) (N' := 6) hx hb hts2 cf_X9 hown hin hA rfl cF_Model cO_Model cN_Model (Nat.le_of_ble_eq_true rfl) rfl (Nat.le_of_ble_eq_true rfl) h9 hT hK hP hD hS g_awZ rfl rfl (fun _ _ => rfl) (by decide) (by decide) (Nat.le_of_ble_eq_true rfl) (Nat.le_of_ble_eq_true rfl) (Nat.le_of_ble_eq_true rfl) dX9_init_287 47 (Nat.le_of_ble_eq_true rfl) rfl (g_in5 (List.mem_of_getElem? (i := 178) rfl) rfl) (fun _ h => h) rfl rfl (fun _ => rfl) (fun _ => rfl) dX9_init_289 ?_
  clear h9 hT hK hP hD hS
  intro ad ca tys H locs h9 hT hK hP hD hS
  refine lv_aload_n hx hb dX9_init_292 rfl (lv_at hl 0 rfl) ?_
  refine lv_bipush (v := 48) hx hb dX9_init_293 (by decide) ?_
  refine ci_step1 (Λ := gR) (n := 36) (cc := cX9_init) (ref := RX9) (atype := .int) (ty := .int) (N' := 48) hx hb hts2 cf_X9 hown hin hA rfl cF_Model cO_Model cN_Model (Nat.le_of_ble_eq_true rfl) rfl (Nat.le_of_ble_eq_true rfl) h9 hT hK hP hD hS g_awI rfl rfl (fun _ _ => rfl) (by decide) (by decide) (Nat.le_of_ble_eq_true rfl) (Nat.le_of_ble_eq_true rfl) (Nat.le_of_ble_eq_true rfl) dX9_init_295 48 (Nat.le_of_ble_eq_true rfl) rfl (g_in5 (List.mem_of_getElem? (i := 179) rfl) rfl) (fun _ h => h) rfl rfl (fun _ => rfl) (fun _ => rfl) dX9_init_297 ?_
  clear h9 hT hK hP hD hS
  intro ad ca tys H locs h9 hT hK hP hD hS
  refine lv_aload_n hx hb dX9_init_300 rfl (lv_at hl 0 rfl) ?_
  refine lv_sipush (v := 384) hx hb dX9_init_301 (by decide) ?_
  refine ci_step1 (Λ := gR) (n := 37) (cc := cX9_init) (ref := RX9) (atype := .boolean) (ty := .boolean) (N' := 384) hx hb hts2 cf_X9 hown hin hA rfl cF_Model cO_Model cN_Model (Nat.le_of_ble_eq_true rfl) rfl (Nat.le_of_ble_eq_true rfl) h9 hT hK hP hD hS g_awZ rfl rfl (fun _ _ => rfl) (by decide) (by decide) (Nat.le_of_ble_eq_true rfl) (Nat.le_of_ble_eq_true rfl) (Nat.le_of_ble_eq_true rfl) dX9_init_304 49 (Nat.le_of_ble_eq_true rfl) rfl (g_in5 (List.mem_of_getElem? (i := 180) rfl) rfl) (fun _ h => h) rfl rfl (fun _ => rfl) (fun _ => rfl) dX9_init_306 ?_
  clear h9 hT hK hP hD hS
  intro ad ca tys H locs h9 hT hK hP hD hS
  refine lv_aload_n hx hb dX9_init_309 rfl (lv_at hl 0 rfl) ?_
  refine lv_sipush (v := 256) hx hb dX9_init_310 (by decide) ?_
  refine ci_step1 (Λ := gR) (n := 38) (cc := cX9_init) (ref := RX9) (atype := .int) (ty := .int) (N' := 256) hx hb hts2 cf_X9 hown hin hA rfl cF_Model cO_Model cN_Model (Nat.le_of_ble_eq_true rfl) rfl (Nat.le_of_ble_eq_true rfl) h9 hT hK hP hD hS g_awI rfl rfl (fun _ _ => rfl) (by decide) (by decide) (Nat.le_of_ble_eq_true rfl) (Nat.le_of_ble_eq_true rfl) (Nat.le_of_ble_eq_true rfl) dX9_init_313 50 (Nat.le_of_ble_eq_true rfl) rfl (g_in5 (List.mem_of_getElem? (i := 181) rfl) rfl) (fun _ h => h) rfl rfl (fun _ => rfl) (fun _ => rfl) dX9_init_315 ?_
  clear h9 hT hK hP hD hS
  intro ad ca tys H locs h9 hT hK hP hD hS
  refine lv_aload_n hx hb dX9_init_318 rfl (lv_at hl 0 rfl) ?_
  refine lv_iconst (v := 5) hx hb dX9_init_319 (by decide) ?_
  refine ci_step1 (Λ := gR) (n := 39) (cc := cX9_init) (ref := RX9) (atype := .int) (ty := .int) (N' := 5) hx hb hts2 cf_X9 hown hin hA rfl cF_Model cO_Model cN_Model (Nat.le_of_ble_eq_true rfl) rfl (Nat.le_of_ble_eq_true rfl) h9 hT hK hP hD hS g_awI rfl rfl (fun _ _ => rfl) (by decide) (by decide) (Nat.le_of_ble_eq_true rfl) (Nat.le_of_ble_eq_true rfl) (Nat.le_of_ble_eq_true rfl) dX9_init_320 51 (Nat.le_of_ble_eq_true rfl) rfl (g_in5 (List.mem_of_getElem? (i := 182) rfl) rfl) (fun _ h => h) rfl rfl (fun _ => rfl) (fun _ => rfl) dX9_init_322 ?_
  clear h9 hT hK hP hD hS
  intro ad ca tys H locs h9 hT hK hP hD hS
  refine lv_aload_n hx hb dX9_init_325 rfl (lv_at hl 0 rfl) ?_
  refine lv_sipush (v := 216) hx hb dX9_init_326 (by decide) ?_
  refine ci_step1 (Λ := gR) (n := 40) (cc := cX9_init) (ref := RX9) (atype := .int) (ty := .int) (N' := 216) hx hb hts2 cf_X9 hown hin hA rfl cF_Model cO_Model cN_Model (Nat.le_of_ble_eq_true rfl) rfl (Nat.le_of_ble_eq_true rfl) h9 hT hK hP hD hS g_awI rfl rfl (fun _ _ => rfl) (by decide) (by decide) (Nat.le_of_ble_eq_true rfl) (Nat.le_of_ble_eq_true rfl) (Nat.le_of_ble_eq_true rfl) dX9_init_329 52 (Nat.le_of_ble_eq_true rfl) rfl (g_in5 (List.mem_of_getElem? (i := 183) rfl) rfl) (fun _ h => h) rfl rfl (fun _ => rfl) (fun _ => rfl) dX9_init_331 ?_
  clear h9 hT hK hP hD hS
  intro ad ca tys H locs h9 hT hK hP hD hS
  refine lv_aload_n hx hb dX9_init_334 rfl (lv_at hl 0 rfl) ?_
  refine lv_sipush (v := 256) hx hb dX9_init_335 (by decide) ?_
  refine ci_step1 (Λ := gR) (n := 41) (cc := cX9_init) (ref := RX9) (atype := .int) (ty := .int) (N' := 256) hx hb hts2 cf_X9 hown hin hA rfl cF_Model cO_Model cN_Model (Nat.le_of_ble_eq_true rfl) rfl (Nat.le_of_ble_eq_true rfl) h9 hT hK hP hD hS g_awI rfl rfl (fun _ _ => rfl) (by decide) (by decide) (Nat.le_of_ble_eq_true rfl) (Nat.le_of_ble_eq_true rfl) (Nat.le_of_ble_eq_true rfl) dX9_init_338 53 (Nat.le_of_ble_eq_true rfl) rfl (g_in5 (List.mem_of_getElem? (i := 184) rfl) rfl) (fun _ h => h) rfl rfl (fun _ => rfl) (fun _ => rfl) dX9_init_340 ?_
  clear h9 hT hK hP hD hS
  intro ad ca tys H locs h9 hT hK hP hD hS
  refine lv_aload_n hx hb dX9_init_343 rfl (lv_at hl 0 rfl) ?_
  refine lv_sipush (v := 256) hx hb dX9_init_344 (by decide) ?_
  refine ci_step1 (Λ := gR) (n := 42) (cc := cX9_init) (ref := RX9) (atype := .int) (ty := .int) (N' := 256) hx hb hts2 cf_X9 hown hin hA rfl cF_Model cO_Model cN_Model (Nat.le_of_ble_eq_true rfl) rfl (Nat.le_of_ble_eq_true rfl) h9 hT hK hP hD hS g_awI rfl rfl (fun _ _ => rfl) (by decide) (by decide) (Nat.le_of_ble_eq_true rfl) (Nat.le_of_ble_eq_true rfl) (Nat.le_of_ble_eq_true rfl) dX9_init_347 54 (Nat.le_of_ble_eq_true rfl) rfl (g_in5 (List.mem_of_getElem? (i := 185) rfl) rfl) (fun _ h => h) rfl rfl (fun _ => rfl) (fun _ => rfl) dX9_init_349 ?_
  clear h9 hT hK hP hD hS
  intro ad ca tys H locs h9 hT hK hP hD hS
  refine lv_aload_n hx hb dX9_init_352 rfl (lv_at hl 0 rfl) ?_
  refine lv_sipush (v := 256) hx hb dX9_init_353 (by decide) ?_
  refine ci_step1 (Λ := gR) (n := 43) (cc := cX9_init) (ref := RX9) (atype := .int) (ty := .int) (N' := 256) hx hb hts2 cf_X9 hown hin hA rfl cF_Model cO_Model cN_Model (Nat.le_of_ble_eq_true rfl) rfl (Nat.le_of_ble_eq_true rfl) h9 hT hK hP hD hS g_awI rfl rfl (fun _ _ => rfl) (by decide) (by decide) (Nat.le_of_ble_eq_true rfl) (Nat.le_of_ble_eq_true rfl) (Nat.le_of_ble_eq_true rfl) dX9_init_356 55 (Nat.le_of_ble_eq_true rfl) rfl (g_in5 (List.mem_of_getElem? (i := 186) rfl) rfl) (fun _ h => h) rfl rfl (fun _ => rfl) (fun _ => rfl) dX9_init_358 ?_
  clear h9 hT hK hP hD hS
  intro ad ca tys H locs h9 hT hK hP hD hS
  refine lv_aload_n hx hb dX9_init_361 rfl (lv_at hl 0 rfl) ?_
  refine lv_sipush (v := 1536) hx hb dX9_init_362 (by decide) ?_
  refine ci_step1 (Λ := gR) (n := 44) (cc := cX9_init) (ref := RX9) (atype := .int) (ty := .int) (N' := 1536) hx hb hts2 cf_X9 hown hin hA rfl cF_Model cO_Model cN_Model (Nat.le_of_ble_eq_true rfl) rfl (Nat.le_of_ble_eq_true rfl) h9 hT hK hP hD hS g_awI rfl rfl (fun _ _ => rfl) (by decide) (by decide) (Nat.le_of_ble_eq_true rfl) (Nat.le_of_ble_eq_true rfl) (Nat.le_of_ble_eq_true rfl) dX9_init_365 56 (Nat.le_of_ble_eq_true rfl) rfl (g_in5 (List.mem_of_getElem? (i := 187) rfl) rfl) (fun _ h => h) rfl rfl (fun _ => rfl) (fun _ => rfl) dX9_init_367 ?_
  clear h9 hT hK hP hD hS
  intro ad ca tys H locs h9 hT hK hP hD hS
  refine lv_aload_n hx hb dX9_init_370 rfl (lv_at hl 0 rfl) ?_
  refine lv_bipush (v := 8) hx hb dX9_init_371 (by decide) ?_
  refine ci_step1 (Λ := gR) (n := 45) (cc := cX9_init) (ref := RX9) (atype := .int) (ty := .int) (N' := 8) hx hb hts2 cf_X9 hown hin hA rfl cF_Model cO_Model cN_Model (Nat.le_of_ble_eq_true rfl) rfl (Nat.le_of_ble_eq_true rfl) h9 hT hK hP hD hS g_awI rfl rfl (fun _ _ => rfl) (by decide) (by decide) (Nat.le_of_ble_eq_true rfl) (Nat.le_of_ble_eq_true rfl) (Nat.le_of_ble_eq_true rfl) dX9_init_373 58 (Nat.le_of_ble_eq_true rfl) rfl (g_in5 (List.mem_of_getElem? (i := 189) rfl) rfl) (fun _ h => h) rfl rfl (fun _ => rfl) (fun _ => rfl) dX9_init_375 ?_
  clear h9 hT hK hP hD hS
  intro ad ca tys H locs h9 hT hK hP hD hS
  refine lv_aload_n hx hb dX9_init_378 rfl (lv_at hl 0 rfl) ?_
  refine lv_iconst (v := 4) hx hb dX9_init_379 (by decide) ?_
  refine ci_step1 (Λ := gR) (n := 46) (cc := cX9_init) (ref := RX9) (atype := .boolean) (ty := .boolean) (N' := 4) hx hb hts2 cf_X9 hown hin hA rfl cF_Model cO_Model cN_Model (Nat.le_of_ble_eq_true rfl) rfl (Nat.le_of_ble_eq_true rfl) h9 hT hK hP hD hS g_awZ rfl rfl (fun _ _ => rfl) (by decide) (by decide) (Nat.le_of_ble_eq_true rfl) (Nat.le_of_ble_eq_true rfl) (Nat.le_of_ble_eq_true rfl) dX9_init_380 60 (Nat.le_of_ble_eq_true rfl) rfl (g_in5 (List.mem_of_getElem? (i := 191) rfl) rfl) (fun _ h => h) rfl rfl (fun _ => rfl) (fun _ => rfl) dX9_init_382 ?_
  clear h9 hT hK hP hD hS
  intro ad ca tys H locs h9 hT hK hP hD hS
  refine lv_aload_n hx hb dX9_init_385 rfl (lv_at hl 0 rfl) ?_
  refine lv_sipush (v := 1000) hx hb dX9_init_386 (by decide) ?_
  refine ci_step1 (Λ := gR) (n := 47) (cc := cX9_init) (ref := RX9) (atype := .int) (ty := .int) (N' := 1000) hx hb hts2 cf_X9 hown hin hA rfl cF_Model cO_Model cN_Model (Nat.le_of_ble_eq_true rfl) rfl (Nat.le_of_ble_eq_true rfl) h9 hT hK hP hD hS g_awI rfl rfl (fun _ _ => rfl) (by decide) (by decide) (Nat.le_of_ble_eq_true rfl) (Nat.le_of_ble_eq_true rfl) (Nat.le_of_ble_eq_true rfl) dX9_init_389 61 (Nat.le_of_ble_eq_true rfl) rfl (g_in5 (List.mem_of_getElem? (i := 192) rfl) rfl) (fun _ h => h) rfl rfl (fun _ => rfl) (fun _ => rfl) dX9_init_391 ?_
  clear h9 hT hK hP hD hS
  intro ad ca tys H locs h9 hT hK hP hD hS
  rw [ci_fin (Λ := gR) rfl rfl cB_Model] at hP hD
  exact W.vret (cc := cX9_init) hx hb hr (fun t ht hW => ⟨rfl, ⟨ad, ca, tys, h9, ci_tys rfl rfl hT, va_K.moved hW.alike hK, (by rw [ht]; exact hP), hD⟩, hS.F ht⟩) hS.2.2 dX9_init_394 hlocks
