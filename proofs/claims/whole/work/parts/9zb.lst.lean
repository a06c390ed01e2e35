/-! The law's body: as far as its loop -/
theorem cj_app {w1 w2 v1 v2 : va_W} (h1 : cj_e w1 v1) (h2 : cj_e w2 v2) : cj_e (w1 ++ w2) (v1 ++ v2) := by
  refine ⟨by rw [List.length_append, List.length_append, h1.1, h2.1], fun k q q' a b => ?_⟩
  by_cases e : k < w1.length
  · rw [List.getElem?_append_left e] at a
    rw [List.getElem?_append_left (by rw [← h1.1]; exact e)] at b
    exact h1.2 k q q' a b
  · rw [List.getElem?_append_right (by omega)] at a
    rw [List.getElem?_append_right (by rw [← h1.1]; omega), ← h1.1] at b
    exact h2.2 _ q q' a b
theorem lj_sx {ad adS : Nat → Nat} {A : Nat → Prop} {s : State} (h : ∀ i, 900 ≤ i → ad i = adS i) (hS : g_SX adS A s s.heap) : g_SX ad A s s.heap := by
  unfold g_SX at hS ⊢
  rw [h 900 (by omega), h 902 (by omega), h 904 (by omega)]
  refine ⟨hS.1, fun i hi => ?_, hS.2.2⟩
  have z := hS.2.1 i hi
  rw [h (900 + 2 * i) (by omega), h (901 + 2 * i) (by omega)]
  exact z
theorem lj_ty {Λ : g_Lay} {tys pre post all : List (ClassId × FieldType)} {ca : Nat → ClassId} (h : g_Ty Λ tys ca) (e : all = pre ++ (tys ++ post)) : g_Ty Λ all ca := by
  subst e
  intro id hid ty n rf hs
  obtain ⟨t0, ht⟩ := h id hid ty n rf hs
  refine ⟨pre.length + t0, ?_⟩
  rw [List.getElem?_append_right (by omega), show pre.length + t0 - pre.length = t0 by omega, List.getElem?_append_left (List.getElem?_eq_some_iff.mp ht).1]
  exact ht
theorem lj_last {tys : List (ClassId × FieldType)} {x : ClassId × FieldType} : (tys ++ [x])[tys.length]? = some x := by simp

theorem dL_law_0 : decode cL_law 0 = .ok (.new 8, 3) := by decide +kernel
theorem dL_law_3 : decode cL_law 3 = .ok (.dup, 1) := by decide +kernel
theorem dL_law_4 : decode cL_law 4 = .ok (.invokespecial 23, 3) := by decide +kernel
theorem dL_law_7 : decode cL_law 7 = .ok (.astore_n 1, 1) := by decide +kernel
theorem dL_law_8 : decode cL_law 8 = .ok (.new 24, 3) := by decide +kernel
theorem dL_law_11 : decode cL_law 11 = .ok (.dup, 1) := by decide +kernel
theorem dL_law_12 : decode cL_law 12 = .ok (.invokespecial 26, 3) := by decide +kernel
theorem dL_law_15 : decode cL_law 15 = .ok (.astore_n 2, 1) := by decide +kernel
theorem dL_law_16 : decode cL_law 16 = .ok (.iconst 1, 1) := by decide +kernel
theorem dL_law_17 : decode cL_law 17 = .ok (.newarray .long, 2) := by decide +kernel
theorem dL_law_19 : decode cL_law 19 = .ok (.astore_n 3, 1) := by decide +kernel
theorem dL_law_20 : decode cL_law 20 = .ok (.iconst 0, 1) := by decide +kernel
theorem dL_law_21 : decode cL_law 21 = .ok (.istore 4, 2) := by decide +kernel
/-- addresses of ids that a world doesn't use may be told otherwise -/
def cj_cl (Λ : g_Lay) : Bool := (List.range Λ.1).all (fun i => match Λ.2 i with
  | .inl (_, F) => F.all (fun p => decide (p.1 ≤ 1) || (decide (p.1 = 2) && decide (p.2 < 900)))
  | .inr (ty, _, _) => decide (ty < 4))
theorem cj_ad {Λ : g_Lay} {μ : g_St} {ad ad' ca : Nat → Nat} (hb : cj_cl Λ = true) (hΛ : Λ.1 ≤ 900) (ho : ∀ i, i < 900 → ad' i = ad i) : cj_e (g_wW ad ca Λ μ) (g_wW ad' ca Λ μ) := by
  refine ⟨by simp [g_wW], fun k q q' h1 h2 => ?_⟩
  have hk : k < Λ.1 := by
    have := (List.getElem?_eq_some_iff.mp h1).1
    simpa [g_wW] using this
  rw [cs_wW_s hk] at h1 h2
  cases h1
  cases h2
  refine ⟨(ho k (by omega)).symm, fun D H h => ?_⟩
  rw [ho k (by omega)]
  have h3 := List.all_eq_true.mp hb k (List.mem_range.mpr hk)
  cases hq : Λ.2 k with
  | inl q =>
    obtain ⟨ci, F⟩ := q
    rw [hq] at h3
    rw [g_ent_o hq] at h ⊢
    have : g_fs ad' μ k F = g_fs ad μ k F := by
      unfold g_fs
      apply List.ext_getElem?
      intro j
      rw [List.getElem?_mapIdx, List.getElem?_mapIdx]
      cases hp : F[j]? with
      | none => rfl
      | some p =>
        have h4 := List.all_eq_true.mp h3 p (List.mem_of_getElem? hp)
        show some (g_fv ad' μ k j p) = some (g_fv ad μ k j p)
        obtain ⟨p1, p2⟩ := p
        rcases Bool.or_eq_true_iff.mp h4 with h5 | h5
        · have h5 : p1 ≤ 1 := of_decide_eq_true h5
          rcases (show p1 = 0 ∨ p1 = 1 by omega) with rfl | rfl <;> rfl
        · have h6 : p1 = 2 := of_decide_eq_true (Bool.and_eq_true_iff.mp h5).1
          have h7 : p2 < 900 := of_decide_eq_true (Bool.and_eq_true_iff.mp h5).2
          subst h6
          show some (Value.ref (ad' p2)) = some (Value.ref (ad p2))
          rw [ho p2 h7]
    rw [this]; exact h
  | inr q =>
    obtain ⟨ty, N, rf⟩ := q
    rw [hq] at h3
    exact cj_ent hq rfl (.inl (of_decide_eq_true h3)) _ D H h
def lj_A (s : State) : Nat → Prop := fun q => s.heap.size ≤ q
def lj_X (s : State) (b L : Nat) (xs : Nat → Int32) : Prop := va_X b L xs s s.heap ∧ b < s.heap.size
/-- what the law's body keeps: both programs' contexts, the cell out -/
def lj_C (p : Program) (s : State) (m : MethodId) (b : Nat) (c : Code) (D : va_G) (tys : List (ClassId × FieldType)) (caC adC caR adR : Nat → Nat) (co : Nat) : Prop :=
  (∀ cells slots, cells ≤ 601024 → slots ≤ 7293034 → g_Cx p room_1 s m #[Value.ref b] c 500 yL_law cL_law 7 D tys caC gC cells slots (lj_A s) adC ∧ g_Cx p room_1 s m #[Value.ref b] c 500 yL_law cL_law 7 D tys caR gR cells slots (lj_A s) adR) ∧ (∃ t0 : Nat, tys[t0]? = some (co, FieldType.long)) ∧ g_TX (lj_A s) s s.heap
set_option maxHeartbeats 4000000 in
set_option maxRecDepth 20000 in
theorem lj_start {p : Program} {l : Launch} {e : Env} {s : State} {m : MethodId} {below : List Frame} {meth : Method} {c : Code} {Q : State → Prop} {b : Nat}
    (hx : p.tables.exec = Jvm.exec) (hb : c.code = cL_law) (hml : c.maxLocals = 7) (hown : s.vm.findClass RL = some m.cls) (hts : ∀ w ∈ lw_tbl, w.before #[Value.ref b] s = true) (hgv : (Jvm.Cond.and given_1 narrow_1).before #[Value.ref b] s = true)
    (kk : ∀ (D : va_G) (tys : List (ClassId × FieldType)) (caC adC caR adR : Nat → Nat) (co ao : Nat) (ls : Array Slot) (H : Heap) (locs : List Loc), lj_C p s m b c D tys caC adC caR adR co → lv_has ls 7 [(4, .int 0), (3, .ref ao), (2, .ref (adR 0)), (1, .ref (adC 0)), (0, .ref b)] → g_Rp gC D caC adC ((ao, g_oE co (fun _ => 0)) :: g_wW adR caR gR g_mu0) (lj_A s) s.heap cs_c0 H locs →
      W p l e room_1 s m #[Value.ref b] below meth c H locs 183 20033 Q (F0 m 23 ls [])) :
    W p l e room_1 s m #[Value.ref b] below meth c s.heap [] 0 0 Q (entryFrame m ([Value.ref b] : List Value).toArray 7) := by
  have hg := lj_gw hts
  have hN := lj_nw hts
  have hAO := lj_AO hts
  have hAW := lj_AW hts
  obtain ⟨D, hK⟩ := lj_K hts
  have hA0 : ∀ a : Nat, a < s.heap.size → ¬ lj_A s a := fun a h z => by have z : s.heap.size ≤ a := z; omega
  have hA : ∀ q : Nat, s.heap.size ≤ q → lj_A s q := fun q h => h
  obtain ⟨adS, hSX⟩ := lj_SX hgv hts hA0
  have hTX := lj_TX hgv hts hA0
  have hl := lv_entry ([Value.ref b]) (n := 7) (Nat.le_of_ble_eq_true rfl)
  rw [lg_entry_eq]
  generalize (lg_sl ([Value.ref b]) ++ List.replicate (7 - (lg_sl ([Value.ref b])).length) Slot.unset).toArray = ls at hl ⊢
  have hl : lv_has ls 7 [(0, .ref b)] := hl
  have hP : va_P D g_cl [] s.heap := fun k q hk => by cases hk
  have hD : va_D (lj_A s) [] := ⟨fun i j x y hi => (by cases hi), fun k q hk => (by cases hk)⟩
  refine cl_call (fr := 30) (lo := 3000) (PA := fun ad q => ad 0 = q ∧ ∀ i, 900 ≤ i → ad i = adS i) (Ex := fun B U => (∀ w ∈ g_nw, va_Nw w U) ∧ g_SX adS B U U.heap ∧ cq_AO U ∧ va_AO "OwnMade$Week" U) (own := RL) (ws := []) (rest := []) (Λ' := gC) (μ' := cs_c0) (y2 := yX8_init) (cc2 := cX8_init) (nL2 := 2) (mc := 132) (ms := 11949) (fs0 := [.null, .null, .null, .null, .null, .null, .null, .int 0, .null, .null, .null, .null, .null, .null, .int 0]) hx hb hml hown hg (fun sz h0 => ci_Own l D adS sz h0) cf_X8 (fun j hj => match j, hj with | 0, _ => rfl | 1, _ => rfl | 2, _ => rfl | 3, _ => rfl | 4, _ => rfl | 5, _ => rfl | 6, _ => rfl | 7, _ => rfl | 8, _ => rfl | 9, _ => rfl | 10, _ => rfl | 11, _ => rfl | 12, _ => rfl | 13, _ => rfl | 14, _ => rfl | k + 15, h => absurd h (by omega)) (g_in1 (List.mem_of_getElem? (i := 24) rfl) rfl) (g_in1 (List.mem_of_getElem? (i := 25) rfl) rfl) (g_in1 (List.mem_of_getElem? (i := 1) rfl) rfl) rfl (g_in1 (List.mem_of_getElem? (i := 26) rfl) rfl) (g_in1 (List.mem_of_getElem? (i := 28) rfl) rfl) (g_in1 (List.mem_of_getElem? (i := 27) rfl) rfl) rfl (by decide +kernel) dL_law_0 dL_law_3 dL_law_4 hl.1 (Nat.le_of_ble_eq_true rfl) ⟨Nat.le_of_ble_eq_true rfl, Nat.le_of_ble_eq_true rfl⟩ ⟨Nat.le_of_ble_eq_true rfl, fun v hv => by cases hv⟩ (Nat.le_of_ble_eq_true rfl) (Nat.le_of_ble_eq_true rfl) hK hP hD va_S.rf hA
    (fun B a U g mk h => ⟨ex_n_bl B a U g mk h.1, g_SX.vm (u := U) (U := U.calling g mk a) rfl h.2.1, cq_AO.moved (u := U) (U := U.calling g mk a) (Vm.Alike.refl U.vm) h.2.2.1, va_AO.moved (u := U) (U := U.calling g mk a) (Vm.Alike.refl U.vm) h.2.2.2⟩)
    (fun U H1 B locs1 hW hU hS hB => ⟨g_nw_warm hW hN, by rw [hU]; exact g_SX.narrow (g_SX.kept (g_SX.warm hW hSX) (fun a h1 h2 => hS.2.1 a h1 h2)) hB, cq_AO.moved hW.alike hAO, va_AO.moved hW.alike hAW⟩) (fun q adC caC tysC H locs hPA hTyC hK hP hD hS => ?_)
  refine lv_astore_n (lv' := [(1, .ref q), (0, .ref b)]) hx hb dL_law_7 rfl hl (by decide) rfl (fun ls hl => ?_)
  refine cl_call (fr := 20) (lo := 2000) (PA := fun ad q => ad 0 = q) (Ex := fun _ U => ∀ w ∈ g_nw, va_Nw w U) (own := RL) (rest := []) (Λ' := gR) (μ' := g_mu0) (y2 := yX9_init) (cc2 := cX9_init) (nL2 := 1) (mc := 48) (ms := 8006) (fs0 := [.int 0, .int 0, .null, .int 0, .int 0, .int 0, .int 0, .long 0, .int 0, .int 0, .null, .null, .null, .null, .null, .null, .null, .null, .null, .null, .null, .null, .int 0, .null, .null, .null, .int 0, .null, .null, .null, .null, .null, .null, .null, .null, .null, .null, .null, .null, .int 0, .null, .null, .null, .null, .null, .null, .null, .null, .null, .null, .null, .null, .null, .null, .null, .null, .null, .int 0, .null, .long 0, .null, .null]) hx hb hml hown hg (fun sz h0 => ci_Model l D sz h0) cf_X9 (fun j hj => match j, hj with | 0, _ => rfl | 1, _ => rfl | 2, _ => rfl | 3, _ => rfl | 4, _ => rfl | 5, _ => rfl | 6, _ => rfl | 7, _ => rfl | 8, _ => rfl | 9, _ => rfl | 10, _ => rfl | 11, _ => rfl | 12, _ => rfl | 13, _ => rfl | 14, _ => rfl | 15, _ => rfl | 16, _ => rfl | 17, _ => rfl | 18, _ => rfl | 19, _ => rfl | 20, _ => rfl | 21, _ => rfl | 22, _ => rfl | 23, _ => rfl | 24, _ => rfl | 25, _ => rfl | 26, _ => rfl | 27, _ => rfl | 28, _ => rfl | 29, _ => rfl | 30, _ => rfl | 31, _ => rfl | 32, _ => rfl | 33, _ => rfl | 34, _ => rfl | 35, _ => rfl | 36, _ => rfl | 37, _ => rfl | 38, _ => rfl | 39, _ => rfl | 40, _ => rfl | 41, _ => rfl | 42, _ => rfl | 43, _ => rfl | 44, _ => rfl | 45, _ => rfl | 46, _ => rfl | 47, _ => rfl | 48, _ => rfl | 49, _ => rfl | 50, _ => rfl | 51, _ => rfl | 52, _ => rfl | 53, _ => rfl | 54, _ => rfl | 55, _ => rfl | 56, _ => rfl | 57, _ => rfl | 58, _ => rfl | 59, _ => rfl | 60, _ => rfl | 61, _ => rfl | k + 62, h => absurd h (by omega)) (g_in5 (List.mem_of_getElem? (i := 125) rfl) rfl) (g_in5 (List.mem_of_getElem? (i := 126) rfl) rfl) (g_in1 (List.mem_of_getElem? (i := 12) rfl) rfl) rfl (g_in5 (List.mem_of_getElem? (i := 127) rfl) rfl) (g_in5 (List.mem_of_getElem? (i := 129) rfl) rfl) (g_in5 (List.mem_of_getElem? (i := 128) rfl) rfl) rfl (by decide +kernel) dL_law_8 dL_law_11 dL_law_12 hl.1 (Nat.le_of_ble_eq_true rfl) ⟨Nat.le_of_ble_eq_true rfl, Nat.le_of_ble_eq_true rfl⟩ ⟨Nat.le_of_ble_eq_true rfl, fun v hv => by cases hv⟩ (Nat.le_of_ble_eq_true rfl) (Nat.le_of_ble_eq_true rfl) hK hP hD hS hA ex_n_bl (fun U H1 B locs1 hW hU hS hB => g_nw_warm hW hN) (fun q2 adR caR tysR H locs hPR hTyR hK hP hD hS => ?_)
  refine lv_astore_n (lv' := [(2, .ref q2), (1, .ref q), (0, .ref b)]) hx hb dL_law_15 rfl hl (by decide) rfl (fun ls hl => ?_)
  refine lv_iconst (v := 1) hx hb dL_law_16 (by decide) ?_
  refine va_newa (a0 := (1, .inr (.inl (fun _ => 0)))) hx hb (hg _ g_awJ) rfl hK hP hD hS hA (fun _ => rfl) (by decide) (by decide) (Nat.le_of_ble_eq_true rfl) (Nat.le_of_ble_eq_true rfl) (Nat.le_of_ble_eq_true rfl) dL_law_17 (fun ao co H1 hK hP hD hS => ?_)
  refine lv_astore_n (lv' := [(3, .ref ao), (2, .ref q2), (1, .ref q), (0, .ref b)]) hx hb dL_law_19 rfl hl (by decide) rfl (fun ls hl => ?_)
  refine lv_iconst (v := 0) hx hb dL_law_20 (by decide) ?_
  refine lv_istore (lv' := [(4, .int 0), (3, .ref ao), (2, .ref q2), (1, .ref q), (0, .ref b)]) hx hb dL_law_21 hl (by decide) rfl (fun ls hl => ?_)
  obtain ⟨a0, a9⟩ := hPA
  subst a0
  have hj := cj_ad (Λ := gR) (μ := g_mu0) (ca := caR) (ad := adR) (ad' := fun i => if 900 ≤ i then adS i else adR i) (by decide +kernel) (Nat.le_of_ble_eq_true rfl) (fun i hi => if_neg (by omega))
  have hj2 : cj_e ((([] ++ g_wW adC caC gC cs_c0) ++ g_wW adR caR gR g_mu0) ++ [((ao, .inl (co, 1, .inr (.inl (fun _ => 0)))) : Nat × va_E)]) ((([] ++ g_wW adC caC gC cs_c0) ++ g_wW (fun i => if 900 ≤ i then adS i else adR i) caR gR g_mu0) ++ [((ao, .inl (co, 1, .inr (.inl (fun _ => 0)))) : Nat × va_E)]) := cj_app (cj_app cj_e_refl hj) cj_e_refl
  have hP := va_P.swap (cj_P hj2 hP)
  have hD := va_D.swap (cj_D hj2 hD)
  have e : (([] ++ g_wW adC caC gC cs_c0) ++ [((ao, .inl (co, 1, .inr (.inl (fun _ => 0)))) : Nat × va_E)]) ++ g_wW (fun i => if 900 ≤ i then adS i else adR i) caR gR g_mu0 = g_wW adC caC gC cs_c0 ++ (ao, g_oE co (fun _ => 0)) :: g_wW (fun i => if 900 ≤ i then adS i else adR i) caR gR g_mu0 := by simp [g_oE]
  rw [e] at hP hD
  have hSC : g_SX adC (lj_A s) s s.heap := lj_sx a9 hSX
  have hSR : g_SX (fun i => if 900 ≤ i then adS i else adR i) (lj_A s) s s.heap := lj_sx (fun i hi => if_pos hi) hSX
  have hTC : g_Ty gC ((([] ++ tysC) ++ tysR) ++ [(co, FieldType.long)]) caC := lj_ty (pre := []) (post := tysR ++ [(co, FieldType.long)]) hTyC (by simp)
  have hTR : g_Ty gR ((([] ++ tysC) ++ tysR) ++ [(co, FieldType.long)]) caR := lj_ty (pre := tysC) (post := [(co, FieldType.long)]) hTyR (by simp)
  exact kk D _ caC adC caR (fun i => if 900 ≤ i then adS i else adR i) co ao ls H1 _ ⟨fun cells slots h1 h2 => ⟨⟨hx, hb, hml, hown, hg, hN, hK, hA, hTC, ⟨Nat.le_of_ble_eq_true rfl, Nat.le_of_ble_eq_true rfl, h1, h2⟩, hSC⟩, ⟨hx, hb, hml, hown, hg, hN, hK, hA, hTR, ⟨Nat.le_of_ble_eq_true rfl, Nat.le_of_ble_eq_true rfl, h1, h2⟩, hSR⟩⟩, ⟨_, lj_last⟩, hTX⟩ (by rw [show (if 900 ≤ 0 then adS 0 else adR 0) = q2 from hPR]; exact hl) ⟨hP, hD, hS⟩
