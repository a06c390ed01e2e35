/-! Constructors: rows of rows -/
section CiRows
variable {p : Program} {l : Launch} {e : Env} {R : Room} {s : State} {m : MethodId} {args : Array Value} {below : List Frame} {meth : Method} {c : Code} {H : Heap} {locs : List Loc} {cells slots : Nat} {Q : State → Prop}
variable {cc : ByteArray} {pc : Nat} {ls : Array Slot} {D : va_G} {A : Nat → Prop} {tys : List (ClassId × FieldType)} {H0 : Heap}
/-- a fresh block behind a world -/
theorem ci_fresh {cl : List vw_C} {ws B : va_W} {H1 : Heap} (hP : va_P D cl ws H) (hD : va_D A ws) (hold : ∀ x, x < H.size → H1[x]? = H[x]?) (hB : ∀ k q, B[k]? = some q → q.1 = H.size + k ∧ va_at D cl q H1) (hA : ∀ q, H0.size ≤ q → A q) (hs : H0.size ≤ H.size) : va_P D cl (ws ++ B) H1 ∧ va_D A (ws ++ B) := by
  refine ⟨(hP.kept (fun k q hk => hold q.1 (hP k q hk).lt)).app (fun k q hk => (hB k q hk).2), hD.app ⟨fun i j x y hi hj hxy => ?_, fun k q hk => hA _ (by rw [(hB k q hk).1]; omega)⟩ (fun i j x y hi hj hxy => ?_)⟩
  · have h1 := (hB i x hi).1
    have h2 := (hB j y hj).1
    omega
  · have h1 := (hP i x hi).lt
    have h2 := (hB j y hj).1
    omega
def cq_AO (U : State) : Prop := ∃ comp c k, U.vm.findClass "[I" = some comp ∧ U.vm.classes[c]? = some k ∧ k.kind = .array comp (.array .int) ∧ U.vm.findClass "[[I" = some c
theorem cq_AO.of {B : Array Value} {U : State} (h : (Cond.arrayOver (.array .int)).before B U = true) : cq_AO U := by
  obtain ⟨comp, c, k, h1, -, h3, h4, h5⟩ := arrayOverA_spec h
  exact ⟨comp, c, k, h1, h3, h4, h5⟩
theorem cq_AO.moved {u U : State} (hvm : u.vm.Alike U.vm) (h : cq_AO u) : cq_AO U := by
  obtain ⟨comp, c, k, h1, h3, h4, h5⟩ := h
  obtain ⟨k', hk', he⟩ := hvm.2.2 _ _ h3
  exact ⟨comp, c, k', by rw [hvm.findClass]; exact h1, hk', by rw [he]; exact h4, by rw [hvm.findClass]; exact h5⟩
theorem cq_stand {T : State} (X : Stand p l e R s m args below meth c T locs cells slots) (cA cy : ClassId) (N K : Nat) : ∀ i, Stand p l e R s m args below meth c (cq_f T cA cy N K i) (locs ++ (List.range i).map fun j => ⟨T.heap.size, j⟩) (cells + 1 + i) (slots + N + i * K)
  | 0 => by
    have h := X.pushed (cq_o cA N T.heap.size 0)
    rw [show (cq_o cA N T.heap.size 0).slots.size = N from cq_sz ..] at h
    simpa [cq_f] using h
  | i + 1 => by
    have Xi := cq_stand X cA cy N K i
    obtain ⟨f1, f2, -⟩ := cq_f_ok T cA cy N K i
    have hl : T.heap.size < (cq_f T cA cy N K i).heap.size := by omega
    have h := (Xi.pushed (cq_r cy K)).stored (by rw [State.heap_pushCell_of_lt (h := hl)]; exact f2) i (.ref (T.heap.size + 1 + i))
    rw [show (cq_r cy K).slots.size = K from cq_sz .., cq_o_s] at h
    rw [show (locs ++ (List.range (i + 1)).map fun j => (⟨T.heap.size, j⟩ : Loc)) = (locs ++ (List.range i).map fun j => (⟨T.heap.size, j⟩ : Loc)) ++ [⟨T.heap.size, i⟩] by simp [List.range_succ, List.append_assoc], show slots + N + (i + 1) * K = slots + N + i * K + K by rw [Nat.succ_mul]; omega]
    exact h
theorem cq_mna {T : State} (X : Stand p l e R s m args below meth c T locs cells slots) (hexec : p.tables.exec = Jvm.exec) {own : String} {index : Nat} (hown : s.vm.findClass own = some m.cls) (hclink : (Cond.classLink own index "[[I").before args s = true) (hover : cq_AO s) (harr : (Cond.arrayClass .int).before args s = true)
    {g : JFrame} (hg : g.method = m) (hdg : decode c.code g.pc = .ok (.multianewarray index 2, 4)) {n k : Int32} {rest : List Value} (hstack : g.stack = .int k :: .int n :: rest) (hn : ¬ n < 0) (hk : ¬ k < 0) (hb1 : n.toNatClampNeg * 4 ≤ 536870912) (hb2 : k.toNatClampNeg * 4 ≤ 536870912) (hcells : cells + (1 + n.toNatClampNeg) ≤ R.cells) (hslots : slots + (n.toNatClampNeg + n.toNatClampNeg * k.toNatClampNeg) ≤ R.slots) :
    ∃ (vm₁ : Vm) (cA cy : ClassId), s.vm.findClass "[[I" = some cA ∧ s.vm.findClass "[I" = some cy ∧ (∃ (k0 : Class) (c0 : ClassId), s.vm.classes[cA]? = some k0 ∧ k0.kind = .array c0 (.array .int)) ∧ (∃ (k0 : Class) (c0 : ClassId), s.vm.classes[cy]? = some k0 ∧ k0.kind = .array c0 .int) ∧
      Stand p l e R s m args below meth c (cq_f (T.setVm vm₁) cA cy n.toNatClampNeg k.toNatClampNeg n.toNatClampNeg) locs (cells + 1 + n.toNatClampNeg) (slots + n.toNatClampNeg + n.toNatClampNeg * k.toNatClampNeg) ∧
      ∀ target, Steps p.tables e below ((cq_f (T.setVm vm₁) cA cy n.toNatClampNeg k.toNatClampNeg n.toNatClampNeg).setTop { g with pc := g.pc + 4, stack := .ref T.heap.size :: rest }) target → Steps p.tables e below (T.setTop g) target := by
  subst hg
  obtain ⟨comp, cA, kA, hcomp, hkA, hkindA, hnameA⟩ := hover
  obtain ⟨comp', kC, cc, hcomp', hkC, hkindC⟩ := Cond.arrayClass_spec harr
  cases Option.some.inj (hcomp'.symm.trans hcomp)
  obtain ⟨c0, hfc0, hcl⟩ := Cond.classLink_spec hown hclink e.platform (by rw [X.admits.platform])
  cases Option.some.inj (hnameA.symm.trans hfc0)
  obtain ⟨hg₁, hwarm₁, hready₁⟩ := State.classEntry (e := e) X.warmed hcl
  generalize T.vm.noted g.method.cls index (.cls cA) = vm₁ at hg₁ hwarm₁ hready₁
  obtain ⟨kA₁, hkA₁, heA⟩ := hwarm₁.alike.2.2 _ _ hkA
  obtain ⟨kC₁, hkC₁, heC⟩ := hwarm₁.alike.2.2 _ _ hkC
  have X₁ := X.noted hwarm₁
  obtain ⟨hr1, hr2⟩ := X.roomAbove hcells hslots
  have XF := cq_stand X₁ cA comp n.toNatClampNeg k.toNatClampNeg n.toNatClampNeg
  refine ⟨vm₁, cA, comp, hnameA, hcomp, ⟨kA, comp, hkA, hkindA⟩, ⟨kC, cc, hkC, hkindC⟩, XF.dropFresh (fun x hx => ?_), fun target hrest => ?_⟩
  · obtain ⟨j, -, rfl⟩ := List.mem_map.mp hx
    exact X.heapGrown
  · jvm_step X.here [hexec, hdg]
    simp only [multianewarray.sem, wp_bind', W.resolveClassAt_links (State.method?_setTop g X.here.top) hg₁]
    rw [W.popN, if_neg (by decide)]
    refine ⟨g, State.topJava?_setTop' (s := T.setVm vm₁) g X.here.top, [.int n, .int k], rest, rfl, hstack, ?_⟩
    simp only [List.mapM_cons, List.mapM_nil, wp_bind', wp_pure']
    refine cq_make2 (k := kA₁) (kc := kC₁) (comp := comp) (cc := cc) hkA₁ (by rw [heA]; exact hkindA) hkC₁ (by rw [heC]; exact hkindC) hn hk (by rw [Launch.admits_arrayLengthLimit X.admits]; omega) (by rw [Launch.admits_maxHeapBytes X.admits]; show ¬ n.toNatClampNeg * 4 > 536870912; omega) (by rw [Launch.admits_arrayLengthLimit X.admits]; omega) (by rw [Launch.admits_maxHeapBytes X.admits]; show ¬ k.toNatClampNeg * 4 > 536870912; omega) (by show T.heap.size + 1 + _ ≤ _; omega) (by show T.slotsUsed + _ + _ ≤ _; omega) (fun d' acts' => ?_)
    rw [show ((T.setTop g).setVm vm₁).setTop { g with stack := rest } = (T.setVm vm₁).setTop { g with stack := rest } by
      show ((T.setVm vm₁).setTop g).setTop _ = _
      rw [State.setTop_setTop], cq_f_top]
    simp only [wp_bind', W.mark, W.pushRef, State.topJava?_setTop' _ XF.here.top, Option.some.injEq, exists_eq_left', State.setTop_setTop, State.heap_setTop]
    intro acts
    simp [jvm, XF.here.top]
    exact hrest
def ci_B (q N K : Nat) (cA cy : ClassId) : va_W := (q, .inl (cA, N, .inr (.inr (.inr (.inr (fun i => some (q + 1 + i))))))) :: (List.range N).map (fun i => (q + 1 + i, .inl (cy, K, .inl (fun _ => 0))))
theorem ci_mna {cl : List vw_C} {ws : va_W} {rest : List Value} (hexec : p.tables.exec = Jvm.exec) (hb : c.code = cc) {own : String} {index : Nat} (hown : s.vm.findClass own = some m.cls) (hclink : (Cond.classLink own index "[[I").before args s = true) (hover : cq_AO s) (harr : (Cond.arrayClass .int).before args s = true)
    (hK : va_K D cl tys s) (hP : va_P D cl ws H) (hD : va_D A ws) (hS : va_S A H0 H locs) (hA : ∀ q, H0.size ≤ q → A q) {n k : Int32} {N' K' : Nat} (hn : ¬ n < 0) (hk : ¬ k < 0) (hN : n.toNatClampNeg = N') (hM : k.toNatClampNeg = K')
    (hb1 : N' * 4 ≤ 536870912) (hb2 : K' * 4 ≤ 536870912) (hcells : cells + (1 + N') ≤ R.cells) (hslots : slots + (N' + N' * K') ≤ R.slots) (hdg : decode cc pc = .ok (.multianewarray index 2, 4))
    (kk : ∀ (q : Nat) (cA cy : ClassId) (H1 : Heap), va_K D cl (tys ++ [(cA, .array .int), (cy, .int)]) s → va_P D cl (ws ++ ci_B q N' K' cA cy) H1 → va_D A (ws ++ ci_B q N' K' cA cy) → va_S A H0 H1 locs →
      W p l e R s m args below meth c H1 locs (cells + 1 + N') (slots + N' + N' * K') Q (F0 m (pc + 4) ls (.ref q :: rest))) : W p l e R s m args below meth c H locs cells slots Q (F0 m pc ls (.int k :: .int n :: rest)) := by
  subst hN
  subst hM
  intro T hT Xs
  obtain ⟨vm₁, cA, cy, fA, fC, hO, hI, X', step⟩ := cq_mna Xs hexec hown hclink hover harr (g := F0 m pc ls (.int k :: .int n :: rest)) rfl (by rw [hb]; exact hdg) rfl hn hk hb1 hb2 hcells hslots
  have hTh : (T.setVm vm₁).heap = H := hT
  obtain ⟨f1, f2, -, -, hold, hrow⟩ := cq_f_ok (T.setVm vm₁) cA cy n.toNatClampNeg k.toNatClampNeg n.toNatClampNeg
  rw [hTh] at f1 f2 hold hrow
  generalize cq_f (T.setVm vm₁) cA cy n.toNatClampNeg k.toNatClampNeg n.toNatClampNeg = F at f1 f2 hold hrow X' step
  have hBl : ∀ (k9 : Nat) (q : Nat × va_E), (ci_B H.size n.toNatClampNeg k.toNatClampNeg cA cy)[k9]? = some q → q.1 = H.size + k9 ∧ va_at D cl q F.heap := by
    intro k9 q hk9
    cases k9 with
    | zero =>
      cases hk9
      refine ⟨rfl, ?_⟩
      show F.heap[H.size]? = some (vp_cell _ _)
      rw [f2, vp_cell_q]
      exact congrArg some (cj_arr (fun j hj => if_pos hj))
    | succ j =>
      have hk9 : ((List.range n.toNatClampNeg).map (fun i => (H.size + 1 + i, (Sum.inl (cy, k.toNatClampNeg, .inl (fun _ => 0)) : va_E))))[j]? = some q := hk9
      have hj : j < n.toNatClampNeg := by
        have := (List.getElem?_eq_some_iff.mp hk9).1
        rwa [List.length_map, List.length_range] at this
      rw [List.getElem?_map, List.getElem?_range hj] at hk9
      cases hk9
      refine ⟨by show H.size + 1 + j = H.size + (j + 1); omega, ?_⟩
      show F.heap[H.size + 1 + j]? = some (vp_cell _ _)
      rw [hrow j hj]
      rfl
  obtain ⟨hP1, hD1⟩ := ci_fresh hP hD hold hBl hA hS.1
  have hK2 : va_K D cl (tys ++ [(cA, .array .int), (cy, .int)]) s := hK.app ⟨hK.1, fun k9 x hx => by
    match k9, hx with
    | 0, hx =>
      cases hx
      refine ⟨fun N9 z9 => ?_, fA⟩
      obtain ⟨k9, cm9, hk9, hkk9⟩ := hO
      exact ⟨(fun q hq => by cases hq), k9, hk9, cm9, hkk9⟩
    | 1, hx =>
      cases hx
      refine ⟨fun N9 z9 => ?_, fC⟩
      obtain ⟨k9, cm9, hk9, hkk9⟩ := hI
      exact ⟨(fun q hq => by cases hq), k9, hk9, cm9, hkk9⟩
    | j + 2, hx => cases hx⟩
  obtain ⟨t, a1, b1⟩ := kk H.size cA cy F.heap hK2 hP1 hD1 ⟨by rw [f1]; have := hS.1; omega, fun x h1 h2 => (hold x (Nat.lt_of_lt_of_le h1 hS.1)).trans (hS.2.1 x h1 h2), hS.2.2⟩ F rfl X'
  refine ⟨t, step t ?_, b1⟩
  have e : T.heap.size = H.size := by rw [hT]
  rw [e]
  exact a1
theorem ci_B_s {q N K : Nat} {cA cy : ClassId} {j : Nat} (h : j < N) : (ci_B q N K cA cy)[j + 1]? = some (q + 1 + j, .inl (cy, K, .inl (fun _ => 0))) := by
  unfold ci_B
  rw [List.getElem?_cons_succ]
  simp [h]
theorem ci_B_len {q N K : Nat} {cA cy : ClassId} : (ci_B q N K cA cy).length = N + 1 := by simp [ci_B]
theorem ci_sh_of {Λ : g_Lay} {n : Nat} (h : (List.range (n + 1)).all (fun i => i == 0 || (match Λ.2 i with | .inl _ => false | .inr (ty, N, rf) => decide (ty < 4) || (List.range N).all (fun j => decide (rf j ≤ n)))) = true) : ci_sh Λ n := by
  intro i h1 h2
  have h3 := List.all_eq_true.mp h i (List.mem_range.mpr (by omega))
  have h0 : (i == 0) = false := by simp; omega
  rw [h0, Bool.false_or] at h3
  cases hq : Λ.2 i with
  | inl x => rw [hq] at h3; exact absurd h3 (by simp)
  | inr x =>
    obtain ⟨ty, N, rf⟩ := x
    rw [hq] at h3
    refine ⟨ty, N, rf, rfl, ?_⟩
    rcases Bool.or_eq_true_iff.mp h3 with h4 | h4
    · exact .inl (by simpa using h4)
    · exact .inr (fun j hj => by simpa using List.all_eq_true.mp h4 j (List.mem_range.mpr hj))
/-- as ci_step1, for a layout with rows of rows -/
theorem ci_step3 (hx : p.tables.exec = Jvm.exec) (hb : c.code = cc) (hts : ∀ w ∈ g_gw, w.before args s = true) {ci : Nat} {C own ref : String} {T : u_T} {N : Nat} {ty0 : Nat → FieldType} (cf : g_CF ci C T N ty0) (hown : s.vm.findClass own = some m.cls) (hini : meth.name = "<init>") (hA : ∀ q, H0.size ≤ q → A q)
    {Λ : g_Lay} {F : List (Nat × Nat)} {ad ca : Nat → Nat} {n tn N' h0 : Nat} {rf : Nat → Nat} (hlen : F.length = N) (hF : F.all (fun p => decide (p.1 ≤ 2)) = true) (hF1 : ci_one F) (hsh : ci_sh Λ n) (hs : Λ.2 (n + 1) = .inr (tn, N', rf)) (ht4 : tn < 4)
    (e0 : ad 0 = h0) (hT : ci_ty Λ ca tys n) (hK : va_K D g_cl tys s) (hP : va_P D g_cl (ci_w Λ g_mu0 ci F ad ca n) H) (hD : va_D A (ci_w Λ g_mu0 ci F ad ca n)) (hS : va_S A H0 H locs)
    {atype : ArrayType} {ty : FieldType} {nn : Int32} (haw : Cond.arrayClass (newarray.typeOf atype) ∈ g_gw) (htt : newarray.typeOf atype = ty) (hty : g_tyOf tn = ty) (ha : ∀ (ad : Nat → Nat) (cA : ClassId), vp_cell cA (g_ar ad g_mu0 (n + 1) tn N' rf) = arrV cA N' (fun _ => defaultValue ty)) (hn0 : ¬ nn < 0) (hN : nn.toNatClampNeg = N') (hby : N' * componentBytes ty ≤ 536870912) (hce : cells + 1 ≤ R.cells) (hsl : slots + N' ≤ R.slots) (hd1 : decode cc pc = .ok (.newarray atype, 2))
    {index : Nat} (k : Nat) (hk : k < N) (hFk : F[k]? = some (2, n + 1)) (hlink : Cond.fieldLink own index ref (T k).2.1 (T k).2.2.1 ∈ g_gw) (hsame : ∀ x, s.fieldFound? (T k).1 (T k).2.1 (T k).2.2.1 = some x → s.fieldFound? ref (T k).2.1 (T k).2.2.1 = some x) (hfin : (T k).2.2.2 = true) (hdecl : (T k).1 = own) (hn : ∀ q : Nat, narrow (ty0 k) (.ref q) = .ref q) (hfit : ∀ q : Nat, fits (ty0 k) (.ref q) = true) (hd2 : decode cc (pc + 2) = .ok (.putfield index, 3))
    (kk : ∀ (ad' ca' : Nat → Nat) (tys' : List (ClassId × FieldType)) (H1 : Heap) (locs1 : List Loc), ad' 0 = h0 → ci_ty Λ ca' tys' (n + 1) → va_K D g_cl tys' s → va_P D g_cl (ci_w Λ g_mu0 ci F ad' ca' (n + 1)) H1 → va_D A (ci_w Λ g_mu0 ci F ad' ca' (n + 1)) → va_S A H0 H1 locs1 → W p l e R s m args below meth c H1 locs1 (cells + 1) (slots + N') Q (F0 m (pc + 5) ls [])) :
    W p l e R s m args below meth c H locs cells slots Q (F0 m pc ls [.int nn, .ref h0]) := by
  subst e0
  exact ci_step hx hb hts cf hown hini hA hlen hF hsh hs ht4 hT hK hP hD hS haw htt hty (ha ad) hn0 hN hby hce hsl hd1 k hk hFk (ci_one_u hF1 hFk) hlink hsame hfin hdecl hn hfit hd2 (fun ad' ca' tys' H1 locs1 h => kk ad' ca' tys' H1 locs1 (h 0 (by omega)))
/-- a new row of rows, put into its field -/
theorem ci_step2 (hx : p.tables.exec = Jvm.exec) (hb : c.code = cc) (hts : ∀ w ∈ g_gw, w.before args s = true) {ci : Nat} {C own ref : String} {T : u_T} {N : Nat} {ty0 : Nat → FieldType} (cf : g_CF ci C T N ty0) (hown : s.vm.findClass own = some m.cls) (hini : meth.name = "<init>") (hA : ∀ q, H0.size ≤ q → A q)
    {Λ : g_Lay} {F : List (Nat × Nat)} {ad ca : Nat → Nat} {n N' K' h0 : Nat} {rf : Nat → Nat} (hlen : F.length = N) (hF : F.all (fun p => decide (p.1 ≤ 2)) = true) (hFu : F.all (fun p => decide (p.1 = 2 → p.2 ≤ n ∨ p.2 = n + 1 ∨ n + 1 + N' < p.2)) = true) (hF1 : ci_one F) (hsh : ci_sh Λ n) (hs : Λ.2 (n + 1) = .inr (4, N', rf)) (hrf : ∀ j, j < N' → rf j = n + 2 + j) (hrs : ∀ j, j < N' → Λ.2 (n + 2 + j) = .inr (0, K', g_zf))
    (e0 : ad 0 = h0) (hT : ci_ty Λ ca tys n) (hK : va_K D g_cl tys s) (hP : va_P D g_cl (ci_w Λ g_mu0 ci F ad ca n) H) (hD : va_D A (ci_w Λ g_mu0 ci F ad ca n)) (hS : va_S A H0 H locs)
    {iC : Nat} (hclink : Cond.classLink own iC "[[I" ∈ g_gw) (hover : cq_AO s) {nn kn : Int32} (hn0 : ¬ nn < 0) (hk0 : ¬ kn < 0) (hN : nn.toNatClampNeg = N') (hKn : kn.toNatClampNeg = K') (hby : N' * 4 ≤ 536870912) (hby2 : K' * 4 ≤ 536870912) (hce : cells + (1 + N') ≤ R.cells) (hsl : slots + (N' + N' * K') ≤ R.slots) (hd1 : decode cc pc = .ok (.multianewarray iC 2, 4))
    {index : Nat} (k : Nat) (hk : k < N) (hFk : F[k]? = some (2, n + 1)) (hlink : Cond.fieldLink own index ref (T k).2.1 (T k).2.2.1 ∈ g_gw) (hsame : ∀ x, s.fieldFound? (T k).1 (T k).2.1 (T k).2.2.1 = some x → s.fieldFound? ref (T k).2.1 (T k).2.2.1 = some x) (hfin : (T k).2.2.2 = true) (hdecl : (T k).1 = own) (hn : ∀ q : Nat, narrow (ty0 k) (.ref q) = .ref q) (hfit : ∀ q : Nat, fits (ty0 k) (.ref q) = true) (hd2 : decode cc (pc + 4) = .ok (.putfield index, 3))
    (kk : ∀ (ad' ca' : Nat → Nat) (tys' : List (ClassId × FieldType)) (H1 : Heap) (locs1 : List Loc), ad' 0 = h0 → ci_ty Λ ca' tys' (n + 1 + N') → va_K D g_cl tys' s → va_P D g_cl (ci_w Λ g_mu0 ci F ad' ca' (n + 1 + N')) H1 → va_D A (ci_w Λ g_mu0 ci F ad' ca' (n + 1 + N')) → va_S A H0 H1 locs1 → W p l e R s m args below meth c H1 locs1 (cells + 1 + N') (slots + N' + N' * K') Q (F0 m (pc + 7) ls [])) :
    W p l e R s m args below meth c H locs cells slots Q (F0 m pc ls [.int kn, .int nn, .ref h0]) := by
  subst e0
  refine ci_mna hx hb hown (hts _ hclink) hover (hts _ g_awI) hK hP hD hS hA hn0 hk0 hN hKn hby hby2 hce hsl hd1 (fun q cA cy H1 hK hP hD hS => ?_)
  refine va_putF (D := D) (ci := ci) (v := .ref q) (ty := ty0 k) (C := C) (T := T) (N := N) hx hb hts cf.2.1 ty0 cf.2.2.1 cf.2.2.2 hown hK hP hD hS 0 rfl cf.1 k hk (hts _ hlink) hsame hfin hini hdecl (cf.2.2.1 k hk) (hn q) (hfit q) (by rw [ci_f_len]; omega) hd2 (fun H locs hP hD hS => ?_)
  have eq : cj_e ((ci_w Λ g_mu0 ci F ad ca n ++ ci_B q N' K' cA cy).set 0 (ad 0, .inr (ci, (ci_f ad g_mu0 F n).set k (.ref q)))) (ci_w Λ g_mu0 ci F (fun i => if n < i then q + (i - (n + 1)) else ad i) (fun i => if i = n + 1 then cA else if n + 1 < i then cy else ca i) (n + 1 + N')) := by
    refine ⟨by rw [List.length_set, List.length_append, ci_w_len, ci_w_len, ci_B_len]; omega, fun j x x' h1 h2 => ?_⟩
    cases j with
    | zero =>
      rw [List.getElem?_set_self (by rw [List.length_append, ci_w_len]; omega)] at h1
      have h2 : some ((if n < 0 then q + (0 - (n + 1)) else ad 0), (Sum.inr (ci, ci_f (fun i => if n < i then q + (i - (n + 1)) else ad i) g_mu0 F (n + 1 + N')) : va_E)) = some x' := h2
      cases h1
      cases h2
      refine ⟨?_, fun D H h => ?_⟩
      · show ad 0 = (if n < 0 then q + (0 - (n + 1)) else ad 0)
        rw [if_neg (by omega)]
      · rw [ci_f_set (ad' := fun i => if n < i then q + (i - (n + 1)) else ad i) (m := n + 1 + N') hF hFk (fun j p hj hp e => by
          have h5 := ci_one_u hF1 hFk j p hj hp e
          have h6 := List.all_eq_true.mp hFu p (List.mem_of_getElem? hp)
          have h6 : p.1 = 2 → p.2 ≤ n ∨ p.2 = n + 1 ∨ n + 1 + N' < p.2 := of_decide_eq_true h6
          have h6 := h6 e
          omega) (by omega) (by show (if n < n + 1 then q + (n + 1 - (n + 1)) else ad (n + 1)) = q; rw [if_pos (by omega)]; omega) (fun i hi => if_neg (by omega))] at h
        rw [if_neg (by omega)]
        exact h
    | succ j =>
      rw [List.getElem?_set_ne (by omega)] at h1
      have jl : j < n + 1 + N' := by
        have := (List.getElem?_eq_some_iff.mp h2).1
        rw [ci_w_len] at this
        omega
      rw [ci_w_s jl] at h2
      cases h2
      by_cases e : j < n
      · rw [List.getElem?_append_left (by rw [ci_w_len]; omega), ci_w_s e] at h1
        cases h1
        obtain ⟨t1, N1, r1, s1, s2⟩ := hsh (j + 1) (by omega) (by omega)
        refine ⟨(if_neg (by omega)).symm, fun D H h => ?_⟩
        have h := cj_ent (ad' := fun i => if n < i then q + (i - (n + 1)) else ad i) (ca' := fun i => if i = n + 1 then cA else if n + 1 < i then cy else ca i) s1 (by show (if j + 1 = n + 1 then cA else if n + 1 < j + 1 then cy else ca (j + 1)) = _; rw [if_neg (by omega), if_neg (by omega)]) (s2.imp id (fun z j hj => if_neg (by have := z j hj; omega))) _ D H h
        show va_at D g_cl ((if n < j + 1 then q + (j + 1 - (n + 1)) else ad (j + 1)), _) H
        rw [if_neg (by omega)]; exact h
      · rw [List.getElem?_append_right (by rw [ci_w_len]; omega), ci_w_len] at h1
        by_cases e2 : j = n
        · subst e2
          rw [Nat.sub_self] at h1
          cases h1
          refine ⟨by show q = (if j < j + 1 then q + (j + 1 - (j + 1)) else ad (j + 1)); rw [if_pos (by omega)]; omega, fun D H h => ?_⟩
          rw [g_ent_a hs]
          show va_at D g_cl ((if j < j + 1 then q + (j + 1 - (j + 1)) else ad (j + 1)), .inl ((if j + 1 = j + 1 then cA else if j + 1 < j + 1 then cy else ca (j + 1)), g_ar (fun i => if j < i then q + (i - (j + 1)) else ad i) g_mu0 (j + 1) 4 N' rf)) H
          rw [if_pos (by omega), if_pos rfl, show q + (j + 1 - (j + 1)) = q by omega]
          have h : H[q]? = some (vp_cell cA (N', .inr (.inr (.inr (.inr (fun i => some (q + 1 + i))))))) := h
          show H[q]? = some (vp_cell cA _)
          rw [h]
          refine congrArg some (cj_arr (f := fun i => va_rf (some (q + 1 + i))) (g := fun i => va_rf (some ((fun i => if j < i then q + (i - (j + 1)) else ad i) (rf i)))) (fun i hi => congrArg (fun z => va_rf (some z)) ?_))
          show q + 1 + i = (if j < rf i then q + (rf i - (j + 1)) else ad (rf i))
          rw [hrf i hi, if_pos (by omega)]
          omega
        · obtain ⟨r, rfl⟩ : ∃ r, j = n + 1 + r := ⟨j - (n + 1), by omega⟩
          rw [show n + 1 + r + 1 - (n + 1) = r + 1 by omega, ci_B_s (by omega)] at h1
          cases h1
          refine ⟨by show q + 1 + r = (if n < n + 1 + r + 1 then q + (n + 1 + r + 1 - (n + 1)) else ad (n + 1 + r + 1)); rw [if_pos (by omega)]; omega, fun D H h => ?_⟩
          have h8 := hrs r (by omega)
          rw [show n + 2 + r = n + 1 + r + 1 by omega] at h8
          rw [g_ent_a h8]
          show va_at D g_cl ((if n < n + 1 + r + 1 then q + (n + 1 + r + 1 - (n + 1)) else ad (n + 1 + r + 1)), .inl ((if n + 1 + r + 1 = n + 1 then cA else if n + 1 < n + 1 + r + 1 then cy else ca (n + 1 + r + 1)), g_ar _ g_mu0 (n + 1 + r + 1) 0 K' g_zf)) H
          rw [if_pos (by omega), if_neg (by omega), if_pos (by omega), show q + (n + 1 + r + 1 - (n + 1)) = q + 1 + r by omega]
          exact h
  refine kk _ _ _ H locs (if_neg (by omega)) (fun i h1 h2 ty' N2 rf2 h3 => ?_) hK (cj_P eq hP) (cj_D eq hD) hS
  by_cases e : i ≤ n
  · obtain ⟨t0, ht0⟩ := hT i h1 e ty' N2 rf2 h3
    refine ⟨t0, ?_⟩
    rw [List.getElem?_append_left (List.getElem?_eq_some_iff.mp ht0).1, if_neg (by omega), if_neg (by omega)]; exact ht0
  · by_cases e2 : i = n + 1
    · subst e2
      rw [hs] at h3
      cases h3
      refine ⟨tys.length, ?_⟩
      rw [List.getElem?_append_right (Nat.le_refl _), Nat.sub_self, if_pos rfl]; rfl
    · have h8 := hrs (i - (n + 2)) (by omega)
      rw [show n + 2 + (i - (n + 2)) = i by omega] at h8
      rw [h8] at h3
      cases h3
      refine ⟨tys.length + 1, ?_⟩
      rw [List.getElem?_append_right (by omega), show tys.length + 1 - tys.length = 1 by omega, if_neg e2, if_pos (by omega)]; rfl
end CiRows
def g_InitA (Λ : g_Lay) (μ : g_St) (o0 : va_E) (y : MethodName) (cc : ByteArray) (nL mc ms : Nat) : Prop :=
  ∀ (l : Launch) (D : va_G) (sz h0 : Nat), Met l y (g_ws y cc nL none) { frames := 20, cells := mc, slots := ms, locals := 2000 }
    (fun v U => v = #[Value.ref h0] ∧ U.heap.size = sz ∧ va_P D g_cl [(h0, o0)] U.heap ∧ va_K D g_cl [] U ∧ va_D (fun _ => True) [(h0, o0)] ∧ cq_AO U)
    (fun _ st oc t => oc = .returned none ∧ (∃ (ad ca : Nat → Nat) (tys : List (ClassId × FieldType)), ad 0 = h0 ∧ g_Ty Λ tys ca ∧ va_K D g_cl tys t ∧ va_P D g_cl (g_wW ad ca Λ μ) t.heap ∧ va_D (va_A [(h0, o0)] sz) (g_wW ad ca Λ μ)) ∧ va_F (va_A [(h0, o0)] sz) st t) mc ms (va_A [(h0, o0)] sz)
