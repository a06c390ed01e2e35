/-! Constructors: a world that grows cell by cell; one that grows by a callee's block -/
def g_mu0 : g_St := (fun _ _ => 0, fun _ _ => 0, fun _ => 0)
def cj_e (w w' : va_W) : Prop := w.length = w'.length ∧ ∀ (k : Nat) (q q' : Nat × va_E), w[k]? = some q → w'[k]? = some q' → q.1 = q'.1 ∧ ∀ (D : va_G) (H : Heap), va_at D g_cl q H → va_at D g_cl q' H
theorem cj_P {w w' : va_W} {D : va_G} {H : Heap} (h : cj_e w w') (hP : va_P D g_cl w H) : va_P D g_cl w' H := by
  intro k q' hk
  have hl := (List.getElem?_eq_some_iff.mp hk).1
  obtain ⟨q, hq⟩ : ∃ q, w[k]? = some q := ⟨_, List.getElem?_eq_getElem (by rw [h.1]; exact hl)⟩
  exact (h.2 k q q' hq hk).2 D H (hP k q hq)
theorem cj_D {w w' : va_W} {A : Nat → Prop} (h : cj_e w w') (hD : va_D A w) : va_D A w' := by
  have back : ∀ (k : Nat) (q' : Nat × va_E), w'[k]? = some q' → ∃ q, w[k]? = some q ∧ q.1 = q'.1 := by
    intro k q' hk
    have hl := (List.getElem?_eq_some_iff.mp hk).1
    obtain ⟨q, hq⟩ : ∃ q, w[k]? = some q := ⟨_, List.getElem?_eq_getElem (by rw [h.1]; exact hl)⟩
    exact ⟨q, hq, (h.2 k q q' hq hk).1⟩
  refine ⟨fun i j p q hp hq e => ?_, fun k q hk => ?_⟩
  · obtain ⟨p0, p1, p2⟩ := back i p hp
    obtain ⟨q0, q1, q2⟩ := back j q hq
    exact hD.1 i j p0 q0 p1 q1 (by rw [p2, q2, e])
  · obtain ⟨q0, q1, q2⟩ := back k q hk
    rw [← q2]; exact hD.2 k q0 q1
theorem cj_e_refl {w : va_W} : cj_e w w := ⟨rfl, fun k q q' h1 h2 => by rw [h1] at h2; cases h2; exact ⟨rfl, fun _ _ h => h⟩⟩
theorem cj_arr {cA : ClassId} {N : Nat} {f g : Nat → Value} (h : ∀ j, j < N → f j = g j) : arrV cA N f = arrV cA N g := by
  unfold arrV
  congr 1
  exact congrArg _ (funext fun j => h j.1 j.2)
/-- an entry, when addresses that it doesn't use change -/
theorem cj_ent {Λ : g_Lay} {μ : g_St} {id ty N : Nat} {rf : Nat → Nat} {ad ad' ca ca' : Nat → Nat} (hs : Λ.2 id = .inr (ty, N, rf)) (hc : ca' id = ca id) (h : ty < 4 ∨ ∀ j, j < N → ad' (rf j) = ad (rf j)) (a : Nat) (D : va_G) (H : Heap) (x : va_at D g_cl (a, g_ent ad ca Λ μ id) H) : va_at D g_cl (a, g_ent ad' ca' Λ μ id) H := by
  rw [g_ent_a hs] at x ⊢
  have x : H[a]? = some (vp_cell (ca id) (g_ar ad μ id ty N rf)) := x
  show H[a]? = some (vp_cell (ca' id) (g_ar ad' μ id ty N rf))
  rw [x, hc]
  congr 1
  match ty, h with
  | 0, _ => rfl
  | 1, _ => rfl
  | 2, _ => rfl
  | 3, _ => rfl
  | 4, h =>
    have h : ∀ j, j < N → ad' (rf j) = ad (rf j) := h.resolve_left (by omega)
    exact cj_arr (f := fun j => va_rf (some (ad (rf j)))) (g := fun j => va_rf (some (ad' (rf j)))) (fun j hj => congrArg (fun z => va_rf (some z)) (h j hj).symm)
  | 5, h =>
    have h : ∀ j, j < N → ad' (rf j) = ad (rf j) := h.resolve_left (by omega)
    exact cj_arr (f := fun j => va_rf (some (ad (rf j)))) (g := fun j => va_rf (some (ad' (rf j)))) (fun j hj => congrArg (fun z => va_rf (some z)) (h j hj).symm)
  | k + 6, _ => rfl
def ci_f (ad : Nat → Nat) (μ : g_St) (F : List (Nat × Nat)) (n : Nat) : List Value := F.mapIdx (fun k q => if q.1 = 2 ∧ n < q.2 then Value.null else g_fv ad μ 0 k q)
def ci_w (Λ : g_Lay) (μ : g_St) (ci : Nat) (F : List (Nat × Nat)) (ad ca : Nat → Nat) (n : Nat) : va_W := (ad 0, .inr (ci, ci_f ad μ F n)) :: (List.range n).map (fun i => (ad (i + 1), g_ent ad ca Λ μ (i + 1)))
theorem ci_w_s {Λ : g_Lay} {μ : g_St} {ci : Nat} {F : List (Nat × Nat)} {ad ca : Nat → Nat} {n i : Nat} (h : i < n) : (ci_w Λ μ ci F ad ca n)[i + 1]? = some (ad (i + 1), g_ent ad ca Λ μ (i + 1)) := by
  unfold ci_w
  rw [List.getElem?_cons_succ]
  simp [h]
theorem ci_w_len {Λ : g_Lay} {μ : g_St} {ci : Nat} {F : List (Nat × Nat)} {ad ca : Nat → Nat} {n : Nat} : (ci_w Λ μ ci F ad ca n).length = n + 1 := by simp [ci_w]
theorem ci_f_len {ad : Nat → Nat} {μ : g_St} {F : List (Nat × Nat)} {n : Nat} : (ci_f ad μ F n).length = F.length := by simp [ci_f]
/-- a shape's cells are there -/
def ci_sh (Λ : g_Lay) (n : Nat) : Prop := ∀ i, 1 ≤ i → i ≤ n → ∃ ty N rf, Λ.2 i = .inr (ty, N, rf) ∧ (ty < 4 ∨ ∀ j, j < N → rf j ≤ n)
/-- one cell more, its field set -/
theorem ci_f_set {ad ad' : Nat → Nat} {μ : g_St} {F : List (Nat × Nat)} {n m k q : Nat} (hF : F.all (fun p => decide (p.1 ≤ 2)) = true) (hk : F[k]? = some (2, n + 1)) (hu : ∀ j p, j ≠ k → F[j]? = some p → p.1 = 2 → p.2 ≤ n ∨ m < p.2) (hm : n + 1 ≤ m) (hq : ad' (n + 1) = q) (ho : ∀ i, i ≤ n → ad' i = ad i) : (ci_f ad μ F n).set k (.ref q) = ci_f ad' μ F m := by
  apply List.ext_getElem?
  intro j
  by_cases hj : j = k
  · subst hj
    have hl : j < F.length := (List.getElem?_eq_some_iff.mp hk).1
    rw [List.getElem?_set_self (by rw [ci_f_len]; exact hl)]
    unfold ci_f
    rw [List.getElem?_mapIdx, hk]
    show some (Value.ref q) = some (if 2 = 2 ∧ m < n + 1 then Value.null else Value.ref (ad' (n + 1)))
    rw [if_neg (by omega), hq]
  · rw [List.getElem?_set_ne (fun z => hj z.symm)]
    unfold ci_f
    rw [List.getElem?_mapIdx, List.getElem?_mapIdx]
    cases hp : F[j]? with
    | none => rfl
    | some p =>
      have h2 := List.all_eq_true.mp hF p (List.mem_of_getElem? hp)
      have h2 : p.1 ≤ 2 := by simpa using h2
      have h3 := hu j p hj hp
      show some (if p.1 = 2 ∧ n < p.2 then Value.null else g_fv ad μ 0 j p) = some (if p.1 = 2 ∧ m < p.2 then Value.null else g_fv ad' μ 0 j p)
      by_cases e : p.1 = 2
      · rcases h3 e with h4 | h4
        · rw [if_neg (by omega), if_neg (by omega)]
          unfold g_fv
          rw [e]
          show some (Value.ref (ad p.2)) = some (Value.ref (ad' p.2))
          rw [ho p.2 h4]
        · rw [if_pos ⟨e, by omega⟩, if_pos ⟨e, h4⟩]
      · rw [if_neg (fun z => e z.1), if_neg (fun z => e z.1)]
        unfold g_fv
        rcases (show p.1 = 0 ∨ p.1 = 1 by omega) with z | z <;> (rw [z]; first | done | rfl)
section CiStep
variable {p : Program} {l : Launch} {e : Env} {R : Room} {s : State} {m : MethodId} {args : Array Value} {below : List Frame} {meth : Method} {c : Code} {H : Heap} {locs : List Loc} {cells slots : Nat} {Q : State → Prop}
variable {cc : ByteArray} {pc : Nat} {ls : Array Slot} {D : va_G} {A : Nat → Prop} {tys : List (ClassId × FieldType)} {H0 : Heap}
def ci_ty (Λ : g_Lay) (ca : Nat → Nat) (tys : List (ClassId × FieldType)) (n : Nat) : Prop := ∀ i, 1 ≤ i → i ≤ n → ∀ ty N rf, Λ.2 i = .inr (ty, N, rf) → ∃ t0 : Nat, tys[t0]? = some (ca i, g_tyOf ty)
/-- a new row of numbers, put into its field -/
theorem ci_step (hx : p.tables.exec = Jvm.exec) (hb : c.code = cc) (hts : ∀ w ∈ g_gw, w.before args s = true) {ci : Nat} {C own ref : String} {T : u_T} {N : Nat} {ty0 : Nat → FieldType} (cf : g_CF ci C T N ty0) (hown : s.vm.findClass own = some m.cls) (hini : meth.name = "<init>") (hA : ∀ q, H0.size ≤ q → A q)
    {Λ : g_Lay} {μ : g_St} {F : List (Nat × Nat)} {ad ca : Nat → Nat} {n tn N' : Nat} {rf : Nat → Nat} (hlen : F.length = N) (hF : F.all (fun p => decide (p.1 ≤ 2)) = true) (hsh : ∀ i, 1 ≤ i → i ≤ n → ∃ ty N rf, Λ.2 i = .inr (ty, N, rf) ∧ (ty < 4 ∨ ∀ j, j < N → rf j ≤ n)) (hs : Λ.2 (n + 1) = .inr (tn, N', rf)) (ht4 : tn < 4)
    (hT : ci_ty Λ ca tys n) (hK : va_K D g_cl tys s) (hP : va_P D g_cl (ci_w Λ μ ci F ad ca n) H) (hD : va_D A (ci_w Λ μ ci F ad ca n)) (hS : va_S A H0 H locs)
    {atype : ArrayType} {ty : FieldType} {nn : Int32} (haw : Cond.arrayClass (newarray.typeOf atype) ∈ g_gw) (htt : newarray.typeOf atype = ty) (hty : g_tyOf tn = ty) (ha : ∀ cA : ClassId, vp_cell cA (g_ar ad μ (n + 1) tn N' rf) = arrV cA N' (fun _ => defaultValue ty)) (hn0 : ¬ nn < 0) (hN : nn.toNatClampNeg = N') (hby : N' * componentBytes ty ≤ 536870912) (hce : cells + 1 ≤ R.cells) (hsl : slots + N' ≤ R.slots) (hd1 : decode cc pc = .ok (.newarray atype, 2))
    {index : Nat} (k : Nat) (hk : k < N) (hFk : F[k]? = some (2, n + 1)) (hu : ∀ j p, j ≠ k → F[j]? = some p → p.1 = 2 → p.2 ≤ n ∨ n + 1 < p.2) (hlink : Cond.fieldLink own index ref (T k).2.1 (T k).2.2.1 ∈ g_gw) (hsame : ∀ x, s.fieldFound? (T k).1 (T k).2.1 (T k).2.2.1 = some x → s.fieldFound? ref (T k).2.1 (T k).2.2.1 = some x) (hfin : (T k).2.2.2 = true) (hdecl : (T k).1 = own) (hn : ∀ q : Nat, narrow (ty0 k) (.ref q) = .ref q) (hfit : ∀ q : Nat, fits (ty0 k) (.ref q) = true) (hd2 : decode cc (pc + 2) = .ok (.putfield index, 3))
    (kk : ∀ (ad' ca' : Nat → Nat) (tys' : List (ClassId × FieldType)) (H1 : Heap) (locs1 : List Loc), (∀ i, i ≠ n + 1 → ad' i = ad i) → ci_ty Λ ca' tys' (n + 1) → va_K D g_cl tys' s → va_P D g_cl (ci_w Λ μ ci F ad' ca' (n + 1)) H1 → va_D A (ci_w Λ μ ci F ad' ca' (n + 1)) → va_S A H0 H1 locs1 → W p l e R s m args below meth c H1 locs1 (cells + 1) (slots + N') Q (F0 m (pc + 5) ls [])) :
    W p l e R s m args below meth c H locs cells slots Q (F0 m pc ls [.int nn, .ref (ad 0)]) := by
  refine va_newa (a0 := g_ar ad μ (n + 1) tn N' rf) hx hb (hts _ haw) htt hK hP hD hS hA ha hn0 hN hby hce hsl hd1 (fun q cA H1 hK hP hD hS => ?_)
  refine va_putF (D := D) (ci := ci) (v := .ref q) (ty := ty0 k) (C := C) (T := T) (N := N) hx hb hts cf.2.1 ty0 cf.2.2.1 cf.2.2.2 hown hK hP hD hS 0 rfl cf.1 k hk (hts _ hlink) hsame hfin hini hdecl (cf.2.2.1 k hk) (hn q) (hfit q) (by rw [ci_f_len]; omega) hd2 (fun H locs hP hD hS => ?_)
  have eq : cj_e ((ci_w Λ μ ci F ad ca n ++ [((q, Sum.inl (cA, g_ar ad μ (n + 1) tn N' rf)) : Nat × va_E)]).set 0 (ad 0, .inr (ci, (ci_f ad μ F n).set k (.ref q)))) (ci_w Λ μ ci F (fun i => if i = n + 1 then q else ad i) (fun i => if i = n + 1 then cA else ca i) (n + 1)) := by
    refine ⟨by rw [List.length_set, List.length_append, ci_w_len, ci_w_len]; rfl, fun j x x' h1 h2 => ?_⟩
    cases j with
    | zero =>
      rw [List.getElem?_set_self (by rw [List.length_append, ci_w_len]; omega)] at h1
      have h2 : some ((if 0 = n + 1 then q else ad 0), (Sum.inr (ci, ci_f (fun i => if i = n + 1 then q else ad i) μ F (n + 1)) : va_E)) = some x' := h2
      cases h1
      cases h2
      refine ⟨?_, fun D H h => ?_⟩
      · show ad 0 = (if 0 = n + 1 then q else ad 0)
        rw [if_neg (by omega)]
      · rw [ci_f_set (ad' := fun i => if i = n + 1 then q else ad i) (m := n + 1) hF hFk hu (Nat.le_refl _) (if_pos rfl) (fun i hi => if_neg (by omega))] at h
        rw [if_neg (by omega)]
        exact h
    | succ j =>
      rw [List.getElem?_set_ne (by omega)] at h1
      have jl : j < n + 1 := by
        have := (List.getElem?_eq_some_iff.mp h2).1
        rw [ci_w_len] at this
        omega
      rw [ci_w_s jl] at h2
      cases h2
      by_cases e : j = n
      · subst e
        rw [List.getElem?_append_right (by rw [ci_w_len]; exact Nat.le_refl _), ci_w_len, Nat.sub_self] at h1
        cases h1
        refine ⟨(if_pos rfl).symm, fun D H h => ?_⟩
        rw [g_ent_a hs]
        show va_at D g_cl ((if j + 1 = j + 1 then q else ad (j + 1)), .inl ((if j + 1 = j + 1 then cA else ca (j + 1)), g_ar _ μ (j + 1) tn N' rf)) H
        rw [if_pos rfl, if_pos rfl]
        have : g_ar (fun i => if i = j + 1 then q else ad i) μ (j + 1) tn N' rf = g_ar ad μ (j + 1) tn N' rf := by
          match tn, ht4 with
          | 0, _ => rfl
          | 1, _ => rfl
          | 2, _ => rfl
          | 3, _ => rfl
        rw [this]; exact h
      · rw [List.getElem?_append_left (by rw [ci_w_len]; omega), ci_w_s (by omega)] at h1
        cases h1
        obtain ⟨t1, N1, r1, s1, s2⟩ := hsh (j + 1) (by omega) (by omega)
        refine ⟨(if_neg (by omega)).symm, fun D H h => ?_⟩
        have h := cj_ent (ad' := fun i => if i = n + 1 then q else ad i) (ca' := fun i => if i = n + 1 then cA else ca i) s1 (if_neg (by omega)) (s2.imp id (fun z j hj => if_neg (by have := z j hj; omega))) _ D H h
        show va_at D g_cl ((if j + 1 = n + 1 then q else ad (j + 1)), _) H
        rw [if_neg (by omega)]; exact h
  refine kk _ _ _ H locs (fun i hi => if_neg hi) (fun i h1 h2 ty' N2 rf2 h3 => ?_) hK (cj_P eq hP) (cj_D eq hD) hS
  by_cases e : i = n + 1
  · subst e
    rw [hs] at h3
    cases h3
    refine ⟨tys.length, ?_⟩
    rw [List.getElem?_append_right (Nat.le_refl _), Nat.sub_self, if_pos rfl, hty]; rfl
  · obtain ⟨t0, ht0⟩ := hT i h1 (by omega) ty' N2 rf2 h3
    refine ⟨t0, ?_⟩
    rw [List.getElem?_append_left (List.getElem?_eq_some_iff.mp ht0).1, if_neg e]; exact ht0
/-- all are there -/
theorem ci_fin {Λ : g_Lay} {μ : g_St} {ci n : Nat} {F : List (Nat × Nat)} {ad ca : Nat → Nat} (h0 : Λ.2 0 = .inl (ci, F)) (hn : Λ.1 = n + 1) (hF : F.all (fun p => decide (p.1 = 2 → p.2 ≤ n)) = true) : ci_w Λ μ ci F ad ca n = g_wW ad ca Λ μ := by
  unfold g_wW
  rw [hn, List.range_succ_eq_map, List.map_cons, List.map_map, g_ent_o h0]
  unfold ci_w
  have e : ci_f ad μ F n = g_fs ad μ 0 F := by
    unfold ci_f g_fs
    apply List.ext_getElem?
    intro j
    rw [List.getElem?_mapIdx, List.getElem?_mapIdx]
    cases hp : F[j]? with
    | none => rfl
    | some p =>
      have h2 := List.all_eq_true.mp hF p (List.mem_of_getElem? hp)
      have h2 : p.1 = 2 → p.2 ≤ n := fun z => by
        have h3 : ¬p.1 = 2 ∨ p.2 ≤ n := by simpa using h2
        exact h3.resolve_left (fun n => n z)
      show some (if p.1 = 2 ∧ n < p.2 then Value.null else g_fv ad μ 0 j p) = some (g_fv ad μ 0 j p)
      rw [if_neg (fun z => by have := h2 z.1; omega)]
  rw [e]
  rfl
end CiStep
def g_Init (Λ : g_Lay) (μ : g_St) (o0 : va_E) (y : MethodName) (cc : ByteArray) (nL mc ms : Nat) : Prop :=
  ∀ (l : Launch) (D : va_G) (sz h0 : Nat), Met l y (g_ws y cc nL none) { frames := 20, cells := mc, slots := ms, locals := 2000 }
    (fun v U => v = #[Value.ref h0] ∧ U.heap.size = sz ∧ va_P D g_cl [(h0, o0)] U.heap ∧ va_K D g_cl [] U ∧ va_D (fun _ => True) [(h0, o0)] ∧ ∀ w ∈ g_nw, va_Nw w U)
    (fun _ st oc t => oc = .returned none ∧ (∃ (ad ca : Nat → Nat) (tys : List (ClassId × FieldType)), ad 0 = h0 ∧ g_Ty Λ tys ca ∧ va_K D g_cl tys t ∧ va_P D g_cl (g_wW ad ca Λ μ) t.heap ∧ va_D (va_A [(h0, o0)] sz) (g_wW ad ca Λ μ)) ∧ va_F (va_A [(h0, o0)] sz) st t) mc ms (va_A [(h0, o0)] sz)
theorem g_awI : Cond.arrayClass (newarray.typeOf .int) ∈ g_gw := g_in1 (List.mem_of_getElem? (i := 132) rfl) rfl
theorem g_awJ : Cond.arrayClass (newarray.typeOf .long) ∈ g_gw := g_in1 (List.mem_of_getElem? (i := 130) rfl) rfl
theorem g_awC : Cond.arrayClass (newarray.typeOf .char) ∈ g_gw := g_in1 (List.mem_of_getElem? (i := 131) rfl) rfl
theorem g_awZ : Cond.arrayClass (newarray.typeOf .boolean) ∈ g_gw := g_in6 (List.mem_of_getElem? (i := 78) rfl) rfl
theorem g_oin : Cond.instanceMethod Lib.objectInit ∈ g_gw := g_in1 (List.mem_of_getElem? (i := 30) rfl) rfl
theorem g_oco : Cond.code Lib.objectInit ⟨#[0xb1]⟩ 1 none ∈ g_gw := g_in1 (List.mem_of_getElem? (i := 31) rfl) rfl
