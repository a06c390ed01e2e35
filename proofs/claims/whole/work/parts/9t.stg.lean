/-! OwnMade's constructor: its stages -/
section CsStage
variable {p : Program} {l : Launch} {e : Env} {R : Room} {s : State} {m : MethodId} {args : Array Value} {below : List Frame} {meth : Method} {c : Code} {H : Heap} {locs : List Loc} {cells slots : Nat} {Q : State → Prop}
variable {cc : ByteArray} {pc : Nat} {ls : Array Slot} {D : va_G} {A : Nat → Prop} {tys : List (ClassId × FieldType)}
/-- own's field gets a reference -/
theorem cs_put {f : List Value} {w : va_W} {a0 index k q : Nat} {rest : List Value} (hx : p.tables.exec = Jvm.exec) (hb : c.code = cc) (hown : s.vm.findClass RX8 = some m.cls) (hts : ∀ w ∈ g_gw, w.before args s = true) (hini : meth.name = "<init>") (hf : f.length = 15) (hk : k < 15) (hlink : Cond.fieldLink RX8 index RX8 (TX8 k).2.1 (TX8 k).2.2.1 ∈ g_gw) (hdecl : (TX8 k).1 = RX8) (hn : narrow (tyX8 k) (.ref q) = .ref q) (hfit : fits (tyX8 k) (.ref q) = true) (hd : decode cc pc = .ok (.putfield index, 3))
    (hsame : ∀ x, s.fieldFound? (TX8 k).1 (TX8 k).2.1 (TX8 k).2.2.1 = some x → s.fieldFound? RX8 (TX8 k).2.1 (TX8 k).2.2.1 = some x)
    (hK : va_K D g_cl tys s) (hP : va_P D g_cl ((a0, .inr (6, f)) :: w) H) (hD : va_D A ((a0, .inr (6, f)) :: w)) (hS : va_S A s.heap H locs)
    (kk : ∀ (H1 : Heap) (locs1 : List Loc), va_P D g_cl ((a0, .inr (6, f.set k (.ref q))) :: w) H1 → va_D A ((a0, .inr (6, f.set k (.ref q))) :: w) → va_S A s.heap H1 locs1 → W p l e R s m args below meth c H1 locs1 cells slots Q (F0 m (pc + 3) ls rest)) :
    W p l e R s m args below meth c H locs cells slots Q (F0 m pc ls (.ref q :: .ref a0 :: rest)) := by
  cases hfin : (TX8 k).2.2.2 with
  | true => exact va_putF (D := D) (ci := 6) (v := .ref q) (ty := tyX8 k) (C := RX8) (T := TX8) (N := 15) hx hb hts cf_X8.2.1 tyX8 cf_X8.2.2.1 cf_X8.2.2.2 hown hK hP hD hS 0 rfl cf_X8.1 k hk (hts _ hlink) hsame hfin hini hdecl (cf_X8.2.2.1 k hk) hn hfit (by omega) hd kk
  | false => exact va_put (D := D) (ci := 6) (v := .ref q) (ty := tyX8 k) (C := RX8) (T := TX8) (N := 15) hx hb hts cf_X8.2.1 tyX8 cf_X8.2.2.1 cf_X8.2.2.2 hown hK hP hD hS 0 rfl cf_X8.1 k hk (hts _ hlink) hsame hfin (cf_X8.2.2.1 k hk) hn hfit (by omega) hd kk
def cs_S (D : va_G) (A : Nat → Prop) (tys : List (ClassId × FieldType)) (adS ad ca : Nat → Nat) (n mk h0 : Nat) (s : State) (H : Heap) (locs : List Loc) : Prop :=
  ad 0 = h0 ∧ (∀ i, 900 ≤ i → ad i = adS i) ∧ ci_ty gC ca tys n ∧ va_K D g_cl tys s ∧ va_P D g_cl (cs_w ad ca n mk) H ∧ va_D A (cs_w ad ca n mk) ∧ va_S A s.heap H locs
theorem cs_fld {ad ad' : Nat → Nat} {n m k q : Nat} (hFk : cs_F[k]? = some (2, n + 1)) (hFu : cs_F.all (fun p => decide (p.1 = 2 → p.2 ≤ n ∨ p.2 = n + 1 ∨ m < p.2)) = true) (hm : n + 1 ≤ m) (hq : ad' (n + 1) = q) (ho : ∀ i, i ≤ n → ad' i = ad i) : (ci_f ad cs_c0 cs_F n).set k (.ref q) = ci_f ad' cs_c0 cs_F m :=
  ci_f_set (by decide) hFk (fun j p hj hp e => by
    have h5 := ci_one_u (by decide : cs_F.Pairwise (fun p q => p.1 = 2 → q.1 = 2 → p.2 ≠ q.2)) hFk j p hj hp e
    have h6 : p.1 = 2 → p.2 ≤ n ∨ p.2 = n + 1 ∨ m < p.2 := of_decide_eq_true (List.all_eq_true.mp hFu p (List.mem_of_getElem? hp))
    have h6 := h6 e
    omega) hm hq ho
/-- new C(), put into its field -/
theorem cs_new {nL : Nat} {host C : String} {Ex : (Nat → Prop) → State → Prop} {Λ' : g_Lay} {μ' : g_St} {fs0 : List Value} {y2 : MethodName} {cc2 : ByteArray} {nL2 mc ms ci N iC iM : Nat} {T : u_T} {ty0 : Nat → FieldType} {adS ad ca : Nat → Nat} {n mk h0 : Nat}
    (hx : p.tables.exec = Jvm.exec) (hb : c.code = cc) (hml : c.maxLocals = nL) (hown : s.vm.findClass RX8 = some m.cls) (hts : ∀ w ∈ g_gw, w.before args s = true) (hN : ∀ w ∈ g_nw, va_Nw w s) (hin : meth.name = "<init>")
    (con : g_InitX Ex Λ' μ' (.inr (ci, fs0)) y2 cc2 nL2 mc ms) (cf : g_CF ci C T N ty0) (hfs : ∀ j, j < N → defaultValue (ty0 j) = vp_V fs0 j) (hcl : Cond.classLink RX8 iC C ∈ g_gw) (hins : Cond.instantiable C N ∈ g_gw) (hini : Cond.initialized C ∈ g_gw) (hC : y2.cls = C)
    (hlink : Cond.methodLinkNest RX8 iM y2 host ∈ g_nw) (hcode : Cond.code y2 cc2 nL2 none ∈ g_gw) (him : Cond.instanceMethod y2 ∈ g_gw) (hy1 : y2.name = "<init>") (hy2 : y2.cls ≠ "java/lang/invoke/MethodHandle" ∧ y2.cls ≠ "java/lang/invoke/VarHandle" ∧ (parseMethodDescriptor y2.desc).map (fun d => d.parameters.length) = some 0)
    (hd1 : decode cc pc = .ok (.new iC, 3)) (hd2 : decode cc (pc + 3) = .ok (.dup, 1)) (hd3 : decode cc (pc + 4) = .ok (.invokespecial iM, 3)) (hls : ls.size = nL) (hn2 : nL2 ≤ 81) (hR : 21 ≤ R.frames ∧ 2100 ≤ R.locals)
    (hce : cells + 1 + mc ≤ R.cells) (hsl : slots + N + ms ≤ R.slots) (hA : ∀ q, s.heap.size ≤ q → A q)
    (hbl : ∀ (B : Nat → Prop) (a : Array Value) (U : State) (g : JFrame) (mk : MethodId), Ex B U → Ex B (U.calling g mk a))
    (hEx : ∀ (U : State) (H1 : Heap) (B : Nat → Prop) (locs1 : List Loc), s.WarmedH U.vm → U.heap = H1 → va_S A s.heap H1 locs1 → (∀ z, B z → A z) → Ex B U)
    {index k : Nat} (hk : k < 15) (hFk : cs_F[k]? = some (2, n + 1)) (hfl : Cond.fieldLink RX8 index RX8 (TX8 k).2.1 (TX8 k).2.2.1 ∈ g_gw) (hdecl : (TX8 k).1 = RX8) (hnr : ∀ q : Nat, narrow (tyX8 k) (.ref q) = .ref q) (hfit : ∀ q : Nat, fits (tyX8 k) (.ref q) = true) (hd4 : decode cc (pc + 7) = .ok (.putfield index, 3))
    (hcln : cs_cl n = true) (hbn : cs_bl Λ' n = true) (hmk : ∀ j, j < mk → 101 + 8 * j ≤ n) (hμ : ∀ i, i < Λ'.1 → cs_c0.1 (n + 1 + i) = μ'.1 i ∧ cs_c0.2.1 (n + 1 + i) = μ'.2.1 i) (hFu : cs_F.all (fun p => decide (p.1 = 2 → p.2 ≤ n ∨ p.2 = n + 1 ∨ n + Λ'.1 < p.2)) = true) (hn : n + Λ'.1 < 900) (hΛ : 0 < Λ'.1)
    (S : cs_S D A tys adS ad ca n mk h0 s H locs)
    (kk : ∀ (ad' ca' : Nat → Nat) (tys' : List (ClassId × FieldType)) (H1 : Heap) (locs1 : List Loc), cs_S D A tys' adS ad' ca' (n + Λ'.1) mk h0 s H1 locs1 → W p l e R s m args below meth c H1 locs1 (cells + 1 + mc) (slots + N + ms) Q (F0 m (pc + 10) ls [])) :
    W p l e R s m args below meth c H locs cells slots Q (F0 m pc ls [.ref h0]) := by
  obtain ⟨a0, a9, hT, hK, hP, hD, hS⟩ := S
  subst a0
  refine cs_call (rest := [.ref (ad 0)]) hx hb hml hown hts hN con cf hfs hcl hins hini hC hlink hcode him hy1 hy2 hd1 hd2 hd3 hls hn2 hR ⟨by show 1 ≤ 3; omega, fun v hv => by rw [List.mem_singleton.mp hv]; rfl⟩ hce hsl hK hP hD hS hA hbl hEx (fun q ad1 ca1 tys1 H1 locs1 b0 hTy hK hP hD hS => ?_)
  have hP : va_P D g_cl ((ad 0, .inr (6, ci_f ad cs_c0 cs_F n)) :: (cs_tl ad ca n mk ++ g_wW ad1 ca1 Λ' μ')) H1 := hP
  have hD : va_D A ((ad 0, .inr (6, ci_f ad cs_c0 cs_F n)) :: (cs_tl ad ca n mk ++ g_wW ad1 ca1 Λ' μ')) := hD
  refine cs_put hx hb hown hts hin (by rw [ci_f_len]; rfl) hk hfl hdecl (hnr q) (hfit q) hd4 (fun _ h => by rw [hdecl] at h; exact h) hK hP hD hS (fun H2 locs2 hP hD hS => ?_)
  have hf := cs_fld (ad := ad) (ad' := fun i => if n < i ∧ i < n + 1 + Λ'.1 then ad1 (i - (n + 1)) else ad i) (m := n + Λ'.1) (q := q) hFk hFu (by omega) (by show (if n < n + 1 ∧ n + 1 < n + 1 + Λ'.1 then ad1 (n + 1 - (n + 1)) else ad (n + 1)) = q; rw [if_pos (by omega), Nat.sub_self]; exact b0) (fun i hi => if_neg (by omega))
  have hj := cs_merge (ad := ad) (ca := ca) (ad1 := ad1) (ca1 := ca1) (μ := μ') hcln hbn hmk hμ hf
  exact kk (fun i => if n < i ∧ i < n + 1 + Λ'.1 then ad1 (i - (n + 1)) else ad i) (fun i => if n < i then ca1 (i - (n + 1)) else ca i) (tys ++ tys1) H2 locs2 ⟨if_neg (by omega), fun i hi => (if_neg (by omega)).trans (a9 i hi), cs_ty hbn hT hTy, hK, cj_P hj hP, cj_D hj hD, hS⟩
/-- new int[N], put into its field -/
def cs_L1 (N : Nat) : g_Lay := (1, fun _ => .inr (0, N, g_zf))
theorem cs_row {adS ad ca : Nat → Nat} {n mk h0 N' : Nat} {nn : Int32}
    (hx : p.tables.exec = Jvm.exec) (hb : c.code = cc) (hown : s.vm.findClass RX8 = some m.cls) (hts : ∀ w ∈ g_gw, w.before args s = true) (hin : meth.name = "<init>") (hA : ∀ q, s.heap.size ≤ q → A q)
    (hn0 : ¬ nn < 0) (hN : nn.toNatClampNeg = N') (hby : N' * 4 ≤ 536870912) (hce : cells + 1 ≤ R.cells) (hsl : slots + N' ≤ R.slots) (hd1 : decode cc pc = .ok (.newarray .int, 2))
    {index k : Nat} (hk : k < 15) (hFk : cs_F[k]? = some (2, n + 1)) (hfl : Cond.fieldLink RX8 index RX8 (TX8 k).2.1 (TX8 k).2.2.1 ∈ g_gw) (hdecl : (TX8 k).1 = RX8) (hnr : ∀ q : Nat, narrow (tyX8 k) (.ref q) = .ref q) (hfit : ∀ q : Nat, fits (tyX8 k) (.ref q) = true) (hd4 : decode cc (pc + 2) = .ok (.putfield index, 3))
    (hcln : cs_cl n = true) (hbn : cs_bl (cs_L1 N') n = true) (hmk : ∀ j, j < mk → 101 + 8 * j ≤ n) (hn2 : 2 ≤ n) (hFu : cs_F.all (fun p => decide (p.1 = 2 → p.2 ≤ n ∨ p.2 = n + 1 ∨ n + 1 < p.2)) = true) (hn : n < 800)
    (S : cs_S D A tys adS ad ca n mk h0 s H locs)
    (kk : ∀ (ad' ca' : Nat → Nat) (tys' : List (ClassId × FieldType)) (H1 : Heap) (locs1 : List Loc), cs_S D A tys' adS ad' ca' (n + 1) mk h0 s H1 locs1 → W p l e R s m args below meth c H1 locs1 (cells + 1) (slots + N') Q (F0 m (pc + 5) ls [])) :
    W p l e R s m args below meth c H locs cells slots Q (F0 m pc ls [.int nn, .ref h0]) := by
  obtain ⟨a0, a9, hT, hK, hP, hD, hS⟩ := S
  subst a0
  refine va_newa (a0 := (N', .inl (fun _ => 0))) hx hb (hts _ g_awI) rfl hK hP hD hS hA (fun _ => rfl) hn0 hN hby hce hsl hd1 (fun q cA H1 hK hP hD hS => ?_)
  have hP : va_P D g_cl ((ad 0, .inr (6, ci_f ad cs_c0 cs_F n)) :: (cs_tl ad ca n mk ++ g_wW (fun _ => q) (fun _ => cA) (cs_L1 N') g_mu0)) H1 := hP
  have hD : va_D A ((ad 0, .inr (6, ci_f ad cs_c0 cs_F n)) :: (cs_tl ad ca n mk ++ g_wW (fun _ => q) (fun _ => cA) (cs_L1 N') g_mu0)) := hD
  refine cs_put hx hb hown hts hin (by rw [ci_f_len]; rfl) hk hfl hdecl (hnr q) (hfit q) hd4 (fun _ h => by rw [hdecl] at h; exact h) hK hP hD hS (fun H2 locs2 hP hD hS => ?_)
  have hf := cs_fld (ad := ad) (ad' := fun i => if n < i ∧ i < n + 1 + (cs_L1 N').1 then (fun _ => q) (i - (n + 1)) else ad i) (m := n + 1) (q := q) hFk hFu (by omega) (if_pos ⟨by omega, by show n + 1 < n + 1 + 1; omega⟩) (fun i hi => if_neg (by omega))
  have hj := cs_merge (ad := ad) (ca := ca) (ad1 := fun _ => q) (ca1 := fun _ => cA) (μ := g_mu0) (Λ := cs_L1 N') hcln hbn hmk (fun i hi => ⟨rfl, funext fun k => if_neg (by omega)⟩) hf
  have hTy : g_Ty (cs_L1 N') [(cA, FieldType.int)] (fun _ => cA) := fun id hid ty N rf h => by cases h; exact ⟨0, rfl⟩
  exact kk (fun i => if n < i ∧ i < n + 1 + 1 then q else ad i) (fun i => if n < i then cA else ca i) (tys ++ [(cA, .int)]) H2 locs2 ⟨if_neg (by omega), fun i hi => (if_neg (by omega)).trans (a9 i hi), cs_ty hbn hT hTy, hK, cj_P hj hP, cj_D hj hD, hS⟩
end CsStage
