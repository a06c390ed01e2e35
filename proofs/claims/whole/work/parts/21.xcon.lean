/-! A method of OwnMade that may throw: its contract -/
def g_isX (w : Cond) : Bool := match w with
  | .castable .. => true
  | .declares _ => true
  | _ => false
def g_xw : List Cond := lw_tbl.filter g_isX
def g_str4 (is : Nat) (tx : String) : Prop := (is = 187 ∧ tx = "no such thing" ∨ is = 204 ∧ tx = "nothing of a thing is asked so") ∨ (is = 279 ∧ tx = "no such fair" ∨ is = 305 ∧ tx = "no such lie")
def g_SY (U : State) : Prop := ∀ (is : Nat) (tx : String), g_str4 is tx → ∃ a : Nat, vk_R "OwnMade" is tx a U
/-- what a throw needs beside what every method has -/
def g_TX (A : Nat → Prop) (U : State) (H : Heap) : Prop := g_SY U ∧ (∀ w ∈ g_xw, va_Nw w U) ∧ vx_Zq Bundle.tN "UNASSIGNED_STACK" Bundle.steD A U H ∧ vx_Zq Bundle.tN "SUPPRESSED_SENTINEL" Bundle.listD A U H
theorem g_xw_warm {s U : State} (hW : s.WarmedH U.vm) (h : ∀ w ∈ g_xw, va_Nw w s) : ∀ w ∈ g_xw, va_Nw w U := by
  intro w hw
  have h2 : g_isX w = true := (List.mem_filter.mp hw).2
  have h1 := h w hw
  cases w <;> first | exact va_Nw.warmC hW h1 | exact va_Nw.warmD hW h1 | cases h2
theorem g_xw_same {u U : State} (hv : u.vm = U.vm) (h : ∀ w ∈ g_xw, va_Nw w u) : ∀ w ∈ g_xw, va_Nw w U := by
  intro w hw
  have h2 : g_isX w = true := (List.mem_filter.mp hw).2
  have h1 := h w hw
  cases w <;> first | exact va_Nw.same rfl hv h1 | cases h2
theorem g_TX.vm {A : Nat → Prop} {u U : State} {H : Heap} (hv : U.vm = u.vm) (h : g_TX A u H) : g_TX A U H := by
  have ha : u.vm.Alike U.vm := by rw [hv]; exact Vm.Alike.refl _
  exact ⟨fun is tx q => (h.1 is tx q).imp fun a => vk_R.same hv, g_xw_same hv.symm h.2.1, h.2.2.1.moved ha, h.2.2.2.moved ha⟩
theorem g_TX.warm {A : Nat → Prop} {s U : State} {H : Heap} (hW : s.WarmedH U.vm) (h : g_TX A s H) : g_TX A U H :=
  ⟨fun is tx q => (h.1 is tx q).imp fun a => vk_R.warm hW, g_xw_warm hW h.2.1, h.2.2.1.moved hW.alike, h.2.2.2.moved hW.alike⟩
theorem g_TX.kept {A : Nat → Prop} {U : State} {H H1 : Heap} (h : g_TX A U H) (hq : ∀ a : Nat, a < H.size → ¬ A a → H1[a]? = H[a]?) : g_TX A U H1 := ⟨h.1, h.2.1, h.2.2.1.kept hq, h.2.2.2.kept hq⟩
theorem g_TX.narrow {A B : Nat → Prop} {U : State} {H : Heap} (h : g_TX A U H) (hAB : ∀ q, B q → A q) : g_TX B U H := ⟨h.1, h.2.1, h.2.2.1.narrow hAB, h.2.2.2.narrow hAB⟩
def g_PX (Λ : g_Lay) (D : va_G) (tys : List (ClassId × FieldType)) (ca ad : Nat → Nat) (wx : va_W) (sz : Nat) (as : List Value) (μ : g_St) : Array Value → State → Prop := fun v U =>
  g_Pc Λ D tys ca ad wx sz as μ v U ∧ g_TX (va_A (g_wW ad ca Λ μ ++ wx) sz) U U.heap
def g_WE (Λ : g_Lay) (D : va_G) (ca ad : Nat → Nat) (wx : va_W) (sz : Nat) (μ μ' : g_St) (st t : State) : Prop :=
  va_P D g_cl (g_wW ad ca Λ μ' ++ wx) t.heap ∧ va_D (va_A (g_wW ad ca Λ μ ++ wx) sz) (g_wW ad ca Λ μ' ++ wx) ∧ va_F (va_A (g_wW ad ca Λ μ ++ wx) sz) st t
theorem g_xmem : ((n_at "OwnMade" 189).filter vx_no).all (fun w => decide (w ∈ lw_tbl) && (goodWord w || g_isX w)) = true := by decide +kernel
theorem g_xgood : (Cond.classLink "OwnMade" 185 n_NSE :: Cond.initialized n_NSE :: (n_at "OwnMade" 189).filter vx_no).all vx_ot = true := by decide +kernel
theorem g_xcl : Cond.classLink "OwnMade" 185 n_NSE ∈ g_gw := g_in5 (List.mem_of_getElem? (i := 37) rfl) rfl
theorem g_xini : Cond.initialized n_NSE ∈ g_gw := g_in1 (List.mem_of_getElem? (i := 21) rfl) rfl
theorem g_xat {args : Array Value} {s : State} (hts : ∀ w ∈ g_gw, w.before args s = true) (hx : ∀ w ∈ g_xw, va_Nw w s) : ∀ w ∈ (n_at "OwnMade" 189).filter vx_no, w.before args s = true := by
  intro w hw
  have h := List.all_eq_true.mp g_xmem w hw
  simp only [Bool.and_eq_true, decide_eq_true_eq, Bool.or_eq_true] at h
  rcases h.2 with g | g
  · exact hts w (List.mem_filter.mpr ⟨h.1, g⟩)
  · have h1 := hx w (List.mem_filter.mpr ⟨h.1, g⟩)
    cases w <;> first | exact va_Nw.use rfl h1 | cases g
def g_XCon (as : List Value) (y : MethodName) (cc : ByteArray) (nL : Nat) (μ : g_St) (X : Option ((Int32 ⊕ Nat) × g_St)) : Prop :=
  ∀ (q : Int32 ⊕ Nat) (μ' : g_St), X = some (q, μ') → ∀ (l : Launch) (hl : l.stackTraces = false) (D : va_G) (tys : List (ClassId × FieldType)) (ca ad : Nat → Nat) (wx : va_W) (sz : Nat), g_Ty gC tys ca →
    vx_Met l y (g_ws y cc nL (some .int)) { frames := 20, cells := 1, slots := 6, locals := 2000 } (g_PX gC D tys ca ad wx sz as μ) (fun _ st oc t => (∃ x : Int32, q = .inl x ∧ oc = .returned (some (.int x))) ∧ g_WE gC D ca ad wx sz μ μ' st t) (fun E st t => E = n_NSE ∧ (∃ n, q = .inr n) ∧ g_WE gC D ca ad wx sz μ μ' st t) 1 6 (va_A (g_wW ad ca gC μ ++ wx) sz)
theorem g_xcon {d : Nat} {y : MethodName} {cc : ByteArray} {nL : Nat} {as : List Value} {μ : g_St} {X : Option ((Int32 ⊕ Nat) × g_St)} {lo : List (Option Value)} (hpl : plainName y.cls = true) (hcls : y.cls = "OwnMade") (hlen : (g_los as).length ≤ nL) (hlo : g_lo0 as nL = lo) (hd : d ≤ 20) (hgo : g_Go gC d y cc nL (some .int) 0 lo [] μ (Option.map o_x X)) :
    g_XCon as y cc nL μ X := by
  subst hlo
  intro q μ' hX l hl D tys ca ad wx sz hty
  refine vx_ofW (cc := cc) (maxL := nL) (ret := some .int) hpl rfl ?_
  intro p e s m args below meth c s₁ B hml hex hv
  obtain ⟨⟨rfl, hsz, hP, hK, hD0, hN, hSX⟩, hTX⟩ := hv
  have hts := atoms_spec (ws := g_ws y cc nL (some .int)) B.pre
  have hts2 : ∀ w ∈ g_gw, w.before (g_tS ad as).toArray s = true := fun w hw => hts w (List.mem_cons_of_mem _ hw)
  have hown : s.vm.findClass y.cls = some m.cls := findClass_of_methodNamed B.named
  have hlocks := B.notSynchronized
  have hr := B.returns
  subst hsz
  have hD := hD0.self (sz := s.heap.size)
  have hA : ∀ q : Nat, s.heap.size ≤ q → va_A (g_wW ad ca gC μ ++ wx) s.heap.size q := fun q h => Or.inr h
  rw [lg_entry_eq]
  refine hgo (o_x (q, μ')).1 μ' (by rw [hX]; rfl) p l e _ s m _ below meth c 0 0 _ D tys ca ad wx (va_A (g_wW ad ca gC μ ++ wx) s.heap.size) ⟨B.exec, B.bytes, hml, hown, hts2, hN, hK, hA, hty, ⟨hd, by show 100 * d ≤ 2000; omega, by show 0 ≤ 1; omega, by show 0 ≤ 6; omega⟩, hSX⟩ ?_ _ s.heap [] ⟨hP, hD, va_S.rf⟩ (g_Lo_entry hlen)
  intro pc' ls H locs w hend hsize hR
  match q, hend with
  | .inl x, hend =>
    obtain ⟨hdg, hw⟩ := hend
    have hw2 := g_nr_i hw
    subst hw2
    refine W.widen (k := 1) (n := 6) (by omega) (by omega) (vx_ret (g_iretW (cc := cc) B.exec B.bytes hr rfl (fun t ht _ => ?_) hR.2.2.2.2 hdg hlocks))
    exact ⟨⟨x, rfl, rfl⟩, by rw [ht]; exact hR.1, hR.2.1, hR.2.2.F ht⟩
  | .inr n, hend =>
    obtain ⟨rfl, rfl, d0, d3, hth⟩ := hend
    have ho : s.vm.findClass "OwnMade" = some m.cls := by rw [← hcls]; exact hown
    have hxc : ∀ t : State, s.vm.Alike t.vm → H.size ≤ t.heap.size → (∀ q : Nat, q < H.size → t.heap[q]? = H[q]?) → (fun E st t => E = n_NSE ∧ (∃ n', (Sum.inr pc' : Int32 ⊕ Nat) = .inr n') ∧ g_WE gC D ca ad wx s.heap.size μ μ' st t) n_NSE s t := by
      intro t _ hz hk
      refine ⟨rfl, ⟨_, rfl⟩, fun k x hx => ((hR.1 k x hx).kept (hk _ (hR.1 k x hx).lt)), hR.2.1, Nat.le_trans hR.2.2.1 hz, fun q h1 h2 => ?_⟩
      rw [hk q (Nat.lt_of_lt_of_le h1 hR.2.2.1)]
      exact hR.2.2.2.1 q h1 h2
    have hgd : ∀ w ∈ Cond.classLink "OwnMade" 185 n_NSE :: Cond.initialized n_NSE :: (n_at "OwnMade" 189).filter vx_no, vx_ot w = true := fun w hw => List.all_eq_true.mp g_xgood w hw
    rcases hth with ⟨is, tx, hs, d4, d6, d9⟩ | ⟨is, tx, hs, d4, d6, d9⟩
    · obtain ⟨sa, hsa⟩ := hTX.1 is tx (Or.inl hs)
      exact n_throwS (cc := cc) B.exec B.bytes hl ho (hts2 _ g_xcl) (hts2 _ g_xini) hsa (g_xat hts2 hTX.2.1) hgd hTX.2.2.1 hTX.2.2.2 hR.2.2 (by rw [hsize, hml]) d0 d3 d4 d6 d9 (fun x hx => (hex x hx).elim) (by show 5 < 20; omega) (by show 0 + 82 ≤ 2000; omega) (by show 0 + 1 ≤ 1; omega) (by show 0 + 6 ≤ 6; omega) hlocks hxc hR.2.2.2.2 (by omega) (by omega)
    · obtain ⟨sa, hsa⟩ := hTX.1 is tx (Or.inr hs)
      exact n_throwSW (cc := cc) B.exec B.bytes hl ho (hts2 _ g_xcl) (hts2 _ g_xini) hsa (g_xat hts2 hTX.2.1) hgd hTX.2.2.1 hTX.2.2.2 hR.2.2 (by rw [hsize, hml]) d0 d3 d4 d6 d9 (fun x hx => (hex x hx).elim) (by show 5 < 20; omega) (by show 0 + 82 ≤ 2000; omega) (by show 0 + 1 ≤ 1; omega) (by show 0 + 6 ≤ 6; omega) hlocks hxc hR.2.2.2.2 (by omega) (by omega)
theorem xc_thing (v1 v2 : Int32) (μ : g_St) : g_XCon [.ref 0, .int v1, .int v2] yX8_thing cX8_thing 3 μ (oo_thing v1 v2 μ) := g_xcon mc_X8_thing.2.2.2.2 rfl (Nat.le_of_ble_eq_true rfl) rfl (by decide) (lk_oo_thing v1 v2 μ)
theorem xc_fair (F : Nat) (v1 v2 v3 v4 : Int32) (μ : g_St) : g_XCon [.ref 0, .int v1, .int v2, .int v3, .int v4] yX8_fair cX8_fair 5 μ (oo_fair F v1 v2 v3 v4 μ) := g_xcon mc_X8_fair.2.2.2.2 rfl (Nat.le_of_ble_eq_true rfl) rfl (by decide) (lk_oo_fair F v1 v2 v3 v4 μ)
theorem xc_lie (F : Nat) (v1 v2 v3 v4 v5 v6 : Int32) (μ : g_St) : g_XCon [.ref 0, .int v1, .int v2, .int v3, .int v4, .int v5, .int v6] yX8_lie cX8_lie 12 μ (oo_lie F v1 v2 v3 v4 v5 v6 μ) := g_xcon mc_X8_lie.2.2.2.2 rfl (Nat.le_of_ble_eq_true rfl) rfl (by decide) (lk_oo_lie F v1 v2 v3 v4 v5 v6 μ)
