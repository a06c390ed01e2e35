/-! The two String constants: their rows -/
def g_nb (x : Int32) : Int32 := x.toInt8.toInt32
def g_sbr (i : Nat) (x : Int32) : Option Int32 := if g_out x (g_sl i) then none else some (g_sb i x.toNatClampNeg)
section GoStr
variable {Λ : g_Lay} {d : Nat} {y : MethodName} {cc : ByteArray} {nL : Nat} {rt : Option FieldType} {pc : Nat} {lo : List (Option Value)} {st : List Value} {μ : g_St} {X : Option (Option Value × g_St)}
theorem g_i2b {x : Int32} (hd : decode cc pc = .ok (.i2b, 1)) (k : g_Go Λ d y cc nL rt (pc + 1) lo (.int (g_nb x) :: st) μ X) : g_Go Λ d y cc nL rt pc lo (.int x :: st) μ X :=
  g_st (fun p l e R s m args below meth c cells slots Q D tys ca ad A ls H locs hx hb _ hL kk => lv_i2b hx hb hd rfl kk) k
theorem g_ldcS0 (hd : decode cc pc = .ok (.ldc 81, 2)) (hy : y.cls = "OwnMade$Tape") (k : g_Go Λ d y cc nL rt (pc + 2) lo (.ref 900 :: st) μ X) : g_Go Λ d y cc nL rt pc lo st μ X :=
  g_st (fun p l e R s m args below meth c cells slots Q D tys ca ad A ls H locs hx hb C hL kk => va_ldcS hx hb (by rw [← hy]; exact C.2.2.2.1) C.2.2.2.2.2.2.2.2.2.2.2.2.1 hd kk) k
theorem g_ldcS1 (hd : decode cc pc = .ok (.ldc 29, 2)) (hy : y.cls = "OwnMade$Tape") (k : g_Go Λ d y cc nL rt (pc + 2) lo (.ref 902 :: st) μ X) : g_Go Λ d y cc nL rt pc lo st μ X :=
  g_st (fun p l e R s m args below meth c cells slots Q D tys ca ad A ls H locs hx hb C hL kk => va_ldcS hx hb (by rw [← hy]; exact C.2.2.2.1) C.2.2.2.2.2.2.2.2.2.2.2.2.2.1 hd kk) k
theorem g_scs {index : Nat} (hd : decode cc pc = .ok (.getstatic index, 3)) (hl : Cond.fieldLink y.cls index "java/lang/String" "COMPACT_STRINGS" "Z" ∈ g_gw) (k : g_Go Λ d y cc nL rt (pc + 3) lo (.int 1 :: st) μ X) : g_Go Λ d y cc nL rt pc lo st μ X := by
  intro r μ' hX p l e R s m args below meth c cells slots Q D tys ca ad wx A C K ls H locs hR hL
  exact va_gets (cc := cc) C.1 C.2.1 C.2.2.2.2.2.2.2.2.2.2.1 hR.2.2 C.2.2.2.1 (C.2.2.2.2.1 _ hl) (fun _ h9 => h9) hd (k r μ' hX p l e R s m args below meth c cells slots Q D tys ca ad wx A C K ls H locs hR hL)
theorem g_sval {index i : Nat} (hi : i < 2) (hd : decode cc pc = .ok (.getfield index, 3)) (hl : Cond.fieldLink y.cls index "java/lang/String" "value" "[B" ∈ g_gw) (k : g_Go Λ d y cc nL rt (pc + 3) lo (.ref (901 + 2 * i) :: st) μ X) : g_Go Λ d y cc nL rt pc lo (.ref (900 + 2 * i) :: st) μ X := by
  intro r μ' hX p l e R s m args below meth c cells slots Q D tys ca ad wx A C K ls H locs hR hL
  exact vk_getf (cc := cc) C.1 C.2.1 (C.2.2.2.2.2.2.2.2.2.2.2.1 i hi).2.2.1 hR.2.2 C.2.2.2.1 (C.2.2.2.2.1 _ hl) (fun _ h9 => h9) hd (k r μ' hX p l e R s m args below meth c cells slots Q D tys ca ad wx A C K ls H locs hR hL)
theorem g_scod {index i : Nat} (hi : i < 2) (hd : decode cc pc = .ok (.getfield index, 3)) (hl : Cond.fieldLink y.cls index "java/lang/String" "coder" "B" ∈ g_gw) (k : g_Go Λ d y cc nL rt (pc + 3) lo (.int 0 :: st) μ X) : g_Go Λ d y cc nL rt pc lo (.ref (900 + 2 * i) :: st) μ X := by
  intro r μ' hX p l e R s m args below meth c cells slots Q D tys ca ad wx A C K ls H locs hR hL
  exact vk_getf (cc := cc) C.1 C.2.1 (C.2.2.2.2.2.2.2.2.2.2.2.1 i hi).2.1 hR.2.2 C.2.2.2.1 (C.2.2.2.2.1 _ hl) (fun _ h9 => h9) hd (k r μ' hX p l e R s m args below meth c cells slots Q D tys ca ad wx A C K ls H locs hR hL)
theorem g_slen {i : Nat} (hi : i < 2) (hd : decode cc pc = .ok (.arraylength, 1)) (k : g_Go Λ d y cc nL rt (pc + 1) lo (.int (Int32.ofNat (g_sl i)) :: st) μ X) : g_Go Λ d y cc nL rt pc lo (.ref (901 + 2 * i) :: st) μ X := by
  intro r μ' hX p l e R s m args below meth c cells slots Q D tys ca ad wx A C K ls H locs hR hL
  obtain ⟨cell, h1, h2, h3, h4, h5, -⟩ := (C.2.2.2.2.2.2.2.2.2.2.2.1 i hi).2.2.2.kept hR.2.2.2.1
  exact W.alen (cc := cc) C.1 C.2.1 h1 h2 h5 rfl rfl hd (k r μ' hX p l e R s m args below meth c cells slots Q D tys ca ad wx A C K ls H locs hR hL)
theorem w_sbld {ρ : Type} {ω : ρ → Option Value × g_St} {i : Nat} {x : Int32} {K : Int32 → Option ρ} (hi : i < 2) (hd : decode cc pc = .ok (.baload, 1)) (k : ∀ v, g_Go Λ d y cc nL rt (pc + 1) lo (.int v :: st) μ (Option.map ω (K v))) : g_Go Λ d y cc nL rt pc lo (.int x :: .ref (901 + 2 * i) :: st) μ (Option.map ω ((g_sbr i x).bind K)) := by
  unfold g_sbr
  by_cases ho : g_out x (g_sl i)
  · rw [if_pos ho]; exact g_none
  · rw [if_neg ho]
    intro r μ' hX p l e R s m args below meth c cells slots Q D tys ca ad wx A C Kr ls H locs hR hL
    exact va_tb (cc := cc) C.1 C.2.1 (C.2.2.2.2.2.2.2.2.2.2.2.1 i hi).2.2.2 hR.2.2 ho rfl hd (k _ r μ' hX p l e R s m args below meth c cells slots Q D tys ca ad wx A C Kr ls H locs hR hL)
/-- a call on one of them -/
theorem g_callVs {d2 index n i : Nat} {y2 : MethodName} {cc2 : ByteArray} {nL2 : Nat} {rt2 : Option FieldType} {as : List Value} {X2 : Option (Option Value × g_St)} {Kx : Option Value × g_St → Option (Option Value × g_St)} (hi : i < 2) (hy2 : y2.cls = "java/lang/String")
    (hd : decode cc pc = .ok (.invokevirtual index, 3)) (ml : Cond.methodLink y.cls index y2 ∈ g_gw) (mv : g_MV y2) (mc : g_MC y2 cc2 nL2 rt2 n) (hn : as.length = n) (hd2 : d2 + 1 ≤ d) (hn2 : nL2 ≤ 81) (hst : (st.map fun v => v.category).sum ≤ 8)
    (con : g_Con Λ d2 y2 cc2 nL2 rt2 (.ref (900 + 2 * i) :: as) μ X2) (k : ∀ r μ1, X2 = some (r, μ1) → g_Go Λ d y cc nL rt (pc + 3) lo (r.toList ++ st) μ1 (Kx (r, μ1))) : g_Go Λ d y cc nL rt pc lo (as.reverse ++ .ref (900 + 2 * i) :: st) μ (X2.bind Kx) := by
  intro r μ' hX p l e R s m args below meth c cells slots Q D tys ca ad wx A C K ls H locs hR hL
  cases hX2 : X2 with
  | none => rw [hX2] at hX; cases hX
  | some q =>
    obtain ⟨r1, μ1⟩ := q
    rw [hX2] at hX
    have cb := g_cb (d2 := d2) C mc hd2 hn2
    have hrun := con r1 μ1 hX2 l D tys ca ad wx H.size C.2.2.2.2.2.2.2.2.1
    have hfix : CallFix p m c cc nL s args g_gw y.cls := ⟨C.1, C.2.1, C.2.2.1, C.2.2.2.1, C.2.2.2.2.1⟩
    have hrc : ∃ cell : Cell, H[ad (900 + 2 * i)]? = some cell ∧ cell.vm.isStatics = false ∧ s.vm.findClass y2.cls = some cell.cls := by
      obtain ⟨cell, g1, g2, g3, -⟩ := (C.2.2.2.2.2.2.2.2.2.2.2.1 i hi).1.kept hR.2.2.2.1
      exact ⟨cell, g1, g2, by rw [hy2]; exact g3⟩
    have hpre : PreV s H y2.cls (ad (900 + 2 * i)) (g_Pc Λ D tys ca ad wx H.size (.ref (900 + 2 * i) :: as) μ) (g_tS ad as) := ⟨g_Pc_blind, hrc, fun U hU hW => g_pre (as := .ref (900 + 2 * i) :: as) C hR U hU hW⟩
    have hstk : (g_tS ad (as.reverse ++ .ref (900 + 2 * i) :: st)) = (g_tS ad as).reverse ++ .ref (ad (900 + 2 * i)) :: g_tS ad st := by simp [g_tS, g_tr]
    have hroom : 2 * (F0 m pc ls (g_tS ad (as.reverse ++ .ref (900 + 2 * i) :: st))).monitorRoom + ((g_tS ad st).map fun v => v.category).sum ≤ 8 := lv_room (by rw [g_mathcat]; exact hst)
    have hlen : (g_tS ad as).length = n := by simp [g_tS, hn]
    have hfit : cells + 0 ≤ R.cells ∧ slots + 0 ≤ R.slots := ⟨C.2.2.2.2.2.2.2.2.2.1.2.2.1, C.2.2.2.2.2.2.2.2.2.1.2.2.2⟩
    refine g_after hR C.2.2.2.2.2.2.2.1 (r := r1) (μ1 := μ1) (a := (g_tS ad (.ref (900 + 2 * i) :: as)).toArray) (st := st) ?_ (fun H1 locs1 hR1 => k r1 μ1 hX2 r μ' hX p l e R s m args below meth c cells slots Q D tys ca ad wx A C K ls H1 locs1 hR1 hL)
    exact va_runV (C := y2.cls) hfix hrun ⟨⟨rfl, rfl, cb.1, cb.2.1, cb.2.2.1, List.mem_cons_self, cb.2.2.2.1, cb.2.2.2.2.1, mc.2.2.1, cb.2.2.2.2.2, C.2.2.2.2.1 _ ml⟩, C.2.2.2.2.1 _ mv.1, C.2.2.2.2.1 _ mv.2⟩ hpre rfl hlen (hL.1) hstk hroom hd hfit
theorem w_Vsxi (as : List Value) {ρ : Type} {ω : ρ → Option Value × g_St} {d2 index n i : Nat} {y2 : MethodName} {cc2 : ByteArray} {nL2 : Nat} {rt2 : Option FieldType} {f : Option Int32} {K : Int32 → Option ρ} {stk : List Value} (hi : i < 2) (hy2 : y2.cls = "java/lang/String") (hd : decode cc pc = .ok (.invokevirtual index, 3)) (ml : Cond.methodLink y.cls index y2 ∈ g_gw) (mv : g_MV y2) (mc : g_MC y2 cc2 nL2 rt2 n) (hn : as.length = n) (hd2 : d2 + 1 ≤ d) (hn2 : nL2 ≤ 81) (hst : (st.map fun v => v.category).sum ≤ 8) (hs : as.reverse ++ .ref (900 + 2 * i) :: st = stk)
    (con : g_Con Λ d2 y2 cc2 nL2 rt2 (.ref (900 + 2 * i) :: as) μ (g_xi μ f)) (k : ∀ x, g_Go Λ d y cc nL rt (pc + 3) lo (.int x :: st) μ (Option.map ω (K x))) : g_Go Λ d y cc nL rt pc lo stk μ (Option.map ω (f.bind K)) := by
  subst hs
  refine g_eq (X2 := (g_xi μ f).bind (fun q => match q.1 with | some (.int x) => Option.map ω (K x) | _ => none)) (by cases f <;> rfl) (g_callVs hi hy2 hd ml mv mc hn hd2 hn2 hst con (fun r μ1 h => ?_))
  cases f with
  | none => cases h
  | some v => cases h; exact k _
theorem g_siob {index : Nat} (hd : decode cc pc = .ok (.getstatic index, 3)) (hl : Cond.fieldLink y.cls index "jdk/internal/util/Preconditions" "SIOOBE_FORMATTER" "Ljava/util/function/BiFunction;" ∈ g_gw) (k : ∀ v : Value, v = .null ∨ v = .ref 904 → g_Go Λ d y cc nL rt (pc + 3) lo (v :: st) μ X) : g_Go Λ d y cc nL rt pc lo st μ X := by
  intro r μ' hX p l e R s m args below meth c cells slots Q D tys ca ad wx A C K ls H locs hR hL
  rcases C.2.2.2.2.2.2.2.2.2.2.2.2.2.2 with hz | hz
  · exact va_gets (cc := cc) C.1 C.2.1 hz hR.2.2 C.2.2.2.1 (C.2.2.2.2.1 _ hl) (fun _ h9 => h9) hd (k .null (Or.inl rfl) r μ' hX p l e R s m args below meth c cells slots Q D tys ca ad wx A C K ls H locs hR hL)
  · exact va_gets (cc := cc) C.1 C.2.1 hz hR.2.2 C.2.2.2.1 (C.2.2.2.2.1 _ hl) (fun _ h9 => h9) hd (k (.ref 904) (Or.inr rfl) r μ' hX p l e R s m args below meth c cells slots Q D tys ca ad wx A C K ls H locs hR hL)
end GoStr
