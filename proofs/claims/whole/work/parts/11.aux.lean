/-! Rules used by the printed walks: cases of a switch, System.arraycopy -/
section GoLdc
variable {Λ : g_Lay} {d : Nat} {y : MethodName} {cc : ByteArray} {nL : Nat} {rt : Option FieldType} {pc : Nat} {lo : List (Option Value)} {st : List Value} {μ : g_St} {X : Option (Option Value × g_St)}
theorem g_ldcw {index : Nat} {v : Int32} (hd : decode cc pc = .ok (.ldc_w index, 3)) (hc : Cond.constant y.cls index v ∈ g_gw) (k : g_Go Λ d y cc nL rt (pc + 3) lo (.int v :: st) μ X) : g_Go Λ d y cc nL rt pc lo st μ X :=
  g_st (fun p l e R s m args below meth c cells slots Q D tys ca ad A ls H locs hx hb C _ kk => lv_ldcw hx hb C.2.2.2.1 (C.2.2.2.2.1 _ hc) hd kk) k
end GoLdc
abbrev o_x : (Int32 ⊕ Nat) × g_St → Option Value × g_St := fun q => (match q.1 with
  | .inl x => some (.int x)
  | .inr t => some (.retAddr t), q.2)
section GoAux
variable {Λ : g_Lay} {d : Nat} {y : MethodName} {cc : ByteArray} {nL : Nat} {rt : Option FieldType} {pc : Nat} {lo : List (Option Value)} {st : List Value} {μ : g_St} {ρ : Type} {ω : ρ → Option Value × g_St}
theorem w_ite {c : Prop} [Decidable c] {X1 X2 : Option ρ} (h1 : c → g_Go Λ d y cc nL rt pc lo st μ (Option.map ω X1)) (h2 : ¬ c → g_Go Λ d y cc nL rt pc lo st μ (Option.map ω X2)) : g_Go Λ d y cc nL rt pc lo st μ (Option.map ω (if c then X1 else X2)) := by
  by_cases h : c
  · rw [if_pos h]; exact h1 h
  · rw [if_neg h]; exact h2 h
theorem w_tin {X : Option ρ} {dflt lo' hi : Int} {offs : Array Int} {len tgt : Nat} {x : Int32} (k : Int32) (h : x = k) (hd : decode cc pc = .ok (.tableswitch dflt lo' hi offs, len)) (hk : ∃ off, ¬ k.toInt < lo' ∧ ¬ hi < k.toInt ∧ offs[(k.toInt - lo').toNat]? = some off ∧ (pc : Int) + off = (tgt : Int)) (kk : g_Go Λ d y cc nL rt tgt lo st μ (Option.map ω X)) : g_Go Λ d y cc nL rt pc lo (.int x :: st) μ (Option.map ω X) := by
  subst h
  obtain ⟨off, h1, h2, h3, h4⟩ := hk
  exact g_st (fun p l e R s m args below meth c cells slots Q D tys ca ad A ls H locs hx hb _ _ kk => lv_tableIn hx hb hd h1 h2 h3 h4 kk) kk
theorem w_tout {X : Option ρ} {dflt lo' hi : Int} {offs : Array Int} {len tgt : Nat} {x : Int32} (hd : decode cc pc = .ok (.tableswitch dflt lo' hi offs, len)) (h : x.toInt < lo' ∨ hi < x.toInt) (ht : (pc : Int) + dflt = (tgt : Int)) (kk : g_Go Λ d y cc nL rt tgt lo st μ (Option.map ω X)) : g_Go Λ d y cc nL rt pc lo (.int x :: st) μ (Option.map ω X) :=
  g_st (fun p l e R s m args below meth c cells slots Q D tys ca ad A ls H locs hx hb _ _ kk => lv_tableOut hx hb hd h ht kk) kk
theorem w_lin {X : Option ρ} {dflt : Int} {ps : Array (Int × Int)} {len tgt : Nat} {x : Int32} (k : Int32) (h : x = k) (hd : decode cc pc = .ok (.lookupswitch dflt ps, len)) (hk : (ps.toList.zip (ps.toList.drop 1)).all (fun (a, next) => a.1 < next.1) = true ∧ (pc : Int) + Op.lookupswitch.offset ps.toList dflt k.toInt = (tgt : Int)) (kk : g_Go Λ d y cc nL rt tgt lo st μ (Option.map ω X)) : g_Go Λ d y cc nL rt pc lo (.int x :: st) μ (Option.map ω X) := by
  subst h
  exact g_st (fun p l e R s m args below meth c cells slots Q D tys ca ad A ls H locs hx hb _ _ kk => lv_lookup hx hb hd hk.1 rfl hk.2 kk) kk
theorem w_lout {X : Option ρ} {dflt : Int} {ps : Array (Int × Int)} {len tgt : Nat} {x : Int32} (hd : decode cc pc = .ok (.lookupswitch dflt ps, len)) (ho : Op.lookupswitch.offset ps.toList dflt x.toInt = dflt) (hk : (ps.toList.zip (ps.toList.drop 1)).all (fun (a, next) => a.1 < next.1) = true ∧ (pc : Int) + dflt = (tgt : Int)) (kk : g_Go Λ d y cc nL rt tgt lo st μ (Option.map ω X)) : g_Go Λ d y cc nL rt pc lo (.int x :: st) μ (Option.map ω X) :=
  g_st (fun p l e R s m args below meth c cells slots Q D tys ca ad A ls H locs hx hb _ _ kk => lv_lookup hx hb hd hk.1 ho hk.2 kk) kk
theorem w_putQ2 {id ci k index N q0 : Nat} {fs : List (Nat × Nat)} {C : String} {T : u_T} {ty0 : Nat → FieldType} {v : Nat} {E : String} {K : g_St → Option ρ} (hd : decode cc pc = .ok (.putfield index, 3)) (cf : g_CF ci C T N ty0) (fl : g_FL y.cls index T k) (hid : id < Λ.1) (hΛ : Λ.2 id = .inl (ci, fs)) (hq : fs[k]? = some (3, q0)) (hk : k < N) (hfin : (T k).2.2.2 = false) (hty : ty0 k = .object E) (h1 : ∀ (j : Nat) (p : Nat × Nat), j ≠ k → fs[j]? = some p → p.1 < 3 ∨ p.2 ≠ q0) (h2 : ∀ j, j ≠ id → ∀ (cj : Nat) (fj : List (Nat × Nat)), Λ.2 j = .inl (cj, fj) → ∀ p ∈ fj, p.1 < 3) (kk : ∀ μ1, g_Go Λ d y cc nL rt (pc + 3) lo st μ1 (Option.map ω (K μ1))) : g_Go Λ d y cc nL rt pc lo (.ref v :: .ref id :: st) μ (Option.map ω ((some (g_sQ μ q0 v)).bind K)) :=
  g_putQ hd cf fl hid hΛ hq hk hfin hty h1 h2 (kk _)
theorem w_thr {v : ρ} (ht : g_thrOK cc pc) (hw : ω v = (some (.retAddr pc), μ)) : g_Go Λ d y cc nL rt pc lo [] μ (Option.map ω (some v)) := g_eq (congrArg some hw) (g_thr ht)
theorem g_neT {x k : Int32} {n : Int} (h : ¬ x = k) (hk : k.toInt = n) : x.toInt ≠ n := fun e => h (Int32.toInt_inj.mp (e.trans hk.symm))
/-- of the first object's moving references each has a number of its own -/
theorem g_q1 (k : Nat) {q0 : Nat} (h : g_fOwn[k]? = some (3, q0)) : ∀ (j : Nat) (p : Nat × Nat), j ≠ k → g_fOwn[j]? = some p → p.1 < 3 ∨ p.2 ≠ q0 := by
  have hk : k < 15 := (List.getElem?_eq_some_iff.mp h).1
  have all : (List.range 15).all (fun k => (List.range 15).all (fun j => j == k || match g_fOwn[j]?, g_fOwn[k]? with | some p, some (a, q) => decide (p.1 < 3) || decide (p.2 ≠ q) || decide (a ≠ 3) | _, _ => true)) = true := by decide +kernel
  intro j p hj hp
  have hjl : j < 15 := (List.getElem?_eq_some_iff.mp hp).1
  have h1 := List.all_eq_true.mp (List.all_eq_true.mp all k (List.mem_range.mpr hk)) j (List.mem_range.mpr hjl)
  rw [hp, h] at h1
  simp only [Bool.or_eq_true, beq_iff_eq, decide_eq_true_eq] at h1
  rcases h1 with h1 | (h1 | h1) | h1
  · exact absurd h1 hj
  · exact Or.inl h1
  · exact Or.inr h1
  · exact absurd rfl h1
/-- System.arraycopy of whole int arrays -/
def g_ACW : Prop := Cond.native arraycopyName ∈ g_gw ∧ Cond.static arraycopyName ∈ g_gw ∧ Cond.initialized "java/lang/System" ∈ g_gw
theorem w_acpy {index a b n : Nat} {rf rf2 : Nat → Nat} {K : g_St → Option ρ} {x z1 z2 : Int32} (hd : decode cc pc = .ok (.invokestatic index, 3)) (hw : g_ACW) (hl : Cond.methodLink y.cls index arraycopyName ∈ g_gw) (ha1 : a < Λ.1) (ha : Λ.2 a = .inr (0, n, rf)) (hb1 : b < Λ.1) (hb : Λ.2 b = .inr (0, n, rf2)) (h1 : 1 ≤ d) (hst : (st.map fun v => v.category).sum ≤ 8) (hx : ¬ x < 0 ∧ x.toNatClampNeg = n) (hz : z1 = 0 ∧ z2 = 0)
    (k : ∀ μ1, g_Go Λ d y cc nL rt (pc + 3) lo st μ1 (Option.map ω (K μ1))) : g_Go Λ d y cc nL rt pc lo (.int x :: .int z1 :: .ref b :: .int z2 :: .ref a :: st) μ (Option.map ω ((some (g_cp μ a b n)).bind K)) := by
  obtain ⟨rfl, rfl⟩ := hz
  intro r μ' hX p l e R s m args below meth c cells slots Q D tys ca ad wx A C Kr ls H locs hR hL
  have K2 := k (g_cp μ a b n) r μ' hX p l e R s m args below meth c cells slots Q D tys ca ad wx A C Kr ls
  obtain ⟨hex, hbb, hml, hown, hts, hnw, hK, -, hty, ⟨f1, f2, f3, f4⟩, -⟩ := C
  obtain ⟨t0, ht0⟩ := hty a ha1 0 n rf ha
  obtain ⟨t1, ht1⟩ := hty b hb1 0 n rf2 hb
  have e0 : (g_wW ad ca Λ μ ++ wx)[a]? = some (ad a, .inl (ca a, n, .inl (μ.1 a))) := by rw [g_wW_get ha1, g_ent_a ha]; rfl
  have e1 : (g_wW ad ca Λ μ ++ wx)[b]? = some (ad b, .inl (ca b, n, .inl (μ.1 b))) := by rw [g_wW_get hb1, g_ent_a hb]; rfl
  have hs : (g_wW ad ca Λ μ ++ wx).set b (ad b, .inl (ca b, n, .inl (va_cpy (μ.1 a) (μ.1 b) 0 0 n))) = g_wW ad ca Λ (g_cp μ a b n) ++ wx := by
    have hself : (g_cp μ a b n).1 b = va_cpy (μ.1 a) (μ.1 b) 0 0 n := by simp [g_cp]
    rw [← g_wW_set (μ' := g_cp μ a b n) hb1 (fun j hj => ?_), g_ent_a hb]
    · show _ = List.set _ b (ad b, Sum.inl (ca b, (n, Sum.inl ((g_cp μ a b n).1 b))))
      rw [hself]
    · have q1 : (g_cp μ a b n).1 j = μ.1 j := by simp [g_cp, hj]
      have q2 : (g_cp μ a b n).2 = μ.2 := rfl
      unfold g_ent g_fs g_fv g_ar
      rw [q1, q2]
  have z0 : (0 : Int32).toNatClampNeg = 0 := by decide
  refine va_copyi (cc := cc) hex hbb (by rw [hml, hL.1]) hown (hts _ hl) (hts _ hw.1) (hts _ hw.2.1) (hts _ hw.2.2) hK hR.1 hR.2.1 hR.2.2 a b t0 t1 e0 e1 ht0 ht1 rfl (by decide) (by decide) hx.1 (by rw [hx.2, z0]; omega) (by rw [hx.2, z0]; omega) (fun _ _ => rfl) (by omega) ?_ hd (fun H1 locs1 g1 g2 g3 => ?_)
  · have e9 : (List.map (fun v => v.category) (List.map (g_tr ad) st)).sum = _ := congrArg List.sum (g_mathcat (ad := ad) (st := st))
    rw [e9]
    have e8 : nativeFrameWords "java/lang/System" "arraycopy" 5 ≤ 60 := by decide +kernel
    omega
  · rw [hx.2, z0, hs] at g1 g2
    exact K2 H1 locs1 ⟨g1, g2, g3⟩ hL
end GoAux
theorem g_acw : g_ACW := ⟨g_in5 (List.mem_of_getElem? (i := 15) rfl) rfl, g_in5 (List.mem_of_getElem? (i := 14) rfl) rfl, g_in1 (List.mem_of_getElem? (i := 23) rfl) rfl⟩
theorem mcp_X7_48 : Cond.methodLink RX7 48 arraycopyName ∈ g_gw := g_in5 (List.mem_of_getElem? (i := 13) rfl) rfl
