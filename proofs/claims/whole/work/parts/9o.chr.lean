/-! The sign at a place of one of the two texts: String.charAt with what it calls -/
theorem dJ3_checkIndex_8e157_0 : decode cJ3_checkIndex_8e157 0 = .ok (.iload_n 0, 1) := by decide +kernel
theorem dJ3_checkIndex_8e157_1 : decode cJ3_checkIndex_8e157 1 = .ok (.ifCond .lt 8, 3) := by decide +kernel
theorem dJ3_checkIndex_8e157_4 : decode cJ3_checkIndex_8e157 4 = .ok (.iload_n 0, 1) := by decide +kernel
theorem dJ3_checkIndex_8e157_5 : decode cJ3_checkIndex_8e157 5 = .ok (.iload_n 1, 1) := by decide +kernel
theorem dJ3_checkIndex_8e157_6 : decode cJ3_checkIndex_8e157 6 = .ok (.if_icmp .lt 10, 3) := by decide +kernel
theorem dJ3_checkIndex_8e157_16 : decode cJ3_checkIndex_8e157 16 = .ok (.iload_n 0, 1) := by decide +kernel
theorem dJ3_checkIndex_8e157_17 : decode cJ3_checkIndex_8e157 17 = .ok (.ireturn, 1) := by decide +kernel
theorem dJ0_checkIndex_df160_0 : decode cJ0_checkIndex_df160 0 = .ok (.iload_n 0, 1) := by decide +kernel
theorem dJ0_checkIndex_df160_1 : decode cJ0_checkIndex_df160 1 = .ok (.iload_n 1, 1) := by decide +kernel
theorem dJ0_checkIndex_df160_2 : decode cJ0_checkIndex_df160 2 = .ok (.getstatic 1053, 3) := by decide +kernel
theorem dJ0_checkIndex_df160_5 : decode cJ0_checkIndex_df160 5 = .ok (.invokestatic 1059, 3) := by decide +kernel
theorem dJ0_checkIndex_df160_8 : decode cJ0_checkIndex_df160 8 = .ok (.pop, 1) := by decide +kernel
theorem dJ0_checkIndex_df160_9 : decode cJ0_checkIndex_df160 9 = .ok (.return_, 1) := by decide +kernel
theorem dJ1_charAt_3b067_0 : decode cJ1_charAt_3b067 0 = .ok (.iload_n 1, 1) := by decide +kernel
theorem dJ1_charAt_3b067_1 : decode cJ1_charAt_3b067 1 = .ok (.aload_n 0, 1) := by decide +kernel
theorem dJ1_charAt_3b067_2 : decode cJ1_charAt_3b067 2 = .ok (.arraylength, 1) := by decide +kernel
theorem dJ1_charAt_3b067_3 : decode cJ1_charAt_3b067 3 = .ok (.invokestatic 9, 3) := by decide +kernel
theorem dJ1_charAt_3b067_6 : decode cJ1_charAt_3b067 6 = .ok (.aload_n 0, 1) := by decide +kernel
theorem dJ1_charAt_3b067_7 : decode cJ1_charAt_3b067 7 = .ok (.iload_n 1, 1) := by decide +kernel
theorem dJ1_charAt_3b067_8 : decode cJ1_charAt_3b067 8 = .ok (.baload, 1) := by decide +kernel
theorem dJ1_charAt_3b067_9 : decode cJ1_charAt_3b067 9 = .ok (.sipush 255, 3) := by decide +kernel
theorem dJ1_charAt_3b067_12 : decode cJ1_charAt_3b067 12 = .ok (.iand, 1) := by decide +kernel
theorem dJ1_charAt_3b067_13 : decode cJ1_charAt_3b067 13 = .ok (.i2c, 1) := by decide +kernel
theorem dJ1_charAt_3b067_14 : decode cJ1_charAt_3b067 14 = .ok (.ireturn, 1) := by decide +kernel
theorem dJ0_charAt_5068e_0 : decode cJ0_charAt_5068e 0 = .ok (.aload_n 0, 1) := by decide +kernel
theorem dJ0_charAt_5068e_1 : decode cJ0_charAt_5068e 1 = .ok (.invokevirtual 492, 3) := by decide +kernel
theorem dJ0_charAt_5068e_4 : decode cJ0_charAt_5068e 4 = .ok (.ifCond .eq 12, 3) := by decide +kernel
theorem dJ0_charAt_5068e_7 : decode cJ0_charAt_5068e 7 = .ok (.aload_n 0, 1) := by decide +kernel
theorem dJ0_charAt_5068e_8 : decode cJ0_charAt_5068e 8 = .ok (.getfield 9, 3) := by decide +kernel
theorem dJ0_charAt_5068e_11 : decode cJ0_charAt_5068e 11 = .ok (.iload_n 1, 1) := by decide +kernel
theorem dJ0_charAt_5068e_12 : decode cJ0_charAt_5068e 12 = .ok (.invokestatic 495, 3) := by decide +kernel
theorem dJ0_charAt_5068e_15 : decode cJ0_charAt_5068e 15 = .ok (.ireturn, 1) := by decide +kernel
def pr_ck (i n : Int32) : Option Int32 := if 0 ≤ i then (if n ≤ i then none else some i) else none
def jl_at (i : Nat) (v : Int32) : Option Int32 := (pr_ck v (Int32.ofNat (g_sl i))).bind fun _ => (g_sbr i v).bind fun x => some (vp_nar .char (g_nc (x &&& 255)))
section CiChr
variable {Λ : g_Lay} {d : Nat} {y : MethodName} {cc : ByteArray} {nL : Nat} {rt : Option FieldType} {pc : Nat} {lo : List (Option Value)} {st : List Value} {μ : g_St}
theorem w_cret {ρ : Type} {ω : ρ → Option Value × g_St} {x : Int32} {v : ρ} (hd : decode cc pc = .ok (.ireturn, 1)) (hb : rt = some .char) (hw : ω v = (some (.int (vp_nar .char x)), μ)) : g_Go Λ d y cc nL rt pc lo [.int x] μ (Option.map ω (some v)) := by
  intro r μ' hX p l e R s m args below meth c cells slots Q D tys ca ad wx A C K ls H locs hR hL
  rw [show Option.map ω (some v) = some (ω v) from rfl, hw] at hX
  cases hX
  exact K pc ls H locs (some (.int x)) ⟨hd, by rw [hb]; rfl⟩ hL.1 hR
/-- a call that only looks: what it answers isn't used -/
theorem w_Sck {ρ : Type} {ω : ρ → Option Value × g_St} (as : List Value) {d2 index n : Nat} {y2 : MethodName} {cc2 : ByteArray} {nL2 : Nat} {rt2 : Option FieldType} {f : Option Int32} {K : Option ρ} {stk : List Value} (hd : decode cc pc = .ok (.invokestatic index, 3)) (ml : g_ML y.cls index y2) (ms : Cond.static y2 ∈ g_gw) (mc : g_MC y2 cc2 nL2 rt2 n) (hn : as.length = n) (hd2 : d2 + 1 ≤ d) (hn2 : nL2 ≤ 81) (hst : (st.map fun v => v.category).sum ≤ 8) (hs : as.reverse ++ st = stk)
    (con : g_Con Λ d2 y2 cc2 nL2 rt2 as μ (f.map fun _ => (none, μ))) (k : g_Go Λ d y cc nL rt (pc + 3) lo st μ (Option.map ω K)) : g_Go Λ d y cc nL rt pc lo stk μ (Option.map ω (f.bind fun _ => K)) := by
  subst hs
  refine g_eq (X2 := (f.map fun _ => ((none : Option Value), μ)).bind (fun _ => Option.map ω K)) (by cases f <;> rfl) (g_callS hd ml ms mc hn hd2 hn2 hst con (fun r μ1 h => ?_))
  cases f with
  | none => cases h
  | some v => cases h; exact k
end CiChr
theorem lk_pr_ck (Λ : g_Lay) (μ : g_St) (v0 v1 : Int32) (v2 : Option Value) : g_Go Λ 0 yJ3_checkIndex_8e157 cJ3_checkIndex_8e157 3 (some .int) 0 [some (.int v0), some (.int v1), v2] [] μ (Option.map (o_i μ) (pr_ck v0 v1)) := by
  unfold pr_ck
  refine g_iload_n dJ3_checkIndex_8e157_0 rfl rfl ?_
  refine w_if_lt (tgt := 9) dJ3_checkIndex_8e157_1 (by decide) ?_ w_none
  refine g_iload_n dJ3_checkIndex_8e157_4 rfl rfl ?_
  refine g_iload_n dJ3_checkIndex_8e157_5 rfl rfl ?_
  refine w_icmp_lt (tgt := 16) dJ3_checkIndex_8e157_6 (by decide) w_none ?_
  refine g_iload_n dJ3_checkIndex_8e157_16 rfl rfl ?_
  exact w_iret dJ3_checkIndex_8e157_17 rfl rfl
theorem co_pr_ck (Λ : g_Lay) (μ : g_St) (v0 v1 : Int32) (v2 : Value) (h : v2 = .null ∨ v2 = .ref 904) : g_Con Λ 0 yJ3_checkIndex_8e157 cJ3_checkIndex_8e157 3 (some .int) [.int v0, .int v1, v2] μ (g_xi μ (pr_ck v0 v1)) := by
  rcases h with rfl | rfl
  · exact g_conOf mc_J3_checkIndex_8e157.2.2.2.2 (Nat.le_of_ble_eq_true rfl) rfl (g_xi_rk (Or.inl rfl)) (lk_pr_ck Λ μ v0 v1 _)
  · exact g_conOf mc_J3_checkIndex_8e157.2.2.2.2 (Nat.le_of_ble_eq_true rfl) rfl (g_xi_rk (Or.inl rfl)) (lk_pr_ck Λ μ v0 v1 _)
theorem lk_js_ck (Λ : g_Lay) (μ : g_St) (v0 v1 : Int32) : g_Go Λ 1 yJ0_checkIndex_df160 cJ0_checkIndex_df160 2 (none : Option Jvm.ClassFile.FieldType) 0 [some (.int v0), some (.int v1)] [] μ ((pr_ck v0 v1).map fun _ => (none, μ)) := by
  refine g_eq (X2 := Option.map (fun _ : Int32 => ((none : Option Value), μ)) ((pr_ck v0 v1).bind fun x => some x)) (by cases pr_ck v0 v1 <;> rfl) ?_
  refine g_iload_n dJ0_checkIndex_df160_0 rfl rfl ?_
  refine g_iload_n dJ0_checkIndex_df160_1 rfl rfl ?_
  refine g_siob dJ0_checkIndex_df160_2 (g_in1 (List.mem_of_getElem? (i := 63) rfl) rfl) (fun v hv => ?_)
  refine w_Sxi [.int _, .int _, v] dJ0_checkIndex_df160_5 ml_J0_1059 ms_J3_checkIndex_8e157 mc_J3_checkIndex_8e157 rfl (Nat.le_of_ble_eq_true rfl) (Nat.le_of_ble_eq_true rfl) (Nat.le_of_ble_eq_true rfl) rfl (co_pr_ck Λ _ _ _ _ hv) (fun x => ?_)
  refine g_popi dJ0_checkIndex_df160_8 ?_
  exact w_vret dJ0_checkIndex_df160_9 rfl rfl
theorem co_js_ck (Λ : g_Lay) (μ : g_St) (v0 v1 : Int32) : g_Con Λ 1 yJ0_checkIndex_df160 cJ0_checkIndex_df160 2 (none : Option Jvm.ClassFile.FieldType) [.int v0, .int v1] μ ((pr_ck v0 v1).map fun _ => (none, μ)) := g_conOf mc_J0_checkIndex_df160.2.2.2.2 (Nat.le_of_ble_eq_true rfl) rfl (fun r μ' h => by
  cases hq : pr_ck v0 v1 with
  | none => rw [hq] at h; cases h
  | some x => rw [hq] at h; cases h; rfl) (lk_js_ck Λ μ v0 v1)
theorem lk_jl_at (Λ : g_Lay) (i : Nat) (hi : i < 2) (μ : g_St) (v : Int32) : g_Go Λ 2 yJ1_charAt_3b067 cJ1_charAt_3b067 2 (some .char) 0 [some (.ref (901 + 2 * i)), some (.int v)] [] μ (Option.map (o_i μ) (jl_at i v)) := by
  unfold jl_at
  refine g_iload_n dJ1_charAt_3b067_0 rfl rfl ?_
  refine g_aload_n dJ1_charAt_3b067_1 rfl rfl ?_
  refine g_slen (i := i) hi dJ1_charAt_3b067_2 ?_
  refine w_Sck [.int _, .int _] dJ1_charAt_3b067_3 ml_J1_9 ms_J0_checkIndex_df160 mc_J0_checkIndex_df160 rfl (Nat.le_of_ble_eq_true rfl) (Nat.le_of_ble_eq_true rfl) (Nat.le_of_ble_eq_true rfl) rfl (co_js_ck Λ _ _ _) ?_
  refine g_aload_n dJ1_charAt_3b067_6 rfl rfl ?_
  refine g_iload_n dJ1_charAt_3b067_7 rfl rfl ?_
  refine w_sbld (i := i) hi dJ1_charAt_3b067_8 (fun x => ?_)
  refine g_sipush (v := 255) dJ1_charAt_3b067_9 (by decide) ?_
  refine g_iand dJ1_charAt_3b067_12 ?_
  refine g_i2c dJ1_charAt_3b067_13 ?_
  exact w_cret dJ1_charAt_3b067_14 rfl rfl
theorem co_jl_at (Λ : g_Lay) (i : Nat) (hi : i < 2) (μ : g_St) (v : Int32) : g_Con Λ 2 yJ1_charAt_3b067 cJ1_charAt_3b067 2 (some .char) [.ref (901 + 2 * i), .int v] μ (g_xi μ (jl_at i v)) := g_conOf mc_J1_charAt_3b067.2.2.2.2 (Nat.le_of_ble_eq_true rfl) rfl (g_xi_rk (Or.inr (Or.inr (Or.inr rfl)))) (lk_jl_at Λ i hi μ v)
def js_at (i : Nat) (μ : g_St) (v : Int32) : Option Int32 := (js_isLatin1 i μ).bind fun x => if x = 0 then none else (jl_at i v).bind fun z => some (vp_nar .char z)
theorem lk_js_at (Λ : g_Lay) (i : Nat) (hi : i < 2) (μ : g_St) (v : Int32) : g_Go Λ 3 yJ0_charAt_5068e cJ0_charAt_5068e 2 (some .char) 0 [some (.ref (900 + 2 * i)), some (.int v)] [] μ (Option.map (o_i μ) (js_at i μ v)) := by
  unfold js_at
  refine g_aload_n dJ0_charAt_5068e_0 rfl rfl ?_
  refine w_Vsxi [] (i := i) hi rfl dJ0_charAt_5068e_1 mq_J0_492 mv_J0_isLatin1_aae02 mc_J0_isLatin1_aae02 rfl (Nat.le_of_ble_eq_true rfl) (Nat.le_of_ble_eq_true rfl) (Nat.le_of_ble_eq_true rfl) rfl (co_js_isLatin1 Λ i hi _) (fun x1 => ?_)
  refine w_if_eq (tgt := 16) dJ0_charAt_5068e_4 (by decide) w_none ?_
  refine g_aload_n dJ0_charAt_5068e_7 rfl rfl ?_
  refine g_sval (i := i) hi dJ0_charAt_5068e_8 fs_J0_9 ?_
  refine g_iload_n dJ0_charAt_5068e_11 rfl rfl ?_
  refine w_Sxi [.ref _, .int _] dJ0_charAt_5068e_12 ml_J0_495 ms_J1_charAt_3b067 mc_J1_charAt_3b067 rfl (Nat.le_of_ble_eq_true rfl) (Nat.le_of_ble_eq_true rfl) (Nat.le_of_ble_eq_true rfl) rfl (co_jl_at Λ i hi _ _) (fun x2 => ?_)
  exact w_cret dJ0_charAt_5068e_15 rfl rfl
theorem co_js_at (Λ : g_Lay) (i : Nat) (hi : i < 2) (μ : g_St) (v : Int32) : g_Con Λ 3 yJ0_charAt_5068e cJ0_charAt_5068e 2 (some .char) [.ref (900 + 2 * i), .int v] μ (g_xi μ (js_at i μ v)) := g_conOf mc_J0_charAt_5068e.2.2.2.2 (Nat.le_of_ble_eq_true rfl) rfl (g_xi_rk (Or.inr (Or.inr (Or.inr rfl)))) (lk_js_at Λ i hi μ v)
