/-! Walks, printed by wip/gen -/
theorem dX1_clear_0 : decode cX1_clear 0 = .ok (.aload_n 0, 1) := by decide +kernel
theorem dX1_clear_1 : decode cX1_clear 1 = .ok (.iconst 0, 1) := by decide +kernel
theorem dX1_clear_2 : decode cX1_clear 2 = .ok (.putfield 42, 3) := by decide +kernel
theorem dX1_clear_5 : decode cX1_clear 5 = .ok (.aload_n 0, 1) := by decide +kernel
theorem dX1_clear_6 : decode cX1_clear 6 = .ok (.iconst 0, 1) := by decide +kernel
theorem dX1_clear_7 : decode cX1_clear 7 = .ok (.putfield 46, 3) := by decide +kernel
theorem dX1_clear_10 : decode cX1_clear 10 = .ok (.aload_n 0, 1) := by decide +kernel
theorem dX1_clear_11 : decode cX1_clear 11 = .ok (.iconst 0, 1) := by decide +kernel
theorem dX1_clear_12 : decode cX1_clear 12 = .ok (.putfield 49, 3) := by decide +kernel
theorem dX1_clear_15 : decode cX1_clear 15 = .ok (.iconst 0, 1) := by decide +kernel
theorem dX1_clear_16 : decode cX1_clear 16 = .ok (.istore_n 1, 1) := by decide +kernel
theorem dX1_clear_17 : decode cX1_clear 17 = .ok (.iload_n 1, 1) := by decide +kernel
theorem dX1_clear_18 : decode cX1_clear 18 = .ok (.iconst 5, 1) := by decide +kernel
theorem dX1_clear_19 : decode cX1_clear 19 = .ok (.if_icmp .ge 30, 3) := by decide +kernel
theorem dX1_clear_22 : decode cX1_clear 22 = .ok (.aload_n 0, 1) := by decide +kernel
theorem dX1_clear_23 : decode cX1_clear 23 = .ok (.getfield 23, 3) := by decide +kernel
theorem dX1_clear_26 : decode cX1_clear 26 = .ok (.iload_n 1, 1) := by decide +kernel
theorem dX1_clear_27 : decode cX1_clear 27 = .ok (.aaload, 1) := by decide +kernel
theorem dX1_clear_28 : decode cX1_clear 28 = .ok (.sipush 999, 3) := by decide +kernel
theorem dX1_clear_31 : decode cX1_clear 31 = .ok (.invokestatic 52, 3) := by decide +kernel
theorem dX1_clear_34 : decode cX1_clear 34 = .ok (.aload_n 0, 1) := by decide +kernel
theorem dX1_clear_35 : decode cX1_clear 35 = .ok (.getfield 23, 3) := by decide +kernel
theorem dX1_clear_38 : decode cX1_clear 38 = .ok (.iload_n 1, 1) := by decide +kernel
theorem dX1_clear_39 : decode cX1_clear 39 = .ok (.aaload, 1) := by decide +kernel
theorem dX1_clear_40 : decode cX1_clear 40 = .ok (.iload_n 1, 1) := by decide +kernel
theorem dX1_clear_41 : decode cX1_clear 41 = .ok (.iconst 0, 1) := by decide +kernel
theorem dX1_clear_42 : decode cX1_clear 42 = .ok (.iastore, 1) := by decide +kernel
theorem dX1_clear_43 : decode cX1_clear 43 = .ok (.iinc 1 1, 3) := by decide +kernel
theorem dX1_clear_46 : decode cX1_clear 46 = .ok (.goto (-29), 3) := by decide +kernel
theorem dX1_clear_49 : decode cX1_clear 49 = .ok (.iconst 0, 1) := by decide +kernel
theorem dX1_clear_50 : decode cX1_clear 50 = .ok (.istore_n 1, 1) := by decide +kernel
theorem dX1_clear_51 : decode cX1_clear 51 = .ok (.iload_n 1, 1) := by decide +kernel
theorem dX1_clear_52 : decode cX1_clear 52 = .ok (.bipush 8, 2) := by decide +kernel
theorem dX1_clear_54 : decode cX1_clear 54 = .ok (.if_icmp .ge 19, 3) := by decide +kernel
theorem dX1_clear_57 : decode cX1_clear 57 = .ok (.aload_n 0, 1) := by decide +kernel
theorem dX1_clear_58 : decode cX1_clear 58 = .ok (.getfield 39, 3) := by decide +kernel
theorem dX1_clear_61 : decode cX1_clear 61 = .ok (.iload_n 1, 1) := by decide +kernel
theorem dX1_clear_62 : decode cX1_clear 62 = .ok (.aaload, 1) := by decide +kernel
theorem dX1_clear_63 : decode cX1_clear 63 = .ok (.iconst 0, 1) := by decide +kernel
theorem dX1_clear_64 : decode cX1_clear 64 = .ok (.invokestatic 52, 3) := by decide +kernel
theorem dX1_clear_67 : decode cX1_clear 67 = .ok (.iinc 1 1, 3) := by decide +kernel
theorem dX1_clear_70 : decode cX1_clear 70 = .ok (.goto (-19), 3) := by decide +kernel
theorem dX1_clear_73 : decode cX1_clear 73 = .ok (.return_, 1) := by decide +kernel
theorem lk_ol_clear_51_b (F : Nat) (bl : Nat) (hbl : g_isLand bl) (K_51 : Int32 → g_St → Option g_St) (hK_51 : ∀ (w1 : Int32) (ν : g_St), g_Go gC 1 yX1_clear cX1_clear 2 (none : Option Jvm.ClassFile.FieldType) 51 [some (.ref bl), some (.int w1)] [] ν (Option.map o_yv (K_51 w1 ν))) (v1 : Int32) (μ : g_St) : g_Go gC 1 yX1_clear cX1_clear 2 (none : Option Jvm.ClassFile.FieldType) 51 [some (.ref bl), some (.int v1)] [] μ (Option.map o_yv (ol_clear_51_b F bl K_51 v1 μ)) := by
  unfold ol_clear_51_b
  refine g_iload_n dX1_clear_51 rfl rfl ?_
  refine g_bipush dX1_clear_52 bp_8 ?_
  refine w_icmp_ge (tgt := 73) dX1_clear_54 (by decide) ?_ ?_
  · refine g_aload_n dX1_clear_57 rfl rfl ?_
    refine g_getS dX1_clear_58 cf_X1 fl_X1_39 (ly_Land_lt hbl) (ly_Land hbl) rfl (Nat.le_of_ble_eq_true rfl) ?_
    refine g_iload_n dX1_clear_61 rfl rfl ?_
    refine w_aald4 dX1_clear_62 (ly_Land_worths_lt hbl) (ly_Land_worths hbl) (fun j11 hj11 => ?_)
    refine g_iconst dX1_clear_63 ic_0 ?_
    refine w_Syv [.ref _, .int _] dX1_clear_64 ml_X1_52 ms_J7_fill_53178 mc_J7_fill_53178 rfl (Nat.le_of_ble_eq_true rfl) (Nat.le_of_ble_eq_true rfl) (Nat.le_of_ble_eq_true rfl) rfl (co_jj_fill F _ _ (ly_Land_worths_row_lt hbl hj11) (ly_Land_worths_row hbl hj11) _ _) (fun μ12 => ?_)
    refine g_iinc (lo2 := [_, _]) dX1_clear_67 rfl rfl (Nat.le_of_ble_eq_true rfl) rfl rfl ?_
    refine g_goto (tgt := 51) dX1_clear_70 (by decide) ?_
    exact g_to (hK_51 _ _) (su_s (su_s su_0))
  · exact w_vret dX1_clear_73 rfl rfl
theorem lk_ol_clear_51 (F : Nat) (bl : Nat) (hbl : g_isLand bl) : ∀ (f : Nat) (v1 : Int32) (μ : g_St) , g_Go gC 1 yX1_clear cX1_clear 2 (none : Option Jvm.ClassFile.FieldType) 51 [some (.ref bl), some (.int v1)] [] μ (Option.map o_yv (ol_clear_51 F bl f v1 μ))
  | 0, v1, μ => g_none
  | f + 1, v1, μ => lk_ol_clear_51_b F bl hbl (ol_clear_51 F bl f) (lk_ol_clear_51 F bl hbl f) v1 μ
theorem lk_ol_clear_17_b (F : Nat) (bl : Nat) (hbl : g_isLand bl) (K_17 : Int32 → g_St → Option g_St) (hK_17 : ∀ (w1 : Int32) (ν : g_St), g_Go gC 1 yX1_clear cX1_clear 2 (none : Option Jvm.ClassFile.FieldType) 17 [some (.ref bl), some (.int w1)] [] ν (Option.map o_yv (K_17 w1 ν))) (v1 : Int32) (μ : g_St) : g_Go gC 1 yX1_clear cX1_clear 2 (none : Option Jvm.ClassFile.FieldType) 17 [some (.ref bl), some (.int v1)] [] μ (Option.map o_yv (ol_clear_17_b F bl K_17 v1 μ)) := by
  unfold ol_clear_17_b
  refine g_iload_n dX1_clear_17 rfl rfl ?_
  refine g_iconst dX1_clear_18 ic_5 ?_
  refine w_icmp_ge (tgt := 49) dX1_clear_19 (by decide) ?_ ?_
  · refine g_aload_n dX1_clear_22 rfl rfl ?_
    refine g_getS dX1_clear_23 cf_X1 fl_X1_23 (ly_Land_lt hbl) (ly_Land hbl) rfl (Nat.le_of_ble_eq_true rfl) ?_
    refine g_iload_n dX1_clear_26 rfl rfl ?_
    refine w_aald4 dX1_clear_27 (ly_Land_ways_lt hbl) (ly_Land_ways hbl) (fun j5 hj5 => ?_)
    refine g_sipush dX1_clear_28 sp_999 ?_
    refine w_Syv [.ref _, .int _] dX1_clear_31 ml_X1_52 ms_J7_fill_53178 mc_J7_fill_53178 rfl (Nat.le_of_ble_eq_true rfl) (Nat.le_of_ble_eq_true rfl) (Nat.le_of_ble_eq_true rfl) rfl (co_jj_fill F _ _ (ly_Land_ways_row_lt hbl hj5) (ly_Land_ways_row hbl hj5) _ _) (fun μ6 => ?_)
    refine g_aload_n dX1_clear_34 rfl rfl ?_
    refine g_getS dX1_clear_35 cf_X1 fl_X1_23 (ly_Land_lt hbl) (ly_Land hbl) rfl (Nat.le_of_ble_eq_true rfl) ?_
    refine g_iload_n dX1_clear_38 rfl rfl ?_
    refine w_aald4 dX1_clear_39 (ly_Land_ways_lt hbl) (ly_Land_ways hbl) (fun j8 hj8 => ?_)
    refine g_iload_n dX1_clear_40 rfl rfl ?_
    refine g_iconst dX1_clear_41 ic_0 ?_
    refine w_iast dX1_clear_42 (ly_Land_ways_row_lt hbl hj8) (ly_Land_ways_row hbl hj8) (fun μ9 => ?_)
    refine g_iinc (lo2 := [_, _]) dX1_clear_43 rfl rfl (Nat.le_of_ble_eq_true rfl) rfl rfl ?_
    refine g_goto (tgt := 17) dX1_clear_46 (by decide) ?_
    exact g_to (hK_17 _ _) (su_s (su_s su_0))
  · refine g_iconst dX1_clear_49 ic_0 ?_
    refine g_istore_n (lo2 := [_, _]) dX1_clear_50 rfl (Nat.le_of_ble_eq_true rfl) rfl rfl ?_
    exact g_to (lk_ol_clear_51 F bl hbl _ _ _) (su_s (su_s su_0))
theorem lk_ol_clear_17 (F : Nat) (bl : Nat) (hbl : g_isLand bl) : ∀ (f : Nat) (v1 : Int32) (μ : g_St) , g_Go gC 1 yX1_clear cX1_clear 2 (none : Option Jvm.ClassFile.FieldType) 17 [some (.ref bl), some (.int v1)] [] μ (Option.map o_yv (ol_clear_17 F bl f v1 μ))
  | 0, v1, μ => g_none
  | f + 1, v1, μ => lk_ol_clear_17_b F bl hbl (ol_clear_17 F bl f) (lk_ol_clear_17 F bl hbl f) v1 μ
theorem lk_ol_clear (F : Nat) (bl : Nat) (hbl : g_isLand bl) (μ : g_St) : g_Go gC 1 yX1_clear cX1_clear 2 (none : Option Jvm.ClassFile.FieldType) 0 [some (.ref bl), none] [] μ (Option.map o_yv (ol_clear F bl μ)) := by
  unfold ol_clear
  refine g_aload_n dX1_clear_0 rfl rfl ?_
  refine g_iconst dX1_clear_1 ic_0 ?_
  refine w_putI dX1_clear_2 cf_X1 fl_X1_42 (ly_Land_lt hbl) (ly_Land hbl) rfl (Nat.le_of_ble_eq_true rfl) rfl rfl rfl rfl (fun μ1 => ?_)
  refine g_aload_n dX1_clear_5 rfl rfl ?_
  refine g_iconst dX1_clear_6 ic_0 ?_
  refine w_putI dX1_clear_7 cf_X1 fl_X1_46 (ly_Land_lt hbl) (ly_Land hbl) rfl (Nat.le_of_ble_eq_true rfl) rfl rfl rfl rfl (fun μ2 => ?_)
  refine g_aload_n dX1_clear_10 rfl rfl ?_
  refine g_iconst dX1_clear_11 ic_0 ?_
  refine w_putI dX1_clear_12 cf_X1 fl_X1_49 (ly_Land_lt hbl) (ly_Land hbl) rfl (Nat.le_of_ble_eq_true rfl) rfl rfl rfl rfl (fun μ3 => ?_)
  refine g_iconst dX1_clear_15 ic_0 ?_
  refine g_istore_n (lo2 := [_, _]) dX1_clear_16 rfl (Nat.le_of_ble_eq_true rfl) rfl rfl ?_
  exact g_to (lk_ol_clear_17 F bl hbl _ _ _) (su_s (su_s su_0))
theorem co_ol_clear (F : Nat) (bl : Nat) (hbl : g_isLand bl) (μ : g_St) : g_Con gC 1 yX1_clear cX1_clear 2 (none : Option Jvm.ClassFile.FieldType) [.ref bl] μ (g_yv (ol_clear F bl μ)) := g_conOf mc_X1_clear.2.2.2.2 (Nat.le_of_ble_eq_true rfl) rfl g_yv_rk (lk_ol_clear F bl hbl μ)
theorem dX1_isTold_0 : decode cX1_isTold 0 = .ok (.aload_n 0, 1) := by decide +kernel
theorem dX1_isTold_1 : decode cX1_isTold 1 = .ok (.getfield 9, 3) := by decide +kernel
theorem dX1_isTold_4 : decode cX1_isTold 4 = .ok (.aload_n 0, 1) := by decide +kernel
theorem dX1_isTold_5 : decode cX1_isTold 5 = .ok (.getfield 42, 3) := by decide +kernel
theorem dX1_isTold_8 : decode cX1_isTold 8 = .ok (.lload_n 1, 1) := by decide +kernel
theorem dX1_isTold_9 : decode cX1_isTold 9 = .ok (.invokestatic 58, 3) := by decide +kernel
theorem dX1_isTold_12 : decode cX1_isTold 12 = .ok (.iconst (-1), 1) := by decide +kernel
theorem dX1_isTold_13 : decode cX1_isTold 13 = .ok (.if_icmp .ne 35, 3) := by decide +kernel
theorem dX1_isTold_16 : decode cX1_isTold 16 = .ok (.aload_n 0, 1) := by decide +kernel
theorem dX1_isTold_17 : decode cX1_isTold 17 = .ok (.getfield 15, 3) := by decide +kernel
theorem dX1_isTold_20 : decode cX1_isTold 20 = .ok (.aload_n 0, 1) := by decide +kernel
theorem dX1_isTold_21 : decode cX1_isTold 21 = .ok (.getfield 46, 3) := by decide +kernel
theorem dX1_isTold_24 : decode cX1_isTold 24 = .ok (.lload_n 1, 1) := by decide +kernel
theorem dX1_isTold_25 : decode cX1_isTold 25 = .ok (.invokestatic 58, 3) := by decide +kernel
theorem dX1_isTold_28 : decode cX1_isTold 28 = .ok (.iconst (-1), 1) := by decide +kernel
theorem dX1_isTold_29 : decode cX1_isTold 29 = .ok (.if_icmp .ne 19, 3) := by decide +kernel
theorem dX1_isTold_32 : decode cX1_isTold 32 = .ok (.aload_n 0, 1) := by decide +kernel
theorem dX1_isTold_33 : decode cX1_isTold 33 = .ok (.getfield 18, 3) := by decide +kernel
theorem dX1_isTold_36 : decode cX1_isTold 36 = .ok (.aload_n 0, 1) := by decide +kernel
theorem dX1_isTold_37 : decode cX1_isTold 37 = .ok (.getfield 49, 3) := by decide +kernel
theorem dX1_isTold_40 : decode cX1_isTold 40 = .ok (.lload_n 1, 1) := by decide +kernel
theorem dX1_isTold_41 : decode cX1_isTold 41 = .ok (.invokestatic 58, 3) := by decide +kernel
theorem dX1_isTold_44 : decode cX1_isTold 44 = .ok (.iconst (-1), 1) := by decide +kernel
theorem dX1_isTold_45 : decode cX1_isTold 45 = .ok (.if_icmp .eq 7, 3) := by decide +kernel
theorem dX1_isTold_48 : decode cX1_isTold 48 = .ok (.iconst 1, 1) := by decide +kernel
theorem dX1_isTold_49 : decode cX1_isTold 49 = .ok (.goto 4, 3) := by decide +kernel
theorem dX1_isTold_52 : decode cX1_isTold 52 = .ok (.iconst 0, 1) := by decide +kernel
theorem dX1_isTold_53 : decode cX1_isTold 53 = .ok (.ireturn, 1) := by decide +kernel
theorem lk_ol_isTold (F : Nat) (bl : Nat) (hbl : g_isLand bl) (μ : g_St) (v1 : Int64) : g_Go gC 1 yX1_isTold cX1_isTold 3 (some .boolean) 0 [some (.ref bl), some (.long v1), none] [] μ (Option.map (o_i μ) (ol_isTold F bl μ v1)) := by
  unfold ol_isTold
  refine g_aload_n dX1_isTold_0 rfl rfl ?_
  refine g_getS dX1_isTold_1 cf_X1 fl_X1_9 (ly_Land_lt hbl) (ly_Land hbl) rfl (Nat.le_of_ble_eq_true rfl) ?_
  refine g_aload_n dX1_isTold_4 rfl rfl ?_
  refine g_getI dX1_isTold_5 cf_X1 fl_X1_42 (ly_Land_lt hbl) (ly_Land hbl) rfl (Nat.le_of_ble_eq_true rfl) ?_
  refine g_lload_n dX1_isTold_8 rfl rfl ?_
  refine w_Sxi [.ref _, .int _, .long _] dX1_isTold_9 ml_X1_58 ms_X8_indexIn mc_X8_indexIn rfl (Nat.le_of_ble_eq_true rfl) (Nat.le_of_ble_eq_true rfl) (Nat.le_of_ble_eq_true rfl) rfl (co_oo_indexIn F _ _ (ly_Land_placeNames_lt hbl) (ly_Land_placeNames hbl) _ _ _) (fun x1 => ?_)
  refine g_iconst dX1_isTold_12 ic_m1 ?_
  refine w_icmp_ne (tgt := 48) dX1_isTold_13 (by decide) ?_ ?_
  · refine g_aload_n dX1_isTold_16 rfl rfl ?_
    refine g_getS dX1_isTold_17 cf_X1 fl_X1_15 (ly_Land_lt hbl) (ly_Land hbl) rfl (Nat.le_of_ble_eq_true rfl) ?_
    refine g_aload_n dX1_isTold_20 rfl rfl ?_
    refine g_getI dX1_isTold_21 cf_X1 fl_X1_46 (ly_Land_lt hbl) (ly_Land hbl) rfl (Nat.le_of_ble_eq_true rfl) ?_
    refine g_lload_n dX1_isTold_24 rfl rfl ?_
    refine w_Sxi [.ref _, .int _, .long _] dX1_isTold_25 ml_X1_58 ms_X8_indexIn mc_X8_indexIn rfl (Nat.le_of_ble_eq_true rfl) (Nat.le_of_ble_eq_true rfl) (Nat.le_of_ble_eq_true rfl) rfl (co_oo_indexIn F _ _ (ly_Land_goodNames_lt hbl) (ly_Land_goodNames hbl) _ _ _) (fun x2 => ?_)
    refine g_iconst dX1_isTold_28 ic_m1 ?_
    refine w_icmp_ne (tgt := 48) dX1_isTold_29 (by decide) ?_ ?_
    · refine g_aload_n dX1_isTold_32 rfl rfl ?_
      refine g_getS dX1_isTold_33 cf_X1 fl_X1_18 (ly_Land_lt hbl) (ly_Land hbl) rfl (Nat.le_of_ble_eq_true rfl) ?_
      refine g_aload_n dX1_isTold_36 rfl rfl ?_
      refine g_getI dX1_isTold_37 cf_X1 fl_X1_49 (ly_Land_lt hbl) (ly_Land hbl) rfl (Nat.le_of_ble_eq_true rfl) ?_
      refine g_lload_n dX1_isTold_40 rfl rfl ?_
      refine w_Sxi [.ref _, .int _, .long _] dX1_isTold_41 ml_X1_58 ms_X8_indexIn mc_X8_indexIn rfl (Nat.le_of_ble_eq_true rfl) (Nat.le_of_ble_eq_true rfl) (Nat.le_of_ble_eq_true rfl) rfl (co_oo_indexIn F _ _ (ly_Land_personNames_lt hbl) (ly_Land_personNames hbl) _ _ _) (fun x3 => ?_)
      refine g_iconst dX1_isTold_44 ic_m1 ?_
      refine w_icmp_eq (tgt := 52) dX1_isTold_45 (by decide) ?_ ?_
      · refine g_iconst dX1_isTold_52 ic_0 ?_
        exact w_iret dX1_isTold_53 (by decide) rfl
      · refine g_iconst dX1_isTold_48 ic_1 ?_
        refine g_goto (tgt := 53) dX1_isTold_49 (by decide) ?_
        exact w_iret dX1_isTold_53 (by decide) rfl
    · refine g_iconst dX1_isTold_48 ic_1 ?_
      refine g_goto (tgt := 53) dX1_isTold_49 (by decide) ?_
      exact w_iret dX1_isTold_53 (by decide) rfl
  · refine g_iconst dX1_isTold_48 ic_1 ?_
    refine g_goto (tgt := 53) dX1_isTold_49 (by decide) ?_
    exact w_iret dX1_isTold_53 (by decide) rfl
theorem co_ol_isTold (F : Nat) (bl : Nat) (hbl : g_isLand bl) (μ : g_St) (v1 : Int64) : g_Con gC 1 yX1_isTold cX1_isTold 3 (some .boolean) [.ref bl, .long v1] μ (g_xi μ (ol_isTold F bl μ v1)) := g_conOf mc_X1_isTold.2.2.2.2 (Nat.le_of_ble_eq_true rfl) rfl (g_xi_rk (Or.inr (Or.inl rfl))) (lk_ol_isTold F bl hbl μ v1)
theorem dX1_shortenWays_0 : decode cX1_shortenWays 0 = .ok (.iconst 0, 1) := by decide +kernel
theorem dX1_shortenWays_1 : decode cX1_shortenWays 1 = .ok (.istore_n 1, 1) := by decide +kernel
theorem dX1_shortenWays_2 : decode cX1_shortenWays 2 = .ok (.iload_n 1, 1) := by decide +kernel
theorem dX1_shortenWays_3 : decode cX1_shortenWays 3 = .ok (.aload_n 0, 1) := by decide +kernel
theorem dX1_shortenWays_4 : decode cX1_shortenWays 4 = .ok (.getfield 42, 3) := by decide +kernel
theorem dX1_shortenWays_7 : decode cX1_shortenWays 7 = .ok (.if_icmp .ge 77, 3) := by decide +kernel
theorem dX1_shortenWays_10 : decode cX1_shortenWays 10 = .ok (.iconst 0, 1) := by decide +kernel
theorem dX1_shortenWays_11 : decode cX1_shortenWays 11 = .ok (.istore_n 2, 1) := by decide +kernel
theorem dX1_shortenWays_12 : decode cX1_shortenWays 12 = .ok (.iload_n 2, 1) := by decide +kernel
theorem dX1_shortenWays_13 : decode cX1_shortenWays 13 = .ok (.aload_n 0, 1) := by decide +kernel
theorem dX1_shortenWays_14 : decode cX1_shortenWays 14 = .ok (.getfield 42, 3) := by decide +kernel
theorem dX1_shortenWays_17 : decode cX1_shortenWays 17 = .ok (.if_icmp .ge 61, 3) := by decide +kernel
theorem dX1_shortenWays_20 : decode cX1_shortenWays 20 = .ok (.iconst 0, 1) := by decide +kernel
theorem dX1_shortenWays_21 : decode cX1_shortenWays 21 = .ok (.istore_n 3, 1) := by decide +kernel
theorem dX1_shortenWays_22 : decode cX1_shortenWays 22 = .ok (.iload_n 3, 1) := by decide +kernel
theorem dX1_shortenWays_23 : decode cX1_shortenWays 23 = .ok (.aload_n 0, 1) := by decide +kernel
theorem dX1_shortenWays_24 : decode cX1_shortenWays 24 = .ok (.getfield 42, 3) := by decide +kernel
theorem dX1_shortenWays_27 : decode cX1_shortenWays 27 = .ok (.if_icmp .ge 45, 3) := by decide +kernel
theorem dX1_shortenWays_30 : decode cX1_shortenWays 30 = .ok (.aload_n 0, 1) := by decide +kernel
theorem dX1_shortenWays_31 : decode cX1_shortenWays 31 = .ok (.getfield 23, 3) := by decide +kernel
theorem dX1_shortenWays_34 : decode cX1_shortenWays 34 = .ok (.iload_n 2, 1) := by decide +kernel
theorem dX1_shortenWays_35 : decode cX1_shortenWays 35 = .ok (.aaload, 1) := by decide +kernel
theorem dX1_shortenWays_36 : decode cX1_shortenWays 36 = .ok (.iload_n 3, 1) := by decide +kernel
theorem dX1_shortenWays_37 : decode cX1_shortenWays 37 = .ok (.aload_n 0, 1) := by decide +kernel
theorem dX1_shortenWays_38 : decode cX1_shortenWays 38 = .ok (.getfield 23, 3) := by decide +kernel
theorem dX1_shortenWays_41 : decode cX1_shortenWays 41 = .ok (.iload_n 2, 1) := by decide +kernel
theorem dX1_shortenWays_42 : decode cX1_shortenWays 42 = .ok (.aaload, 1) := by decide +kernel
theorem dX1_shortenWays_43 : decode cX1_shortenWays 43 = .ok (.iload_n 3, 1) := by decide +kernel
theorem dX1_shortenWays_44 : decode cX1_shortenWays 44 = .ok (.iaload, 1) := by decide +kernel
theorem dX1_shortenWays_45 : decode cX1_shortenWays 45 = .ok (.aload_n 0, 1) := by decide +kernel
theorem dX1_shortenWays_46 : decode cX1_shortenWays 46 = .ok (.getfield 23, 3) := by decide +kernel
theorem dX1_shortenWays_49 : decode cX1_shortenWays 49 = .ok (.iload_n 2, 1) := by decide +kernel
theorem dX1_shortenWays_50 : decode cX1_shortenWays 50 = .ok (.aaload, 1) := by decide +kernel
theorem dX1_shortenWays_51 : decode cX1_shortenWays 51 = .ok (.iload_n 1, 1) := by decide +kernel
theorem dX1_shortenWays_52 : decode cX1_shortenWays 52 = .ok (.iaload, 1) := by decide +kernel
theorem dX1_shortenWays_53 : decode cX1_shortenWays 53 = .ok (.aload_n 0, 1) := by decide +kernel
theorem dX1_shortenWays_54 : decode cX1_shortenWays 54 = .ok (.getfield 23, 3) := by decide +kernel
theorem dX1_shortenWays_57 : decode cX1_shortenWays 57 = .ok (.iload_n 1, 1) := by decide +kernel
theorem dX1_shortenWays_58 : decode cX1_shortenWays 58 = .ok (.aaload, 1) := by decide +kernel
theorem dX1_shortenWays_59 : decode cX1_shortenWays 59 = .ok (.iload_n 3, 1) := by decide +kernel
theorem dX1_shortenWays_60 : decode cX1_shortenWays 60 = .ok (.iaload, 1) := by decide +kernel
theorem dX1_shortenWays_61 : decode cX1_shortenWays 61 = .ok (.iadd, 1) := by decide +kernel
theorem dX1_shortenWays_62 : decode cX1_shortenWays 62 = .ok (.invokestatic 62, 3) := by decide +kernel
theorem dX1_shortenWays_65 : decode cX1_shortenWays 65 = .ok (.iastore, 1) := by decide +kernel
theorem dX1_shortenWays_66 : decode cX1_shortenWays 66 = .ok (.iinc 3 1, 3) := by decide +kernel
theorem dX1_shortenWays_69 : decode cX1_shortenWays 69 = .ok (.goto (-47), 3) := by decide +kernel
theorem dX1_shortenWays_72 : decode cX1_shortenWays 72 = .ok (.iinc 2 1, 3) := by decide +kernel
theorem dX1_shortenWays_75 : decode cX1_shortenWays 75 = .ok (.goto (-63), 3) := by decide +kernel
theorem dX1_shortenWays_78 : decode cX1_shortenWays 78 = .ok (.iinc 1 1, 3) := by decide +kernel
theorem dX1_shortenWays_81 : decode cX1_shortenWays 81 = .ok (.goto (-79), 3) := by decide +kernel
theorem dX1_shortenWays_84 : decode cX1_shortenWays 84 = .ok (.return_, 1) := by decide +kernel
theorem lk_ol_shortenWays_22_b (F : Nat) (bl : Nat) (hbl : g_isLand bl) (v1 : Int32) (v2 : Int32) (K_2 : Int32 → g_St → Option g_St) (hK_2 : ∀ (w1 : Int32) (ν : g_St), g_Go gC 1 yX1_shortenWays cX1_shortenWays 4 (none : Option Jvm.ClassFile.FieldType) 2 [some (.ref bl), some (.int w1), none, none] [] ν (Option.map o_yv (K_2 w1 ν))) (K_12 : Int32 → g_St → Option g_St) (hK_12 : ∀ (w2 : Int32) (ν : g_St), g_Go gC 1 yX1_shortenWays cX1_shortenWays 4 (none : Option Jvm.ClassFile.FieldType) 12 [some (.ref bl), some (.int v1), some (.int w2), none] [] ν (Option.map o_yv (K_12 w2 ν))) (K_22 : Int32 → g_St → Option g_St) (hK_22 : ∀ (w3 : Int32) (ν : g_St), g_Go gC 1 yX1_shortenWays cX1_shortenWays 4 (none : Option Jvm.ClassFile.FieldType) 22 [some (.ref bl), some (.int v1), some (.int v2), some (.int w3)] [] ν (Option.map o_yv (K_22 w3 ν))) (v3 : Int32) (μ : g_St) : g_Go gC 1 yX1_shortenWays cX1_shortenWays 4 (none : Option Jvm.ClassFile.FieldType) 22 [some (.ref bl), some (.int v1), some (.int v2), some (.int v3)] [] μ (Option.map o_yv (ol_shortenWays_22_b F bl v1 v2 K_2 K_12 K_22 v3 μ)) := by
  unfold ol_shortenWays_22_b
  refine g_iload_n dX1_shortenWays_22 rfl rfl ?_
  refine g_aload_n dX1_shortenWays_23 rfl rfl ?_
  refine g_getI dX1_shortenWays_24 cf_X1 fl_X1_42 (ly_Land_lt hbl) (ly_Land hbl) rfl (Nat.le_of_ble_eq_true rfl) ?_
  refine w_icmp_ge (tgt := 72) dX1_shortenWays_27 (by decide) ?_ ?_
  · refine g_aload_n dX1_shortenWays_30 rfl rfl ?_
    refine g_getS dX1_shortenWays_31 cf_X1 fl_X1_23 (ly_Land_lt hbl) (ly_Land hbl) rfl (Nat.le_of_ble_eq_true rfl) ?_
    refine g_iload_n dX1_shortenWays_34 rfl rfl ?_
    refine w_aald4 dX1_shortenWays_35 (ly_Land_ways_lt hbl) (ly_Land_ways hbl) (fun j2 hj2 => ?_)
    refine g_iload_n dX1_shortenWays_36 rfl rfl ?_
    refine g_aload_n dX1_shortenWays_37 rfl rfl ?_
    refine g_getS dX1_shortenWays_38 cf_X1 fl_X1_23 (ly_Land_lt hbl) (ly_Land hbl) rfl (Nat.le_of_ble_eq_true rfl) ?_
    refine g_iload_n dX1_shortenWays_41 rfl rfl ?_
    refine w_aald4 dX1_shortenWays_42 (ly_Land_ways_lt hbl) (ly_Land_ways hbl) (fun j4 hj4 => ?_)
    refine g_iload_n dX1_shortenWays_43 rfl rfl ?_
    refine w_iald dX1_shortenWays_44 (ly_Land_ways_row_lt hbl hj4) (ly_Land_ways_row hbl hj4) (fun x5 => ?_)
    refine g_aload_n dX1_shortenWays_45 rfl rfl ?_
    refine g_getS dX1_shortenWays_46 cf_X1 fl_X1_23 (ly_Land_lt hbl) (ly_Land hbl) rfl (Nat.le_of_ble_eq_true rfl) ?_
    refine g_iload_n dX1_shortenWays_49 rfl rfl ?_
    refine w_aald4 dX1_shortenWays_50 (ly_Land_ways_lt hbl) (ly_Land_ways hbl) (fun j7 hj7 => ?_)
    refine g_iload_n dX1_shortenWays_51 rfl rfl ?_
    refine w_iald dX1_shortenWays_52 (ly_Land_ways_row_lt hbl hj7) (ly_Land_ways_row hbl hj7) (fun x8 => ?_)
    refine g_aload_n dX1_shortenWays_53 rfl rfl ?_
    refine g_getS dX1_shortenWays_54 cf_X1 fl_X1_23 (ly_Land_lt hbl) (ly_Land hbl) rfl (Nat.le_of_ble_eq_true rfl) ?_
    refine g_iload_n dX1_shortenWays_57 rfl rfl ?_
    refine w_aald4 dX1_shortenWays_58 (ly_Land_ways_lt hbl) (ly_Land_ways hbl) (fun j10 hj10 => ?_)
    refine g_iload_n dX1_shortenWays_59 rfl rfl ?_
    refine w_iald dX1_shortenWays_60 (ly_Land_ways_row_lt hbl hj10) (ly_Land_ways_row hbl hj10) (fun x11 => ?_)
    refine g_iadd dX1_shortenWays_61 ?_
    refine g_mmin g_mm dX1_shortenWays_62 mh_X1_62 (Nat.le_of_ble_eq_true rfl) (Nat.le_of_ble_eq_true rfl) ?_
    refine w_iast dX1_shortenWays_65 (ly_Land_ways_row_lt hbl hj2) (ly_Land_ways_row hbl hj2) (fun μ12 => ?_)
    refine g_iinc (lo2 := [_, _, _, _]) dX1_shortenWays_66 rfl rfl (Nat.le_of_ble_eq_true rfl) rfl rfl ?_
    refine g_goto (tgt := 22) dX1_shortenWays_69 (by decide) ?_
    exact g_to (hK_22 _ _) (su_s (su_s (su_s (su_s su_0))))
  · refine g_iinc (lo2 := [_, _, _, _]) dX1_shortenWays_72 rfl rfl (Nat.le_of_ble_eq_true rfl) rfl rfl ?_
    refine g_goto (tgt := 12) dX1_shortenWays_75 (by decide) ?_
    exact g_to (hK_12 _ _) (su_s (su_s (su_s (su_n su_0))))
theorem lk_ol_shortenWays_22 (F : Nat) (bl : Nat) (hbl : g_isLand bl) (v1 : Int32) (v2 : Int32) (K_2 : Int32 → g_St → Option g_St) (hK_2 : ∀ (w1 : Int32) (ν : g_St), g_Go gC 1 yX1_shortenWays cX1_shortenWays 4 (none : Option Jvm.ClassFile.FieldType) 2 [some (.ref bl), some (.int w1), none, none] [] ν (Option.map o_yv (K_2 w1 ν))) (K_12 : Int32 → g_St → Option g_St) (hK_12 : ∀ (w2 : Int32) (ν : g_St), g_Go gC 1 yX1_shortenWays cX1_shortenWays 4 (none : Option Jvm.ClassFile.FieldType) 12 [some (.ref bl), some (.int v1), some (.int w2), none] [] ν (Option.map o_yv (K_12 w2 ν))) : ∀ (f : Nat) (v3 : Int32) (μ : g_St) , g_Go gC 1 yX1_shortenWays cX1_shortenWays 4 (none : Option Jvm.ClassFile.FieldType) 22 [some (.ref bl), some (.int v1), some (.int v2), some (.int v3)] [] μ (Option.map o_yv (ol_shortenWays_22 F bl v1 v2 K_2 K_12 f v3 μ))
  | 0, v3, μ => g_none
  | f + 1, v3, μ => lk_ol_shortenWays_22_b F bl hbl v1 v2 K_2 hK_2 K_12 hK_12 (ol_shortenWays_22 F bl v1 v2 K_2 K_12 f) (lk_ol_shortenWays_22 F bl hbl v1 v2 K_2 hK_2 K_12 hK_12 f) v3 μ
theorem lk_ol_shortenWays_12_b (F : Nat) (bl : Nat) (hbl : g_isLand bl) (v1 : Int32) (K_2 : Int32 → g_St → Option g_St) (hK_2 : ∀ (w1 : Int32) (ν : g_St), g_Go gC 1 yX1_shortenWays cX1_shortenWays 4 (none : Option Jvm.ClassFile.FieldType) 2 [some (.ref bl), some (.int w1), none, none] [] ν (Option.map o_yv (K_2 w1 ν))) (K_12 : Int32 → g_St → Option g_St) (hK_12 : ∀ (w2 : Int32) (ν : g_St), g_Go gC 1 yX1_shortenWays cX1_shortenWays 4 (none : Option Jvm.ClassFile.FieldType) 12 [some (.ref bl), some (.int v1), some (.int w2), none] [] ν (Option.map o_yv (K_12 w2 ν))) (v2 : Int32) (μ : g_St) : g_Go gC 1 yX1_shortenWays cX1_shortenWays 4 (none : Option Jvm.ClassFile.FieldType) 12 [some (.ref bl), some (.int v1), some (.int v2), none] [] μ (Option.map o_yv (ol_shortenWays_12_b F bl v1 K_2 K_12 v2 μ)) := by
  unfold ol_shortenWays_12_b
  refine g_iload_n dX1_shortenWays_12 rfl rfl ?_
  refine g_aload_n dX1_shortenWays_13 rfl rfl ?_
  refine g_getI dX1_shortenWays_14 cf_X1 fl_X1_42 (ly_Land_lt hbl) (ly_Land hbl) rfl (Nat.le_of_ble_eq_true rfl) ?_
  refine w_icmp_ge (tgt := 78) dX1_shortenWays_17 (by decide) ?_ ?_
  · refine g_iconst dX1_shortenWays_20 ic_0 ?_
    refine g_istore_n (lo2 := [_, _, _, _]) dX1_shortenWays_21 rfl (Nat.le_of_ble_eq_true rfl) rfl rfl ?_
    exact g_to (lk_ol_shortenWays_22 F bl hbl _ _ K_2 hK_2 K_12 hK_12 _ _ _) (su_s (su_s (su_s (su_s su_0))))
  · refine g_iinc (lo2 := [_, _, _, _]) dX1_shortenWays_78 rfl rfl (Nat.le_of_ble_eq_true rfl) rfl rfl ?_
    refine g_goto (tgt := 2) dX1_shortenWays_81 (by decide) ?_
    exact g_to (hK_2 _ _) (su_s (su_s (su_n (su_n su_0))))
theorem lk_ol_shortenWays_12 (F : Nat) (bl : Nat) (hbl : g_isLand bl) (v1 : Int32) (K_2 : Int32 → g_St → Option g_St) (hK_2 : ∀ (w1 : Int32) (ν : g_St), g_Go gC 1 yX1_shortenWays cX1_shortenWays 4 (none : Option Jvm.ClassFile.FieldType) 2 [some (.ref bl), some (.int w1), none, none] [] ν (Option.map o_yv (K_2 w1 ν))) : ∀ (f : Nat) (v2 : Int32) (μ : g_St) , g_Go gC 1 yX1_shortenWays cX1_shortenWays 4 (none : Option Jvm.ClassFile.FieldType) 12 [some (.ref bl), some (.int v1), some (.int v2), none] [] μ (Option.map o_yv (ol_shortenWays_12 F bl v1 K_2 f v2 μ))
  | 0, v2, μ => g_none
  | f + 1, v2, μ => lk_ol_shortenWays_12_b F bl hbl v1 K_2 hK_2 (ol_shortenWays_12 F bl v1 K_2 f) (lk_ol_shortenWays_12 F bl hbl v1 K_2 hK_2 f) v2 μ
theorem lk_ol_shortenWays_2_b (F : Nat) (bl : Nat) (hbl : g_isLand bl) (K_2 : Int32 → g_St → Option g_St) (hK_2 : ∀ (w1 : Int32) (ν : g_St), g_Go gC 1 yX1_shortenWays cX1_shortenWays 4 (none : Option Jvm.ClassFile.FieldType) 2 [some (.ref bl), some (.int w1), none, none] [] ν (Option.map o_yv (K_2 w1 ν))) (v1 : Int32) (μ : g_St) : g_Go gC 1 yX1_shortenWays cX1_shortenWays 4 (none : Option Jvm.ClassFile.FieldType) 2 [some (.ref bl), some (.int v1), none, none] [] μ (Option.map o_yv (ol_shortenWays_2_b F bl K_2 v1 μ)) := by
  unfold ol_shortenWays_2_b
  refine g_iload_n dX1_shortenWays_2 rfl rfl ?_
  refine g_aload_n dX1_shortenWays_3 rfl rfl ?_
  refine g_getI dX1_shortenWays_4 cf_X1 fl_X1_42 (ly_Land_lt hbl) (ly_Land hbl) rfl (Nat.le_of_ble_eq_true rfl) ?_
  refine w_icmp_ge (tgt := 84) dX1_shortenWays_7 (by decide) ?_ ?_
  · refine g_iconst dX1_shortenWays_10 ic_0 ?_
    refine g_istore_n (lo2 := [_, _, _, _]) dX1_shortenWays_11 rfl (Nat.le_of_ble_eq_true rfl) rfl rfl ?_
    exact g_to (lk_ol_shortenWays_12 F bl hbl _ K_2 hK_2 _ _ _) (su_s (su_s (su_s (su_n su_0))))
  · exact w_vret dX1_shortenWays_84 rfl rfl
theorem lk_ol_shortenWays_2 (F : Nat) (bl : Nat) (hbl : g_isLand bl) : ∀ (f : Nat) (v1 : Int32) (μ : g_St) , g_Go gC 1 yX1_shortenWays cX1_shortenWays 4 (none : Option Jvm.ClassFile.FieldType) 2 [some (.ref bl), some (.int v1), none, none] [] μ (Option.map o_yv (ol_shortenWays_2 F bl f v1 μ))
  | 0, v1, μ => g_none
  | f + 1, v1, μ => lk_ol_shortenWays_2_b F bl hbl (ol_shortenWays_2 F bl f) (lk_ol_shortenWays_2 F bl hbl f) v1 μ
theorem lk_ol_shortenWays (F : Nat) (bl : Nat) (hbl : g_isLand bl) (μ : g_St) : g_Go gC 1 yX1_shortenWays cX1_shortenWays 4 (none : Option Jvm.ClassFile.FieldType) 0 [some (.ref bl), none, none, none] [] μ (Option.map o_yv (ol_shortenWays F bl μ)) := by
  unfold ol_shortenWays
  refine g_iconst dX1_shortenWays_0 ic_0 ?_
  refine g_istore_n (lo2 := [_, _, _, _]) dX1_shortenWays_1 rfl (Nat.le_of_ble_eq_true rfl) rfl rfl ?_
  exact g_to (lk_ol_shortenWays_2 F bl hbl _ _ _) (su_s (su_s (su_n (su_n su_0))))
theorem co_ol_shortenWays (F : Nat) (bl : Nat) (hbl : g_isLand bl) (μ : g_St) : g_Con gC 1 yX1_shortenWays cX1_shortenWays 4 (none : Option Jvm.ClassFile.FieldType) [.ref bl] μ (g_yv (ol_shortenWays F bl μ)) := g_conOf mc_X1_shortenWays.2.2.2.2 (Nat.le_of_ble_eq_true rfl) rfl g_yv_rk (lk_ol_shortenWays F bl hbl μ)
theorem dX1_away_0 : decode cX1_away 0 = .ok (.aload_n 0, 1) := by decide +kernel
theorem dX1_away_1 : decode cX1_away 1 = .ok (.getfield 23, 3) := by decide +kernel
theorem dX1_away_4 : decode cX1_away 4 = .ok (.aload_n 0, 1) := by decide +kernel
theorem dX1_away_5 : decode cX1_away 5 = .ok (.getfield 33, 3) := by decide +kernel
theorem dX1_away_8 : decode cX1_away 8 = .ok (.iload_n 1, 1) := by decide +kernel
theorem dX1_away_9 : decode cX1_away 9 = .ok (.iaload, 1) := by decide +kernel
theorem dX1_away_10 : decode cX1_away 10 = .ok (.aaload, 1) := by decide +kernel
theorem dX1_away_11 : decode cX1_away 11 = .ok (.aload_n 0, 1) := by decide +kernel
theorem dX1_away_12 : decode cX1_away 12 = .ok (.getfield 33, 3) := by decide +kernel
theorem dX1_away_15 : decode cX1_away 15 = .ok (.iload_n 2, 1) := by decide +kernel
theorem dX1_away_16 : decode cX1_away 16 = .ok (.iaload, 1) := by decide +kernel
theorem dX1_away_17 : decode cX1_away 17 = .ok (.iaload, 1) := by decide +kernel
theorem dX1_away_18 : decode cX1_away 18 = .ok (.ireturn, 1) := by decide +kernel
theorem lk_ol_away (bl : Nat) (hbl : g_isLand bl) (μ : g_St) (v1 : Int32) (v2 : Int32) : g_Go gC 0 yX1_away cX1_away 3 (some .int) 0 [some (.ref bl), some (.int v1), some (.int v2)] [] μ (Option.map (o_i μ) (ol_away bl μ v1 v2)) := by
  unfold ol_away
  refine g_aload_n dX1_away_0 rfl rfl ?_
  refine g_getS dX1_away_1 cf_X1 fl_X1_23 (ly_Land_lt hbl) (ly_Land hbl) rfl (Nat.le_of_ble_eq_true rfl) ?_
  refine g_aload_n dX1_away_4 rfl rfl ?_
  refine g_getS dX1_away_5 cf_X1 fl_X1_33 (ly_Land_lt hbl) (ly_Land hbl) rfl (Nat.le_of_ble_eq_true rfl) ?_
  refine g_iload_n dX1_away_8 rfl rfl ?_
  refine w_iald dX1_away_9 (ly_Land_home_lt hbl) (ly_Land_home hbl) (fun x1 => ?_)
  refine w_aald4 dX1_away_10 (ly_Land_ways_lt hbl) (ly_Land_ways hbl) (fun j3 hj3 => ?_)
  refine g_aload_n dX1_away_11 rfl rfl ?_
  refine g_getS dX1_away_12 cf_X1 fl_X1_33 (ly_Land_lt hbl) (ly_Land hbl) rfl (Nat.le_of_ble_eq_true rfl) ?_
  refine g_iload_n dX1_away_15 rfl rfl ?_
  refine w_iald dX1_away_16 (ly_Land_home_lt hbl) (ly_Land_home hbl) (fun x4 => ?_)
  refine w_iald dX1_away_17 (ly_Land_ways_row_lt hbl hj3) (ly_Land_ways_row hbl hj3) (fun x5 => ?_)
  exact w_iret dX1_away_18 rfl rfl
theorem co_ol_away (bl : Nat) (hbl : g_isLand bl) (μ : g_St) (v1 : Int32) (v2 : Int32) : g_Con gC 0 yX1_away cX1_away 3 (some .int) [.ref bl, .int v1, .int v2] μ (g_xi μ (ol_away bl μ v1 v2)) := g_conOf mc_X1_away.2.2.2.2 (Nat.le_of_ble_eq_true rfl) rfl (g_xi_rk (Or.inl rfl)) (lk_ol_away bl hbl μ v1 v2)
theorem dX1_makersOf_0 : decode cX1_makersOf 0 = .ok (.iconst 0, 1) := by decide +kernel
theorem dX1_makersOf_1 : decode cX1_makersOf 1 = .ok (.istore_n 2, 1) := by decide +kernel
theorem dX1_makersOf_2 : decode cX1_makersOf 2 = .ok (.iconst 0, 1) := by decide +kernel
theorem dX1_makersOf_3 : decode cX1_makersOf 3 = .ok (.istore_n 3, 1) := by decide +kernel
theorem dX1_makersOf_4 : decode cX1_makersOf 4 = .ok (.iload_n 3, 1) := by decide +kernel
theorem dX1_makersOf_5 : decode cX1_makersOf 5 = .ok (.aload_n 0, 1) := by decide +kernel
theorem dX1_makersOf_6 : decode cX1_makersOf 6 = .ok (.getfield 49, 3) := by decide +kernel
theorem dX1_makersOf_9 : decode cX1_makersOf 9 = .ok (.if_icmp .ge 24, 3) := by decide +kernel
theorem dX1_makersOf_12 : decode cX1_makersOf 12 = .ok (.iload_n 2, 1) := by decide +kernel
theorem dX1_makersOf_13 : decode cX1_makersOf 13 = .ok (.aload_n 0, 1) := by decide +kernel
theorem dX1_makersOf_14 : decode cX1_makersOf 14 = .ok (.getfield 36, 3) := by decide +kernel
theorem dX1_makersOf_17 : decode cX1_makersOf 17 = .ok (.iload_n 3, 1) := by decide +kernel
theorem dX1_makersOf_18 : decode cX1_makersOf 18 = .ok (.iaload, 1) := by decide +kernel
theorem dX1_makersOf_19 : decode cX1_makersOf 19 = .ok (.iload_n 1, 1) := by decide +kernel
theorem dX1_makersOf_20 : decode cX1_makersOf 20 = .ok (.ishr, 1) := by decide +kernel
theorem dX1_makersOf_21 : decode cX1_makersOf 21 = .ok (.iconst 1, 1) := by decide +kernel
theorem dX1_makersOf_22 : decode cX1_makersOf 22 = .ok (.iand, 1) := by decide +kernel
theorem dX1_makersOf_23 : decode cX1_makersOf 23 = .ok (.iload_n 3, 1) := by decide +kernel
theorem dX1_makersOf_24 : decode cX1_makersOf 24 = .ok (.ishl, 1) := by decide +kernel
theorem dX1_makersOf_25 : decode cX1_makersOf 25 = .ok (.ior, 1) := by decide +kernel
theorem dX1_makersOf_26 : decode cX1_makersOf 26 = .ok (.istore_n 2, 1) := by decide +kernel
theorem dX1_makersOf_27 : decode cX1_makersOf 27 = .ok (.iinc 3 1, 3) := by decide +kernel
theorem dX1_makersOf_30 : decode cX1_makersOf 30 = .ok (.goto (-26), 3) := by decide +kernel
theorem dX1_makersOf_33 : decode cX1_makersOf 33 = .ok (.iload_n 2, 1) := by decide +kernel
theorem dX1_makersOf_34 : decode cX1_makersOf 34 = .ok (.ireturn, 1) := by decide +kernel
theorem lk_ol_makersOf_4_b (F : Nat) (bl : Nat) (hbl : g_isLand bl) (μ : g_St) (v1 : Int32) (K_4 : Int32 → Int32 → Option Int32) (hK_4 : ∀ (w2 : Int32) (w3 : Int32), g_Go gC 0 yX1_makersOf cX1_makersOf 4 (some .int) 4 [some (.ref bl), some (.int v1), some (.int w2), some (.int w3)] [] μ (Option.map (o_i μ) (K_4 w2 w3))) (v2 : Int32) (v3 : Int32) : g_Go gC 0 yX1_makersOf cX1_makersOf 4 (some .int) 4 [some (.ref bl), some (.int v1), some (.int v2), some (.int v3)] [] μ (Option.map (o_i μ) (ol_makersOf_4_b F bl μ v1 K_4 v2 v3 )) := by
  unfold ol_makersOf_4_b
  refine g_iload_n dX1_makersOf_4 rfl rfl ?_
  refine g_aload_n dX1_makersOf_5 rfl rfl ?_
  refine g_getI dX1_makersOf_6 cf_X1 fl_X1_49 (ly_Land_lt hbl) (ly_Land hbl) rfl (Nat.le_of_ble_eq_true rfl) ?_
  refine w_icmp_ge (tgt := 33) dX1_makersOf_9 (by decide) ?_ ?_
  · refine g_iload_n dX1_makersOf_12 rfl rfl ?_
    refine g_aload_n dX1_makersOf_13 rfl rfl ?_
    refine g_getS dX1_makersOf_14 cf_X1 fl_X1_36 (ly_Land_lt hbl) (ly_Land hbl) rfl (Nat.le_of_ble_eq_true rfl) ?_
    refine g_iload_n dX1_makersOf_17 rfl rfl ?_
    refine w_iald dX1_makersOf_18 (ly_Land_makes_lt hbl) (ly_Land_makes hbl) (fun x1 => ?_)
    refine g_iload_n dX1_makersOf_19 rfl rfl ?_
    refine g_ishr dX1_makersOf_20 ?_
    refine g_iconst dX1_makersOf_21 ic_1 ?_
    refine g_iand dX1_makersOf_22 ?_
    refine g_iload_n dX1_makersOf_23 rfl rfl ?_
    refine g_ishl dX1_makersOf_24 ?_
    refine g_ior dX1_makersOf_25 ?_
    refine w_istore_n (lo2 := fun _ => [_, _, _, _]) dX1_makersOf_26 rfl (Nat.le_of_ble_eq_true rfl) rfl (fun _ => rfl) (fun x2 => ?_)
    refine g_iinc (lo2 := [_, _, _, _]) dX1_makersOf_27 rfl rfl (Nat.le_of_ble_eq_true rfl) rfl rfl ?_
    refine g_goto (tgt := 4) dX1_makersOf_30 (by decide) ?_
    exact g_to (hK_4 _ _) (su_s (su_s (su_s (su_s su_0))))
  · refine g_iload_n dX1_makersOf_33 rfl rfl ?_
    exact w_iret dX1_makersOf_34 rfl rfl
theorem lk_ol_makersOf_4 (F : Nat) (bl : Nat) (hbl : g_isLand bl) (μ : g_St) (v1 : Int32) : ∀ (f : Nat) (v2 : Int32) (v3 : Int32) , g_Go gC 0 yX1_makersOf cX1_makersOf 4 (some .int) 4 [some (.ref bl), some (.int v1), some (.int v2), some (.int v3)] [] μ (Option.map (o_i μ) (ol_makersOf_4 F bl μ v1 f v2 v3 ))
  | 0, v2, v3 => g_none
  | f + 1, v2, v3 => lk_ol_makersOf_4_b F bl hbl μ v1 (ol_makersOf_4 F bl μ v1 f) (lk_ol_makersOf_4 F bl hbl μ v1 f) v2 v3 
theorem lk_ol_makersOf (F : Nat) (bl : Nat) (hbl : g_isLand bl) (μ : g_St) (v1 : Int32) : g_Go gC 0 yX1_makersOf cX1_makersOf 4 (some .int) 0 [some (.ref bl), some (.int v1), none, none] [] μ (Option.map (o_i μ) (ol_makersOf F bl μ v1)) := by
  unfold ol_makersOf
  refine g_iconst dX1_makersOf_0 ic_0 ?_
  refine g_istore_n (lo2 := [_, _, _, _]) dX1_makersOf_1 rfl (Nat.le_of_ble_eq_true rfl) rfl rfl ?_
  refine g_iconst dX1_makersOf_2 ic_0 ?_
  refine g_istore_n (lo2 := [_, _, _, _]) dX1_makersOf_3 rfl (Nat.le_of_ble_eq_true rfl) rfl rfl ?_
  exact g_to (lk_ol_makersOf_4 F bl hbl μ _ _ _ _) (su_s (su_s (su_s (su_s su_0))))
theorem co_ol_makersOf (F : Nat) (bl : Nat) (hbl : g_isLand bl) (μ : g_St) (v1 : Int32) : g_Con gC 0 yX1_makersOf cX1_makersOf 4 (some .int) [.ref bl, .int v1] μ (g_xi μ (ol_makersOf F bl μ v1)) := g_conOf mc_X1_makersOf.2.2.2.2 (Nat.le_of_ble_eq_true rfl) rfl (g_xi_rk (Or.inl rfl)) (lk_ol_makersOf F bl hbl μ v1)
theorem dX1_isWithin_0 : decode cX1_isWithin 0 = .ok (.iload_n 0, 1) := by decide +kernel
theorem dX1_isWithin_1 : decode cX1_isWithin 1 = .ok (.sipush 999, 3) := by decide +kernel
theorem dX1_isWithin_4 : decode cX1_isWithin 4 = .ok (.if_icmp .ge 14, 3) := by decide +kernel
theorem dX1_isWithin_7 : decode cX1_isWithin 7 = .ok (.iconst 2, 1) := by decide +kernel
theorem dX1_isWithin_8 : decode cX1_isWithin 8 = .ok (.iload_n 0, 1) := by decide +kernel
theorem dX1_isWithin_9 : decode cX1_isWithin 9 = .ok (.imul, 1) := by decide +kernel
theorem dX1_isWithin_10 : decode cX1_isWithin 10 = .ok (.iload_n 1, 1) := by decide +kernel
theorem dX1_isWithin_11 : decode cX1_isWithin 11 = .ok (.if_icmp .gt 7, 3) := by decide +kernel
theorem dX1_isWithin_14 : decode cX1_isWithin 14 = .ok (.iconst 1, 1) := by decide +kernel
theorem dX1_isWithin_15 : decode cX1_isWithin 15 = .ok (.goto 4, 3) := by decide +kernel
theorem dX1_isWithin_18 : decode cX1_isWithin 18 = .ok (.iconst 0, 1) := by decide +kernel
theorem dX1_isWithin_19 : decode cX1_isWithin 19 = .ok (.ireturn, 1) := by decide +kernel
theorem lk_ol_isWithin (μ : g_St) (v0 : Int32) (v1 : Int32) : g_Go gC 0 yX1_isWithin cX1_isWithin 2 (some .boolean) 0 [some (.int v0), some (.int v1)] [] μ (Option.map (o_i μ) (ol_isWithin μ v0 v1)) := by
  unfold ol_isWithin
  refine g_iload_n dX1_isWithin_0 rfl rfl ?_
  refine g_sipush dX1_isWithin_1 sp_999 ?_
  refine w_icmp_ge (tgt := 18) dX1_isWithin_4 (by decide) ?_ ?_
  · refine g_iconst dX1_isWithin_7 ic_2 ?_
    refine g_iload_n dX1_isWithin_8 rfl rfl ?_
    refine g_imul dX1_isWithin_9 ?_
    refine g_iload_n dX1_isWithin_10 rfl rfl ?_
    refine w_icmp_gt (tgt := 18) dX1_isWithin_11 (by decide) ?_ ?_
    · refine g_iconst dX1_isWithin_14 ic_1 ?_
      refine g_goto (tgt := 19) dX1_isWithin_15 (by decide) ?_
      exact w_iret dX1_isWithin_19 (by decide) rfl
    · refine g_iconst dX1_isWithin_18 ic_0 ?_
      exact w_iret dX1_isWithin_19 (by decide) rfl
  · refine g_iconst dX1_isWithin_18 ic_0 ?_
    exact w_iret dX1_isWithin_19 (by decide) rfl
theorem co_ol_isWithin (μ : g_St) (v0 : Int32) (v1 : Int32) : g_Con gC 0 yX1_isWithin cX1_isWithin 2 (some .boolean) [.int v0, .int v1] μ (g_xi μ (ol_isWithin μ v0 v1)) := g_conOf mc_X1_isWithin.2.2.2.2 (Nat.le_of_ble_eq_true rfl) rfl (g_xi_rk (Or.inr (Or.inl rfl))) (lk_ol_isWithin μ v0 v1)
theorem dX1_makersWithin_0 : decode cX1_makersWithin 0 = .ok (.iconst 0, 1) := by decide +kernel
theorem dX1_makersWithin_1 : decode cX1_makersWithin 1 = .ok (.istore 4, 2) := by decide +kernel
theorem dX1_makersWithin_3 : decode cX1_makersWithin 3 = .ok (.iconst 0, 1) := by decide +kernel
theorem dX1_makersWithin_4 : decode cX1_makersWithin 4 = .ok (.istore 5, 2) := by decide +kernel
theorem dX1_makersWithin_6 : decode cX1_makersWithin 6 = .ok (.iload 5, 2) := by decide +kernel
theorem dX1_makersWithin_8 : decode cX1_makersWithin 8 = .ok (.aload_n 0, 1) := by decide +kernel
theorem dX1_makersWithin_9 : decode cX1_makersWithin 9 = .ok (.getfield 49, 3) := by decide +kernel
theorem dX1_makersWithin_12 : decode cX1_makersWithin 12 = .ok (.if_icmp .ge 59, 3) := by decide +kernel
theorem dX1_makersWithin_15 : decode cX1_makersWithin 15 = .ok (.iload 5, 2) := by decide +kernel
theorem dX1_makersWithin_17 : decode cX1_makersWithin 17 = .ok (.iload_n 1, 1) := by decide +kernel
theorem dX1_makersWithin_18 : decode cX1_makersWithin 18 = .ok (.if_icmp .eq 22, 3) := by decide +kernel
theorem dX1_makersWithin_21 : decode cX1_makersWithin 21 = .ok (.aload_n 0, 1) := by decide +kernel
theorem dX1_makersWithin_22 : decode cX1_makersWithin 22 = .ok (.getfield 36, 3) := by decide +kernel
theorem dX1_makersWithin_25 : decode cX1_makersWithin 25 = .ok (.iload 5, 2) := by decide +kernel
theorem dX1_makersWithin_27 : decode cX1_makersWithin 27 = .ok (.iaload, 1) := by decide +kernel
theorem dX1_makersWithin_28 : decode cX1_makersWithin 28 = .ok (.iload_n 2, 1) := by decide +kernel
theorem dX1_makersWithin_29 : decode cX1_makersWithin 29 = .ok (.ishr, 1) := by decide +kernel
theorem dX1_makersWithin_30 : decode cX1_makersWithin 30 = .ok (.iconst 1, 1) := by decide +kernel
theorem dX1_makersWithin_31 : decode cX1_makersWithin 31 = .ok (.iand, 1) := by decide +kernel
theorem dX1_makersWithin_32 : decode cX1_makersWithin 32 = .ok (.iconst 1, 1) := by decide +kernel
theorem dX1_makersWithin_33 : decode cX1_makersWithin 33 = .ok (.if_icmp .ne 7, 3) := by decide +kernel
theorem dX1_makersWithin_36 : decode cX1_makersWithin 36 = .ok (.iconst 1, 1) := by decide +kernel
theorem dX1_makersWithin_37 : decode cX1_makersWithin 37 = .ok (.goto 4, 3) := by decide +kernel
theorem dX1_makersWithin_40 : decode cX1_makersWithin 40 = .ok (.iconst 0, 1) := by decide +kernel
theorem dX1_makersWithin_41 : decode cX1_makersWithin 41 = .ok (.istore 6, 2) := by decide +kernel
theorem dX1_makersWithin_43 : decode cX1_makersWithin 43 = .ok (.iload 6, 2) := by decide +kernel
theorem dX1_makersWithin_45 : decode cX1_makersWithin 45 = .ok (.ifCond .eq 20, 3) := by decide +kernel
theorem dX1_makersWithin_48 : decode cX1_makersWithin 48 = .ok (.aload_n 0, 1) := by decide +kernel
theorem dX1_makersWithin_49 : decode cX1_makersWithin 49 = .ok (.iload_n 1, 1) := by decide +kernel
theorem dX1_makersWithin_50 : decode cX1_makersWithin 50 = .ok (.iload 5, 2) := by decide +kernel
theorem dX1_makersWithin_52 : decode cX1_makersWithin 52 = .ok (.invokevirtual 68, 3) := by decide +kernel
theorem dX1_makersWithin_55 : decode cX1_makersWithin 55 = .ok (.iload_n 3, 1) := by decide +kernel
theorem dX1_makersWithin_56 : decode cX1_makersWithin 56 = .ok (.invokestatic 71, 3) := by decide +kernel
theorem dX1_makersWithin_59 : decode cX1_makersWithin 59 = .ok (.ifCond .eq 6, 3) := by decide +kernel
theorem dX1_makersWithin_62 : decode cX1_makersWithin 62 = .ok (.iinc 4 1, 3) := by decide +kernel
theorem dX1_makersWithin_65 : decode cX1_makersWithin 65 = .ok (.iinc 5 1, 3) := by decide +kernel
theorem dX1_makersWithin_68 : decode cX1_makersWithin 68 = .ok (.goto (-62), 3) := by decide +kernel
theorem dX1_makersWithin_71 : decode cX1_makersWithin 71 = .ok (.iload 4, 2) := by decide +kernel
theorem dX1_makersWithin_73 : decode cX1_makersWithin 73 = .ok (.ireturn, 1) := by decide +kernel
theorem lk_ol_makersWithin_41 (F : Nat) (bl : Nat) (hbl : g_isLand bl) (μ : g_St) (v1 : Int32) (v2 : Int32) (v3 : Int32) (v4 : Int32) (v5 : Int32) (s0 : Int32) (K_6 : Int32 → Int32 → Option Int32) (hK_6 : ∀ (w4 : Int32) (w5 : Int32), g_Go gC 1 yX1_makersWithin cX1_makersWithin 7 (some .int) 6 [some (.ref bl), some (.int v1), some (.int v2), some (.int v3), some (.int w4), some (.int w5), none] [] μ (Option.map (o_i μ) (K_6 w4 w5))) : g_Go gC 1 yX1_makersWithin cX1_makersWithin 7 (some .int) 41 [some (.ref bl), some (.int v1), some (.int v2), some (.int v3), some (.int v4), some (.int v5), none] [.int s0] μ (Option.map (o_i μ) (ol_makersWithin_41 F bl μ K_6 v1 v2 v3 v4 v5 s0 )) := by
  unfold ol_makersWithin_41
  refine g_istore (lo2 := [_, _, _, _, _, _, _]) dX1_makersWithin_41 (Nat.le_of_ble_eq_true rfl) rfl rfl ?_
  refine g_iload dX1_makersWithin_43 rfl ?_
  refine w_if_eq (tgt := 65) dX1_makersWithin_45 (by decide) ?_ ?_
  · refine g_iinc (lo2 := [_, _, _, _, _, _, _]) dX1_makersWithin_65 rfl rfl (Nat.le_of_ble_eq_true rfl) rfl rfl ?_
    refine g_goto (tgt := 6) dX1_makersWithin_68 (by decide) ?_
    exact g_to (hK_6 _ _) (su_s (su_s (su_s (su_s (su_s (su_s (su_n su_0)))))))
  · refine g_aload_n dX1_makersWithin_48 rfl rfl ?_
    refine g_iload_n dX1_makersWithin_49 rfl rfl ?_
    refine g_iload dX1_makersWithin_50 rfl ?_
    refine w_Vxi [.int _, .int _] dX1_makersWithin_52 ml_X1_68 mv_X1_away mc_X1_away cf_X1 (ly_Land_lt hbl) (ly_Land hbl) rfl (Nat.le_of_ble_eq_true rfl) (Nat.le_of_ble_eq_true rfl) (Nat.le_of_ble_eq_true rfl) rfl (co_ol_away _ hbl _ _ _) (fun x2 => ?_)
    refine g_iload_n dX1_makersWithin_55 rfl rfl ?_
    refine w_Sxi [.int _, .int _] dX1_makersWithin_56 ml_X1_71 ms_X1_isWithin mc_X1_isWithin rfl (Nat.le_of_ble_eq_true rfl) (Nat.le_of_ble_eq_true rfl) (Nat.le_of_ble_eq_true rfl) rfl (co_ol_isWithin _ _ _) (fun x3 => ?_)
    refine w_if_eq (tgt := 65) dX1_makersWithin_59 (by decide) ?_ ?_
    · refine g_iinc (lo2 := [_, _, _, _, _, _, _]) dX1_makersWithin_65 rfl rfl (Nat.le_of_ble_eq_true rfl) rfl rfl ?_
      refine g_goto (tgt := 6) dX1_makersWithin_68 (by decide) ?_
      exact g_to (hK_6 _ _) (su_s (su_s (su_s (su_s (su_s (su_s (su_n su_0)))))))
    · refine g_iinc (lo2 := [_, _, _, _, _, _, _]) dX1_makersWithin_62 rfl rfl (Nat.le_of_ble_eq_true rfl) rfl rfl ?_
      refine g_iinc (lo2 := [_, _, _, _, _, _, _]) dX1_makersWithin_65 rfl rfl (Nat.le_of_ble_eq_true rfl) rfl rfl ?_
      refine g_goto (tgt := 6) dX1_makersWithin_68 (by decide) ?_
      exact g_to (hK_6 _ _) (su_s (su_s (su_s (su_s (su_s (su_s (su_n su_0)))))))
theorem lk_ol_makersWithin_40 (F : Nat) (bl : Nat) (hbl : g_isLand bl) (μ : g_St) (v1 : Int32) (v2 : Int32) (v3 : Int32) (v4 : Int32) (v5 : Int32) (K_6 : Int32 → Int32 → Option Int32) (hK_6 : ∀ (w4 : Int32) (w5 : Int32), g_Go gC 1 yX1_makersWithin cX1_makersWithin 7 (some .int) 6 [some (.ref bl), some (.int v1), some (.int v2), some (.int v3), some (.int w4), some (.int w5), none] [] μ (Option.map (o_i μ) (K_6 w4 w5))) : g_Go gC 1 yX1_makersWithin cX1_makersWithin 7 (some .int) 40 [some (.ref bl), some (.int v1), some (.int v2), some (.int v3), some (.int v4), some (.int v5), none] [] μ (Option.map (o_i μ) (ol_makersWithin_40 F bl μ K_6 v1 v2 v3 v4 v5 )) := by
  unfold ol_makersWithin_40
  refine g_iconst dX1_makersWithin_40 ic_0 ?_
  exact g_to (lk_ol_makersWithin_41 F bl hbl μ _ _ _ _ _ _ K_6 hK_6) (su_s (su_s (su_s (su_s (su_s (su_s (su_n su_0)))))))
theorem lk_ol_makersWithin_6_b (F : Nat) (bl : Nat) (hbl : g_isLand bl) (μ : g_St) (v1 : Int32) (v2 : Int32) (v3 : Int32) (K_6 : Int32 → Int32 → Option Int32) (hK_6 : ∀ (w4 : Int32) (w5 : Int32), g_Go gC 1 yX1_makersWithin cX1_makersWithin 7 (some .int) 6 [some (.ref bl), some (.int v1), some (.int v2), some (.int v3), some (.int w4), some (.int w5), none] [] μ (Option.map (o_i μ) (K_6 w4 w5))) (v4 : Int32) (v5 : Int32) : g_Go gC 1 yX1_makersWithin cX1_makersWithin 7 (some .int) 6 [some (.ref bl), some (.int v1), some (.int v2), some (.int v3), some (.int v4), some (.int v5), none] [] μ (Option.map (o_i μ) (ol_makersWithin_6_b F bl μ v1 v2 v3 K_6 v4 v5 )) := by
  unfold ol_makersWithin_6_b
  refine g_iload dX1_makersWithin_6 rfl ?_
  refine g_aload_n dX1_makersWithin_8 rfl rfl ?_
  refine g_getI dX1_makersWithin_9 cf_X1 fl_X1_49 (ly_Land_lt hbl) (ly_Land hbl) rfl (Nat.le_of_ble_eq_true rfl) ?_
  refine w_icmp_ge (tgt := 71) dX1_makersWithin_12 (by decide) ?_ ?_
  · refine g_iload dX1_makersWithin_15 rfl ?_
    refine g_iload_n dX1_makersWithin_17 rfl rfl ?_
    refine w_icmp_eq (tgt := 40) dX1_makersWithin_18 (by decide) ?_ ?_
    · exact g_to (lk_ol_makersWithin_40 F bl hbl μ _ _ _ _ _ K_6 hK_6) (su_s (su_s (su_s (su_s (su_s (su_s (su_n su_0)))))))
    · refine g_aload_n dX1_makersWithin_21 rfl rfl ?_
      refine g_getS dX1_makersWithin_22 cf_X1 fl_X1_36 (ly_Land_lt hbl) (ly_Land hbl) rfl (Nat.le_of_ble_eq_true rfl) ?_
      refine g_iload dX1_makersWithin_25 rfl ?_
      refine w_iald dX1_makersWithin_27 (ly_Land_makes_lt hbl) (ly_Land_makes hbl) (fun x1 => ?_)
      refine g_iload_n dX1_makersWithin_28 rfl rfl ?_
      refine g_ishr dX1_makersWithin_29 ?_
      refine g_iconst dX1_makersWithin_30 ic_1 ?_
      refine g_iand dX1_makersWithin_31 ?_
      refine g_iconst dX1_makersWithin_32 ic_1 ?_
      refine w_icmp_ne (tgt := 40) dX1_makersWithin_33 (by decide) ?_ ?_
      · refine g_iconst dX1_makersWithin_36 ic_1 ?_
        refine g_goto (tgt := 41) dX1_makersWithin_37 (by decide) ?_
        exact g_to (lk_ol_makersWithin_41 F bl hbl μ _ _ _ _ _ _ K_6 hK_6) (su_s (su_s (su_s (su_s (su_s (su_s (su_n su_0)))))))
      · exact g_to (lk_ol_makersWithin_40 F bl hbl μ _ _ _ _ _ K_6 hK_6) (su_s (su_s (su_s (su_s (su_s (su_s (su_n su_0)))))))
  · refine g_iload dX1_makersWithin_71 rfl ?_
    exact w_iret dX1_makersWithin_73 rfl rfl
theorem lk_ol_makersWithin_6 (F : Nat) (bl : Nat) (hbl : g_isLand bl) (μ : g_St) (v1 : Int32) (v2 : Int32) (v3 : Int32) : ∀ (f : Nat) (v4 : Int32) (v5 : Int32) , g_Go gC 1 yX1_makersWithin cX1_makersWithin 7 (some .int) 6 [some (.ref bl), some (.int v1), some (.int v2), some (.int v3), some (.int v4), some (.int v5), none] [] μ (Option.map (o_i μ) (ol_makersWithin_6 F bl μ v1 v2 v3 f v4 v5 ))
  | 0, v4, v5 => g_none
  | f + 1, v4, v5 => lk_ol_makersWithin_6_b F bl hbl μ v1 v2 v3 (ol_makersWithin_6 F bl μ v1 v2 v3 f) (lk_ol_makersWithin_6 F bl hbl μ v1 v2 v3 f) v4 v5 
theorem lk_ol_makersWithin (F : Nat) (bl : Nat) (hbl : g_isLand bl) (μ : g_St) (v1 : Int32) (v2 : Int32) (v3 : Int32) : g_Go gC 1 yX1_makersWithin cX1_makersWithin 7 (some .int) 0 [some (.ref bl), some (.int v1), some (.int v2), some (.int v3), none, none, none] [] μ (Option.map (o_i μ) (ol_makersWithin F bl μ v1 v2 v3)) := by
  unfold ol_makersWithin
  refine g_iconst dX1_makersWithin_0 ic_0 ?_
  refine g_istore (lo2 := [_, _, _, _, _, _, _]) dX1_makersWithin_1 (Nat.le_of_ble_eq_true rfl) rfl rfl ?_
  refine g_iconst dX1_makersWithin_3 ic_0 ?_
  refine g_istore (lo2 := [_, _, _, _, _, _, _]) dX1_makersWithin_4 (Nat.le_of_ble_eq_true rfl) rfl rfl ?_
  exact g_to (lk_ol_makersWithin_6 F bl hbl μ _ _ _ _ _ _) (su_s (su_s (su_s (su_s (su_s (su_s (su_n su_0)))))))
theorem co_ol_makersWithin (F : Nat) (bl : Nat) (hbl : g_isLand bl) (μ : g_St) (v1 : Int32) (v2 : Int32) (v3 : Int32) : g_Con gC 1 yX1_makersWithin cX1_makersWithin 7 (some .int) [.ref bl, .int v1, .int v2, .int v3] μ (g_xi μ (ol_makersWithin F bl μ v1 v2 v3)) := g_conOf mc_X1_makersWithin.2.2.2.2 (Nat.le_of_ble_eq_true rfl) rfl (g_xi_rk (Or.inl rfl)) (lk_ol_makersWithin F bl hbl μ v1 v2 v3)
theorem dX1_worthOf_0 : decode cX1_worthOf 0 = .ok (.iload_n 3, 1) := by decide +kernel
theorem dX1_worthOf_1 : decode cX1_worthOf 1 = .ok (.ifCond .lt 23, 3) := by decide +kernel
theorem dX1_worthOf_4 : decode cX1_worthOf 4 = .ok (.iload_n 3, 1) := by decide +kernel
theorem dX1_worthOf_5 : decode cX1_worthOf 5 = .ok (.iconst 3, 1) := by decide +kernel
theorem dX1_worthOf_6 : decode cX1_worthOf 6 = .ok (.if_icmp .ge 18, 3) := by decide +kernel
theorem dX1_worthOf_9 : decode cX1_worthOf 9 = .ok (.aload_n 0, 1) := by decide +kernel
theorem dX1_worthOf_10 : decode cX1_worthOf 10 = .ok (.getfield 39, 3) := by decide +kernel
theorem dX1_worthOf_13 : decode cX1_worthOf 13 = .ok (.iload_n 1, 1) := by decide +kernel
theorem dX1_worthOf_14 : decode cX1_worthOf 14 = .ok (.aaload, 1) := by decide +kernel
theorem dX1_worthOf_15 : decode cX1_worthOf 15 = .ok (.iload_n 2, 1) := by decide +kernel
theorem dX1_worthOf_16 : decode cX1_worthOf 16 = .ok (.iconst 3, 1) := by decide +kernel
theorem dX1_worthOf_17 : decode cX1_worthOf 17 = .ok (.imul, 1) := by decide +kernel
theorem dX1_worthOf_18 : decode cX1_worthOf 18 = .ok (.iload_n 3, 1) := by decide +kernel
theorem dX1_worthOf_19 : decode cX1_worthOf 19 = .ok (.iadd, 1) := by decide +kernel
theorem dX1_worthOf_20 : decode cX1_worthOf 20 = .ok (.iaload, 1) := by decide +kernel
theorem dX1_worthOf_21 : decode cX1_worthOf 21 = .ok (.goto 4, 3) := by decide +kernel
theorem dX1_worthOf_24 : decode cX1_worthOf 24 = .ok (.iconst 0, 1) := by decide +kernel
theorem dX1_worthOf_25 : decode cX1_worthOf 25 = .ok (.ireturn, 1) := by decide +kernel
theorem lk_ol_worthOf (bl : Nat) (hbl : g_isLand bl) (μ : g_St) (v1 : Int32) (v2 : Int32) (v3 : Int32) : g_Go gC 0 yX1_worthOf cX1_worthOf 4 (some .int) 0 [some (.ref bl), some (.int v1), some (.int v2), some (.int v3)] [] μ (Option.map (o_i μ) (ol_worthOf bl μ v1 v2 v3)) := by
  unfold ol_worthOf
  refine g_iload_n dX1_worthOf_0 rfl rfl ?_
  refine w_if_lt (tgt := 24) dX1_worthOf_1 (by decide) ?_ ?_
  · refine g_iload_n dX1_worthOf_4 rfl rfl ?_
    refine g_iconst dX1_worthOf_5 ic_3 ?_
    refine w_icmp_ge (tgt := 24) dX1_worthOf_6 (by decide) ?_ ?_
    · refine g_aload_n dX1_worthOf_9 rfl rfl ?_
      refine g_getS dX1_worthOf_10 cf_X1 fl_X1_39 (ly_Land_lt hbl) (ly_Land hbl) rfl (Nat.le_of_ble_eq_true rfl) ?_
      refine g_iload_n dX1_worthOf_13 rfl rfl ?_
      refine w_aald4 dX1_worthOf_14 (ly_Land_worths_lt hbl) (ly_Land_worths hbl) (fun j2 hj2 => ?_)
      refine g_iload_n dX1_worthOf_15 rfl rfl ?_
      refine g_iconst dX1_worthOf_16 ic_3 ?_
      refine g_imul dX1_worthOf_17 ?_
      refine g_iload_n dX1_worthOf_18 rfl rfl ?_
      refine g_iadd dX1_worthOf_19 ?_
      refine w_iald dX1_worthOf_20 (ly_Land_worths_row_lt hbl hj2) (ly_Land_worths_row hbl hj2) (fun x3 => ?_)
      refine g_goto (tgt := 25) dX1_worthOf_21 (by decide) ?_
      exact w_iret dX1_worthOf_25 rfl rfl
    · refine g_iconst dX1_worthOf_24 ic_0 ?_
      exact w_iret dX1_worthOf_25 rfl rfl
  · refine g_iconst dX1_worthOf_24 ic_0 ?_
    exact w_iret dX1_worthOf_25 rfl rfl
theorem co_ol_worthOf (bl : Nat) (hbl : g_isLand bl) (μ : g_St) (v1 : Int32) (v2 : Int32) (v3 : Int32) : g_Con gC 0 yX1_worthOf cX1_worthOf 4 (some .int) [.ref bl, .int v1, .int v2, .int v3] μ (g_xi μ (ol_worthOf bl μ v1 v2 v3)) := g_conOf mc_X1_worthOf.2.2.2.2 (Nat.le_of_ble_eq_true rfl) rfl (g_xi_rk (Or.inl rfl)) (lk_ol_worthOf bl hbl μ v1 v2 v3)
theorem dX1_worthOfSome_0 : decode cX1_worthOfSome 0 = .ok (.iconst 0, 1) := by decide +kernel
theorem dX1_worthOfSome_1 : decode cX1_worthOfSome 1 = .ok (.istore 4, 2) := by decide +kernel
theorem dX1_worthOfSome_3 : decode cX1_worthOfSome 3 = .ok (.iconst 0, 1) := by decide +kernel
theorem dX1_worthOfSome_4 : decode cX1_worthOfSome 4 = .ok (.istore 5, 2) := by decide +kernel
theorem dX1_worthOfSome_6 : decode cX1_worthOfSome 6 = .ok (.iload 5, 2) := by decide +kernel
theorem dX1_worthOfSome_8 : decode cX1_worthOfSome 8 = .ok (.iload_n 3, 1) := by decide +kernel
theorem dX1_worthOfSome_9 : decode cX1_worthOfSome 9 = .ok (.if_icmp .ge 28, 3) := by decide +kernel
theorem dX1_worthOfSome_12 : decode cX1_worthOfSome 12 = .ok (.iload 5, 2) := by decide +kernel
theorem dX1_worthOfSome_14 : decode cX1_worthOfSome 14 = .ok (.iconst 3, 1) := by decide +kernel
theorem dX1_worthOfSome_15 : decode cX1_worthOfSome 15 = .ok (.if_icmp .ge 22, 3) := by decide +kernel
theorem dX1_worthOfSome_18 : decode cX1_worthOfSome 18 = .ok (.iload 4, 2) := by decide +kernel
theorem dX1_worthOfSome_20 : decode cX1_worthOfSome 20 = .ok (.aload_n 0, 1) := by decide +kernel
theorem dX1_worthOfSome_21 : decode cX1_worthOfSome 21 = .ok (.iload_n 1, 1) := by decide +kernel
theorem dX1_worthOfSome_22 : decode cX1_worthOfSome 22 = .ok (.iload_n 2, 1) := by decide +kernel
theorem dX1_worthOfSome_23 : decode cX1_worthOfSome 23 = .ok (.iload 5, 2) := by decide +kernel
theorem dX1_worthOfSome_25 : decode cX1_worthOfSome 25 = .ok (.invokevirtual 75, 3) := by decide +kernel
theorem dX1_worthOfSome_28 : decode cX1_worthOfSome 28 = .ok (.iadd, 1) := by decide +kernel
theorem dX1_worthOfSome_29 : decode cX1_worthOfSome 29 = .ok (.istore 4, 2) := by decide +kernel
theorem dX1_worthOfSome_31 : decode cX1_worthOfSome 31 = .ok (.iinc 5 1, 3) := by decide +kernel
theorem dX1_worthOfSome_34 : decode cX1_worthOfSome 34 = .ok (.goto (-28), 3) := by decide +kernel
theorem dX1_worthOfSome_37 : decode cX1_worthOfSome 37 = .ok (.iload 4, 2) := by decide +kernel
theorem dX1_worthOfSome_39 : decode cX1_worthOfSome 39 = .ok (.ireturn, 1) := by decide +kernel
theorem lk_ol_worthOfSome_6_b (F : Nat) (bl : Nat) (hbl : g_isLand bl) (μ : g_St) (v1 : Int32) (v2 : Int32) (v3 : Int32) (K_6 : Int32 → Int32 → Option Int32) (hK_6 : ∀ (w4 : Int32) (w5 : Int32), g_Go gC 1 yX1_worthOfSome cX1_worthOfSome 6 (some .int) 6 [some (.ref bl), some (.int v1), some (.int v2), some (.int v3), some (.int w4), some (.int w5)] [] μ (Option.map (o_i μ) (K_6 w4 w5))) (v4 : Int32) (v5 : Int32) : g_Go gC 1 yX1_worthOfSome cX1_worthOfSome 6 (some .int) 6 [some (.ref bl), some (.int v1), some (.int v2), some (.int v3), some (.int v4), some (.int v5)] [] μ (Option.map (o_i μ) (ol_worthOfSome_6_b F bl μ v1 v2 v3 K_6 v4 v5 )) := by
  unfold ol_worthOfSome_6_b
  refine g_iload dX1_worthOfSome_6 rfl ?_
  refine g_iload_n dX1_worthOfSome_8 rfl rfl ?_
  refine w_icmp_ge (tgt := 37) dX1_worthOfSome_9 (by decide) ?_ ?_
  · refine g_iload dX1_worthOfSome_12 rfl ?_
    refine g_iconst dX1_worthOfSome_14 ic_3 ?_
    refine w_icmp_ge (tgt := 37) dX1_worthOfSome_15 (by decide) ?_ ?_
    · refine g_iload dX1_worthOfSome_18 rfl ?_
      refine g_aload_n dX1_worthOfSome_20 rfl rfl ?_
      refine g_iload_n dX1_worthOfSome_21 rfl rfl ?_
      refine g_iload_n dX1_worthOfSome_22 rfl rfl ?_
      refine g_iload dX1_worthOfSome_23 rfl ?_
      refine w_Vxi [.int _, .int _, .int _] dX1_worthOfSome_25 ml_X1_75 mv_X1_worthOf mc_X1_worthOf cf_X1 (ly_Land_lt hbl) (ly_Land hbl) rfl (Nat.le_of_ble_eq_true rfl) (Nat.le_of_ble_eq_true rfl) (Nat.le_of_ble_eq_true rfl) rfl (co_ol_worthOf _ hbl _ _ _ _) (fun x1 => ?_)
      refine g_iadd dX1_worthOfSome_28 ?_
      refine g_istore (lo2 := [_, _, _, _, _, _]) dX1_worthOfSome_29 (Nat.le_of_ble_eq_true rfl) rfl rfl ?_
      refine g_iinc (lo2 := [_, _, _, _, _, _]) dX1_worthOfSome_31 rfl rfl (Nat.le_of_ble_eq_true rfl) rfl rfl ?_
      refine g_goto (tgt := 6) dX1_worthOfSome_34 (by decide) ?_
      exact g_to (hK_6 _ _) (su_s (su_s (su_s (su_s (su_s (su_s su_0))))))
    · refine g_iload dX1_worthOfSome_37 rfl ?_
      exact w_iret dX1_worthOfSome_39 rfl rfl
  · refine g_iload dX1_worthOfSome_37 rfl ?_
    exact w_iret dX1_worthOfSome_39 rfl rfl
theorem lk_ol_worthOfSome_6 (F : Nat) (bl : Nat) (hbl : g_isLand bl) (μ : g_St) (v1 : Int32) (v2 : Int32) (v3 : Int32) : ∀ (f : Nat) (v4 : Int32) (v5 : Int32) , g_Go gC 1 yX1_worthOfSome cX1_worthOfSome 6 (some .int) 6 [some (.ref bl), some (.int v1), some (.int v2), some (.int v3), some (.int v4), some (.int v5)] [] μ (Option.map (o_i μ) (ol_worthOfSome_6 F bl μ v1 v2 v3 f v4 v5 ))
  | 0, v4, v5 => g_none
  | f + 1, v4, v5 => lk_ol_worthOfSome_6_b F bl hbl μ v1 v2 v3 (ol_worthOfSome_6 F bl μ v1 v2 v3 f) (lk_ol_worthOfSome_6 F bl hbl μ v1 v2 v3 f) v4 v5 
theorem lk_ol_worthOfSome (F : Nat) (bl : Nat) (hbl : g_isLand bl) (μ : g_St) (v1 : Int32) (v2 : Int32) (v3 : Int32) : g_Go gC 1 yX1_worthOfSome cX1_worthOfSome 6 (some .int) 0 [some (.ref bl), some (.int v1), some (.int v2), some (.int v3), none, none] [] μ (Option.map (o_i μ) (ol_worthOfSome F bl μ v1 v2 v3)) := by
  unfold ol_worthOfSome
  refine g_iconst dX1_worthOfSome_0 ic_0 ?_
  refine g_istore (lo2 := [_, _, _, _, _, _]) dX1_worthOfSome_1 (Nat.le_of_ble_eq_true rfl) rfl rfl ?_
  refine g_iconst dX1_worthOfSome_3 ic_0 ?_
  refine g_istore (lo2 := [_, _, _, _, _, _]) dX1_worthOfSome_4 (Nat.le_of_ble_eq_true rfl) rfl rfl ?_
  exact g_to (lk_ol_worthOfSome_6 F bl hbl μ _ _ _ _ _ _) (su_s (su_s (su_s (su_s (su_s (su_s su_0))))))
theorem co_ol_worthOfSome (F : Nat) (bl : Nat) (hbl : g_isLand bl) (μ : g_St) (v1 : Int32) (v2 : Int32) (v3 : Int32) : g_Con gC 1 yX1_worthOfSome cX1_worthOfSome 6 (some .int) [.ref bl, .int v1, .int v2, .int v3] μ (g_xi μ (ol_worthOfSome F bl μ v1 v2 v3)) := g_conOf mc_X1_worthOfSome.2.2.2.2 (Nat.le_of_ble_eq_true rfl) rfl (g_xi_rk (Or.inl rfl)) (lk_ol_worthOfSome F bl hbl μ v1 v2 v3)
theorem dX1_hadIn_0 : decode cX1_hadIn 0 = .ok (.iconst 0, 1) := by decide +kernel
theorem dX1_hadIn_1 : decode cX1_hadIn 1 = .ok (.istore_n 2, 1) := by decide +kernel
theorem dX1_hadIn_2 : decode cX1_hadIn 2 = .ok (.iconst 0, 1) := by decide +kernel
theorem dX1_hadIn_3 : decode cX1_hadIn 3 = .ok (.istore_n 3, 1) := by decide +kernel
theorem dX1_hadIn_4 : decode cX1_hadIn 4 = .ok (.iload_n 3, 1) := by decide +kernel
theorem dX1_hadIn_5 : decode cX1_hadIn 5 = .ok (.aload_n 0, 1) := by decide +kernel
theorem dX1_hadIn_6 : decode cX1_hadIn 6 = .ok (.getfield 46, 3) := by decide +kernel
theorem dX1_hadIn_9 : decode cX1_hadIn 9 = .ok (.if_icmp .ge 38, 3) := by decide +kernel
theorem dX1_hadIn_12 : decode cX1_hadIn 12 = .ok (.aload_n 0, 1) := by decide +kernel
theorem dX1_hadIn_13 : decode cX1_hadIn 13 = .ok (.iload_n 3, 1) := by decide +kernel
theorem dX1_hadIn_14 : decode cX1_hadIn 14 = .ok (.invokevirtual 79, 3) := by decide +kernel
theorem dX1_hadIn_17 : decode cX1_hadIn 17 = .ok (.iload_n 1, 1) := by decide +kernel
theorem dX1_hadIn_18 : decode cX1_hadIn 18 = .ok (.iand, 1) := by decide +kernel
theorem dX1_hadIn_19 : decode cX1_hadIn 19 = .ok (.ifCond .eq 22, 3) := by decide +kernel
theorem dX1_hadIn_22 : decode cX1_hadIn 22 = .ok (.aload_n 0, 1) := by decide +kernel
theorem dX1_hadIn_23 : decode cX1_hadIn 23 = .ok (.getfield 30, 3) := by decide +kernel
theorem dX1_hadIn_26 : decode cX1_hadIn 26 = .ok (.iload_n 3, 1) := by decide +kernel
theorem dX1_hadIn_27 : decode cX1_hadIn 27 = .ok (.iaload, 1) := by decide +kernel
theorem dX1_hadIn_28 : decode cX1_hadIn 28 = .ok (.iload_n 2, 1) := by decide +kernel
theorem dX1_hadIn_29 : decode cX1_hadIn 29 = .ok (.iconst (-1), 1) := by decide +kernel
theorem dX1_hadIn_30 : decode cX1_hadIn 30 = .ok (.ixor, 1) := by decide +kernel
theorem dX1_hadIn_31 : decode cX1_hadIn 31 = .ok (.iand, 1) := by decide +kernel
theorem dX1_hadIn_32 : decode cX1_hadIn 32 = .ok (.ifCond .ne 9, 3) := by decide +kernel
theorem dX1_hadIn_35 : decode cX1_hadIn 35 = .ok (.iload_n 2, 1) := by decide +kernel
theorem dX1_hadIn_36 : decode cX1_hadIn 36 = .ok (.iconst 1, 1) := by decide +kernel
theorem dX1_hadIn_37 : decode cX1_hadIn 37 = .ok (.iload_n 3, 1) := by decide +kernel
theorem dX1_hadIn_38 : decode cX1_hadIn 38 = .ok (.ishl, 1) := by decide +kernel
theorem dX1_hadIn_39 : decode cX1_hadIn 39 = .ok (.ior, 1) := by decide +kernel
theorem dX1_hadIn_40 : decode cX1_hadIn 40 = .ok (.istore_n 2, 1) := by decide +kernel
theorem dX1_hadIn_41 : decode cX1_hadIn 41 = .ok (.iinc 3 1, 3) := by decide +kernel
theorem dX1_hadIn_44 : decode cX1_hadIn 44 = .ok (.goto (-40), 3) := by decide +kernel
theorem dX1_hadIn_47 : decode cX1_hadIn 47 = .ok (.iload_n 2, 1) := by decide +kernel
theorem dX1_hadIn_48 : decode cX1_hadIn 48 = .ok (.ireturn, 1) := by decide +kernel
theorem lk_ol_hadIn_4_b (F : Nat) (bl : Nat) (hbl : g_isLand bl) (μ : g_St) (v1 : Int32) (K_4 : Int32 → Int32 → Option Int32) (hK_4 : ∀ (w2 : Int32) (w3 : Int32), g_Go gC 1 yX1_hadIn cX1_hadIn 4 (some .int) 4 [some (.ref bl), some (.int v1), some (.int w2), some (.int w3)] [] μ (Option.map (o_i μ) (K_4 w2 w3))) (v2 : Int32) (v3 : Int32) : g_Go gC 1 yX1_hadIn cX1_hadIn 4 (some .int) 4 [some (.ref bl), some (.int v1), some (.int v2), some (.int v3)] [] μ (Option.map (o_i μ) (ol_hadIn_4_b F bl μ v1 K_4 v2 v3 )) := by
  unfold ol_hadIn_4_b
  refine g_iload_n dX1_hadIn_4 rfl rfl ?_
  refine g_aload_n dX1_hadIn_5 rfl rfl ?_
  refine g_getI dX1_hadIn_6 cf_X1 fl_X1_46 (ly_Land_lt hbl) (ly_Land hbl) rfl (Nat.le_of_ble_eq_true rfl) ?_
  refine w_icmp_ge (tgt := 47) dX1_hadIn_9 (by decide) ?_ ?_
  · refine g_aload_n dX1_hadIn_12 rfl rfl ?_
    refine g_iload_n dX1_hadIn_13 rfl rfl ?_
    refine w_Vxi [.int _] dX1_hadIn_14 ml_X1_79 mv_X1_makersOf mc_X1_makersOf cf_X1 (ly_Land_lt hbl) (ly_Land hbl) rfl (Nat.le_of_ble_eq_true rfl) (Nat.le_of_ble_eq_true rfl) (Nat.le_of_ble_eq_true rfl) rfl (co_ol_makersOf F _ hbl _ _) (fun x1 => ?_)
    refine g_iload_n dX1_hadIn_17 rfl rfl ?_
    refine g_iand dX1_hadIn_18 ?_
    refine w_if_eq (tgt := 41) dX1_hadIn_19 (by decide) ?_ ?_
    · refine g_iinc (lo2 := [_, _, _, _]) dX1_hadIn_41 rfl rfl (Nat.le_of_ble_eq_true rfl) rfl rfl ?_
      refine g_goto (tgt := 4) dX1_hadIn_44 (by decide) ?_
      exact g_to (hK_4 _ _) (su_s (su_s (su_s (su_s su_0))))
    · refine g_aload_n dX1_hadIn_22 rfl rfl ?_
      refine g_getS dX1_hadIn_23 cf_X1 fl_X1_30 (ly_Land_lt hbl) (ly_Land hbl) rfl (Nat.le_of_ble_eq_true rfl) ?_
      refine g_iload_n dX1_hadIn_26 rfl rfl ?_
      refine w_iald dX1_hadIn_27 (ly_Land_from_lt hbl) (ly_Land_from hbl) (fun x2 => ?_)
      refine g_iload_n dX1_hadIn_28 rfl rfl ?_
      refine g_iconst dX1_hadIn_29 ic_m1 ?_
      refine g_ixor dX1_hadIn_30 ?_
      refine g_iand dX1_hadIn_31 ?_
      refine w_if_ne (tgt := 41) dX1_hadIn_32 (by decide) ?_ ?_
      · refine g_iload_n dX1_hadIn_35 rfl rfl ?_
        refine g_iconst dX1_hadIn_36 ic_1 ?_
        refine g_iload_n dX1_hadIn_37 rfl rfl ?_
        refine g_ishl dX1_hadIn_38 ?_
        refine g_ior dX1_hadIn_39 ?_
        refine w_istore_n (lo2 := fun _ => [_, _, _, _]) dX1_hadIn_40 rfl (Nat.le_of_ble_eq_true rfl) rfl (fun _ => rfl) (fun x3 => ?_)
        refine g_iinc (lo2 := [_, _, _, _]) dX1_hadIn_41 rfl rfl (Nat.le_of_ble_eq_true rfl) rfl rfl ?_
        refine g_goto (tgt := 4) dX1_hadIn_44 (by decide) ?_
        exact g_to (hK_4 _ _) (su_s (su_s (su_s (su_s su_0))))
      · refine g_iinc (lo2 := [_, _, _, _]) dX1_hadIn_41 rfl rfl (Nat.le_of_ble_eq_true rfl) rfl rfl ?_
        refine g_goto (tgt := 4) dX1_hadIn_44 (by decide) ?_
        exact g_to (hK_4 _ _) (su_s (su_s (su_s (su_s su_0))))
  · refine g_iload_n dX1_hadIn_47 rfl rfl ?_
    exact w_iret dX1_hadIn_48 rfl rfl
theorem lk_ol_hadIn_4 (F : Nat) (bl : Nat) (hbl : g_isLand bl) (μ : g_St) (v1 : Int32) : ∀ (f : Nat) (v2 : Int32) (v3 : Int32) , g_Go gC 1 yX1_hadIn cX1_hadIn 4 (some .int) 4 [some (.ref bl), some (.int v1), some (.int v2), some (.int v3)] [] μ (Option.map (o_i μ) (ol_hadIn_4 F bl μ v1 f v2 v3 ))
  | 0, v2, v3 => g_none
  | f + 1, v2, v3 => lk_ol_hadIn_4_b F bl hbl μ v1 (ol_hadIn_4 F bl μ v1 f) (lk_ol_hadIn_4 F bl hbl μ v1 f) v2 v3 
theorem lk_ol_hadIn (F : Nat) (bl : Nat) (hbl : g_isLand bl) (μ : g_St) (v1 : Int32) : g_Go gC 1 yX1_hadIn cX1_hadIn 4 (some .int) 0 [some (.ref bl), some (.int v1), none, none] [] μ (Option.map (o_i μ) (ol_hadIn F bl μ v1)) := by
  unfold ol_hadIn
  refine g_iconst dX1_hadIn_0 ic_0 ?_
  refine g_istore_n (lo2 := [_, _, _, _]) dX1_hadIn_1 rfl (Nat.le_of_ble_eq_true rfl) rfl rfl ?_
  refine g_iconst dX1_hadIn_2 ic_0 ?_
  refine g_istore_n (lo2 := [_, _, _, _]) dX1_hadIn_3 rfl (Nat.le_of_ble_eq_true rfl) rfl rfl ?_
  exact g_to (lk_ol_hadIn_4 F bl hbl μ _ _ _ _) (su_s (su_s (su_s (su_s su_0))))
theorem co_ol_hadIn (F : Nat) (bl : Nat) (hbl : g_isLand bl) (μ : g_St) (v1 : Int32) : g_Con gC 1 yX1_hadIn cX1_hadIn 4 (some .int) [.ref bl, .int v1] μ (g_xi μ (ol_hadIn F bl μ v1)) := g_conOf mc_X1_hadIn.2.2.2.2 (Nat.le_of_ble_eq_true rfl) rfl (g_xi_rk (Or.inl rfl)) (lk_ol_hadIn F bl hbl μ v1)
theorem dX1_lackedIn_0 : decode cX1_lackedIn 0 = .ok (.iconst 0, 1) := by decide +kernel
theorem dX1_lackedIn_1 : decode cX1_lackedIn 1 = .ok (.istore_n 2, 1) := by decide +kernel
theorem dX1_lackedIn_2 : decode cX1_lackedIn 2 = .ok (.iconst 0, 1) := by decide +kernel
theorem dX1_lackedIn_3 : decode cX1_lackedIn 3 = .ok (.istore_n 3, 1) := by decide +kernel
theorem dX1_lackedIn_4 : decode cX1_lackedIn 4 = .ok (.iload_n 3, 1) := by decide +kernel
theorem dX1_lackedIn_5 : decode cX1_lackedIn 5 = .ok (.aload_n 0, 1) := by decide +kernel
theorem dX1_lackedIn_6 : decode cX1_lackedIn 6 = .ok (.getfield 49, 3) := by decide +kernel
theorem dX1_lackedIn_9 : decode cX1_lackedIn 9 = .ok (.if_icmp .ge 58, 3) := by decide +kernel
theorem dX1_lackedIn_12 : decode cX1_lackedIn 12 = .ok (.iconst 0, 1) := by decide +kernel
theorem dX1_lackedIn_13 : decode cX1_lackedIn 13 = .ok (.istore 4, 2) := by decide +kernel
theorem dX1_lackedIn_15 : decode cX1_lackedIn 15 = .ok (.iload 4, 2) := by decide +kernel
theorem dX1_lackedIn_17 : decode cX1_lackedIn 17 = .ok (.aload_n 0, 1) := by decide +kernel
theorem dX1_lackedIn_18 : decode cX1_lackedIn 18 = .ok (.getfield 46, 3) := by decide +kernel
theorem dX1_lackedIn_21 : decode cX1_lackedIn 21 = .ok (.if_icmp .ge 40, 3) := by decide +kernel
theorem dX1_lackedIn_24 : decode cX1_lackedIn 24 = .ok (.iload_n 1, 1) := by decide +kernel
theorem dX1_lackedIn_25 : decode cX1_lackedIn 25 = .ok (.iload_n 3, 1) := by decide +kernel
theorem dX1_lackedIn_26 : decode cX1_lackedIn 26 = .ok (.ishr, 1) := by decide +kernel
theorem dX1_lackedIn_27 : decode cX1_lackedIn 27 = .ok (.iconst 1, 1) := by decide +kernel
theorem dX1_lackedIn_28 : decode cX1_lackedIn 28 = .ok (.iand, 1) := by decide +kernel
theorem dX1_lackedIn_29 : decode cX1_lackedIn 29 = .ok (.iconst 1, 1) := by decide +kernel
theorem dX1_lackedIn_30 : decode cX1_lackedIn 30 = .ok (.if_icmp .ne 31, 3) := by decide +kernel
theorem dX1_lackedIn_33 : decode cX1_lackedIn 33 = .ok (.iload_n 2, 1) := by decide +kernel
theorem dX1_lackedIn_34 : decode cX1_lackedIn 34 = .ok (.aload_n 0, 1) := by decide +kernel
theorem dX1_lackedIn_35 : decode cX1_lackedIn 35 = .ok (.iload_n 3, 1) := by decide +kernel
theorem dX1_lackedIn_36 : decode cX1_lackedIn 36 = .ok (.iload 4, 2) := by decide +kernel
theorem dX1_lackedIn_38 : decode cX1_lackedIn 38 = .ok (.iconst 0, 1) := by decide +kernel
theorem dX1_lackedIn_39 : decode cX1_lackedIn 39 = .ok (.invokevirtual 75, 3) := by decide +kernel
theorem dX1_lackedIn_42 : decode cX1_lackedIn 42 = .ok (.ifCond .le 10, 3) := by decide +kernel
theorem dX1_lackedIn_45 : decode cX1_lackedIn 45 = .ok (.iconst 1, 1) := by decide +kernel
theorem dX1_lackedIn_46 : decode cX1_lackedIn 46 = .ok (.iload 4, 2) := by decide +kernel
theorem dX1_lackedIn_48 : decode cX1_lackedIn 48 = .ok (.ishl, 1) := by decide +kernel
theorem dX1_lackedIn_49 : decode cX1_lackedIn 49 = .ok (.goto 4, 3) := by decide +kernel
theorem dX1_lackedIn_52 : decode cX1_lackedIn 52 = .ok (.iconst 0, 1) := by decide +kernel
theorem dX1_lackedIn_53 : decode cX1_lackedIn 53 = .ok (.ior, 1) := by decide +kernel
theorem dX1_lackedIn_54 : decode cX1_lackedIn 54 = .ok (.istore_n 2, 1) := by decide +kernel
theorem dX1_lackedIn_55 : decode cX1_lackedIn 55 = .ok (.iinc 4 1, 3) := by decide +kernel
theorem dX1_lackedIn_58 : decode cX1_lackedIn 58 = .ok (.goto (-43), 3) := by decide +kernel
theorem dX1_lackedIn_61 : decode cX1_lackedIn 61 = .ok (.iinc 3 1, 3) := by decide +kernel
theorem dX1_lackedIn_64 : decode cX1_lackedIn 64 = .ok (.goto (-60), 3) := by decide +kernel
theorem dX1_lackedIn_67 : decode cX1_lackedIn 67 = .ok (.iload_n 2, 1) := by decide +kernel
theorem dX1_lackedIn_68 : decode cX1_lackedIn 68 = .ok (.aload_n 0, 1) := by decide +kernel
theorem dX1_lackedIn_69 : decode cX1_lackedIn 69 = .ok (.iload_n 1, 1) := by decide +kernel
theorem dX1_lackedIn_70 : decode cX1_lackedIn 70 = .ok (.invokevirtual 83, 3) := by decide +kernel
theorem dX1_lackedIn_73 : decode cX1_lackedIn 73 = .ok (.iconst (-1), 1) := by decide +kernel
theorem dX1_lackedIn_74 : decode cX1_lackedIn 74 = .ok (.ixor, 1) := by decide +kernel
theorem dX1_lackedIn_75 : decode cX1_lackedIn 75 = .ok (.iand, 1) := by decide +kernel
theorem dX1_lackedIn_76 : decode cX1_lackedIn 76 = .ok (.ireturn, 1) := by decide +kernel
theorem lk_ol_lackedIn_15_b (F : Nat) (bl : Nat) (hbl : g_isLand bl) (μ : g_St) (v1 : Int32) (v3 : Int32) (K_4 : Int32 → Int32 → Option Int32) (hK_4 : ∀ (w2 : Int32) (w3 : Int32), g_Go gC 2 yX1_lackedIn cX1_lackedIn 5 (some .int) 4 [some (.ref bl), some (.int v1), some (.int w2), some (.int w3), none] [] μ (Option.map (o_i μ) (K_4 w2 w3))) (K_15 : Int32 → Int32 → Option Int32) (hK_15 : ∀ (w2 : Int32) (w4 : Int32), g_Go gC 2 yX1_lackedIn cX1_lackedIn 5 (some .int) 15 [some (.ref bl), some (.int v1), some (.int w2), some (.int v3), some (.int w4)] [] μ (Option.map (o_i μ) (K_15 w2 w4))) (v2 : Int32) (v4 : Int32) : g_Go gC 2 yX1_lackedIn cX1_lackedIn 5 (some .int) 15 [some (.ref bl), some (.int v1), some (.int v2), some (.int v3), some (.int v4)] [] μ (Option.map (o_i μ) (ol_lackedIn_15_b F bl μ v1 v3 K_4 K_15 v2 v4 )) := by
  unfold ol_lackedIn_15_b
  refine g_iload dX1_lackedIn_15 rfl ?_
  refine g_aload_n dX1_lackedIn_17 rfl rfl ?_
  refine g_getI dX1_lackedIn_18 cf_X1 fl_X1_46 (ly_Land_lt hbl) (ly_Land hbl) rfl (Nat.le_of_ble_eq_true rfl) ?_
  refine w_icmp_ge (tgt := 61) dX1_lackedIn_21 (by decide) ?_ ?_
  · refine g_iload_n dX1_lackedIn_24 rfl rfl ?_
    refine g_iload_n dX1_lackedIn_25 rfl rfl ?_
    refine g_ishr dX1_lackedIn_26 ?_
    refine g_iconst dX1_lackedIn_27 ic_1 ?_
    refine g_iand dX1_lackedIn_28 ?_
    refine g_iconst dX1_lackedIn_29 ic_1 ?_
    refine w_icmp_ne (tgt := 61) dX1_lackedIn_30 (by decide) ?_ ?_
    · refine g_iload_n dX1_lackedIn_33 rfl rfl ?_
      refine g_aload_n dX1_lackedIn_34 rfl rfl ?_
      refine g_iload_n dX1_lackedIn_35 rfl rfl ?_
      refine g_iload dX1_lackedIn_36 rfl ?_
      refine g_iconst dX1_lackedIn_38 ic_0 ?_
      refine w_Vxi [.int _, .int _, .int _] dX1_lackedIn_39 ml_X1_75 mv_X1_worthOf mc_X1_worthOf cf_X1 (ly_Land_lt hbl) (ly_Land hbl) rfl (Nat.le_of_ble_eq_true rfl) (Nat.le_of_ble_eq_true rfl) (Nat.le_of_ble_eq_true rfl) rfl (co_ol_worthOf _ hbl _ _ _ _) (fun x1 => ?_)
      refine w_if_le (tgt := 52) dX1_lackedIn_42 (by decide) ?_ ?_
      · refine g_iconst dX1_lackedIn_45 ic_1 ?_
        refine g_iload dX1_lackedIn_46 rfl ?_
        refine g_ishl dX1_lackedIn_48 ?_
        refine g_goto (tgt := 53) dX1_lackedIn_49 (by decide) ?_
        refine g_ior dX1_lackedIn_53 ?_
        refine w_istore_n (lo2 := fun _ => [_, _, _, _, _]) dX1_lackedIn_54 rfl (Nat.le_of_ble_eq_true rfl) rfl (fun _ => rfl) (fun x2 => ?_)
        refine g_iinc (lo2 := [_, _, _, _, _]) dX1_lackedIn_55 rfl rfl (Nat.le_of_ble_eq_true rfl) rfl rfl ?_
        refine g_goto (tgt := 15) dX1_lackedIn_58 (by decide) ?_
        exact g_to (hK_15 _ _) (su_s (su_s (su_s (su_s (su_s su_0)))))
      · refine g_iconst dX1_lackedIn_52 ic_0 ?_
        refine g_ior dX1_lackedIn_53 ?_
        refine g_istore_n (lo2 := [_, _, _, _, _]) dX1_lackedIn_54 rfl (Nat.le_of_ble_eq_true rfl) rfl rfl ?_
        refine g_iinc (lo2 := [_, _, _, _, _]) dX1_lackedIn_55 rfl rfl (Nat.le_of_ble_eq_true rfl) rfl rfl ?_
        refine g_goto (tgt := 15) dX1_lackedIn_58 (by decide) ?_
        exact g_to (hK_15 _ _) (su_s (su_s (su_s (su_s (su_s su_0)))))
    · refine g_iinc (lo2 := [_, _, _, _, _]) dX1_lackedIn_61 rfl rfl (Nat.le_of_ble_eq_true rfl) rfl rfl ?_
      refine g_goto (tgt := 4) dX1_lackedIn_64 (by decide) ?_
      exact g_to (hK_4 _ _) (su_s (su_s (su_s (su_s (su_n su_0)))))
  · refine g_iinc (lo2 := [_, _, _, _, _]) dX1_lackedIn_61 rfl rfl (Nat.le_of_ble_eq_true rfl) rfl rfl ?_
    refine g_goto (tgt := 4) dX1_lackedIn_64 (by decide) ?_
    exact g_to (hK_4 _ _) (su_s (su_s (su_s (su_s (su_n su_0)))))
theorem lk_ol_lackedIn_15 (F : Nat) (bl : Nat) (hbl : g_isLand bl) (μ : g_St) (v1 : Int32) (v3 : Int32) (K_4 : Int32 → Int32 → Option Int32) (hK_4 : ∀ (w2 : Int32) (w3 : Int32), g_Go gC 2 yX1_lackedIn cX1_lackedIn 5 (some .int) 4 [some (.ref bl), some (.int v1), some (.int w2), some (.int w3), none] [] μ (Option.map (o_i μ) (K_4 w2 w3))) : ∀ (f : Nat) (v2 : Int32) (v4 : Int32) , g_Go gC 2 yX1_lackedIn cX1_lackedIn 5 (some .int) 15 [some (.ref bl), some (.int v1), some (.int v2), some (.int v3), some (.int v4)] [] μ (Option.map (o_i μ) (ol_lackedIn_15 F bl μ v1 v3 K_4 f v2 v4 ))
  | 0, v2, v4 => g_none
  | f + 1, v2, v4 => lk_ol_lackedIn_15_b F bl hbl μ v1 v3 K_4 hK_4 (ol_lackedIn_15 F bl μ v1 v3 K_4 f) (lk_ol_lackedIn_15 F bl hbl μ v1 v3 K_4 hK_4 f) v2 v4 
theorem lk_ol_lackedIn_4_b (F : Nat) (bl : Nat) (hbl : g_isLand bl) (μ : g_St) (v1 : Int32) (K_4 : Int32 → Int32 → Option Int32) (hK_4 : ∀ (w2 : Int32) (w3 : Int32), g_Go gC 2 yX1_lackedIn cX1_lackedIn 5 (some .int) 4 [some (.ref bl), some (.int v1), some (.int w2), some (.int w3), none] [] μ (Option.map (o_i μ) (K_4 w2 w3))) (v2 : Int32) (v3 : Int32) : g_Go gC 2 yX1_lackedIn cX1_lackedIn 5 (some .int) 4 [some (.ref bl), some (.int v1), some (.int v2), some (.int v3), none] [] μ (Option.map (o_i μ) (ol_lackedIn_4_b F bl μ v1 K_4 v2 v3 )) := by
  unfold ol_lackedIn_4_b
  refine g_iload_n dX1_lackedIn_4 rfl rfl ?_
  refine g_aload_n dX1_lackedIn_5 rfl rfl ?_
  refine g_getI dX1_lackedIn_6 cf_X1 fl_X1_49 (ly_Land_lt hbl) (ly_Land hbl) rfl (Nat.le_of_ble_eq_true rfl) ?_
  refine w_icmp_ge (tgt := 67) dX1_lackedIn_9 (by decide) ?_ ?_
  · refine g_iconst dX1_lackedIn_12 ic_0 ?_
    refine g_istore (lo2 := [_, _, _, _, _]) dX1_lackedIn_13 (Nat.le_of_ble_eq_true rfl) rfl rfl ?_
    exact g_to (lk_ol_lackedIn_15 F bl hbl μ _ _ K_4 hK_4 _ _ _) (su_s (su_s (su_s (su_s (su_s su_0)))))
  · refine g_iload_n dX1_lackedIn_67 rfl rfl ?_
    refine g_aload_n dX1_lackedIn_68 rfl rfl ?_
    refine g_iload_n dX1_lackedIn_69 rfl rfl ?_
    refine w_Vxi [.int _] dX1_lackedIn_70 ml_X1_83 mv_X1_hadIn mc_X1_hadIn cf_X1 (ly_Land_lt hbl) (ly_Land hbl) rfl (Nat.le_of_ble_eq_true rfl) (Nat.le_of_ble_eq_true rfl) (Nat.le_of_ble_eq_true rfl) rfl (co_ol_hadIn F _ hbl _ _) (fun x3 => ?_)
    refine g_iconst dX1_lackedIn_73 ic_m1 ?_
    refine g_ixor dX1_lackedIn_74 ?_
    refine g_iand dX1_lackedIn_75 ?_
    exact w_iret dX1_lackedIn_76 rfl rfl
theorem lk_ol_lackedIn_4 (F : Nat) (bl : Nat) (hbl : g_isLand bl) (μ : g_St) (v1 : Int32) : ∀ (f : Nat) (v2 : Int32) (v3 : Int32) , g_Go gC 2 yX1_lackedIn cX1_lackedIn 5 (some .int) 4 [some (.ref bl), some (.int v1), some (.int v2), some (.int v3), none] [] μ (Option.map (o_i μ) (ol_lackedIn_4 F bl μ v1 f v2 v3 ))
  | 0, v2, v3 => g_none
  | f + 1, v2, v3 => lk_ol_lackedIn_4_b F bl hbl μ v1 (ol_lackedIn_4 F bl μ v1 f) (lk_ol_lackedIn_4 F bl hbl μ v1 f) v2 v3 
theorem lk_ol_lackedIn (F : Nat) (bl : Nat) (hbl : g_isLand bl) (μ : g_St) (v1 : Int32) : g_Go gC 2 yX1_lackedIn cX1_lackedIn 5 (some .int) 0 [some (.ref bl), some (.int v1), none, none, none] [] μ (Option.map (o_i μ) (ol_lackedIn F bl μ v1)) := by
  unfold ol_lackedIn
  refine g_iconst dX1_lackedIn_0 ic_0 ?_
  refine g_istore_n (lo2 := [_, _, _, _, _]) dX1_lackedIn_1 rfl (Nat.le_of_ble_eq_true rfl) rfl rfl ?_
  refine g_iconst dX1_lackedIn_2 ic_0 ?_
  refine g_istore_n (lo2 := [_, _, _, _, _]) dX1_lackedIn_3 rfl (Nat.le_of_ble_eq_true rfl) rfl rfl ?_
  exact g_to (lk_ol_lackedIn_4 F bl hbl μ _ _ _ _) (su_s (su_s (su_s (su_s (su_n su_0)))))
theorem co_ol_lackedIn (F : Nat) (bl : Nat) (hbl : g_isLand bl) (μ : g_St) (v1 : Int32) : g_Con gC 2 yX1_lackedIn cX1_lackedIn 5 (some .int) [.ref bl, .int v1] μ (g_xi μ (ol_lackedIn F bl μ v1)) := g_conOf mc_X1_lackedIn.2.2.2.2 (Nat.le_of_ble_eq_true rfl) rfl (g_xi_rk (Or.inl rfl)) (lk_ol_lackedIn F bl hbl μ v1)
theorem dX1_comersTo_0 : decode cX1_comersTo 0 = .ok (.iconst 0, 1) := by decide +kernel
theorem dX1_comersTo_1 : decode cX1_comersTo 1 = .ok (.istore_n 3, 1) := by decide +kernel
theorem dX1_comersTo_2 : decode cX1_comersTo 2 = .ok (.iconst 0, 1) := by decide +kernel
theorem dX1_comersTo_3 : decode cX1_comersTo 3 = .ok (.istore 4, 2) := by decide +kernel
theorem dX1_comersTo_5 : decode cX1_comersTo 5 = .ok (.iload 4, 2) := by decide +kernel
theorem dX1_comersTo_7 : decode cX1_comersTo 7 = .ok (.aload_n 0, 1) := by decide +kernel
theorem dX1_comersTo_8 : decode cX1_comersTo 8 = .ok (.getfield 49, 3) := by decide +kernel
theorem dX1_comersTo_11 : decode cX1_comersTo 11 = .ok (.if_icmp .ge 41, 3) := by decide +kernel
theorem dX1_comersTo_14 : decode cX1_comersTo 14 = .ok (.iload_n 3, 1) := by decide +kernel
theorem dX1_comersTo_15 : decode cX1_comersTo 15 = .ok (.aload_n 0, 1) := by decide +kernel
theorem dX1_comersTo_16 : decode cX1_comersTo 16 = .ok (.getfield 23, 3) := by decide +kernel
theorem dX1_comersTo_19 : decode cX1_comersTo 19 = .ok (.aload_n 0, 1) := by decide +kernel
theorem dX1_comersTo_20 : decode cX1_comersTo 20 = .ok (.getfield 33, 3) := by decide +kernel
theorem dX1_comersTo_23 : decode cX1_comersTo 23 = .ok (.iload 4, 2) := by decide +kernel
theorem dX1_comersTo_25 : decode cX1_comersTo 25 = .ok (.iaload, 1) := by decide +kernel
theorem dX1_comersTo_26 : decode cX1_comersTo 26 = .ok (.aaload, 1) := by decide +kernel
theorem dX1_comersTo_27 : decode cX1_comersTo 27 = .ok (.iload_n 1, 1) := by decide +kernel
theorem dX1_comersTo_28 : decode cX1_comersTo 28 = .ok (.iaload, 1) := by decide +kernel
theorem dX1_comersTo_29 : decode cX1_comersTo 29 = .ok (.iload_n 2, 1) := by decide +kernel
theorem dX1_comersTo_30 : decode cX1_comersTo 30 = .ok (.invokestatic 71, 3) := by decide +kernel
theorem dX1_comersTo_33 : decode cX1_comersTo 33 = .ok (.ifCond .eq 10, 3) := by decide +kernel
theorem dX1_comersTo_36 : decode cX1_comersTo 36 = .ok (.iconst 1, 1) := by decide +kernel
theorem dX1_comersTo_37 : decode cX1_comersTo 37 = .ok (.iload 4, 2) := by decide +kernel
theorem dX1_comersTo_39 : decode cX1_comersTo 39 = .ok (.ishl, 1) := by decide +kernel
theorem dX1_comersTo_40 : decode cX1_comersTo 40 = .ok (.goto 4, 3) := by decide +kernel
theorem dX1_comersTo_43 : decode cX1_comersTo 43 = .ok (.iconst 0, 1) := by decide +kernel
theorem dX1_comersTo_44 : decode cX1_comersTo 44 = .ok (.ior, 1) := by decide +kernel
theorem dX1_comersTo_45 : decode cX1_comersTo 45 = .ok (.istore_n 3, 1) := by decide +kernel
theorem dX1_comersTo_46 : decode cX1_comersTo 46 = .ok (.iinc 4 1, 3) := by decide +kernel
theorem dX1_comersTo_49 : decode cX1_comersTo 49 = .ok (.goto (-44), 3) := by decide +kernel
theorem dX1_comersTo_52 : decode cX1_comersTo 52 = .ok (.iload_n 3, 1) := by decide +kernel
theorem dX1_comersTo_53 : decode cX1_comersTo 53 = .ok (.ireturn, 1) := by decide +kernel
theorem lk_ol_comersTo_5_b (F : Nat) (bl : Nat) (hbl : g_isLand bl) (μ : g_St) (v1 : Int32) (v2 : Int32) (K_5 : Int32 → Int32 → Option Int32) (hK_5 : ∀ (w3 : Int32) (w4 : Int32), g_Go gC 1 yX1_comersTo cX1_comersTo 5 (some .int) 5 [some (.ref bl), some (.int v1), some (.int v2), some (.int w3), some (.int w4)] [] μ (Option.map (o_i μ) (K_5 w3 w4))) (v3 : Int32) (v4 : Int32) : g_Go gC 1 yX1_comersTo cX1_comersTo 5 (some .int) 5 [some (.ref bl), some (.int v1), some (.int v2), some (.int v3), some (.int v4)] [] μ (Option.map (o_i μ) (ol_comersTo_5_b F bl μ v1 v2 K_5 v3 v4 )) := by
  unfold ol_comersTo_5_b
  refine g_iload dX1_comersTo_5 rfl ?_
  refine g_aload_n dX1_comersTo_7 rfl rfl ?_
  refine g_getI dX1_comersTo_8 cf_X1 fl_X1_49 (ly_Land_lt hbl) (ly_Land hbl) rfl (Nat.le_of_ble_eq_true rfl) ?_
  refine w_icmp_ge (tgt := 52) dX1_comersTo_11 (by decide) ?_ ?_
  · refine g_iload_n dX1_comersTo_14 rfl rfl ?_
    refine g_aload_n dX1_comersTo_15 rfl rfl ?_
    refine g_getS dX1_comersTo_16 cf_X1 fl_X1_23 (ly_Land_lt hbl) (ly_Land hbl) rfl (Nat.le_of_ble_eq_true rfl) ?_
    refine g_aload_n dX1_comersTo_19 rfl rfl ?_
    refine g_getS dX1_comersTo_20 cf_X1 fl_X1_33 (ly_Land_lt hbl) (ly_Land hbl) rfl (Nat.le_of_ble_eq_true rfl) ?_
    refine g_iload dX1_comersTo_23 rfl ?_
    refine w_iald dX1_comersTo_25 (ly_Land_home_lt hbl) (ly_Land_home hbl) (fun x1 => ?_)
    refine w_aald4 dX1_comersTo_26 (ly_Land_ways_lt hbl) (ly_Land_ways hbl) (fun j3 hj3 => ?_)
    refine g_iload_n dX1_comersTo_27 rfl rfl ?_
    refine w_iald dX1_comersTo_28 (ly_Land_ways_row_lt hbl hj3) (ly_Land_ways_row hbl hj3) (fun x4 => ?_)
    refine g_iload_n dX1_comersTo_29 rfl rfl ?_
    refine w_Sxi [.int _, .int _] dX1_comersTo_30 ml_X1_71 ms_X1_isWithin mc_X1_isWithin rfl (Nat.le_of_ble_eq_true rfl) (Nat.le_of_ble_eq_true rfl) (Nat.le_of_ble_eq_true rfl) rfl (co_ol_isWithin _ _ _) (fun x5 => ?_)
    refine w_if_eq (tgt := 43) dX1_comersTo_33 (by decide) ?_ ?_
    · refine g_iconst dX1_comersTo_43 ic_0 ?_
      refine g_ior dX1_comersTo_44 ?_
      refine g_istore_n (lo2 := [_, _, _, _, _]) dX1_comersTo_45 rfl (Nat.le_of_ble_eq_true rfl) rfl rfl ?_
      refine g_iinc (lo2 := [_, _, _, _, _]) dX1_comersTo_46 rfl rfl (Nat.le_of_ble_eq_true rfl) rfl rfl ?_
      refine g_goto (tgt := 5) dX1_comersTo_49 (by decide) ?_
      exact g_to (hK_5 _ _) (su_s (su_s (su_s (su_s (su_s su_0)))))
    · refine g_iconst dX1_comersTo_36 ic_1 ?_
      refine g_iload dX1_comersTo_37 rfl ?_
      refine g_ishl dX1_comersTo_39 ?_
      refine g_goto (tgt := 44) dX1_comersTo_40 (by decide) ?_
      refine g_ior dX1_comersTo_44 ?_
      refine w_istore_n (lo2 := fun _ => [_, _, _, _, _]) dX1_comersTo_45 rfl (Nat.le_of_ble_eq_true rfl) rfl (fun _ => rfl) (fun x6 => ?_)
      refine g_iinc (lo2 := [_, _, _, _, _]) dX1_comersTo_46 rfl rfl (Nat.le_of_ble_eq_true rfl) rfl rfl ?_
      refine g_goto (tgt := 5) dX1_comersTo_49 (by decide) ?_
      exact g_to (hK_5 _ _) (su_s (su_s (su_s (su_s (su_s su_0)))))
  · refine g_iload_n dX1_comersTo_52 rfl rfl ?_
    exact w_iret dX1_comersTo_53 rfl rfl
theorem lk_ol_comersTo_5 (F : Nat) (bl : Nat) (hbl : g_isLand bl) (μ : g_St) (v1 : Int32) (v2 : Int32) : ∀ (f : Nat) (v3 : Int32) (v4 : Int32) , g_Go gC 1 yX1_comersTo cX1_comersTo 5 (some .int) 5 [some (.ref bl), some (.int v1), some (.int v2), some (.int v3), some (.int v4)] [] μ (Option.map (o_i μ) (ol_comersTo_5 F bl μ v1 v2 f v3 v4 ))
  | 0, v3, v4 => g_none
  | f + 1, v3, v4 => lk_ol_comersTo_5_b F bl hbl μ v1 v2 (ol_comersTo_5 F bl μ v1 v2 f) (lk_ol_comersTo_5 F bl hbl μ v1 v2 f) v3 v4 
theorem lk_ol_comersTo (F : Nat) (bl : Nat) (hbl : g_isLand bl) (μ : g_St) (v1 : Int32) (v2 : Int32) : g_Go gC 1 yX1_comersTo cX1_comersTo 5 (some .int) 0 [some (.ref bl), some (.int v1), some (.int v2), none, none] [] μ (Option.map (o_i μ) (ol_comersTo F bl μ v1 v2)) := by
  unfold ol_comersTo
  refine g_iconst dX1_comersTo_0 ic_0 ?_
  refine g_istore_n (lo2 := [_, _, _, _, _]) dX1_comersTo_1 rfl (Nat.le_of_ble_eq_true rfl) rfl rfl ?_
  refine g_iconst dX1_comersTo_2 ic_0 ?_
  refine g_istore (lo2 := [_, _, _, _, _]) dX1_comersTo_3 (Nat.le_of_ble_eq_true rfl) rfl rfl ?_
  exact g_to (lk_ol_comersTo_5 F bl hbl μ _ _ _ _ _) (su_s (su_s (su_s (su_s (su_s su_0)))))
theorem co_ol_comersTo (F : Nat) (bl : Nat) (hbl : g_isLand bl) (μ : g_St) (v1 : Int32) (v2 : Int32) : g_Con gC 1 yX1_comersTo cX1_comersTo 5 (some .int) [.ref bl, .int v1, .int v2] μ (g_xi μ (ol_comersTo F bl μ v1 v2)) := g_conOf mc_X1_comersTo.2.2.2.2 (Nat.le_of_ble_eq_true rfl) rfl (g_xi_rk (Or.inl rfl)) (lk_ol_comersTo F bl hbl μ v1 v2)
theorem dX1_hoursTo_0 : decode cX1_hoursTo 0 = .ok (.iconst 0, 1) := by decide +kernel
theorem dX1_hoursTo_1 : decode cX1_hoursTo 1 = .ok (.istore_n 3, 1) := by decide +kernel
theorem dX1_hoursTo_2 : decode cX1_hoursTo 2 = .ok (.iconst 0, 1) := by decide +kernel
theorem dX1_hoursTo_3 : decode cX1_hoursTo 3 = .ok (.istore 4, 2) := by decide +kernel
theorem dX1_hoursTo_5 : decode cX1_hoursTo 5 = .ok (.iload 4, 2) := by decide +kernel
theorem dX1_hoursTo_7 : decode cX1_hoursTo 7 = .ok (.aload_n 0, 1) := by decide +kernel
theorem dX1_hoursTo_8 : decode cX1_hoursTo 8 = .ok (.getfield 49, 3) := by decide +kernel
theorem dX1_hoursTo_11 : decode cX1_hoursTo 11 = .ok (.if_icmp .ge 42, 3) := by decide +kernel
theorem dX1_hoursTo_14 : decode cX1_hoursTo 14 = .ok (.iload_n 3, 1) := by decide +kernel
theorem dX1_hoursTo_15 : decode cX1_hoursTo 15 = .ok (.iload_n 2, 1) := by decide +kernel
theorem dX1_hoursTo_16 : decode cX1_hoursTo 16 = .ok (.iload 4, 2) := by decide +kernel
theorem dX1_hoursTo_18 : decode cX1_hoursTo 18 = .ok (.ishr, 1) := by decide +kernel
theorem dX1_hoursTo_19 : decode cX1_hoursTo 19 = .ok (.iconst 1, 1) := by decide +kernel
theorem dX1_hoursTo_20 : decode cX1_hoursTo 20 = .ok (.iand, 1) := by decide +kernel
theorem dX1_hoursTo_21 : decode cX1_hoursTo 21 = .ok (.iconst 1, 1) := by decide +kernel
theorem dX1_hoursTo_22 : decode cX1_hoursTo 22 = .ok (.if_icmp .ne 22, 3) := by decide +kernel
theorem dX1_hoursTo_25 : decode cX1_hoursTo 25 = .ok (.iconst 2, 1) := by decide +kernel
theorem dX1_hoursTo_26 : decode cX1_hoursTo 26 = .ok (.aload_n 0, 1) := by decide +kernel
theorem dX1_hoursTo_27 : decode cX1_hoursTo 27 = .ok (.getfield 23, 3) := by decide +kernel
theorem dX1_hoursTo_30 : decode cX1_hoursTo 30 = .ok (.aload_n 0, 1) := by decide +kernel
theorem dX1_hoursTo_31 : decode cX1_hoursTo 31 = .ok (.getfield 33, 3) := by decide +kernel
theorem dX1_hoursTo_34 : decode cX1_hoursTo 34 = .ok (.iload 4, 2) := by decide +kernel
theorem dX1_hoursTo_36 : decode cX1_hoursTo 36 = .ok (.iaload, 1) := by decide +kernel
theorem dX1_hoursTo_37 : decode cX1_hoursTo 37 = .ok (.aaload, 1) := by decide +kernel
theorem dX1_hoursTo_38 : decode cX1_hoursTo 38 = .ok (.iload_n 1, 1) := by decide +kernel
theorem dX1_hoursTo_39 : decode cX1_hoursTo 39 = .ok (.iaload, 1) := by decide +kernel
theorem dX1_hoursTo_40 : decode cX1_hoursTo 40 = .ok (.imul, 1) := by decide +kernel
theorem dX1_hoursTo_41 : decode cX1_hoursTo 41 = .ok (.goto 4, 3) := by decide +kernel
theorem dX1_hoursTo_44 : decode cX1_hoursTo 44 = .ok (.iconst 0, 1) := by decide +kernel
theorem dX1_hoursTo_45 : decode cX1_hoursTo 45 = .ok (.iadd, 1) := by decide +kernel
theorem dX1_hoursTo_46 : decode cX1_hoursTo 46 = .ok (.istore_n 3, 1) := by decide +kernel
theorem dX1_hoursTo_47 : decode cX1_hoursTo 47 = .ok (.iinc 4 1, 3) := by decide +kernel
theorem dX1_hoursTo_50 : decode cX1_hoursTo 50 = .ok (.goto (-45), 3) := by decide +kernel
theorem dX1_hoursTo_53 : decode cX1_hoursTo 53 = .ok (.iload_n 3, 1) := by decide +kernel
theorem dX1_hoursTo_54 : decode cX1_hoursTo 54 = .ok (.ireturn, 1) := by decide +kernel
theorem lk_ol_hoursTo_5_b (F : Nat) (bl : Nat) (hbl : g_isLand bl) (μ : g_St) (v1 : Int32) (v2 : Int32) (K_5 : Int32 → Int32 → Option Int32) (hK_5 : ∀ (w3 : Int32) (w4 : Int32), g_Go gC 0 yX1_hoursTo cX1_hoursTo 5 (some .int) 5 [some (.ref bl), some (.int v1), some (.int v2), some (.int w3), some (.int w4)] [] μ (Option.map (o_i μ) (K_5 w3 w4))) (v3 : Int32) (v4 : Int32) : g_Go gC 0 yX1_hoursTo cX1_hoursTo 5 (some .int) 5 [some (.ref bl), some (.int v1), some (.int v2), some (.int v3), some (.int v4)] [] μ (Option.map (o_i μ) (ol_hoursTo_5_b F bl μ v1 v2 K_5 v3 v4 )) := by
  unfold ol_hoursTo_5_b
  refine g_iload dX1_hoursTo_5 rfl ?_
  refine g_aload_n dX1_hoursTo_7 rfl rfl ?_
  refine g_getI dX1_hoursTo_8 cf_X1 fl_X1_49 (ly_Land_lt hbl) (ly_Land hbl) rfl (Nat.le_of_ble_eq_true rfl) ?_
  refine w_icmp_ge (tgt := 53) dX1_hoursTo_11 (by decide) ?_ ?_
  · refine g_iload_n dX1_hoursTo_14 rfl rfl ?_
    refine g_iload_n dX1_hoursTo_15 rfl rfl ?_
    refine g_iload dX1_hoursTo_16 rfl ?_
    refine g_ishr dX1_hoursTo_18 ?_
    refine g_iconst dX1_hoursTo_19 ic_1 ?_
    refine g_iand dX1_hoursTo_20 ?_
    refine g_iconst dX1_hoursTo_21 ic_1 ?_
    refine w_icmp_ne (tgt := 44) dX1_hoursTo_22 (by decide) ?_ ?_
    · refine g_iconst dX1_hoursTo_25 ic_2 ?_
      refine g_aload_n dX1_hoursTo_26 rfl rfl ?_
      refine g_getS dX1_hoursTo_27 cf_X1 fl_X1_23 (ly_Land_lt hbl) (ly_Land hbl) rfl (Nat.le_of_ble_eq_true rfl) ?_
      refine g_aload_n dX1_hoursTo_30 rfl rfl ?_
      refine g_getS dX1_hoursTo_31 cf_X1 fl_X1_33 (ly_Land_lt hbl) (ly_Land hbl) rfl (Nat.le_of_ble_eq_true rfl) ?_
      refine g_iload dX1_hoursTo_34 rfl ?_
      refine w_iald dX1_hoursTo_36 (ly_Land_home_lt hbl) (ly_Land_home hbl) (fun x1 => ?_)
      refine w_aald4 dX1_hoursTo_37 (ly_Land_ways_lt hbl) (ly_Land_ways hbl) (fun j3 hj3 => ?_)
      refine g_iload_n dX1_hoursTo_38 rfl rfl ?_
      refine w_iald dX1_hoursTo_39 (ly_Land_ways_row_lt hbl hj3) (ly_Land_ways_row hbl hj3) (fun x4 => ?_)
      refine g_imul dX1_hoursTo_40 ?_
      refine g_goto (tgt := 45) dX1_hoursTo_41 (by decide) ?_
      refine g_iadd dX1_hoursTo_45 ?_
      refine g_istore_n (lo2 := [_, _, _, _, _]) dX1_hoursTo_46 rfl (Nat.le_of_ble_eq_true rfl) rfl rfl ?_
      refine g_iinc (lo2 := [_, _, _, _, _]) dX1_hoursTo_47 rfl rfl (Nat.le_of_ble_eq_true rfl) rfl rfl ?_
      refine g_goto (tgt := 5) dX1_hoursTo_50 (by decide) ?_
      exact g_to (hK_5 _ _) (su_s (su_s (su_s (su_s (su_s su_0)))))
    · refine g_iconst dX1_hoursTo_44 ic_0 ?_
      refine g_iadd dX1_hoursTo_45 ?_
      refine g_istore_n (lo2 := [_, _, _, _, _]) dX1_hoursTo_46 rfl (Nat.le_of_ble_eq_true rfl) rfl rfl ?_
      refine g_iinc (lo2 := [_, _, _, _, _]) dX1_hoursTo_47 rfl rfl (Nat.le_of_ble_eq_true rfl) rfl rfl ?_
      refine g_goto (tgt := 5) dX1_hoursTo_50 (by decide) ?_
      exact g_to (hK_5 _ _) (su_s (su_s (su_s (su_s (su_s su_0)))))
  · refine g_iload_n dX1_hoursTo_53 rfl rfl ?_
    exact w_iret dX1_hoursTo_54 rfl rfl
theorem lk_ol_hoursTo_5 (F : Nat) (bl : Nat) (hbl : g_isLand bl) (μ : g_St) (v1 : Int32) (v2 : Int32) : ∀ (f : Nat) (v3 : Int32) (v4 : Int32) , g_Go gC 0 yX1_hoursTo cX1_hoursTo 5 (some .int) 5 [some (.ref bl), some (.int v1), some (.int v2), some (.int v3), some (.int v4)] [] μ (Option.map (o_i μ) (ol_hoursTo_5 F bl μ v1 v2 f v3 v4 ))
  | 0, v3, v4 => g_none
  | f + 1, v3, v4 => lk_ol_hoursTo_5_b F bl hbl μ v1 v2 (ol_hoursTo_5 F bl μ v1 v2 f) (lk_ol_hoursTo_5 F bl hbl μ v1 v2 f) v3 v4 
theorem lk_ol_hoursTo (F : Nat) (bl : Nat) (hbl : g_isLand bl) (μ : g_St) (v1 : Int32) (v2 : Int32) : g_Go gC 0 yX1_hoursTo cX1_hoursTo 5 (some .int) 0 [some (.ref bl), some (.int v1), some (.int v2), none, none] [] μ (Option.map (o_i μ) (ol_hoursTo F bl μ v1 v2)) := by
  unfold ol_hoursTo
  refine g_iconst dX1_hoursTo_0 ic_0 ?_
  refine g_istore_n (lo2 := [_, _, _, _, _]) dX1_hoursTo_1 rfl (Nat.le_of_ble_eq_true rfl) rfl rfl ?_
  refine g_iconst dX1_hoursTo_2 ic_0 ?_
  refine g_istore (lo2 := [_, _, _, _, _]) dX1_hoursTo_3 (Nat.le_of_ble_eq_true rfl) rfl rfl ?_
  exact g_to (lk_ol_hoursTo_5 F bl hbl μ _ _ _ _ _) (su_s (su_s (su_s (su_s (su_s su_0)))))
theorem co_ol_hoursTo (F : Nat) (bl : Nat) (hbl : g_isLand bl) (μ : g_St) (v1 : Int32) (v2 : Int32) : g_Con gC 0 yX1_hoursTo cX1_hoursTo 5 (some .int) [.ref bl, .int v1, .int v2] μ (g_xi μ (ol_hoursTo F bl μ v1 v2)) := g_conOf mc_X1_hoursTo.2.2.2.2 (Nat.le_of_ble_eq_true rfl) rfl (g_xi_rk (Or.inl rfl)) (lk_ol_hoursTo F bl hbl μ v1 v2)
theorem dX4_clear_0 : decode cX4_clear 0 = .ok (.aload_n 0, 1) := by decide +kernel
theorem dX4_clear_1 : decode cX4_clear 1 = .ok (.iconst 0, 1) := by decide +kernel
theorem dX4_clear_2 : decode cX4_clear 2 = .ok (.putfield 21, 3) := by decide +kernel
theorem dX4_clear_5 : decode cX4_clear 5 = .ok (.aload_n 0, 1) := by decide +kernel
theorem dX4_clear_6 : decode cX4_clear 6 = .ok (.iconst 0, 1) := by decide +kernel
theorem dX4_clear_7 : decode cX4_clear 7 = .ok (.putfield 25, 3) := by decide +kernel
theorem dX4_clear_10 : decode cX4_clear 10 = .ok (.return_, 1) := by decide +kernel
theorem lk_ou_clear (bu : Nat) (hbu : g_isRule bu) (μ : g_St) : g_Go gC 0 yX4_clear cX4_clear 1 (none : Option Jvm.ClassFile.FieldType) 0 [some (.ref bu)] [] μ (Option.map o_yv (ou_clear bu μ)) := by
  unfold ou_clear
  refine g_aload_n dX4_clear_0 rfl rfl ?_
  refine g_iconst dX4_clear_1 ic_0 ?_
  refine w_putI dX4_clear_2 cf_X4 fl_X4_21 (ly_Rule_lt hbu) (ly_Rule hbu) rfl (Nat.le_of_ble_eq_true rfl) rfl rfl rfl rfl (fun μ1 => ?_)
  refine g_aload_n dX4_clear_5 rfl rfl ?_
  refine g_iconst dX4_clear_6 ic_0 ?_
  refine w_putI dX4_clear_7 cf_X4 fl_X4_25 (ly_Rule_lt hbu) (ly_Rule hbu) rfl (Nat.le_of_ble_eq_true rfl) rfl rfl rfl rfl (fun μ2 => ?_)
  exact w_vret dX4_clear_10 rfl rfl
theorem co_ou_clear (bu : Nat) (hbu : g_isRule bu) (μ : g_St) : g_Con gC 0 yX4_clear cX4_clear 1 (none : Option Jvm.ClassFile.FieldType) [.ref bu] μ (g_yv (ou_clear bu μ)) := g_conOf mc_X4_clear.2.2.2.2 (Nat.le_of_ble_eq_true rfl) rfl g_yv_rk (lk_ou_clear bu hbu μ)
theorem dX4_put_0 : decode cX4_put 0 = .ok (.aload_n 0, 1) := by decide +kernel
theorem dX4_put_1 : decode cX4_put 1 = .ok (.getfield 21, 3) := by decide +kernel
theorem dX4_put_4 : decode cX4_put 4 = .ok (.aload_n 0, 1) := by decide +kernel
theorem dX4_put_5 : decode cX4_put 5 = .ok (.getfield 9, 3) := by decide +kernel
theorem dX4_put_8 : decode cX4_put 8 = .ok (.arraylength, 1) := by decide +kernel
theorem dX4_put_9 : decode cX4_put 9 = .ok (.if_icmp .ge 23, 3) := by decide +kernel
theorem dX4_put_12 : decode cX4_put 12 = .ok (.aload_n 0, 1) := by decide +kernel
theorem dX4_put_13 : decode cX4_put 13 = .ok (.getfield 9, 3) := by decide +kernel
theorem dX4_put_16 : decode cX4_put 16 = .ok (.aload_n 0, 1) := by decide +kernel
theorem dX4_put_17 : decode cX4_put 17 = .ok (.getfield 21, 3) := by decide +kernel
theorem dX4_put_20 : decode cX4_put 20 = .ok (.iload_n 1, 1) := by decide +kernel
theorem dX4_put_21 : decode cX4_put 21 = .ok (.iastore, 1) := by decide +kernel
theorem dX4_put_22 : decode cX4_put 22 = .ok (.aload_n 0, 1) := by decide +kernel
theorem dX4_put_23 : decode cX4_put 23 = .ok (.dup, 1) := by decide +kernel
theorem dX4_put_24 : decode cX4_put 24 = .ok (.getfield 21, 3) := by decide +kernel
theorem dX4_put_27 : decode cX4_put 27 = .ok (.iconst 1, 1) := by decide +kernel
theorem dX4_put_28 : decode cX4_put 28 = .ok (.iadd, 1) := by decide +kernel
theorem dX4_put_29 : decode cX4_put 29 = .ok (.putfield 21, 3) := by decide +kernel
theorem dX4_put_32 : decode cX4_put 32 = .ok (.return_, 1) := by decide +kernel
theorem lk_ou_put (bu : Nat) (hbu : g_isRule bu) (v1 : Int32) (μ : g_St) : g_Go gC 0 yX4_put cX4_put 2 (none : Option Jvm.ClassFile.FieldType) 0 [some (.ref bu), some (.int v1)] [] μ (Option.map o_yv (ou_put bu v1 μ)) := by
  unfold ou_put
  refine g_aload_n dX4_put_0 rfl rfl ?_
  refine g_getI dX4_put_1 cf_X4 fl_X4_21 (ly_Rule_lt hbu) (ly_Rule hbu) rfl (Nat.le_of_ble_eq_true rfl) ?_
  refine g_aload_n dX4_put_4 rfl rfl ?_
  refine g_getS dX4_put_5 cf_X4 fl_X4_9 (ly_Rule_lt hbu) (ly_Rule hbu) rfl (Nat.le_of_ble_eq_true rfl) ?_
  refine g_alen (v := 1000) dX4_put_8 (ly_Rule_steps_lt hbu) (ly_Rule_steps hbu) (by decide) ?_
  refine w_icmp_ge (tgt := 32) dX4_put_9 (by decide) ?_ ?_
  · refine g_aload_n dX4_put_12 rfl rfl ?_
    refine g_getS dX4_put_13 cf_X4 fl_X4_9 (ly_Rule_lt hbu) (ly_Rule hbu) rfl (Nat.le_of_ble_eq_true rfl) ?_
    refine g_aload_n dX4_put_16 rfl rfl ?_
    refine g_getI dX4_put_17 cf_X4 fl_X4_21 (ly_Rule_lt hbu) (ly_Rule hbu) rfl (Nat.le_of_ble_eq_true rfl) ?_
    refine g_iload_n dX4_put_20 rfl rfl ?_
    refine w_iast dX4_put_21 (ly_Rule_steps_lt hbu) (ly_Rule_steps hbu) (fun μ1 => ?_)
    refine g_aload_n dX4_put_22 rfl rfl ?_
    refine g_dupr dX4_put_23 ?_
    refine g_getI dX4_put_24 cf_X4 fl_X4_21 (ly_Rule_lt hbu) (ly_Rule hbu) rfl (Nat.le_of_ble_eq_true rfl) ?_
    refine g_iconst dX4_put_27 ic_1 ?_
    refine g_iadd dX4_put_28 ?_
    refine w_putI dX4_put_29 cf_X4 fl_X4_21 (ly_Rule_lt hbu) (ly_Rule hbu) rfl (Nat.le_of_ble_eq_true rfl) rfl rfl rfl rfl (fun μ2 => ?_)
    exact w_vret dX4_put_32 rfl rfl
  · exact w_vret dX4_put_32 rfl rfl
theorem co_ou_put (bu : Nat) (hbu : g_isRule bu) (v1 : Int32) (μ : g_St) : g_Con gC 0 yX4_put cX4_put 2 (none : Option Jvm.ClassFile.FieldType) [.ref bu, .int v1] μ (g_yv (ou_put bu v1 μ)) := g_conOf mc_X4_put.2.2.2.2 (Nat.le_of_ble_eq_true rfl) rfl g_yv_rk (lk_ou_put bu hbu v1 μ)
theorem dX4_endLine_0 : decode cX4_endLine 0 = .ok (.aload_n 0, 1) := by decide +kernel
theorem dX4_endLine_1 : decode cX4_endLine 1 = .ok (.getfield 25, 3) := by decide +kernel
theorem dX4_endLine_4 : decode cX4_endLine 4 = .ok (.aload_n 0, 1) := by decide +kernel
theorem dX4_endLine_5 : decode cX4_endLine 5 = .ok (.getfield 15, 3) := by decide +kernel
theorem dX4_endLine_8 : decode cX4_endLine 8 = .ok (.arraylength, 1) := by decide +kernel
theorem dX4_endLine_9 : decode cX4_endLine 9 = .ok (.if_icmp .ge 26, 3) := by decide +kernel
theorem dX4_endLine_12 : decode cX4_endLine 12 = .ok (.aload_n 0, 1) := by decide +kernel
theorem dX4_endLine_13 : decode cX4_endLine 13 = .ok (.getfield 15, 3) := by decide +kernel
theorem dX4_endLine_16 : decode cX4_endLine 16 = .ok (.aload_n 0, 1) := by decide +kernel
theorem dX4_endLine_17 : decode cX4_endLine 17 = .ok (.getfield 25, 3) := by decide +kernel
theorem dX4_endLine_20 : decode cX4_endLine 20 = .ok (.aload_n 0, 1) := by decide +kernel
theorem dX4_endLine_21 : decode cX4_endLine 21 = .ok (.getfield 21, 3) := by decide +kernel
theorem dX4_endLine_24 : decode cX4_endLine 24 = .ok (.iastore, 1) := by decide +kernel
theorem dX4_endLine_25 : decode cX4_endLine 25 = .ok (.aload_n 0, 1) := by decide +kernel
theorem dX4_endLine_26 : decode cX4_endLine 26 = .ok (.dup, 1) := by decide +kernel
theorem dX4_endLine_27 : decode cX4_endLine 27 = .ok (.getfield 25, 3) := by decide +kernel
theorem dX4_endLine_30 : decode cX4_endLine 30 = .ok (.iconst 1, 1) := by decide +kernel
theorem dX4_endLine_31 : decode cX4_endLine 31 = .ok (.iadd, 1) := by decide +kernel
theorem dX4_endLine_32 : decode cX4_endLine 32 = .ok (.putfield 25, 3) := by decide +kernel
theorem dX4_endLine_35 : decode cX4_endLine 35 = .ok (.return_, 1) := by decide +kernel
theorem lk_ou_endLine (bu : Nat) (hbu : g_isRule bu) (μ : g_St) : g_Go gC 0 yX4_endLine cX4_endLine 1 (none : Option Jvm.ClassFile.FieldType) 0 [some (.ref bu)] [] μ (Option.map o_yv (ou_endLine bu μ)) := by
  unfold ou_endLine
  refine g_aload_n dX4_endLine_0 rfl rfl ?_
  refine g_getI dX4_endLine_1 cf_X4 fl_X4_25 (ly_Rule_lt hbu) (ly_Rule hbu) rfl (Nat.le_of_ble_eq_true rfl) ?_
  refine g_aload_n dX4_endLine_4 rfl rfl ?_
  refine g_getS dX4_endLine_5 cf_X4 fl_X4_15 (ly_Rule_lt hbu) (ly_Rule hbu) rfl (Nat.le_of_ble_eq_true rfl) ?_
  refine g_alen (v := 6) dX4_endLine_8 (ly_Rule_ends_lt hbu) (ly_Rule_ends hbu) (by decide) ?_
  refine w_icmp_ge (tgt := 35) dX4_endLine_9 (by decide) ?_ ?_
  · refine g_aload_n dX4_endLine_12 rfl rfl ?_
    refine g_getS dX4_endLine_13 cf_X4 fl_X4_15 (ly_Rule_lt hbu) (ly_Rule hbu) rfl (Nat.le_of_ble_eq_true rfl) ?_
    refine g_aload_n dX4_endLine_16 rfl rfl ?_
    refine g_getI dX4_endLine_17 cf_X4 fl_X4_25 (ly_Rule_lt hbu) (ly_Rule hbu) rfl (Nat.le_of_ble_eq_true rfl) ?_
    refine g_aload_n dX4_endLine_20 rfl rfl ?_
    refine g_getI dX4_endLine_21 cf_X4 fl_X4_21 (ly_Rule_lt hbu) (ly_Rule hbu) rfl (Nat.le_of_ble_eq_true rfl) ?_
    refine w_iast dX4_endLine_24 (ly_Rule_ends_lt hbu) (ly_Rule_ends hbu) (fun μ1 => ?_)
    refine g_aload_n dX4_endLine_25 rfl rfl ?_
    refine g_dupr dX4_endLine_26 ?_
    refine g_getI dX4_endLine_27 cf_X4 fl_X4_25 (ly_Rule_lt hbu) (ly_Rule hbu) rfl (Nat.le_of_ble_eq_true rfl) ?_
    refine g_iconst dX4_endLine_30 ic_1 ?_
    refine g_iadd dX4_endLine_31 ?_
    refine w_putI dX4_endLine_32 cf_X4 fl_X4_25 (ly_Rule_lt hbu) (ly_Rule hbu) rfl (Nat.le_of_ble_eq_true rfl) rfl rfl rfl rfl (fun μ2 => ?_)
    exact w_vret dX4_endLine_35 rfl rfl
  · exact w_vret dX4_endLine_35 rfl rfl
theorem co_ou_endLine (bu : Nat) (hbu : g_isRule bu) (μ : g_St) : g_Con gC 0 yX4_endLine cX4_endLine 1 (none : Option Jvm.ClassFile.FieldType) [.ref bu] μ (g_yv (ou_endLine bu μ)) := g_conOf mc_X4_endLine.2.2.2.2 (Nat.le_of_ble_eq_true rfl) rfl g_yv_rk (lk_ou_endLine bu hbu μ)
theorem dX4_joined_0 : decode cX4_joined 0 = .ok (.iload_n 0, 1) := by decide +kernel
theorem dX4_joined_1 : decode cX4_joined 1 = .ok (.lookupswitch 117 #[(11, 59), (12, 73), (43, 109), (45, 113), (60, 87), (61, 98)], 59) := by decide +kernel
theorem dX4_joined_60 : decode cX4_joined 60 = .ok (.iload_n 1, 1) := by decide +kernel
theorem dX4_joined_61 : decode cX4_joined 61 = .ok (.ifCond .eq 11, 3) := by decide +kernel
theorem dX4_joined_64 : decode cX4_joined 64 = .ok (.iload_n 2, 1) := by decide +kernel
theorem dX4_joined_65 : decode cX4_joined 65 = .ok (.ifCond .eq 7, 3) := by decide +kernel
theorem dX4_joined_68 : decode cX4_joined 68 = .ok (.iconst 1, 1) := by decide +kernel
theorem dX4_joined_69 : decode cX4_joined 69 = .ok (.goto 4, 3) := by decide +kernel
theorem dX4_joined_72 : decode cX4_joined 72 = .ok (.iconst 0, 1) := by decide +kernel
theorem dX4_joined_73 : decode cX4_joined 73 = .ok (.ireturn, 1) := by decide +kernel
theorem dX4_joined_74 : decode cX4_joined 74 = .ok (.iload_n 1, 1) := by decide +kernel
theorem dX4_joined_75 : decode cX4_joined 75 = .ok (.ifCond .ne 7, 3) := by decide +kernel
theorem dX4_joined_78 : decode cX4_joined 78 = .ok (.iload_n 2, 1) := by decide +kernel
theorem dX4_joined_79 : decode cX4_joined 79 = .ok (.ifCond .eq 7, 3) := by decide +kernel
theorem dX4_joined_82 : decode cX4_joined 82 = .ok (.iconst 1, 1) := by decide +kernel
theorem dX4_joined_83 : decode cX4_joined 83 = .ok (.goto 4, 3) := by decide +kernel
theorem dX4_joined_86 : decode cX4_joined 86 = .ok (.iconst 0, 1) := by decide +kernel
theorem dX4_joined_87 : decode cX4_joined 87 = .ok (.ireturn, 1) := by decide +kernel
theorem dX4_joined_88 : decode cX4_joined 88 = .ok (.iload_n 1, 1) := by decide +kernel
theorem dX4_joined_89 : decode cX4_joined 89 = .ok (.iload_n 2, 1) := by decide +kernel
theorem dX4_joined_90 : decode cX4_joined 90 = .ok (.if_icmp .ge 7, 3) := by decide +kernel
theorem dX4_joined_93 : decode cX4_joined 93 = .ok (.iconst 1, 1) := by decide +kernel
theorem dX4_joined_94 : decode cX4_joined 94 = .ok (.goto 4, 3) := by decide +kernel
theorem dX4_joined_97 : decode cX4_joined 97 = .ok (.iconst 0, 1) := by decide +kernel
theorem dX4_joined_98 : decode cX4_joined 98 = .ok (.ireturn, 1) := by decide +kernel
theorem dX4_joined_99 : decode cX4_joined 99 = .ok (.iload_n 1, 1) := by decide +kernel
theorem dX4_joined_100 : decode cX4_joined 100 = .ok (.iload_n 2, 1) := by decide +kernel
theorem dX4_joined_101 : decode cX4_joined 101 = .ok (.if_icmp .ne 7, 3) := by decide +kernel
theorem dX4_joined_104 : decode cX4_joined 104 = .ok (.iconst 1, 1) := by decide +kernel
theorem dX4_joined_105 : decode cX4_joined 105 = .ok (.goto 4, 3) := by decide +kernel
theorem dX4_joined_108 : decode cX4_joined 108 = .ok (.iconst 0, 1) := by decide +kernel
theorem dX4_joined_109 : decode cX4_joined 109 = .ok (.ireturn, 1) := by decide +kernel
theorem dX4_joined_110 : decode cX4_joined 110 = .ok (.iload_n 1, 1) := by decide +kernel
theorem dX4_joined_111 : decode cX4_joined 111 = .ok (.iload_n 2, 1) := by decide +kernel
theorem dX4_joined_112 : decode cX4_joined 112 = .ok (.iadd, 1) := by decide +kernel
theorem dX4_joined_113 : decode cX4_joined 113 = .ok (.ireturn, 1) := by decide +kernel
theorem dX4_joined_114 : decode cX4_joined 114 = .ok (.iload_n 1, 1) := by decide +kernel
theorem dX4_joined_115 : decode cX4_joined 115 = .ok (.iload_n 2, 1) := by decide +kernel
theorem dX4_joined_116 : decode cX4_joined 116 = .ok (.isub, 1) := by decide +kernel
theorem dX4_joined_117 : decode cX4_joined 117 = .ok (.ireturn, 1) := by decide +kernel
theorem dX4_joined_118 : decode cX4_joined 118 = .ok (.iload_n 1, 1) := by decide +kernel
theorem dX4_joined_119 : decode cX4_joined 119 = .ok (.iload_n 2, 1) := by decide +kernel
theorem dX4_joined_120 : decode cX4_joined 120 = .ok (.imul, 1) := by decide +kernel
theorem dX4_joined_121 : decode cX4_joined 121 = .ok (.ireturn, 1) := by decide +kernel
theorem lk_ou_joined (μ : g_St) (v0 : Int32) (v1 : Int32) (v2 : Int32) : g_Go gC 0 yX4_joined cX4_joined 3 (some .int) 0 [some (.int v0), some (.int v1), some (.int v2)] [] μ (Option.map (o_i μ) (ou_joined μ v0 v1 v2)) := by
  unfold ou_joined
  refine g_iload_n dX4_joined_0 rfl rfl ?_
  refine w_ite (fun h1 => ?_) (fun h1 => ?_)
  · refine w_lin (tgt := 60) (11 : Int32) h1 dX4_joined_1 (by decide) ?_
    refine g_iload_n dX4_joined_60 rfl rfl ?_
    refine w_if_eq (tgt := 72) dX4_joined_61 (by decide) ?_ ?_
    · refine g_iconst dX4_joined_72 ic_0 ?_
      exact w_iret dX4_joined_73 rfl rfl
    · refine g_iload_n dX4_joined_64 rfl rfl ?_
      refine w_if_eq (tgt := 72) dX4_joined_65 (by decide) ?_ ?_
      · refine g_iconst dX4_joined_72 ic_0 ?_
        exact w_iret dX4_joined_73 rfl rfl
      · refine g_iconst dX4_joined_68 ic_1 ?_
        refine g_goto (tgt := 73) dX4_joined_69 (by decide) ?_
        exact w_iret dX4_joined_73 rfl rfl
  refine w_ite (fun h2 => ?_) (fun h2 => ?_)
  · refine w_lin (tgt := 74) (12 : Int32) h2 dX4_joined_1 (by decide) ?_
    refine g_iload_n dX4_joined_74 rfl rfl ?_
    refine w_if_ne (tgt := 82) dX4_joined_75 (by decide) ?_ ?_
    · refine g_iload_n dX4_joined_78 rfl rfl ?_
      refine w_if_eq (tgt := 86) dX4_joined_79 (by decide) ?_ ?_
      · refine g_iconst dX4_joined_86 ic_0 ?_
        exact w_iret dX4_joined_87 rfl rfl
      · refine g_iconst dX4_joined_82 ic_1 ?_
        refine g_goto (tgt := 87) dX4_joined_83 (by decide) ?_
        exact w_iret dX4_joined_87 rfl rfl
    · refine g_iconst dX4_joined_82 ic_1 ?_
      refine g_goto (tgt := 87) dX4_joined_83 (by decide) ?_
      exact w_iret dX4_joined_87 rfl rfl
  refine w_ite (fun h3 => ?_) (fun h3 => ?_)
  · refine w_lin (tgt := 110) (43 : Int32) h3 dX4_joined_1 (by decide) ?_
    refine g_iload_n dX4_joined_110 rfl rfl ?_
    refine g_iload_n dX4_joined_111 rfl rfl ?_
    refine g_iadd dX4_joined_112 ?_
    exact w_iret dX4_joined_113 rfl rfl
  refine w_ite (fun h4 => ?_) (fun h4 => ?_)
  · refine w_lin (tgt := 114) (45 : Int32) h4 dX4_joined_1 (by decide) ?_
    refine g_iload_n dX4_joined_114 rfl rfl ?_
    refine g_iload_n dX4_joined_115 rfl rfl ?_
    refine g_isub dX4_joined_116 ?_
    exact w_iret dX4_joined_117 rfl rfl
  refine w_ite (fun h5 => ?_) (fun h5 => ?_)
  · refine w_lin (tgt := 88) (60 : Int32) h5 dX4_joined_1 (by decide) ?_
    refine g_iload_n dX4_joined_88 rfl rfl ?_
    refine g_iload_n dX4_joined_89 rfl rfl ?_
    refine w_icmp_ge (tgt := 97) dX4_joined_90 (by decide) ?_ ?_
    · refine g_iconst dX4_joined_93 ic_1 ?_
      refine g_goto (tgt := 98) dX4_joined_94 (by decide) ?_
      exact w_iret dX4_joined_98 rfl rfl
    · refine g_iconst dX4_joined_97 ic_0 ?_
      exact w_iret dX4_joined_98 rfl rfl
  refine w_ite (fun h6 => ?_) (fun h6 => ?_)
  · refine w_lin (tgt := 99) (61 : Int32) h6 dX4_joined_1 (by decide) ?_
    refine g_iload_n dX4_joined_99 rfl rfl ?_
    refine g_iload_n dX4_joined_100 rfl rfl ?_
    refine w_icmp_ne (tgt := 108) dX4_joined_101 (by decide) ?_ ?_
    · refine g_iconst dX4_joined_104 ic_1 ?_
      refine g_goto (tgt := 109) dX4_joined_105 (by decide) ?_
      exact w_iret dX4_joined_109 rfl rfl
    · refine g_iconst dX4_joined_108 ic_0 ?_
      exact w_iret dX4_joined_109 rfl rfl
  refine w_lout (tgt := 118) dX4_joined_1 (by have qh1 := g_neT (n := 11) h1 (by decide); have qh2 := g_neT (n := 12) h2 (by decide); have qh3 := g_neT (n := 43) h3 (by decide); have qh4 := g_neT (n := 45) h4 (by decide); have qh5 := g_neT (n := 60) h5 (by decide); have qh6 := g_neT (n := 61) h6 (by decide); simp [Op.lookupswitch.offset, Ne.symm qh1, Ne.symm qh2, Ne.symm qh3, Ne.symm qh4, Ne.symm qh5, Ne.symm qh6]) (by decide) ?_
  refine g_iload_n dX4_joined_118 rfl rfl ?_
  refine g_iload_n dX4_joined_119 rfl rfl ?_
  refine g_imul dX4_joined_120 ?_
  exact w_iret dX4_joined_121 rfl rfl
theorem co_ou_joined (μ : g_St) (v0 : Int32) (v1 : Int32) (v2 : Int32) : g_Con gC 0 yX4_joined cX4_joined 3 (some .int) [.int v0, .int v1, .int v2] μ (g_xi μ (ou_joined μ v0 v1 v2)) := g_conOf mc_X4_joined.2.2.2.2 (Nat.le_of_ble_eq_true rfl) rfl (g_xi_rk (Or.inl rfl)) (lk_ou_joined μ v0 v1 v2)
theorem dX4_valueOf_0 : decode cX4_valueOf 0 = .ok (.iconst 0, 1) := by decide +kernel
theorem dX4_valueOf_1 : decode cX4_valueOf 1 = .ok (.istore 4, 2) := by decide +kernel
theorem dX4_valueOf_3 : decode cX4_valueOf 3 = .ok (.iload_n 1, 1) := by decide +kernel
theorem dX4_valueOf_4 : decode cX4_valueOf 4 = .ok (.istore 5, 2) := by decide +kernel
theorem dX4_valueOf_6 : decode cX4_valueOf 6 = .ok (.iload 5, 2) := by decide +kernel
theorem dX4_valueOf_8 : decode cX4_valueOf 8 = .ok (.iload_n 2, 1) := by decide +kernel
theorem dX4_valueOf_9 : decode cX4_valueOf 9 = .ok (.if_icmp .ge 155, 3) := by decide +kernel
theorem dX4_valueOf_12 : decode cX4_valueOf 12 = .ok (.aload_n 0, 1) := by decide +kernel
theorem dX4_valueOf_13 : decode cX4_valueOf 13 = .ok (.getfield 9, 3) := by decide +kernel
theorem dX4_valueOf_16 : decode cX4_valueOf 16 = .ok (.iload 5, 2) := by decide +kernel
theorem dX4_valueOf_18 : decode cX4_valueOf 18 = .ok (.iaload, 1) := by decide +kernel
theorem dX4_valueOf_19 : decode cX4_valueOf 19 = .ok (.istore 6, 2) := by decide +kernel
theorem dX4_valueOf_21 : decode cX4_valueOf 21 = .ok (.iload 6, 2) := by decide +kernel
theorem dX4_valueOf_23 : decode cX4_valueOf 23 = .ok (.sipush 20000, 3) := by decide +kernel
theorem dX4_valueOf_26 : decode cX4_valueOf 26 = .ok (.if_icmp .ge 47, 3) := by decide +kernel
theorem dX4_valueOf_29 : decode cX4_valueOf 29 = .ok (.iload 4, 2) := by decide +kernel
theorem dX4_valueOf_31 : decode cX4_valueOf 31 = .ok (.aload_n 0, 1) := by decide +kernel
theorem dX4_valueOf_32 : decode cX4_valueOf 32 = .ok (.getfield 18, 3) := by decide +kernel
theorem dX4_valueOf_35 : decode cX4_valueOf 35 = .ok (.arraylength, 1) := by decide +kernel
theorem dX4_valueOf_36 : decode cX4_valueOf 36 = .ok (.if_icmp .ge 37, 3) := by decide +kernel
theorem dX4_valueOf_39 : decode cX4_valueOf 39 = .ok (.aload_n 0, 1) := by decide +kernel
theorem dX4_valueOf_40 : decode cX4_valueOf 40 = .ok (.getfield 18, 3) := by decide +kernel
theorem dX4_valueOf_43 : decode cX4_valueOf 43 = .ok (.iload 4, 2) := by decide +kernel
theorem dX4_valueOf_45 : decode cX4_valueOf 45 = .ok (.iload 6, 2) := by decide +kernel
theorem dX4_valueOf_47 : decode cX4_valueOf 47 = .ok (.sipush 10000, 3) := by decide +kernel
theorem dX4_valueOf_50 : decode cX4_valueOf 50 = .ok (.if_icmp .ge 8, 3) := by decide +kernel
theorem dX4_valueOf_53 : decode cX4_valueOf 53 = .ok (.iload 6, 2) := by decide +kernel
theorem dX4_valueOf_55 : decode cX4_valueOf 55 = .ok (.goto 11, 3) := by decide +kernel
theorem dX4_valueOf_58 : decode cX4_valueOf 58 = .ok (.aload_n 3, 1) := by decide +kernel
theorem dX4_valueOf_59 : decode cX4_valueOf 59 = .ok (.iload 6, 2) := by decide +kernel
theorem dX4_valueOf_61 : decode cX4_valueOf 61 = .ok (.sipush 10000, 3) := by decide +kernel
theorem dX4_valueOf_64 : decode cX4_valueOf 64 = .ok (.isub, 1) := by decide +kernel
theorem dX4_valueOf_65 : decode cX4_valueOf 65 = .ok (.iaload, 1) := by decide +kernel
theorem dX4_valueOf_66 : decode cX4_valueOf 66 = .ok (.iastore, 1) := by decide +kernel
theorem dX4_valueOf_67 : decode cX4_valueOf 67 = .ok (.iinc 4 1, 3) := by decide +kernel
theorem dX4_valueOf_70 : decode cX4_valueOf 70 = .ok (.goto 88, 3) := by decide +kernel
theorem dX4_valueOf_73 : decode cX4_valueOf 73 = .ok (.iload 6, 2) := by decide +kernel
theorem dX4_valueOf_75 : decode cX4_valueOf 75 = .ok (.sipush 20013, 3) := by decide +kernel
theorem dX4_valueOf_78 : decode cX4_valueOf 78 = .ok (.if_icmp .ne 37, 3) := by decide +kernel
theorem dX4_valueOf_81 : decode cX4_valueOf 81 = .ok (.iload 4, 2) := by decide +kernel
theorem dX4_valueOf_83 : decode cX4_valueOf 83 = .ok (.ifCond .le 32, 3) := by decide +kernel
theorem dX4_valueOf_86 : decode cX4_valueOf 86 = .ok (.aload_n 0, 1) := by decide +kernel
theorem dX4_valueOf_87 : decode cX4_valueOf 87 = .ok (.getfield 18, 3) := by decide +kernel
theorem dX4_valueOf_90 : decode cX4_valueOf 90 = .ok (.iload 4, 2) := by decide +kernel
theorem dX4_valueOf_92 : decode cX4_valueOf 92 = .ok (.iconst 1, 1) := by decide +kernel
theorem dX4_valueOf_93 : decode cX4_valueOf 93 = .ok (.isub, 1) := by decide +kernel
theorem dX4_valueOf_94 : decode cX4_valueOf 94 = .ok (.aload_n 0, 1) := by decide +kernel
theorem dX4_valueOf_95 : decode cX4_valueOf 95 = .ok (.getfield 18, 3) := by decide +kernel
theorem dX4_valueOf_98 : decode cX4_valueOf 98 = .ok (.iload 4, 2) := by decide +kernel
theorem dX4_valueOf_100 : decode cX4_valueOf 100 = .ok (.iconst 1, 1) := by decide +kernel
theorem dX4_valueOf_101 : decode cX4_valueOf 101 = .ok (.isub, 1) := by decide +kernel
theorem dX4_valueOf_102 : decode cX4_valueOf 102 = .ok (.iaload, 1) := by decide +kernel
theorem dX4_valueOf_103 : decode cX4_valueOf 103 = .ok (.ifCond .ne 7, 3) := by decide +kernel
theorem dX4_valueOf_106 : decode cX4_valueOf 106 = .ok (.iconst 1, 1) := by decide +kernel
theorem dX4_valueOf_107 : decode cX4_valueOf 107 = .ok (.goto 4, 3) := by decide +kernel
theorem dX4_valueOf_110 : decode cX4_valueOf 110 = .ok (.iconst 0, 1) := by decide +kernel
theorem dX4_valueOf_111 : decode cX4_valueOf 111 = .ok (.iastore, 1) := by decide +kernel
theorem dX4_valueOf_112 : decode cX4_valueOf 112 = .ok (.goto 46, 3) := by decide +kernel
theorem dX4_valueOf_115 : decode cX4_valueOf 115 = .ok (.iload 4, 2) := by decide +kernel
theorem dX4_valueOf_117 : decode cX4_valueOf 117 = .ok (.iconst 1, 1) := by decide +kernel
theorem dX4_valueOf_118 : decode cX4_valueOf 118 = .ok (.if_icmp .le 40, 3) := by decide +kernel
theorem dX4_valueOf_121 : decode cX4_valueOf 121 = .ok (.iinc 4 (-1), 3) := by decide +kernel
theorem dX4_valueOf_124 : decode cX4_valueOf 124 = .ok (.aload_n 0, 1) := by decide +kernel
theorem dX4_valueOf_125 : decode cX4_valueOf 125 = .ok (.getfield 18, 3) := by decide +kernel
theorem dX4_valueOf_128 : decode cX4_valueOf 128 = .ok (.iload 4, 2) := by decide +kernel
theorem dX4_valueOf_130 : decode cX4_valueOf 130 = .ok (.iconst 1, 1) := by decide +kernel
theorem dX4_valueOf_131 : decode cX4_valueOf 131 = .ok (.isub, 1) := by decide +kernel
theorem dX4_valueOf_132 : decode cX4_valueOf 132 = .ok (.iload 6, 2) := by decide +kernel
theorem dX4_valueOf_134 : decode cX4_valueOf 134 = .ok (.sipush 20000, 3) := by decide +kernel
theorem dX4_valueOf_137 : decode cX4_valueOf 137 = .ok (.isub, 1) := by decide +kernel
theorem dX4_valueOf_138 : decode cX4_valueOf 138 = .ok (.aload_n 0, 1) := by decide +kernel
theorem dX4_valueOf_139 : decode cX4_valueOf 139 = .ok (.getfield 18, 3) := by decide +kernel
theorem dX4_valueOf_142 : decode cX4_valueOf 142 = .ok (.iload 4, 2) := by decide +kernel
theorem dX4_valueOf_144 : decode cX4_valueOf 144 = .ok (.iconst 1, 1) := by decide +kernel
theorem dX4_valueOf_145 : decode cX4_valueOf 145 = .ok (.isub, 1) := by decide +kernel
theorem dX4_valueOf_146 : decode cX4_valueOf 146 = .ok (.iaload, 1) := by decide +kernel
theorem dX4_valueOf_147 : decode cX4_valueOf 147 = .ok (.aload_n 0, 1) := by decide +kernel
theorem dX4_valueOf_148 : decode cX4_valueOf 148 = .ok (.getfield 18, 3) := by decide +kernel
theorem dX4_valueOf_151 : decode cX4_valueOf 151 = .ok (.iload 4, 2) := by decide +kernel
theorem dX4_valueOf_153 : decode cX4_valueOf 153 = .ok (.iaload, 1) := by decide +kernel
theorem dX4_valueOf_154 : decode cX4_valueOf 154 = .ok (.invokestatic 32, 3) := by decide +kernel
theorem dX4_valueOf_157 : decode cX4_valueOf 157 = .ok (.iastore, 1) := by decide +kernel
theorem dX4_valueOf_158 : decode cX4_valueOf 158 = .ok (.iinc 5 1, 3) := by decide +kernel
theorem dX4_valueOf_161 : decode cX4_valueOf 161 = .ok (.goto (-155), 3) := by decide +kernel
theorem dX4_valueOf_164 : decode cX4_valueOf 164 = .ok (.aload_n 0, 1) := by decide +kernel
theorem dX4_valueOf_165 : decode cX4_valueOf 165 = .ok (.getfield 18, 3) := by decide +kernel
theorem dX4_valueOf_168 : decode cX4_valueOf 168 = .ok (.iconst 0, 1) := by decide +kernel
theorem dX4_valueOf_169 : decode cX4_valueOf 169 = .ok (.iaload, 1) := by decide +kernel
theorem dX4_valueOf_170 : decode cX4_valueOf 170 = .ok (.ireturn, 1) := by decide +kernel
theorem lk_ou_valueOf_115 (F : Nat) (bu : Nat) (hbu : g_isRule bu) (v2 : Int32) (v4 : Int32) (v5 : Int32) (v6 : Int32) (K_6 : Int32 → Int32 → g_St → Option (Int32 × g_St)) (hK_6 : ∀ (w4 : Int32) (w5 : Int32) (ν : g_St), g_Go gC 1 yX4_valueOf cX4_valueOf 7 (some .int) 6 [some (.ref bu), none, some (.int v2), some (.ref 70), some (.int w4), some (.int w5), none] [] ν (Option.map o_yi (K_6 w4 w5 ν))) (μ : g_St) : g_Go gC 1 yX4_valueOf cX4_valueOf 7 (some .int) 115 [some (.ref bu), none, some (.int v2), some (.ref 70), some (.int v4), some (.int v5), some (.int v6)] [] μ (Option.map o_yi (ou_valueOf_115 F bu K_6 v2 v4 v5 v6 μ)) := by
  unfold ou_valueOf_115
  refine g_iload dX4_valueOf_115 rfl ?_
  refine g_iconst dX4_valueOf_117 ic_1 ?_
  refine w_icmp_le (tgt := 158) dX4_valueOf_118 (by decide) ?_ ?_
  · refine g_iinc (lo2 := [_, _, _, _, _, _, _]) dX4_valueOf_121 rfl rfl (Nat.le_of_ble_eq_true rfl) rfl rfl ?_
    refine g_aload_n dX4_valueOf_124 rfl rfl ?_
    refine g_getS dX4_valueOf_125 cf_X4 fl_X4_18 (ly_Rule_lt hbu) (ly_Rule hbu) rfl (Nat.le_of_ble_eq_true rfl) ?_
    refine g_iload dX4_valueOf_128 rfl ?_
    refine g_iconst dX4_valueOf_130 ic_1 ?_
    refine g_isub dX4_valueOf_131 ?_
    refine g_iload dX4_valueOf_132 rfl ?_
    refine g_sipush dX4_valueOf_134 sp_20000 ?_
    refine g_isub dX4_valueOf_137 ?_
    refine g_aload_n dX4_valueOf_138 rfl rfl ?_
    refine g_getS dX4_valueOf_139 cf_X4 fl_X4_18 (ly_Rule_lt hbu) (ly_Rule hbu) rfl (Nat.le_of_ble_eq_true rfl) ?_
    refine g_iload dX4_valueOf_142 rfl ?_
    refine g_iconst dX4_valueOf_144 ic_1 ?_
    refine g_isub dX4_valueOf_145 ?_
    refine w_iald dX4_valueOf_146 (ly_Rule_stack_lt hbu) (ly_Rule_stack hbu) (fun x8 => ?_)
    refine g_aload_n dX4_valueOf_147 rfl rfl ?_
    refine g_getS dX4_valueOf_148 cf_X4 fl_X4_18 (ly_Rule_lt hbu) (ly_Rule hbu) rfl (Nat.le_of_ble_eq_true rfl) ?_
    refine g_iload dX4_valueOf_151 rfl ?_
    refine w_iald dX4_valueOf_153 (ly_Rule_stack_lt hbu) (ly_Rule_stack hbu) (fun x9 => ?_)
    refine w_Sxi [.int _, .int _, .int _] dX4_valueOf_154 ml_X4_32 ms_X4_joined mc_X4_joined rfl (Nat.le_of_ble_eq_true rfl) (Nat.le_of_ble_eq_true rfl) (Nat.le_of_ble_eq_true rfl) rfl (co_ou_joined _ _ _ _) (fun x10 => ?_)
    refine w_iast dX4_valueOf_157 (ly_Rule_stack_lt hbu) (ly_Rule_stack hbu) (fun μ11 => ?_)
    refine g_iinc (lo2 := [_, _, _, _, _, _, _]) dX4_valueOf_158 rfl rfl (Nat.le_of_ble_eq_true rfl) rfl rfl ?_
    refine g_goto (tgt := 6) dX4_valueOf_161 (by decide) ?_
    exact g_to (hK_6 _ _ _) (su_s (su_n (su_s (su_s (su_s (su_s (su_n su_0)))))))
  · refine g_iinc (lo2 := [_, _, _, _, _, _, _]) dX4_valueOf_158 rfl rfl (Nat.le_of_ble_eq_true rfl) rfl rfl ?_
    refine g_goto (tgt := 6) dX4_valueOf_161 (by decide) ?_
    exact g_to (hK_6 _ _ _) (su_s (su_n (su_s (su_s (su_s (su_s (su_n su_0)))))))
theorem lk_ou_valueOf_73 (F : Nat) (bu : Nat) (hbu : g_isRule bu) (v2 : Int32) (v4 : Int32) (v5 : Int32) (v6 : Int32) (K_6 : Int32 → Int32 → g_St → Option (Int32 × g_St)) (hK_6 : ∀ (w4 : Int32) (w5 : Int32) (ν : g_St), g_Go gC 1 yX4_valueOf cX4_valueOf 7 (some .int) 6 [some (.ref bu), none, some (.int v2), some (.ref 70), some (.int w4), some (.int w5), none] [] ν (Option.map o_yi (K_6 w4 w5 ν))) (μ : g_St) : g_Go gC 1 yX4_valueOf cX4_valueOf 7 (some .int) 73 [some (.ref bu), none, some (.int v2), some (.ref 70), some (.int v4), some (.int v5), some (.int v6)] [] μ (Option.map o_yi (ou_valueOf_73 F bu K_6 v2 v4 v5 v6 μ)) := by
  unfold ou_valueOf_73
  refine g_iload dX4_valueOf_73 rfl ?_
  refine g_sipush dX4_valueOf_75 sp_20013 ?_
  refine w_icmp_ne (tgt := 115) dX4_valueOf_78 (by decide) ?_ ?_
  · refine g_iload dX4_valueOf_81 rfl ?_
    refine w_if_le (tgt := 115) dX4_valueOf_83 (by decide) ?_ ?_
    · refine g_aload_n dX4_valueOf_86 rfl rfl ?_
      refine g_getS dX4_valueOf_87 cf_X4 fl_X4_18 (ly_Rule_lt hbu) (ly_Rule hbu) rfl (Nat.le_of_ble_eq_true rfl) ?_
      refine g_iload dX4_valueOf_90 rfl ?_
      refine g_iconst dX4_valueOf_92 ic_1 ?_
      refine g_isub dX4_valueOf_93 ?_
      refine g_aload_n dX4_valueOf_94 rfl rfl ?_
      refine g_getS dX4_valueOf_95 cf_X4 fl_X4_18 (ly_Rule_lt hbu) (ly_Rule hbu) rfl (Nat.le_of_ble_eq_true rfl) ?_
      refine g_iload dX4_valueOf_98 rfl ?_
      refine g_iconst dX4_valueOf_100 ic_1 ?_
      refine g_isub dX4_valueOf_101 ?_
      refine w_iald dX4_valueOf_102 (ly_Rule_stack_lt hbu) (ly_Rule_stack hbu) (fun x5 => ?_)
      refine w_if_ne (tgt := 110) dX4_valueOf_103 (by decide) ?_ ?_
      · refine g_iconst dX4_valueOf_106 ic_1 ?_
        refine g_goto (tgt := 111) dX4_valueOf_107 (by decide) ?_
        refine w_iast dX4_valueOf_111 (ly_Rule_stack_lt hbu) (ly_Rule_stack hbu) (fun μ6 => ?_)
        refine g_goto (tgt := 158) dX4_valueOf_112 (by decide) ?_
        refine g_iinc (lo2 := [_, _, _, _, _, _, _]) dX4_valueOf_158 rfl rfl (Nat.le_of_ble_eq_true rfl) rfl rfl ?_
        refine g_goto (tgt := 6) dX4_valueOf_161 (by decide) ?_
        exact g_to (hK_6 _ _ _) (su_s (su_n (su_s (su_s (su_s (su_s (su_n su_0)))))))
      · refine g_iconst dX4_valueOf_110 ic_0 ?_
        refine w_iast dX4_valueOf_111 (ly_Rule_stack_lt hbu) (ly_Rule_stack hbu) (fun μ7 => ?_)
        refine g_goto (tgt := 158) dX4_valueOf_112 (by decide) ?_
        refine g_iinc (lo2 := [_, _, _, _, _, _, _]) dX4_valueOf_158 rfl rfl (Nat.le_of_ble_eq_true rfl) rfl rfl ?_
        refine g_goto (tgt := 6) dX4_valueOf_161 (by decide) ?_
        exact g_to (hK_6 _ _ _) (su_s (su_n (su_s (su_s (su_s (su_s (su_n su_0)))))))
    · exact g_to (lk_ou_valueOf_115 F bu hbu _ _ _ _ K_6 hK_6 _) (su_s (su_n (su_s (su_s (su_s (su_s (su_s su_0)))))))
  · exact g_to (lk_ou_valueOf_115 F bu hbu _ _ _ _ K_6 hK_6 _) (su_s (su_n (su_s (su_s (su_s (su_s (su_s su_0)))))))
theorem lk_ou_valueOf_6_b (F : Nat) (bu : Nat) (hbu : g_isRule bu) (v2 : Int32) (K_6 : Int32 → Int32 → g_St → Option (Int32 × g_St)) (hK_6 : ∀ (w4 : Int32) (w5 : Int32) (ν : g_St), g_Go gC 1 yX4_valueOf cX4_valueOf 7 (some .int) 6 [some (.ref bu), none, some (.int v2), some (.ref 70), some (.int w4), some (.int w5), none] [] ν (Option.map o_yi (K_6 w4 w5 ν))) (v4 : Int32) (v5 : Int32) (μ : g_St) : g_Go gC 1 yX4_valueOf cX4_valueOf 7 (some .int) 6 [some (.ref bu), none, some (.int v2), some (.ref 70), some (.int v4), some (.int v5), none] [] μ (Option.map o_yi (ou_valueOf_6_b F bu v2 K_6 v4 v5 μ)) := by
  unfold ou_valueOf_6_b
  refine g_iload dX4_valueOf_6 rfl ?_
  refine g_iload_n dX4_valueOf_8 rfl rfl ?_
  refine w_icmp_ge (tgt := 164) dX4_valueOf_9 (by decide) ?_ ?_
  · refine g_aload_n dX4_valueOf_12 rfl rfl ?_
    refine g_getS dX4_valueOf_13 cf_X4 fl_X4_9 (ly_Rule_lt hbu) (ly_Rule hbu) rfl (Nat.le_of_ble_eq_true rfl) ?_
    refine g_iload dX4_valueOf_16 rfl ?_
    refine w_iald dX4_valueOf_18 (ly_Rule_steps_lt hbu) (ly_Rule_steps hbu) (fun x1 => ?_)
    refine g_istore (lo2 := [_, _, _, _, _, _, _]) dX4_valueOf_19 (Nat.le_of_ble_eq_true rfl) rfl rfl ?_
    refine g_iload dX4_valueOf_21 rfl ?_
    refine g_sipush dX4_valueOf_23 sp_20000 ?_
    refine w_icmp_ge (tgt := 73) dX4_valueOf_26 (by decide) ?_ ?_
    · refine g_iload dX4_valueOf_29 rfl ?_
      refine g_aload_n dX4_valueOf_31 rfl rfl ?_
      refine g_getS dX4_valueOf_32 cf_X4 fl_X4_18 (ly_Rule_lt hbu) (ly_Rule hbu) rfl (Nat.le_of_ble_eq_true rfl) ?_
      refine g_alen (v := 32) dX4_valueOf_35 (ly_Rule_stack_lt hbu) (ly_Rule_stack hbu) (by decide) ?_
      refine w_icmp_ge (tgt := 73) dX4_valueOf_36 (by decide) ?_ ?_
      · refine g_aload_n dX4_valueOf_39 rfl rfl ?_
        refine g_getS dX4_valueOf_40 cf_X4 fl_X4_18 (ly_Rule_lt hbu) (ly_Rule hbu) rfl (Nat.le_of_ble_eq_true rfl) ?_
        refine g_iload dX4_valueOf_43 rfl ?_
        refine g_iload dX4_valueOf_45 rfl ?_
        refine g_sipush dX4_valueOf_47 sp_10000 ?_
        refine w_icmp_ge (tgt := 58) dX4_valueOf_50 (by decide) ?_ ?_
        · refine g_iload dX4_valueOf_53 rfl ?_
          refine g_goto (tgt := 66) dX4_valueOf_55 (by decide) ?_
          refine w_iast dX4_valueOf_66 (ly_Rule_stack_lt hbu) (ly_Rule_stack hbu) (fun μ2 => ?_)
          refine g_iinc (lo2 := [_, _, _, _, _, _, _]) dX4_valueOf_67 rfl rfl (Nat.le_of_ble_eq_true rfl) rfl rfl ?_
          refine g_goto (tgt := 158) dX4_valueOf_70 (by decide) ?_
          refine g_iinc (lo2 := [_, _, _, _, _, _, _]) dX4_valueOf_158 rfl rfl (Nat.le_of_ble_eq_true rfl) rfl rfl ?_
          refine g_goto (tgt := 6) dX4_valueOf_161 (by decide) ?_
          exact g_to (hK_6 _ _ _) (su_s (su_n (su_s (su_s (su_s (su_s (su_n su_0)))))))
        · refine g_aload_n dX4_valueOf_58 rfl rfl ?_
          refine g_iload dX4_valueOf_59 rfl ?_
          refine g_sipush dX4_valueOf_61 sp_10000 ?_
          refine g_isub dX4_valueOf_64 ?_
          refine w_iald dX4_valueOf_65 ly_Own_facts_lt ly_Own_facts (fun x3 => ?_)
          refine w_iast dX4_valueOf_66 (ly_Rule_stack_lt hbu) (ly_Rule_stack hbu) (fun μ4 => ?_)
          refine g_iinc (lo2 := [_, _, _, _, _, _, _]) dX4_valueOf_67 rfl rfl (Nat.le_of_ble_eq_true rfl) rfl rfl ?_
          refine g_goto (tgt := 158) dX4_valueOf_70 (by decide) ?_
          refine g_iinc (lo2 := [_, _, _, _, _, _, _]) dX4_valueOf_158 rfl rfl (Nat.le_of_ble_eq_true rfl) rfl rfl ?_
          refine g_goto (tgt := 6) dX4_valueOf_161 (by decide) ?_
          exact g_to (hK_6 _ _ _) (su_s (su_n (su_s (su_s (su_s (su_s (su_n su_0)))))))
      · exact g_to (lk_ou_valueOf_73 F bu hbu _ _ _ _ K_6 hK_6 _) (su_s (su_n (su_s (su_s (su_s (su_s (su_s su_0)))))))
    · exact g_to (lk_ou_valueOf_73 F bu hbu _ _ _ _ K_6 hK_6 _) (su_s (su_n (su_s (su_s (su_s (su_s (su_s su_0)))))))
  · refine g_aload_n dX4_valueOf_164 rfl rfl ?_
    refine g_getS dX4_valueOf_165 cf_X4 fl_X4_18 (ly_Rule_lt hbu) (ly_Rule hbu) rfl (Nat.le_of_ble_eq_true rfl) ?_
    refine g_iconst dX4_valueOf_168 ic_0 ?_
    refine w_iald dX4_valueOf_169 (ly_Rule_stack_lt hbu) (ly_Rule_stack hbu) (fun x12 => ?_)
    exact w_iret dX4_valueOf_170 rfl rfl
theorem lk_ou_valueOf_6 (F : Nat) (bu : Nat) (hbu : g_isRule bu) (v2 : Int32) : ∀ (f : Nat) (v4 : Int32) (v5 : Int32) (μ : g_St) , g_Go gC 1 yX4_valueOf cX4_valueOf 7 (some .int) 6 [some (.ref bu), none, some (.int v2), some (.ref 70), some (.int v4), some (.int v5), none] [] μ (Option.map o_yi (ou_valueOf_6 F bu v2 f v4 v5 μ))
  | 0, v4, v5, μ => g_none
  | f + 1, v4, v5, μ => lk_ou_valueOf_6_b F bu hbu v2 (ou_valueOf_6 F bu v2 f) (lk_ou_valueOf_6 F bu hbu v2 f) v4 v5 μ
theorem lk_ou_valueOf (F : Nat) (bu : Nat) (hbu : g_isRule bu) (v1 : Int32) (v2 : Int32) (μ : g_St) : g_Go gC 1 yX4_valueOf cX4_valueOf 7 (some .int) 0 [some (.ref bu), some (.int v1), some (.int v2), some (.ref 70), none, none, none] [] μ (Option.map o_yi (ou_valueOf F bu v1 v2 μ)) := by
  unfold ou_valueOf
  refine g_iconst dX4_valueOf_0 ic_0 ?_
  refine g_istore (lo2 := [_, _, _, _, _, _, _]) dX4_valueOf_1 (Nat.le_of_ble_eq_true rfl) rfl rfl ?_
  refine g_iload_n dX4_valueOf_3 rfl rfl ?_
  refine g_istore (lo2 := [_, _, _, _, _, _, _]) dX4_valueOf_4 (Nat.le_of_ble_eq_true rfl) rfl rfl ?_
  exact g_to (lk_ou_valueOf_6 F bu hbu _ _ _ _ _) (su_s (su_n (su_s (su_s (su_s (su_s (su_n su_0)))))))
theorem co_ou_valueOf (F : Nat) (bu : Nat) (hbu : g_isRule bu) (v1 : Int32) (v2 : Int32) (μ : g_St) : g_Con gC 1 yX4_valueOf cX4_valueOf 7 (some .int) [.ref bu, .int v1, .int v2, .ref 70] μ (g_yi (ou_valueOf F bu v1 v2 μ)) := g_conOf mc_X4_valueOf.2.2.2.2 (Nat.le_of_ble_eq_true rfl) rfl (g_yi_rk (Or.inl rfl)) (lk_ou_valueOf F bu hbu v1 v2 μ)
theorem dX4_allows_0 : decode cX4_allows 0 = .ok (.aload_n 0, 1) := by decide +kernel
theorem dX4_allows_1 : decode cX4_allows 1 = .ok (.getfield 25, 3) := by decide +kernel
theorem dX4_allows_4 : decode cX4_allows 4 = .ok (.ifCond .ne 25, 3) := by decide +kernel
theorem dX4_allows_7 : decode cX4_allows 7 = .ok (.aload_n 1, 1) := by decide +kernel
theorem dX4_allows_8 : decode cX4_allows 8 = .ok (.bipush 14, 2) := by decide +kernel
theorem dX4_allows_10 : decode cX4_allows 10 = .ok (.iaload, 1) := by decide +kernel
theorem dX4_allows_11 : decode cX4_allows 11 = .ok (.iconst 1, 1) := by decide +kernel
theorem dX4_allows_12 : decode cX4_allows 12 = .ok (.if_icmp .eq 11, 3) := by decide +kernel
theorem dX4_allows_15 : decode cX4_allows 15 = .ok (.aload_n 1, 1) := by decide +kernel
theorem dX4_allows_16 : decode cX4_allows 16 = .ok (.bipush 19, 2) := by decide +kernel
theorem dX4_allows_18 : decode cX4_allows 18 = .ok (.iaload, 1) := by decide +kernel
theorem dX4_allows_19 : decode cX4_allows 19 = .ok (.iconst 1, 1) := by decide +kernel
theorem dX4_allows_20 : decode cX4_allows 20 = .ok (.if_icmp .ne 7, 3) := by decide +kernel
theorem dX4_allows_23 : decode cX4_allows 23 = .ok (.iconst 1, 1) := by decide +kernel
theorem dX4_allows_24 : decode cX4_allows 24 = .ok (.goto 4, 3) := by decide +kernel
theorem dX4_allows_27 : decode cX4_allows 27 = .ok (.iconst 0, 1) := by decide +kernel
theorem dX4_allows_28 : decode cX4_allows 28 = .ok (.ireturn, 1) := by decide +kernel
theorem dX4_allows_29 : decode cX4_allows 29 = .ok (.iconst 0, 1) := by decide +kernel
theorem dX4_allows_30 : decode cX4_allows 30 = .ok (.istore_n 2, 1) := by decide +kernel
theorem dX4_allows_31 : decode cX4_allows 31 = .ok (.iconst 0, 1) := by decide +kernel
theorem dX4_allows_32 : decode cX4_allows 32 = .ok (.istore_n 3, 1) := by decide +kernel
theorem dX4_allows_33 : decode cX4_allows 33 = .ok (.iload_n 3, 1) := by decide +kernel
theorem dX4_allows_34 : decode cX4_allows 34 = .ok (.aload_n 0, 1) := by decide +kernel
theorem dX4_allows_35 : decode cX4_allows 35 = .ok (.getfield 25, 3) := by decide +kernel
theorem dX4_allows_38 : decode cX4_allows 38 = .ok (.if_icmp .ge 33, 3) := by decide +kernel
theorem dX4_allows_41 : decode cX4_allows 41 = .ok (.aload_n 0, 1) := by decide +kernel
theorem dX4_allows_42 : decode cX4_allows 42 = .ok (.iload_n 2, 1) := by decide +kernel
theorem dX4_allows_43 : decode cX4_allows 43 = .ok (.aload_n 0, 1) := by decide +kernel
theorem dX4_allows_44 : decode cX4_allows 44 = .ok (.getfield 15, 3) := by decide +kernel
theorem dX4_allows_47 : decode cX4_allows 47 = .ok (.iload_n 3, 1) := by decide +kernel
theorem dX4_allows_48 : decode cX4_allows 48 = .ok (.iaload, 1) := by decide +kernel
theorem dX4_allows_49 : decode cX4_allows 49 = .ok (.aload_n 1, 1) := by decide +kernel
theorem dX4_allows_50 : decode cX4_allows 50 = .ok (.invokevirtual 28, 3) := by decide +kernel
theorem dX4_allows_53 : decode cX4_allows 53 = .ok (.ifCond .eq 5, 3) := by decide +kernel
theorem dX4_allows_56 : decode cX4_allows 56 = .ok (.iconst 1, 1) := by decide +kernel
theorem dX4_allows_57 : decode cX4_allows 57 = .ok (.ireturn, 1) := by decide +kernel
theorem dX4_allows_58 : decode cX4_allows 58 = .ok (.aload_n 0, 1) := by decide +kernel
theorem dX4_allows_59 : decode cX4_allows 59 = .ok (.getfield 15, 3) := by decide +kernel
theorem dX4_allows_62 : decode cX4_allows 62 = .ok (.iload_n 3, 1) := by decide +kernel
theorem dX4_allows_63 : decode cX4_allows 63 = .ok (.iaload, 1) := by decide +kernel
theorem dX4_allows_64 : decode cX4_allows 64 = .ok (.istore_n 2, 1) := by decide +kernel
theorem dX4_allows_65 : decode cX4_allows 65 = .ok (.iinc 3 1, 3) := by decide +kernel
theorem dX4_allows_68 : decode cX4_allows 68 = .ok (.goto (-35), 3) := by decide +kernel
theorem dX4_allows_71 : decode cX4_allows 71 = .ok (.iconst 0, 1) := by decide +kernel
theorem dX4_allows_72 : decode cX4_allows 72 = .ok (.ireturn, 1) := by decide +kernel
theorem lk_ou_allows_33_b (F : Nat) (bu : Nat) (hbu : g_isRule bu) (K_33 : Int32 → Int32 → g_St → Option (Int32 × g_St)) (hK_33 : ∀ (w2 : Int32) (w3 : Int32) (ν : g_St), g_Go gC 2 yX4_allows cX4_allows 4 (some .boolean) 33 [some (.ref bu), some (.ref 70), some (.int w2), some (.int w3)] [] ν (Option.map o_yi (K_33 w2 w3 ν))) (v2 : Int32) (v3 : Int32) (μ : g_St) : g_Go gC 2 yX4_allows cX4_allows 4 (some .boolean) 33 [some (.ref bu), some (.ref 70), some (.int v2), some (.int v3)] [] μ (Option.map o_yi (ou_allows_33_b F bu K_33 v2 v3 μ)) := by
  unfold ou_allows_33_b
  refine g_iload_n dX4_allows_33 rfl rfl ?_
  refine g_aload_n dX4_allows_34 rfl rfl ?_
  refine g_getI dX4_allows_35 cf_X4 fl_X4_25 (ly_Rule_lt hbu) (ly_Rule hbu) rfl (Nat.le_of_ble_eq_true rfl) ?_
  refine w_icmp_ge (tgt := 71) dX4_allows_38 (by decide) ?_ ?_
  · refine g_aload_n dX4_allows_41 rfl rfl ?_
    refine g_iload_n dX4_allows_42 rfl rfl ?_
    refine g_aload_n dX4_allows_43 rfl rfl ?_
    refine g_getS dX4_allows_44 cf_X4 fl_X4_15 (ly_Rule_lt hbu) (ly_Rule hbu) rfl (Nat.le_of_ble_eq_true rfl) ?_
    refine g_iload_n dX4_allows_47 rfl rfl ?_
    refine w_iald dX4_allows_48 (ly_Rule_ends_lt hbu) (ly_Rule_ends hbu) (fun x3 => ?_)
    refine g_aload_n dX4_allows_49 rfl rfl ?_
    refine w_Vyi [.int _, .int _, .ref _] dX4_allows_50 ml_X4_28 mv_X4_valueOf mc_X4_valueOf cf_X4 (ly_Rule_lt hbu) (ly_Rule hbu) rfl (Nat.le_of_ble_eq_true rfl) (Nat.le_of_ble_eq_true rfl) (Nat.le_of_ble_eq_true rfl) rfl (co_ou_valueOf F _ hbu _ _ _) (fun q4 => ?_)
    refine w_if_eq (tgt := 58) dX4_allows_53 (by decide) ?_ ?_
    · refine g_aload_n dX4_allows_58 rfl rfl ?_
      refine g_getS dX4_allows_59 cf_X4 fl_X4_15 (ly_Rule_lt hbu) (ly_Rule hbu) rfl (Nat.le_of_ble_eq_true rfl) ?_
      refine g_iload_n dX4_allows_62 rfl rfl ?_
      refine w_iald dX4_allows_63 (ly_Rule_ends_lt hbu) (ly_Rule_ends hbu) (fun x5 => ?_)
      refine g_istore_n (lo2 := [_, _, _, _]) dX4_allows_64 rfl (Nat.le_of_ble_eq_true rfl) rfl rfl ?_
      refine g_iinc (lo2 := [_, _, _, _]) dX4_allows_65 rfl rfl (Nat.le_of_ble_eq_true rfl) rfl rfl ?_
      refine g_goto (tgt := 33) dX4_allows_68 (by decide) ?_
      exact g_to (hK_33 _ _ _) (su_s (su_s (su_s (su_s su_0))))
    · refine g_iconst dX4_allows_56 ic_1 ?_
      exact w_iret dX4_allows_57 (by decide) rfl
  · refine g_iconst dX4_allows_71 ic_0 ?_
    exact w_iret dX4_allows_72 (by decide) rfl
theorem lk_ou_allows_33 (F : Nat) (bu : Nat) (hbu : g_isRule bu) : ∀ (f : Nat) (v2 : Int32) (v3 : Int32) (μ : g_St) , g_Go gC 2 yX4_allows cX4_allows 4 (some .boolean) 33 [some (.ref bu), some (.ref 70), some (.int v2), some (.int v3)] [] μ (Option.map o_yi (ou_allows_33 F bu f v2 v3 μ))
  | 0, v2, v3, μ => g_none
  | f + 1, v2, v3, μ => lk_ou_allows_33_b F bu hbu (ou_allows_33 F bu f) (lk_ou_allows_33 F bu hbu f) v2 v3 μ
theorem lk_ou_allows (F : Nat) (bu : Nat) (hbu : g_isRule bu) (μ : g_St) : g_Go gC 2 yX4_allows cX4_allows 4 (some .boolean) 0 [some (.ref bu), some (.ref 70), none, none] [] μ (Option.map o_yi (ou_allows F bu μ)) := by
  unfold ou_allows
  refine g_aload_n dX4_allows_0 rfl rfl ?_
  refine g_getI dX4_allows_1 cf_X4 fl_X4_25 (ly_Rule_lt hbu) (ly_Rule hbu) rfl (Nat.le_of_ble_eq_true rfl) ?_
  refine w_if_ne (tgt := 29) dX4_allows_4 (by decide) ?_ ?_
  · refine g_aload_n dX4_allows_7 rfl rfl ?_
    refine g_bipush dX4_allows_8 bp_14 ?_
    refine w_iald dX4_allows_10 ly_Own_facts_lt ly_Own_facts (fun x1 => ?_)
    refine g_iconst dX4_allows_11 ic_1 ?_
    refine w_icmp_eq (tgt := 23) dX4_allows_12 (by decide) ?_ ?_
    · refine g_iconst dX4_allows_23 ic_1 ?_
      refine g_goto (tgt := 28) dX4_allows_24 (by decide) ?_
      exact w_iret dX4_allows_28 (by decide) rfl
    · refine g_aload_n dX4_allows_15 rfl rfl ?_
      refine g_bipush dX4_allows_16 bp_19 ?_
      refine w_iald dX4_allows_18 ly_Own_facts_lt ly_Own_facts (fun x2 => ?_)
      refine g_iconst dX4_allows_19 ic_1 ?_
      refine w_icmp_ne (tgt := 27) dX4_allows_20 (by decide) ?_ ?_
      · refine g_iconst dX4_allows_23 ic_1 ?_
        refine g_goto (tgt := 28) dX4_allows_24 (by decide) ?_
        exact w_iret dX4_allows_28 (by decide) rfl
      · refine g_iconst dX4_allows_27 ic_0 ?_
        exact w_iret dX4_allows_28 (by decide) rfl
  · refine g_iconst dX4_allows_29 ic_0 ?_
    refine g_istore_n (lo2 := [_, _, _, _]) dX4_allows_30 rfl (Nat.le_of_ble_eq_true rfl) rfl rfl ?_
    refine g_iconst dX4_allows_31 ic_0 ?_
    refine g_istore_n (lo2 := [_, _, _, _]) dX4_allows_32 rfl (Nat.le_of_ble_eq_true rfl) rfl rfl ?_
    exact g_to (lk_ou_allows_33 F bu hbu _ _ _ _) (su_s (su_s (su_s (su_s su_0))))
theorem co_ou_allows (F : Nat) (bu : Nat) (hbu : g_isRule bu) (μ : g_St) : g_Con gC 2 yX4_allows cX4_allows 4 (some .boolean) [.ref bu, .ref 70] μ (g_yi (ou_allows F bu μ)) := g_conOf mc_X4_allows.2.2.2.2 (Nat.le_of_ble_eq_true rfl) rfl (g_yi_rk (Or.inr (Or.inl rfl))) (lk_ou_allows F bu hbu μ)
