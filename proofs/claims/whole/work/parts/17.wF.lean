/-! Walks, printed by wip/gen -/
theorem dX8_feed_0 : decode cX8_feed 0 = .ok (.aload_n 0, 1) := by decide +kernel
theorem dX8_feed_1 : decode cX8_feed 1 = .ok (.getfield 10, 3) := by decide +kernel
theorem dX8_feed_4 : decode cX8_feed 4 = .ok (.lload_n 1, 1) := by decide +kernel
theorem dX8_feed_5 : decode cX8_feed 5 = .ok (.invokevirtual 74, 3) := by decide +kernel
theorem dX8_feed_8 : decode cX8_feed 8 = .ok (.aload_n 0, 1) := by decide +kernel
theorem dX8_feed_9 : decode cX8_feed 9 = .ok (.getfield 10, 3) := by decide +kernel
theorem dX8_feed_12 : decode cX8_feed 12 = .ok (.lload_n 3, 1) := by decide +kernel
theorem dX8_feed_13 : decode cX8_feed 13 = .ok (.invokevirtual 74, 3) := by decide +kernel
theorem dX8_feed_16 : decode cX8_feed 16 = .ok (.aload_n 0, 1) := by decide +kernel
theorem dX8_feed_17 : decode cX8_feed 17 = .ok (.getfield 10, 3) := by decide +kernel
theorem dX8_feed_20 : decode cX8_feed 20 = .ok (.lload 5, 2) := by decide +kernel
theorem dX8_feed_22 : decode cX8_feed 22 = .ok (.invokevirtual 74, 3) := by decide +kernel
theorem dX8_feed_25 : decode cX8_feed 25 = .ok (.aload_n 0, 1) := by decide +kernel
theorem dX8_feed_26 : decode cX8_feed 26 = .ok (.getfield 10, 3) := by decide +kernel
theorem dX8_feed_29 : decode cX8_feed 29 = .ok (.getfield 78, 3) := by decide +kernel
theorem dX8_feed_32 : decode cX8_feed 32 = .ok (.ireturn, 1) := by decide +kernel
theorem lk_oo_feed (F : Nat) (v1 : Int64) (v3 : Int64) (v5 : Int64) (μ : g_St) : g_Go gC 1 yX8_feed cX8_feed 7 (some .int) 0 [some (.ref 0), some (.long v1), none, some (.long v3), none, some (.long v5), none] [] μ (Option.map o_yi (oo_feed F v1 v3 v5 μ)) := by
  unfold oo_feed
  refine g_aload_n dX8_feed_0 rfl rfl ?_
  refine g_getS dX8_feed_1 cf_X8 fl_X8_10 ly_Own_lt ly_Own rfl (Nat.le_of_ble_eq_true rfl) ?_
  refine g_lload_n dX8_feed_4 rfl rfl ?_
  refine w_Vyv [.long _] dX8_feed_5 ml_X8_74 mv_X6_add mc_X6_add cf_X6 ly_Tape_lt ly_Tape rfl (Nat.le_of_ble_eq_true rfl) (Nat.le_of_ble_eq_true rfl) (Nat.le_of_ble_eq_true rfl) rfl (co_ot_add F _ _) (fun μ1 => ?_)
  refine g_aload_n dX8_feed_8 rfl rfl ?_
  refine g_getS dX8_feed_9 cf_X8 fl_X8_10 ly_Own_lt ly_Own rfl (Nat.le_of_ble_eq_true rfl) ?_
  refine g_lload_n dX8_feed_12 rfl rfl ?_
  refine w_Vyv [.long _] dX8_feed_13 ml_X8_74 mv_X6_add mc_X6_add cf_X6 ly_Tape_lt ly_Tape rfl (Nat.le_of_ble_eq_true rfl) (Nat.le_of_ble_eq_true rfl) (Nat.le_of_ble_eq_true rfl) rfl (co_ot_add F _ _) (fun μ2 => ?_)
  refine g_aload_n dX8_feed_16 rfl rfl ?_
  refine g_getS dX8_feed_17 cf_X8 fl_X8_10 ly_Own_lt ly_Own rfl (Nat.le_of_ble_eq_true rfl) ?_
  refine g_lload dX8_feed_20 rfl ?_
  refine w_Vyv [.long _] dX8_feed_22 ml_X8_74 mv_X6_add mc_X6_add cf_X6 ly_Tape_lt ly_Tape rfl (Nat.le_of_ble_eq_true rfl) (Nat.le_of_ble_eq_true rfl) (Nat.le_of_ble_eq_true rfl) rfl (co_ot_add F _ _) (fun μ3 => ?_)
  refine g_aload_n dX8_feed_25 rfl rfl ?_
  refine g_getS dX8_feed_26 cf_X8 fl_X8_10 ly_Own_lt ly_Own rfl (Nat.le_of_ble_eq_true rfl) ?_
  refine g_getI dX8_feed_29 cf_X6 fl_X8_78 ly_Tape_lt ly_Tape rfl (Nat.le_of_ble_eq_true rfl) ?_
  exact w_iret dX8_feed_32 rfl rfl
theorem co_oo_feed (F : Nat) (v1 : Int64) (v3 : Int64) (v5 : Int64) (μ : g_St) : g_Con gC 1 yX8_feed cX8_feed 7 (some .int) [.ref 0, .long v1, .long v3, .long v5] μ (g_yi (oo_feed F v1 v3 v5 μ)) := g_conOf mc_X8_feed.2.2.2.2 (Nat.le_of_ble_eq_true rfl) rfl (g_yi_rk (Or.inl rfl)) (lk_oo_feed F v1 v3 v5 μ)
theorem dX8_land_0 : decode cX8_land 0 = .ok (.aload_n 0, 1) := by decide +kernel
theorem dX8_land_1 : decode cX8_land 1 = .ok (.getfield 10, 3) := by decide +kernel
theorem dX8_land_4 : decode cX8_land 4 = .ok (.aload_n 0, 1) := by decide +kernel
theorem dX8_land_5 : decode cX8_land 5 = .ok (.getfield 23, 3) := by decide +kernel
theorem dX8_land_8 : decode cX8_land 8 = .ok (.invokestatic 82, 3) := by decide +kernel
theorem dX8_land_11 : decode cX8_land 11 = .ok (.istore_n 1, 1) := by decide +kernel
theorem dX8_land_12 : decode cX8_land 12 = .ok (.iload_n 1, 1) := by decide +kernel
theorem dX8_land_13 : decode cX8_land 13 = .ok (.ifCond .eq 5, 3) := by decide +kernel
theorem dX8_land_16 : decode cX8_land 16 = .ok (.iload_n 1, 1) := by decide +kernel
theorem dX8_land_17 : decode cX8_land 17 = .ok (.ireturn, 1) := by decide +kernel
theorem dX8_land_18 : decode cX8_land 18 = .ok (.aload_n 0, 1) := by decide +kernel
theorem dX8_land_19 : decode cX8_land 19 = .ok (.getfield 23, 3) := by decide +kernel
theorem dX8_land_22 : decode cX8_land 22 = .ok (.astore_n 2, 1) := by decide +kernel
theorem dX8_land_23 : decode cX8_land 23 = .ok (.aload_n 0, 1) := by decide +kernel
theorem dX8_land_24 : decode cX8_land 24 = .ok (.aload_n 0, 1) := by decide +kernel
theorem dX8_land_25 : decode cX8_land 25 = .ok (.getfield 19, 3) := by decide +kernel
theorem dX8_land_28 : decode cX8_land 28 = .ok (.putfield 23, 3) := by decide +kernel
theorem dX8_land_31 : decode cX8_land 31 = .ok (.aload_n 0, 1) := by decide +kernel
theorem dX8_land_32 : decode cX8_land 32 = .ok (.aload_n 2, 1) := by decide +kernel
theorem dX8_land_33 : decode cX8_land 33 = .ok (.putfield 19, 3) := by decide +kernel
theorem dX8_land_36 : decode cX8_land 36 = .ok (.aload_n 0, 1) := by decide +kernel
theorem dX8_land_37 : decode cX8_land 37 = .ok (.getfield 39, 3) := by decide +kernel
theorem dX8_land_40 : decode cX8_land 40 = .ok (.aload_n 0, 1) := by decide +kernel
theorem dX8_land_41 : decode cX8_land 41 = .ok (.getfield 19, 3) := by decide +kernel
theorem dX8_land_44 : decode cX8_land 44 = .ok (.invokevirtual 88, 3) := by decide +kernel
theorem dX8_land_47 : decode cX8_land 47 = .ok (.aload_n 0, 1) := by decide +kernel
theorem dX8_land_48 : decode cX8_land 48 = .ok (.iconst 0, 1) := by decide +kernel
theorem dX8_land_49 : decode cX8_land 49 = .ok (.putfield 92, 3) := by decide +kernel
theorem dX8_land_52 : decode cX8_land 52 = .ok (.aload_n 0, 1) := by decide +kernel
theorem dX8_land_53 : decode cX8_land 53 = .ok (.iconst 0, 1) := by decide +kernel
theorem dX8_land_54 : decode cX8_land 54 = .ok (.putfield 95, 3) := by decide +kernel
theorem dX8_land_57 : decode cX8_land 57 = .ok (.iconst 0, 1) := by decide +kernel
theorem dX8_land_58 : decode cX8_land 58 = .ok (.ireturn, 1) := by decide +kernel
theorem lk_oo_land (F : Nat) (μ : g_St) : g_Go gC 7 yX8_land cX8_land 3 (some .int) 0 [some (.ref 0), none, none] [] μ (Option.map o_yi (oo_land F μ)) := by
  unfold oo_land
  refine g_aload_n dX8_land_0 rfl rfl ?_
  refine g_getS dX8_land_1 cf_X8 fl_X8_10 ly_Own_lt ly_Own rfl (Nat.le_of_ble_eq_true rfl) ?_
  refine g_aload_n dX8_land_4 rfl rfl ?_
  refine w_getql dX8_land_5 cf_X8 fl_X8_23 ly_Own_lt ly_Own rfl (Nat.le_of_ble_eq_true rfl) (fun b1 hb1 => ?_)
  refine w_Syi [.ref _, .ref _] dX8_land_8 ml_X8_82 ms_X2_read mc_X2_read rfl (Nat.le_of_ble_eq_true rfl) (Nat.le_of_ble_eq_true rfl) (Nat.le_of_ble_eq_true rfl) rfl (co_od_read F _ hb1 _) (fun q2 => ?_)
  refine g_istore_n (lo2 := [_, _, _]) dX8_land_11 rfl (Nat.le_of_ble_eq_true rfl) rfl rfl ?_
  refine g_iload_n dX8_land_12 rfl rfl ?_
  refine w_if_eq (tgt := 18) dX8_land_13 (by decide) ?_ ?_
  · refine g_aload_n dX8_land_18 rfl rfl ?_
    refine w_getql dX8_land_19 cf_X8 fl_X8_23 ly_Own_lt ly_Own rfl (Nat.le_of_ble_eq_true rfl) (fun b3 hb3 => ?_)
    refine g_astore_n (lo2 := [_, _, _]) dX8_land_22 rfl (Nat.le_of_ble_eq_true rfl) rfl rfl ?_
    refine g_aload_n dX8_land_23 rfl rfl ?_
    refine g_aload_n dX8_land_24 rfl rfl ?_
    refine w_getql dX8_land_25 cf_X8 fl_X8_19 ly_Own_lt ly_Own rfl (Nat.le_of_ble_eq_true rfl) (fun b4 hb4 => ?_)
    refine w_putQ2 dX8_land_28 cf_X8 fl_X8_23 ly_Own_lt ly_Own rfl (Nat.le_of_ble_eq_true rfl) rfl rfl (g_q1 2 rfl) ly_fix (fun μ5 => ?_)
    refine g_aload_n dX8_land_31 rfl rfl ?_
    refine g_aload_n dX8_land_32 rfl rfl ?_
    refine w_putQ2 dX8_land_33 cf_X8 fl_X8_19 ly_Own_lt ly_Own rfl (Nat.le_of_ble_eq_true rfl) rfl rfl (g_q1 1 rfl) ly_fix (fun μ6 => ?_)
    refine g_aload_n dX8_land_36 rfl rfl ?_
    refine g_getS dX8_land_37 cf_X8 fl_X8_39 ly_Own_lt ly_Own rfl (Nat.le_of_ble_eq_true rfl) ?_
    refine g_aload_n dX8_land_40 rfl rfl ?_
    refine w_getql dX8_land_41 cf_X8 fl_X8_19 ly_Own_lt ly_Own rfl (Nat.le_of_ble_eq_true rfl) (fun b7 hb7 => ?_)
    refine w_Vyv [.ref _] dX8_land_44 ml_X8_88 mv_X7_begin mc_X7_begin cf_X7 (ly_Week_lt (Or.inl rfl)) (ly_Week (Or.inl rfl)) rfl (Nat.le_of_ble_eq_true rfl) (Nat.le_of_ble_eq_true rfl) (Nat.le_of_ble_eq_true rfl) rfl (co_ow_begin F _ (Or.inl rfl) _ hb7 _) (fun μ8 => ?_)
    refine g_aload_n dX8_land_47 rfl rfl ?_
    refine g_iconst dX8_land_48 ic_0 ?_
    refine w_putI dX8_land_49 cf_X8 fl_X8_92 ly_Own_lt ly_Own rfl (Nat.le_of_ble_eq_true rfl) rfl rfl rfl rfl (fun μ9 => ?_)
    refine g_aload_n dX8_land_52 rfl rfl ?_
    refine g_iconst dX8_land_53 ic_0 ?_
    refine w_putI dX8_land_54 cf_X8 fl_X8_95 ly_Own_lt ly_Own rfl (Nat.le_of_ble_eq_true rfl) rfl rfl (by decide) (by decide) (fun μ10 => ?_)
    refine g_iconst dX8_land_57 ic_0 ?_
    exact w_iret dX8_land_58 rfl rfl
  · refine g_iload_n dX8_land_16 rfl rfl ?_
    exact w_iret dX8_land_17 rfl rfl
theorem co_oo_land (F : Nat) (μ : g_St) : g_Con gC 7 yX8_land cX8_land 3 (some .int) [.ref 0] μ (g_yi (oo_land F μ)) := g_conOf mc_X8_land.2.2.2.2 (Nat.le_of_ble_eq_true rfl) rfl (g_yi_rk (Or.inl rfl)) (lk_oo_land F μ)
theorem dX8_rule_0 : decode cX8_rule 0 = .ok (.aload_n 0, 1) := by decide +kernel
theorem dX8_rule_1 : decode cX8_rule 1 = .ok (.getfield 10, 3) := by decide +kernel
theorem dX8_rule_4 : decode cX8_rule 4 = .ok (.aload_n 0, 1) := by decide +kernel
theorem dX8_rule_5 : decode cX8_rule 5 = .ok (.getfield 33, 3) := by decide +kernel
theorem dX8_rule_8 : decode cX8_rule 8 = .ok (.invokestatic 99, 3) := by decide +kernel
theorem dX8_rule_11 : decode cX8_rule 11 = .ok (.istore_n 1, 1) := by decide +kernel
theorem dX8_rule_12 : decode cX8_rule 12 = .ok (.iload_n 1, 1) := by decide +kernel
theorem dX8_rule_13 : decode cX8_rule 13 = .ok (.ifCond .eq 5, 3) := by decide +kernel
theorem dX8_rule_16 : decode cX8_rule 16 = .ok (.iload_n 1, 1) := by decide +kernel
theorem dX8_rule_17 : decode cX8_rule 17 = .ok (.ireturn, 1) := by decide +kernel
theorem dX8_rule_18 : decode cX8_rule 18 = .ok (.aload_n 0, 1) := by decide +kernel
theorem dX8_rule_19 : decode cX8_rule 19 = .ok (.getfield 33, 3) := by decide +kernel
theorem dX8_rule_22 : decode cX8_rule 22 = .ok (.astore_n 2, 1) := by decide +kernel
theorem dX8_rule_23 : decode cX8_rule 23 = .ok (.aload_n 0, 1) := by decide +kernel
theorem dX8_rule_24 : decode cX8_rule 24 = .ok (.aload_n 0, 1) := by decide +kernel
theorem dX8_rule_25 : decode cX8_rule 25 = .ok (.getfield 29, 3) := by decide +kernel
theorem dX8_rule_28 : decode cX8_rule 28 = .ok (.putfield 33, 3) := by decide +kernel
theorem dX8_rule_31 : decode cX8_rule 31 = .ok (.aload_n 0, 1) := by decide +kernel
theorem dX8_rule_32 : decode cX8_rule 32 = .ok (.aload_n 2, 1) := by decide +kernel
theorem dX8_rule_33 : decode cX8_rule 33 = .ok (.putfield 29, 3) := by decide +kernel
theorem dX8_rule_36 : decode cX8_rule 36 = .ok (.aload_n 0, 1) := by decide +kernel
theorem dX8_rule_37 : decode cX8_rule 37 = .ok (.iconst 0, 1) := by decide +kernel
theorem dX8_rule_38 : decode cX8_rule 38 = .ok (.putfield 95, 3) := by decide +kernel
theorem dX8_rule_41 : decode cX8_rule 41 = .ok (.iconst 0, 1) := by decide +kernel
theorem dX8_rule_42 : decode cX8_rule 42 = .ok (.ireturn, 1) := by decide +kernel
theorem lk_oo_rule (F : Nat) (μ : g_St) : g_Go gC 50 yX8_rule cX8_rule 3 (some .int) 0 [some (.ref 0), none, none] [] μ (Option.map o_yi (oo_rule F μ)) := by
  unfold oo_rule
  refine g_aload_n dX8_rule_0 rfl rfl ?_
  refine g_getS dX8_rule_1 cf_X8 fl_X8_10 ly_Own_lt ly_Own rfl (Nat.le_of_ble_eq_true rfl) ?_
  refine g_aload_n dX8_rule_4 rfl rfl ?_
  refine w_getqr dX8_rule_5 cf_X8 fl_X8_33 ly_Own_lt ly_Own rfl (Nat.le_of_ble_eq_true rfl) (fun b1 hb1 => ?_)
  refine w_Syi [.ref _, .ref _] dX8_rule_8 ml_X8_99 ms_X5_read mc_X5_read rfl (Nat.le_of_ble_eq_true rfl) (Nat.le_of_ble_eq_true rfl) (Nat.le_of_ble_eq_true rfl) rfl (co_oe_read F _ hb1 _) (fun q2 => ?_)
  refine g_istore_n (lo2 := [_, _, _]) dX8_rule_11 rfl (Nat.le_of_ble_eq_true rfl) rfl rfl ?_
  refine g_iload_n dX8_rule_12 rfl rfl ?_
  refine w_if_eq (tgt := 18) dX8_rule_13 (by decide) ?_ ?_
  · refine g_aload_n dX8_rule_18 rfl rfl ?_
    refine w_getqr dX8_rule_19 cf_X8 fl_X8_33 ly_Own_lt ly_Own rfl (Nat.le_of_ble_eq_true rfl) (fun b3 hb3 => ?_)
    refine g_astore_n (lo2 := [_, _, _]) dX8_rule_22 rfl (Nat.le_of_ble_eq_true rfl) rfl rfl ?_
    refine g_aload_n dX8_rule_23 rfl rfl ?_
    refine g_aload_n dX8_rule_24 rfl rfl ?_
    refine w_getqr dX8_rule_25 cf_X8 fl_X8_29 ly_Own_lt ly_Own rfl (Nat.le_of_ble_eq_true rfl) (fun b4 hb4 => ?_)
    refine w_putQ2 dX8_rule_28 cf_X8 fl_X8_33 ly_Own_lt ly_Own rfl (Nat.le_of_ble_eq_true rfl) rfl rfl (g_q1 4 rfl) ly_fix (fun μ5 => ?_)
    refine g_aload_n dX8_rule_31 rfl rfl ?_
    refine g_aload_n dX8_rule_32 rfl rfl ?_
    refine w_putQ2 dX8_rule_33 cf_X8 fl_X8_29 ly_Own_lt ly_Own rfl (Nat.le_of_ble_eq_true rfl) rfl rfl (g_q1 3 rfl) ly_fix (fun μ6 => ?_)
    refine g_aload_n dX8_rule_36 rfl rfl ?_
    refine g_iconst dX8_rule_37 ic_0 ?_
    refine w_putI dX8_rule_38 cf_X8 fl_X8_95 ly_Own_lt ly_Own rfl (Nat.le_of_ble_eq_true rfl) rfl rfl (by decide) (by decide) (fun μ7 => ?_)
    refine g_iconst dX8_rule_41 ic_0 ?_
    exact w_iret dX8_rule_42 rfl rfl
  · refine g_iload_n dX8_rule_16 rfl rfl ?_
    exact w_iret dX8_rule_17 rfl rfl
theorem co_oo_rule (F : Nat) (μ : g_St) : g_Con gC 50 yX8_rule cX8_rule 3 (some .int) [.ref 0] μ (g_yi (oo_rule F μ)) := g_conOf mc_X8_rule.2.2.2.2 (Nat.le_of_ble_eq_true rfl) rfl (g_yi_rk (Or.inl rfl)) (lk_oo_rule F μ)
theorem dX8_isPlace_0 : decode cX8_isPlace 0 = .ok (.iload_n 1, 1) := by decide +kernel
theorem dX8_isPlace_1 : decode cX8_isPlace 1 = .ok (.ifCond .lt 18, 3) := by decide +kernel
theorem dX8_isPlace_4 : decode cX8_isPlace 4 = .ok (.iload_n 1, 1) := by decide +kernel
theorem dX8_isPlace_5 : decode cX8_isPlace 5 = .ok (.aload_n 0, 1) := by decide +kernel
theorem dX8_isPlace_6 : decode cX8_isPlace 6 = .ok (.getfield 19, 3) := by decide +kernel
theorem dX8_isPlace_9 : decode cX8_isPlace 9 = .ok (.getfield 248, 3) := by decide +kernel
theorem dX8_isPlace_12 : decode cX8_isPlace 12 = .ok (.if_icmp .ge 7, 3) := by decide +kernel
theorem dX8_isPlace_15 : decode cX8_isPlace 15 = .ok (.iconst 1, 1) := by decide +kernel
theorem dX8_isPlace_16 : decode cX8_isPlace 16 = .ok (.goto 4, 3) := by decide +kernel
theorem dX8_isPlace_19 : decode cX8_isPlace 19 = .ok (.iconst 0, 1) := by decide +kernel
theorem dX8_isPlace_20 : decode cX8_isPlace 20 = .ok (.ireturn, 1) := by decide +kernel
theorem lk_oo_isPlace (μ : g_St) (v1 : Int32) : g_Go gC 0 yX8_isPlace cX8_isPlace 2 (some .boolean) 0 [some (.ref 0), some (.int v1)] [] μ (Option.map (o_i μ) (oo_isPlace μ v1)) := by
  unfold oo_isPlace
  refine g_iload_n dX8_isPlace_0 rfl rfl ?_
  refine w_if_lt (tgt := 19) dX8_isPlace_1 (by decide) ?_ ?_
  · refine g_iload_n dX8_isPlace_4 rfl rfl ?_
    refine g_aload_n dX8_isPlace_5 rfl rfl ?_
    refine w_getql dX8_isPlace_6 cf_X8 fl_X8_19 ly_Own_lt ly_Own rfl (Nat.le_of_ble_eq_true rfl) (fun b1 hb1 => ?_)
    refine g_getI dX8_isPlace_9 cf_X1 fl_X8_248 (ly_Land_lt hb1) (ly_Land hb1) rfl (Nat.le_of_ble_eq_true rfl) ?_
    refine w_icmp_ge (tgt := 19) dX8_isPlace_12 (by decide) ?_ ?_
    · refine g_iconst dX8_isPlace_15 ic_1 ?_
      refine g_goto (tgt := 20) dX8_isPlace_16 (by decide) ?_
      exact w_iret dX8_isPlace_20 (by decide) rfl
    · refine g_iconst dX8_isPlace_19 ic_0 ?_
      exact w_iret dX8_isPlace_20 (by decide) rfl
  · refine g_iconst dX8_isPlace_19 ic_0 ?_
    exact w_iret dX8_isPlace_20 (by decide) rfl
theorem co_oo_isPlace (μ : g_St) (v1 : Int32) : g_Con gC 0 yX8_isPlace cX8_isPlace 2 (some .boolean) [.ref 0, .int v1] μ (g_xi μ (oo_isPlace μ v1)) := g_conOf mc_X8_isPlace.2.2.2.2 (Nat.le_of_ble_eq_true rfl) rfl (g_xi_rk (Or.inr (Or.inl rfl))) (lk_oo_isPlace μ v1)
theorem dX8_way_0 : decode cX8_way 0 = .ok (.aload_n 0, 1) := by decide +kernel
theorem dX8_way_1 : decode cX8_way 1 = .ok (.iload_n 1, 1) := by decide +kernel
theorem dX8_way_2 : decode cX8_way 2 = .ok (.invokevirtual 104, 3) := by decide +kernel
theorem dX8_way_5 : decode cX8_way 5 = .ok (.ifCond .eq 28, 3) := by decide +kernel
theorem dX8_way_8 : decode cX8_way 8 = .ok (.aload_n 0, 1) := by decide +kernel
theorem dX8_way_9 : decode cX8_way 9 = .ok (.iload_n 2, 1) := by decide +kernel
theorem dX8_way_10 : decode cX8_way 10 = .ok (.invokevirtual 104, 3) := by decide +kernel
theorem dX8_way_13 : decode cX8_way 13 = .ok (.ifCond .eq 20, 3) := by decide +kernel
theorem dX8_way_16 : decode cX8_way 16 = .ok (.aload_n 0, 1) := by decide +kernel
theorem dX8_way_17 : decode cX8_way 17 = .ok (.getfield 19, 3) := by decide +kernel
theorem dX8_way_20 : decode cX8_way 20 = .ok (.getfield 108, 3) := by decide +kernel
theorem dX8_way_23 : decode cX8_way 23 = .ok (.iload_n 1, 1) := by decide +kernel
theorem dX8_way_24 : decode cX8_way 24 = .ok (.aaload, 1) := by decide +kernel
theorem dX8_way_25 : decode cX8_way 25 = .ok (.iload_n 2, 1) := by decide +kernel
theorem dX8_way_26 : decode cX8_way 26 = .ok (.iaload, 1) := by decide +kernel
theorem dX8_way_27 : decode cX8_way 27 = .ok (.sipush 999, 3) := by decide +kernel
theorem dX8_way_30 : decode cX8_way 30 = .ok (.if_icmp .lt 5, 3) := by decide +kernel
theorem dX8_way_33 : decode cX8_way 33 = .ok (.iconst (-1), 1) := by decide +kernel
theorem dX8_way_34 : decode cX8_way 34 = .ok (.ireturn, 1) := by decide +kernel
theorem dX8_way_35 : decode cX8_way 35 = .ok (.aload_n 0, 1) := by decide +kernel
theorem dX8_way_36 : decode cX8_way 36 = .ok (.getfield 19, 3) := by decide +kernel
theorem dX8_way_39 : decode cX8_way 39 = .ok (.getfield 108, 3) := by decide +kernel
theorem dX8_way_42 : decode cX8_way 42 = .ok (.iload_n 1, 1) := by decide +kernel
theorem dX8_way_43 : decode cX8_way 43 = .ok (.aaload, 1) := by decide +kernel
theorem dX8_way_44 : decode cX8_way 44 = .ok (.iload_n 2, 1) := by decide +kernel
theorem dX8_way_45 : decode cX8_way 45 = .ok (.iaload, 1) := by decide +kernel
theorem dX8_way_46 : decode cX8_way 46 = .ok (.ireturn, 1) := by decide +kernel
theorem lk_oo_way (μ : g_St) (v1 : Int32) (v2 : Int32) : g_Go gC 1 yX8_way cX8_way 3 (some .int) 0 [some (.ref 0), some (.int v1), some (.int v2)] [] μ (Option.map (o_i μ) (oo_way μ v1 v2)) := by
  unfold oo_way
  refine g_aload_n dX8_way_0 rfl rfl ?_
  refine g_iload_n dX8_way_1 rfl rfl ?_
  refine w_Vxi [.int _] dX8_way_2 ml_X8_104 mv_X8_isPlace mc_X8_isPlace cf_X8 ly_Own_lt ly_Own rfl (Nat.le_of_ble_eq_true rfl) (Nat.le_of_ble_eq_true rfl) (Nat.le_of_ble_eq_true rfl) rfl (co_oo_isPlace _ _) (fun x1 => ?_)
  refine w_if_eq (tgt := 33) dX8_way_5 (by decide) ?_ ?_
  · refine g_iconst dX8_way_33 ic_m1 ?_
    exact w_iret dX8_way_34 rfl rfl
  · refine g_aload_n dX8_way_8 rfl rfl ?_
    refine g_iload_n dX8_way_9 rfl rfl ?_
    refine w_Vxi [.int _] dX8_way_10 ml_X8_104 mv_X8_isPlace mc_X8_isPlace cf_X8 ly_Own_lt ly_Own rfl (Nat.le_of_ble_eq_true rfl) (Nat.le_of_ble_eq_true rfl) (Nat.le_of_ble_eq_true rfl) rfl (co_oo_isPlace _ _) (fun x2 => ?_)
    refine w_if_eq (tgt := 33) dX8_way_13 (by decide) ?_ ?_
    · refine g_iconst dX8_way_33 ic_m1 ?_
      exact w_iret dX8_way_34 rfl rfl
    · refine g_aload_n dX8_way_16 rfl rfl ?_
      refine w_getql dX8_way_17 cf_X8 fl_X8_19 ly_Own_lt ly_Own rfl (Nat.le_of_ble_eq_true rfl) (fun b3 hb3 => ?_)
      refine g_getS dX8_way_20 cf_X1 fl_X8_108 (ly_Land_lt hb3) (ly_Land hb3) rfl (Nat.le_of_ble_eq_true rfl) ?_
      refine g_iload_n dX8_way_23 rfl rfl ?_
      refine w_aald4 dX8_way_24 (ly_Land_ways_lt hb3) (ly_Land_ways hb3) (fun j5 hj5 => ?_)
      refine g_iload_n dX8_way_25 rfl rfl ?_
      refine w_iald dX8_way_26 (ly_Land_ways_row_lt hb3 hj5) (ly_Land_ways_row hb3 hj5) (fun x6 => ?_)
      refine g_sipush dX8_way_27 sp_999 ?_
      refine w_icmp_lt (tgt := 35) dX8_way_30 (by decide) ?_ ?_
      · refine g_iconst dX8_way_33 ic_m1 ?_
        exact w_iret dX8_way_34 rfl rfl
      · refine g_aload_n dX8_way_35 rfl rfl ?_
        refine w_getql dX8_way_36 cf_X8 fl_X8_19 ly_Own_lt ly_Own rfl (Nat.le_of_ble_eq_true rfl) (fun b7 hb7 => ?_)
        refine g_getS dX8_way_39 cf_X1 fl_X8_108 (ly_Land_lt hb7) (ly_Land hb7) rfl (Nat.le_of_ble_eq_true rfl) ?_
        refine g_iload_n dX8_way_42 rfl rfl ?_
        refine w_aald4 dX8_way_43 (ly_Land_ways_lt hb7) (ly_Land_ways hb7) (fun j9 hj9 => ?_)
        refine g_iload_n dX8_way_44 rfl rfl ?_
        refine w_iald dX8_way_45 (ly_Land_ways_row_lt hb7 hj9) (ly_Land_ways_row hb7 hj9) (fun x10 => ?_)
        exact w_iret dX8_way_46 rfl rfl
theorem co_oo_way (μ : g_St) (v1 : Int32) (v2 : Int32) : g_Con gC 1 yX8_way cX8_way 3 (some .int) [.ref 0, .int v1, .int v2] μ (g_xi μ (oo_way μ v1 v2)) := g_conOf mc_X8_way.2.2.2.2 (Nat.le_of_ble_eq_true rfl) rfl (g_xi_rk (Or.inl rfl)) (lk_oo_way μ v1 v2)
theorem dX8_isGood_0 : decode cX8_isGood 0 = .ok (.iload_n 1, 1) := by decide +kernel
theorem dX8_isGood_1 : decode cX8_isGood 1 = .ok (.ifCond .lt 18, 3) := by decide +kernel
theorem dX8_isGood_4 : decode cX8_isGood 4 = .ok (.iload_n 1, 1) := by decide +kernel
theorem dX8_isGood_5 : decode cX8_isGood 5 = .ok (.aload_n 0, 1) := by decide +kernel
theorem dX8_isGood_6 : decode cX8_isGood 6 = .ok (.getfield 19, 3) := by decide +kernel
theorem dX8_isGood_9 : decode cX8_isGood 9 = .ok (.getfield 299, 3) := by decide +kernel
theorem dX8_isGood_12 : decode cX8_isGood 12 = .ok (.if_icmp .ge 7, 3) := by decide +kernel
theorem dX8_isGood_15 : decode cX8_isGood 15 = .ok (.iconst 1, 1) := by decide +kernel
theorem dX8_isGood_16 : decode cX8_isGood 16 = .ok (.goto 4, 3) := by decide +kernel
theorem dX8_isGood_19 : decode cX8_isGood 19 = .ok (.iconst 0, 1) := by decide +kernel
theorem dX8_isGood_20 : decode cX8_isGood 20 = .ok (.ireturn, 1) := by decide +kernel
theorem lk_oo_isGood (μ : g_St) (v1 : Int32) : g_Go gC 0 yX8_isGood cX8_isGood 2 (some .boolean) 0 [some (.ref 0), some (.int v1)] [] μ (Option.map (o_i μ) (oo_isGood μ v1)) := by
  unfold oo_isGood
  refine g_iload_n dX8_isGood_0 rfl rfl ?_
  refine w_if_lt (tgt := 19) dX8_isGood_1 (by decide) ?_ ?_
  · refine g_iload_n dX8_isGood_4 rfl rfl ?_
    refine g_aload_n dX8_isGood_5 rfl rfl ?_
    refine w_getql dX8_isGood_6 cf_X8 fl_X8_19 ly_Own_lt ly_Own rfl (Nat.le_of_ble_eq_true rfl) (fun b1 hb1 => ?_)
    refine g_getI dX8_isGood_9 cf_X1 fl_X8_299 (ly_Land_lt hb1) (ly_Land hb1) rfl (Nat.le_of_ble_eq_true rfl) ?_
    refine w_icmp_ge (tgt := 19) dX8_isGood_12 (by decide) ?_ ?_
    · refine g_iconst dX8_isGood_15 ic_1 ?_
      refine g_goto (tgt := 20) dX8_isGood_16 (by decide) ?_
      exact w_iret dX8_isGood_20 (by decide) rfl
    · refine g_iconst dX8_isGood_19 ic_0 ?_
      exact w_iret dX8_isGood_20 (by decide) rfl
  · refine g_iconst dX8_isGood_19 ic_0 ?_
    exact w_iret dX8_isGood_20 (by decide) rfl
theorem co_oo_isGood (μ : g_St) (v1 : Int32) : g_Con gC 0 yX8_isGood cX8_isGood 2 (some .boolean) [.ref 0, .int v1] μ (g_xi μ (oo_isGood μ v1)) := g_conOf mc_X8_isGood.2.2.2.2 (Nat.le_of_ble_eq_true rfl) rfl (g_xi_rk (Or.inr (Or.inl rfl))) (lk_oo_isGood μ v1)
theorem dX8_good_0 : decode cX8_good 0 = .ok (.aload_n 0, 1) := by decide +kernel
theorem dX8_good_1 : decode cX8_good 1 = .ok (.iload_n 1, 1) := by decide +kernel
theorem dX8_good_2 : decode cX8_good 2 = .ok (.invokevirtual 112, 3) := by decide +kernel
theorem dX8_good_5 : decode cX8_good 5 = .ok (.ifCond .ne 5, 3) := by decide +kernel
theorem dX8_good_8 : decode cX8_good 8 = .ok (.iconst (-1), 1) := by decide +kernel
theorem dX8_good_9 : decode cX8_good 9 = .ok (.ireturn, 1) := by decide +kernel
theorem dX8_good_10 : decode cX8_good 10 = .ok (.iload_n 2, 1) := by decide +kernel
theorem dX8_good_11 : decode cX8_good 11 = .ok (.tableswitch 54 0 2 #[25, 35, 45], 25) := by decide +kernel
theorem dX8_good_36 : decode cX8_good 36 = .ok (.aload_n 0, 1) := by decide +kernel
theorem dX8_good_37 : decode cX8_good 37 = .ok (.getfield 19, 3) := by decide +kernel
theorem dX8_good_40 : decode cX8_good 40 = .ok (.getfield 115, 3) := by decide +kernel
theorem dX8_good_43 : decode cX8_good 43 = .ok (.iload_n 1, 1) := by decide +kernel
theorem dX8_good_44 : decode cX8_good 44 = .ok (.iaload, 1) := by decide +kernel
theorem dX8_good_45 : decode cX8_good 45 = .ok (.ireturn, 1) := by decide +kernel
theorem dX8_good_46 : decode cX8_good 46 = .ok (.aload_n 0, 1) := by decide +kernel
theorem dX8_good_47 : decode cX8_good 47 = .ok (.getfield 19, 3) := by decide +kernel
theorem dX8_good_50 : decode cX8_good 50 = .ok (.getfield 118, 3) := by decide +kernel
theorem dX8_good_53 : decode cX8_good 53 = .ok (.iload_n 1, 1) := by decide +kernel
theorem dX8_good_54 : decode cX8_good 54 = .ok (.iaload, 1) := by decide +kernel
theorem dX8_good_55 : decode cX8_good 55 = .ok (.ireturn, 1) := by decide +kernel
theorem dX8_good_56 : decode cX8_good 56 = .ok (.aload_n 0, 1) := by decide +kernel
theorem dX8_good_57 : decode cX8_good 57 = .ok (.getfield 19, 3) := by decide +kernel
theorem dX8_good_60 : decode cX8_good 60 = .ok (.iload_n 1, 1) := by decide +kernel
theorem dX8_good_61 : decode cX8_good 61 = .ok (.invokevirtual 121, 3) := by decide +kernel
theorem dX8_good_64 : decode cX8_good 64 = .ok (.ireturn, 1) := by decide +kernel
theorem dX8_good_65 : decode cX8_good 65 = .ok (.iconst (-1), 1) := by decide +kernel
theorem dX8_good_66 : decode cX8_good 66 = .ok (.ireturn, 1) := by decide +kernel
theorem lk_oo_good (F : Nat) (μ : g_St) (v1 : Int32) (v2 : Int32) : g_Go gC 1 yX8_good cX8_good 3 (some .int) 0 [some (.ref 0), some (.int v1), some (.int v2)] [] μ (Option.map (o_i μ) (oo_good F μ v1 v2)) := by
  unfold oo_good
  refine g_aload_n dX8_good_0 rfl rfl ?_
  refine g_iload_n dX8_good_1 rfl rfl ?_
  refine w_Vxi [.int _] dX8_good_2 ml_X8_112 mv_X8_isGood mc_X8_isGood cf_X8 ly_Own_lt ly_Own rfl (Nat.le_of_ble_eq_true rfl) (Nat.le_of_ble_eq_true rfl) (Nat.le_of_ble_eq_true rfl) rfl (co_oo_isGood _ _) (fun x1 => ?_)
  refine w_if_ne (tgt := 10) dX8_good_5 (by decide) ?_ ?_
  · refine g_iconst dX8_good_8 ic_m1 ?_
    exact w_iret dX8_good_9 rfl rfl
  · refine g_iload_n dX8_good_10 rfl rfl ?_
    refine w_ite (fun h4 => ?_) (fun h4 => ?_)
    · refine w_tin (tgt := 36) (0 : Int32) h4 dX8_good_11 ⟨25, by decide⟩ ?_
      refine g_aload_n dX8_good_36 rfl rfl ?_
      refine w_getql dX8_good_37 cf_X8 fl_X8_19 ly_Own_lt ly_Own rfl (Nat.le_of_ble_eq_true rfl) (fun b2 hb2 => ?_)
      refine g_getS dX8_good_40 cf_X1 fl_X8_115 (ly_Land_lt hb2) (ly_Land hb2) rfl (Nat.le_of_ble_eq_true rfl) ?_
      refine g_iload_n dX8_good_43 rfl rfl ?_
      refine w_iald dX8_good_44 (ly_Land_hours_lt hb2) (ly_Land_hours hb2) (fun x3 => ?_)
      exact w_iret dX8_good_45 rfl rfl
    refine w_ite (fun h7 => ?_) (fun h7 => ?_)
    · refine w_tin (tgt := 46) (1 : Int32) h7 dX8_good_11 ⟨35, by decide⟩ ?_
      refine g_aload_n dX8_good_46 rfl rfl ?_
      refine w_getql dX8_good_47 cf_X8 fl_X8_19 ly_Own_lt ly_Own rfl (Nat.le_of_ble_eq_true rfl) (fun b5 hb5 => ?_)
      refine g_getS dX8_good_50 cf_X1 fl_X8_118 (ly_Land_lt hb5) (ly_Land hb5) rfl (Nat.le_of_ble_eq_true rfl) ?_
      refine g_iload_n dX8_good_53 rfl rfl ?_
      refine w_iald dX8_good_54 (ly_Land_from_lt hb5) (ly_Land_from hb5) (fun x6 => ?_)
      exact w_iret dX8_good_55 rfl rfl
    refine w_ite (fun h10 => ?_) (fun h10 => ?_)
    · refine w_tin (tgt := 56) (2 : Int32) h10 dX8_good_11 ⟨45, by decide⟩ ?_
      refine g_aload_n dX8_good_56 rfl rfl ?_
      refine w_getql dX8_good_57 cf_X8 fl_X8_19 ly_Own_lt ly_Own rfl (Nat.le_of_ble_eq_true rfl) (fun b8 hb8 => ?_)
      refine g_iload_n dX8_good_60 rfl rfl ?_
      refine w_Vxi [.int _] dX8_good_61 ml_X8_121 mv_X1_makersOf mc_X1_makersOf cf_X1 (ly_Land_lt hb8) (ly_Land hb8) rfl (Nat.le_of_ble_eq_true rfl) (Nat.le_of_ble_eq_true rfl) (Nat.le_of_ble_eq_true rfl) rfl (co_ol_makersOf F _ hb8 _ _) (fun x9 => ?_)
      exact w_iret dX8_good_64 rfl rfl
    refine w_tout (tgt := 65) dX8_good_11 (by have qh4 := g_neT (n := 0) h4 (by decide); have qh7 := g_neT (n := 1) h7 (by decide); have qh10 := g_neT (n := 2) h10 (by decide); omega) (by decide) ?_
    refine g_iconst dX8_good_65 ic_m1 ?_
    exact w_iret dX8_good_66 rfl rfl
theorem co_oo_good (F : Nat) (μ : g_St) (v1 : Int32) (v2 : Int32) : g_Con gC 1 yX8_good cX8_good 3 (some .int) [.ref 0, .int v1, .int v2] μ (g_xi μ (oo_good F μ v1 v2)) := g_conOf mc_X8_good.2.2.2.2 (Nat.le_of_ble_eq_true rfl) rfl (g_xi_rk (Or.inl rfl)) (lk_oo_good F μ v1 v2)
theorem dX8_isPerson_0 : decode cX8_isPerson 0 = .ok (.iload_n 1, 1) := by decide +kernel
theorem dX8_isPerson_1 : decode cX8_isPerson 1 = .ok (.ifCond .lt 18, 3) := by decide +kernel
theorem dX8_isPerson_4 : decode cX8_isPerson 4 = .ok (.iload_n 1, 1) := by decide +kernel
theorem dX8_isPerson_5 : decode cX8_isPerson 5 = .ok (.aload_n 0, 1) := by decide +kernel
theorem dX8_isPerson_6 : decode cX8_isPerson 6 = .ok (.getfield 19, 3) := by decide +kernel
theorem dX8_isPerson_9 : decode cX8_isPerson 9 = .ok (.getfield 228, 3) := by decide +kernel
theorem dX8_isPerson_12 : decode cX8_isPerson 12 = .ok (.if_icmp .ge 7, 3) := by decide +kernel
theorem dX8_isPerson_15 : decode cX8_isPerson 15 = .ok (.iconst 1, 1) := by decide +kernel
theorem dX8_isPerson_16 : decode cX8_isPerson 16 = .ok (.goto 4, 3) := by decide +kernel
theorem dX8_isPerson_19 : decode cX8_isPerson 19 = .ok (.iconst 0, 1) := by decide +kernel
theorem dX8_isPerson_20 : decode cX8_isPerson 20 = .ok (.ireturn, 1) := by decide +kernel
theorem lk_oo_isPerson (μ : g_St) (v1 : Int32) : g_Go gC 0 yX8_isPerson cX8_isPerson 2 (some .boolean) 0 [some (.ref 0), some (.int v1)] [] μ (Option.map (o_i μ) (oo_isPerson μ v1)) := by
  unfold oo_isPerson
  refine g_iload_n dX8_isPerson_0 rfl rfl ?_
  refine w_if_lt (tgt := 19) dX8_isPerson_1 (by decide) ?_ ?_
  · refine g_iload_n dX8_isPerson_4 rfl rfl ?_
    refine g_aload_n dX8_isPerson_5 rfl rfl ?_
    refine w_getql dX8_isPerson_6 cf_X8 fl_X8_19 ly_Own_lt ly_Own rfl (Nat.le_of_ble_eq_true rfl) (fun b1 hb1 => ?_)
    refine g_getI dX8_isPerson_9 cf_X1 fl_X8_228 (ly_Land_lt hb1) (ly_Land hb1) rfl (Nat.le_of_ble_eq_true rfl) ?_
    refine w_icmp_ge (tgt := 19) dX8_isPerson_12 (by decide) ?_ ?_
    · refine g_iconst dX8_isPerson_15 ic_1 ?_
      refine g_goto (tgt := 20) dX8_isPerson_16 (by decide) ?_
      exact w_iret dX8_isPerson_20 (by decide) rfl
    · refine g_iconst dX8_isPerson_19 ic_0 ?_
      exact w_iret dX8_isPerson_20 (by decide) rfl
  · refine g_iconst dX8_isPerson_19 ic_0 ?_
    exact w_iret dX8_isPerson_20 (by decide) rfl
theorem co_oo_isPerson (μ : g_St) (v1 : Int32) : g_Con gC 0 yX8_isPerson cX8_isPerson 2 (some .boolean) [.ref 0, .int v1] μ (g_xi μ (oo_isPerson μ v1)) := g_conOf mc_X8_isPerson.2.2.2.2 (Nat.le_of_ble_eq_true rfl) rfl (g_xi_rk (Or.inr (Or.inl rfl))) (lk_oo_isPerson μ v1)
theorem dX8_worth_0 : decode cX8_worth 0 = .ok (.aload_n 0, 1) := by decide +kernel
theorem dX8_worth_1 : decode cX8_worth 1 = .ok (.iload_n 1, 1) := by decide +kernel
theorem dX8_worth_2 : decode cX8_worth 2 = .ok (.invokevirtual 125, 3) := by decide +kernel
theorem dX8_worth_5 : decode cX8_worth 5 = .ok (.ifCond .eq 20, 3) := by decide +kernel
theorem dX8_worth_8 : decode cX8_worth 8 = .ok (.aload_n 0, 1) := by decide +kernel
theorem dX8_worth_9 : decode cX8_worth 9 = .ok (.iload_n 2, 1) := by decide +kernel
theorem dX8_worth_10 : decode cX8_worth 10 = .ok (.invokevirtual 112, 3) := by decide +kernel
theorem dX8_worth_13 : decode cX8_worth 13 = .ok (.ifCond .eq 12, 3) := by decide +kernel
theorem dX8_worth_16 : decode cX8_worth 16 = .ok (.iload_n 3, 1) := by decide +kernel
theorem dX8_worth_17 : decode cX8_worth 17 = .ok (.ifCond .lt 8, 3) := by decide +kernel
theorem dX8_worth_20 : decode cX8_worth 20 = .ok (.iload_n 3, 1) := by decide +kernel
theorem dX8_worth_21 : decode cX8_worth 21 = .ok (.iconst 3, 1) := by decide +kernel
theorem dX8_worth_22 : decode cX8_worth 22 = .ok (.if_icmp .lt 5, 3) := by decide +kernel
theorem dX8_worth_25 : decode cX8_worth 25 = .ok (.iconst (-1), 1) := by decide +kernel
theorem dX8_worth_26 : decode cX8_worth 26 = .ok (.ireturn, 1) := by decide +kernel
theorem dX8_worth_27 : decode cX8_worth 27 = .ok (.aload_n 0, 1) := by decide +kernel
theorem dX8_worth_28 : decode cX8_worth 28 = .ok (.getfield 19, 3) := by decide +kernel
theorem dX8_worth_31 : decode cX8_worth 31 = .ok (.iload_n 1, 1) := by decide +kernel
theorem dX8_worth_32 : decode cX8_worth 32 = .ok (.iload_n 2, 1) := by decide +kernel
theorem dX8_worth_33 : decode cX8_worth 33 = .ok (.iload_n 3, 1) := by decide +kernel
theorem dX8_worth_34 : decode cX8_worth 34 = .ok (.invokevirtual 128, 3) := by decide +kernel
theorem dX8_worth_37 : decode cX8_worth 37 = .ok (.ireturn, 1) := by decide +kernel
theorem lk_oo_worth (μ : g_St) (v1 : Int32) (v2 : Int32) (v3 : Int32) : g_Go gC 1 yX8_worth cX8_worth 4 (some .int) 0 [some (.ref 0), some (.int v1), some (.int v2), some (.int v3)] [] μ (Option.map (o_i μ) (oo_worth μ v1 v2 v3)) := by
  unfold oo_worth
  refine g_aload_n dX8_worth_0 rfl rfl ?_
  refine g_iload_n dX8_worth_1 rfl rfl ?_
  refine w_Vxi [.int _] dX8_worth_2 ml_X8_125 mv_X8_isPerson mc_X8_isPerson cf_X8 ly_Own_lt ly_Own rfl (Nat.le_of_ble_eq_true rfl) (Nat.le_of_ble_eq_true rfl) (Nat.le_of_ble_eq_true rfl) rfl (co_oo_isPerson _ _) (fun x1 => ?_)
  refine w_if_eq (tgt := 25) dX8_worth_5 (by decide) ?_ ?_
  · refine g_iconst dX8_worth_25 ic_m1 ?_
    exact w_iret dX8_worth_26 rfl rfl
  · refine g_aload_n dX8_worth_8 rfl rfl ?_
    refine g_iload_n dX8_worth_9 rfl rfl ?_
    refine w_Vxi [.int _] dX8_worth_10 ml_X8_112 mv_X8_isGood mc_X8_isGood cf_X8 ly_Own_lt ly_Own rfl (Nat.le_of_ble_eq_true rfl) (Nat.le_of_ble_eq_true rfl) (Nat.le_of_ble_eq_true rfl) rfl (co_oo_isGood _ _) (fun x2 => ?_)
    refine w_if_eq (tgt := 25) dX8_worth_13 (by decide) ?_ ?_
    · refine g_iconst dX8_worth_25 ic_m1 ?_
      exact w_iret dX8_worth_26 rfl rfl
    · refine g_iload_n dX8_worth_16 rfl rfl ?_
      refine w_if_lt (tgt := 25) dX8_worth_17 (by decide) ?_ ?_
      · refine g_iload_n dX8_worth_20 rfl rfl ?_
        refine g_iconst dX8_worth_21 ic_3 ?_
        refine w_icmp_lt (tgt := 27) dX8_worth_22 (by decide) ?_ ?_
        · refine g_iconst dX8_worth_25 ic_m1 ?_
          exact w_iret dX8_worth_26 rfl rfl
        · refine g_aload_n dX8_worth_27 rfl rfl ?_
          refine w_getql dX8_worth_28 cf_X8 fl_X8_19 ly_Own_lt ly_Own rfl (Nat.le_of_ble_eq_true rfl) (fun b3 hb3 => ?_)
          refine g_iload_n dX8_worth_31 rfl rfl ?_
          refine g_iload_n dX8_worth_32 rfl rfl ?_
          refine g_iload_n dX8_worth_33 rfl rfl ?_
          refine w_Vxi [.int _, .int _, .int _] dX8_worth_34 ml_X8_128 mv_X1_worthOf mc_X1_worthOf cf_X1 (ly_Land_lt hb3) (ly_Land hb3) rfl (Nat.le_of_ble_eq_true rfl) (Nat.le_of_ble_eq_true rfl) (Nat.le_of_ble_eq_true rfl) rfl (co_ol_worthOf _ hb3 _ _ _ _) (fun x4 => ?_)
          exact w_iret dX8_worth_37 rfl rfl
      · refine g_iconst dX8_worth_25 ic_m1 ?_
        exact w_iret dX8_worth_26 rfl rfl
theorem co_oo_worth (μ : g_St) (v1 : Int32) (v2 : Int32) (v3 : Int32) : g_Con gC 1 yX8_worth cX8_worth 4 (some .int) [.ref 0, .int v1, .int v2, .int v3] μ (g_xi μ (oo_worth μ v1 v2 v3)) := g_conOf mc_X8_worth.2.2.2.2 (Nat.le_of_ble_eq_true rfl) rfl (g_xi_rk (Or.inl rfl)) (lk_oo_worth μ v1 v2 v3)
theorem dX8_happyOf_0 : decode cX8_happyOf 0 = .ok (.iconst 0, 1) := by decide +kernel
theorem dX8_happyOf_1 : decode cX8_happyOf 1 = .ok (.istore_n 2, 1) := by decide +kernel
theorem dX8_happyOf_2 : decode cX8_happyOf 2 = .ok (.iconst 0, 1) := by decide +kernel
theorem dX8_happyOf_3 : decode cX8_happyOf 3 = .ok (.istore_n 3, 1) := by decide +kernel
theorem dX8_happyOf_4 : decode cX8_happyOf 4 = .ok (.iload_n 3, 1) := by decide +kernel
theorem dX8_happyOf_5 : decode cX8_happyOf 5 = .ok (.aload_n 0, 1) := by decide +kernel
theorem dX8_happyOf_6 : decode cX8_happyOf 6 = .ok (.getfield 19, 3) := by decide +kernel
theorem dX8_happyOf_9 : decode cX8_happyOf 9 = .ok (.getfield 299, 3) := by decide +kernel
theorem dX8_happyOf_12 : decode cX8_happyOf 12 = .ok (.if_icmp .ge 30, 3) := by decide +kernel
theorem dX8_happyOf_15 : decode cX8_happyOf 15 = .ok (.iload_n 2, 1) := by decide +kernel
theorem dX8_happyOf_16 : decode cX8_happyOf 16 = .ok (.aload_n 0, 1) := by decide +kernel
theorem dX8_happyOf_17 : decode cX8_happyOf 17 = .ok (.getfield 19, 3) := by decide +kernel
theorem dX8_happyOf_20 : decode cX8_happyOf 20 = .ok (.iload_n 1, 1) := by decide +kernel
theorem dX8_happyOf_21 : decode cX8_happyOf 21 = .ok (.iload_n 3, 1) := by decide +kernel
theorem dX8_happyOf_22 : decode cX8_happyOf 22 = .ok (.aload_n 0, 1) := by decide +kernel
theorem dX8_happyOf_23 : decode cX8_happyOf 23 = .ok (.getfield 39, 3) := by decide +kernel
theorem dX8_happyOf_26 : decode cX8_happyOf 26 = .ok (.iload_n 1, 1) := by decide +kernel
theorem dX8_happyOf_27 : decode cX8_happyOf 27 = .ok (.iload_n 3, 1) := by decide +kernel
theorem dX8_happyOf_28 : decode cX8_happyOf 28 = .ok (.invokevirtual 307, 3) := by decide +kernel
theorem dX8_happyOf_31 : decode cX8_happyOf 31 = .ok (.invokevirtual 339, 3) := by decide +kernel
theorem dX8_happyOf_34 : decode cX8_happyOf 34 = .ok (.iadd, 1) := by decide +kernel
theorem dX8_happyOf_35 : decode cX8_happyOf 35 = .ok (.istore_n 2, 1) := by decide +kernel
theorem dX8_happyOf_36 : decode cX8_happyOf 36 = .ok (.iinc 3 1, 3) := by decide +kernel
theorem dX8_happyOf_39 : decode cX8_happyOf 39 = .ok (.goto (-35), 3) := by decide +kernel
theorem dX8_happyOf_42 : decode cX8_happyOf 42 = .ok (.iload_n 2, 1) := by decide +kernel
theorem dX8_happyOf_43 : decode cX8_happyOf 43 = .ok (.ireturn, 1) := by decide +kernel
theorem lk_oo_happyOf_4_b (F : Nat) (μ : g_St) (v1 : Int32) (K_4 : Int32 → Int32 → Option Int32) (hK_4 : ∀ (w2 : Int32) (w3 : Int32), g_Go gC 2 yX8_happyOf cX8_happyOf 4 (some .int) 4 [some (.ref 0), some (.int v1), some (.int w2), some (.int w3)] [] μ (Option.map (o_i μ) (K_4 w2 w3))) (v2 : Int32) (v3 : Int32) : g_Go gC 2 yX8_happyOf cX8_happyOf 4 (some .int) 4 [some (.ref 0), some (.int v1), some (.int v2), some (.int v3)] [] μ (Option.map (o_i μ) (oo_happyOf_4_b F μ v1 K_4 v2 v3 )) := by
  unfold oo_happyOf_4_b
  refine g_iload_n dX8_happyOf_4 rfl rfl ?_
  refine g_aload_n dX8_happyOf_5 rfl rfl ?_
  refine w_getql dX8_happyOf_6 cf_X8 fl_X8_19 ly_Own_lt ly_Own rfl (Nat.le_of_ble_eq_true rfl) (fun b1 hb1 => ?_)
  refine g_getI dX8_happyOf_9 cf_X1 fl_X8_299 (ly_Land_lt hb1) (ly_Land hb1) rfl (Nat.le_of_ble_eq_true rfl) ?_
  refine w_icmp_ge (tgt := 42) dX8_happyOf_12 (by decide) ?_ ?_
  · refine g_iload_n dX8_happyOf_15 rfl rfl ?_
    refine g_aload_n dX8_happyOf_16 rfl rfl ?_
    refine w_getql dX8_happyOf_17 cf_X8 fl_X8_19 ly_Own_lt ly_Own rfl (Nat.le_of_ble_eq_true rfl) (fun b2 hb2 => ?_)
    refine g_iload_n dX8_happyOf_20 rfl rfl ?_
    refine g_iload_n dX8_happyOf_21 rfl rfl ?_
    refine g_aload_n dX8_happyOf_22 rfl rfl ?_
    refine g_getS dX8_happyOf_23 cf_X8 fl_X8_39 ly_Own_lt ly_Own rfl (Nat.le_of_ble_eq_true rfl) ?_
    refine g_iload_n dX8_happyOf_26 rfl rfl ?_
    refine g_iload_n dX8_happyOf_27 rfl rfl ?_
    refine w_Vxi [.int _, .int _] dX8_happyOf_28 ml_X8_307 mv_X7_held mc_X7_held cf_X7 (ly_Week_lt (Or.inl rfl)) (ly_Week (Or.inl rfl)) rfl (Nat.le_of_ble_eq_true rfl) (Nat.le_of_ble_eq_true rfl) (Nat.le_of_ble_eq_true rfl) rfl (co_ow_held F _ (Or.inl rfl) _ _ _) (fun x3 => ?_)
    refine w_Vxi [.int _, .int _, .int _] dX8_happyOf_31 ml_X8_339 mv_X1_worthOfSome mc_X1_worthOfSome cf_X1 (ly_Land_lt hb2) (ly_Land hb2) rfl (Nat.le_of_ble_eq_true rfl) (Nat.le_of_ble_eq_true rfl) (Nat.le_of_ble_eq_true rfl) rfl (co_ol_worthOfSome F _ hb2 _ _ _ _) (fun x4 => ?_)
    refine g_iadd dX8_happyOf_34 ?_
    refine g_istore_n (lo2 := [_, _, _, _]) dX8_happyOf_35 rfl (Nat.le_of_ble_eq_true rfl) rfl rfl ?_
    refine g_iinc (lo2 := [_, _, _, _]) dX8_happyOf_36 rfl rfl (Nat.le_of_ble_eq_true rfl) rfl rfl ?_
    refine g_goto (tgt := 4) dX8_happyOf_39 (by decide) ?_
    exact g_to (hK_4 _ _) (su_s (su_s (su_s (su_s su_0))))
  · refine g_iload_n dX8_happyOf_42 rfl rfl ?_
    exact w_iret dX8_happyOf_43 rfl rfl
theorem lk_oo_happyOf_4 (F : Nat) (μ : g_St) (v1 : Int32) : ∀ (f : Nat) (v2 : Int32) (v3 : Int32) , g_Go gC 2 yX8_happyOf cX8_happyOf 4 (some .int) 4 [some (.ref 0), some (.int v1), some (.int v2), some (.int v3)] [] μ (Option.map (o_i μ) (oo_happyOf_4 F μ v1 f v2 v3 ))
  | 0, v2, v3 => g_none
  | f + 1, v2, v3 => lk_oo_happyOf_4_b F μ v1 (oo_happyOf_4 F μ v1 f) (lk_oo_happyOf_4 F μ v1 f) v2 v3 
theorem lk_oo_happyOf (F : Nat) (μ : g_St) (v1 : Int32) : g_Go gC 2 yX8_happyOf cX8_happyOf 4 (some .int) 0 [some (.ref 0), some (.int v1), none, none] [] μ (Option.map (o_i μ) (oo_happyOf F μ v1)) := by
  unfold oo_happyOf
  refine g_iconst dX8_happyOf_0 ic_0 ?_
  refine g_istore_n (lo2 := [_, _, _, _]) dX8_happyOf_1 rfl (Nat.le_of_ble_eq_true rfl) rfl rfl ?_
  refine g_iconst dX8_happyOf_2 ic_0 ?_
  refine g_istore_n (lo2 := [_, _, _, _]) dX8_happyOf_3 rfl (Nat.le_of_ble_eq_true rfl) rfl rfl ?_
  exact g_to (lk_oo_happyOf_4 F μ _ _ _ _) (su_s (su_s (su_s (su_s su_0))))
theorem co_oo_happyOf (F : Nat) (μ : g_St) (v1 : Int32) : g_Con gC 2 yX8_happyOf cX8_happyOf 4 (some .int) [.ref 0, .int v1] μ (g_xi μ (oo_happyOf F μ v1)) := g_conOf mc_X8_happyOf.2.2.2.2 (Nat.le_of_ble_eq_true rfl) rfl (g_xi_rk (Or.inl rfl)) (lk_oo_happyOf F μ v1)
theorem dX8_person_0 : decode cX8_person 0 = .ok (.aload_n 0, 1) := by decide +kernel
theorem dX8_person_1 : decode cX8_person 1 = .ok (.iload_n 1, 1) := by decide +kernel
theorem dX8_person_2 : decode cX8_person 2 = .ok (.invokevirtual 125, 3) := by decide +kernel
theorem dX8_person_5 : decode cX8_person 5 = .ok (.ifCond .ne 5, 3) := by decide +kernel
theorem dX8_person_8 : decode cX8_person 8 = .ok (.iconst (-1), 1) := by decide +kernel
theorem dX8_person_9 : decode cX8_person 9 = .ok (.ireturn, 1) := by decide +kernel
theorem dX8_person_10 : decode cX8_person 10 = .ok (.iload_n 2, 1) := by decide +kernel
theorem dX8_person_11 : decode cX8_person 11 = .ok (.tableswitch 92 0 5 #[37, 47, 57, 67, 73, 82], 37) := by decide +kernel
theorem dX8_person_48 : decode cX8_person 48 = .ok (.aload_n 0, 1) := by decide +kernel
theorem dX8_person_49 : decode cX8_person 49 = .ok (.getfield 19, 3) := by decide +kernel
theorem dX8_person_52 : decode cX8_person 52 = .ok (.getfield 132, 3) := by decide +kernel
theorem dX8_person_55 : decode cX8_person 55 = .ok (.iload_n 1, 1) := by decide +kernel
theorem dX8_person_56 : decode cX8_person 56 = .ok (.iaload, 1) := by decide +kernel
theorem dX8_person_57 : decode cX8_person 57 = .ok (.ireturn, 1) := by decide +kernel
theorem dX8_person_58 : decode cX8_person 58 = .ok (.aload_n 0, 1) := by decide +kernel
theorem dX8_person_59 : decode cX8_person 59 = .ok (.getfield 39, 3) := by decide +kernel
theorem dX8_person_62 : decode cX8_person 62 = .ok (.getfield 135, 3) := by decide +kernel
theorem dX8_person_65 : decode cX8_person 65 = .ok (.iload_n 1, 1) := by decide +kernel
theorem dX8_person_66 : decode cX8_person 66 = .ok (.iaload, 1) := by decide +kernel
theorem dX8_person_67 : decode cX8_person 67 = .ok (.ireturn, 1) := by decide +kernel
theorem dX8_person_68 : decode cX8_person 68 = .ok (.aload_n 0, 1) := by decide +kernel
theorem dX8_person_69 : decode cX8_person 69 = .ok (.getfield 39, 3) := by decide +kernel
theorem dX8_person_72 : decode cX8_person 72 = .ok (.getfield 138, 3) := by decide +kernel
theorem dX8_person_75 : decode cX8_person 75 = .ok (.iload_n 1, 1) := by decide +kernel
theorem dX8_person_76 : decode cX8_person 76 = .ok (.iaload, 1) := by decide +kernel
theorem dX8_person_77 : decode cX8_person 77 = .ok (.ireturn, 1) := by decide +kernel
theorem dX8_person_78 : decode cX8_person 78 = .ok (.aload_n 0, 1) := by decide +kernel
theorem dX8_person_79 : decode cX8_person 79 = .ok (.iload_n 1, 1) := by decide +kernel
theorem dX8_person_80 : decode cX8_person 80 = .ok (.invokevirtual 141, 3) := by decide +kernel
theorem dX8_person_83 : decode cX8_person 83 = .ok (.ireturn, 1) := by decide +kernel
theorem dX8_person_84 : decode cX8_person 84 = .ok (.aload_n 0, 1) := by decide +kernel
theorem dX8_person_85 : decode cX8_person 85 = .ok (.getfield 39, 3) := by decide +kernel
theorem dX8_person_88 : decode cX8_person 88 = .ok (.iload_n 1, 1) := by decide +kernel
theorem dX8_person_89 : decode cX8_person 89 = .ok (.invokevirtual 144, 3) := by decide +kernel
theorem dX8_person_92 : decode cX8_person 92 = .ok (.ireturn, 1) := by decide +kernel
theorem dX8_person_93 : decode cX8_person 93 = .ok (.aload_n 0, 1) := by decide +kernel
theorem dX8_person_94 : decode cX8_person 94 = .ok (.getfield 19, 3) := by decide +kernel
theorem dX8_person_97 : decode cX8_person 97 = .ok (.getfield 147, 3) := by decide +kernel
theorem dX8_person_100 : decode cX8_person 100 = .ok (.iload_n 1, 1) := by decide +kernel
theorem dX8_person_101 : decode cX8_person 101 = .ok (.iaload, 1) := by decide +kernel
theorem dX8_person_102 : decode cX8_person 102 = .ok (.ireturn, 1) := by decide +kernel
theorem dX8_person_103 : decode cX8_person 103 = .ok (.iconst (-1), 1) := by decide +kernel
theorem dX8_person_104 : decode cX8_person 104 = .ok (.ireturn, 1) := by decide +kernel
theorem lk_oo_person (F : Nat) (μ : g_St) (v1 : Int32) (v2 : Int32) : g_Go gC 3 yX8_person cX8_person 3 (some .int) 0 [some (.ref 0), some (.int v1), some (.int v2)] [] μ (Option.map (o_i μ) (oo_person F μ v1 v2)) := by
  unfold oo_person
  refine g_aload_n dX8_person_0 rfl rfl ?_
  refine g_iload_n dX8_person_1 rfl rfl ?_
  refine w_Vxi [.int _] dX8_person_2 ml_X8_125 mv_X8_isPerson mc_X8_isPerson cf_X8 ly_Own_lt ly_Own rfl (Nat.le_of_ble_eq_true rfl) (Nat.le_of_ble_eq_true rfl) (Nat.le_of_ble_eq_true rfl) rfl (co_oo_isPerson _ _) (fun x1 => ?_)
  refine w_if_ne (tgt := 10) dX8_person_5 (by decide) ?_ ?_
  · refine g_iconst dX8_person_8 ic_m1 ?_
    exact w_iret dX8_person_9 rfl rfl
  · refine g_iload_n dX8_person_10 rfl rfl ?_
    refine w_ite (fun h4 => ?_) (fun h4 => ?_)
    · refine w_tin (tgt := 48) (0 : Int32) h4 dX8_person_11 ⟨37, by decide⟩ ?_
      refine g_aload_n dX8_person_48 rfl rfl ?_
      refine w_getql dX8_person_49 cf_X8 fl_X8_19 ly_Own_lt ly_Own rfl (Nat.le_of_ble_eq_true rfl) (fun b2 hb2 => ?_)
      refine g_getS dX8_person_52 cf_X1 fl_X8_132 (ly_Land_lt hb2) (ly_Land hb2) rfl (Nat.le_of_ble_eq_true rfl) ?_
      refine g_iload_n dX8_person_55 rfl rfl ?_
      refine w_iald dX8_person_56 (ly_Land_home_lt hb2) (ly_Land_home hb2) (fun x3 => ?_)
      exact w_iret dX8_person_57 rfl rfl
    refine w_ite (fun h6 => ?_) (fun h6 => ?_)
    · refine w_tin (tgt := 58) (1 : Int32) h6 dX8_person_11 ⟨47, by decide⟩ ?_
      refine g_aload_n dX8_person_58 rfl rfl ?_
      refine g_getS dX8_person_59 cf_X8 fl_X8_39 ly_Own_lt ly_Own rfl (Nat.le_of_ble_eq_true rfl) ?_
      refine g_getS dX8_person_62 cf_X7 fl_X8_135 (ly_Week_lt (Or.inl rfl)) (ly_Week (Or.inl rfl)) rfl (Nat.le_of_ble_eq_true rfl) ?_
      refine g_iload_n dX8_person_65 rfl rfl ?_
      refine w_iald dX8_person_66 (ly_Week_place_lt (Or.inl rfl)) (ly_Week_place (Or.inl rfl)) (fun x5 => ?_)
      exact w_iret dX8_person_67 rfl rfl
    refine w_ite (fun h8 => ?_) (fun h8 => ?_)
    · refine w_tin (tgt := 68) (2 : Int32) h8 dX8_person_11 ⟨57, by decide⟩ ?_
      refine g_aload_n dX8_person_68 rfl rfl ?_
      refine g_getS dX8_person_69 cf_X8 fl_X8_39 ly_Own_lt ly_Own rfl (Nat.le_of_ble_eq_true rfl) ?_
      refine g_getS dX8_person_72 cf_X7 fl_X8_138 (ly_Week_lt (Or.inl rfl)) (ly_Week (Or.inl rfl)) rfl (Nat.le_of_ble_eq_true rfl) ?_
      refine g_iload_n dX8_person_75 rfl rfl ?_
      refine w_iald dX8_person_76 (ly_Week_clock_lt (Or.inl rfl)) (ly_Week_clock (Or.inl rfl)) (fun x7 => ?_)
      exact w_iret dX8_person_77 rfl rfl
    refine w_ite (fun h10 => ?_) (fun h10 => ?_)
    · refine w_tin (tgt := 78) (3 : Int32) h10 dX8_person_11 ⟨67, by decide⟩ ?_
      refine g_aload_n dX8_person_78 rfl rfl ?_
      refine g_iload_n dX8_person_79 rfl rfl ?_
      refine w_Vxi [.int _] dX8_person_80 ml_X8_141 mv_X8_happyOf mc_X8_happyOf cf_X8 ly_Own_lt ly_Own rfl (Nat.le_of_ble_eq_true rfl) (Nat.le_of_ble_eq_true rfl) (Nat.le_of_ble_eq_true rfl) rfl (co_oo_happyOf F _ _) (fun x9 => ?_)
      exact w_iret dX8_person_83 rfl rfl
    refine w_ite (fun h12 => ?_) (fun h12 => ?_)
    · refine w_tin (tgt := 84) (4 : Int32) h12 dX8_person_11 ⟨73, by decide⟩ ?_
      refine g_aload_n dX8_person_84 rfl rfl ?_
      refine g_getS dX8_person_85 cf_X8 fl_X8_39 ly_Own_lt ly_Own rfl (Nat.le_of_ble_eq_true rfl) ?_
      refine g_iload_n dX8_person_88 rfl rfl ?_
      refine w_Vxi [.int _] dX8_person_89 ml_X8_144 mv_X7_heldBy mc_X7_heldBy cf_X7 (ly_Week_lt (Or.inl rfl)) (ly_Week (Or.inl rfl)) rfl (Nat.le_of_ble_eq_true rfl) (Nat.le_of_ble_eq_true rfl) (Nat.le_of_ble_eq_true rfl) rfl (co_ow_heldBy F _ (Or.inl rfl) _ _) (fun x11 => ?_)
      exact w_iret dX8_person_92 rfl rfl
    refine w_ite (fun h15 => ?_) (fun h15 => ?_)
    · refine w_tin (tgt := 93) (5 : Int32) h15 dX8_person_11 ⟨82, by decide⟩ ?_
      refine g_aload_n dX8_person_93 rfl rfl ?_
      refine w_getql dX8_person_94 cf_X8 fl_X8_19 ly_Own_lt ly_Own rfl (Nat.le_of_ble_eq_true rfl) (fun b13 hb13 => ?_)
      refine g_getS dX8_person_97 cf_X1 fl_X8_147 (ly_Land_lt hb13) (ly_Land hb13) rfl (Nat.le_of_ble_eq_true rfl) ?_
      refine g_iload_n dX8_person_100 rfl rfl ?_
      refine w_iald dX8_person_101 (ly_Land_makes_lt hb13) (ly_Land_makes hb13) (fun x14 => ?_)
      exact w_iret dX8_person_102 rfl rfl
    refine w_tout (tgt := 103) dX8_person_11 (by have qh4 := g_neT (n := 0) h4 (by decide); have qh6 := g_neT (n := 1) h6 (by decide); have qh8 := g_neT (n := 2) h8 (by decide); have qh10 := g_neT (n := 3) h10 (by decide); have qh12 := g_neT (n := 4) h12 (by decide); have qh15 := g_neT (n := 5) h15 (by decide); omega) (by decide) ?_
    refine g_iconst dX8_person_103 ic_m1 ?_
    exact w_iret dX8_person_104 rfl rfl
theorem co_oo_person (F : Nat) (μ : g_St) (v1 : Int32) (v2 : Int32) : g_Con gC 3 yX8_person cX8_person 3 (some .int) [.ref 0, .int v1, .int v2] μ (g_xi μ (oo_person F μ v1 v2)) := g_conOf mc_X8_person.2.2.2.2 (Nat.le_of_ble_eq_true rfl) rfl (g_xi_rk (Or.inl rfl)) (lk_oo_person F μ v1 v2)
theorem dX8_make_0 : decode cX8_make 0 = .ok (.iload_n 2, 1) := by decide +kernel
theorem dX8_make_1 : decode cX8_make 1 = .ok (.iconst (-1), 1) := by decide +kernel
theorem dX8_make_2 : decode cX8_make 2 = .ok (.if_icmp .ne 7, 3) := by decide +kernel
theorem dX8_make_5 : decode cX8_make 5 = .ok (.iconst 1, 1) := by decide +kernel
theorem dX8_make_6 : decode cX8_make 6 = .ok (.goto 4, 3) := by decide +kernel
theorem dX8_make_9 : decode cX8_make 9 = .ok (.iconst 0, 1) := by decide +kernel
theorem dX8_make_10 : decode cX8_make 10 = .ok (.istore 5, 2) := by decide +kernel
theorem dX8_make_12 : decode cX8_make 12 = .ok (.aload_n 0, 1) := by decide +kernel
theorem dX8_make_13 : decode cX8_make 13 = .ok (.iload_n 1, 1) := by decide +kernel
theorem dX8_make_14 : decode cX8_make 14 = .ok (.invokevirtual 125, 3) := by decide +kernel
theorem dX8_make_17 : decode cX8_make 17 = .ok (.ifCond .eq 21, 3) := by decide +kernel
theorem dX8_make_20 : decode cX8_make 20 = .ok (.iload 5, 2) := by decide +kernel
theorem dX8_make_22 : decode cX8_make 22 = .ok (.ifCond .ne 18, 3) := by decide +kernel
theorem dX8_make_25 : decode cX8_make 25 = .ok (.aload_n 0, 1) := by decide +kernel
theorem dX8_make_26 : decode cX8_make 26 = .ok (.iload_n 2, 1) := by decide +kernel
theorem dX8_make_27 : decode cX8_make 27 = .ok (.invokevirtual 125, 3) := by decide +kernel
theorem dX8_make_30 : decode cX8_make 30 = .ok (.ifCond .eq 8, 3) := by decide +kernel
theorem dX8_make_33 : decode cX8_make 33 = .ok (.iload_n 2, 1) := by decide +kernel
theorem dX8_make_34 : decode cX8_make 34 = .ok (.iload_n 1, 1) := by decide +kernel
theorem dX8_make_35 : decode cX8_make 35 = .ok (.if_icmp .ne 5, 3) := by decide +kernel
theorem dX8_make_38 : decode cX8_make 38 = .ok (.iconst 1, 1) := by decide +kernel
theorem dX8_make_39 : decode cX8_make 39 = .ok (.ireturn, 1) := by decide +kernel
theorem dX8_make_40 : decode cX8_make 40 = .ok (.aload_n 0, 1) := by decide +kernel
theorem dX8_make_41 : decode cX8_make 41 = .ok (.iload_n 3, 1) := by decide +kernel
theorem dX8_make_42 : decode cX8_make 42 = .ok (.invokevirtual 112, 3) := by decide +kernel
theorem dX8_make_45 : decode cX8_make 45 = .ok (.ifCond .eq 14, 3) := by decide +kernel
theorem dX8_make_48 : decode cX8_make 48 = .ok (.iload 4, 2) := by decide +kernel
theorem dX8_make_50 : decode cX8_make 50 = .ok (.ifCond .lt 9, 3) := by decide +kernel
theorem dX8_make_53 : decode cX8_make 53 = .ok (.iload 4, 2) := by decide +kernel
theorem dX8_make_55 : decode cX8_make 55 = .ok (.iconst 3, 1) := by decide +kernel
theorem dX8_make_56 : decode cX8_make 56 = .ok (.if_icmp .le 5, 3) := by decide +kernel
theorem dX8_make_59 : decode cX8_make 59 = .ok (.iconst 1, 1) := by decide +kernel
theorem dX8_make_60 : decode cX8_make 60 = .ok (.ireturn, 1) := by decide +kernel
theorem dX8_make_61 : decode cX8_make 61 = .ok (.iload 5, 2) := by decide +kernel
theorem dX8_make_63 : decode cX8_make 63 = .ok (.ifCond .eq 7, 3) := by decide +kernel
theorem dX8_make_66 : decode cX8_make 66 = .ok (.iload_n 1, 1) := by decide +kernel
theorem dX8_make_67 : decode cX8_make 67 = .ok (.goto 4, 3) := by decide +kernel
theorem dX8_make_70 : decode cX8_make 70 = .ok (.iload_n 2, 1) := by decide +kernel
theorem dX8_make_71 : decode cX8_make 71 = .ok (.istore 6, 2) := by decide +kernel
theorem dX8_make_73 : decode cX8_make 73 = .ok (.iconst 1, 1) := by decide +kernel
theorem dX8_make_74 : decode cX8_make 74 = .ok (.iload_n 1, 1) := by decide +kernel
theorem dX8_make_75 : decode cX8_make 75 = .ok (.ishl, 1) := by decide +kernel
theorem dX8_make_76 : decode cX8_make 76 = .ok (.iconst 1, 1) := by decide +kernel
theorem dX8_make_77 : decode cX8_make 77 = .ok (.iload 6, 2) := by decide +kernel
theorem dX8_make_79 : decode cX8_make 79 = .ok (.ishl, 1) := by decide +kernel
theorem dX8_make_80 : decode cX8_make 80 = .ok (.ior, 1) := by decide +kernel
theorem dX8_make_81 : decode cX8_make 81 = .ok (.istore 7, 2) := by decide +kernel
theorem dX8_make_83 : decode cX8_make 83 = .ok (.aload_n 0, 1) := by decide +kernel
theorem dX8_make_84 : decode cX8_make 84 = .ok (.getfield 39, 3) := by decide +kernel
theorem dX8_make_87 : decode cX8_make 87 = .ok (.iload_n 1, 1) := by decide +kernel
theorem dX8_make_88 : decode cX8_make 88 = .ok (.iload 6, 2) := by decide +kernel
theorem dX8_make_90 : decode cX8_make 90 = .ok (.invokevirtual 150, 3) := by decide +kernel
theorem dX8_make_93 : decode cX8_make 93 = .ok (.aload_n 0, 1) := by decide +kernel
theorem dX8_make_94 : decode cX8_make 94 = .ok (.getfield 19, 3) := by decide +kernel
theorem dX8_make_97 : decode cX8_make 97 = .ok (.getfield 115, 3) := by decide +kernel
theorem dX8_make_100 : decode cX8_make 100 = .ok (.iload_n 3, 1) := by decide +kernel
theorem dX8_make_101 : decode cX8_make 101 = .ok (.iaload, 1) := by decide +kernel
theorem dX8_make_102 : decode cX8_make 102 = .ok (.iadd, 1) := by decide +kernel
theorem dX8_make_103 : decode cX8_make 103 = .ok (.istore 8, 2) := by decide +kernel
theorem dX8_make_105 : decode cX8_make 105 = .ok (.iload 8, 2) := by decide +kernel
theorem dX8_make_107 : decode cX8_make 107 = .ok (.sipush 168, 3) := by decide +kernel
theorem dX8_make_110 : decode cX8_make 110 = .ok (.if_icmp .le 5, 3) := by decide +kernel
theorem dX8_make_113 : decode cX8_make 113 = .ok (.iconst 2, 1) := by decide +kernel
theorem dX8_make_114 : decode cX8_make 114 = .ok (.ireturn, 1) := by decide +kernel
theorem dX8_make_115 : decode cX8_make 115 = .ok (.aload_n 0, 1) := by decide +kernel
theorem dX8_make_116 : decode cX8_make 116 = .ok (.getfield 19, 3) := by decide +kernel
theorem dX8_make_119 : decode cX8_make 119 = .ok (.iload_n 3, 1) := by decide +kernel
theorem dX8_make_120 : decode cX8_make 120 = .ok (.invokevirtual 121, 3) := by decide +kernel
theorem dX8_make_123 : decode cX8_make 123 = .ok (.iload 7, 2) := by decide +kernel
theorem dX8_make_125 : decode cX8_make 125 = .ok (.iand, 1) := by decide +kernel
theorem dX8_make_126 : decode cX8_make 126 = .ok (.ifCond .eq 23, 3) := by decide +kernel
theorem dX8_make_129 : decode cX8_make 129 = .ok (.aload_n 0, 1) := by decide +kernel
theorem dX8_make_130 : decode cX8_make 130 = .ok (.getfield 39, 3) := by decide +kernel
theorem dX8_make_133 : decode cX8_make 133 = .ok (.iload_n 1, 1) := by decide +kernel
theorem dX8_make_134 : decode cX8_make 134 = .ok (.aload_n 0, 1) := by decide +kernel
theorem dX8_make_135 : decode cX8_make 135 = .ok (.getfield 19, 3) := by decide +kernel
theorem dX8_make_138 : decode cX8_make 138 = .ok (.getfield 118, 3) := by decide +kernel
theorem dX8_make_141 : decode cX8_make 141 = .ok (.iload_n 3, 1) := by decide +kernel
theorem dX8_make_142 : decode cX8_make 142 = .ok (.iaload, 1) := by decide +kernel
theorem dX8_make_143 : decode cX8_make 143 = .ok (.invokevirtual 154, 3) := by decide +kernel
theorem dX8_make_146 : decode cX8_make 146 = .ok (.ifCond .ne 5, 3) := by decide +kernel
theorem dX8_make_149 : decode cX8_make 149 = .ok (.iconst 3, 1) := by decide +kernel
theorem dX8_make_150 : decode cX8_make 150 = .ok (.ireturn, 1) := by decide +kernel
theorem dX8_make_151 : decode cX8_make 151 = .ok (.aload_n 0, 1) := by decide +kernel
theorem dX8_make_152 : decode cX8_make 152 = .ok (.getfield 39, 3) := by decide +kernel
theorem dX8_make_155 : decode cX8_make 155 = .ok (.getfield 135, 3) := by decide +kernel
theorem dX8_make_158 : decode cX8_make 158 = .ok (.iload_n 1, 1) := by decide +kernel
theorem dX8_make_159 : decode cX8_make 159 = .ok (.iaload, 1) := by decide +kernel
theorem dX8_make_160 : decode cX8_make 160 = .ok (.aload_n 0, 1) := by decide +kernel
theorem dX8_make_161 : decode cX8_make 161 = .ok (.getfield 39, 3) := by decide +kernel
theorem dX8_make_164 : decode cX8_make 164 = .ok (.getfield 135, 3) := by decide +kernel
theorem dX8_make_167 : decode cX8_make 167 = .ok (.iload 6, 2) := by decide +kernel
theorem dX8_make_169 : decode cX8_make 169 = .ok (.iaload, 1) := by decide +kernel
theorem dX8_make_170 : decode cX8_make 170 = .ok (.if_icmp .eq 5, 3) := by decide +kernel
theorem dX8_make_173 : decode cX8_make 173 = .ok (.iconst 4, 1) := by decide +kernel
theorem dX8_make_174 : decode cX8_make 174 = .ok (.ireturn, 1) := by decide +kernel
theorem dX8_make_175 : decode cX8_make 175 = .ok (.aload_n 0, 1) := by decide +kernel
theorem dX8_make_176 : decode cX8_make 176 = .ok (.getfield 39, 3) := by decide +kernel
theorem dX8_make_179 : decode cX8_make 179 = .ok (.getfield 158, 3) := by decide +kernel
theorem dX8_make_182 : decode cX8_make 182 = .ok (.bipush 40, 2) := by decide +kernel
theorem dX8_make_184 : decode cX8_make 184 = .ok (.if_icmp .lt 6, 3) := by decide +kernel
theorem dX8_make_187 : decode cX8_make 187 = .ok (.bipush 7, 2) := by decide +kernel
theorem dX8_make_189 : decode cX8_make 189 = .ok (.ireturn, 1) := by decide +kernel
theorem dX8_make_190 : decode cX8_make 190 = .ok (.aload_n 0, 1) := by decide +kernel
theorem dX8_make_191 : decode cX8_make 191 = .ok (.getfield 39, 3) := by decide +kernel
theorem dX8_make_194 : decode cX8_make 194 = .ok (.iload_n 1, 1) := by decide +kernel
theorem dX8_make_195 : decode cX8_make 195 = .ok (.aload_n 0, 1) := by decide +kernel
theorem dX8_make_196 : decode cX8_make 196 = .ok (.getfield 19, 3) := by decide +kernel
theorem dX8_make_199 : decode cX8_make 199 = .ok (.getfield 118, 3) := by decide +kernel
theorem dX8_make_202 : decode cX8_make 202 = .ok (.iload_n 3, 1) := by decide +kernel
theorem dX8_make_203 : decode cX8_make 203 = .ok (.iaload, 1) := by decide +kernel
theorem dX8_make_204 : decode cX8_make 204 = .ok (.invokevirtual 161, 3) := by decide +kernel
theorem dX8_make_207 : decode cX8_make 207 = .ok (.aload_n 0, 1) := by decide +kernel
theorem dX8_make_208 : decode cX8_make 208 = .ok (.getfield 39, 3) := by decide +kernel
theorem dX8_make_211 : decode cX8_make 211 = .ok (.iload_n 3, 1) := by decide +kernel
theorem dX8_make_212 : decode cX8_make 212 = .ok (.iload 4, 2) := by decide +kernel
theorem dX8_make_214 : decode cX8_make 214 = .ok (.iload 7, 2) := by decide +kernel
theorem dX8_make_216 : decode cX8_make 216 = .ok (.iload_n 1, 1) := by decide +kernel
theorem dX8_make_217 : decode cX8_make 217 = .ok (.iload 8, 2) := by decide +kernel
theorem dX8_make_219 : decode cX8_make 219 = .ok (.invokevirtual 165, 3) := by decide +kernel
theorem dX8_make_222 : decode cX8_make 222 = .ok (.aload_n 0, 1) := by decide +kernel
theorem dX8_make_223 : decode cX8_make 223 = .ok (.getfield 39, 3) := by decide +kernel
theorem dX8_make_226 : decode cX8_make 226 = .ok (.iload_n 1, 1) := by decide +kernel
theorem dX8_make_227 : decode cX8_make 227 = .ok (.iload 6, 2) := by decide +kernel
theorem dX8_make_229 : decode cX8_make 229 = .ok (.iload 8, 2) := by decide +kernel
theorem dX8_make_231 : decode cX8_make 231 = .ok (.invokevirtual 168, 3) := by decide +kernel
theorem dX8_make_234 : decode cX8_make 234 = .ok (.aload_n 0, 1) := by decide +kernel
theorem dX8_make_235 : decode cX8_make 235 = .ok (.iconst 0, 1) := by decide +kernel
theorem dX8_make_236 : decode cX8_make 236 = .ok (.putfield 95, 3) := by decide +kernel
theorem dX8_make_239 : decode cX8_make 239 = .ok (.iconst 0, 1) := by decide +kernel
theorem dX8_make_240 : decode cX8_make 240 = .ok (.ireturn, 1) := by decide +kernel
theorem lk_oo_make_71 (F : Nat) (v1 : Int32) (v3 : Int32) (v4 : Int32) (s0 : Int32) (μ : g_St) : g_Go gC 2 yX8_make cX8_make 9 (some .int) 71 [some (.ref 0), some (.int v1), none, some (.int v3), some (.int v4), none, none, none, none] [.int s0] μ (Option.map o_yi (oo_make_71 F v1 v3 v4 s0 μ)) := by
  unfold oo_make_71
  refine g_istore (lo2 := [_, _, _, _, _, _, _, _, _]) dX8_make_71 (Nat.le_of_ble_eq_true rfl) rfl rfl ?_
  refine g_iconst dX8_make_73 ic_1 ?_
  refine g_iload_n dX8_make_74 rfl rfl ?_
  refine g_ishl dX8_make_75 ?_
  refine g_iconst dX8_make_76 ic_1 ?_
  refine g_iload dX8_make_77 rfl ?_
  refine g_ishl dX8_make_79 ?_
  refine g_ior dX8_make_80 ?_
  refine w_istore (lo2 := fun _ => [_, _, _, _, _, _, _, _, _]) dX8_make_81 (Nat.le_of_ble_eq_true rfl) rfl (fun _ => rfl) (fun x4 => ?_)
  refine g_aload_n dX8_make_83 rfl rfl ?_
  refine g_getS dX8_make_84 cf_X8 fl_X8_39 ly_Own_lt ly_Own rfl (Nat.le_of_ble_eq_true rfl) ?_
  refine g_iload_n dX8_make_87 rfl rfl ?_
  refine g_iload dX8_make_88 rfl ?_
  refine w_Vxi [.int _, .int _] dX8_make_90 ml_X8_150 mv_X7_laterClock mc_X7_laterClock cf_X7 (ly_Week_lt (Or.inl rfl)) (ly_Week (Or.inl rfl)) rfl (Nat.le_of_ble_eq_true rfl) (Nat.le_of_ble_eq_true rfl) (Nat.le_of_ble_eq_true rfl) rfl (co_ow_laterClock _ (Or.inl rfl) _ _ _) (fun x5 => ?_)
  refine g_aload_n dX8_make_93 rfl rfl ?_
  refine w_getql dX8_make_94 cf_X8 fl_X8_19 ly_Own_lt ly_Own rfl (Nat.le_of_ble_eq_true rfl) (fun b6 hb6 => ?_)
  refine g_getS dX8_make_97 cf_X1 fl_X8_115 (ly_Land_lt hb6) (ly_Land hb6) rfl (Nat.le_of_ble_eq_true rfl) ?_
  refine g_iload_n dX8_make_100 rfl rfl ?_
  refine w_iald dX8_make_101 (ly_Land_hours_lt hb6) (ly_Land_hours hb6) (fun x7 => ?_)
  refine g_iadd dX8_make_102 ?_
  refine g_istore (lo2 := [_, _, _, _, _, _, _, _, _]) dX8_make_103 (Nat.le_of_ble_eq_true rfl) rfl rfl ?_
  refine g_iload dX8_make_105 rfl ?_
  refine g_sipush dX8_make_107 sp_168 ?_
  refine w_icmp_le (tgt := 115) dX8_make_110 (by decide) ?_ ?_
  · refine g_iconst dX8_make_113 ic_2 ?_
    exact w_iret dX8_make_114 rfl rfl
  · refine g_aload_n dX8_make_115 rfl rfl ?_
    refine w_getql dX8_make_116 cf_X8 fl_X8_19 ly_Own_lt ly_Own rfl (Nat.le_of_ble_eq_true rfl) (fun b8 hb8 => ?_)
    refine g_iload_n dX8_make_119 rfl rfl ?_
    refine w_Vxi [.int _] dX8_make_120 ml_X8_121 mv_X1_makersOf mc_X1_makersOf cf_X1 (ly_Land_lt hb8) (ly_Land hb8) rfl (Nat.le_of_ble_eq_true rfl) (Nat.le_of_ble_eq_true rfl) (Nat.le_of_ble_eq_true rfl) rfl (co_ol_makersOf F _ hb8 _ _) (fun x9 => ?_)
    refine g_iload dX8_make_123 rfl ?_
    refine g_iand dX8_make_125 ?_
    refine w_if_eq (tgt := 149) dX8_make_126 (by decide) ?_ ?_
    · refine g_iconst dX8_make_149 ic_3 ?_
      exact w_iret dX8_make_150 rfl rfl
    · refine g_aload_n dX8_make_129 rfl rfl ?_
      refine g_getS dX8_make_130 cf_X8 fl_X8_39 ly_Own_lt ly_Own rfl (Nat.le_of_ble_eq_true rfl) ?_
      refine g_iload_n dX8_make_133 rfl rfl ?_
      refine g_aload_n dX8_make_134 rfl rfl ?_
      refine w_getql dX8_make_135 cf_X8 fl_X8_19 ly_Own_lt ly_Own rfl (Nat.le_of_ble_eq_true rfl) (fun b10 hb10 => ?_)
      refine g_getS dX8_make_138 cf_X1 fl_X8_118 (ly_Land_lt hb10) (ly_Land hb10) rfl (Nat.le_of_ble_eq_true rfl) ?_
      refine g_iload_n dX8_make_141 rfl rfl ?_
      refine w_iald dX8_make_142 (ly_Land_from_lt hb10) (ly_Land_from hb10) (fun x11 => ?_)
      refine w_Vxi [.int _, .int _] dX8_make_143 ml_X8_154 mv_X7_holdsOfEach mc_X7_holdsOfEach cf_X7 (ly_Week_lt (Or.inl rfl)) (ly_Week (Or.inl rfl)) rfl (Nat.le_of_ble_eq_true rfl) (Nat.le_of_ble_eq_true rfl) (Nat.le_of_ble_eq_true rfl) rfl (co_ow_holdsOfEach F _ (Or.inl rfl) _ _ _) (fun x12 => ?_)
      refine w_if_ne (tgt := 151) dX8_make_146 (by decide) ?_ ?_
      · refine g_iconst dX8_make_149 ic_3 ?_
        exact w_iret dX8_make_150 rfl rfl
      · refine g_aload_n dX8_make_151 rfl rfl ?_
        refine g_getS dX8_make_152 cf_X8 fl_X8_39 ly_Own_lt ly_Own rfl (Nat.le_of_ble_eq_true rfl) ?_
        refine g_getS dX8_make_155 cf_X7 fl_X8_135 (ly_Week_lt (Or.inl rfl)) (ly_Week (Or.inl rfl)) rfl (Nat.le_of_ble_eq_true rfl) ?_
        refine g_iload_n dX8_make_158 rfl rfl ?_
        refine w_iald dX8_make_159 (ly_Week_place_lt (Or.inl rfl)) (ly_Week_place (Or.inl rfl)) (fun x13 => ?_)
        refine g_aload_n dX8_make_160 rfl rfl ?_
        refine g_getS dX8_make_161 cf_X8 fl_X8_39 ly_Own_lt ly_Own rfl (Nat.le_of_ble_eq_true rfl) ?_
        refine g_getS dX8_make_164 cf_X7 fl_X8_135 (ly_Week_lt (Or.inl rfl)) (ly_Week (Or.inl rfl)) rfl (Nat.le_of_ble_eq_true rfl) ?_
        refine g_iload dX8_make_167 rfl ?_
        refine w_iald dX8_make_169 (ly_Week_place_lt (Or.inl rfl)) (ly_Week_place (Or.inl rfl)) (fun x14 => ?_)
        refine w_icmp_eq (tgt := 175) dX8_make_170 (by decide) ?_ ?_
        · refine g_aload_n dX8_make_175 rfl rfl ?_
          refine g_getS dX8_make_176 cf_X8 fl_X8_39 ly_Own_lt ly_Own rfl (Nat.le_of_ble_eq_true rfl) ?_
          refine g_getI dX8_make_179 cf_X7 fl_X8_158 (ly_Week_lt (Or.inl rfl)) (ly_Week (Or.inl rfl)) rfl (Nat.le_of_ble_eq_true rfl) ?_
          refine g_bipush dX8_make_182 bp_40 ?_
          refine w_icmp_lt (tgt := 190) dX8_make_184 (by decide) ?_ ?_
          · refine g_bipush dX8_make_187 bp_7 ?_
            exact w_iret dX8_make_189 rfl rfl
          · refine g_aload_n dX8_make_190 rfl rfl ?_
            refine g_getS dX8_make_191 cf_X8 fl_X8_39 ly_Own_lt ly_Own rfl (Nat.le_of_ble_eq_true rfl) ?_
            refine g_iload_n dX8_make_194 rfl rfl ?_
            refine g_aload_n dX8_make_195 rfl rfl ?_
            refine w_getql dX8_make_196 cf_X8 fl_X8_19 ly_Own_lt ly_Own rfl (Nat.le_of_ble_eq_true rfl) (fun b15 hb15 => ?_)
            refine g_getS dX8_make_199 cf_X1 fl_X8_118 (ly_Land_lt hb15) (ly_Land hb15) rfl (Nat.le_of_ble_eq_true rfl) ?_
            refine g_iload_n dX8_make_202 rfl rfl ?_
            refine w_iald dX8_make_203 (ly_Land_from_lt hb15) (ly_Land_from hb15) (fun x16 => ?_)
            refine w_Vyv [.int _, .int _] dX8_make_204 ml_X8_161 mv_X7_useUp mc_X7_useUp cf_X7 (ly_Week_lt (Or.inl rfl)) (ly_Week (Or.inl rfl)) rfl (Nat.le_of_ble_eq_true rfl) (Nat.le_of_ble_eq_true rfl) (Nat.le_of_ble_eq_true rfl) rfl (co_ow_useUp F _ (Or.inl rfl) _ _ _) (fun μ17 => ?_)
            refine g_aload_n dX8_make_207 rfl rfl ?_
            refine g_getS dX8_make_208 cf_X8 fl_X8_39 ly_Own_lt ly_Own rfl (Nat.le_of_ble_eq_true rfl) ?_
            refine g_iload_n dX8_make_211 rfl rfl ?_
            refine g_iload dX8_make_212 rfl ?_
            refine g_iload dX8_make_214 rfl ?_
            refine g_iload_n dX8_make_216 rfl rfl ?_
            refine g_iload dX8_make_217 rfl ?_
            refine w_Vyv [.int _, .int _, .int _, .int _, .int _] dX8_make_219 ml_X8_165 mv_X7_add mc_X7_add cf_X7 (ly_Week_lt (Or.inl rfl)) (ly_Week (Or.inl rfl)) rfl (Nat.le_of_ble_eq_true rfl) (Nat.le_of_ble_eq_true rfl) (Nat.le_of_ble_eq_true rfl) rfl (co_ow_add _ (Or.inl rfl) _ _ _ _ _ _) (fun μ18 => ?_)
            refine g_aload_n dX8_make_222 rfl rfl ?_
            refine g_getS dX8_make_223 cf_X8 fl_X8_39 ly_Own_lt ly_Own rfl (Nat.le_of_ble_eq_true rfl) ?_
            refine g_iload_n dX8_make_226 rfl rfl ?_
            refine g_iload dX8_make_227 rfl ?_
            refine g_iload dX8_make_229 rfl ?_
            refine w_Vyv [.int _, .int _, .int _] dX8_make_231 ml_X8_168 mv_X7_setClocks mc_X7_setClocks cf_X7 (ly_Week_lt (Or.inl rfl)) (ly_Week (Or.inl rfl)) rfl (Nat.le_of_ble_eq_true rfl) (Nat.le_of_ble_eq_true rfl) (Nat.le_of_ble_eq_true rfl) rfl (co_ow_setClocks _ (Or.inl rfl) _ _ _ _) (fun μ19 => ?_)
            refine g_aload_n dX8_make_234 rfl rfl ?_
            refine g_iconst dX8_make_235 ic_0 ?_
            refine w_putI dX8_make_236 cf_X8 fl_X8_95 ly_Own_lt ly_Own rfl (Nat.le_of_ble_eq_true rfl) rfl rfl (by decide) (by decide) (fun μ20 => ?_)
            refine g_iconst dX8_make_239 ic_0 ?_
            exact w_iret dX8_make_240 rfl rfl
        · refine g_iconst dX8_make_173 ic_4 ?_
          exact w_iret dX8_make_174 rfl rfl
theorem lk_oo_make_40 (F : Nat) (v1 : Int32) (v2 : Int32) (v3 : Int32) (v4 : Int32) (v5 : Int32) (μ : g_St) : g_Go gC 2 yX8_make cX8_make 9 (some .int) 40 [some (.ref 0), some (.int v1), some (.int v2), some (.int v3), some (.int v4), some (.int v5), none, none, none] [] μ (Option.map o_yi (oo_make_40 F v1 v2 v3 v4 v5 μ)) := by
  unfold oo_make_40
  refine g_aload_n dX8_make_40 rfl rfl ?_
  refine g_iload_n dX8_make_41 rfl rfl ?_
  refine w_Vxi [.int _] dX8_make_42 ml_X8_112 mv_X8_isGood mc_X8_isGood cf_X8 ly_Own_lt ly_Own rfl (Nat.le_of_ble_eq_true rfl) (Nat.le_of_ble_eq_true rfl) (Nat.le_of_ble_eq_true rfl) rfl (co_oo_isGood _ _) (fun x3 => ?_)
  refine w_if_eq (tgt := 59) dX8_make_45 (by decide) ?_ ?_
  · refine g_iconst dX8_make_59 ic_1 ?_
    exact w_iret dX8_make_60 rfl rfl
  · refine g_iload dX8_make_48 rfl ?_
    refine w_if_lt (tgt := 59) dX8_make_50 (by decide) ?_ ?_
    · refine g_iload dX8_make_53 rfl ?_
      refine g_iconst dX8_make_55 ic_3 ?_
      refine w_icmp_le (tgt := 61) dX8_make_56 (by decide) ?_ ?_
      · refine g_iconst dX8_make_59 ic_1 ?_
        exact w_iret dX8_make_60 rfl rfl
      · refine g_iload dX8_make_61 rfl ?_
        refine w_if_eq (tgt := 70) dX8_make_63 (by decide) ?_ ?_
        · refine g_iload_n dX8_make_70 rfl rfl ?_
          exact g_to (lk_oo_make_71 F _ _ _ _ _) (su_s (su_s (su_n (su_s (su_s (su_n (su_n (su_n (su_n su_0)))))))))
        · refine g_iload_n dX8_make_66 rfl rfl ?_
          refine g_goto (tgt := 71) dX8_make_67 (by decide) ?_
          exact g_to (lk_oo_make_71 F _ _ _ _ _) (su_s (su_s (su_n (su_s (su_s (su_n (su_n (su_n (su_n su_0)))))))))
    · refine g_iconst dX8_make_59 ic_1 ?_
      exact w_iret dX8_make_60 rfl rfl
theorem lk_oo_make_10 (F : Nat) (v1 : Int32) (v2 : Int32) (v3 : Int32) (v4 : Int32) (s0 : Int32) (μ : g_St) : g_Go gC 2 yX8_make cX8_make 9 (some .int) 10 [some (.ref 0), some (.int v1), some (.int v2), some (.int v3), some (.int v4), none, none, none, none] [.int s0] μ (Option.map o_yi (oo_make_10 F v1 v2 v3 v4 s0 μ)) := by
  unfold oo_make_10
  refine g_istore (lo2 := [_, _, _, _, _, _, _, _, _]) dX8_make_10 (Nat.le_of_ble_eq_true rfl) rfl rfl ?_
  refine g_aload_n dX8_make_12 rfl rfl ?_
  refine g_iload_n dX8_make_13 rfl rfl ?_
  refine w_Vxi [.int _] dX8_make_14 ml_X8_125 mv_X8_isPerson mc_X8_isPerson cf_X8 ly_Own_lt ly_Own rfl (Nat.le_of_ble_eq_true rfl) (Nat.le_of_ble_eq_true rfl) (Nat.le_of_ble_eq_true rfl) rfl (co_oo_isPerson _ _) (fun x1 => ?_)
  refine w_if_eq (tgt := 38) dX8_make_17 (by decide) ?_ ?_
  · refine g_iconst dX8_make_38 ic_1 ?_
    exact w_iret dX8_make_39 rfl rfl
  · refine g_iload dX8_make_20 rfl ?_
    refine w_if_ne (tgt := 40) dX8_make_22 (by decide) ?_ ?_
    · refine g_aload_n dX8_make_25 rfl rfl ?_
      refine g_iload_n dX8_make_26 rfl rfl ?_
      refine w_Vxi [.int _] dX8_make_27 ml_X8_125 mv_X8_isPerson mc_X8_isPerson cf_X8 ly_Own_lt ly_Own rfl (Nat.le_of_ble_eq_true rfl) (Nat.le_of_ble_eq_true rfl) (Nat.le_of_ble_eq_true rfl) rfl (co_oo_isPerson _ _) (fun x2 => ?_)
      refine w_if_eq (tgt := 38) dX8_make_30 (by decide) ?_ ?_
      · refine g_iconst dX8_make_38 ic_1 ?_
        exact w_iret dX8_make_39 rfl rfl
      · refine g_iload_n dX8_make_33 rfl rfl ?_
        refine g_iload_n dX8_make_34 rfl rfl ?_
        refine w_icmp_ne (tgt := 40) dX8_make_35 (by decide) ?_ ?_
        · refine g_iconst dX8_make_38 ic_1 ?_
          exact w_iret dX8_make_39 rfl rfl
        · exact g_to (lk_oo_make_40 F _ _ _ _ _ _) (su_s (su_s (su_s (su_s (su_s (su_s (su_n (su_n (su_n su_0)))))))))
    · exact g_to (lk_oo_make_40 F _ _ _ _ _ _) (su_s (su_s (su_s (su_s (su_s (su_s (su_n (su_n (su_n su_0)))))))))
theorem lk_oo_make (F : Nat) (v1 : Int32) (v2 : Int32) (v3 : Int32) (v4 : Int32) (μ : g_St) : g_Go gC 2 yX8_make cX8_make 9 (some .int) 0 [some (.ref 0), some (.int v1), some (.int v2), some (.int v3), some (.int v4), none, none, none, none] [] μ (Option.map o_yi (oo_make F v1 v2 v3 v4 μ)) := by
  unfold oo_make
  refine g_iload_n dX8_make_0 rfl rfl ?_
  refine g_iconst dX8_make_1 ic_m1 ?_
  refine w_icmp_ne (tgt := 9) dX8_make_2 (by decide) ?_ ?_
  · refine g_iconst dX8_make_5 ic_1 ?_
    refine g_goto (tgt := 10) dX8_make_6 (by decide) ?_
    exact g_to (lk_oo_make_10 F _ _ _ _ _ _) (su_s (su_s (su_s (su_s (su_s (su_n (su_n (su_n (su_n su_0)))))))))
  · refine g_iconst dX8_make_9 ic_0 ?_
    exact g_to (lk_oo_make_10 F _ _ _ _ _ _) (su_s (su_s (su_s (su_s (su_s (su_n (su_n (su_n (su_n su_0)))))))))
theorem co_oo_make (F : Nat) (v1 : Int32) (v2 : Int32) (v3 : Int32) (v4 : Int32) (μ : g_St) : g_Con gC 2 yX8_make cX8_make 9 (some .int) [.ref 0, .int v1, .int v2, .int v3, .int v4] μ (g_yi (oo_make F v1 v2 v3 v4 μ)) := g_conOf mc_X8_make.2.2.2.2 (Nat.le_of_ble_eq_true rfl) rfl (g_yi_rk (Or.inl rfl)) (lk_oo_make F v1 v2 v3 v4 μ)
theorem dX8_go_0 : decode cX8_go 0 = .ok (.aload_n 0, 1) := by decide +kernel
theorem dX8_go_1 : decode cX8_go 1 = .ok (.iload_n 1, 1) := by decide +kernel
theorem dX8_go_2 : decode cX8_go 2 = .ok (.invokevirtual 125, 3) := by decide +kernel
theorem dX8_go_5 : decode cX8_go 5 = .ok (.ifCond .eq 11, 3) := by decide +kernel
theorem dX8_go_8 : decode cX8_go 8 = .ok (.aload_n 0, 1) := by decide +kernel
theorem dX8_go_9 : decode cX8_go 9 = .ok (.iload_n 2, 1) := by decide +kernel
theorem dX8_go_10 : decode cX8_go 10 = .ok (.invokevirtual 104, 3) := by decide +kernel
theorem dX8_go_13 : decode cX8_go 13 = .ok (.ifCond .ne 5, 3) := by decide +kernel
theorem dX8_go_16 : decode cX8_go 16 = .ok (.iconst 1, 1) := by decide +kernel
theorem dX8_go_17 : decode cX8_go 17 = .ok (.ireturn, 1) := by decide +kernel
theorem dX8_go_18 : decode cX8_go 18 = .ok (.aload_n 0, 1) := by decide +kernel
theorem dX8_go_19 : decode cX8_go 19 = .ok (.getfield 19, 3) := by decide +kernel
theorem dX8_go_22 : decode cX8_go 22 = .ok (.getfield 108, 3) := by decide +kernel
theorem dX8_go_25 : decode cX8_go 25 = .ok (.aload_n 0, 1) := by decide +kernel
theorem dX8_go_26 : decode cX8_go 26 = .ok (.getfield 39, 3) := by decide +kernel
theorem dX8_go_29 : decode cX8_go 29 = .ok (.getfield 135, 3) := by decide +kernel
theorem dX8_go_32 : decode cX8_go 32 = .ok (.iload_n 1, 1) := by decide +kernel
theorem dX8_go_33 : decode cX8_go 33 = .ok (.iaload, 1) := by decide +kernel
theorem dX8_go_34 : decode cX8_go 34 = .ok (.aaload, 1) := by decide +kernel
theorem dX8_go_35 : decode cX8_go 35 = .ok (.iload_n 2, 1) := by decide +kernel
theorem dX8_go_36 : decode cX8_go 36 = .ok (.iaload, 1) := by decide +kernel
theorem dX8_go_37 : decode cX8_go 37 = .ok (.istore_n 3, 1) := by decide +kernel
theorem dX8_go_38 : decode cX8_go 38 = .ok (.iload_n 3, 1) := by decide +kernel
theorem dX8_go_39 : decode cX8_go 39 = .ok (.sipush 999, 3) := by decide +kernel
theorem dX8_go_42 : decode cX8_go 42 = .ok (.if_icmp .ge 20, 3) := by decide +kernel
theorem dX8_go_45 : decode cX8_go 45 = .ok (.aload_n 0, 1) := by decide +kernel
theorem dX8_go_46 : decode cX8_go 46 = .ok (.getfield 39, 3) := by decide +kernel
theorem dX8_go_49 : decode cX8_go 49 = .ok (.getfield 138, 3) := by decide +kernel
theorem dX8_go_52 : decode cX8_go 52 = .ok (.iload_n 1, 1) := by decide +kernel
theorem dX8_go_53 : decode cX8_go 53 = .ok (.iaload, 1) := by decide +kernel
theorem dX8_go_54 : decode cX8_go 54 = .ok (.iload_n 3, 1) := by decide +kernel
theorem dX8_go_55 : decode cX8_go 55 = .ok (.iadd, 1) := by decide +kernel
theorem dX8_go_56 : decode cX8_go 56 = .ok (.sipush 168, 3) := by decide +kernel
theorem dX8_go_59 : decode cX8_go 59 = .ok (.if_icmp .le 5, 3) := by decide +kernel
theorem dX8_go_62 : decode cX8_go 62 = .ok (.iconst 2, 1) := by decide +kernel
theorem dX8_go_63 : decode cX8_go 63 = .ok (.ireturn, 1) := by decide +kernel
theorem dX8_go_64 : decode cX8_go 64 = .ok (.aload_n 0, 1) := by decide +kernel
theorem dX8_go_65 : decode cX8_go 65 = .ok (.getfield 39, 3) := by decide +kernel
theorem dX8_go_68 : decode cX8_go 68 = .ok (.getfield 138, 3) := by decide +kernel
theorem dX8_go_71 : decode cX8_go 71 = .ok (.iload_n 1, 1) := by decide +kernel
theorem dX8_go_72 : decode cX8_go 72 = .ok (.dup2, 1) := by decide +kernel
theorem dX8_go_73 : decode cX8_go 73 = .ok (.iaload, 1) := by decide +kernel
theorem dX8_go_74 : decode cX8_go 74 = .ok (.iload_n 3, 1) := by decide +kernel
theorem dX8_go_75 : decode cX8_go 75 = .ok (.iadd, 1) := by decide +kernel
theorem dX8_go_76 : decode cX8_go 76 = .ok (.iastore, 1) := by decide +kernel
theorem dX8_go_77 : decode cX8_go 77 = .ok (.aload_n 0, 1) := by decide +kernel
theorem dX8_go_78 : decode cX8_go 78 = .ok (.getfield 39, 3) := by decide +kernel
theorem dX8_go_81 : decode cX8_go 81 = .ok (.getfield 135, 3) := by decide +kernel
theorem dX8_go_84 : decode cX8_go 84 = .ok (.iload_n 1, 1) := by decide +kernel
theorem dX8_go_85 : decode cX8_go 85 = .ok (.iload_n 2, 1) := by decide +kernel
theorem dX8_go_86 : decode cX8_go 86 = .ok (.iastore, 1) := by decide +kernel
theorem dX8_go_87 : decode cX8_go 87 = .ok (.iconst 0, 1) := by decide +kernel
theorem dX8_go_88 : decode cX8_go 88 = .ok (.ireturn, 1) := by decide +kernel
theorem lk_oo_go (v1 : Int32) (v2 : Int32) (μ : g_St) : g_Go gC 1 yX8_go cX8_go 4 (some .int) 0 [some (.ref 0), some (.int v1), some (.int v2), none] [] μ (Option.map o_yi (oo_go v1 v2 μ)) := by
  unfold oo_go
  refine g_aload_n dX8_go_0 rfl rfl ?_
  refine g_iload_n dX8_go_1 rfl rfl ?_
  refine w_Vxi [.int _] dX8_go_2 ml_X8_125 mv_X8_isPerson mc_X8_isPerson cf_X8 ly_Own_lt ly_Own rfl (Nat.le_of_ble_eq_true rfl) (Nat.le_of_ble_eq_true rfl) (Nat.le_of_ble_eq_true rfl) rfl (co_oo_isPerson _ _) (fun x1 => ?_)
  refine w_if_eq (tgt := 16) dX8_go_5 (by decide) ?_ ?_
  · refine g_iconst dX8_go_16 ic_1 ?_
    exact w_iret dX8_go_17 rfl rfl
  · refine g_aload_n dX8_go_8 rfl rfl ?_
    refine g_iload_n dX8_go_9 rfl rfl ?_
    refine w_Vxi [.int _] dX8_go_10 ml_X8_104 mv_X8_isPlace mc_X8_isPlace cf_X8 ly_Own_lt ly_Own rfl (Nat.le_of_ble_eq_true rfl) (Nat.le_of_ble_eq_true rfl) (Nat.le_of_ble_eq_true rfl) rfl (co_oo_isPlace _ _) (fun x2 => ?_)
    refine w_if_ne (tgt := 18) dX8_go_13 (by decide) ?_ ?_
    · refine g_iconst dX8_go_16 ic_1 ?_
      exact w_iret dX8_go_17 rfl rfl
    · refine g_aload_n dX8_go_18 rfl rfl ?_
      refine w_getql dX8_go_19 cf_X8 fl_X8_19 ly_Own_lt ly_Own rfl (Nat.le_of_ble_eq_true rfl) (fun b3 hb3 => ?_)
      refine g_getS dX8_go_22 cf_X1 fl_X8_108 (ly_Land_lt hb3) (ly_Land hb3) rfl (Nat.le_of_ble_eq_true rfl) ?_
      refine g_aload_n dX8_go_25 rfl rfl ?_
      refine g_getS dX8_go_26 cf_X8 fl_X8_39 ly_Own_lt ly_Own rfl (Nat.le_of_ble_eq_true rfl) ?_
      refine g_getS dX8_go_29 cf_X7 fl_X8_135 (ly_Week_lt (Or.inl rfl)) (ly_Week (Or.inl rfl)) rfl (Nat.le_of_ble_eq_true rfl) ?_
      refine g_iload_n dX8_go_32 rfl rfl ?_
      refine w_iald dX8_go_33 (ly_Week_place_lt (Or.inl rfl)) (ly_Week_place (Or.inl rfl)) (fun x4 => ?_)
      refine w_aald4 dX8_go_34 (ly_Land_ways_lt hb3) (ly_Land_ways hb3) (fun j6 hj6 => ?_)
      refine g_iload_n dX8_go_35 rfl rfl ?_
      refine w_iald dX8_go_36 (ly_Land_ways_row_lt hb3 hj6) (ly_Land_ways_row hb3 hj6) (fun x7 => ?_)
      refine g_istore_n (lo2 := [_, _, _, _]) dX8_go_37 rfl (Nat.le_of_ble_eq_true rfl) rfl rfl ?_
      refine g_iload_n dX8_go_38 rfl rfl ?_
      refine g_sipush dX8_go_39 sp_999 ?_
      refine w_icmp_ge (tgt := 62) dX8_go_42 (by decide) ?_ ?_
      · refine g_aload_n dX8_go_45 rfl rfl ?_
        refine g_getS dX8_go_46 cf_X8 fl_X8_39 ly_Own_lt ly_Own rfl (Nat.le_of_ble_eq_true rfl) ?_
        refine g_getS dX8_go_49 cf_X7 fl_X8_138 (ly_Week_lt (Or.inl rfl)) (ly_Week (Or.inl rfl)) rfl (Nat.le_of_ble_eq_true rfl) ?_
        refine g_iload_n dX8_go_52 rfl rfl ?_
        refine w_iald dX8_go_53 (ly_Week_clock_lt (Or.inl rfl)) (ly_Week_clock (Or.inl rfl)) (fun x8 => ?_)
        refine g_iload_n dX8_go_54 rfl rfl ?_
        refine g_iadd dX8_go_55 ?_
        refine g_sipush dX8_go_56 sp_168 ?_
        refine w_icmp_le (tgt := 64) dX8_go_59 (by decide) ?_ ?_
        · refine g_iconst dX8_go_62 ic_2 ?_
          exact w_iret dX8_go_63 rfl rfl
        · refine g_aload_n dX8_go_64 rfl rfl ?_
          refine g_getS dX8_go_65 cf_X8 fl_X8_39 ly_Own_lt ly_Own rfl (Nat.le_of_ble_eq_true rfl) ?_
          refine g_getS dX8_go_68 cf_X7 fl_X8_138 (ly_Week_lt (Or.inl rfl)) (ly_Week (Or.inl rfl)) rfl (Nat.le_of_ble_eq_true rfl) ?_
          refine g_iload_n dX8_go_71 rfl rfl ?_
          refine g_dup2 dX8_go_72 ?_
          refine w_iald dX8_go_73 (ly_Week_clock_lt (Or.inl rfl)) (ly_Week_clock (Or.inl rfl)) (fun x9 => ?_)
          refine g_iload_n dX8_go_74 rfl rfl ?_
          refine g_iadd dX8_go_75 ?_
          refine w_iast dX8_go_76 (ly_Week_clock_lt (Or.inl rfl)) (ly_Week_clock (Or.inl rfl)) (fun μ10 => ?_)
          refine g_aload_n dX8_go_77 rfl rfl ?_
          refine g_getS dX8_go_78 cf_X8 fl_X8_39 ly_Own_lt ly_Own rfl (Nat.le_of_ble_eq_true rfl) ?_
          refine g_getS dX8_go_81 cf_X7 fl_X8_135 (ly_Week_lt (Or.inl rfl)) (ly_Week (Or.inl rfl)) rfl (Nat.le_of_ble_eq_true rfl) ?_
          refine g_iload_n dX8_go_84 rfl rfl ?_
          refine g_iload_n dX8_go_85 rfl rfl ?_
          refine w_iast dX8_go_86 (ly_Week_place_lt (Or.inl rfl)) (ly_Week_place (Or.inl rfl)) (fun μ11 => ?_)
          refine g_iconst dX8_go_87 ic_0 ?_
          exact w_iret dX8_go_88 rfl rfl
      · refine g_iconst dX8_go_62 ic_2 ?_
        exact w_iret dX8_go_63 rfl rfl
theorem co_oo_go (v1 : Int32) (v2 : Int32) (μ : g_St) : g_Con gC 1 yX8_go cX8_go 4 (some .int) [.ref 0, .int v1, .int v2] μ (g_yi (oo_go v1 v2 μ)) := g_conOf mc_X8_go.2.2.2.2 (Nat.le_of_ble_eq_true rfl) rfl (g_yi_rk (Or.inl rfl)) (lk_oo_go v1 v2 μ)
theorem dX8_areTwo_0 : decode cX8_areTwo 0 = .ok (.aload_n 0, 1) := by decide +kernel
theorem dX8_areTwo_1 : decode cX8_areTwo 1 = .ok (.iload_n 1, 1) := by decide +kernel
theorem dX8_areTwo_2 : decode cX8_areTwo 2 = .ok (.invokevirtual 125, 3) := by decide +kernel
theorem dX8_areTwo_5 : decode cX8_areTwo 5 = .ok (.ifCond .eq 20, 3) := by decide +kernel
theorem dX8_areTwo_8 : decode cX8_areTwo 8 = .ok (.aload_n 0, 1) := by decide +kernel
theorem dX8_areTwo_9 : decode cX8_areTwo 9 = .ok (.iload_n 2, 1) := by decide +kernel
theorem dX8_areTwo_10 : decode cX8_areTwo 10 = .ok (.invokevirtual 125, 3) := by decide +kernel
theorem dX8_areTwo_13 : decode cX8_areTwo 13 = .ok (.ifCond .eq 12, 3) := by decide +kernel
theorem dX8_areTwo_16 : decode cX8_areTwo 16 = .ok (.iload_n 1, 1) := by decide +kernel
theorem dX8_areTwo_17 : decode cX8_areTwo 17 = .ok (.iload_n 2, 1) := by decide +kernel
theorem dX8_areTwo_18 : decode cX8_areTwo 18 = .ok (.if_icmp .eq 7, 3) := by decide +kernel
theorem dX8_areTwo_21 : decode cX8_areTwo 21 = .ok (.iconst 1, 1) := by decide +kernel
theorem dX8_areTwo_22 : decode cX8_areTwo 22 = .ok (.goto 4, 3) := by decide +kernel
theorem dX8_areTwo_25 : decode cX8_areTwo 25 = .ok (.iconst 0, 1) := by decide +kernel
theorem dX8_areTwo_26 : decode cX8_areTwo 26 = .ok (.ireturn, 1) := by decide +kernel
theorem lk_oo_areTwo (μ : g_St) (v1 : Int32) (v2 : Int32) : g_Go gC 1 yX8_areTwo cX8_areTwo 3 (some .boolean) 0 [some (.ref 0), some (.int v1), some (.int v2)] [] μ (Option.map (o_i μ) (oo_areTwo μ v1 v2)) := by
  unfold oo_areTwo
  refine g_aload_n dX8_areTwo_0 rfl rfl ?_
  refine g_iload_n dX8_areTwo_1 rfl rfl ?_
  refine w_Vxi [.int _] dX8_areTwo_2 ml_X8_125 mv_X8_isPerson mc_X8_isPerson cf_X8 ly_Own_lt ly_Own rfl (Nat.le_of_ble_eq_true rfl) (Nat.le_of_ble_eq_true rfl) (Nat.le_of_ble_eq_true rfl) rfl (co_oo_isPerson _ _) (fun x1 => ?_)
  refine w_if_eq (tgt := 25) dX8_areTwo_5 (by decide) ?_ ?_
  · refine g_iconst dX8_areTwo_25 ic_0 ?_
    exact w_iret dX8_areTwo_26 (by decide) rfl
  · refine g_aload_n dX8_areTwo_8 rfl rfl ?_
    refine g_iload_n dX8_areTwo_9 rfl rfl ?_
    refine w_Vxi [.int _] dX8_areTwo_10 ml_X8_125 mv_X8_isPerson mc_X8_isPerson cf_X8 ly_Own_lt ly_Own rfl (Nat.le_of_ble_eq_true rfl) (Nat.le_of_ble_eq_true rfl) (Nat.le_of_ble_eq_true rfl) rfl (co_oo_isPerson _ _) (fun x2 => ?_)
    refine w_if_eq (tgt := 25) dX8_areTwo_13 (by decide) ?_ ?_
    · refine g_iconst dX8_areTwo_25 ic_0 ?_
      exact w_iret dX8_areTwo_26 (by decide) rfl
    · refine g_iload_n dX8_areTwo_16 rfl rfl ?_
      refine g_iload_n dX8_areTwo_17 rfl rfl ?_
      refine w_icmp_eq (tgt := 25) dX8_areTwo_18 (by decide) ?_ ?_
      · refine g_iconst dX8_areTwo_25 ic_0 ?_
        exact w_iret dX8_areTwo_26 (by decide) rfl
      · refine g_iconst dX8_areTwo_21 ic_1 ?_
        refine g_goto (tgt := 26) dX8_areTwo_22 (by decide) ?_
        exact w_iret dX8_areTwo_26 (by decide) rfl
theorem co_oo_areTwo (μ : g_St) (v1 : Int32) (v2 : Int32) : g_Con gC 1 yX8_areTwo cX8_areTwo 3 (some .boolean) [.ref 0, .int v1, .int v2] μ (g_xi μ (oo_areTwo μ v1 v2)) := g_conOf mc_X8_areTwo.2.2.2.2 (Nat.le_of_ble_eq_true rfl) rfl (g_xi_rk (Or.inr (Or.inl rfl))) (lk_oo_areTwo μ v1 v2)
theorem dX8_isThing_0 : decode cX8_isThing 0 = .ok (.iload_n 1, 1) := by decide +kernel
theorem dX8_isThing_1 : decode cX8_isThing 1 = .ok (.ifCond .lt 18, 3) := by decide +kernel
theorem dX8_isThing_4 : decode cX8_isThing 4 = .ok (.iload_n 1, 1) := by decide +kernel
theorem dX8_isThing_5 : decode cX8_isThing 5 = .ok (.aload_n 0, 1) := by decide +kernel
theorem dX8_isThing_6 : decode cX8_isThing 6 = .ok (.getfield 39, 3) := by decide +kernel
theorem dX8_isThing_9 : decode cX8_isThing 9 = .ok (.getfield 158, 3) := by decide +kernel
theorem dX8_isThing_12 : decode cX8_isThing 12 = .ok (.if_icmp .ge 7, 3) := by decide +kernel
theorem dX8_isThing_15 : decode cX8_isThing 15 = .ok (.iconst 1, 1) := by decide +kernel
theorem dX8_isThing_16 : decode cX8_isThing 16 = .ok (.goto 4, 3) := by decide +kernel
theorem dX8_isThing_19 : decode cX8_isThing 19 = .ok (.iconst 0, 1) := by decide +kernel
theorem dX8_isThing_20 : decode cX8_isThing 20 = .ok (.ireturn, 1) := by decide +kernel
theorem lk_oo_isThing (μ : g_St) (v1 : Int32) : g_Go gC 0 yX8_isThing cX8_isThing 2 (some .boolean) 0 [some (.ref 0), some (.int v1)] [] μ (Option.map (o_i μ) (oo_isThing μ v1)) := by
  unfold oo_isThing
  refine g_iload_n dX8_isThing_0 rfl rfl ?_
  refine w_if_lt (tgt := 19) dX8_isThing_1 (by decide) ?_ ?_
  · refine g_iload_n dX8_isThing_4 rfl rfl ?_
    refine g_aload_n dX8_isThing_5 rfl rfl ?_
    refine g_getS dX8_isThing_6 cf_X8 fl_X8_39 ly_Own_lt ly_Own rfl (Nat.le_of_ble_eq_true rfl) ?_
    refine g_getI dX8_isThing_9 cf_X7 fl_X8_158 (ly_Week_lt (Or.inl rfl)) (ly_Week (Or.inl rfl)) rfl (Nat.le_of_ble_eq_true rfl) ?_
    refine w_icmp_ge (tgt := 19) dX8_isThing_12 (by decide) ?_ ?_
    · refine g_iconst dX8_isThing_15 ic_1 ?_
      refine g_goto (tgt := 20) dX8_isThing_16 (by decide) ?_
      exact w_iret dX8_isThing_20 (by decide) rfl
    · refine g_iconst dX8_isThing_19 ic_0 ?_
      exact w_iret dX8_isThing_20 (by decide) rfl
  · refine g_iconst dX8_isThing_19 ic_0 ?_
    exact w_iret dX8_isThing_20 (by decide) rfl
theorem co_oo_isThing (μ : g_St) (v1 : Int32) : g_Con gC 0 yX8_isThing cX8_isThing 2 (some .boolean) [.ref 0, .int v1] μ (g_xi μ (oo_isThing μ v1)) := g_conOf mc_X8_isThing.2.2.2.2 (Nat.le_of_ble_eq_true rfl) rfl (g_xi_rk (Or.inr (Or.inl rfl))) (lk_oo_isThing μ v1)
theorem dX8_fillFacts_0 : decode cX8_fillFacts 0 = .ok (.aload_n 0, 1) := by decide +kernel
theorem dX8_fillFacts_1 : decode cX8_fillFacts 1 = .ok (.getfield 47, 3) := by decide +kernel
theorem dX8_fillFacts_4 : decode cX8_fillFacts 4 = .ok (.bipush 14, 2) := by decide +kernel
theorem dX8_fillFacts_6 : decode cX8_fillFacts 6 = .ok (.iconst 1, 1) := by decide +kernel
theorem dX8_fillFacts_7 : decode cX8_fillFacts 7 = .ok (.iastore, 1) := by decide +kernel
theorem dX8_fillFacts_8 : decode cX8_fillFacts 8 = .ok (.aload_n 0, 1) := by decide +kernel
theorem dX8_fillFacts_9 : decode cX8_fillFacts 9 = .ok (.getfield 47, 3) := by decide +kernel
theorem dX8_fillFacts_12 : decode cX8_fillFacts 12 = .ok (.bipush 15, 2) := by decide +kernel
theorem dX8_fillFacts_14 : decode cX8_fillFacts 14 = .ok (.iconst 1, 1) := by decide +kernel
theorem dX8_fillFacts_15 : decode cX8_fillFacts 15 = .ok (.iastore, 1) := by decide +kernel
theorem dX8_fillFacts_16 : decode cX8_fillFacts 16 = .ok (.aload_n 0, 1) := by decide +kernel
theorem dX8_fillFacts_17 : decode cX8_fillFacts 17 = .ok (.getfield 47, 3) := by decide +kernel
theorem dX8_fillFacts_20 : decode cX8_fillFacts 20 = .ok (.bipush 16, 2) := by decide +kernel
theorem dX8_fillFacts_22 : decode cX8_fillFacts 22 = .ok (.iconst 0, 1) := by decide +kernel
theorem dX8_fillFacts_23 : decode cX8_fillFacts 23 = .ok (.iastore, 1) := by decide +kernel
theorem dX8_fillFacts_24 : decode cX8_fillFacts 24 = .ok (.aload_n 0, 1) := by decide +kernel
theorem dX8_fillFacts_25 : decode cX8_fillFacts 25 = .ok (.getfield 47, 3) := by decide +kernel
theorem dX8_fillFacts_28 : decode cX8_fillFacts 28 = .ok (.bipush 17, 2) := by decide +kernel
theorem dX8_fillFacts_30 : decode cX8_fillFacts 30 = .ok (.iload 4, 2) := by decide +kernel
theorem dX8_fillFacts_32 : decode cX8_fillFacts 32 = .ok (.iload_n 1, 1) := by decide +kernel
theorem dX8_fillFacts_33 : decode cX8_fillFacts 33 = .ok (.ishr, 1) := by decide +kernel
theorem dX8_fillFacts_34 : decode cX8_fillFacts 34 = .ok (.iconst 1, 1) := by decide +kernel
theorem dX8_fillFacts_35 : decode cX8_fillFacts 35 = .ok (.iand, 1) := by decide +kernel
theorem dX8_fillFacts_36 : decode cX8_fillFacts 36 = .ok (.iastore, 1) := by decide +kernel
theorem dX8_fillFacts_37 : decode cX8_fillFacts 37 = .ok (.aload_n 0, 1) := by decide +kernel
theorem dX8_fillFacts_38 : decode cX8_fillFacts 38 = .ok (.getfield 47, 3) := by decide +kernel
theorem dX8_fillFacts_41 : decode cX8_fillFacts 41 = .ok (.iconst 3, 1) := by decide +kernel
theorem dX8_fillFacts_42 : decode cX8_fillFacts 42 = .ok (.aload_n 0, 1) := by decide +kernel
theorem dX8_fillFacts_43 : decode cX8_fillFacts 43 = .ok (.getfield 19, 3) := by decide +kernel
theorem dX8_fillFacts_46 : decode cX8_fillFacts 46 = .ok (.getfield 115, 3) := by decide +kernel
theorem dX8_fillFacts_49 : decode cX8_fillFacts 49 = .ok (.iload_n 3, 1) := by decide +kernel
theorem dX8_fillFacts_50 : decode cX8_fillFacts 50 = .ok (.iaload, 1) := by decide +kernel
theorem dX8_fillFacts_51 : decode cX8_fillFacts 51 = .ok (.iastore, 1) := by decide +kernel
theorem dX8_fillFacts_52 : decode cX8_fillFacts 52 = .ok (.aload_n 0, 1) := by decide +kernel
theorem dX8_fillFacts_53 : decode cX8_fillFacts 53 = .ok (.getfield 47, 3) := by decide +kernel
theorem dX8_fillFacts_56 : decode cX8_fillFacts 56 = .ok (.bipush 18, 2) := by decide +kernel
theorem dX8_fillFacts_58 : decode cX8_fillFacts 58 = .ok (.aload_n 0, 1) := by decide +kernel
theorem dX8_fillFacts_59 : decode cX8_fillFacts 59 = .ok (.getfield 19, 3) := by decide +kernel
theorem dX8_fillFacts_62 : decode cX8_fillFacts 62 = .ok (.iload_n 1, 1) := by decide +kernel
theorem dX8_fillFacts_63 : decode cX8_fillFacts 63 = .ok (.iload_n 2, 1) := by decide +kernel
theorem dX8_fillFacts_64 : decode cX8_fillFacts 64 = .ok (.invokevirtual 353, 3) := by decide +kernel
theorem dX8_fillFacts_67 : decode cX8_fillFacts 67 = .ok (.iastore, 1) := by decide +kernel
theorem dX8_fillFacts_68 : decode cX8_fillFacts 68 = .ok (.aload_n 0, 1) := by decide +kernel
theorem dX8_fillFacts_69 : decode cX8_fillFacts 69 = .ok (.getfield 47, 3) := by decide +kernel
theorem dX8_fillFacts_72 : decode cX8_fillFacts 72 = .ok (.iconst 2, 1) := by decide +kernel
theorem dX8_fillFacts_73 : decode cX8_fillFacts 73 = .ok (.iload_n 3, 1) := by decide +kernel
theorem dX8_fillFacts_74 : decode cX8_fillFacts 74 = .ok (.iastore, 1) := by decide +kernel
theorem dX8_fillFacts_75 : decode cX8_fillFacts 75 = .ok (.aload_n 0, 1) := by decide +kernel
theorem dX8_fillFacts_76 : decode cX8_fillFacts 76 = .ok (.getfield 47, 3) := by decide +kernel
theorem dX8_fillFacts_79 : decode cX8_fillFacts 79 = .ok (.bipush 19, 2) := by decide +kernel
theorem dX8_fillFacts_81 : decode cX8_fillFacts 81 = .ok (.iload 5, 2) := by decide +kernel
theorem dX8_fillFacts_83 : decode cX8_fillFacts 83 = .ok (.iload_n 3, 1) := by decide +kernel
theorem dX8_fillFacts_84 : decode cX8_fillFacts 84 = .ok (.ishr, 1) := by decide +kernel
theorem dX8_fillFacts_85 : decode cX8_fillFacts 85 = .ok (.iconst 1, 1) := by decide +kernel
theorem dX8_fillFacts_86 : decode cX8_fillFacts 86 = .ok (.iand, 1) := by decide +kernel
theorem dX8_fillFacts_87 : decode cX8_fillFacts 87 = .ok (.iastore, 1) := by decide +kernel
theorem dX8_fillFacts_88 : decode cX8_fillFacts 88 = .ok (.return_, 1) := by decide +kernel
theorem lk_oo_fillFacts (v1 : Int32) (v2 : Int32) (v3 : Int32) (v4 : Int32) (v5 : Int32) (μ : g_St) : g_Go gC 1 yX8_fillFacts cX8_fillFacts 6 (none : Option Jvm.ClassFile.FieldType) 0 [some (.ref 0), some (.int v1), some (.int v2), some (.int v3), some (.int v4), some (.int v5)] [] μ (Option.map o_yv (oo_fillFacts v1 v2 v3 v4 v5 μ)) := by
  unfold oo_fillFacts
  refine g_aload_n dX8_fillFacts_0 rfl rfl ?_
  refine g_getS dX8_fillFacts_1 cf_X8 fl_X8_47 ly_Own_lt ly_Own rfl (Nat.le_of_ble_eq_true rfl) ?_
  refine g_bipush dX8_fillFacts_4 bp_14 ?_
  refine g_iconst dX8_fillFacts_6 ic_1 ?_
  refine w_iast dX8_fillFacts_7 ly_Own_facts_lt ly_Own_facts (fun μ1 => ?_)
  refine g_aload_n dX8_fillFacts_8 rfl rfl ?_
  refine g_getS dX8_fillFacts_9 cf_X8 fl_X8_47 ly_Own_lt ly_Own rfl (Nat.le_of_ble_eq_true rfl) ?_
  refine g_bipush dX8_fillFacts_12 bp_15 ?_
  refine g_iconst dX8_fillFacts_14 ic_1 ?_
  refine w_iast dX8_fillFacts_15 ly_Own_facts_lt ly_Own_facts (fun μ2 => ?_)
  refine g_aload_n dX8_fillFacts_16 rfl rfl ?_
  refine g_getS dX8_fillFacts_17 cf_X8 fl_X8_47 ly_Own_lt ly_Own rfl (Nat.le_of_ble_eq_true rfl) ?_
  refine g_bipush dX8_fillFacts_20 bp_16 ?_
  refine g_iconst dX8_fillFacts_22 ic_0 ?_
  refine w_iast dX8_fillFacts_23 ly_Own_facts_lt ly_Own_facts (fun μ3 => ?_)
  refine g_aload_n dX8_fillFacts_24 rfl rfl ?_
  refine g_getS dX8_fillFacts_25 cf_X8 fl_X8_47 ly_Own_lt ly_Own rfl (Nat.le_of_ble_eq_true rfl) ?_
  refine g_bipush dX8_fillFacts_28 bp_17 ?_
  refine g_iload dX8_fillFacts_30 rfl ?_
  refine g_iload_n dX8_fillFacts_32 rfl rfl ?_
  refine g_ishr dX8_fillFacts_33 ?_
  refine g_iconst dX8_fillFacts_34 ic_1 ?_
  refine g_iand dX8_fillFacts_35 ?_
  refine w_iast dX8_fillFacts_36 ly_Own_facts_lt ly_Own_facts (fun μ4 => ?_)
  refine g_aload_n dX8_fillFacts_37 rfl rfl ?_
  refine g_getS dX8_fillFacts_38 cf_X8 fl_X8_47 ly_Own_lt ly_Own rfl (Nat.le_of_ble_eq_true rfl) ?_
  refine g_iconst dX8_fillFacts_41 ic_3 ?_
  refine g_aload_n dX8_fillFacts_42 rfl rfl ?_
  refine w_getql dX8_fillFacts_43 cf_X8 fl_X8_19 ly_Own_lt ly_Own rfl (Nat.le_of_ble_eq_true rfl) (fun b5 hb5 => ?_)
  refine g_getS dX8_fillFacts_46 cf_X1 fl_X8_115 (ly_Land_lt hb5) (ly_Land hb5) rfl (Nat.le_of_ble_eq_true rfl) ?_
  refine g_iload_n dX8_fillFacts_49 rfl rfl ?_
  refine w_iald dX8_fillFacts_50 (ly_Land_hours_lt hb5) (ly_Land_hours hb5) (fun x6 => ?_)
  refine w_iast dX8_fillFacts_51 ly_Own_facts_lt ly_Own_facts (fun μ7 => ?_)
  refine g_aload_n dX8_fillFacts_52 rfl rfl ?_
  refine g_getS dX8_fillFacts_53 cf_X8 fl_X8_47 ly_Own_lt ly_Own rfl (Nat.le_of_ble_eq_true rfl) ?_
  refine g_bipush dX8_fillFacts_56 bp_18 ?_
  refine g_aload_n dX8_fillFacts_58 rfl rfl ?_
  refine w_getql dX8_fillFacts_59 cf_X8 fl_X8_19 ly_Own_lt ly_Own rfl (Nat.le_of_ble_eq_true rfl) (fun b8 hb8 => ?_)
  refine g_iload_n dX8_fillFacts_62 rfl rfl ?_
  refine g_iload_n dX8_fillFacts_63 rfl rfl ?_
  refine w_Vxi [.int _, .int _] dX8_fillFacts_64 ml_X8_353 mv_X1_away mc_X1_away cf_X1 (ly_Land_lt hb8) (ly_Land hb8) rfl (Nat.le_of_ble_eq_true rfl) (Nat.le_of_ble_eq_true rfl) (Nat.le_of_ble_eq_true rfl) rfl (co_ol_away _ hb8 _ _ _) (fun x9 => ?_)
  refine w_iast dX8_fillFacts_67 ly_Own_facts_lt ly_Own_facts (fun μ10 => ?_)
  refine g_aload_n dX8_fillFacts_68 rfl rfl ?_
  refine g_getS dX8_fillFacts_69 cf_X8 fl_X8_47 ly_Own_lt ly_Own rfl (Nat.le_of_ble_eq_true rfl) ?_
  refine g_iconst dX8_fillFacts_72 ic_2 ?_
  refine g_iload_n dX8_fillFacts_73 rfl rfl ?_
  refine w_iast dX8_fillFacts_74 ly_Own_facts_lt ly_Own_facts (fun μ11 => ?_)
  refine g_aload_n dX8_fillFacts_75 rfl rfl ?_
  refine g_getS dX8_fillFacts_76 cf_X8 fl_X8_47 ly_Own_lt ly_Own rfl (Nat.le_of_ble_eq_true rfl) ?_
  refine g_bipush dX8_fillFacts_79 bp_19 ?_
  refine g_iload dX8_fillFacts_81 rfl ?_
  refine g_iload_n dX8_fillFacts_83 rfl rfl ?_
  refine g_ishr dX8_fillFacts_84 ?_
  refine g_iconst dX8_fillFacts_85 ic_1 ?_
  refine g_iand dX8_fillFacts_86 ?_
  refine w_iast dX8_fillFacts_87 ly_Own_facts_lt ly_Own_facts (fun μ12 => ?_)
  exact w_vret dX8_fillFacts_88 rfl rfl
theorem co_oo_fillFacts (v1 : Int32) (v2 : Int32) (v3 : Int32) (v4 : Int32) (v5 : Int32) (μ : g_St) : g_Con gC 1 yX8_fillFacts cX8_fillFacts 6 (none : Option Jvm.ClassFile.FieldType) [.ref 0, .int v1, .int v2, .int v3, .int v4, .int v5] μ (g_yv (oo_fillFacts v1 v2 v3 v4 v5 μ)) := g_conOf mc_X8_fillFacts.2.2.2.2 (Nat.le_of_ble_eq_true rfl) rfl g_yv_rk (lk_oo_fillFacts v1 v2 v3 v4 v5 μ)
theorem dX8_isLawful_0 : decode cX8_isLawful 0 = .ok (.aload_n 0, 1) := by decide +kernel
theorem dX8_isLawful_1 : decode cX8_isLawful 1 = .ok (.getfield 39, 3) := by decide +kernel
theorem dX8_isLawful_4 : decode cX8_isLawful 4 = .ok (.getfield 192, 3) := by decide +kernel
theorem dX8_isLawful_7 : decode cX8_isLawful 7 = .ok (.iload_n 3, 1) := by decide +kernel
theorem dX8_isLawful_8 : decode cX8_isLawful 8 = .ok (.iaload, 1) := by decide +kernel
theorem dX8_isLawful_9 : decode cX8_isLawful 9 = .ok (.istore 6, 2) := by decide +kernel
theorem dX8_isLawful_11 : decode cX8_isLawful 11 = .ok (.aload_n 0, 1) := by decide +kernel
theorem dX8_isLawful_12 : decode cX8_isLawful 12 = .ok (.iload_n 1, 1) := by decide +kernel
theorem dX8_isLawful_13 : decode cX8_isLawful 13 = .ok (.iload_n 2, 1) := by decide +kernel
theorem dX8_isLawful_14 : decode cX8_isLawful 14 = .ok (.iload 6, 2) := by decide +kernel
theorem dX8_isLawful_16 : decode cX8_isLawful 16 = .ok (.iload 4, 2) := by decide +kernel
theorem dX8_isLawful_18 : decode cX8_isLawful 18 = .ok (.iload 5, 2) := by decide +kernel
theorem dX8_isLawful_20 : decode cX8_isLawful 20 = .ok (.invokevirtual 346, 3) := by decide +kernel
theorem dX8_isLawful_23 : decode cX8_isLawful 23 = .ok (.aload_n 0, 1) := by decide +kernel
theorem dX8_isLawful_24 : decode cX8_isLawful 24 = .ok (.getfield 39, 3) := by decide +kernel
theorem dX8_isLawful_27 : decode cX8_isLawful 27 = .ok (.getfield 198, 3) := by decide +kernel
theorem dX8_isLawful_30 : decode cX8_isLawful 30 = .ok (.iload_n 3, 1) := by decide +kernel
theorem dX8_isLawful_31 : decode cX8_isLawful 31 = .ok (.iaload, 1) := by decide +kernel
theorem dX8_isLawful_32 : decode cX8_isLawful 32 = .ok (.istore 7, 2) := by decide +kernel
theorem dX8_isLawful_34 : decode cX8_isLawful 34 = .ok (.aload_n 0, 1) := by decide +kernel
theorem dX8_isLawful_35 : decode cX8_isLawful 35 = .ok (.getfield 47, 3) := by decide +kernel
theorem dX8_isLawful_38 : decode cX8_isLawful 38 = .ok (.bipush 14, 2) := by decide +kernel
theorem dX8_isLawful_40 : decode cX8_isLawful 40 = .ok (.iload 7, 2) := by decide +kernel
theorem dX8_isLawful_42 : decode cX8_isLawful 42 = .ok (.iconst 1, 1) := by decide +kernel
theorem dX8_isLawful_43 : decode cX8_isLawful 43 = .ok (.iload_n 1, 1) := by decide +kernel
theorem dX8_isLawful_44 : decode cX8_isLawful 44 = .ok (.ishl, 1) := by decide +kernel
theorem dX8_isLawful_45 : decode cX8_isLawful 45 = .ok (.if_icmp .ne 7, 3) := by decide +kernel
theorem dX8_isLawful_48 : decode cX8_isLawful 48 = .ok (.iconst 1, 1) := by decide +kernel
theorem dX8_isLawful_49 : decode cX8_isLawful 49 = .ok (.goto 4, 3) := by decide +kernel
theorem dX8_isLawful_52 : decode cX8_isLawful 52 = .ok (.iconst 0, 1) := by decide +kernel
theorem dX8_isLawful_53 : decode cX8_isLawful 53 = .ok (.iastore, 1) := by decide +kernel
theorem dX8_isLawful_54 : decode cX8_isLawful 54 = .ok (.aload_n 0, 1) := by decide +kernel
theorem dX8_isLawful_55 : decode cX8_isLawful 55 = .ok (.getfield 47, 3) := by decide +kernel
theorem dX8_isLawful_58 : decode cX8_isLawful 58 = .ok (.bipush 15, 2) := by decide +kernel
theorem dX8_isLawful_60 : decode cX8_isLawful 60 = .ok (.iload 7, 2) := by decide +kernel
theorem dX8_isLawful_62 : decode cX8_isLawful 62 = .ok (.iload_n 1, 1) := by decide +kernel
theorem dX8_isLawful_63 : decode cX8_isLawful 63 = .ok (.ishr, 1) := by decide +kernel
theorem dX8_isLawful_64 : decode cX8_isLawful 64 = .ok (.iconst 1, 1) := by decide +kernel
theorem dX8_isLawful_65 : decode cX8_isLawful 65 = .ok (.iand, 1) := by decide +kernel
theorem dX8_isLawful_66 : decode cX8_isLawful 66 = .ok (.iastore, 1) := by decide +kernel
theorem dX8_isLawful_67 : decode cX8_isLawful 67 = .ok (.aload_n 0, 1) := by decide +kernel
theorem dX8_isLawful_68 : decode cX8_isLawful 68 = .ok (.getfield 47, 3) := by decide +kernel
theorem dX8_isLawful_71 : decode cX8_isLawful 71 = .ok (.bipush 16, 2) := by decide +kernel
theorem dX8_isLawful_73 : decode cX8_isLawful 73 = .ok (.aload_n 0, 1) := by decide +kernel
theorem dX8_isLawful_74 : decode cX8_isLawful 74 = .ok (.getfield 39, 3) := by decide +kernel
theorem dX8_isLawful_77 : decode cX8_isLawful 77 = .ok (.getfield 195, 3) := by decide +kernel
theorem dX8_isLawful_80 : decode cX8_isLawful 80 = .ok (.iload_n 3, 1) := by decide +kernel
theorem dX8_isLawful_81 : decode cX8_isLawful 81 = .ok (.iaload, 1) := by decide +kernel
theorem dX8_isLawful_82 : decode cX8_isLawful 82 = .ok (.iastore, 1) := by decide +kernel
theorem dX8_isLawful_83 : decode cX8_isLawful 83 = .ok (.aload_n 0, 1) := by decide +kernel
theorem dX8_isLawful_84 : decode cX8_isLawful 84 = .ok (.getfield 29, 3) := by decide +kernel
theorem dX8_isLawful_87 : decode cX8_isLawful 87 = .ok (.aload_n 0, 1) := by decide +kernel
theorem dX8_isLawful_88 : decode cX8_isLawful 88 = .ok (.getfield 47, 3) := by decide +kernel
theorem dX8_isLawful_91 : decode cX8_isLawful 91 = .ok (.invokevirtual 349, 3) := by decide +kernel
theorem dX8_isLawful_94 : decode cX8_isLawful 94 = .ok (.ireturn, 1) := by decide +kernel
theorem lk_oo_isLawful_53 (F : Nat) (v1 : Int32) (v3 : Int32) (v7 : Int32) (s0 : Int32) (s1 : Int32) (μ : g_St) : g_Go gC 3 yX8_isLawful cX8_isLawful 8 (some .boolean) 53 [some (.ref 0), some (.int v1), none, some (.int v3), none, none, none, some (.int v7)] [.int s0, .int s1, .ref 70] μ (Option.map o_yi (oo_isLawful_53 F v1 v3 v7 s0 s1 μ)) := by
  unfold oo_isLawful_53
  refine w_iast dX8_isLawful_53 ly_Own_facts_lt ly_Own_facts (fun μ4 => ?_)
  refine g_aload_n dX8_isLawful_54 rfl rfl ?_
  refine g_getS dX8_isLawful_55 cf_X8 fl_X8_47 ly_Own_lt ly_Own rfl (Nat.le_of_ble_eq_true rfl) ?_
  refine g_bipush dX8_isLawful_58 bp_15 ?_
  refine g_iload dX8_isLawful_60 rfl ?_
  refine g_iload_n dX8_isLawful_62 rfl rfl ?_
  refine g_ishr dX8_isLawful_63 ?_
  refine g_iconst dX8_isLawful_64 ic_1 ?_
  refine g_iand dX8_isLawful_65 ?_
  refine w_iast dX8_isLawful_66 ly_Own_facts_lt ly_Own_facts (fun μ5 => ?_)
  refine g_aload_n dX8_isLawful_67 rfl rfl ?_
  refine g_getS dX8_isLawful_68 cf_X8 fl_X8_47 ly_Own_lt ly_Own rfl (Nat.le_of_ble_eq_true rfl) ?_
  refine g_bipush dX8_isLawful_71 bp_16 ?_
  refine g_aload_n dX8_isLawful_73 rfl rfl ?_
  refine g_getS dX8_isLawful_74 cf_X8 fl_X8_39 ly_Own_lt ly_Own rfl (Nat.le_of_ble_eq_true rfl) ?_
  refine g_getS dX8_isLawful_77 cf_X7 fl_X8_195 (ly_Week_lt (Or.inl rfl)) (ly_Week (Or.inl rfl)) rfl (Nat.le_of_ble_eq_true rfl) ?_
  refine g_iload_n dX8_isLawful_80 rfl rfl ?_
  refine w_iald dX8_isLawful_81 (ly_Week_sort_lt (Or.inl rfl)) (ly_Week_sort (Or.inl rfl)) (fun x6 => ?_)
  refine w_iast dX8_isLawful_82 ly_Own_facts_lt ly_Own_facts (fun μ7 => ?_)
  refine g_aload_n dX8_isLawful_83 rfl rfl ?_
  refine w_getqr dX8_isLawful_84 cf_X8 fl_X8_29 ly_Own_lt ly_Own rfl (Nat.le_of_ble_eq_true rfl) (fun b8 hb8 => ?_)
  refine g_aload_n dX8_isLawful_87 rfl rfl ?_
  refine g_getS dX8_isLawful_88 cf_X8 fl_X8_47 ly_Own_lt ly_Own rfl (Nat.le_of_ble_eq_true rfl) ?_
  refine w_Vyi [.ref _] dX8_isLawful_91 ml_X8_349 mv_X4_allows mc_X4_allows cf_X4 (ly_Rule_lt hb8) (ly_Rule hb8) rfl (Nat.le_of_ble_eq_true rfl) (Nat.le_of_ble_eq_true rfl) (Nat.le_of_ble_eq_true rfl) rfl (co_ou_allows F _ hb8 _) (fun q9 => ?_)
  exact w_zret dX8_isLawful_94 rfl rfl
theorem lk_oo_isLawful (F : Nat) (v1 : Int32) (v2 : Int32) (v3 : Int32) (v4 : Int32) (v5 : Int32) (μ : g_St) : g_Go gC 3 yX8_isLawful cX8_isLawful 8 (some .boolean) 0 [some (.ref 0), some (.int v1), some (.int v2), some (.int v3), some (.int v4), some (.int v5), none, none] [] μ (Option.map o_yi (oo_isLawful F v1 v2 v3 v4 v5 μ)) := by
  unfold oo_isLawful
  refine g_aload_n dX8_isLawful_0 rfl rfl ?_
  refine g_getS dX8_isLawful_1 cf_X8 fl_X8_39 ly_Own_lt ly_Own rfl (Nat.le_of_ble_eq_true rfl) ?_
  refine g_getS dX8_isLawful_4 cf_X7 fl_X8_192 (ly_Week_lt (Or.inl rfl)) (ly_Week (Or.inl rfl)) rfl (Nat.le_of_ble_eq_true rfl) ?_
  refine g_iload_n dX8_isLawful_7 rfl rfl ?_
  refine w_iald dX8_isLawful_8 (ly_Week_good_lt (Or.inl rfl)) (ly_Week_good (Or.inl rfl)) (fun x1 => ?_)
  refine g_istore (lo2 := [_, _, _, _, _, _, _, _]) dX8_isLawful_9 (Nat.le_of_ble_eq_true rfl) rfl rfl ?_
  refine g_aload_n dX8_isLawful_11 rfl rfl ?_
  refine g_iload_n dX8_isLawful_12 rfl rfl ?_
  refine g_iload_n dX8_isLawful_13 rfl rfl ?_
  refine g_iload dX8_isLawful_14 rfl ?_
  refine g_iload dX8_isLawful_16 rfl ?_
  refine g_iload dX8_isLawful_18 rfl ?_
  refine w_Vyv [.int _, .int _, .int _, .int _, .int _] dX8_isLawful_20 ml_X8_346 mv_X8_fillFacts mc_X8_fillFacts cf_X8 ly_Own_lt ly_Own rfl (Nat.le_of_ble_eq_true rfl) (Nat.le_of_ble_eq_true rfl) (Nat.le_of_ble_eq_true rfl) rfl (co_oo_fillFacts _ _ _ _ _ _) (fun μ2 => ?_)
  refine g_aload_n dX8_isLawful_23 rfl rfl ?_
  refine g_getS dX8_isLawful_24 cf_X8 fl_X8_39 ly_Own_lt ly_Own rfl (Nat.le_of_ble_eq_true rfl) ?_
  refine g_getS dX8_isLawful_27 cf_X7 fl_X8_198 (ly_Week_lt (Or.inl rfl)) (ly_Week (Or.inl rfl)) rfl (Nat.le_of_ble_eq_true rfl) ?_
  refine g_iload_n dX8_isLawful_30 rfl rfl ?_
  refine w_iald dX8_isLawful_31 (ly_Week_makers_lt (Or.inl rfl)) (ly_Week_makers (Or.inl rfl)) (fun x3 => ?_)
  refine g_istore (lo2 := [_, _, _, _, _, _, _, _]) dX8_isLawful_32 (Nat.le_of_ble_eq_true rfl) rfl rfl ?_
  refine g_aload_n dX8_isLawful_34 rfl rfl ?_
  refine g_getS dX8_isLawful_35 cf_X8 fl_X8_47 ly_Own_lt ly_Own rfl (Nat.le_of_ble_eq_true rfl) ?_
  refine g_bipush dX8_isLawful_38 bp_14 ?_
  refine g_iload dX8_isLawful_40 rfl ?_
  refine g_iconst dX8_isLawful_42 ic_1 ?_
  refine g_iload_n dX8_isLawful_43 rfl rfl ?_
  refine g_ishl dX8_isLawful_44 ?_
  refine w_icmp_ne (tgt := 52) dX8_isLawful_45 (by decide) ?_ ?_
  · refine g_iconst dX8_isLawful_48 ic_1 ?_
    refine g_goto (tgt := 53) dX8_isLawful_49 (by decide) ?_
    exact g_to (lk_oo_isLawful_53 F _ _ _ _ _ _) (su_s (su_s (su_n (su_s (su_n (su_n (su_n (su_s su_0))))))))
  · refine g_iconst dX8_isLawful_52 ic_0 ?_
    exact g_to (lk_oo_isLawful_53 F _ _ _ _ _ _) (su_s (su_s (su_n (su_s (su_n (su_n (su_n (su_s su_0))))))))
theorem co_oo_isLawful (F : Nat) (v1 : Int32) (v2 : Int32) (v3 : Int32) (v4 : Int32) (v5 : Int32) (μ : g_St) : g_Con gC 3 yX8_isLawful cX8_isLawful 8 (some .boolean) [.ref 0, .int v1, .int v2, .int v3, .int v4, .int v5] μ (g_yi (oo_isLawful F v1 v2 v3 v4 v5 μ)) := g_conOf mc_X8_isLawful.2.2.2.2 (Nat.le_of_ble_eq_true rfl) rfl (g_yi_rk (Or.inr (Or.inl rfl))) (lk_oo_isLawful F v1 v2 v3 v4 v5 μ)
theorem dX8_isLawfulNow_0 : decode cX8_isLawfulNow 0 = .ok (.aload_n 0, 1) := by decide +kernel
theorem dX8_isLawfulNow_1 : decode cX8_isLawfulNow 1 = .ok (.getfield 39, 3) := by decide +kernel
theorem dX8_isLawfulNow_4 : decode cX8_isLawfulNow 4 = .ok (.getfield 135, 3) := by decide +kernel
theorem dX8_isLawfulNow_7 : decode cX8_isLawfulNow 7 = .ok (.iload_n 1, 1) := by decide +kernel
theorem dX8_isLawfulNow_8 : decode cX8_isLawfulNow 8 = .ok (.iaload, 1) := by decide +kernel
theorem dX8_isLawfulNow_9 : decode cX8_isLawfulNow 9 = .ok (.aload_n 0, 1) := by decide +kernel
theorem dX8_isLawfulNow_10 : decode cX8_isLawfulNow 10 = .ok (.getfield 19, 3) := by decide +kernel
theorem dX8_isLawfulNow_13 : decode cX8_isLawfulNow 13 = .ok (.getfield 132, 3) := by decide +kernel
theorem dX8_isLawfulNow_16 : decode cX8_isLawfulNow 16 = .ok (.iload_n 1, 1) := by decide +kernel
theorem dX8_isLawfulNow_17 : decode cX8_isLawfulNow 17 = .ok (.iaload, 1) := by decide +kernel
theorem dX8_isLawfulNow_18 : decode cX8_isLawfulNow 18 = .ok (.if_icmp .ne 9, 3) := by decide +kernel
theorem dX8_isLawfulNow_21 : decode cX8_isLawfulNow 21 = .ok (.iconst 1, 1) := by decide +kernel
theorem dX8_isLawfulNow_22 : decode cX8_isLawfulNow 22 = .ok (.iload_n 1, 1) := by decide +kernel
theorem dX8_isLawfulNow_23 : decode cX8_isLawfulNow 23 = .ok (.ishl, 1) := by decide +kernel
theorem dX8_isLawfulNow_24 : decode cX8_isLawfulNow 24 = .ok (.goto 4, 3) := by decide +kernel
theorem dX8_isLawfulNow_27 : decode cX8_isLawfulNow 27 = .ok (.iconst 0, 1) := by decide +kernel
theorem dX8_isLawfulNow_28 : decode cX8_isLawfulNow 28 = .ok (.istore 4, 2) := by decide +kernel
theorem dX8_isLawfulNow_30 : decode cX8_isLawfulNow 30 = .ok (.aload_n 0, 1) := by decide +kernel
theorem dX8_isLawfulNow_31 : decode cX8_isLawfulNow 31 = .ok (.iload_n 1, 1) := by decide +kernel
theorem dX8_isLawfulNow_32 : decode cX8_isLawfulNow 32 = .ok (.iload_n 2, 1) := by decide +kernel
theorem dX8_isLawfulNow_33 : decode cX8_isLawfulNow 33 = .ok (.iload_n 3, 1) := by decide +kernel
theorem dX8_isLawfulNow_34 : decode cX8_isLawfulNow 34 = .ok (.iload 4, 2) := by decide +kernel
theorem dX8_isLawfulNow_36 : decode cX8_isLawfulNow 36 = .ok (.aload_n 0, 1) := by decide +kernel
theorem dX8_isLawfulNow_37 : decode cX8_isLawfulNow 37 = .ok (.getfield 39, 3) := by decide +kernel
theorem dX8_isLawfulNow_40 : decode cX8_isLawfulNow 40 = .ok (.getfield 231, 3) := by decide +kernel
theorem dX8_isLawfulNow_43 : decode cX8_isLawfulNow 43 = .ok (.invokevirtual 342, 3) := by decide +kernel
theorem dX8_isLawfulNow_46 : decode cX8_isLawfulNow 46 = .ok (.ireturn, 1) := by decide +kernel
theorem lk_oo_isLawfulNow_28 (F : Nat) (v1 : Int32) (v2 : Int32) (v3 : Int32) (s0 : Int32) (μ : g_St) : g_Go gC 4 yX8_isLawfulNow cX8_isLawfulNow 5 (some .boolean) 28 [some (.ref 0), some (.int v1), some (.int v2), some (.int v3), none] [.int s0] μ (Option.map o_yi (oo_isLawfulNow_28 F v1 v2 v3 s0 μ)) := by
  unfold oo_isLawfulNow_28
  refine g_istore (lo2 := [_, _, _, _, _]) dX8_isLawfulNow_28 (Nat.le_of_ble_eq_true rfl) rfl rfl ?_
  refine g_aload_n dX8_isLawfulNow_30 rfl rfl ?_
  refine g_iload_n dX8_isLawfulNow_31 rfl rfl ?_
  refine g_iload_n dX8_isLawfulNow_32 rfl rfl ?_
  refine g_iload_n dX8_isLawfulNow_33 rfl rfl ?_
  refine g_iload dX8_isLawfulNow_34 rfl ?_
  refine g_aload_n dX8_isLawfulNow_36 rfl rfl ?_
  refine g_getS dX8_isLawfulNow_37 cf_X8 fl_X8_39 ly_Own_lt ly_Own rfl (Nat.le_of_ble_eq_true rfl) ?_
  refine g_getI dX8_isLawfulNow_40 cf_X7 fl_X8_231 (ly_Week_lt (Or.inl rfl)) (ly_Week (Or.inl rfl)) rfl (Nat.le_of_ble_eq_true rfl) ?_
  refine w_Vyi [.int _, .int _, .int _, .int _, .int _] dX8_isLawfulNow_43 ml_X8_342 mv_X8_isLawful mc_X8_isLawful cf_X8 ly_Own_lt ly_Own rfl (Nat.le_of_ble_eq_true rfl) (Nat.le_of_ble_eq_true rfl) (Nat.le_of_ble_eq_true rfl) rfl (co_oo_isLawful F _ _ _ _ _ _) (fun q4 => ?_)
  exact w_zret dX8_isLawfulNow_46 rfl rfl
theorem lk_oo_isLawfulNow (F : Nat) (v1 : Int32) (v2 : Int32) (v3 : Int32) (μ : g_St) : g_Go gC 4 yX8_isLawfulNow cX8_isLawfulNow 5 (some .boolean) 0 [some (.ref 0), some (.int v1), some (.int v2), some (.int v3), none] [] μ (Option.map o_yi (oo_isLawfulNow F v1 v2 v3 μ)) := by
  unfold oo_isLawfulNow
  refine g_aload_n dX8_isLawfulNow_0 rfl rfl ?_
  refine g_getS dX8_isLawfulNow_1 cf_X8 fl_X8_39 ly_Own_lt ly_Own rfl (Nat.le_of_ble_eq_true rfl) ?_
  refine g_getS dX8_isLawfulNow_4 cf_X7 fl_X8_135 (ly_Week_lt (Or.inl rfl)) (ly_Week (Or.inl rfl)) rfl (Nat.le_of_ble_eq_true rfl) ?_
  refine g_iload_n dX8_isLawfulNow_7 rfl rfl ?_
  refine w_iald dX8_isLawfulNow_8 (ly_Week_place_lt (Or.inl rfl)) (ly_Week_place (Or.inl rfl)) (fun x1 => ?_)
  refine g_aload_n dX8_isLawfulNow_9 rfl rfl ?_
  refine w_getql dX8_isLawfulNow_10 cf_X8 fl_X8_19 ly_Own_lt ly_Own rfl (Nat.le_of_ble_eq_true rfl) (fun b2 hb2 => ?_)
  refine g_getS dX8_isLawfulNow_13 cf_X1 fl_X8_132 (ly_Land_lt hb2) (ly_Land hb2) rfl (Nat.le_of_ble_eq_true rfl) ?_
  refine g_iload_n dX8_isLawfulNow_16 rfl rfl ?_
  refine w_iald dX8_isLawfulNow_17 (ly_Land_home_lt hb2) (ly_Land_home hb2) (fun x3 => ?_)
  refine w_icmp_ne (tgt := 27) dX8_isLawfulNow_18 (by decide) ?_ ?_
  · refine g_iconst dX8_isLawfulNow_21 ic_1 ?_
    refine g_iload_n dX8_isLawfulNow_22 rfl rfl ?_
    refine g_ishl dX8_isLawfulNow_23 ?_
    refine g_goto (tgt := 28) dX8_isLawfulNow_24 (by decide) ?_
    exact g_to (lk_oo_isLawfulNow_28 F _ _ _ _ _) (su_s (su_s (su_s (su_s (su_n su_0)))))
  · refine g_iconst dX8_isLawfulNow_27 ic_0 ?_
    exact g_to (lk_oo_isLawfulNow_28 F _ _ _ _ _) (su_s (su_s (su_s (su_s (su_n su_0)))))
theorem co_oo_isLawfulNow (F : Nat) (v1 : Int32) (v2 : Int32) (v3 : Int32) (μ : g_St) : g_Con gC 4 yX8_isLawfulNow cX8_isLawfulNow 5 (some .boolean) [.ref 0, .int v1, .int v2, .int v3] μ (g_yi (oo_isLawfulNow F v1 v2 v3 μ)) := g_conOf mc_X8_isLawfulNow.2.2.2.2 (Nat.le_of_ble_eq_true rfl) rfl (g_yi_rk (Or.inr (Or.inl rfl))) (lk_oo_isLawfulNow F v1 v2 v3 μ)
theorem dX8_give_0 : decode cX8_give 0 = .ok (.aload_n 0, 1) := by decide +kernel
theorem dX8_give_1 : decode cX8_give 1 = .ok (.iload_n 1, 1) := by decide +kernel
theorem dX8_give_2 : decode cX8_give 2 = .ok (.iload_n 2, 1) := by decide +kernel
theorem dX8_give_3 : decode cX8_give 3 = .ok (.invokevirtual 172, 3) := by decide +kernel
theorem dX8_give_6 : decode cX8_give 6 = .ok (.ifCond .eq 11, 3) := by decide +kernel
theorem dX8_give_9 : decode cX8_give 9 = .ok (.aload_n 0, 1) := by decide +kernel
theorem dX8_give_10 : decode cX8_give 10 = .ok (.iload_n 3, 1) := by decide +kernel
theorem dX8_give_11 : decode cX8_give 11 = .ok (.invokevirtual 175, 3) := by decide +kernel
theorem dX8_give_14 : decode cX8_give 14 = .ok (.ifCond .ne 5, 3) := by decide +kernel
theorem dX8_give_17 : decode cX8_give 17 = .ok (.iconst 1, 1) := by decide +kernel
theorem dX8_give_18 : decode cX8_give 18 = .ok (.ireturn, 1) := by decide +kernel
theorem dX8_give_19 : decode cX8_give 19 = .ok (.aload_n 0, 1) := by decide +kernel
theorem dX8_give_20 : decode cX8_give 20 = .ok (.getfield 39, 3) := by decide +kernel
theorem dX8_give_23 : decode cX8_give 23 = .ok (.getfield 135, 3) := by decide +kernel
theorem dX8_give_26 : decode cX8_give 26 = .ok (.iload_n 1, 1) := by decide +kernel
theorem dX8_give_27 : decode cX8_give 27 = .ok (.iaload, 1) := by decide +kernel
theorem dX8_give_28 : decode cX8_give 28 = .ok (.aload_n 0, 1) := by decide +kernel
theorem dX8_give_29 : decode cX8_give 29 = .ok (.getfield 39, 3) := by decide +kernel
theorem dX8_give_32 : decode cX8_give 32 = .ok (.getfield 135, 3) := by decide +kernel
theorem dX8_give_35 : decode cX8_give 35 = .ok (.iload_n 2, 1) := by decide +kernel
theorem dX8_give_36 : decode cX8_give 36 = .ok (.iaload, 1) := by decide +kernel
theorem dX8_give_37 : decode cX8_give 37 = .ok (.if_icmp .eq 5, 3) := by decide +kernel
theorem dX8_give_40 : decode cX8_give 40 = .ok (.iconst 4, 1) := by decide +kernel
theorem dX8_give_41 : decode cX8_give 41 = .ok (.ireturn, 1) := by decide +kernel
theorem dX8_give_42 : decode cX8_give 42 = .ok (.aload_n 0, 1) := by decide +kernel
theorem dX8_give_43 : decode cX8_give 43 = .ok (.getfield 39, 3) := by decide +kernel
theorem dX8_give_46 : decode cX8_give 46 = .ok (.getfield 178, 3) := by decide +kernel
theorem dX8_give_49 : decode cX8_give 49 = .ok (.iload_n 3, 1) := by decide +kernel
theorem dX8_give_50 : decode cX8_give 50 = .ok (.iaload, 1) := by decide +kernel
theorem dX8_give_51 : decode cX8_give 51 = .ok (.iload_n 1, 1) := by decide +kernel
theorem dX8_give_52 : decode cX8_give 52 = .ok (.if_icmp .eq 5, 3) := by decide +kernel
theorem dX8_give_55 : decode cX8_give 55 = .ok (.iconst 5, 1) := by decide +kernel
theorem dX8_give_56 : decode cX8_give 56 = .ok (.ireturn, 1) := by decide +kernel
theorem dX8_give_57 : decode cX8_give 57 = .ok (.aload_n 0, 1) := by decide +kernel
theorem dX8_give_58 : decode cX8_give 58 = .ok (.iload_n 1, 1) := by decide +kernel
theorem dX8_give_59 : decode cX8_give 59 = .ok (.iload_n 2, 1) := by decide +kernel
theorem dX8_give_60 : decode cX8_give 60 = .ok (.iload_n 3, 1) := by decide +kernel
theorem dX8_give_61 : decode cX8_give 61 = .ok (.invokevirtual 181, 3) := by decide +kernel
theorem dX8_give_64 : decode cX8_give 64 = .ok (.ifCond .ne 6, 3) := by decide +kernel
theorem dX8_give_67 : decode cX8_give 67 = .ok (.bipush 6, 2) := by decide +kernel
theorem dX8_give_69 : decode cX8_give 69 = .ok (.ireturn, 1) := by decide +kernel
theorem dX8_give_70 : decode cX8_give 70 = .ok (.aload_n 0, 1) := by decide +kernel
theorem dX8_give_71 : decode cX8_give 71 = .ok (.getfield 39, 3) := by decide +kernel
theorem dX8_give_74 : decode cX8_give 74 = .ok (.iload_n 1, 1) := by decide +kernel
theorem dX8_give_75 : decode cX8_give 75 = .ok (.iload_n 2, 1) := by decide +kernel
theorem dX8_give_76 : decode cX8_give 76 = .ok (.aload_n 0, 1) := by decide +kernel
theorem dX8_give_77 : decode cX8_give 77 = .ok (.getfield 39, 3) := by decide +kernel
theorem dX8_give_80 : decode cX8_give 80 = .ok (.iload_n 1, 1) := by decide +kernel
theorem dX8_give_81 : decode cX8_give 81 = .ok (.iload_n 2, 1) := by decide +kernel
theorem dX8_give_82 : decode cX8_give 82 = .ok (.invokevirtual 150, 3) := by decide +kernel
theorem dX8_give_85 : decode cX8_give 85 = .ok (.invokevirtual 168, 3) := by decide +kernel
theorem dX8_give_88 : decode cX8_give 88 = .ok (.aload_n 0, 1) := by decide +kernel
theorem dX8_give_89 : decode cX8_give 89 = .ok (.getfield 39, 3) := by decide +kernel
theorem dX8_give_92 : decode cX8_give 92 = .ok (.getfield 178, 3) := by decide +kernel
theorem dX8_give_95 : decode cX8_give 95 = .ok (.iload_n 3, 1) := by decide +kernel
theorem dX8_give_96 : decode cX8_give 96 = .ok (.iload_n 2, 1) := by decide +kernel
theorem dX8_give_97 : decode cX8_give 97 = .ok (.iastore, 1) := by decide +kernel
theorem dX8_give_98 : decode cX8_give 98 = .ok (.aload_n 0, 1) := by decide +kernel
theorem dX8_give_99 : decode cX8_give 99 = .ok (.iconst 0, 1) := by decide +kernel
theorem dX8_give_100 : decode cX8_give 100 = .ok (.putfield 95, 3) := by decide +kernel
theorem dX8_give_103 : decode cX8_give 103 = .ok (.iconst 0, 1) := by decide +kernel
theorem dX8_give_104 : decode cX8_give 104 = .ok (.ireturn, 1) := by decide +kernel
theorem lk_oo_give (F : Nat) (v1 : Int32) (v2 : Int32) (v3 : Int32) (μ : g_St) : g_Go gC 5 yX8_give cX8_give 4 (some .int) 0 [some (.ref 0), some (.int v1), some (.int v2), some (.int v3)] [] μ (Option.map o_yi (oo_give F v1 v2 v3 μ)) := by
  unfold oo_give
  refine g_aload_n dX8_give_0 rfl rfl ?_
  refine g_iload_n dX8_give_1 rfl rfl ?_
  refine g_iload_n dX8_give_2 rfl rfl ?_
  refine w_Vxi [.int _, .int _] dX8_give_3 ml_X8_172 mv_X8_areTwo mc_X8_areTwo cf_X8 ly_Own_lt ly_Own rfl (Nat.le_of_ble_eq_true rfl) (Nat.le_of_ble_eq_true rfl) (Nat.le_of_ble_eq_true rfl) rfl (co_oo_areTwo _ _ _) (fun x1 => ?_)
  refine w_if_eq (tgt := 17) dX8_give_6 (by decide) ?_ ?_
  · refine g_iconst dX8_give_17 ic_1 ?_
    exact w_iret dX8_give_18 rfl rfl
  · refine g_aload_n dX8_give_9 rfl rfl ?_
    refine g_iload_n dX8_give_10 rfl rfl ?_
    refine w_Vxi [.int _] dX8_give_11 ml_X8_175 mv_X8_isThing mc_X8_isThing cf_X8 ly_Own_lt ly_Own rfl (Nat.le_of_ble_eq_true rfl) (Nat.le_of_ble_eq_true rfl) (Nat.le_of_ble_eq_true rfl) rfl (co_oo_isThing _ _) (fun x2 => ?_)
    refine w_if_ne (tgt := 19) dX8_give_14 (by decide) ?_ ?_
    · refine g_iconst dX8_give_17 ic_1 ?_
      exact w_iret dX8_give_18 rfl rfl
    · refine g_aload_n dX8_give_19 rfl rfl ?_
      refine g_getS dX8_give_20 cf_X8 fl_X8_39 ly_Own_lt ly_Own rfl (Nat.le_of_ble_eq_true rfl) ?_
      refine g_getS dX8_give_23 cf_X7 fl_X8_135 (ly_Week_lt (Or.inl rfl)) (ly_Week (Or.inl rfl)) rfl (Nat.le_of_ble_eq_true rfl) ?_
      refine g_iload_n dX8_give_26 rfl rfl ?_
      refine w_iald dX8_give_27 (ly_Week_place_lt (Or.inl rfl)) (ly_Week_place (Or.inl rfl)) (fun x3 => ?_)
      refine g_aload_n dX8_give_28 rfl rfl ?_
      refine g_getS dX8_give_29 cf_X8 fl_X8_39 ly_Own_lt ly_Own rfl (Nat.le_of_ble_eq_true rfl) ?_
      refine g_getS dX8_give_32 cf_X7 fl_X8_135 (ly_Week_lt (Or.inl rfl)) (ly_Week (Or.inl rfl)) rfl (Nat.le_of_ble_eq_true rfl) ?_
      refine g_iload_n dX8_give_35 rfl rfl ?_
      refine w_iald dX8_give_36 (ly_Week_place_lt (Or.inl rfl)) (ly_Week_place (Or.inl rfl)) (fun x4 => ?_)
      refine w_icmp_eq (tgt := 42) dX8_give_37 (by decide) ?_ ?_
      · refine g_aload_n dX8_give_42 rfl rfl ?_
        refine g_getS dX8_give_43 cf_X8 fl_X8_39 ly_Own_lt ly_Own rfl (Nat.le_of_ble_eq_true rfl) ?_
        refine g_getS dX8_give_46 cf_X7 fl_X8_178 (ly_Week_lt (Or.inl rfl)) (ly_Week (Or.inl rfl)) rfl (Nat.le_of_ble_eq_true rfl) ?_
        refine g_iload_n dX8_give_49 rfl rfl ?_
        refine w_iald dX8_give_50 (ly_Week_holder_lt (Or.inl rfl)) (ly_Week_holder (Or.inl rfl)) (fun x5 => ?_)
        refine g_iload_n dX8_give_51 rfl rfl ?_
        refine w_icmp_eq (tgt := 57) dX8_give_52 (by decide) ?_ ?_
        · refine g_aload_n dX8_give_57 rfl rfl ?_
          refine g_iload_n dX8_give_58 rfl rfl ?_
          refine g_iload_n dX8_give_59 rfl rfl ?_
          refine g_iload_n dX8_give_60 rfl rfl ?_
          refine w_Vyi [.int _, .int _, .int _] dX8_give_61 ml_X8_181 mv_X8_isLawfulNow mc_X8_isLawfulNow cf_X8 ly_Own_lt ly_Own rfl (Nat.le_of_ble_eq_true rfl) (Nat.le_of_ble_eq_true rfl) (Nat.le_of_ble_eq_true rfl) rfl (co_oo_isLawfulNow F _ _ _ _) (fun q6 => ?_)
          refine w_if_ne (tgt := 70) dX8_give_64 (by decide) ?_ ?_
          · refine g_bipush dX8_give_67 bp_6 ?_
            exact w_iret dX8_give_69 rfl rfl
          · refine g_aload_n dX8_give_70 rfl rfl ?_
            refine g_getS dX8_give_71 cf_X8 fl_X8_39 ly_Own_lt ly_Own rfl (Nat.le_of_ble_eq_true rfl) ?_
            refine g_iload_n dX8_give_74 rfl rfl ?_
            refine g_iload_n dX8_give_75 rfl rfl ?_
            refine g_aload_n dX8_give_76 rfl rfl ?_
            refine g_getS dX8_give_77 cf_X8 fl_X8_39 ly_Own_lt ly_Own rfl (Nat.le_of_ble_eq_true rfl) ?_
            refine g_iload_n dX8_give_80 rfl rfl ?_
            refine g_iload_n dX8_give_81 rfl rfl ?_
            refine w_Vxi [.int _, .int _] dX8_give_82 ml_X8_150 mv_X7_laterClock mc_X7_laterClock cf_X7 (ly_Week_lt (Or.inl rfl)) (ly_Week (Or.inl rfl)) rfl (Nat.le_of_ble_eq_true rfl) (Nat.le_of_ble_eq_true rfl) (Nat.le_of_ble_eq_true rfl) rfl (co_ow_laterClock _ (Or.inl rfl) _ _ _) (fun x7 => ?_)
            refine w_Vyv [.int _, .int _, .int _] dX8_give_85 ml_X8_168 mv_X7_setClocks mc_X7_setClocks cf_X7 (ly_Week_lt (Or.inl rfl)) (ly_Week (Or.inl rfl)) rfl (Nat.le_of_ble_eq_true rfl) (Nat.le_of_ble_eq_true rfl) (Nat.le_of_ble_eq_true rfl) rfl (co_ow_setClocks _ (Or.inl rfl) _ _ _ _) (fun μ8 => ?_)
            refine g_aload_n dX8_give_88 rfl rfl ?_
            refine g_getS dX8_give_89 cf_X8 fl_X8_39 ly_Own_lt ly_Own rfl (Nat.le_of_ble_eq_true rfl) ?_
            refine g_getS dX8_give_92 cf_X7 fl_X8_178 (ly_Week_lt (Or.inl rfl)) (ly_Week (Or.inl rfl)) rfl (Nat.le_of_ble_eq_true rfl) ?_
            refine g_iload_n dX8_give_95 rfl rfl ?_
            refine g_iload_n dX8_give_96 rfl rfl ?_
            refine w_iast dX8_give_97 (ly_Week_holder_lt (Or.inl rfl)) (ly_Week_holder (Or.inl rfl)) (fun μ9 => ?_)
            refine g_aload_n dX8_give_98 rfl rfl ?_
            refine g_iconst dX8_give_99 ic_0 ?_
            refine w_putI dX8_give_100 cf_X8 fl_X8_95 ly_Own_lt ly_Own rfl (Nat.le_of_ble_eq_true rfl) rfl rfl (by decide) (by decide) (fun μ10 => ?_)
            refine g_iconst dX8_give_103 ic_0 ?_
            exact w_iret dX8_give_104 rfl rfl
        · refine g_iconst dX8_give_55 ic_5 ?_
          exact w_iret dX8_give_56 rfl rfl
      · refine g_iconst dX8_give_40 ic_4 ?_
        exact w_iret dX8_give_41 rfl rfl
theorem co_oo_give (F : Nat) (v1 : Int32) (v2 : Int32) (v3 : Int32) (μ : g_St) : g_Con gC 5 yX8_give cX8_give 4 (some .int) [.ref 0, .int v1, .int v2, .int v3] μ (g_yi (oo_give F v1 v2 v3 μ)) := g_conOf mc_X8_give.2.2.2.2 (Nat.le_of_ble_eq_true rfl) rfl (g_yi_rk (Or.inl rfl)) (lk_oo_give F v1 v2 v3 μ)
theorem dX8_thing_0 : decode cX8_thing 0 = .ok (.aload_n 0, 1) := by decide +kernel
theorem dX8_thing_1 : decode cX8_thing 1 = .ok (.iload_n 1, 1) := by decide +kernel
theorem dX8_thing_2 : decode cX8_thing 2 = .ok (.invokevirtual 175, 3) := by decide +kernel
theorem dX8_thing_5 : decode cX8_thing 5 = .ok (.ifCond .ne 13, 3) := by decide +kernel
theorem dX8_thing_8 : decode cX8_thing 8 = .ok (.new 185, 3) := by decide +kernel
theorem dX8_thing_11 : decode cX8_thing 11 = .ok (.dup, 1) := by decide +kernel
theorem dX8_thing_12 : decode cX8_thing 12 = .ok (.ldc 187, 2) := by decide +kernel
theorem dX8_thing_14 : decode cX8_thing 14 = .ok (.invokespecial 189, 3) := by decide +kernel
theorem dX8_thing_17 : decode cX8_thing 17 = .ok (.athrow, 1) := by decide +kernel
theorem dX8_thing_18 : decode cX8_thing 18 = .ok (.iload_n 2, 1) := by decide +kernel
theorem dX8_thing_19 : decode cX8_thing 19 = .ok (.tableswitch 83 0 4 #[33, 43, 53, 63, 73], 33) := by decide +kernel
theorem dX8_thing_52 : decode cX8_thing 52 = .ok (.aload_n 0, 1) := by decide +kernel
theorem dX8_thing_53 : decode cX8_thing 53 = .ok (.getfield 39, 3) := by decide +kernel
theorem dX8_thing_56 : decode cX8_thing 56 = .ok (.getfield 192, 3) := by decide +kernel
theorem dX8_thing_59 : decode cX8_thing 59 = .ok (.iload_n 1, 1) := by decide +kernel
theorem dX8_thing_60 : decode cX8_thing 60 = .ok (.iaload, 1) := by decide +kernel
theorem dX8_thing_61 : decode cX8_thing 61 = .ok (.ireturn, 1) := by decide +kernel
theorem dX8_thing_62 : decode cX8_thing 62 = .ok (.aload_n 0, 1) := by decide +kernel
theorem dX8_thing_63 : decode cX8_thing 63 = .ok (.getfield 39, 3) := by decide +kernel
theorem dX8_thing_66 : decode cX8_thing 66 = .ok (.getfield 195, 3) := by decide +kernel
theorem dX8_thing_69 : decode cX8_thing 69 = .ok (.iload_n 1, 1) := by decide +kernel
theorem dX8_thing_70 : decode cX8_thing 70 = .ok (.iaload, 1) := by decide +kernel
theorem dX8_thing_71 : decode cX8_thing 71 = .ok (.ireturn, 1) := by decide +kernel
theorem dX8_thing_72 : decode cX8_thing 72 = .ok (.aload_n 0, 1) := by decide +kernel
theorem dX8_thing_73 : decode cX8_thing 73 = .ok (.getfield 39, 3) := by decide +kernel
theorem dX8_thing_76 : decode cX8_thing 76 = .ok (.getfield 198, 3) := by decide +kernel
theorem dX8_thing_79 : decode cX8_thing 79 = .ok (.iload_n 1, 1) := by decide +kernel
theorem dX8_thing_80 : decode cX8_thing 80 = .ok (.iaload, 1) := by decide +kernel
theorem dX8_thing_81 : decode cX8_thing 81 = .ok (.ireturn, 1) := by decide +kernel
theorem dX8_thing_82 : decode cX8_thing 82 = .ok (.aload_n 0, 1) := by decide +kernel
theorem dX8_thing_83 : decode cX8_thing 83 = .ok (.getfield 39, 3) := by decide +kernel
theorem dX8_thing_86 : decode cX8_thing 86 = .ok (.getfield 178, 3) := by decide +kernel
theorem dX8_thing_89 : decode cX8_thing 89 = .ok (.iload_n 1, 1) := by decide +kernel
theorem dX8_thing_90 : decode cX8_thing 90 = .ok (.iaload, 1) := by decide +kernel
theorem dX8_thing_91 : decode cX8_thing 91 = .ok (.ireturn, 1) := by decide +kernel
theorem dX8_thing_92 : decode cX8_thing 92 = .ok (.aload_n 0, 1) := by decide +kernel
theorem dX8_thing_93 : decode cX8_thing 93 = .ok (.getfield 39, 3) := by decide +kernel
theorem dX8_thing_96 : decode cX8_thing 96 = .ok (.getfield 201, 3) := by decide +kernel
theorem dX8_thing_99 : decode cX8_thing 99 = .ok (.iload_n 1, 1) := by decide +kernel
theorem dX8_thing_100 : decode cX8_thing 100 = .ok (.iaload, 1) := by decide +kernel
theorem dX8_thing_101 : decode cX8_thing 101 = .ok (.ireturn, 1) := by decide +kernel
theorem dX8_thing_102 : decode cX8_thing 102 = .ok (.new 185, 3) := by decide +kernel
theorem dX8_thing_105 : decode cX8_thing 105 = .ok (.dup, 1) := by decide +kernel
theorem dX8_thing_106 : decode cX8_thing 106 = .ok (.ldc 204, 2) := by decide +kernel
theorem dX8_thing_108 : decode cX8_thing 108 = .ok (.invokespecial 189, 3) := by decide +kernel
theorem dX8_thing_111 : decode cX8_thing 111 = .ok (.athrow, 1) := by decide +kernel
theorem lk_oo_thing (v1 : Int32) (v2 : Int32) (μ : g_St) : g_Go gC 1 yX8_thing cX8_thing 3 (some .int) 0 [some (.ref 0), some (.int v1), some (.int v2)] [] μ (Option.map o_x (oo_thing v1 v2 μ)) := by
  unfold oo_thing
  refine g_aload_n dX8_thing_0 rfl rfl ?_
  refine g_iload_n dX8_thing_1 rfl rfl ?_
  refine w_Vxi [.int _] dX8_thing_2 ml_X8_175 mv_X8_isThing mc_X8_isThing cf_X8 ly_Own_lt ly_Own rfl (Nat.le_of_ble_eq_true rfl) (Nat.le_of_ble_eq_true rfl) (Nat.le_of_ble_eq_true rfl) rfl (co_oo_isThing _ _) (fun x1 => ?_)
  refine w_if_ne (tgt := 18) dX8_thing_5 (by decide) ?_ ?_
  · exact w_thr ⟨dX8_thing_8, dX8_thing_11, Or.inl ⟨187, "no such thing", Or.inl ⟨rfl, rfl⟩, dX8_thing_12, dX8_thing_14, dX8_thing_17⟩⟩ rfl
  · refine g_iload_n dX8_thing_18 rfl rfl ?_
    refine w_ite (fun h3 => ?_) (fun h3 => ?_)
    · refine w_tin (tgt := 52) (0 : Int32) h3 dX8_thing_19 ⟨33, by decide⟩ ?_
      refine g_aload_n dX8_thing_52 rfl rfl ?_
      refine g_getS dX8_thing_53 cf_X8 fl_X8_39 ly_Own_lt ly_Own rfl (Nat.le_of_ble_eq_true rfl) ?_
      refine g_getS dX8_thing_56 cf_X7 fl_X8_192 (ly_Week_lt (Or.inl rfl)) (ly_Week (Or.inl rfl)) rfl (Nat.le_of_ble_eq_true rfl) ?_
      refine g_iload_n dX8_thing_59 rfl rfl ?_
      refine w_iald dX8_thing_60 (ly_Week_good_lt (Or.inl rfl)) (ly_Week_good (Or.inl rfl)) (fun x2 => ?_)
      exact w_iret dX8_thing_61 rfl rfl
    refine w_ite (fun h5 => ?_) (fun h5 => ?_)
    · refine w_tin (tgt := 62) (1 : Int32) h5 dX8_thing_19 ⟨43, by decide⟩ ?_
      refine g_aload_n dX8_thing_62 rfl rfl ?_
      refine g_getS dX8_thing_63 cf_X8 fl_X8_39 ly_Own_lt ly_Own rfl (Nat.le_of_ble_eq_true rfl) ?_
      refine g_getS dX8_thing_66 cf_X7 fl_X8_195 (ly_Week_lt (Or.inl rfl)) (ly_Week (Or.inl rfl)) rfl (Nat.le_of_ble_eq_true rfl) ?_
      refine g_iload_n dX8_thing_69 rfl rfl ?_
      refine w_iald dX8_thing_70 (ly_Week_sort_lt (Or.inl rfl)) (ly_Week_sort (Or.inl rfl)) (fun x4 => ?_)
      exact w_iret dX8_thing_71 rfl rfl
    refine w_ite (fun h7 => ?_) (fun h7 => ?_)
    · refine w_tin (tgt := 72) (2 : Int32) h7 dX8_thing_19 ⟨53, by decide⟩ ?_
      refine g_aload_n dX8_thing_72 rfl rfl ?_
      refine g_getS dX8_thing_73 cf_X8 fl_X8_39 ly_Own_lt ly_Own rfl (Nat.le_of_ble_eq_true rfl) ?_
      refine g_getS dX8_thing_76 cf_X7 fl_X8_198 (ly_Week_lt (Or.inl rfl)) (ly_Week (Or.inl rfl)) rfl (Nat.le_of_ble_eq_true rfl) ?_
      refine g_iload_n dX8_thing_79 rfl rfl ?_
      refine w_iald dX8_thing_80 (ly_Week_makers_lt (Or.inl rfl)) (ly_Week_makers (Or.inl rfl)) (fun x6 => ?_)
      exact w_iret dX8_thing_81 rfl rfl
    refine w_ite (fun h9 => ?_) (fun h9 => ?_)
    · refine w_tin (tgt := 82) (3 : Int32) h9 dX8_thing_19 ⟨63, by decide⟩ ?_
      refine g_aload_n dX8_thing_82 rfl rfl ?_
      refine g_getS dX8_thing_83 cf_X8 fl_X8_39 ly_Own_lt ly_Own rfl (Nat.le_of_ble_eq_true rfl) ?_
      refine g_getS dX8_thing_86 cf_X7 fl_X8_178 (ly_Week_lt (Or.inl rfl)) (ly_Week (Or.inl rfl)) rfl (Nat.le_of_ble_eq_true rfl) ?_
      refine g_iload_n dX8_thing_89 rfl rfl ?_
      refine w_iald dX8_thing_90 (ly_Week_holder_lt (Or.inl rfl)) (ly_Week_holder (Or.inl rfl)) (fun x8 => ?_)
      exact w_iret dX8_thing_91 rfl rfl
    refine w_ite (fun h11 => ?_) (fun h11 => ?_)
    · refine w_tin (tgt := 92) (4 : Int32) h11 dX8_thing_19 ⟨73, by decide⟩ ?_
      refine g_aload_n dX8_thing_92 rfl rfl ?_
      refine g_getS dX8_thing_93 cf_X8 fl_X8_39 ly_Own_lt ly_Own rfl (Nat.le_of_ble_eq_true rfl) ?_
      refine g_getS dX8_thing_96 cf_X7 fl_X8_201 (ly_Week_lt (Or.inl rfl)) (ly_Week (Or.inl rfl)) rfl (Nat.le_of_ble_eq_true rfl) ?_
      refine g_iload_n dX8_thing_99 rfl rfl ?_
      refine w_iald dX8_thing_100 (ly_Week_done_lt (Or.inl rfl)) (ly_Week_done (Or.inl rfl)) (fun x10 => ?_)
      exact w_iret dX8_thing_101 rfl rfl
    refine w_tout (tgt := 102) dX8_thing_19 (by have qh3 := g_neT (n := 0) h3 (by decide); have qh5 := g_neT (n := 1) h5 (by decide); have qh7 := g_neT (n := 2) h7 (by decide); have qh9 := g_neT (n := 3) h9 (by decide); have qh11 := g_neT (n := 4) h11 (by decide); omega) (by decide) ?_
    exact w_thr ⟨dX8_thing_102, dX8_thing_105, Or.inl ⟨204, "nothing of a thing is asked so", Or.inr ⟨rfl, rfl⟩, dX8_thing_106, dX8_thing_108, dX8_thing_111⟩⟩ rfl
theorem dX8_isHeldBy_0 : decode cX8_isHeldBy 0 = .ok (.aload_n 0, 1) := by decide +kernel
theorem dX8_isHeldBy_1 : decode cX8_isHeldBy 1 = .ok (.iload_n 1, 1) := by decide +kernel
theorem dX8_isHeldBy_2 : decode cX8_isHeldBy 2 = .ok (.iload_n 2, 1) := by decide +kernel
theorem dX8_isHeldBy_3 : decode cX8_isHeldBy 3 = .ok (.invokevirtual 172, 3) := by decide +kernel
theorem dX8_isHeldBy_6 : decode cX8_isHeldBy 6 = .ok (.ifCond .eq 28, 3) := by decide +kernel
theorem dX8_isHeldBy_9 : decode cX8_isHeldBy 9 = .ok (.aload_n 0, 1) := by decide +kernel
theorem dX8_isHeldBy_10 : decode cX8_isHeldBy 10 = .ok (.iload_n 3, 1) := by decide +kernel
theorem dX8_isHeldBy_11 : decode cX8_isHeldBy 11 = .ok (.invokevirtual 175, 3) := by decide +kernel
theorem dX8_isHeldBy_14 : decode cX8_isHeldBy 14 = .ok (.ifCond .eq 20, 3) := by decide +kernel
theorem dX8_isHeldBy_17 : decode cX8_isHeldBy 17 = .ok (.aload_n 0, 1) := by decide +kernel
theorem dX8_isHeldBy_18 : decode cX8_isHeldBy 18 = .ok (.getfield 39, 3) := by decide +kernel
theorem dX8_isHeldBy_21 : decode cX8_isHeldBy 21 = .ok (.getfield 178, 3) := by decide +kernel
theorem dX8_isHeldBy_24 : decode cX8_isHeldBy 24 = .ok (.iload_n 3, 1) := by decide +kernel
theorem dX8_isHeldBy_25 : decode cX8_isHeldBy 25 = .ok (.iaload, 1) := by decide +kernel
theorem dX8_isHeldBy_26 : decode cX8_isHeldBy 26 = .ok (.iload_n 1, 1) := by decide +kernel
theorem dX8_isHeldBy_27 : decode cX8_isHeldBy 27 = .ok (.if_icmp .ne 7, 3) := by decide +kernel
theorem dX8_isHeldBy_30 : decode cX8_isHeldBy 30 = .ok (.iconst 1, 1) := by decide +kernel
theorem dX8_isHeldBy_31 : decode cX8_isHeldBy 31 = .ok (.goto 4, 3) := by decide +kernel
theorem dX8_isHeldBy_34 : decode cX8_isHeldBy 34 = .ok (.iconst 0, 1) := by decide +kernel
theorem dX8_isHeldBy_35 : decode cX8_isHeldBy 35 = .ok (.ireturn, 1) := by decide +kernel
theorem lk_oo_isHeldBy (μ : g_St) (v1 : Int32) (v2 : Int32) (v3 : Int32) : g_Go gC 2 yX8_isHeldBy cX8_isHeldBy 4 (some .boolean) 0 [some (.ref 0), some (.int v1), some (.int v2), some (.int v3)] [] μ (Option.map (o_i μ) (oo_isHeldBy μ v1 v2 v3)) := by
  unfold oo_isHeldBy
  refine g_aload_n dX8_isHeldBy_0 rfl rfl ?_
  refine g_iload_n dX8_isHeldBy_1 rfl rfl ?_
  refine g_iload_n dX8_isHeldBy_2 rfl rfl ?_
  refine w_Vxi [.int _, .int _] dX8_isHeldBy_3 ml_X8_172 mv_X8_areTwo mc_X8_areTwo cf_X8 ly_Own_lt ly_Own rfl (Nat.le_of_ble_eq_true rfl) (Nat.le_of_ble_eq_true rfl) (Nat.le_of_ble_eq_true rfl) rfl (co_oo_areTwo _ _ _) (fun x1 => ?_)
  refine w_if_eq (tgt := 34) dX8_isHeldBy_6 (by decide) ?_ ?_
  · refine g_iconst dX8_isHeldBy_34 ic_0 ?_
    exact w_iret dX8_isHeldBy_35 (by decide) rfl
  · refine g_aload_n dX8_isHeldBy_9 rfl rfl ?_
    refine g_iload_n dX8_isHeldBy_10 rfl rfl ?_
    refine w_Vxi [.int _] dX8_isHeldBy_11 ml_X8_175 mv_X8_isThing mc_X8_isThing cf_X8 ly_Own_lt ly_Own rfl (Nat.le_of_ble_eq_true rfl) (Nat.le_of_ble_eq_true rfl) (Nat.le_of_ble_eq_true rfl) rfl (co_oo_isThing _ _) (fun x2 => ?_)
    refine w_if_eq (tgt := 34) dX8_isHeldBy_14 (by decide) ?_ ?_
    · refine g_iconst dX8_isHeldBy_34 ic_0 ?_
      exact w_iret dX8_isHeldBy_35 (by decide) rfl
    · refine g_aload_n dX8_isHeldBy_17 rfl rfl ?_
      refine g_getS dX8_isHeldBy_18 cf_X8 fl_X8_39 ly_Own_lt ly_Own rfl (Nat.le_of_ble_eq_true rfl) ?_
      refine g_getS dX8_isHeldBy_21 cf_X7 fl_X8_178 (ly_Week_lt (Or.inl rfl)) (ly_Week (Or.inl rfl)) rfl (Nat.le_of_ble_eq_true rfl) ?_
      refine g_iload_n dX8_isHeldBy_24 rfl rfl ?_
      refine w_iald dX8_isHeldBy_25 (ly_Week_holder_lt (Or.inl rfl)) (ly_Week_holder (Or.inl rfl)) (fun x3 => ?_)
      refine g_iload_n dX8_isHeldBy_26 rfl rfl ?_
      refine w_icmp_ne (tgt := 34) dX8_isHeldBy_27 (by decide) ?_ ?_
      · refine g_iconst dX8_isHeldBy_30 ic_1 ?_
        refine g_goto (tgt := 35) dX8_isHeldBy_31 (by decide) ?_
        exact w_iret dX8_isHeldBy_35 (by decide) rfl
      · refine g_iconst dX8_isHeldBy_34 ic_0 ?_
        exact w_iret dX8_isHeldBy_35 (by decide) rfl
theorem co_oo_isHeldBy (μ : g_St) (v1 : Int32) (v2 : Int32) (v3 : Int32) : g_Con gC 2 yX8_isHeldBy cX8_isHeldBy 4 (some .boolean) [.ref 0, .int v1, .int v2, .int v3] μ (g_xi μ (oo_isHeldBy μ v1 v2 v3)) := g_conOf mc_X8_isHeldBy.2.2.2.2 (Nat.le_of_ble_eq_true rfl) rfl (g_xi_rk (Or.inr (Or.inl rfl))) (lk_oo_isHeldBy μ v1 v2 v3)
theorem dX8_lawful_0 : decode cX8_lawful 0 = .ok (.aload_n 0, 1) := by decide +kernel
theorem dX8_lawful_1 : decode cX8_lawful 1 = .ok (.iload_n 1, 1) := by decide +kernel
theorem dX8_lawful_2 : decode cX8_lawful 2 = .ok (.iload_n 2, 1) := by decide +kernel
theorem dX8_lawful_3 : decode cX8_lawful 3 = .ok (.iload_n 3, 1) := by decide +kernel
theorem dX8_lawful_4 : decode cX8_lawful 4 = .ok (.invokevirtual 206, 3) := by decide +kernel
theorem dX8_lawful_7 : decode cX8_lawful 7 = .ok (.ifCond .ne 5, 3) := by decide +kernel
theorem dX8_lawful_10 : decode cX8_lawful 10 = .ok (.iconst (-1), 1) := by decide +kernel
theorem dX8_lawful_11 : decode cX8_lawful 11 = .ok (.ireturn, 1) := by decide +kernel
theorem dX8_lawful_12 : decode cX8_lawful 12 = .ok (.aload_n 0, 1) := by decide +kernel
theorem dX8_lawful_13 : decode cX8_lawful 13 = .ok (.iload_n 1, 1) := by decide +kernel
theorem dX8_lawful_14 : decode cX8_lawful 14 = .ok (.iload_n 2, 1) := by decide +kernel
theorem dX8_lawful_15 : decode cX8_lawful 15 = .ok (.iload_n 3, 1) := by decide +kernel
theorem dX8_lawful_16 : decode cX8_lawful 16 = .ok (.invokevirtual 181, 3) := by decide +kernel
theorem dX8_lawful_19 : decode cX8_lawful 19 = .ok (.ifCond .eq 7, 3) := by decide +kernel
theorem dX8_lawful_22 : decode cX8_lawful 22 = .ok (.iconst 1, 1) := by decide +kernel
theorem dX8_lawful_23 : decode cX8_lawful 23 = .ok (.goto 4, 3) := by decide +kernel
theorem dX8_lawful_26 : decode cX8_lawful 26 = .ok (.iconst 0, 1) := by decide +kernel
theorem dX8_lawful_27 : decode cX8_lawful 27 = .ok (.ireturn, 1) := by decide +kernel
theorem lk_oo_lawful (F : Nat) (v1 : Int32) (v2 : Int32) (v3 : Int32) (μ : g_St) : g_Go gC 5 yX8_lawful cX8_lawful 4 (some .int) 0 [some (.ref 0), some (.int v1), some (.int v2), some (.int v3)] [] μ (Option.map o_yi (oo_lawful F v1 v2 v3 μ)) := by
  unfold oo_lawful
  refine g_aload_n dX8_lawful_0 rfl rfl ?_
  refine g_iload_n dX8_lawful_1 rfl rfl ?_
  refine g_iload_n dX8_lawful_2 rfl rfl ?_
  refine g_iload_n dX8_lawful_3 rfl rfl ?_
  refine w_Vxi [.int _, .int _, .int _] dX8_lawful_4 ml_X8_206 mv_X8_isHeldBy mc_X8_isHeldBy cf_X8 ly_Own_lt ly_Own rfl (Nat.le_of_ble_eq_true rfl) (Nat.le_of_ble_eq_true rfl) (Nat.le_of_ble_eq_true rfl) rfl (co_oo_isHeldBy _ _ _ _) (fun x1 => ?_)
  refine w_if_ne (tgt := 12) dX8_lawful_7 (by decide) ?_ ?_
  · refine g_iconst dX8_lawful_10 ic_m1 ?_
    exact w_iret dX8_lawful_11 rfl rfl
  · refine g_aload_n dX8_lawful_12 rfl rfl ?_
    refine g_iload_n dX8_lawful_13 rfl rfl ?_
    refine g_iload_n dX8_lawful_14 rfl rfl ?_
    refine g_iload_n dX8_lawful_15 rfl rfl ?_
    refine w_Vyi [.int _, .int _, .int _] dX8_lawful_16 ml_X8_181 mv_X8_isLawfulNow mc_X8_isLawfulNow cf_X8 ly_Own_lt ly_Own rfl (Nat.le_of_ble_eq_true rfl) (Nat.le_of_ble_eq_true rfl) (Nat.le_of_ble_eq_true rfl) rfl (co_oo_isLawfulNow F _ _ _ _) (fun q2 => ?_)
    refine w_if_eq (tgt := 26) dX8_lawful_19 (by decide) ?_ ?_
    · refine g_iconst dX8_lawful_26 ic_0 ?_
      exact w_iret dX8_lawful_27 rfl rfl
    · refine g_iconst dX8_lawful_22 ic_1 ?_
      refine g_goto (tgt := 27) dX8_lawful_23 (by decide) ?_
      exact w_iret dX8_lawful_27 rfl rfl
theorem co_oo_lawful (F : Nat) (v1 : Int32) (v2 : Int32) (v3 : Int32) (μ : g_St) : g_Con gC 5 yX8_lawful cX8_lawful 4 (some .int) [.ref 0, .int v1, .int v2, .int v3] μ (g_yi (oo_lawful F v1 v2 v3 μ)) := g_conOf mc_X8_lawful.2.2.2.2 (Nat.le_of_ble_eq_true rfl) rfl (g_yi_rk (Or.inl rfl)) (lk_oo_lawful F v1 v2 v3 μ)
theorem dX8_everybody_0 : decode cX8_everybody 0 = .ok (.iconst 1, 1) := by decide +kernel
theorem dX8_everybody_1 : decode cX8_everybody 1 = .ok (.aload_n 0, 1) := by decide +kernel
theorem dX8_everybody_2 : decode cX8_everybody 2 = .ok (.getfield 19, 3) := by decide +kernel
theorem dX8_everybody_5 : decode cX8_everybody 5 = .ok (.getfield 228, 3) := by decide +kernel
theorem dX8_everybody_8 : decode cX8_everybody 8 = .ok (.ishl, 1) := by decide +kernel
theorem dX8_everybody_9 : decode cX8_everybody 9 = .ok (.iconst 1, 1) := by decide +kernel
theorem dX8_everybody_10 : decode cX8_everybody 10 = .ok (.isub, 1) := by decide +kernel
theorem dX8_everybody_11 : decode cX8_everybody 11 = .ok (.ireturn, 1) := by decide +kernel
theorem lk_oo_everybody (μ : g_St) : g_Go gC 0 yX8_everybody cX8_everybody 1 (some .int) 0 [some (.ref 0)] [] μ (Option.map (o_i μ) (oo_everybody μ)) := by
  unfold oo_everybody
  refine g_iconst dX8_everybody_0 ic_1 ?_
  refine g_aload_n dX8_everybody_1 rfl rfl ?_
  refine w_getql dX8_everybody_2 cf_X8 fl_X8_19 ly_Own_lt ly_Own rfl (Nat.le_of_ble_eq_true rfl) (fun b1 hb1 => ?_)
  refine g_getI dX8_everybody_5 cf_X1 fl_X8_228 (ly_Land_lt hb1) (ly_Land hb1) rfl (Nat.le_of_ble_eq_true rfl) ?_
  refine g_ishl dX8_everybody_8 ?_
  refine g_iconst dX8_everybody_9 ic_1 ?_
  refine g_isub dX8_everybody_10 ?_
  exact w_iret dX8_everybody_11 rfl rfl
theorem co_oo_everybody (μ : g_St) : g_Con gC 0 yX8_everybody cX8_everybody 1 (some .int) [.ref 0] μ (g_xi μ (oo_everybody μ)) := g_conOf mc_X8_everybody.2.2.2.2 (Nat.le_of_ble_eq_true rfl) rfl (g_xi_rk (Or.inl rfl)) (lk_oo_everybody μ)
theorem dX8_isSet_0 : decode cX8_isSet 0 = .ok (.iload_n 1, 1) := by decide +kernel
theorem dX8_isSet_1 : decode cX8_isSet 1 = .ok (.ifCond .lt 15, 3) := by decide +kernel
theorem dX8_isSet_4 : decode cX8_isSet 4 = .ok (.iload_n 1, 1) := by decide +kernel
theorem dX8_isSet_5 : decode cX8_isSet 5 = .ok (.aload_n 0, 1) := by decide +kernel
theorem dX8_isSet_6 : decode cX8_isSet 6 = .ok (.invokevirtual 244, 3) := by decide +kernel
theorem dX8_isSet_9 : decode cX8_isSet 9 = .ok (.if_icmp .gt 7, 3) := by decide +kernel
theorem dX8_isSet_12 : decode cX8_isSet 12 = .ok (.iconst 1, 1) := by decide +kernel
theorem dX8_isSet_13 : decode cX8_isSet 13 = .ok (.goto 4, 3) := by decide +kernel
theorem dX8_isSet_16 : decode cX8_isSet 16 = .ok (.iconst 0, 1) := by decide +kernel
theorem dX8_isSet_17 : decode cX8_isSet 17 = .ok (.ireturn, 1) := by decide +kernel
theorem lk_oo_isSet (μ : g_St) (v1 : Int32) : g_Go gC 1 yX8_isSet cX8_isSet 2 (some .boolean) 0 [some (.ref 0), some (.int v1)] [] μ (Option.map (o_i μ) (oo_isSet μ v1)) := by
  unfold oo_isSet
  refine g_iload_n dX8_isSet_0 rfl rfl ?_
  refine w_if_lt (tgt := 16) dX8_isSet_1 (by decide) ?_ ?_
  · refine g_iload_n dX8_isSet_4 rfl rfl ?_
    refine g_aload_n dX8_isSet_5 rfl rfl ?_
    refine w_Vxi [] dX8_isSet_6 ml_X8_244 mv_X8_everybody mc_X8_everybody cf_X8 ly_Own_lt ly_Own rfl (Nat.le_of_ble_eq_true rfl) (Nat.le_of_ble_eq_true rfl) (Nat.le_of_ble_eq_true rfl) rfl (co_oo_everybody _) (fun x1 => ?_)
    refine w_icmp_gt (tgt := 16) dX8_isSet_9 (by decide) ?_ ?_
    · refine g_iconst dX8_isSet_12 ic_1 ?_
      refine g_goto (tgt := 17) dX8_isSet_13 (by decide) ?_
      exact w_iret dX8_isSet_17 (by decide) rfl
    · refine g_iconst dX8_isSet_16 ic_0 ?_
      exact w_iret dX8_isSet_17 (by decide) rfl
  · refine g_iconst dX8_isSet_16 ic_0 ?_
    exact w_iret dX8_isSet_17 (by decide) rfl
theorem co_oo_isSet (μ : g_St) (v1 : Int32) : g_Con gC 1 yX8_isSet cX8_isSet 2 (some .boolean) [.ref 0, .int v1] μ (g_xi μ (oo_isSet μ v1)) := g_conOf mc_X8_isSet.2.2.2.2 (Nat.le_of_ble_eq_true rfl) rfl (g_xi_rk (Or.inr (Or.inl rfl))) (lk_oo_isSet μ v1)
theorem dX8_findRounds_0 : decode cX8_findRounds 0 = .ok (.aload_n 1, 1) := by decide +kernel
theorem dX8_findRounds_1 : decode cX8_findRounds 1 = .ok (.invokevirtual 356, 3) := by decide +kernel
theorem dX8_findRounds_4 : decode cX8_findRounds 4 = .ok (.iconst 0, 1) := by decide +kernel
theorem dX8_findRounds_5 : decode cX8_findRounds 5 = .ok (.istore 5, 2) := by decide +kernel
theorem dX8_findRounds_7 : decode cX8_findRounds 7 = .ok (.iload 5, 2) := by decide +kernel
theorem dX8_findRounds_9 : decode cX8_findRounds 9 = .ok (.aload_n 0, 1) := by decide +kernel
theorem dX8_findRounds_10 : decode cX8_findRounds 10 = .ok (.getfield 39, 3) := by decide +kernel
theorem dX8_findRounds_13 : decode cX8_findRounds 13 = .ok (.getfield 158, 3) := by decide +kernel
theorem dX8_findRounds_16 : decode cX8_findRounds 16 = .ok (.if_icmp .ge 150, 3) := by decide +kernel
theorem dX8_findRounds_19 : decode cX8_findRounds 19 = .ok (.aload_n 0, 1) := by decide +kernel
theorem dX8_findRounds_20 : decode cX8_findRounds 20 = .ok (.getfield 39, 3) := by decide +kernel
theorem dX8_findRounds_23 : decode cX8_findRounds 23 = .ok (.getfield 178, 3) := by decide +kernel
theorem dX8_findRounds_26 : decode cX8_findRounds 26 = .ok (.iload 5, 2) := by decide +kernel
theorem dX8_findRounds_28 : decode cX8_findRounds 28 = .ok (.iaload, 1) := by decide +kernel
theorem dX8_findRounds_29 : decode cX8_findRounds 29 = .ok (.istore 6, 2) := by decide +kernel
theorem dX8_findRounds_31 : decode cX8_findRounds 31 = .ok (.iload 6, 2) := by decide +kernel
theorem dX8_findRounds_33 : decode cX8_findRounds 33 = .ok (.iconst (-1), 1) := by decide +kernel
theorem dX8_findRounds_34 : decode cX8_findRounds 34 = .ok (.if_icmp .eq 126, 3) := by decide +kernel
theorem dX8_findRounds_37 : decode cX8_findRounds 37 = .ok (.iload_n 2, 1) := by decide +kernel
theorem dX8_findRounds_38 : decode cX8_findRounds 38 = .ok (.iload 6, 2) := by decide +kernel
theorem dX8_findRounds_40 : decode cX8_findRounds 40 = .ok (.ishr, 1) := by decide +kernel
theorem dX8_findRounds_41 : decode cX8_findRounds 41 = .ok (.iconst 1, 1) := by decide +kernel
theorem dX8_findRounds_42 : decode cX8_findRounds 42 = .ok (.iand, 1) := by decide +kernel
theorem dX8_findRounds_43 : decode cX8_findRounds 43 = .ok (.ifCond .ne 6, 3) := by decide +kernel
theorem dX8_findRounds_46 : decode cX8_findRounds 46 = .ok (.goto 114, 3) := by decide +kernel
theorem dX8_findRounds_49 : decode cX8_findRounds 49 = .ok (.aload_n 0, 1) := by decide +kernel
theorem dX8_findRounds_50 : decode cX8_findRounds 50 = .ok (.getfield 39, 3) := by decide +kernel
theorem dX8_findRounds_53 : decode cX8_findRounds 53 = .ok (.getfield 192, 3) := by decide +kernel
theorem dX8_findRounds_56 : decode cX8_findRounds 56 = .ok (.iload 5, 2) := by decide +kernel
theorem dX8_findRounds_58 : decode cX8_findRounds 58 = .ok (.iaload, 1) := by decide +kernel
theorem dX8_findRounds_59 : decode cX8_findRounds 59 = .ok (.istore 7, 2) := by decide +kernel
theorem dX8_findRounds_61 : decode cX8_findRounds 61 = .ok (.aload_n 1, 1) := by decide +kernel
theorem dX8_findRounds_62 : decode cX8_findRounds 62 = .ok (.iload 6, 2) := by decide +kernel
theorem dX8_findRounds_64 : decode cX8_findRounds 64 = .ok (.iload 7, 2) := by decide +kernel
theorem dX8_findRounds_66 : decode cX8_findRounds 66 = .ok (.invokevirtual 359, 3) := by decide +kernel
theorem dX8_findRounds_69 : decode cX8_findRounds 69 = .ok (.iconst 0, 1) := by decide +kernel
theorem dX8_findRounds_70 : decode cX8_findRounds 70 = .ok (.istore 8, 2) := by decide +kernel
theorem dX8_findRounds_72 : decode cX8_findRounds 72 = .ok (.iload 8, 2) := by decide +kernel
theorem dX8_findRounds_74 : decode cX8_findRounds 74 = .ok (.aload_n 0, 1) := by decide +kernel
theorem dX8_findRounds_75 : decode cX8_findRounds 75 = .ok (.getfield 19, 3) := by decide +kernel
theorem dX8_findRounds_78 : decode cX8_findRounds 78 = .ok (.getfield 228, 3) := by decide +kernel
theorem dX8_findRounds_81 : decode cX8_findRounds 81 = .ok (.if_icmp .ge 79, 3) := by decide +kernel
theorem dX8_findRounds_84 : decode cX8_findRounds 84 = .ok (.iload 8, 2) := by decide +kernel
theorem dX8_findRounds_86 : decode cX8_findRounds 86 = .ok (.iload 6, 2) := by decide +kernel
theorem dX8_findRounds_88 : decode cX8_findRounds 88 = .ok (.if_icmp .eq 30, 3) := by decide +kernel
theorem dX8_findRounds_91 : decode cX8_findRounds 91 = .ok (.iload_n 2, 1) := by decide +kernel
theorem dX8_findRounds_92 : decode cX8_findRounds 92 = .ok (.iload 8, 2) := by decide +kernel
theorem dX8_findRounds_94 : decode cX8_findRounds 94 = .ok (.ishr, 1) := by decide +kernel
theorem dX8_findRounds_95 : decode cX8_findRounds 95 = .ok (.iconst 1, 1) := by decide +kernel
theorem dX8_findRounds_96 : decode cX8_findRounds 96 = .ok (.iand, 1) := by decide +kernel
theorem dX8_findRounds_97 : decode cX8_findRounds 97 = .ok (.iconst 1, 1) := by decide +kernel
theorem dX8_findRounds_98 : decode cX8_findRounds 98 = .ok (.if_icmp .ne 20, 3) := by decide +kernel
theorem dX8_findRounds_101 : decode cX8_findRounds 101 = .ok (.aload_n 1, 1) := by decide +kernel
theorem dX8_findRounds_102 : decode cX8_findRounds 102 = .ok (.iload 6, 2) := by decide +kernel
theorem dX8_findRounds_104 : decode cX8_findRounds 104 = .ok (.iload 8, 2) := by decide +kernel
theorem dX8_findRounds_106 : decode cX8_findRounds 106 = .ok (.iload 7, 2) := by decide +kernel
theorem dX8_findRounds_108 : decode cX8_findRounds 108 = .ok (.invokevirtual 362, 3) := by decide +kernel
theorem dX8_findRounds_111 : decode cX8_findRounds 111 = .ok (.ifCond .ne 7, 3) := by decide +kernel
theorem dX8_findRounds_114 : decode cX8_findRounds 114 = .ok (.iconst 1, 1) := by decide +kernel
theorem dX8_findRounds_115 : decode cX8_findRounds 115 = .ok (.goto 4, 3) := by decide +kernel
theorem dX8_findRounds_118 : decode cX8_findRounds 118 = .ok (.iconst 0, 1) := by decide +kernel
theorem dX8_findRounds_119 : decode cX8_findRounds 119 = .ok (.istore 9, 2) := by decide +kernel
theorem dX8_findRounds_121 : decode cX8_findRounds 121 = .ok (.iload 9, 2) := by decide +kernel
theorem dX8_findRounds_123 : decode cX8_findRounds 123 = .ok (.ifCond .eq 31, 3) := by decide +kernel
theorem dX8_findRounds_126 : decode cX8_findRounds 126 = .ok (.aload_n 0, 1) := by decide +kernel
theorem dX8_findRounds_127 : decode cX8_findRounds 127 = .ok (.iload 6, 2) := by decide +kernel
theorem dX8_findRounds_129 : decode cX8_findRounds 129 = .ok (.iload 8, 2) := by decide +kernel
theorem dX8_findRounds_131 : decode cX8_findRounds 131 = .ok (.iload 5, 2) := by decide +kernel
theorem dX8_findRounds_133 : decode cX8_findRounds 133 = .ok (.iload_n 3, 1) := by decide +kernel
theorem dX8_findRounds_134 : decode cX8_findRounds 134 = .ok (.iload 4, 2) := by decide +kernel
theorem dX8_findRounds_136 : decode cX8_findRounds 136 = .ok (.invokevirtual 342, 3) := by decide +kernel
theorem dX8_findRounds_139 : decode cX8_findRounds 139 = .ok (.ifCond .eq 15, 3) := by decide +kernel
theorem dX8_findRounds_142 : decode cX8_findRounds 142 = .ok (.aload_n 1, 1) := by decide +kernel
theorem dX8_findRounds_143 : decode cX8_findRounds 143 = .ok (.iload 6, 2) := by decide +kernel
theorem dX8_findRounds_145 : decode cX8_findRounds 145 = .ok (.iload 8, 2) := by decide +kernel
theorem dX8_findRounds_147 : decode cX8_findRounds 147 = .ok (.iconst 1, 1) := by decide +kernel
theorem dX8_findRounds_148 : decode cX8_findRounds 148 = .ok (.iload 7, 2) := by decide +kernel
theorem dX8_findRounds_150 : decode cX8_findRounds 150 = .ok (.ishl, 1) := by decide +kernel
theorem dX8_findRounds_151 : decode cX8_findRounds 151 = .ok (.invokevirtual 365, 3) := by decide +kernel
theorem dX8_findRounds_154 : decode cX8_findRounds 154 = .ok (.iinc 8 1, 3) := by decide +kernel
theorem dX8_findRounds_157 : decode cX8_findRounds 157 = .ok (.goto (-85), 3) := by decide +kernel
theorem dX8_findRounds_160 : decode cX8_findRounds 160 = .ok (.iinc 5 1, 3) := by decide +kernel
theorem dX8_findRounds_163 : decode cX8_findRounds 163 = .ok (.goto (-156), 3) := by decide +kernel
theorem dX8_findRounds_166 : decode cX8_findRounds 166 = .ok (.aload_n 1, 1) := by decide +kernel
theorem dX8_findRounds_167 : decode cX8_findRounds 167 = .ok (.aload_n 0, 1) := by decide +kernel
theorem dX8_findRounds_168 : decode cX8_findRounds 168 = .ok (.getfield 19, 3) := by decide +kernel
theorem dX8_findRounds_171 : decode cX8_findRounds 171 = .ok (.iload_n 2, 1) := by decide +kernel
theorem dX8_findRounds_172 : decode cX8_findRounds 172 = .ok (.invokevirtual 368, 3) := by decide +kernel
theorem dX8_findRounds_175 : decode cX8_findRounds 175 = .ok (.return_, 1) := by decide +kernel
theorem lk_oo_findRounds_119 (F : Nat) (br : Nat) (hbr : g_isRounds br) (v2 : Int32) (v3 : Int32) (v4 : Int32) (v5 : Int32) (v6 : Int32) (v7 : Int32) (v8 : Int32) (s0 : Int32) (K_7 : Int32 → g_St → Option g_St) (hK_7 : ∀ (w5 : Int32) (ν : g_St), g_Go gC 14 yX8_findRounds cX8_findRounds 10 (none : Option Jvm.ClassFile.FieldType) 7 [some (.ref 0), some (.ref br), some (.int v2), some (.int v3), some (.int v4), some (.int w5), none, none, none, none] [] ν (Option.map o_yv (K_7 w5 ν))) (K_72 : Int32 → g_St → Option g_St) (hK_72 : ∀ (w8 : Int32) (ν : g_St), g_Go gC 14 yX8_findRounds cX8_findRounds 10 (none : Option Jvm.ClassFile.FieldType) 72 [some (.ref 0), some (.ref br), some (.int v2), some (.int v3), some (.int v4), some (.int v5), some (.int v6), some (.int v7), some (.int w8), none] [] ν (Option.map o_yv (K_72 w8 ν))) (μ : g_St) : g_Go gC 14 yX8_findRounds cX8_findRounds 10 (none : Option Jvm.ClassFile.FieldType) 119 [some (.ref 0), some (.ref br), some (.int v2), some (.int v3), some (.int v4), some (.int v5), some (.int v6), some (.int v7), some (.int v8), none] [.int s0] μ (Option.map o_yv (oo_findRounds_119 F br K_7 K_72 v2 v3 v4 v5 v6 v7 v8 s0 μ)) := by
  unfold oo_findRounds_119
  refine g_istore (lo2 := [_, _, _, _, _, _, _, _, _, _]) dX8_findRounds_119 (Nat.le_of_ble_eq_true rfl) rfl rfl ?_
  refine g_iload dX8_findRounds_121 rfl ?_
  refine w_if_eq (tgt := 154) dX8_findRounds_123 (by decide) ?_ ?_
  · refine g_iinc (lo2 := [_, _, _, _, _, _, _, _, _, _]) dX8_findRounds_154 rfl rfl (Nat.le_of_ble_eq_true rfl) rfl rfl ?_
    refine g_goto (tgt := 72) dX8_findRounds_157 (by decide) ?_
    exact g_to (hK_72 _ _) (su_s (su_s (su_s (su_s (su_s (su_s (su_s (su_s (su_s (su_n su_0))))))))))
  · refine g_aload_n dX8_findRounds_126 rfl rfl ?_
    refine g_iload dX8_findRounds_127 rfl ?_
    refine g_iload dX8_findRounds_129 rfl ?_
    refine g_iload dX8_findRounds_131 rfl ?_
    refine g_iload_n dX8_findRounds_133 rfl rfl ?_
    refine g_iload dX8_findRounds_134 rfl ?_
    refine w_Vyi [.int _, .int _, .int _, .int _, .int _] dX8_findRounds_136 ml_X8_342 mv_X8_isLawful mc_X8_isLawful cf_X8 ly_Own_lt ly_Own rfl (Nat.le_of_ble_eq_true rfl) (Nat.le_of_ble_eq_true rfl) (Nat.le_of_ble_eq_true rfl) rfl (co_oo_isLawful F _ _ _ _ _ _) (fun q7 => ?_)
    refine w_if_eq (tgt := 154) dX8_findRounds_139 (by decide) ?_ ?_
    · refine g_iinc (lo2 := [_, _, _, _, _, _, _, _, _, _]) dX8_findRounds_154 rfl rfl (Nat.le_of_ble_eq_true rfl) rfl rfl ?_
      refine g_goto (tgt := 72) dX8_findRounds_157 (by decide) ?_
      exact g_to (hK_72 _ _) (su_s (su_s (su_s (su_s (su_s (su_s (su_s (su_s (su_s (su_n su_0))))))))))
    · refine g_aload_n dX8_findRounds_142 rfl rfl ?_
      refine g_iload dX8_findRounds_143 rfl ?_
      refine g_iload dX8_findRounds_145 rfl ?_
      refine g_iconst dX8_findRounds_147 ic_1 ?_
      refine g_iload dX8_findRounds_148 rfl ?_
      refine g_ishl dX8_findRounds_150 ?_
      refine w_Vyv [.int _, .int _, .int _] dX8_findRounds_151 ml_X8_365 mv_X3_allow mc_X3_allow cf_X3 (ly_Rounds_lt hbr) (ly_Rounds hbr) rfl (Nat.le_of_ble_eq_true rfl) (Nat.le_of_ble_eq_true rfl) (Nat.le_of_ble_eq_true rfl) rfl (co_og_allow _ hbr _ _ _ _) (fun μ8 => ?_)
      refine g_iinc (lo2 := [_, _, _, _, _, _, _, _, _, _]) dX8_findRounds_154 rfl rfl (Nat.le_of_ble_eq_true rfl) rfl rfl ?_
      refine g_goto (tgt := 72) dX8_findRounds_157 (by decide) ?_
      exact g_to (hK_72 _ _) (su_s (su_s (su_s (su_s (su_s (su_s (su_s (su_s (su_s (su_n su_0))))))))))
theorem lk_oo_findRounds_118 (F : Nat) (br : Nat) (hbr : g_isRounds br) (v2 : Int32) (v3 : Int32) (v4 : Int32) (v5 : Int32) (v6 : Int32) (v7 : Int32) (v8 : Int32) (K_7 : Int32 → g_St → Option g_St) (hK_7 : ∀ (w5 : Int32) (ν : g_St), g_Go gC 14 yX8_findRounds cX8_findRounds 10 (none : Option Jvm.ClassFile.FieldType) 7 [some (.ref 0), some (.ref br), some (.int v2), some (.int v3), some (.int v4), some (.int w5), none, none, none, none] [] ν (Option.map o_yv (K_7 w5 ν))) (K_72 : Int32 → g_St → Option g_St) (hK_72 : ∀ (w8 : Int32) (ν : g_St), g_Go gC 14 yX8_findRounds cX8_findRounds 10 (none : Option Jvm.ClassFile.FieldType) 72 [some (.ref 0), some (.ref br), some (.int v2), some (.int v3), some (.int v4), some (.int v5), some (.int v6), some (.int v7), some (.int w8), none] [] ν (Option.map o_yv (K_72 w8 ν))) (μ : g_St) : g_Go gC 14 yX8_findRounds cX8_findRounds 10 (none : Option Jvm.ClassFile.FieldType) 118 [some (.ref 0), some (.ref br), some (.int v2), some (.int v3), some (.int v4), some (.int v5), some (.int v6), some (.int v7), some (.int v8), none] [] μ (Option.map o_yv (oo_findRounds_118 F br K_7 K_72 v2 v3 v4 v5 v6 v7 v8 μ)) := by
  unfold oo_findRounds_118
  refine g_iconst dX8_findRounds_118 ic_0 ?_
  exact g_to (lk_oo_findRounds_119 F br hbr _ _ _ _ _ _ _ _ K_7 hK_7 K_72 hK_72 _) (su_s (su_s (su_s (su_s (su_s (su_s (su_s (su_s (su_s (su_n su_0))))))))))
theorem lk_oo_findRounds_72_b (F : Nat) (br : Nat) (hbr : g_isRounds br) (v2 : Int32) (v3 : Int32) (v4 : Int32) (v5 : Int32) (v6 : Int32) (v7 : Int32) (K_7 : Int32 → g_St → Option g_St) (hK_7 : ∀ (w5 : Int32) (ν : g_St), g_Go gC 14 yX8_findRounds cX8_findRounds 10 (none : Option Jvm.ClassFile.FieldType) 7 [some (.ref 0), some (.ref br), some (.int v2), some (.int v3), some (.int v4), some (.int w5), none, none, none, none] [] ν (Option.map o_yv (K_7 w5 ν))) (K_72 : Int32 → g_St → Option g_St) (hK_72 : ∀ (w8 : Int32) (ν : g_St), g_Go gC 14 yX8_findRounds cX8_findRounds 10 (none : Option Jvm.ClassFile.FieldType) 72 [some (.ref 0), some (.ref br), some (.int v2), some (.int v3), some (.int v4), some (.int v5), some (.int v6), some (.int v7), some (.int w8), none] [] ν (Option.map o_yv (K_72 w8 ν))) (v8 : Int32) (μ : g_St) : g_Go gC 14 yX8_findRounds cX8_findRounds 10 (none : Option Jvm.ClassFile.FieldType) 72 [some (.ref 0), some (.ref br), some (.int v2), some (.int v3), some (.int v4), some (.int v5), some (.int v6), some (.int v7), some (.int v8), none] [] μ (Option.map o_yv (oo_findRounds_72_b F br v2 v3 v4 v5 v6 v7 K_7 K_72 v8 μ)) := by
  unfold oo_findRounds_72_b
  refine g_iload dX8_findRounds_72 rfl ?_
  refine g_aload_n dX8_findRounds_74 rfl rfl ?_
  refine w_getql dX8_findRounds_75 cf_X8 fl_X8_19 ly_Own_lt ly_Own rfl (Nat.le_of_ble_eq_true rfl) (fun b5 hb5 => ?_)
  refine g_getI dX8_findRounds_78 cf_X1 fl_X8_228 (ly_Land_lt hb5) (ly_Land hb5) rfl (Nat.le_of_ble_eq_true rfl) ?_
  refine w_icmp_ge (tgt := 160) dX8_findRounds_81 (by decide) ?_ ?_
  · refine g_iload dX8_findRounds_84 rfl ?_
    refine g_iload dX8_findRounds_86 rfl ?_
    refine w_icmp_eq (tgt := 118) dX8_findRounds_88 (by decide) ?_ ?_
    · exact g_to (lk_oo_findRounds_118 F br hbr _ _ _ _ _ _ _ K_7 hK_7 K_72 hK_72 _) (su_s (su_s (su_s (su_s (su_s (su_s (su_s (su_s (su_s (su_n su_0))))))))))
    · refine g_iload_n dX8_findRounds_91 rfl rfl ?_
      refine g_iload dX8_findRounds_92 rfl ?_
      refine g_ishr dX8_findRounds_94 ?_
      refine g_iconst dX8_findRounds_95 ic_1 ?_
      refine g_iand dX8_findRounds_96 ?_
      refine g_iconst dX8_findRounds_97 ic_1 ?_
      refine w_icmp_ne (tgt := 118) dX8_findRounds_98 (by decide) ?_ ?_
      · refine g_aload_n dX8_findRounds_101 rfl rfl ?_
        refine g_iload dX8_findRounds_102 rfl ?_
        refine g_iload dX8_findRounds_104 rfl ?_
        refine g_iload dX8_findRounds_106 rfl ?_
        refine w_Vxi [.int _, .int _, .int _] dX8_findRounds_108 ml_X8_362 mv_X3_mayGive mc_X3_mayGive cf_X3 (ly_Rounds_lt hbr) (ly_Rounds hbr) rfl (Nat.le_of_ble_eq_true rfl) (Nat.le_of_ble_eq_true rfl) (Nat.le_of_ble_eq_true rfl) rfl (co_og_mayGive _ hbr _ _ _ _) (fun x6 => ?_)
        refine w_if_ne (tgt := 118) dX8_findRounds_111 (by decide) ?_ ?_
        · refine g_iconst dX8_findRounds_114 ic_1 ?_
          refine g_goto (tgt := 119) dX8_findRounds_115 (by decide) ?_
          exact g_to (lk_oo_findRounds_119 F br hbr _ _ _ _ _ _ _ _ K_7 hK_7 K_72 hK_72 _) (su_s (su_s (su_s (su_s (su_s (su_s (su_s (su_s (su_s (su_n su_0))))))))))
        · exact g_to (lk_oo_findRounds_118 F br hbr _ _ _ _ _ _ _ K_7 hK_7 K_72 hK_72 _) (su_s (su_s (su_s (su_s (su_s (su_s (su_s (su_s (su_s (su_n su_0))))))))))
      · exact g_to (lk_oo_findRounds_118 F br hbr _ _ _ _ _ _ _ K_7 hK_7 K_72 hK_72 _) (su_s (su_s (su_s (su_s (su_s (su_s (su_s (su_s (su_s (su_n su_0))))))))))
  · refine g_iinc (lo2 := [_, _, _, _, _, _, _, _, _, _]) dX8_findRounds_160 rfl rfl (Nat.le_of_ble_eq_true rfl) rfl rfl ?_
    refine g_goto (tgt := 7) dX8_findRounds_163 (by decide) ?_
    exact g_to (hK_7 _ _) (su_s (su_s (su_s (su_s (su_s (su_s (su_n (su_n (su_n (su_n su_0))))))))))
theorem lk_oo_findRounds_72 (F : Nat) (br : Nat) (hbr : g_isRounds br) (v2 : Int32) (v3 : Int32) (v4 : Int32) (v5 : Int32) (v6 : Int32) (v7 : Int32) (K_7 : Int32 → g_St → Option g_St) (hK_7 : ∀ (w5 : Int32) (ν : g_St), g_Go gC 14 yX8_findRounds cX8_findRounds 10 (none : Option Jvm.ClassFile.FieldType) 7 [some (.ref 0), some (.ref br), some (.int v2), some (.int v3), some (.int v4), some (.int w5), none, none, none, none] [] ν (Option.map o_yv (K_7 w5 ν))) : ∀ (f : Nat) (v8 : Int32) (μ : g_St) , g_Go gC 14 yX8_findRounds cX8_findRounds 10 (none : Option Jvm.ClassFile.FieldType) 72 [some (.ref 0), some (.ref br), some (.int v2), some (.int v3), some (.int v4), some (.int v5), some (.int v6), some (.int v7), some (.int v8), none] [] μ (Option.map o_yv (oo_findRounds_72 F br v2 v3 v4 v5 v6 v7 K_7 f v8 μ))
  | 0, v8, μ => g_none
  | f + 1, v8, μ => lk_oo_findRounds_72_b F br hbr v2 v3 v4 v5 v6 v7 K_7 hK_7 (oo_findRounds_72 F br v2 v3 v4 v5 v6 v7 K_7 f) (lk_oo_findRounds_72 F br hbr v2 v3 v4 v5 v6 v7 K_7 hK_7 f) v8 μ
theorem lk_oo_findRounds_7_b (F : Nat) (br : Nat) (hbr : g_isRounds br) (v2 : Int32) (v3 : Int32) (v4 : Int32) (K_7 : Int32 → g_St → Option g_St) (hK_7 : ∀ (w5 : Int32) (ν : g_St), g_Go gC 14 yX8_findRounds cX8_findRounds 10 (none : Option Jvm.ClassFile.FieldType) 7 [some (.ref 0), some (.ref br), some (.int v2), some (.int v3), some (.int v4), some (.int w5), none, none, none, none] [] ν (Option.map o_yv (K_7 w5 ν))) (v5 : Int32) (μ : g_St) : g_Go gC 14 yX8_findRounds cX8_findRounds 10 (none : Option Jvm.ClassFile.FieldType) 7 [some (.ref 0), some (.ref br), some (.int v2), some (.int v3), some (.int v4), some (.int v5), none, none, none, none] [] μ (Option.map o_yv (oo_findRounds_7_b F br v2 v3 v4 K_7 v5 μ)) := by
  unfold oo_findRounds_7_b
  refine g_iload dX8_findRounds_7 rfl ?_
  refine g_aload_n dX8_findRounds_9 rfl rfl ?_
  refine g_getS dX8_findRounds_10 cf_X8 fl_X8_39 ly_Own_lt ly_Own rfl (Nat.le_of_ble_eq_true rfl) ?_
  refine g_getI dX8_findRounds_13 cf_X7 fl_X8_158 (ly_Week_lt (Or.inl rfl)) (ly_Week (Or.inl rfl)) rfl (Nat.le_of_ble_eq_true rfl) ?_
  refine w_icmp_ge (tgt := 166) dX8_findRounds_16 (by decide) ?_ ?_
  · refine g_aload_n dX8_findRounds_19 rfl rfl ?_
    refine g_getS dX8_findRounds_20 cf_X8 fl_X8_39 ly_Own_lt ly_Own rfl (Nat.le_of_ble_eq_true rfl) ?_
    refine g_getS dX8_findRounds_23 cf_X7 fl_X8_178 (ly_Week_lt (Or.inl rfl)) (ly_Week (Or.inl rfl)) rfl (Nat.le_of_ble_eq_true rfl) ?_
    refine g_iload dX8_findRounds_26 rfl ?_
    refine w_iald dX8_findRounds_28 (ly_Week_holder_lt (Or.inl rfl)) (ly_Week_holder (Or.inl rfl)) (fun x2 => ?_)
    refine g_istore (lo2 := [_, _, _, _, _, _, _, _, _, _]) dX8_findRounds_29 (Nat.le_of_ble_eq_true rfl) rfl rfl ?_
    refine g_iload dX8_findRounds_31 rfl ?_
    refine g_iconst dX8_findRounds_33 ic_m1 ?_
    refine w_icmp_eq (tgt := 160) dX8_findRounds_34 (by decide) ?_ ?_
    · refine g_iinc (lo2 := [_, _, _, _, _, _, _, _, _, _]) dX8_findRounds_160 rfl rfl (Nat.le_of_ble_eq_true rfl) rfl rfl ?_
      refine g_goto (tgt := 7) dX8_findRounds_163 (by decide) ?_
      exact g_to (hK_7 _ _) (su_s (su_s (su_s (su_s (su_s (su_s (su_n (su_n (su_n (su_n su_0))))))))))
    · refine g_iload_n dX8_findRounds_37 rfl rfl ?_
      refine g_iload dX8_findRounds_38 rfl ?_
      refine g_ishr dX8_findRounds_40 ?_
      refine g_iconst dX8_findRounds_41 ic_1 ?_
      refine g_iand dX8_findRounds_42 ?_
      refine w_if_ne (tgt := 49) dX8_findRounds_43 (by decide) ?_ ?_
      · refine g_goto (tgt := 160) dX8_findRounds_46 (by decide) ?_
        refine g_iinc (lo2 := [_, _, _, _, _, _, _, _, _, _]) dX8_findRounds_160 rfl rfl (Nat.le_of_ble_eq_true rfl) rfl rfl ?_
        refine g_goto (tgt := 7) dX8_findRounds_163 (by decide) ?_
        exact g_to (hK_7 _ _) (su_s (su_s (su_s (su_s (su_s (su_s (su_n (su_n (su_n (su_n su_0))))))))))
      · refine g_aload_n dX8_findRounds_49 rfl rfl ?_
        refine g_getS dX8_findRounds_50 cf_X8 fl_X8_39 ly_Own_lt ly_Own rfl (Nat.le_of_ble_eq_true rfl) ?_
        refine g_getS dX8_findRounds_53 cf_X7 fl_X8_192 (ly_Week_lt (Or.inl rfl)) (ly_Week (Or.inl rfl)) rfl (Nat.le_of_ble_eq_true rfl) ?_
        refine g_iload dX8_findRounds_56 rfl ?_
        refine w_iald dX8_findRounds_58 (ly_Week_good_lt (Or.inl rfl)) (ly_Week_good (Or.inl rfl)) (fun x3 => ?_)
        refine g_istore (lo2 := [_, _, _, _, _, _, _, _, _, _]) dX8_findRounds_59 (Nat.le_of_ble_eq_true rfl) rfl rfl ?_
        refine g_aload_n dX8_findRounds_61 rfl rfl ?_
        refine g_iload dX8_findRounds_62 rfl ?_
        refine g_iload dX8_findRounds_64 rfl ?_
        refine w_Vyv [.int _, .int _] dX8_findRounds_66 ml_X8_359 mv_X3_hold mc_X3_hold cf_X3 (ly_Rounds_lt hbr) (ly_Rounds hbr) rfl (Nat.le_of_ble_eq_true rfl) (Nat.le_of_ble_eq_true rfl) (Nat.le_of_ble_eq_true rfl) rfl (co_og_hold _ hbr _ _ _) (fun μ4 => ?_)
        refine g_iconst dX8_findRounds_69 ic_0 ?_
        refine g_istore (lo2 := [_, _, _, _, _, _, _, _, _, _]) dX8_findRounds_70 (Nat.le_of_ble_eq_true rfl) rfl rfl ?_
        exact g_to (lk_oo_findRounds_72 F br hbr _ _ _ _ _ _ K_7 hK_7 _ _ _) (su_s (su_s (su_s (su_s (su_s (su_s (su_s (su_s (su_s (su_n su_0))))))))))
  · refine g_aload_n dX8_findRounds_166 rfl rfl ?_
    refine g_aload_n dX8_findRounds_167 rfl rfl ?_
    refine w_getql dX8_findRounds_168 cf_X8 fl_X8_19 ly_Own_lt ly_Own rfl (Nat.le_of_ble_eq_true rfl) (fun b9 hb9 => ?_)
    refine g_iload_n dX8_findRounds_171 rfl rfl ?_
    refine w_Vyv [.ref _, .int _] dX8_findRounds_172 ml_X8_368 mv_X3_find mc_X3_find cf_X3 (ly_Rounds_lt hbr) (ly_Rounds hbr) rfl (Nat.le_of_ble_eq_true rfl) (Nat.le_of_ble_eq_true rfl) (Nat.le_of_ble_eq_true rfl) rfl (co_og_find F _ hbr _ hb9 _ _) (fun μ10 => ?_)
    exact w_vret dX8_findRounds_175 rfl rfl
theorem lk_oo_findRounds_7 (F : Nat) (br : Nat) (hbr : g_isRounds br) (v2 : Int32) (v3 : Int32) (v4 : Int32) : ∀ (f : Nat) (v5 : Int32) (μ : g_St) , g_Go gC 14 yX8_findRounds cX8_findRounds 10 (none : Option Jvm.ClassFile.FieldType) 7 [some (.ref 0), some (.ref br), some (.int v2), some (.int v3), some (.int v4), some (.int v5), none, none, none, none] [] μ (Option.map o_yv (oo_findRounds_7 F br v2 v3 v4 f v5 μ))
  | 0, v5, μ => g_none
  | f + 1, v5, μ => lk_oo_findRounds_7_b F br hbr v2 v3 v4 (oo_findRounds_7 F br v2 v3 v4 f) (lk_oo_findRounds_7 F br hbr v2 v3 v4 f) v5 μ
theorem lk_oo_findRounds (F : Nat) (br : Nat) (hbr : g_isRounds br) (v2 : Int32) (v3 : Int32) (v4 : Int32) (μ : g_St) : g_Go gC 14 yX8_findRounds cX8_findRounds 10 (none : Option Jvm.ClassFile.FieldType) 0 [some (.ref 0), some (.ref br), some (.int v2), some (.int v3), some (.int v4), none, none, none, none, none] [] μ (Option.map o_yv (oo_findRounds F br v2 v3 v4 μ)) := by
  unfold oo_findRounds
  refine g_aload_n dX8_findRounds_0 rfl rfl ?_
  refine w_Vyv [] dX8_findRounds_1 ml_X8_356 mv_X3_clear mc_X3_clear cf_X3 (ly_Rounds_lt hbr) (ly_Rounds hbr) rfl (Nat.le_of_ble_eq_true rfl) (Nat.le_of_ble_eq_true rfl) (Nat.le_of_ble_eq_true rfl) rfl (co_og_clear F _ hbr _) (fun μ1 => ?_)
  refine g_iconst dX8_findRounds_4 ic_0 ?_
  refine g_istore (lo2 := [_, _, _, _, _, _, _, _, _, _]) dX8_findRounds_5 (Nat.le_of_ble_eq_true rfl) rfl rfl ?_
  exact g_to (lk_oo_findRounds_7 F br hbr _ _ _ _ _ _) (su_s (su_s (su_s (su_s (su_s (su_s (su_n (su_n (su_n (su_n su_0))))))))))
theorem co_oo_findRounds (F : Nat) (br : Nat) (hbr : g_isRounds br) (v2 : Int32) (v3 : Int32) (v4 : Int32) (μ : g_St) : g_Con gC 14 yX8_findRounds cX8_findRounds 10 (none : Option Jvm.ClassFile.FieldType) [.ref 0, .ref br, .int v2, .int v3, .int v4] μ (g_yv (oo_findRounds F br v2 v3 v4 μ)) := g_conOf mc_X8_findRounds.2.2.2.2 (Nat.le_of_ble_eq_true rfl) rfl g_yv_rk (lk_oo_findRounds F br hbr v2 v3 v4 μ)
theorem dX8_anywhere_0 : decode cX8_anywhere 0 = .ok (.aload_n 0, 1) := by decide +kernel
theorem dX8_anywhere_1 : decode cX8_anywhere 1 = .ok (.getfield 95, 3) := by decide +kernel
theorem dX8_anywhere_4 : decode cX8_anywhere 4 = .ok (.ifCond .ne 28, 3) := by decide +kernel
theorem dX8_anywhere_7 : decode cX8_anywhere 7 = .ok (.aload_n 0, 1) := by decide +kernel
theorem dX8_anywhere_8 : decode cX8_anywhere 8 = .ok (.aload_n 0, 1) := by decide +kernel
theorem dX8_anywhere_9 : decode cX8_anywhere 9 = .ok (.getfield 54, 3) := by decide +kernel
theorem dX8_anywhere_12 : decode cX8_anywhere 12 = .ok (.aload_n 0, 1) := by decide +kernel
theorem dX8_anywhere_13 : decode cX8_anywhere 13 = .ok (.invokevirtual 244, 3) := by decide +kernel
theorem dX8_anywhere_16 : decode cX8_anywhere 16 = .ok (.iconst 0, 1) := by decide +kernel
theorem dX8_anywhere_17 : decode cX8_anywhere 17 = .ok (.aload_n 0, 1) := by decide +kernel
theorem dX8_anywhere_18 : decode cX8_anywhere 18 = .ok (.getfield 39, 3) := by decide +kernel
theorem dX8_anywhere_21 : decode cX8_anywhere 21 = .ok (.getfield 231, 3) := by decide +kernel
theorem dX8_anywhere_24 : decode cX8_anywhere 24 = .ok (.invokevirtual 234, 3) := by decide +kernel
theorem dX8_anywhere_27 : decode cX8_anywhere 27 = .ok (.aload_n 0, 1) := by decide +kernel
theorem dX8_anywhere_28 : decode cX8_anywhere 28 = .ok (.iconst 1, 1) := by decide +kernel
theorem dX8_anywhere_29 : decode cX8_anywhere 29 = .ok (.putfield 95, 3) := by decide +kernel
theorem dX8_anywhere_32 : decode cX8_anywhere 32 = .ok (.aload_n 0, 1) := by decide +kernel
theorem dX8_anywhere_33 : decode cX8_anywhere 33 = .ok (.getfield 54, 3) := by decide +kernel
theorem dX8_anywhere_36 : decode cX8_anywhere 36 = .ok (.areturn, 1) := by decide +kernel
theorem lk_oo_anywhere (F : Nat) (μ : g_St) : g_Go gC 15 yX8_anywhere cX8_anywhere 1 (Option.some (.object "OwnMade$Rounds")) 0 [some (.ref 0)] [] μ (Option.map (o_yr 71) (oo_anywhere F μ)) := by
  unfold oo_anywhere
  refine g_aload_n dX8_anywhere_0 rfl rfl ?_
  refine g_getI dX8_anywhere_1 cf_X8 fl_X8_95 ly_Own_lt ly_Own rfl (Nat.le_of_ble_eq_true rfl) ?_
  refine w_if_ne (tgt := 32) dX8_anywhere_4 (by decide) ?_ ?_
  · refine g_aload_n dX8_anywhere_7 rfl rfl ?_
    refine g_aload_n dX8_anywhere_8 rfl rfl ?_
    refine g_getS dX8_anywhere_9 cf_X8 fl_X8_54 ly_Own_lt ly_Own rfl (Nat.le_of_ble_eq_true rfl) ?_
    refine g_aload_n dX8_anywhere_12 rfl rfl ?_
    refine w_Vxi [] dX8_anywhere_13 ml_X8_244 mv_X8_everybody mc_X8_everybody cf_X8 ly_Own_lt ly_Own rfl (Nat.le_of_ble_eq_true rfl) (Nat.le_of_ble_eq_true rfl) (Nat.le_of_ble_eq_true rfl) rfl (co_oo_everybody _) (fun x1 => ?_)
    refine g_iconst dX8_anywhere_16 ic_0 ?_
    refine g_aload_n dX8_anywhere_17 rfl rfl ?_
    refine g_getS dX8_anywhere_18 cf_X8 fl_X8_39 ly_Own_lt ly_Own rfl (Nat.le_of_ble_eq_true rfl) ?_
    refine g_getI dX8_anywhere_21 cf_X7 fl_X8_231 (ly_Week_lt (Or.inl rfl)) (ly_Week (Or.inl rfl)) rfl (Nat.le_of_ble_eq_true rfl) ?_
    refine w_Vyv [.ref _, .int _, .int _, .int _] dX8_anywhere_24 ml_X8_234 mv_X8_findRounds mc_X8_findRounds cf_X8 ly_Own_lt ly_Own rfl (Nat.le_of_ble_eq_true rfl) (Nat.le_of_ble_eq_true rfl) (Nat.le_of_ble_eq_true rfl) rfl (co_oo_findRounds F _ (Or.inl rfl) _ _ _ _) (fun μ2 => ?_)
    refine g_aload_n dX8_anywhere_27 rfl rfl ?_
    refine g_iconst dX8_anywhere_28 ic_1 ?_
    refine w_putI dX8_anywhere_29 cf_X8 fl_X8_95 ly_Own_lt ly_Own rfl (Nat.le_of_ble_eq_true rfl) rfl rfl (by decide) (by decide) (fun μ3 => ?_)
    refine g_aload_n dX8_anywhere_32 rfl rfl ?_
    refine g_getS dX8_anywhere_33 cf_X8 fl_X8_54 ly_Own_lt ly_Own rfl (Nat.le_of_ble_eq_true rfl) ?_
    exact w_aret dX8_anywhere_36 rfl rfl
  · refine g_aload_n dX8_anywhere_32 rfl rfl ?_
    refine g_getS dX8_anywhere_33 cf_X8 fl_X8_54 ly_Own_lt ly_Own rfl (Nat.le_of_ble_eq_true rfl) ?_
    exact w_aret dX8_anywhere_36 rfl rfl
theorem co_oo_anywhere (F : Nat) (μ : g_St) : g_Con gC 15 yX8_anywhere cX8_anywhere 1 (Option.some (.object "OwnMade$Rounds")) [.ref 0] μ (g_yr 71 (oo_anywhere F μ)) := g_conOf mc_X8_anywhere.2.2.2.2 (Nat.le_of_ble_eq_true rfl) rfl g_yr_rk (lk_oo_anywhere F μ)
theorem dX8_round_0 : decode cX8_round 0 = .ok (.aload_n 0, 1) := by decide +kernel
theorem dX8_round_1 : decode cX8_round 1 = .ok (.iload_n 1, 1) := by decide +kernel
theorem dX8_round_2 : decode cX8_round 2 = .ok (.invokevirtual 209, 3) := by decide +kernel
theorem dX8_round_5 : decode cX8_round 5 = .ok (.ifCond .eq 15, 3) := by decide +kernel
theorem dX8_round_8 : decode cX8_round 8 = .ok (.aload_n 0, 1) := by decide +kernel
theorem dX8_round_9 : decode cX8_round 9 = .ok (.invokevirtual 212, 3) := by decide +kernel
theorem dX8_round_12 : decode cX8_round 12 = .ok (.getfield 216, 3) := by decide +kernel
theorem dX8_round_15 : decode cX8_round 15 = .ok (.iload_n 1, 1) := by decide +kernel
theorem dX8_round_16 : decode cX8_round 16 = .ok (.iaload, 1) := by decide +kernel
theorem dX8_round_17 : decode cX8_round 17 = .ok (.goto 4, 3) := by decide +kernel
theorem dX8_round_20 : decode cX8_round 20 = .ok (.iconst (-1), 1) := by decide +kernel
theorem dX8_round_21 : decode cX8_round 21 = .ok (.ireturn, 1) := by decide +kernel
theorem lk_oo_round (F : Nat) (v1 : Int32) (μ : g_St) : g_Go gC 16 yX8_round cX8_round 2 (some .int) 0 [some (.ref 0), some (.int v1)] [] μ (Option.map o_yi (oo_round F v1 μ)) := by
  unfold oo_round
  refine g_aload_n dX8_round_0 rfl rfl ?_
  refine g_iload_n dX8_round_1 rfl rfl ?_
  refine w_Vxi [.int _] dX8_round_2 ml_X8_209 mv_X8_isSet mc_X8_isSet cf_X8 ly_Own_lt ly_Own rfl (Nat.le_of_ble_eq_true rfl) (Nat.le_of_ble_eq_true rfl) (Nat.le_of_ble_eq_true rfl) rfl (co_oo_isSet _ _) (fun x1 => ?_)
  refine w_if_eq (tgt := 20) dX8_round_5 (by decide) ?_ ?_
  · refine g_iconst dX8_round_20 ic_m1 ?_
    exact w_iret dX8_round_21 rfl rfl
  · refine g_aload_n dX8_round_8 rfl rfl ?_
    refine w_Vyr [] dX8_round_9 ml_X8_212 mv_X8_anywhere mc_X8_anywhere cf_X8 ly_Own_lt ly_Own rfl (Nat.le_of_ble_eq_true rfl) (Nat.le_of_ble_eq_true rfl) (Nat.le_of_ble_eq_true rfl) rfl (co_oo_anywhere F _) (fun μ2 => ?_)
    refine g_getS dX8_round_12 cf_X3 fl_X8_216 (ly_Rounds_lt (Or.inl rfl)) (ly_Rounds (Or.inl rfl)) rfl (Nat.le_of_ble_eq_true rfl) ?_
    refine g_iload_n dX8_round_15 rfl rfl ?_
    refine w_iald dX8_round_16 (ly_Rounds_best_lt (Or.inl rfl)) (ly_Rounds_best (Or.inl rfl)) (fun x3 => ?_)
    refine g_goto (tgt := 21) dX8_round_17 (by decide) ?_
    exact w_iret dX8_round_21 rfl rfl
theorem co_oo_round (F : Nat) (v1 : Int32) (μ : g_St) : g_Con gC 16 yX8_round cX8_round 2 (some .int) [.ref 0, .int v1] μ (g_yi (oo_round F v1 μ)) := g_conOf mc_X8_round.2.2.2.2 (Nat.le_of_ble_eq_true rfl) rfl (g_yi_rk (Or.inl rfl)) (lk_oo_round F v1 μ)
theorem dX8_most_0 : decode cX8_most 0 = .ok (.aload_n 0, 1) := by decide +kernel
theorem dX8_most_1 : decode cX8_most 1 = .ok (.iload_n 1, 1) := by decide +kernel
theorem dX8_most_2 : decode cX8_most 2 = .ok (.invokevirtual 209, 3) := by decide +kernel
theorem dX8_most_5 : decode cX8_most 5 = .ok (.ifCond .eq 12, 3) := by decide +kernel
theorem dX8_most_8 : decode cX8_most 8 = .ok (.iload_n 2, 1) := by decide +kernel
theorem dX8_most_9 : decode cX8_most 9 = .ok (.ifCond .lt 8, 3) := by decide +kernel
theorem dX8_most_12 : decode cX8_most 12 = .ok (.iload_n 2, 1) := by decide +kernel
theorem dX8_most_13 : decode cX8_most 13 = .ok (.iconst 2, 1) := by decide +kernel
theorem dX8_most_14 : decode cX8_most 14 = .ok (.if_icmp .le 5, 3) := by decide +kernel
theorem dX8_most_17 : decode cX8_most 17 = .ok (.iconst (-1), 1) := by decide +kernel
theorem dX8_most_18 : decode cX8_most 18 = .ok (.ireturn, 1) := by decide +kernel
theorem dX8_most_19 : decode cX8_most 19 = .ok (.aload_n 0, 1) := by decide +kernel
theorem dX8_most_20 : decode cX8_most 20 = .ok (.invokevirtual 212, 3) := by decide +kernel
theorem dX8_most_23 : decode cX8_most 23 = .ok (.astore_n 3, 1) := by decide +kernel
theorem dX8_most_24 : decode cX8_most 24 = .ok (.iload_n 2, 1) := by decide +kernel
theorem dX8_most_25 : decode cX8_most 25 = .ok (.ifCond .ne 12, 3) := by decide +kernel
theorem dX8_most_28 : decode cX8_most 28 = .ok (.aload_n 3, 1) := by decide +kernel
theorem dX8_most_29 : decode cX8_most 29 = .ok (.getfield 219, 3) := by decide +kernel
theorem dX8_most_32 : decode cX8_most 32 = .ok (.iload_n 1, 1) := by decide +kernel
theorem dX8_most_33 : decode cX8_most 33 = .ok (.iaload, 1) := by decide +kernel
theorem dX8_most_34 : decode cX8_most 34 = .ok (.goto 23, 3) := by decide +kernel
theorem dX8_most_37 : decode cX8_most 37 = .ok (.iload_n 2, 1) := by decide +kernel
theorem dX8_most_38 : decode cX8_most 38 = .ok (.iconst 1, 1) := by decide +kernel
theorem dX8_most_39 : decode cX8_most 39 = .ok (.if_icmp .ne 12, 3) := by decide +kernel
theorem dX8_most_42 : decode cX8_most 42 = .ok (.aload_n 3, 1) := by decide +kernel
theorem dX8_most_43 : decode cX8_most 43 = .ok (.getfield 222, 3) := by decide +kernel
theorem dX8_most_46 : decode cX8_most 46 = .ok (.iload_n 1, 1) := by decide +kernel
theorem dX8_most_47 : decode cX8_most 47 = .ok (.iaload, 1) := by decide +kernel
theorem dX8_most_48 : decode cX8_most 48 = .ok (.goto 9, 3) := by decide +kernel
theorem dX8_most_51 : decode cX8_most 51 = .ok (.aload_n 3, 1) := by decide +kernel
theorem dX8_most_52 : decode cX8_most 52 = .ok (.getfield 225, 3) := by decide +kernel
theorem dX8_most_55 : decode cX8_most 55 = .ok (.iload_n 1, 1) := by decide +kernel
theorem dX8_most_56 : decode cX8_most 56 = .ok (.iaload, 1) := by decide +kernel
theorem dX8_most_57 : decode cX8_most 57 = .ok (.ireturn, 1) := by decide +kernel
theorem lk_oo_most (F : Nat) (v1 : Int32) (v2 : Int32) (μ : g_St) : g_Go gC 16 yX8_most cX8_most 4 (some .int) 0 [some (.ref 0), some (.int v1), some (.int v2), none] [] μ (Option.map o_yi (oo_most F v1 v2 μ)) := by
  unfold oo_most
  refine g_aload_n dX8_most_0 rfl rfl ?_
  refine g_iload_n dX8_most_1 rfl rfl ?_
  refine w_Vxi [.int _] dX8_most_2 ml_X8_209 mv_X8_isSet mc_X8_isSet cf_X8 ly_Own_lt ly_Own rfl (Nat.le_of_ble_eq_true rfl) (Nat.le_of_ble_eq_true rfl) (Nat.le_of_ble_eq_true rfl) rfl (co_oo_isSet _ _) (fun x1 => ?_)
  refine w_if_eq (tgt := 17) dX8_most_5 (by decide) ?_ ?_
  · refine g_iconst dX8_most_17 ic_m1 ?_
    exact w_iret dX8_most_18 rfl rfl
  · refine g_iload_n dX8_most_8 rfl rfl ?_
    refine w_if_lt (tgt := 17) dX8_most_9 (by decide) ?_ ?_
    · refine g_iload_n dX8_most_12 rfl rfl ?_
      refine g_iconst dX8_most_13 ic_2 ?_
      refine w_icmp_le (tgt := 19) dX8_most_14 (by decide) ?_ ?_
      · refine g_iconst dX8_most_17 ic_m1 ?_
        exact w_iret dX8_most_18 rfl rfl
      · refine g_aload_n dX8_most_19 rfl rfl ?_
        refine w_Vyr [] dX8_most_20 ml_X8_212 mv_X8_anywhere mc_X8_anywhere cf_X8 ly_Own_lt ly_Own rfl (Nat.le_of_ble_eq_true rfl) (Nat.le_of_ble_eq_true rfl) (Nat.le_of_ble_eq_true rfl) rfl (co_oo_anywhere F _) (fun μ2 => ?_)
        refine g_astore_n (lo2 := [_, _, _, _]) dX8_most_23 rfl (Nat.le_of_ble_eq_true rfl) rfl rfl ?_
        refine g_iload_n dX8_most_24 rfl rfl ?_
        refine w_if_ne (tgt := 37) dX8_most_25 (by decide) ?_ ?_
        · refine g_aload_n dX8_most_28 rfl rfl ?_
          refine g_getS dX8_most_29 cf_X3 fl_X8_219 (ly_Rounds_lt (Or.inl rfl)) (ly_Rounds (Or.inl rfl)) rfl (Nat.le_of_ble_eq_true rfl) ?_
          refine g_iload_n dX8_most_32 rfl rfl ?_
          refine w_iald dX8_most_33 (ly_Rounds_worth_lt (Or.inl rfl)) (ly_Rounds_worth (Or.inl rfl)) (fun x3 => ?_)
          refine g_goto (tgt := 57) dX8_most_34 (by decide) ?_
          exact w_iret dX8_most_57 rfl rfl
        · refine g_iload_n dX8_most_37 rfl rfl ?_
          refine g_iconst dX8_most_38 ic_1 ?_
          refine w_icmp_ne (tgt := 51) dX8_most_39 (by decide) ?_ ?_
          · refine g_aload_n dX8_most_42 rfl rfl ?_
            refine g_getS dX8_most_43 cf_X3 fl_X8_222 (ly_Rounds_lt (Or.inl rfl)) (ly_Rounds (Or.inl rfl)) rfl (Nat.le_of_ble_eq_true rfl) ?_
            refine g_iload_n dX8_most_46 rfl rfl ?_
            refine w_iald dX8_most_47 (ly_Rounds_many_lt (Or.inl rfl)) (ly_Rounds_many (Or.inl rfl)) (fun x4 => ?_)
            refine g_goto (tgt := 57) dX8_most_48 (by decide) ?_
            exact w_iret dX8_most_57 rfl rfl
          · refine g_aload_n dX8_most_51 rfl rfl ?_
            refine g_getS dX8_most_52 cf_X3 fl_X8_225 (ly_Rounds_lt (Or.inl rfl)) (ly_Rounds (Or.inl rfl)) rfl (Nat.le_of_ble_eq_true rfl) ?_
            refine g_iload_n dX8_most_55 rfl rfl ?_
            refine w_iald dX8_most_56 (ly_Rounds_within_lt (Or.inl rfl)) (ly_Rounds_within (Or.inl rfl)) (fun x5 => ?_)
            exact w_iret dX8_most_57 rfl rfl
    · refine g_iconst dX8_most_17 ic_m1 ?_
      exact w_iret dX8_most_18 rfl rfl
theorem co_oo_most (F : Nat) (v1 : Int32) (v2 : Int32) (μ : g_St) : g_Con gC 16 yX8_most cX8_most 4 (some .int) [.ref 0, .int v1, .int v2] μ (g_yi (oo_most F v1 v2 μ)) := g_conOf mc_X8_most.2.2.2.2 (Nat.le_of_ble_eq_true rfl) rfl (g_yi_rk (Or.inl rfl)) (lk_oo_most F v1 v2 μ)
theorem dX8_at_0 : decode cX8_at 0 = .ok (.aload_n 0, 1) := by decide +kernel
theorem dX8_at_1 : decode cX8_at 1 = .ok (.iload_n 1, 1) := by decide +kernel
theorem dX8_at_2 : decode cX8_at 2 = .ok (.invokevirtual 104, 3) := by decide +kernel
theorem dX8_at_5 : decode cX8_at 5 = .ok (.ifCond .ne 5, 3) := by decide +kernel
theorem dX8_at_8 : decode cX8_at 8 = .ok (.iconst (-1), 1) := by decide +kernel
theorem dX8_at_9 : decode cX8_at 9 = .ok (.ireturn, 1) := by decide +kernel
theorem dX8_at_10 : decode cX8_at 10 = .ok (.iconst 0, 1) := by decide +kernel
theorem dX8_at_11 : decode cX8_at 11 = .ok (.istore_n 2, 1) := by decide +kernel
theorem dX8_at_12 : decode cX8_at 12 = .ok (.iconst 0, 1) := by decide +kernel
theorem dX8_at_13 : decode cX8_at 13 = .ok (.istore_n 3, 1) := by decide +kernel
theorem dX8_at_14 : decode cX8_at 14 = .ok (.iconst 0, 1) := by decide +kernel
theorem dX8_at_15 : decode cX8_at 15 = .ok (.istore 4, 2) := by decide +kernel
theorem dX8_at_17 : decode cX8_at 17 = .ok (.iload 4, 2) := by decide +kernel
theorem dX8_at_19 : decode cX8_at 19 = .ok (.aload_n 0, 1) := by decide +kernel
theorem dX8_at_20 : decode cX8_at 20 = .ok (.getfield 19, 3) := by decide +kernel
theorem dX8_at_23 : decode cX8_at 23 = .ok (.getfield 228, 3) := by decide +kernel
theorem dX8_at_26 : decode cX8_at 26 = .ok (.if_icmp .ge 51, 3) := by decide +kernel
theorem dX8_at_29 : decode cX8_at 29 = .ok (.aload_n 0, 1) := by decide +kernel
theorem dX8_at_30 : decode cX8_at 30 = .ok (.getfield 39, 3) := by decide +kernel
theorem dX8_at_33 : decode cX8_at 33 = .ok (.getfield 135, 3) := by decide +kernel
theorem dX8_at_36 : decode cX8_at 36 = .ok (.iload 4, 2) := by decide +kernel
theorem dX8_at_38 : decode cX8_at 38 = .ok (.iaload, 1) := by decide +kernel
theorem dX8_at_39 : decode cX8_at 39 = .ok (.iload_n 1, 1) := by decide +kernel
theorem dX8_at_40 : decode cX8_at 40 = .ok (.if_icmp .ne 10, 3) := by decide +kernel
theorem dX8_at_43 : decode cX8_at 43 = .ok (.iload_n 2, 1) := by decide +kernel
theorem dX8_at_44 : decode cX8_at 44 = .ok (.iconst 1, 1) := by decide +kernel
theorem dX8_at_45 : decode cX8_at 45 = .ok (.iload 4, 2) := by decide +kernel
theorem dX8_at_47 : decode cX8_at 47 = .ok (.ishl, 1) := by decide +kernel
theorem dX8_at_48 : decode cX8_at 48 = .ok (.ior, 1) := by decide +kernel
theorem dX8_at_49 : decode cX8_at 49 = .ok (.istore_n 2, 1) := by decide +kernel
theorem dX8_at_50 : decode cX8_at 50 = .ok (.aload_n 0, 1) := by decide +kernel
theorem dX8_at_51 : decode cX8_at 51 = .ok (.getfield 19, 3) := by decide +kernel
theorem dX8_at_54 : decode cX8_at 54 = .ok (.getfield 132, 3) := by decide +kernel
theorem dX8_at_57 : decode cX8_at 57 = .ok (.iload 4, 2) := by decide +kernel
theorem dX8_at_59 : decode cX8_at 59 = .ok (.iaload, 1) := by decide +kernel
theorem dX8_at_60 : decode cX8_at 60 = .ok (.iload_n 1, 1) := by decide +kernel
theorem dX8_at_61 : decode cX8_at 61 = .ok (.if_icmp .ne 10, 3) := by decide +kernel
theorem dX8_at_64 : decode cX8_at 64 = .ok (.iload_n 3, 1) := by decide +kernel
theorem dX8_at_65 : decode cX8_at 65 = .ok (.iconst 1, 1) := by decide +kernel
theorem dX8_at_66 : decode cX8_at 66 = .ok (.iload 4, 2) := by decide +kernel
theorem dX8_at_68 : decode cX8_at 68 = .ok (.ishl, 1) := by decide +kernel
theorem dX8_at_69 : decode cX8_at 69 = .ok (.ior, 1) := by decide +kernel
theorem dX8_at_70 : decode cX8_at 70 = .ok (.istore_n 3, 1) := by decide +kernel
theorem dX8_at_71 : decode cX8_at 71 = .ok (.iinc 4 1, 3) := by decide +kernel
theorem dX8_at_74 : decode cX8_at 74 = .ok (.goto (-57), 3) := by decide +kernel
theorem dX8_at_77 : decode cX8_at 77 = .ok (.aload_n 0, 1) := by decide +kernel
theorem dX8_at_78 : decode cX8_at 78 = .ok (.aload_n 0, 1) := by decide +kernel
theorem dX8_at_79 : decode cX8_at 79 = .ok (.getfield 58, 3) := by decide +kernel
theorem dX8_at_82 : decode cX8_at 82 = .ok (.iload_n 2, 1) := by decide +kernel
theorem dX8_at_83 : decode cX8_at 83 = .ok (.iload_n 3, 1) := by decide +kernel
theorem dX8_at_84 : decode cX8_at 84 = .ok (.aload_n 0, 1) := by decide +kernel
theorem dX8_at_85 : decode cX8_at 85 = .ok (.getfield 39, 3) := by decide +kernel
theorem dX8_at_88 : decode cX8_at 88 = .ok (.getfield 231, 3) := by decide +kernel
theorem dX8_at_91 : decode cX8_at 91 = .ok (.invokevirtual 234, 3) := by decide +kernel
theorem dX8_at_94 : decode cX8_at 94 = .ok (.aload_n 0, 1) := by decide +kernel
theorem dX8_at_95 : decode cX8_at 95 = .ok (.getfield 58, 3) := by decide +kernel
theorem dX8_at_98 : decode cX8_at 98 = .ok (.getfield 219, 3) := by decide +kernel
theorem dX8_at_101 : decode cX8_at 101 = .ok (.iload_n 2, 1) := by decide +kernel
theorem dX8_at_102 : decode cX8_at 102 = .ok (.iaload, 1) := by decide +kernel
theorem dX8_at_103 : decode cX8_at 103 = .ok (.ireturn, 1) := by decide +kernel
theorem lk_oo_at_50 (F : Nat) (v1 : Int32) (v2 : Int32) (v3 : Int32) (v4 : Int32) (K_17 : Int32 → Int32 → Int32 → g_St → Option (Int32 × g_St)) (hK_17 : ∀ (w2 : Int32) (w3 : Int32) (w4 : Int32) (ν : g_St), g_Go gC 15 yX8_at cX8_at 5 (some .int) 17 [some (.ref 0), some (.int v1), some (.int w2), some (.int w3), some (.int w4)] [] ν (Option.map o_yi (K_17 w2 w3 w4 ν))) (μ : g_St) : g_Go gC 15 yX8_at cX8_at 5 (some .int) 50 [some (.ref 0), some (.int v1), some (.int v2), some (.int v3), some (.int v4)] [] μ (Option.map o_yi (oo_at_50 F K_17 v1 v2 v3 v4 μ)) := by
  unfold oo_at_50
  refine g_aload_n dX8_at_50 rfl rfl ?_
  refine w_getql dX8_at_51 cf_X8 fl_X8_19 ly_Own_lt ly_Own rfl (Nat.le_of_ble_eq_true rfl) (fun b5 hb5 => ?_)
  refine g_getS dX8_at_54 cf_X1 fl_X8_132 (ly_Land_lt hb5) (ly_Land hb5) rfl (Nat.le_of_ble_eq_true rfl) ?_
  refine g_iload dX8_at_57 rfl ?_
  refine w_iald dX8_at_59 (ly_Land_home_lt hb5) (ly_Land_home hb5) (fun x6 => ?_)
  refine g_iload_n dX8_at_60 rfl rfl ?_
  refine w_icmp_ne (tgt := 71) dX8_at_61 (by decide) ?_ ?_
  · refine g_iload_n dX8_at_64 rfl rfl ?_
    refine g_iconst dX8_at_65 ic_1 ?_
    refine g_iload dX8_at_66 rfl ?_
    refine g_ishl dX8_at_68 ?_
    refine g_ior dX8_at_69 ?_
    refine w_istore_n (lo2 := fun _ => [_, _, _, _, _]) dX8_at_70 rfl (Nat.le_of_ble_eq_true rfl) rfl (fun _ => rfl) (fun x7 => ?_)
    refine g_iinc (lo2 := [_, _, _, _, _]) dX8_at_71 rfl rfl (Nat.le_of_ble_eq_true rfl) rfl rfl ?_
    refine g_goto (tgt := 17) dX8_at_74 (by decide) ?_
    exact g_to (hK_17 _ _ _ _) (su_s (su_s (su_s (su_s (su_s su_0)))))
  · refine g_iinc (lo2 := [_, _, _, _, _]) dX8_at_71 rfl rfl (Nat.le_of_ble_eq_true rfl) rfl rfl ?_
    refine g_goto (tgt := 17) dX8_at_74 (by decide) ?_
    exact g_to (hK_17 _ _ _ _) (su_s (su_s (su_s (su_s (su_s su_0)))))
theorem lk_oo_at_17_b (F : Nat) (v1 : Int32) (K_17 : Int32 → Int32 → Int32 → g_St → Option (Int32 × g_St)) (hK_17 : ∀ (w2 : Int32) (w3 : Int32) (w4 : Int32) (ν : g_St), g_Go gC 15 yX8_at cX8_at 5 (some .int) 17 [some (.ref 0), some (.int v1), some (.int w2), some (.int w3), some (.int w4)] [] ν (Option.map o_yi (K_17 w2 w3 w4 ν))) (v2 : Int32) (v3 : Int32) (v4 : Int32) (μ : g_St) : g_Go gC 15 yX8_at cX8_at 5 (some .int) 17 [some (.ref 0), some (.int v1), some (.int v2), some (.int v3), some (.int v4)] [] μ (Option.map o_yi (oo_at_17_b F v1 K_17 v2 v3 v4 μ)) := by
  unfold oo_at_17_b
  refine g_iload dX8_at_17 rfl ?_
  refine g_aload_n dX8_at_19 rfl rfl ?_
  refine w_getql dX8_at_20 cf_X8 fl_X8_19 ly_Own_lt ly_Own rfl (Nat.le_of_ble_eq_true rfl) (fun b2 hb2 => ?_)
  refine g_getI dX8_at_23 cf_X1 fl_X8_228 (ly_Land_lt hb2) (ly_Land hb2) rfl (Nat.le_of_ble_eq_true rfl) ?_
  refine w_icmp_ge (tgt := 77) dX8_at_26 (by decide) ?_ ?_
  · refine g_aload_n dX8_at_29 rfl rfl ?_
    refine g_getS dX8_at_30 cf_X8 fl_X8_39 ly_Own_lt ly_Own rfl (Nat.le_of_ble_eq_true rfl) ?_
    refine g_getS dX8_at_33 cf_X7 fl_X8_135 (ly_Week_lt (Or.inl rfl)) (ly_Week (Or.inl rfl)) rfl (Nat.le_of_ble_eq_true rfl) ?_
    refine g_iload dX8_at_36 rfl ?_
    refine w_iald dX8_at_38 (ly_Week_place_lt (Or.inl rfl)) (ly_Week_place (Or.inl rfl)) (fun x3 => ?_)
    refine g_iload_n dX8_at_39 rfl rfl ?_
    refine w_icmp_ne (tgt := 50) dX8_at_40 (by decide) ?_ ?_
    · refine g_iload_n dX8_at_43 rfl rfl ?_
      refine g_iconst dX8_at_44 ic_1 ?_
      refine g_iload dX8_at_45 rfl ?_
      refine g_ishl dX8_at_47 ?_
      refine g_ior dX8_at_48 ?_
      refine w_istore_n (lo2 := fun _ => [_, _, _, _, _]) dX8_at_49 rfl (Nat.le_of_ble_eq_true rfl) rfl (fun _ => rfl) (fun x4 => ?_)
      exact g_to (lk_oo_at_50 F _ _ _ _ K_17 hK_17 _) (su_s (su_s (su_s (su_s (su_s su_0)))))
    · exact g_to (lk_oo_at_50 F _ _ _ _ K_17 hK_17 _) (su_s (su_s (su_s (su_s (su_s su_0)))))
  · refine g_aload_n dX8_at_77 rfl rfl ?_
    refine g_aload_n dX8_at_78 rfl rfl ?_
    refine g_getS dX8_at_79 cf_X8 fl_X8_58 ly_Own_lt ly_Own rfl (Nat.le_of_ble_eq_true rfl) ?_
    refine g_iload_n dX8_at_82 rfl rfl ?_
    refine g_iload_n dX8_at_83 rfl rfl ?_
    refine g_aload_n dX8_at_84 rfl rfl ?_
    refine g_getS dX8_at_85 cf_X8 fl_X8_39 ly_Own_lt ly_Own rfl (Nat.le_of_ble_eq_true rfl) ?_
    refine g_getI dX8_at_88 cf_X7 fl_X8_231 (ly_Week_lt (Or.inl rfl)) (ly_Week (Or.inl rfl)) rfl (Nat.le_of_ble_eq_true rfl) ?_
    refine w_Vyv [.ref _, .int _, .int _, .int _] dX8_at_91 ml_X8_234 mv_X8_findRounds mc_X8_findRounds cf_X8 ly_Own_lt ly_Own rfl (Nat.le_of_ble_eq_true rfl) (Nat.le_of_ble_eq_true rfl) (Nat.le_of_ble_eq_true rfl) rfl (co_oo_findRounds F _ (Or.inr rfl) _ _ _ _) (fun μ8 => ?_)
    refine g_aload_n dX8_at_94 rfl rfl ?_
    refine g_getS dX8_at_95 cf_X8 fl_X8_58 ly_Own_lt ly_Own rfl (Nat.le_of_ble_eq_true rfl) ?_
    refine g_getS dX8_at_98 cf_X3 fl_X8_219 (ly_Rounds_lt (Or.inr rfl)) (ly_Rounds (Or.inr rfl)) rfl (Nat.le_of_ble_eq_true rfl) ?_
    refine g_iload_n dX8_at_101 rfl rfl ?_
    refine w_iald dX8_at_102 (ly_Rounds_worth_lt (Or.inr rfl)) (ly_Rounds_worth (Or.inr rfl)) (fun x9 => ?_)
    exact w_iret dX8_at_103 rfl rfl
theorem lk_oo_at_17 (F : Nat) (v1 : Int32) : ∀ (f : Nat) (v2 : Int32) (v3 : Int32) (v4 : Int32) (μ : g_St) , g_Go gC 15 yX8_at cX8_at 5 (some .int) 17 [some (.ref 0), some (.int v1), some (.int v2), some (.int v3), some (.int v4)] [] μ (Option.map o_yi (oo_at_17 F v1 f v2 v3 v4 μ))
  | 0, v2, v3, v4, μ => g_none
  | f + 1, v2, v3, v4, μ => lk_oo_at_17_b F v1 (oo_at_17 F v1 f) (lk_oo_at_17 F v1 f) v2 v3 v4 μ
theorem lk_oo_at (F : Nat) (v1 : Int32) (μ : g_St) : g_Go gC 15 yX8_at cX8_at 5 (some .int) 0 [some (.ref 0), some (.int v1), none, none, none] [] μ (Option.map o_yi (oo_at F v1 μ)) := by
  unfold oo_at
  refine g_aload_n dX8_at_0 rfl rfl ?_
  refine g_iload_n dX8_at_1 rfl rfl ?_
  refine w_Vxi [.int _] dX8_at_2 ml_X8_104 mv_X8_isPlace mc_X8_isPlace cf_X8 ly_Own_lt ly_Own rfl (Nat.le_of_ble_eq_true rfl) (Nat.le_of_ble_eq_true rfl) (Nat.le_of_ble_eq_true rfl) rfl (co_oo_isPlace _ _) (fun x1 => ?_)
  refine w_if_ne (tgt := 10) dX8_at_5 (by decide) ?_ ?_
  · refine g_iconst dX8_at_8 ic_m1 ?_
    exact w_iret dX8_at_9 rfl rfl
  · refine g_iconst dX8_at_10 ic_0 ?_
    refine g_istore_n (lo2 := [_, _, _, _, _]) dX8_at_11 rfl (Nat.le_of_ble_eq_true rfl) rfl rfl ?_
    refine g_iconst dX8_at_12 ic_0 ?_
    refine g_istore_n (lo2 := [_, _, _, _, _]) dX8_at_13 rfl (Nat.le_of_ble_eq_true rfl) rfl rfl ?_
    refine g_iconst dX8_at_14 ic_0 ?_
    refine g_istore (lo2 := [_, _, _, _, _]) dX8_at_15 (Nat.le_of_ble_eq_true rfl) rfl rfl ?_
    exact g_to (lk_oo_at_17 F _ _ _ _ _ _) (su_s (su_s (su_s (su_s (su_s su_0)))))
theorem co_oo_at (F : Nat) (v1 : Int32) (μ : g_St) : g_Con gC 15 yX8_at cX8_at 5 (some .int) [.ref 0, .int v1] μ (g_yi (oo_at F v1 μ)) := g_conOf mc_X8_at.2.2.2.2 (Nat.le_of_ble_eq_true rfl) rfl (g_yi_rk (Or.inl rfl)) (lk_oo_at F v1 μ)
theorem dX8_length_0 : decode cX8_length 0 = .ok (.aload_n 0, 1) := by decide +kernel
theorem dX8_length_1 : decode cX8_length 1 = .ok (.iload_n 1, 1) := by decide +kernel
theorem dX8_length_2 : decode cX8_length 2 = .ok (.invokevirtual 209, 3) := by decide +kernel
theorem dX8_length_5 : decode cX8_length 5 = .ok (.ifCond .eq 14, 3) := by decide +kernel
theorem dX8_length_8 : decode cX8_length 8 = .ok (.aload_n 0, 1) := by decide +kernel
theorem dX8_length_9 : decode cX8_length 9 = .ok (.invokevirtual 212, 3) := by decide +kernel
theorem dX8_length_12 : decode cX8_length 12 = .ok (.iload_n 1, 1) := by decide +kernel
theorem dX8_length_13 : decode cX8_length 13 = .ok (.invokevirtual 238, 3) := by decide +kernel
theorem dX8_length_16 : decode cX8_length 16 = .ok (.goto 4, 3) := by decide +kernel
theorem dX8_length_19 : decode cX8_length 19 = .ok (.iconst (-1), 1) := by decide +kernel
theorem dX8_length_20 : decode cX8_length 20 = .ok (.ireturn, 1) := by decide +kernel
theorem lk_oo_length (F : Nat) (v1 : Int32) (μ : g_St) : g_Go gC 16 yX8_length cX8_length 2 (some .int) 0 [some (.ref 0), some (.int v1)] [] μ (Option.map o_yi (oo_length F v1 μ)) := by
  unfold oo_length
  refine g_aload_n dX8_length_0 rfl rfl ?_
  refine g_iload_n dX8_length_1 rfl rfl ?_
  refine w_Vxi [.int _] dX8_length_2 ml_X8_209 mv_X8_isSet mc_X8_isSet cf_X8 ly_Own_lt ly_Own rfl (Nat.le_of_ble_eq_true rfl) (Nat.le_of_ble_eq_true rfl) (Nat.le_of_ble_eq_true rfl) rfl (co_oo_isSet _ _) (fun x1 => ?_)
  refine w_if_eq (tgt := 19) dX8_length_5 (by decide) ?_ ?_
  · refine g_iconst dX8_length_19 ic_m1 ?_
    exact w_iret dX8_length_20 rfl rfl
  · refine g_aload_n dX8_length_8 rfl rfl ?_
    refine w_Vyr [] dX8_length_9 ml_X8_212 mv_X8_anywhere mc_X8_anywhere cf_X8 ly_Own_lt ly_Own rfl (Nat.le_of_ble_eq_true rfl) (Nat.le_of_ble_eq_true rfl) (Nat.le_of_ble_eq_true rfl) rfl (co_oo_anywhere F _) (fun μ2 => ?_)
    refine g_iload_n dX8_length_12 rfl rfl ?_
    refine w_Vxi [.int _] dX8_length_13 ml_X8_238 mv_X3_shortestIn mc_X3_shortestIn cf_X3 (ly_Rounds_lt (Or.inl rfl)) (ly_Rounds (Or.inl rfl)) rfl (Nat.le_of_ble_eq_true rfl) (Nat.le_of_ble_eq_true rfl) (Nat.le_of_ble_eq_true rfl) rfl (co_og_shortestIn F _ (Or.inl rfl) _ _) (fun x3 => ?_)
    refine g_goto (tgt := 20) dX8_length_16 (by decide) ?_
    exact w_iret dX8_length_20 rfl rfl
theorem co_oo_length (F : Nat) (v1 : Int32) (μ : g_St) : g_Con gC 16 yX8_length cX8_length 2 (some .int) [.ref 0, .int v1] μ (g_yi (oo_length F v1 μ)) := g_conOf mc_X8_length.2.2.2.2 (Nat.le_of_ble_eq_true rfl) rfl (g_yi_rk (Or.inl rfl)) (lk_oo_length F v1 μ)
theorem dX8_canLive_0 : decode cX8_canLive 0 = .ok (.iload_n 1, 1) := by decide +kernel
theorem dX8_canLive_1 : decode cX8_canLive 1 = .ok (.iconst 1, 1) := by decide +kernel
theorem dX8_canLive_2 : decode cX8_canLive 2 = .ok (.if_icmp .lt 42, 3) := by decide +kernel
theorem dX8_canLive_5 : decode cX8_canLive 5 = .ok (.iload_n 1, 1) := by decide +kernel
theorem dX8_canLive_6 : decode cX8_canLive 6 = .ok (.bipush 8, 2) := by decide +kernel
theorem dX8_canLive_8 : decode cX8_canLive 8 = .ok (.if_icmp .gt 36, 3) := by decide +kernel
theorem dX8_canLive_11 : decode cX8_canLive 11 = .ok (.aload_n 0, 1) := by decide +kernel
theorem dX8_canLive_12 : decode cX8_canLive 12 = .ok (.getfield 19, 3) := by decide +kernel
theorem dX8_canLive_15 : decode cX8_canLive 15 = .ok (.getfield 228, 3) := by decide +kernel
theorem dX8_canLive_18 : decode cX8_canLive 18 = .ok (.ifCond .le 26, 3) := by decide +kernel
theorem dX8_canLive_21 : decode cX8_canLive 21 = .ok (.aload_n 0, 1) := by decide +kernel
theorem dX8_canLive_22 : decode cX8_canLive 22 = .ok (.getfield 19, 3) := by decide +kernel
theorem dX8_canLive_25 : decode cX8_canLive 25 = .ok (.getfield 228, 3) := by decide +kernel
theorem dX8_canLive_28 : decode cX8_canLive 28 = .ok (.iload_n 1, 1) := by decide +kernel
theorem dX8_canLive_29 : decode cX8_canLive 29 = .ok (.aload_n 0, 1) := by decide +kernel
theorem dX8_canLive_30 : decode cX8_canLive 30 = .ok (.getfield 19, 3) := by decide +kernel
theorem dX8_canLive_33 : decode cX8_canLive 33 = .ok (.getfield 248, 3) := by decide +kernel
theorem dX8_canLive_36 : decode cX8_canLive 36 = .ok (.imul, 1) := by decide +kernel
theorem dX8_canLive_37 : decode cX8_canLive 37 = .ok (.if_icmp .gt 7, 3) := by decide +kernel
theorem dX8_canLive_40 : decode cX8_canLive 40 = .ok (.iconst 1, 1) := by decide +kernel
theorem dX8_canLive_41 : decode cX8_canLive 41 = .ok (.goto 4, 3) := by decide +kernel
theorem dX8_canLive_44 : decode cX8_canLive 44 = .ok (.iconst 0, 1) := by decide +kernel
theorem dX8_canLive_45 : decode cX8_canLive 45 = .ok (.ireturn, 1) := by decide +kernel
theorem lk_oo_canLive (μ : g_St) (v1 : Int32) : g_Go gC 0 yX8_canLive cX8_canLive 2 (some .boolean) 0 [some (.ref 0), some (.int v1)] [] μ (Option.map (o_i μ) (oo_canLive μ v1)) := by
  unfold oo_canLive
  refine g_iload_n dX8_canLive_0 rfl rfl ?_
  refine g_iconst dX8_canLive_1 ic_1 ?_
  refine w_icmp_lt (tgt := 44) dX8_canLive_2 (by decide) ?_ ?_
  · refine g_iload_n dX8_canLive_5 rfl rfl ?_
    refine g_bipush dX8_canLive_6 bp_8 ?_
    refine w_icmp_gt (tgt := 44) dX8_canLive_8 (by decide) ?_ ?_
    · refine g_aload_n dX8_canLive_11 rfl rfl ?_
      refine w_getql dX8_canLive_12 cf_X8 fl_X8_19 ly_Own_lt ly_Own rfl (Nat.le_of_ble_eq_true rfl) (fun b1 hb1 => ?_)
      refine g_getI dX8_canLive_15 cf_X1 fl_X8_228 (ly_Land_lt hb1) (ly_Land hb1) rfl (Nat.le_of_ble_eq_true rfl) ?_
      refine w_if_le (tgt := 44) dX8_canLive_18 (by decide) ?_ ?_
      · refine g_aload_n dX8_canLive_21 rfl rfl ?_
        refine w_getql dX8_canLive_22 cf_X8 fl_X8_19 ly_Own_lt ly_Own rfl (Nat.le_of_ble_eq_true rfl) (fun b2 hb2 => ?_)
        refine g_getI dX8_canLive_25 cf_X1 fl_X8_228 (ly_Land_lt hb2) (ly_Land hb2) rfl (Nat.le_of_ble_eq_true rfl) ?_
        refine g_iload_n dX8_canLive_28 rfl rfl ?_
        refine g_aload_n dX8_canLive_29 rfl rfl ?_
        refine w_getql dX8_canLive_30 cf_X8 fl_X8_19 ly_Own_lt ly_Own rfl (Nat.le_of_ble_eq_true rfl) (fun b3 hb3 => ?_)
        refine g_getI dX8_canLive_33 cf_X1 fl_X8_248 (ly_Land_lt hb3) (ly_Land hb3) rfl (Nat.le_of_ble_eq_true rfl) ?_
        refine g_imul dX8_canLive_36 ?_
        refine w_icmp_gt (tgt := 44) dX8_canLive_37 (by decide) ?_ ?_
        · refine g_iconst dX8_canLive_40 ic_1 ?_
          refine g_goto (tgt := 45) dX8_canLive_41 (by decide) ?_
          exact w_iret dX8_canLive_45 (by decide) rfl
        · refine g_iconst dX8_canLive_44 ic_0 ?_
          exact w_iret dX8_canLive_45 (by decide) rfl
      · refine g_iconst dX8_canLive_44 ic_0 ?_
        exact w_iret dX8_canLive_45 (by decide) rfl
    · refine g_iconst dX8_canLive_44 ic_0 ?_
      exact w_iret dX8_canLive_45 (by decide) rfl
  · refine g_iconst dX8_canLive_44 ic_0 ?_
    exact w_iret dX8_canLive_45 (by decide) rfl
theorem co_oo_canLive (μ : g_St) (v1 : Int32) : g_Con gC 0 yX8_canLive cX8_canLive 2 (some .boolean) [.ref 0, .int v1] μ (g_xi μ (oo_canLive μ v1)) := g_conOf mc_X8_canLive.2.2.2.2 (Nat.le_of_ble_eq_true rfl) rfl (g_xi_rk (Or.inr (Or.inl rfl))) (lk_oo_canLive μ v1)
theorem dX8_live_0 : decode cX8_live 0 = .ok (.aload_n 0, 1) := by decide +kernel
theorem dX8_live_1 : decode cX8_live 1 = .ok (.iload_n 1, 1) := by decide +kernel
theorem dX8_live_2 : decode cX8_live 2 = .ok (.invokevirtual 241, 3) := by decide +kernel
theorem dX8_live_5 : decode cX8_live 5 = .ok (.ifCond .eq 12, 3) := by decide +kernel
theorem dX8_live_8 : decode cX8_live 8 = .ok (.iload_n 2, 1) := by decide +kernel
theorem dX8_live_9 : decode cX8_live 9 = .ok (.ifCond .lt 8, 3) := by decide +kernel
theorem dX8_live_12 : decode cX8_live 12 = .ok (.iload_n 2, 1) := by decide +kernel
theorem dX8_live_13 : decode cX8_live 13 = .ok (.iconst 1, 1) := by decide +kernel
theorem dX8_live_14 : decode cX8_live 14 = .ok (.if_icmp .le 5, 3) := by decide +kernel
theorem dX8_live_17 : decode cX8_live 17 = .ok (.iconst (-1), 1) := by decide +kernel
theorem dX8_live_18 : decode cX8_live 18 = .ok (.ireturn, 1) := by decide +kernel
theorem dX8_live_19 : decode cX8_live 19 = .ok (.aload_n 0, 1) := by decide +kernel
theorem dX8_live_20 : decode cX8_live 20 = .ok (.getfield 64, 3) := by decide +kernel
theorem dX8_live_23 : decode cX8_live 23 = .ok (.aload_n 0, 1) := by decide +kernel
theorem dX8_live_24 : decode cX8_live 24 = .ok (.invokevirtual 212, 3) := by decide +kernel
theorem dX8_live_27 : decode cX8_live 27 = .ok (.getfield 219, 3) := by decide +kernel
theorem dX8_live_30 : decode cX8_live 30 = .ok (.aload_n 0, 1) := by decide +kernel
theorem dX8_live_31 : decode cX8_live 31 = .ok (.invokevirtual 244, 3) := by decide +kernel
theorem dX8_live_34 : decode cX8_live 34 = .ok (.iload_n 1, 1) := by decide +kernel
theorem dX8_live_35 : decode cX8_live 35 = .ok (.aload_n 0, 1) := by decide +kernel
theorem dX8_live_36 : decode cX8_live 36 = .ok (.getfield 19, 3) := by decide +kernel
theorem dX8_live_39 : decode cX8_live 39 = .ok (.getfield 248, 3) := by decide +kernel
theorem dX8_live_42 : decode cX8_live 42 = .ok (.invokevirtual 251, 3) := by decide +kernel
theorem dX8_live_45 : decode cX8_live 45 = .ok (.iload_n 2, 1) := by decide +kernel
theorem dX8_live_46 : decode cX8_live 46 = .ok (.ifCond .ne 13, 3) := by decide +kernel
theorem dX8_live_49 : decode cX8_live 49 = .ok (.aload_n 0, 1) := by decide +kernel
theorem dX8_live_50 : decode cX8_live 50 = .ok (.getfield 64, 3) := by decide +kernel
theorem dX8_live_53 : decode cX8_live 53 = .ok (.getfield 255, 3) := by decide +kernel
theorem dX8_live_56 : decode cX8_live 56 = .ok (.goto 10, 3) := by decide +kernel
theorem dX8_live_59 : decode cX8_live 59 = .ok (.aload_n 0, 1) := by decide +kernel
theorem dX8_live_60 : decode cX8_live 60 = .ok (.getfield 64, 3) := by decide +kernel
theorem dX8_live_63 : decode cX8_live 63 = .ok (.getfield 258, 3) := by decide +kernel
theorem dX8_live_66 : decode cX8_live 66 = .ok (.ireturn, 1) := by decide +kernel
theorem lk_oo_live (F : Nat) (v1 : Int32) (v2 : Int32) (μ : g_St) : g_Go gC 16 yX8_live cX8_live 3 (some .int) 0 [some (.ref 0), some (.int v1), some (.int v2)] [] μ (Option.map o_yi (oo_live F v1 v2 μ)) := by
  unfold oo_live
  refine g_aload_n dX8_live_0 rfl rfl ?_
  refine g_iload_n dX8_live_1 rfl rfl ?_
  refine w_Vxi [.int _] dX8_live_2 ml_X8_241 mv_X8_canLive mc_X8_canLive cf_X8 ly_Own_lt ly_Own rfl (Nat.le_of_ble_eq_true rfl) (Nat.le_of_ble_eq_true rfl) (Nat.le_of_ble_eq_true rfl) rfl (co_oo_canLive _ _) (fun x1 => ?_)
  refine w_if_eq (tgt := 17) dX8_live_5 (by decide) ?_ ?_
  · refine g_iconst dX8_live_17 ic_m1 ?_
    exact w_iret dX8_live_18 rfl rfl
  · refine g_iload_n dX8_live_8 rfl rfl ?_
    refine w_if_lt (tgt := 17) dX8_live_9 (by decide) ?_ ?_
    · refine g_iload_n dX8_live_12 rfl rfl ?_
      refine g_iconst dX8_live_13 ic_1 ?_
      refine w_icmp_le (tgt := 19) dX8_live_14 (by decide) ?_ ?_
      · refine g_iconst dX8_live_17 ic_m1 ?_
        exact w_iret dX8_live_18 rfl rfl
      · refine g_aload_n dX8_live_19 rfl rfl ?_
        refine g_getS dX8_live_20 cf_X8 fl_X8_64 ly_Own_lt ly_Own rfl (Nat.le_of_ble_eq_true rfl) ?_
        refine g_aload_n dX8_live_23 rfl rfl ?_
        refine w_Vyr [] dX8_live_24 ml_X8_212 mv_X8_anywhere mc_X8_anywhere cf_X8 ly_Own_lt ly_Own rfl (Nat.le_of_ble_eq_true rfl) (Nat.le_of_ble_eq_true rfl) (Nat.le_of_ble_eq_true rfl) rfl (co_oo_anywhere F _) (fun μ2 => ?_)
        refine g_getS dX8_live_27 cf_X3 fl_X8_219 (ly_Rounds_lt (Or.inl rfl)) (ly_Rounds (Or.inl rfl)) rfl (Nat.le_of_ble_eq_true rfl) ?_
        refine g_aload_n dX8_live_30 rfl rfl ?_
        refine w_Vxi [] dX8_live_31 ml_X8_244 mv_X8_everybody mc_X8_everybody cf_X8 ly_Own_lt ly_Own rfl (Nat.le_of_ble_eq_true rfl) (Nat.le_of_ble_eq_true rfl) (Nat.le_of_ble_eq_true rfl) rfl (co_oo_everybody _) (fun x3 => ?_)
        refine g_iload_n dX8_live_34 rfl rfl ?_
        refine g_aload_n dX8_live_35 rfl rfl ?_
        refine w_getql dX8_live_36 cf_X8 fl_X8_19 ly_Own_lt ly_Own rfl (Nat.le_of_ble_eq_true rfl) (fun b4 hb4 => ?_)
        refine g_getI dX8_live_39 cf_X1 fl_X8_248 (ly_Land_lt hb4) (ly_Land hb4) rfl (Nat.le_of_ble_eq_true rfl) ?_
        refine w_Vyv [.ref _, .int _, .int _, .int _] dX8_live_42 ml_X8_251 mv_X0_fill mc_X0_fill cf_X0 ly_Homes_lt ly_Homes rfl (Nat.le_of_ble_eq_true rfl) (Nat.le_of_ble_eq_true rfl) (Nat.le_of_ble_eq_true rfl) rfl (co_oh_fill F _ _ _ _) (fun μ5 => ?_)
        refine g_iload_n dX8_live_45 rfl rfl ?_
        refine w_if_ne (tgt := 59) dX8_live_46 (by decide) ?_ ?_
        · refine g_aload_n dX8_live_49 rfl rfl ?_
          refine g_getS dX8_live_50 cf_X8 fl_X8_64 ly_Own_lt ly_Own rfl (Nat.le_of_ble_eq_true rfl) ?_
          refine g_getI dX8_live_53 cf_X0 fl_X8_255 ly_Homes_lt ly_Homes rfl (Nat.le_of_ble_eq_true rfl) ?_
          refine g_goto (tgt := 66) dX8_live_56 (by decide) ?_
          exact w_iret dX8_live_66 rfl rfl
        · refine g_aload_n dX8_live_59 rfl rfl ?_
          refine g_getS dX8_live_60 cf_X8 fl_X8_64 ly_Own_lt ly_Own rfl (Nat.le_of_ble_eq_true rfl) ?_
          refine g_getI dX8_live_63 cf_X0 fl_X8_258 ly_Homes_lt ly_Homes rfl (Nat.le_of_ble_eq_true rfl) ?_
          exact w_iret dX8_live_66 rfl rfl
    · refine g_iconst dX8_live_17 ic_m1 ?_
      exact w_iret dX8_live_18 rfl rfl
theorem co_oo_live (F : Nat) (v1 : Int32) (v2 : Int32) (μ : g_St) : g_Con gC 16 yX8_live cX8_live 3 (some .int) [.ref 0, .int v1, .int v2] μ (g_yi (oo_live F v1 v2 μ)) := g_conOf mc_X8_live.2.2.2.2 (Nat.le_of_ble_eq_true rfl) rfl (g_yi_rk (Or.inl rfl)) (lk_oo_live F v1 v2 μ)
theorem dX8_beside_0 : decode cX8_beside 0 = .ok (.aload_n 0, 1) := by decide +kernel
theorem dX8_beside_1 : decode cX8_beside 1 = .ok (.iload_n 1, 1) := by decide +kernel
theorem dX8_beside_2 : decode cX8_beside 2 = .ok (.invokevirtual 241, 3) := by decide +kernel
theorem dX8_beside_5 : decode cX8_beside 5 = .ok (.ifCond .eq 12, 3) := by decide +kernel
theorem dX8_beside_8 : decode cX8_beside 8 = .ok (.aload_n 0, 1) := by decide +kernel
theorem dX8_beside_9 : decode cX8_beside 9 = .ok (.iload_n 2, 1) := by decide +kernel
theorem dX8_beside_10 : decode cX8_beside 10 = .ok (.iload_n 3, 1) := by decide +kernel
theorem dX8_beside_11 : decode cX8_beside 11 = .ok (.invokevirtual 172, 3) := by decide +kernel
theorem dX8_beside_14 : decode cX8_beside 14 = .ok (.ifCond .ne 5, 3) := by decide +kernel
theorem dX8_beside_17 : decode cX8_beside 17 = .ok (.iconst (-1), 1) := by decide +kernel
theorem dX8_beside_18 : decode cX8_beside 18 = .ok (.ireturn, 1) := by decide +kernel
theorem dX8_beside_19 : decode cX8_beside 19 = .ok (.aload_n 0, 1) := by decide +kernel
theorem dX8_beside_20 : decode cX8_beside 20 = .ok (.invokevirtual 212, 3) := by decide +kernel
theorem dX8_beside_23 : decode cX8_beside 23 = .ok (.astore 4, 2) := by decide +kernel
theorem dX8_beside_25 : decode cX8_beside 25 = .ok (.aload_n 0, 1) := by decide +kernel
theorem dX8_beside_26 : decode cX8_beside 26 = .ok (.getfield 64, 3) := by decide +kernel
theorem dX8_beside_29 : decode cX8_beside 29 = .ok (.aload 4, 2) := by decide +kernel
theorem dX8_beside_31 : decode cX8_beside 31 = .ok (.getfield 219, 3) := by decide +kernel
theorem dX8_beside_34 : decode cX8_beside 34 = .ok (.aload_n 0, 1) := by decide +kernel
theorem dX8_beside_35 : decode cX8_beside 35 = .ok (.invokevirtual 244, 3) := by decide +kernel
theorem dX8_beside_38 : decode cX8_beside 38 = .ok (.iload_n 1, 1) := by decide +kernel
theorem dX8_beside_39 : decode cX8_beside 39 = .ok (.aload_n 0, 1) := by decide +kernel
theorem dX8_beside_40 : decode cX8_beside 40 = .ok (.getfield 19, 3) := by decide +kernel
theorem dX8_beside_43 : decode cX8_beside 43 = .ok (.getfield 248, 3) := by decide +kernel
theorem dX8_beside_46 : decode cX8_beside 46 = .ok (.invokevirtual 251, 3) := by decide +kernel
theorem dX8_beside_49 : decode cX8_beside 49 = .ok (.aload_n 0, 1) := by decide +kernel
theorem dX8_beside_50 : decode cX8_beside 50 = .ok (.getfield 64, 3) := by decide +kernel
theorem dX8_beside_53 : decode cX8_beside 53 = .ok (.aload 4, 2) := by decide +kernel
theorem dX8_beside_55 : decode cX8_beside 55 = .ok (.getfield 219, 3) := by decide +kernel
theorem dX8_beside_58 : decode cX8_beside 58 = .ok (.iconst 1, 1) := by decide +kernel
theorem dX8_beside_59 : decode cX8_beside 59 = .ok (.iload_n 2, 1) := by decide +kernel
theorem dX8_beside_60 : decode cX8_beside 60 = .ok (.ishl, 1) := by decide +kernel
theorem dX8_beside_61 : decode cX8_beside 61 = .ok (.iconst 1, 1) := by decide +kernel
theorem dX8_beside_62 : decode cX8_beside 62 = .ok (.iload_n 3, 1) := by decide +kernel
theorem dX8_beside_63 : decode cX8_beside 63 = .ok (.ishl, 1) := by decide +kernel
theorem dX8_beside_64 : decode cX8_beside 64 = .ok (.ior, 1) := by decide +kernel
theorem dX8_beside_65 : decode cX8_beside 65 = .ok (.invokevirtual 261, 3) := by decide +kernel
theorem dX8_beside_68 : decode cX8_beside 68 = .ok (.ifCond .eq 7, 3) := by decide +kernel
theorem dX8_beside_71 : decode cX8_beside 71 = .ok (.iconst 1, 1) := by decide +kernel
theorem dX8_beside_72 : decode cX8_beside 72 = .ok (.goto 4, 3) := by decide +kernel
theorem dX8_beside_75 : decode cX8_beside 75 = .ok (.iconst 0, 1) := by decide +kernel
theorem dX8_beside_76 : decode cX8_beside 76 = .ok (.ireturn, 1) := by decide +kernel
theorem lk_oo_beside (F : Nat) (v1 : Int32) (v2 : Int32) (v3 : Int32) (μ : g_St) : g_Go gC 16 yX8_beside cX8_beside 5 (some .int) 0 [some (.ref 0), some (.int v1), some (.int v2), some (.int v3), none] [] μ (Option.map o_yi (oo_beside F v1 v2 v3 μ)) := by
  unfold oo_beside
  refine g_aload_n dX8_beside_0 rfl rfl ?_
  refine g_iload_n dX8_beside_1 rfl rfl ?_
  refine w_Vxi [.int _] dX8_beside_2 ml_X8_241 mv_X8_canLive mc_X8_canLive cf_X8 ly_Own_lt ly_Own rfl (Nat.le_of_ble_eq_true rfl) (Nat.le_of_ble_eq_true rfl) (Nat.le_of_ble_eq_true rfl) rfl (co_oo_canLive _ _) (fun x1 => ?_)
  refine w_if_eq (tgt := 17) dX8_beside_5 (by decide) ?_ ?_
  · refine g_iconst dX8_beside_17 ic_m1 ?_
    exact w_iret dX8_beside_18 rfl rfl
  · refine g_aload_n dX8_beside_8 rfl rfl ?_
    refine g_iload_n dX8_beside_9 rfl rfl ?_
    refine g_iload_n dX8_beside_10 rfl rfl ?_
    refine w_Vxi [.int _, .int _] dX8_beside_11 ml_X8_172 mv_X8_areTwo mc_X8_areTwo cf_X8 ly_Own_lt ly_Own rfl (Nat.le_of_ble_eq_true rfl) (Nat.le_of_ble_eq_true rfl) (Nat.le_of_ble_eq_true rfl) rfl (co_oo_areTwo _ _ _) (fun x2 => ?_)
    refine w_if_ne (tgt := 19) dX8_beside_14 (by decide) ?_ ?_
    · refine g_iconst dX8_beside_17 ic_m1 ?_
      exact w_iret dX8_beside_18 rfl rfl
    · refine g_aload_n dX8_beside_19 rfl rfl ?_
      refine w_Vyr [] dX8_beside_20 ml_X8_212 mv_X8_anywhere mc_X8_anywhere cf_X8 ly_Own_lt ly_Own rfl (Nat.le_of_ble_eq_true rfl) (Nat.le_of_ble_eq_true rfl) (Nat.le_of_ble_eq_true rfl) rfl (co_oo_anywhere F _) (fun μ3 => ?_)
      refine g_astore (lo2 := [_, _, _, _, _]) dX8_beside_23 (Nat.le_of_ble_eq_true rfl) rfl rfl ?_
      refine g_aload_n dX8_beside_25 rfl rfl ?_
      refine g_getS dX8_beside_26 cf_X8 fl_X8_64 ly_Own_lt ly_Own rfl (Nat.le_of_ble_eq_true rfl) ?_
      refine g_aload dX8_beside_29 rfl ?_
      refine g_getS dX8_beside_31 cf_X3 fl_X8_219 (ly_Rounds_lt (Or.inl rfl)) (ly_Rounds (Or.inl rfl)) rfl (Nat.le_of_ble_eq_true rfl) ?_
      refine g_aload_n dX8_beside_34 rfl rfl ?_
      refine w_Vxi [] dX8_beside_35 ml_X8_244 mv_X8_everybody mc_X8_everybody cf_X8 ly_Own_lt ly_Own rfl (Nat.le_of_ble_eq_true rfl) (Nat.le_of_ble_eq_true rfl) (Nat.le_of_ble_eq_true rfl) rfl (co_oo_everybody _) (fun x4 => ?_)
      refine g_iload_n dX8_beside_38 rfl rfl ?_
      refine g_aload_n dX8_beside_39 rfl rfl ?_
      refine w_getql dX8_beside_40 cf_X8 fl_X8_19 ly_Own_lt ly_Own rfl (Nat.le_of_ble_eq_true rfl) (fun b5 hb5 => ?_)
      refine g_getI dX8_beside_43 cf_X1 fl_X8_248 (ly_Land_lt hb5) (ly_Land hb5) rfl (Nat.le_of_ble_eq_true rfl) ?_
      refine w_Vyv [.ref _, .int _, .int _, .int _] dX8_beside_46 ml_X8_251 mv_X0_fill mc_X0_fill cf_X0 ly_Homes_lt ly_Homes rfl (Nat.le_of_ble_eq_true rfl) (Nat.le_of_ble_eq_true rfl) (Nat.le_of_ble_eq_true rfl) rfl (co_oh_fill F _ _ _ _) (fun μ6 => ?_)
      refine g_aload_n dX8_beside_49 rfl rfl ?_
      refine g_getS dX8_beside_50 cf_X8 fl_X8_64 ly_Own_lt ly_Own rfl (Nat.le_of_ble_eq_true rfl) ?_
      refine g_aload dX8_beside_53 rfl ?_
      refine g_getS dX8_beside_55 cf_X3 fl_X8_219 (ly_Rounds_lt (Or.inl rfl)) (ly_Rounds (Or.inl rfl)) rfl (Nat.le_of_ble_eq_true rfl) ?_
      refine g_iconst dX8_beside_58 ic_1 ?_
      refine g_iload_n dX8_beside_59 rfl rfl ?_
      refine g_ishl dX8_beside_60 ?_
      refine g_iconst dX8_beside_61 ic_1 ?_
      refine g_iload_n dX8_beside_62 rfl rfl ?_
      refine g_ishl dX8_beside_63 ?_
      refine g_ior dX8_beside_64 ?_
      refine w_Vxi [.ref _, .int _] dX8_beside_65 ml_X8_261 mv_X0_together mc_X0_together cf_X0 ly_Homes_lt ly_Homes rfl (Nat.le_of_ble_eq_true rfl) (Nat.le_of_ble_eq_true rfl) (Nat.le_of_ble_eq_true rfl) rfl (co_oh_together F _ _) (fun x7 => ?_)
      refine w_if_eq (tgt := 75) dX8_beside_68 (by decide) ?_ ?_
      · refine g_iconst dX8_beside_75 ic_0 ?_
        exact w_iret dX8_beside_76 rfl rfl
      · refine g_iconst dX8_beside_71 ic_1 ?_
        refine g_goto (tgt := 76) dX8_beside_72 (by decide) ?_
        exact w_iret dX8_beside_76 rfl rfl
theorem co_oo_beside (F : Nat) (v1 : Int32) (v2 : Int32) (v3 : Int32) (μ : g_St) : g_Con gC 16 yX8_beside cX8_beside 5 (some .int) [.ref 0, .int v1, .int v2, .int v3] μ (g_yi (oo_beside F v1 v2 v3 μ)) := g_conOf mc_X8_beside.2.2.2.2 (Nat.le_of_ble_eq_true rfl) rfl (g_yi_rk (Or.inl rfl)) (lk_oo_beside F v1 v2 v3 μ)
theorem dX8_had_0 : decode cX8_had 0 = .ok (.aload_n 0, 1) := by decide +kernel
theorem dX8_had_1 : decode cX8_had 1 = .ok (.iload_n 1, 1) := by decide +kernel
theorem dX8_had_2 : decode cX8_had 2 = .ok (.invokevirtual 209, 3) := by decide +kernel
theorem dX8_had_5 : decode cX8_had 5 = .ok (.ifCond .eq 14, 3) := by decide +kernel
theorem dX8_had_8 : decode cX8_had 8 = .ok (.aload_n 0, 1) := by decide +kernel
theorem dX8_had_9 : decode cX8_had 9 = .ok (.getfield 19, 3) := by decide +kernel
theorem dX8_had_12 : decode cX8_had 12 = .ok (.iload_n 1, 1) := by decide +kernel
theorem dX8_had_13 : decode cX8_had 13 = .ok (.invokevirtual 265, 3) := by decide +kernel
theorem dX8_had_16 : decode cX8_had 16 = .ok (.goto 4, 3) := by decide +kernel
theorem dX8_had_19 : decode cX8_had 19 = .ok (.iconst (-1), 1) := by decide +kernel
theorem dX8_had_20 : decode cX8_had 20 = .ok (.ireturn, 1) := by decide +kernel
theorem lk_oo_had (F : Nat) (μ : g_St) (v1 : Int32) : g_Go gC 2 yX8_had cX8_had 2 (some .int) 0 [some (.ref 0), some (.int v1)] [] μ (Option.map (o_i μ) (oo_had F μ v1)) := by
  unfold oo_had
  refine g_aload_n dX8_had_0 rfl rfl ?_
  refine g_iload_n dX8_had_1 rfl rfl ?_
  refine w_Vxi [.int _] dX8_had_2 ml_X8_209 mv_X8_isSet mc_X8_isSet cf_X8 ly_Own_lt ly_Own rfl (Nat.le_of_ble_eq_true rfl) (Nat.le_of_ble_eq_true rfl) (Nat.le_of_ble_eq_true rfl) rfl (co_oo_isSet _ _) (fun x1 => ?_)
  refine w_if_eq (tgt := 19) dX8_had_5 (by decide) ?_ ?_
  · refine g_iconst dX8_had_19 ic_m1 ?_
    exact w_iret dX8_had_20 rfl rfl
  · refine g_aload_n dX8_had_8 rfl rfl ?_
    refine w_getql dX8_had_9 cf_X8 fl_X8_19 ly_Own_lt ly_Own rfl (Nat.le_of_ble_eq_true rfl) (fun b2 hb2 => ?_)
    refine g_iload_n dX8_had_12 rfl rfl ?_
    refine w_Vxi [.int _] dX8_had_13 ml_X8_265 mv_X1_hadIn mc_X1_hadIn cf_X1 (ly_Land_lt hb2) (ly_Land hb2) rfl (Nat.le_of_ble_eq_true rfl) (Nat.le_of_ble_eq_true rfl) (Nat.le_of_ble_eq_true rfl) rfl (co_ol_hadIn F _ hb2 _ _) (fun x3 => ?_)
    refine g_goto (tgt := 20) dX8_had_16 (by decide) ?_
    exact w_iret dX8_had_20 rfl rfl
theorem co_oo_had (F : Nat) (μ : g_St) (v1 : Int32) : g_Con gC 2 yX8_had cX8_had 2 (some .int) [.ref 0, .int v1] μ (g_xi μ (oo_had F μ v1)) := g_conOf mc_X8_had.2.2.2.2 (Nat.le_of_ble_eq_true rfl) rfl (g_xi_rk (Or.inl rfl)) (lk_oo_had F μ v1)
theorem dX8_never_0 : decode cX8_never 0 = .ok (.aload_n 0, 1) := by decide +kernel
theorem dX8_never_1 : decode cX8_never 1 = .ok (.iload_n 1, 1) := by decide +kernel
theorem dX8_never_2 : decode cX8_never 2 = .ok (.invokevirtual 209, 3) := by decide +kernel
theorem dX8_never_5 : decode cX8_never 5 = .ok (.ifCond .eq 14, 3) := by decide +kernel
theorem dX8_never_8 : decode cX8_never 8 = .ok (.aload_n 0, 1) := by decide +kernel
theorem dX8_never_9 : decode cX8_never 9 = .ok (.getfield 19, 3) := by decide +kernel
theorem dX8_never_12 : decode cX8_never 12 = .ok (.iload_n 1, 1) := by decide +kernel
theorem dX8_never_13 : decode cX8_never 13 = .ok (.invokevirtual 268, 3) := by decide +kernel
theorem dX8_never_16 : decode cX8_never 16 = .ok (.goto 4, 3) := by decide +kernel
theorem dX8_never_19 : decode cX8_never 19 = .ok (.iconst (-1), 1) := by decide +kernel
theorem dX8_never_20 : decode cX8_never 20 = .ok (.ireturn, 1) := by decide +kernel
theorem lk_oo_never (F : Nat) (μ : g_St) (v1 : Int32) : g_Go gC 3 yX8_never cX8_never 2 (some .int) 0 [some (.ref 0), some (.int v1)] [] μ (Option.map (o_i μ) (oo_never F μ v1)) := by
  unfold oo_never
  refine g_aload_n dX8_never_0 rfl rfl ?_
  refine g_iload_n dX8_never_1 rfl rfl ?_
  refine w_Vxi [.int _] dX8_never_2 ml_X8_209 mv_X8_isSet mc_X8_isSet cf_X8 ly_Own_lt ly_Own rfl (Nat.le_of_ble_eq_true rfl) (Nat.le_of_ble_eq_true rfl) (Nat.le_of_ble_eq_true rfl) rfl (co_oo_isSet _ _) (fun x1 => ?_)
  refine w_if_eq (tgt := 19) dX8_never_5 (by decide) ?_ ?_
  · refine g_iconst dX8_never_19 ic_m1 ?_
    exact w_iret dX8_never_20 rfl rfl
  · refine g_aload_n dX8_never_8 rfl rfl ?_
    refine w_getql dX8_never_9 cf_X8 fl_X8_19 ly_Own_lt ly_Own rfl (Nat.le_of_ble_eq_true rfl) (fun b2 hb2 => ?_)
    refine g_iload_n dX8_never_12 rfl rfl ?_
    refine w_Vxi [.int _] dX8_never_13 ml_X8_268 mv_X1_lackedIn mc_X1_lackedIn cf_X1 (ly_Land_lt hb2) (ly_Land hb2) rfl (Nat.le_of_ble_eq_true rfl) (Nat.le_of_ble_eq_true rfl) (Nat.le_of_ble_eq_true rfl) rfl (co_ol_lackedIn F _ hb2 _ _) (fun x3 => ?_)
    refine g_goto (tgt := 20) dX8_never_16 (by decide) ?_
    exact w_iret dX8_never_20 rfl rfl
theorem co_oo_never (F : Nat) (μ : g_St) (v1 : Int32) : g_Con gC 3 yX8_never cX8_never 2 (some .int) [.ref 0, .int v1] μ (g_xi μ (oo_never F μ v1)) := g_conOf mc_X8_never.2.2.2.2 (Nat.le_of_ble_eq_true rfl) rfl (g_xi_rk (Or.inl rfl)) (lk_oo_never F μ v1)
theorem dX8_fewest_0 : decode cX8_fewest 0 = .ok (.aload_n 0, 1) := by decide +kernel
theorem dX8_fewest_1 : decode cX8_fewest 1 = .ok (.iload_n 1, 1) := by decide +kernel
theorem dX8_fewest_2 : decode cX8_fewest 2 = .ok (.invokevirtual 125, 3) := by decide +kernel
theorem dX8_fewest_5 : decode cX8_fewest 5 = .ok (.ifCond .eq 12, 3) := by decide +kernel
theorem dX8_fewest_8 : decode cX8_fewest 8 = .ok (.iload_n 2, 1) := by decide +kernel
theorem dX8_fewest_9 : decode cX8_fewest 9 = .ok (.ifCond .lt 8, 3) := by decide +kernel
theorem dX8_fewest_12 : decode cX8_fewest 12 = .ok (.iload_n 2, 1) := by decide +kernel
theorem dX8_fewest_13 : decode cX8_fewest 13 = .ok (.iconst 1, 1) := by decide +kernel
theorem dX8_fewest_14 : decode cX8_fewest 14 = .ok (.if_icmp .le 5, 3) := by decide +kernel
theorem dX8_fewest_17 : decode cX8_fewest 17 = .ok (.iconst (-1), 1) := by decide +kernel
theorem dX8_fewest_18 : decode cX8_fewest 18 = .ok (.ireturn, 1) := by decide +kernel
theorem dX8_fewest_19 : decode cX8_fewest 19 = .ok (.iconst (-1), 1) := by decide +kernel
theorem dX8_fewest_20 : decode cX8_fewest 20 = .ok (.istore_n 3, 1) := by decide +kernel
theorem dX8_fewest_21 : decode cX8_fewest 21 = .ok (.iconst (-1), 1) := by decide +kernel
theorem dX8_fewest_22 : decode cX8_fewest 22 = .ok (.istore 4, 2) := by decide +kernel
theorem dX8_fewest_24 : decode cX8_fewest 24 = .ok (.iconst 1, 1) := by decide +kernel
theorem dX8_fewest_25 : decode cX8_fewest 25 = .ok (.istore 5, 2) := by decide +kernel
theorem dX8_fewest_27 : decode cX8_fewest 27 = .ok (.iload 5, 2) := by decide +kernel
theorem dX8_fewest_29 : decode cX8_fewest 29 = .ok (.aload_n 0, 1) := by decide +kernel
theorem dX8_fewest_30 : decode cX8_fewest 30 = .ok (.invokevirtual 244, 3) := by decide +kernel
theorem dX8_fewest_33 : decode cX8_fewest 33 = .ok (.if_icmp .gt 67, 3) := by decide +kernel
theorem dX8_fewest_36 : decode cX8_fewest 36 = .ok (.iload 5, 2) := by decide +kernel
theorem dX8_fewest_38 : decode cX8_fewest 38 = .ok (.iload_n 1, 1) := by decide +kernel
theorem dX8_fewest_39 : decode cX8_fewest 39 = .ok (.ishr, 1) := by decide +kernel
theorem dX8_fewest_40 : decode cX8_fewest 40 = .ok (.iconst 1, 1) := by decide +kernel
theorem dX8_fewest_41 : decode cX8_fewest 41 = .ok (.iand, 1) := by decide +kernel
theorem dX8_fewest_42 : decode cX8_fewest 42 = .ok (.iconst 1, 1) := by decide +kernel
theorem dX8_fewest_43 : decode cX8_fewest 43 = .ok (.if_icmp .ne 19, 3) := by decide +kernel
theorem dX8_fewest_46 : decode cX8_fewest 46 = .ok (.aload_n 0, 1) := by decide +kernel
theorem dX8_fewest_47 : decode cX8_fewest 47 = .ok (.getfield 19, 3) := by decide +kernel
theorem dX8_fewest_50 : decode cX8_fewest 50 = .ok (.iload 5, 2) := by decide +kernel
theorem dX8_fewest_52 : decode cX8_fewest 52 = .ok (.invokevirtual 268, 3) := by decide +kernel
theorem dX8_fewest_55 : decode cX8_fewest 55 = .ok (.ifCond .ne 7, 3) := by decide +kernel
theorem dX8_fewest_58 : decode cX8_fewest 58 = .ok (.iconst 1, 1) := by decide +kernel
theorem dX8_fewest_59 : decode cX8_fewest 59 = .ok (.goto 4, 3) := by decide +kernel
theorem dX8_fewest_62 : decode cX8_fewest 62 = .ok (.iconst 0, 1) := by decide +kernel
theorem dX8_fewest_63 : decode cX8_fewest 63 = .ok (.istore 6, 2) := by decide +kernel
theorem dX8_fewest_65 : decode cX8_fewest 65 = .ok (.iload 6, 2) := by decide +kernel
theorem dX8_fewest_67 : decode cX8_fewest 67 = .ok (.ifCond .eq 27, 3) := by decide +kernel
theorem dX8_fewest_70 : decode cX8_fewest 70 = .ok (.iload_n 3, 1) := by decide +kernel
theorem dX8_fewest_71 : decode cX8_fewest 71 = .ok (.iconst (-1), 1) := by decide +kernel
theorem dX8_fewest_72 : decode cX8_fewest 72 = .ok (.if_icmp .eq 12, 3) := by decide +kernel
theorem dX8_fewest_75 : decode cX8_fewest 75 = .ok (.iload 5, 2) := by decide +kernel
theorem dX8_fewest_77 : decode cX8_fewest 77 = .ok (.invokestatic 271, 3) := by decide +kernel
theorem dX8_fewest_80 : decode cX8_fewest 80 = .ok (.iload_n 3, 1) := by decide +kernel
theorem dX8_fewest_81 : decode cX8_fewest 81 = .ok (.if_icmp .ge 13, 3) := by decide +kernel
theorem dX8_fewest_84 : decode cX8_fewest 84 = .ok (.iload 5, 2) := by decide +kernel
theorem dX8_fewest_86 : decode cX8_fewest 86 = .ok (.invokestatic 271, 3) := by decide +kernel
theorem dX8_fewest_89 : decode cX8_fewest 89 = .ok (.istore_n 3, 1) := by decide +kernel
theorem dX8_fewest_90 : decode cX8_fewest 90 = .ok (.iload 5, 2) := by decide +kernel
theorem dX8_fewest_92 : decode cX8_fewest 92 = .ok (.istore 4, 2) := by decide +kernel
theorem dX8_fewest_94 : decode cX8_fewest 94 = .ok (.iinc 5 1, 3) := by decide +kernel
theorem dX8_fewest_97 : decode cX8_fewest 97 = .ok (.goto (-70), 3) := by decide +kernel
theorem dX8_fewest_100 : decode cX8_fewest 100 = .ok (.iload_n 2, 1) := by decide +kernel
theorem dX8_fewest_101 : decode cX8_fewest 101 = .ok (.ifCond .ne 7, 3) := by decide +kernel
theorem dX8_fewest_104 : decode cX8_fewest 104 = .ok (.iload_n 3, 1) := by decide +kernel
theorem dX8_fewest_105 : decode cX8_fewest 105 = .ok (.goto 5, 3) := by decide +kernel
theorem dX8_fewest_108 : decode cX8_fewest 108 = .ok (.iload 4, 2) := by decide +kernel
theorem dX8_fewest_110 : decode cX8_fewest 110 = .ok (.ireturn, 1) := by decide +kernel
theorem lk_oo_fewest_84 (F : Nat) (μ : g_St) (v1 : Int32) (v2 : Int32) (v5 : Int32) (K_27 : Int32 → Int32 → Int32 → Option Int32) (hK_27 : ∀ (w3 : Int32) (w4 : Int32) (w5 : Int32), g_Go gC 3 yX8_fewest cX8_fewest 7 (some .int) 27 [some (.ref 0), some (.int v1), some (.int v2), some (.int w3), some (.int w4), some (.int w5), none] [] μ (Option.map (o_i μ) (K_27 w3 w4 w5))) : g_Go gC 3 yX8_fewest cX8_fewest 7 (some .int) 84 [some (.ref 0), some (.int v1), some (.int v2), none, none, some (.int v5), none] [] μ (Option.map (o_i μ) (oo_fewest_84 F μ K_27 v1 v2 v5 )) := by
  unfold oo_fewest_84
  refine g_iload dX8_fewest_84 rfl ?_
  refine w_Sxi [.int _] dX8_fewest_86 ml_X8_271 ms_J6_bitCount_0f7a4 mc_J6_bitCount_0f7a4 rfl (Nat.le_of_ble_eq_true rfl) (Nat.le_of_ble_eq_true rfl) (Nat.le_of_ble_eq_true rfl) rfl (co_jj_bitCount gC _ _) (fun x6 => ?_)
  refine g_istore_n (lo2 := [_, _, _, _, _, _, _]) dX8_fewest_89 rfl (Nat.le_of_ble_eq_true rfl) rfl rfl ?_
  refine g_iload dX8_fewest_90 rfl ?_
  refine g_istore (lo2 := [_, _, _, _, _, _, _]) dX8_fewest_92 (Nat.le_of_ble_eq_true rfl) rfl rfl ?_
  refine g_iinc (lo2 := [_, _, _, _, _, _, _]) dX8_fewest_94 rfl rfl (Nat.le_of_ble_eq_true rfl) rfl rfl ?_
  refine g_goto (tgt := 27) dX8_fewest_97 (by decide) ?_
  exact g_to (hK_27 _ _ _) (su_s (su_s (su_s (su_s (su_s (su_s (su_n su_0)))))))
theorem lk_oo_fewest_63 (F : Nat) (μ : g_St) (v1 : Int32) (v2 : Int32) (v3 : Int32) (v4 : Int32) (v5 : Int32) (s0 : Int32) (K_27 : Int32 → Int32 → Int32 → Option Int32) (hK_27 : ∀ (w3 : Int32) (w4 : Int32) (w5 : Int32), g_Go gC 3 yX8_fewest cX8_fewest 7 (some .int) 27 [some (.ref 0), some (.int v1), some (.int v2), some (.int w3), some (.int w4), some (.int w5), none] [] μ (Option.map (o_i μ) (K_27 w3 w4 w5))) : g_Go gC 3 yX8_fewest cX8_fewest 7 (some .int) 63 [some (.ref 0), some (.int v1), some (.int v2), some (.int v3), some (.int v4), some (.int v5), none] [.int s0] μ (Option.map (o_i μ) (oo_fewest_63 F μ K_27 v1 v2 v3 v4 v5 s0 )) := by
  unfold oo_fewest_63
  refine g_istore (lo2 := [_, _, _, _, _, _, _]) dX8_fewest_63 (Nat.le_of_ble_eq_true rfl) rfl rfl ?_
  refine g_iload dX8_fewest_65 rfl ?_
  refine w_if_eq (tgt := 94) dX8_fewest_67 (by decide) ?_ ?_
  · refine g_iinc (lo2 := [_, _, _, _, _, _, _]) dX8_fewest_94 rfl rfl (Nat.le_of_ble_eq_true rfl) rfl rfl ?_
    refine g_goto (tgt := 27) dX8_fewest_97 (by decide) ?_
    exact g_to (hK_27 _ _ _) (su_s (su_s (su_s (su_s (su_s (su_s (su_n su_0)))))))
  · refine g_iload_n dX8_fewest_70 rfl rfl ?_
    refine g_iconst dX8_fewest_71 ic_m1 ?_
    refine w_icmp_eq (tgt := 84) dX8_fewest_72 (by decide) ?_ ?_
    · exact g_to (lk_oo_fewest_84 F μ _ _ _ K_27 hK_27) (su_s (su_s (su_s (su_n (su_n (su_s (su_n su_0)))))))
    · refine g_iload dX8_fewest_75 rfl ?_
      refine w_Sxi [.int _] dX8_fewest_77 ml_X8_271 ms_J6_bitCount_0f7a4 mc_J6_bitCount_0f7a4 rfl (Nat.le_of_ble_eq_true rfl) (Nat.le_of_ble_eq_true rfl) (Nat.le_of_ble_eq_true rfl) rfl (co_jj_bitCount gC _ _) (fun x5 => ?_)
      refine g_iload_n dX8_fewest_80 rfl rfl ?_
      refine w_icmp_ge (tgt := 94) dX8_fewest_81 (by decide) ?_ ?_
      · exact g_to (lk_oo_fewest_84 F μ _ _ _ K_27 hK_27) (su_s (su_s (su_s (su_n (su_n (su_s (su_n su_0)))))))
      · refine g_iinc (lo2 := [_, _, _, _, _, _, _]) dX8_fewest_94 rfl rfl (Nat.le_of_ble_eq_true rfl) rfl rfl ?_
        refine g_goto (tgt := 27) dX8_fewest_97 (by decide) ?_
        exact g_to (hK_27 _ _ _) (su_s (su_s (su_s (su_s (su_s (su_s (su_n su_0)))))))
theorem lk_oo_fewest_62 (F : Nat) (μ : g_St) (v1 : Int32) (v2 : Int32) (v3 : Int32) (v4 : Int32) (v5 : Int32) (K_27 : Int32 → Int32 → Int32 → Option Int32) (hK_27 : ∀ (w3 : Int32) (w4 : Int32) (w5 : Int32), g_Go gC 3 yX8_fewest cX8_fewest 7 (some .int) 27 [some (.ref 0), some (.int v1), some (.int v2), some (.int w3), some (.int w4), some (.int w5), none] [] μ (Option.map (o_i μ) (K_27 w3 w4 w5))) : g_Go gC 3 yX8_fewest cX8_fewest 7 (some .int) 62 [some (.ref 0), some (.int v1), some (.int v2), some (.int v3), some (.int v4), some (.int v5), none] [] μ (Option.map (o_i μ) (oo_fewest_62 F μ K_27 v1 v2 v3 v4 v5 )) := by
  unfold oo_fewest_62
  refine g_iconst dX8_fewest_62 ic_0 ?_
  exact g_to (lk_oo_fewest_63 F μ _ _ _ _ _ _ K_27 hK_27) (su_s (su_s (su_s (su_s (su_s (su_s (su_n su_0)))))))
theorem lk_oo_fewest_27_b (F : Nat) (μ : g_St) (v1 : Int32) (v2 : Int32) (K_27 : Int32 → Int32 → Int32 → Option Int32) (hK_27 : ∀ (w3 : Int32) (w4 : Int32) (w5 : Int32), g_Go gC 3 yX8_fewest cX8_fewest 7 (some .int) 27 [some (.ref 0), some (.int v1), some (.int v2), some (.int w3), some (.int w4), some (.int w5), none] [] μ (Option.map (o_i μ) (K_27 w3 w4 w5))) (v3 : Int32) (v4 : Int32) (v5 : Int32) : g_Go gC 3 yX8_fewest cX8_fewest 7 (some .int) 27 [some (.ref 0), some (.int v1), some (.int v2), some (.int v3), some (.int v4), some (.int v5), none] [] μ (Option.map (o_i μ) (oo_fewest_27_b F μ v1 v2 K_27 v3 v4 v5 )) := by
  unfold oo_fewest_27_b
  refine g_iload dX8_fewest_27 rfl ?_
  refine g_aload_n dX8_fewest_29 rfl rfl ?_
  refine w_Vxi [] dX8_fewest_30 ml_X8_244 mv_X8_everybody mc_X8_everybody cf_X8 ly_Own_lt ly_Own rfl (Nat.le_of_ble_eq_true rfl) (Nat.le_of_ble_eq_true rfl) (Nat.le_of_ble_eq_true rfl) rfl (co_oo_everybody _) (fun x2 => ?_)
  refine w_icmp_gt (tgt := 100) dX8_fewest_33 (by decide) ?_ ?_
  · refine g_iload dX8_fewest_36 rfl ?_
    refine g_iload_n dX8_fewest_38 rfl rfl ?_
    refine g_ishr dX8_fewest_39 ?_
    refine g_iconst dX8_fewest_40 ic_1 ?_
    refine g_iand dX8_fewest_41 ?_
    refine g_iconst dX8_fewest_42 ic_1 ?_
    refine w_icmp_ne (tgt := 62) dX8_fewest_43 (by decide) ?_ ?_
    · refine g_aload_n dX8_fewest_46 rfl rfl ?_
      refine w_getql dX8_fewest_47 cf_X8 fl_X8_19 ly_Own_lt ly_Own rfl (Nat.le_of_ble_eq_true rfl) (fun b3 hb3 => ?_)
      refine g_iload dX8_fewest_50 rfl ?_
      refine w_Vxi [.int _] dX8_fewest_52 ml_X8_268 mv_X1_lackedIn mc_X1_lackedIn cf_X1 (ly_Land_lt hb3) (ly_Land hb3) rfl (Nat.le_of_ble_eq_true rfl) (Nat.le_of_ble_eq_true rfl) (Nat.le_of_ble_eq_true rfl) rfl (co_ol_lackedIn F _ hb3 _ _) (fun x4 => ?_)
      refine w_if_ne (tgt := 62) dX8_fewest_55 (by decide) ?_ ?_
      · refine g_iconst dX8_fewest_58 ic_1 ?_
        refine g_goto (tgt := 63) dX8_fewest_59 (by decide) ?_
        exact g_to (lk_oo_fewest_63 F μ _ _ _ _ _ _ K_27 hK_27) (su_s (su_s (su_s (su_s (su_s (su_s (su_n su_0)))))))
      · exact g_to (lk_oo_fewest_62 F μ _ _ _ _ _ K_27 hK_27) (su_s (su_s (su_s (su_s (su_s (su_s (su_n su_0)))))))
    · exact g_to (lk_oo_fewest_62 F μ _ _ _ _ _ K_27 hK_27) (su_s (su_s (su_s (su_s (su_s (su_s (su_n su_0)))))))
  · refine g_iload_n dX8_fewest_100 rfl rfl ?_
    refine w_if_ne (tgt := 108) dX8_fewest_101 (by decide) ?_ ?_
    · refine g_iload_n dX8_fewest_104 rfl rfl ?_
      refine g_goto (tgt := 110) dX8_fewest_105 (by decide) ?_
      exact w_iret dX8_fewest_110 rfl rfl
    · refine g_iload dX8_fewest_108 rfl ?_
      exact w_iret dX8_fewest_110 rfl rfl
theorem lk_oo_fewest_27 (F : Nat) (μ : g_St) (v1 : Int32) (v2 : Int32) : ∀ (f : Nat) (v3 : Int32) (v4 : Int32) (v5 : Int32) , g_Go gC 3 yX8_fewest cX8_fewest 7 (some .int) 27 [some (.ref 0), some (.int v1), some (.int v2), some (.int v3), some (.int v4), some (.int v5), none] [] μ (Option.map (o_i μ) (oo_fewest_27 F μ v1 v2 f v3 v4 v5 ))
  | 0, v3, v4, v5 => g_none
  | f + 1, v3, v4, v5 => lk_oo_fewest_27_b F μ v1 v2 (oo_fewest_27 F μ v1 v2 f) (lk_oo_fewest_27 F μ v1 v2 f) v3 v4 v5 
theorem lk_oo_fewest (F : Nat) (μ : g_St) (v1 : Int32) (v2 : Int32) : g_Go gC 3 yX8_fewest cX8_fewest 7 (some .int) 0 [some (.ref 0), some (.int v1), some (.int v2), none, none, none, none] [] μ (Option.map (o_i μ) (oo_fewest F μ v1 v2)) := by
  unfold oo_fewest
  refine g_aload_n dX8_fewest_0 rfl rfl ?_
  refine g_iload_n dX8_fewest_1 rfl rfl ?_
  refine w_Vxi [.int _] dX8_fewest_2 ml_X8_125 mv_X8_isPerson mc_X8_isPerson cf_X8 ly_Own_lt ly_Own rfl (Nat.le_of_ble_eq_true rfl) (Nat.le_of_ble_eq_true rfl) (Nat.le_of_ble_eq_true rfl) rfl (co_oo_isPerson _ _) (fun x1 => ?_)
  refine w_if_eq (tgt := 17) dX8_fewest_5 (by decide) ?_ ?_
  · refine g_iconst dX8_fewest_17 ic_m1 ?_
    exact w_iret dX8_fewest_18 rfl rfl
  · refine g_iload_n dX8_fewest_8 rfl rfl ?_
    refine w_if_lt (tgt := 17) dX8_fewest_9 (by decide) ?_ ?_
    · refine g_iload_n dX8_fewest_12 rfl rfl ?_
      refine g_iconst dX8_fewest_13 ic_1 ?_
      refine w_icmp_le (tgt := 19) dX8_fewest_14 (by decide) ?_ ?_
      · refine g_iconst dX8_fewest_17 ic_m1 ?_
        exact w_iret dX8_fewest_18 rfl rfl
      · refine g_iconst dX8_fewest_19 ic_m1 ?_
        refine g_istore_n (lo2 := [_, _, _, _, _, _, _]) dX8_fewest_20 rfl (Nat.le_of_ble_eq_true rfl) rfl rfl ?_
        refine g_iconst dX8_fewest_21 ic_m1 ?_
        refine g_istore (lo2 := [_, _, _, _, _, _, _]) dX8_fewest_22 (Nat.le_of_ble_eq_true rfl) rfl rfl ?_
        refine g_iconst dX8_fewest_24 ic_1 ?_
        refine g_istore (lo2 := [_, _, _, _, _, _, _]) dX8_fewest_25 (Nat.le_of_ble_eq_true rfl) rfl rfl ?_
        exact g_to (lk_oo_fewest_27 F μ _ _ _ _ _ _) (su_s (su_s (su_s (su_s (su_s (su_s (su_n su_0)))))))
    · refine g_iconst dX8_fewest_17 ic_m1 ?_
      exact w_iret dX8_fewest_18 rfl rfl
theorem co_oo_fewest (F : Nat) (μ : g_St) (v1 : Int32) (v2 : Int32) : g_Con gC 3 yX8_fewest cX8_fewest 7 (some .int) [.ref 0, .int v1, .int v2] μ (g_xi μ (oo_fewest F μ v1 v2)) := g_conOf mc_X8_fewest.2.2.2.2 (Nat.le_of_ble_eq_true rfl) rfl (g_xi_rk (Or.inl rfl)) (lk_oo_fewest F μ v1 v2)
theorem dX8_isFair_0 : decode cX8_isFair 0 = .ok (.iload_n 1, 1) := by decide +kernel
theorem dX8_isFair_1 : decode cX8_isFair 1 = .ok (.ifCond .lt 24, 3) := by decide +kernel
theorem dX8_isFair_4 : decode cX8_isFair 4 = .ok (.iload_n 1, 1) := by decide +kernel
theorem dX8_isFair_5 : decode cX8_isFair 5 = .ok (.sipush 168, 3) := by decide +kernel
theorem dX8_isFair_8 : decode cX8_isFair 8 = .ok (.if_icmp .gt 17, 3) := by decide +kernel
theorem dX8_isFair_11 : decode cX8_isFair 11 = .ok (.iload_n 2, 1) := by decide +kernel
theorem dX8_isFair_12 : decode cX8_isFair 12 = .ok (.ifCond .lt 13, 3) := by decide +kernel
theorem dX8_isFair_15 : decode cX8_isFair 15 = .ok (.iload_n 2, 1) := by decide +kernel
theorem dX8_isFair_16 : decode cX8_isFair 16 = .ok (.bipush 99, 2) := by decide +kernel
theorem dX8_isFair_18 : decode cX8_isFair 18 = .ok (.if_icmp .gt 7, 3) := by decide +kernel
theorem dX8_isFair_21 : decode cX8_isFair 21 = .ok (.iconst 1, 1) := by decide +kernel
theorem dX8_isFair_22 : decode cX8_isFair 22 = .ok (.goto 4, 3) := by decide +kernel
theorem dX8_isFair_25 : decode cX8_isFair 25 = .ok (.iconst 0, 1) := by decide +kernel
theorem dX8_isFair_26 : decode cX8_isFair 26 = .ok (.ireturn, 1) := by decide +kernel
theorem lk_oo_isFair (μ : g_St) (v1 : Int32) (v2 : Int32) : g_Go gC 0 yX8_isFair cX8_isFair 3 (some .boolean) 0 [some (.ref 0), some (.int v1), some (.int v2)] [] μ (Option.map (o_i μ) (oo_isFair μ v1 v2)) := by
  unfold oo_isFair
  refine g_iload_n dX8_isFair_0 rfl rfl ?_
  refine w_if_lt (tgt := 25) dX8_isFair_1 (by decide) ?_ ?_
  · refine g_iload_n dX8_isFair_4 rfl rfl ?_
    refine g_sipush dX8_isFair_5 sp_168 ?_
    refine w_icmp_gt (tgt := 25) dX8_isFair_8 (by decide) ?_ ?_
    · refine g_iload_n dX8_isFair_11 rfl rfl ?_
      refine w_if_lt (tgt := 25) dX8_isFair_12 (by decide) ?_ ?_
      · refine g_iload_n dX8_isFair_15 rfl rfl ?_
        refine g_bipush dX8_isFair_16 bp_99 ?_
        refine w_icmp_gt (tgt := 25) dX8_isFair_18 (by decide) ?_ ?_
        · refine g_iconst dX8_isFair_21 ic_1 ?_
          refine g_goto (tgt := 26) dX8_isFair_22 (by decide) ?_
          exact w_iret dX8_isFair_26 (by decide) rfl
        · refine g_iconst dX8_isFair_25 ic_0 ?_
          exact w_iret dX8_isFair_26 (by decide) rfl
      · refine g_iconst dX8_isFair_25 ic_0 ?_
        exact w_iret dX8_isFair_26 (by decide) rfl
    · refine g_iconst dX8_isFair_25 ic_0 ?_
      exact w_iret dX8_isFair_26 (by decide) rfl
  · refine g_iconst dX8_isFair_25 ic_0 ?_
    exact w_iret dX8_isFair_26 (by decide) rfl
theorem co_oo_isFair (μ : g_St) (v1 : Int32) (v2 : Int32) : g_Con gC 0 yX8_isFair cX8_isFair 3 (some .boolean) [.ref 0, .int v1, .int v2] μ (g_xi μ (oo_isFair μ v1 v2)) := g_conOf mc_X8_isFair.2.2.2.2 (Nat.le_of_ble_eq_true rfl) rfl (g_xi_rk (Or.inr (Or.inl rfl))) (lk_oo_isFair μ v1 v2)
theorem dX8_fairWorth_0 : decode cX8_fairWorth 0 = .ok (.aload_n 0, 1) := by decide +kernel
theorem dX8_fairWorth_1 : decode cX8_fairWorth 1 = .ok (.getfield 19, 3) := by decide +kernel
theorem dX8_fairWorth_4 : decode cX8_fairWorth 4 = .ok (.iload_n 2, 1) := by decide +kernel
theorem dX8_fairWorth_5 : decode cX8_fairWorth 5 = .ok (.iload_n 3, 1) := by decide +kernel
theorem dX8_fairWorth_6 : decode cX8_fairWorth 6 = .ok (.invokevirtual 285, 3) := by decide +kernel
theorem dX8_fairWorth_9 : decode cX8_fairWorth 9 = .ok (.istore 5, 2) := by decide +kernel
theorem dX8_fairWorth_11 : decode cX8_fairWorth 11 = .ok (.aload_n 1, 1) := by decide +kernel
theorem dX8_fairWorth_12 : decode cX8_fairWorth 12 = .ok (.getfield 219, 3) := by decide +kernel
theorem dX8_fairWorth_15 : decode cX8_fairWorth 15 = .ok (.iload 5, 2) := by decide +kernel
theorem dX8_fairWorth_17 : decode cX8_fairWorth 17 = .ok (.iaload, 1) := by decide +kernel
theorem dX8_fairWorth_18 : decode cX8_fairWorth 18 = .ok (.iload 4, 2) := by decide +kernel
theorem dX8_fairWorth_20 : decode cX8_fairWorth 20 = .ok (.aload_n 0, 1) := by decide +kernel
theorem dX8_fairWorth_21 : decode cX8_fairWorth 21 = .ok (.getfield 19, 3) := by decide +kernel
theorem dX8_fairWorth_24 : decode cX8_fairWorth 24 = .ok (.iload_n 2, 1) := by decide +kernel
theorem dX8_fairWorth_25 : decode cX8_fairWorth 25 = .ok (.iload 5, 2) := by decide +kernel
theorem dX8_fairWorth_27 : decode cX8_fairWorth 27 = .ok (.invokevirtual 372, 3) := by decide +kernel
theorem dX8_fairWorth_30 : decode cX8_fairWorth 30 = .ok (.imul, 1) := by decide +kernel
theorem dX8_fairWorth_31 : decode cX8_fairWorth 31 = .ok (.isub, 1) := by decide +kernel
theorem dX8_fairWorth_32 : decode cX8_fairWorth 32 = .ok (.ireturn, 1) := by decide +kernel
theorem lk_oo_fairWorth (F : Nat) (br : Nat) (hbr : g_isRounds br) (μ : g_St) (v2 : Int32) (v3 : Int32) (v4 : Int32) : g_Go gC 2 yX8_fairWorth cX8_fairWorth 6 (some .int) 0 [some (.ref 0), some (.ref br), some (.int v2), some (.int v3), some (.int v4), none] [] μ (Option.map (o_i μ) (oo_fairWorth F br μ v2 v3 v4)) := by
  unfold oo_fairWorth
  refine g_aload_n dX8_fairWorth_0 rfl rfl ?_
  refine w_getql dX8_fairWorth_1 cf_X8 fl_X8_19 ly_Own_lt ly_Own rfl (Nat.le_of_ble_eq_true rfl) (fun b1 hb1 => ?_)
  refine g_iload_n dX8_fairWorth_4 rfl rfl ?_
  refine g_iload_n dX8_fairWorth_5 rfl rfl ?_
  refine w_Vxi [.int _, .int _] dX8_fairWorth_6 ml_X8_285 mv_X1_comersTo mc_X1_comersTo cf_X1 (ly_Land_lt hb1) (ly_Land hb1) rfl (Nat.le_of_ble_eq_true rfl) (Nat.le_of_ble_eq_true rfl) (Nat.le_of_ble_eq_true rfl) rfl (co_ol_comersTo F _ hb1 _ _ _) (fun x2 => ?_)
  refine g_istore (lo2 := [_, _, _, _, _, _]) dX8_fairWorth_9 (Nat.le_of_ble_eq_true rfl) rfl rfl ?_
  refine g_aload_n dX8_fairWorth_11 rfl rfl ?_
  refine g_getS dX8_fairWorth_12 cf_X3 fl_X8_219 (ly_Rounds_lt hbr) (ly_Rounds hbr) rfl (Nat.le_of_ble_eq_true rfl) ?_
  refine g_iload dX8_fairWorth_15 rfl ?_
  refine w_iald dX8_fairWorth_17 (ly_Rounds_worth_lt hbr) (ly_Rounds_worth hbr) (fun x3 => ?_)
  refine g_iload dX8_fairWorth_18 rfl ?_
  refine g_aload_n dX8_fairWorth_20 rfl rfl ?_
  refine w_getql dX8_fairWorth_21 cf_X8 fl_X8_19 ly_Own_lt ly_Own rfl (Nat.le_of_ble_eq_true rfl) (fun b4 hb4 => ?_)
  refine g_iload_n dX8_fairWorth_24 rfl rfl ?_
  refine g_iload dX8_fairWorth_25 rfl ?_
  refine w_Vxi [.int _, .int _] dX8_fairWorth_27 ml_X8_372 mv_X1_hoursTo mc_X1_hoursTo cf_X1 (ly_Land_lt hb4) (ly_Land hb4) rfl (Nat.le_of_ble_eq_true rfl) (Nat.le_of_ble_eq_true rfl) (Nat.le_of_ble_eq_true rfl) rfl (co_ol_hoursTo F _ hb4 _ _ _) (fun x5 => ?_)
  refine g_imul dX8_fairWorth_30 ?_
  refine g_isub dX8_fairWorth_31 ?_
  exact w_iret dX8_fairWorth_32 rfl rfl
theorem co_oo_fairWorth (F : Nat) (br : Nat) (hbr : g_isRounds br) (μ : g_St) (v2 : Int32) (v3 : Int32) (v4 : Int32) : g_Con gC 2 yX8_fairWorth cX8_fairWorth 6 (some .int) [.ref 0, .ref br, .int v2, .int v3, .int v4] μ (g_xi μ (oo_fairWorth F br μ v2 v3 v4)) := g_conOf mc_X8_fairWorth.2.2.2.2 (Nat.le_of_ble_eq_true rfl) rfl (g_xi_rk (Or.inl rfl)) (lk_oo_fairWorth F br hbr μ v2 v3 v4)
theorem dX8_fair_0 : decode cX8_fair 0 = .ok (.aload_n 0, 1) := by decide +kernel
theorem dX8_fair_1 : decode cX8_fair 1 = .ok (.iload_n 1, 1) := by decide +kernel
theorem dX8_fair_2 : decode cX8_fair 2 = .ok (.invokevirtual 104, 3) := by decide +kernel
theorem dX8_fair_5 : decode cX8_fair 5 = .ok (.ifCond .eq 23, 3) := by decide +kernel
theorem dX8_fair_8 : decode cX8_fair 8 = .ok (.aload_n 0, 1) := by decide +kernel
theorem dX8_fair_9 : decode cX8_fair 9 = .ok (.iload_n 2, 1) := by decide +kernel
theorem dX8_fair_10 : decode cX8_fair 10 = .ok (.iload_n 3, 1) := by decide +kernel
theorem dX8_fair_11 : decode cX8_fair 11 = .ok (.invokevirtual 276, 3) := by decide +kernel
theorem dX8_fair_14 : decode cX8_fair 14 = .ok (.ifCond .eq 14, 3) := by decide +kernel
theorem dX8_fair_17 : decode cX8_fair 17 = .ok (.iload 4, 2) := by decide +kernel
theorem dX8_fair_19 : decode cX8_fair 19 = .ok (.ifCond .lt 9, 3) := by decide +kernel
theorem dX8_fair_22 : decode cX8_fair 22 = .ok (.iload 4, 2) := by decide +kernel
theorem dX8_fair_24 : decode cX8_fair 24 = .ok (.iconst 1, 1) := by decide +kernel
theorem dX8_fair_25 : decode cX8_fair 25 = .ok (.if_icmp .le 14, 3) := by decide +kernel
theorem dX8_fair_28 : decode cX8_fair 28 = .ok (.new 185, 3) := by decide +kernel
theorem dX8_fair_31 : decode cX8_fair 31 = .ok (.dup, 1) := by decide +kernel
theorem dX8_fair_32 : decode cX8_fair 32 = .ok (.ldc_w 279, 3) := by decide +kernel
theorem dX8_fair_35 : decode cX8_fair 35 = .ok (.invokespecial 189, 3) := by decide +kernel
theorem dX8_fair_38 : decode cX8_fair 38 = .ok (.athrow, 1) := by decide +kernel
theorem dX8_fair_39 : decode cX8_fair 39 = .ok (.iload 4, 2) := by decide +kernel
theorem dX8_fair_41 : decode cX8_fair 41 = .ok (.ifCond .ne 17, 3) := by decide +kernel
theorem dX8_fair_44 : decode cX8_fair 44 = .ok (.aload_n 0, 1) := by decide +kernel
theorem dX8_fair_45 : decode cX8_fair 45 = .ok (.aload_n 0, 1) := by decide +kernel
theorem dX8_fair_46 : decode cX8_fair 46 = .ok (.invokevirtual 212, 3) := by decide +kernel
theorem dX8_fair_49 : decode cX8_fair 49 = .ok (.iload_n 1, 1) := by decide +kernel
theorem dX8_fair_50 : decode cX8_fair 50 = .ok (.iload_n 2, 1) := by decide +kernel
theorem dX8_fair_51 : decode cX8_fair 51 = .ok (.iload_n 3, 1) := by decide +kernel
theorem dX8_fair_52 : decode cX8_fair 52 = .ok (.invokevirtual 281, 3) := by decide +kernel
theorem dX8_fair_55 : decode cX8_fair 55 = .ok (.goto 12, 3) := by decide +kernel
theorem dX8_fair_58 : decode cX8_fair 58 = .ok (.aload_n 0, 1) := by decide +kernel
theorem dX8_fair_59 : decode cX8_fair 59 = .ok (.getfield 19, 3) := by decide +kernel
theorem dX8_fair_62 : decode cX8_fair 62 = .ok (.iload_n 1, 1) := by decide +kernel
theorem dX8_fair_63 : decode cX8_fair 63 = .ok (.iload_n 2, 1) := by decide +kernel
theorem dX8_fair_64 : decode cX8_fair 64 = .ok (.invokevirtual 285, 3) := by decide +kernel
theorem dX8_fair_67 : decode cX8_fair 67 = .ok (.ireturn, 1) := by decide +kernel
theorem lk_oo_fair (F : Nat) (v1 : Int32) (v2 : Int32) (v3 : Int32) (v4 : Int32) (μ : g_St) : g_Go gC 16 yX8_fair cX8_fair 5 (some .int) 0 [some (.ref 0), some (.int v1), some (.int v2), some (.int v3), some (.int v4)] [] μ (Option.map o_x (oo_fair F v1 v2 v3 v4 μ)) := by
  unfold oo_fair
  refine g_aload_n dX8_fair_0 rfl rfl ?_
  refine g_iload_n dX8_fair_1 rfl rfl ?_
  refine w_Vxi [.int _] dX8_fair_2 ml_X8_104 mv_X8_isPlace mc_X8_isPlace cf_X8 ly_Own_lt ly_Own rfl (Nat.le_of_ble_eq_true rfl) (Nat.le_of_ble_eq_true rfl) (Nat.le_of_ble_eq_true rfl) rfl (co_oo_isPlace _ _) (fun x1 => ?_)
  refine w_if_eq (tgt := 28) dX8_fair_5 (by decide) ?_ ?_
  · exact w_thr ⟨dX8_fair_28, dX8_fair_31, Or.inr ⟨279, "no such fair", Or.inl ⟨rfl, rfl⟩, dX8_fair_32, dX8_fair_35, dX8_fair_38⟩⟩ rfl
  · refine g_aload_n dX8_fair_8 rfl rfl ?_
    refine g_iload_n dX8_fair_9 rfl rfl ?_
    refine g_iload_n dX8_fair_10 rfl rfl ?_
    refine w_Vxi [.int _, .int _] dX8_fair_11 ml_X8_276 mv_X8_isFair mc_X8_isFair cf_X8 ly_Own_lt ly_Own rfl (Nat.le_of_ble_eq_true rfl) (Nat.le_of_ble_eq_true rfl) (Nat.le_of_ble_eq_true rfl) rfl (co_oo_isFair _ _ _) (fun x2 => ?_)
    refine w_if_eq (tgt := 28) dX8_fair_14 (by decide) ?_ ?_
    · exact w_thr ⟨dX8_fair_28, dX8_fair_31, Or.inr ⟨279, "no such fair", Or.inl ⟨rfl, rfl⟩, dX8_fair_32, dX8_fair_35, dX8_fair_38⟩⟩ rfl
    · refine g_iload dX8_fair_17 rfl ?_
      refine w_if_lt (tgt := 28) dX8_fair_19 (by decide) ?_ ?_
      · refine g_iload dX8_fair_22 rfl ?_
        refine g_iconst dX8_fair_24 ic_1 ?_
        refine w_icmp_le (tgt := 39) dX8_fair_25 (by decide) ?_ ?_
        · exact w_thr ⟨dX8_fair_28, dX8_fair_31, Or.inr ⟨279, "no such fair", Or.inl ⟨rfl, rfl⟩, dX8_fair_32, dX8_fair_35, dX8_fair_38⟩⟩ rfl
        · refine g_iload dX8_fair_39 rfl ?_
          refine w_if_ne (tgt := 58) dX8_fair_41 (by decide) ?_ ?_
          · refine g_aload_n dX8_fair_44 rfl rfl ?_
            refine g_aload_n dX8_fair_45 rfl rfl ?_
            refine w_Vyr [] dX8_fair_46 ml_X8_212 mv_X8_anywhere mc_X8_anywhere cf_X8 ly_Own_lt ly_Own rfl (Nat.le_of_ble_eq_true rfl) (Nat.le_of_ble_eq_true rfl) (Nat.le_of_ble_eq_true rfl) rfl (co_oo_anywhere F _) (fun μ3 => ?_)
            refine g_iload_n dX8_fair_49 rfl rfl ?_
            refine g_iload_n dX8_fair_50 rfl rfl ?_
            refine g_iload_n dX8_fair_51 rfl rfl ?_
            refine w_Vxi [.ref _, .int _, .int _, .int _] dX8_fair_52 ml_X8_281 mv_X8_fairWorth mc_X8_fairWorth cf_X8 ly_Own_lt ly_Own rfl (Nat.le_of_ble_eq_true rfl) (Nat.le_of_ble_eq_true rfl) (Nat.le_of_ble_eq_true rfl) rfl (co_oo_fairWorth F _ (Or.inl rfl) _ _ _ _) (fun x4 => ?_)
            refine g_goto (tgt := 67) dX8_fair_55 (by decide) ?_
            exact w_iret dX8_fair_67 rfl rfl
          · refine g_aload_n dX8_fair_58 rfl rfl ?_
            refine w_getql dX8_fair_59 cf_X8 fl_X8_19 ly_Own_lt ly_Own rfl (Nat.le_of_ble_eq_true rfl) (fun b5 hb5 => ?_)
            refine g_iload_n dX8_fair_62 rfl rfl ?_
            refine g_iload_n dX8_fair_63 rfl rfl ?_
            refine w_Vxi [.int _, .int _] dX8_fair_64 ml_X8_285 mv_X1_comersTo mc_X1_comersTo cf_X1 (ly_Land_lt hb5) (ly_Land hb5) rfl (Nat.le_of_ble_eq_true rfl) (Nat.le_of_ble_eq_true rfl) (Nat.le_of_ble_eq_true rfl) rfl (co_ol_comersTo F _ hb5 _ _ _) (fun x6 => ?_)
            exact w_iret dX8_fair_67 rfl rfl
      · exact w_thr ⟨dX8_fair_28, dX8_fair_31, Or.inr ⟨279, "no such fair", Or.inl ⟨rfl, rfl⟩, dX8_fair_32, dX8_fair_35, dX8_fair_38⟩⟩ rfl
theorem dX8_fairest_0 : decode cX8_fairest 0 = .ok (.aload_n 0, 1) := by decide +kernel
theorem dX8_fairest_1 : decode cX8_fairest 1 = .ok (.iload_n 1, 1) := by decide +kernel
theorem dX8_fairest_2 : decode cX8_fairest 2 = .ok (.iload_n 2, 1) := by decide +kernel
theorem dX8_fairest_3 : decode cX8_fairest 3 = .ok (.invokevirtual 276, 3) := by decide +kernel
theorem dX8_fairest_6 : decode cX8_fairest 6 = .ok (.ifCond .ne 5, 3) := by decide +kernel
theorem dX8_fairest_9 : decode cX8_fairest 9 = .ok (.iconst (-1), 1) := by decide +kernel
theorem dX8_fairest_10 : decode cX8_fairest 10 = .ok (.ireturn, 1) := by decide +kernel
theorem dX8_fairest_11 : decode cX8_fairest 11 = .ok (.iconst (-1), 1) := by decide +kernel
theorem dX8_fairest_12 : decode cX8_fairest 12 = .ok (.istore_n 3, 1) := by decide +kernel
theorem dX8_fairest_13 : decode cX8_fairest 13 = .ok (.iconst 0, 1) := by decide +kernel
theorem dX8_fairest_14 : decode cX8_fairest 14 = .ok (.istore 4, 2) := by decide +kernel
theorem dX8_fairest_16 : decode cX8_fairest 16 = .ok (.iconst 0, 1) := by decide +kernel
theorem dX8_fairest_17 : decode cX8_fairest 17 = .ok (.istore 5, 2) := by decide +kernel
theorem dX8_fairest_19 : decode cX8_fairest 19 = .ok (.iload 5, 2) := by decide +kernel
theorem dX8_fairest_21 : decode cX8_fairest 21 = .ok (.aload_n 0, 1) := by decide +kernel
theorem dX8_fairest_22 : decode cX8_fairest 22 = .ok (.getfield 19, 3) := by decide +kernel
theorem dX8_fairest_25 : decode cX8_fairest 25 = .ok (.getfield 248, 3) := by decide +kernel
theorem dX8_fairest_28 : decode cX8_fairest 28 = .ok (.if_icmp .ge 42, 3) := by decide +kernel
theorem dX8_fairest_31 : decode cX8_fairest 31 = .ok (.aload_n 0, 1) := by decide +kernel
theorem dX8_fairest_32 : decode cX8_fairest 32 = .ok (.aload_n 0, 1) := by decide +kernel
theorem dX8_fairest_33 : decode cX8_fairest 33 = .ok (.invokevirtual 212, 3) := by decide +kernel
theorem dX8_fairest_36 : decode cX8_fairest 36 = .ok (.iload 5, 2) := by decide +kernel
theorem dX8_fairest_38 : decode cX8_fairest 38 = .ok (.iload_n 1, 1) := by decide +kernel
theorem dX8_fairest_39 : decode cX8_fairest 39 = .ok (.iload_n 2, 1) := by decide +kernel
theorem dX8_fairest_40 : decode cX8_fairest 40 = .ok (.invokevirtual 281, 3) := by decide +kernel
theorem dX8_fairest_43 : decode cX8_fairest 43 = .ok (.istore 6, 2) := by decide +kernel
theorem dX8_fairest_45 : decode cX8_fairest 45 = .ok (.iload_n 3, 1) := by decide +kernel
theorem dX8_fairest_46 : decode cX8_fairest 46 = .ok (.iconst (-1), 1) := by decide +kernel
theorem dX8_fairest_47 : decode cX8_fairest 47 = .ok (.if_icmp .eq 10, 3) := by decide +kernel
theorem dX8_fairest_50 : decode cX8_fairest 50 = .ok (.iload 6, 2) := by decide +kernel
theorem dX8_fairest_52 : decode cX8_fairest 52 = .ok (.iload 4, 2) := by decide +kernel
theorem dX8_fairest_54 : decode cX8_fairest 54 = .ok (.if_icmp .le 10, 3) := by decide +kernel
theorem dX8_fairest_57 : decode cX8_fairest 57 = .ok (.iload 5, 2) := by decide +kernel
theorem dX8_fairest_59 : decode cX8_fairest 59 = .ok (.istore_n 3, 1) := by decide +kernel
theorem dX8_fairest_60 : decode cX8_fairest 60 = .ok (.iload 6, 2) := by decide +kernel
theorem dX8_fairest_62 : decode cX8_fairest 62 = .ok (.istore 4, 2) := by decide +kernel
theorem dX8_fairest_64 : decode cX8_fairest 64 = .ok (.iinc 5 1, 3) := by decide +kernel
theorem dX8_fairest_67 : decode cX8_fairest 67 = .ok (.goto (-48), 3) := by decide +kernel
theorem dX8_fairest_70 : decode cX8_fairest 70 = .ok (.iload_n 3, 1) := by decide +kernel
theorem dX8_fairest_71 : decode cX8_fairest 71 = .ok (.ireturn, 1) := by decide +kernel
theorem lk_oo_fairest_19_b (F : Nat) (v1 : Int32) (v2 : Int32) (K_19 : Int32 → Int32 → Int32 → g_St → Option (Int32 × g_St)) (hK_19 : ∀ (w3 : Int32) (w4 : Int32) (w5 : Int32) (ν : g_St), g_Go gC 16 yX8_fairest cX8_fairest 7 (some .int) 19 [some (.ref 0), some (.int v1), some (.int v2), some (.int w3), some (.int w4), some (.int w5), none] [] ν (Option.map o_yi (K_19 w3 w4 w5 ν))) (v3 : Int32) (v4 : Int32) (v5 : Int32) (μ : g_St) : g_Go gC 16 yX8_fairest cX8_fairest 7 (some .int) 19 [some (.ref 0), some (.int v1), some (.int v2), some (.int v3), some (.int v4), some (.int v5), none] [] μ (Option.map o_yi (oo_fairest_19_b F v1 v2 K_19 v3 v4 v5 μ)) := by
  unfold oo_fairest_19_b
  refine g_iload dX8_fairest_19 rfl ?_
  refine g_aload_n dX8_fairest_21 rfl rfl ?_
  refine w_getql dX8_fairest_22 cf_X8 fl_X8_19 ly_Own_lt ly_Own rfl (Nat.le_of_ble_eq_true rfl) (fun b2 hb2 => ?_)
  refine g_getI dX8_fairest_25 cf_X1 fl_X8_248 (ly_Land_lt hb2) (ly_Land hb2) rfl (Nat.le_of_ble_eq_true rfl) ?_
  refine w_icmp_ge (tgt := 70) dX8_fairest_28 (by decide) ?_ ?_
  · refine g_aload_n dX8_fairest_31 rfl rfl ?_
    refine g_aload_n dX8_fairest_32 rfl rfl ?_
    refine w_Vyr [] dX8_fairest_33 ml_X8_212 mv_X8_anywhere mc_X8_anywhere cf_X8 ly_Own_lt ly_Own rfl (Nat.le_of_ble_eq_true rfl) (Nat.le_of_ble_eq_true rfl) (Nat.le_of_ble_eq_true rfl) rfl (co_oo_anywhere F _) (fun μ3 => ?_)
    refine g_iload dX8_fairest_36 rfl ?_
    refine g_iload_n dX8_fairest_38 rfl rfl ?_
    refine g_iload_n dX8_fairest_39 rfl rfl ?_
    refine w_Vxi [.ref _, .int _, .int _, .int _] dX8_fairest_40 ml_X8_281 mv_X8_fairWorth mc_X8_fairWorth cf_X8 ly_Own_lt ly_Own rfl (Nat.le_of_ble_eq_true rfl) (Nat.le_of_ble_eq_true rfl) (Nat.le_of_ble_eq_true rfl) rfl (co_oo_fairWorth F _ (Or.inl rfl) _ _ _ _) (fun x4 => ?_)
    refine g_istore (lo2 := [_, _, _, _, _, _, _]) dX8_fairest_43 (Nat.le_of_ble_eq_true rfl) rfl rfl ?_
    refine g_iload_n dX8_fairest_45 rfl rfl ?_
    refine g_iconst dX8_fairest_46 ic_m1 ?_
    refine w_icmp_eq (tgt := 57) dX8_fairest_47 (by decide) ?_ ?_
    · refine g_iload dX8_fairest_57 rfl ?_
      refine g_istore_n (lo2 := [_, _, _, _, _, _, _]) dX8_fairest_59 rfl (Nat.le_of_ble_eq_true rfl) rfl rfl ?_
      refine g_iload dX8_fairest_60 rfl ?_
      refine g_istore (lo2 := [_, _, _, _, _, _, _]) dX8_fairest_62 (Nat.le_of_ble_eq_true rfl) rfl rfl ?_
      refine g_iinc (lo2 := [_, _, _, _, _, _, _]) dX8_fairest_64 rfl rfl (Nat.le_of_ble_eq_true rfl) rfl rfl ?_
      refine g_goto (tgt := 19) dX8_fairest_67 (by decide) ?_
      exact g_to (hK_19 _ _ _ _) (su_s (su_s (su_s (su_s (su_s (su_s (su_n su_0)))))))
    · refine g_iload dX8_fairest_50 rfl ?_
      refine g_iload dX8_fairest_52 rfl ?_
      refine w_icmp_le (tgt := 64) dX8_fairest_54 (by decide) ?_ ?_
      · refine g_iload dX8_fairest_57 rfl ?_
        refine g_istore_n (lo2 := [_, _, _, _, _, _, _]) dX8_fairest_59 rfl (Nat.le_of_ble_eq_true rfl) rfl rfl ?_
        refine g_iload dX8_fairest_60 rfl ?_
        refine g_istore (lo2 := [_, _, _, _, _, _, _]) dX8_fairest_62 (Nat.le_of_ble_eq_true rfl) rfl rfl ?_
        refine g_iinc (lo2 := [_, _, _, _, _, _, _]) dX8_fairest_64 rfl rfl (Nat.le_of_ble_eq_true rfl) rfl rfl ?_
        refine g_goto (tgt := 19) dX8_fairest_67 (by decide) ?_
        exact g_to (hK_19 _ _ _ _) (su_s (su_s (su_s (su_s (su_s (su_s (su_n su_0)))))))
      · refine g_iinc (lo2 := [_, _, _, _, _, _, _]) dX8_fairest_64 rfl rfl (Nat.le_of_ble_eq_true rfl) rfl rfl ?_
        refine g_goto (tgt := 19) dX8_fairest_67 (by decide) ?_
        exact g_to (hK_19 _ _ _ _) (su_s (su_s (su_s (su_s (su_s (su_s (su_n su_0)))))))
  · refine g_iload_n dX8_fairest_70 rfl rfl ?_
    exact w_iret dX8_fairest_71 rfl rfl
theorem lk_oo_fairest_19 (F : Nat) (v1 : Int32) (v2 : Int32) : ∀ (f : Nat) (v3 : Int32) (v4 : Int32) (v5 : Int32) (μ : g_St) , g_Go gC 16 yX8_fairest cX8_fairest 7 (some .int) 19 [some (.ref 0), some (.int v1), some (.int v2), some (.int v3), some (.int v4), some (.int v5), none] [] μ (Option.map o_yi (oo_fairest_19 F v1 v2 f v3 v4 v5 μ))
  | 0, v3, v4, v5, μ => g_none
  | f + 1, v3, v4, v5, μ => lk_oo_fairest_19_b F v1 v2 (oo_fairest_19 F v1 v2 f) (lk_oo_fairest_19 F v1 v2 f) v3 v4 v5 μ
theorem lk_oo_fairest (F : Nat) (v1 : Int32) (v2 : Int32) (μ : g_St) : g_Go gC 16 yX8_fairest cX8_fairest 7 (some .int) 0 [some (.ref 0), some (.int v1), some (.int v2), none, none, none, none] [] μ (Option.map o_yi (oo_fairest F v1 v2 μ)) := by
  unfold oo_fairest
  refine g_aload_n dX8_fairest_0 rfl rfl ?_
  refine g_iload_n dX8_fairest_1 rfl rfl ?_
  refine g_iload_n dX8_fairest_2 rfl rfl ?_
  refine w_Vxi [.int _, .int _] dX8_fairest_3 ml_X8_276 mv_X8_isFair mc_X8_isFair cf_X8 ly_Own_lt ly_Own rfl (Nat.le_of_ble_eq_true rfl) (Nat.le_of_ble_eq_true rfl) (Nat.le_of_ble_eq_true rfl) rfl (co_oo_isFair _ _ _) (fun x1 => ?_)
  refine w_if_ne (tgt := 11) dX8_fairest_6 (by decide) ?_ ?_
  · refine g_iconst dX8_fairest_9 ic_m1 ?_
    exact w_iret dX8_fairest_10 rfl rfl
  · refine g_iconst dX8_fairest_11 ic_m1 ?_
    refine g_istore_n (lo2 := [_, _, _, _, _, _, _]) dX8_fairest_12 rfl (Nat.le_of_ble_eq_true rfl) rfl rfl ?_
    refine g_iconst dX8_fairest_13 ic_0 ?_
    refine g_istore (lo2 := [_, _, _, _, _, _, _]) dX8_fairest_14 (Nat.le_of_ble_eq_true rfl) rfl rfl ?_
    refine g_iconst dX8_fairest_16 ic_0 ?_
    refine g_istore (lo2 := [_, _, _, _, _, _, _]) dX8_fairest_17 (Nat.le_of_ble_eq_true rfl) rfl rfl ?_
    exact g_to (lk_oo_fairest_19 F _ _ _ _ _ _ _) (su_s (su_s (su_s (su_s (su_s (su_s (su_n su_0)))))))
theorem co_oo_fairest (F : Nat) (v1 : Int32) (v2 : Int32) (μ : g_St) : g_Con gC 16 yX8_fairest cX8_fairest 7 (some .int) [.ref 0, .int v1, .int v2] μ (g_yi (oo_fairest F v1 v2 μ)) := g_conOf mc_X8_fairest.2.2.2.2 (Nat.le_of_ble_eq_true rfl) rfl (g_yi_rk (Or.inl rfl)) (lk_oo_fairest F v1 v2 μ)
theorem dX8_far_0 : decode cX8_far 0 = .ok (.aload_n 0, 1) := by decide +kernel
theorem dX8_far_1 : decode cX8_far 1 = .ok (.iload_n 1, 1) := by decide +kernel
theorem dX8_far_2 : decode cX8_far 2 = .ok (.invokevirtual 125, 3) := by decide +kernel
theorem dX8_far_5 : decode cX8_far 5 = .ok (.ifCond .eq 33, 3) := by decide +kernel
theorem dX8_far_8 : decode cX8_far 8 = .ok (.aload_n 0, 1) := by decide +kernel
theorem dX8_far_9 : decode cX8_far 9 = .ok (.iload_n 2, 1) := by decide +kernel
theorem dX8_far_10 : decode cX8_far 10 = .ok (.invokevirtual 112, 3) := by decide +kernel
theorem dX8_far_13 : decode cX8_far 13 = .ok (.ifCond .eq 25, 3) := by decide +kernel
theorem dX8_far_16 : decode cX8_far 16 = .ok (.iload_n 3, 1) := by decide +kernel
theorem dX8_far_17 : decode cX8_far 17 = .ok (.iconst 1, 1) := by decide +kernel
theorem dX8_far_18 : decode cX8_far 18 = .ok (.if_icmp .lt 20, 3) := by decide +kernel
theorem dX8_far_21 : decode cX8_far 21 = .ok (.iload_n 3, 1) := by decide +kernel
theorem dX8_far_22 : decode cX8_far 22 = .ok (.bipush 99, 2) := by decide +kernel
theorem dX8_far_24 : decode cX8_far 24 = .ok (.if_icmp .gt 14, 3) := by decide +kernel
theorem dX8_far_27 : decode cX8_far 27 = .ok (.iload 4, 2) := by decide +kernel
theorem dX8_far_29 : decode cX8_far 29 = .ok (.ifCond .lt 9, 3) := by decide +kernel
theorem dX8_far_32 : decode cX8_far 32 = .ok (.iload 4, 2) := by decide +kernel
theorem dX8_far_34 : decode cX8_far 34 = .ok (.iconst 1, 1) := by decide +kernel
theorem dX8_far_35 : decode cX8_far 35 = .ok (.if_icmp .le 5, 3) := by decide +kernel
theorem dX8_far_38 : decode cX8_far 38 = .ok (.iconst (-1), 1) := by decide +kernel
theorem dX8_far_39 : decode cX8_far 39 = .ok (.ireturn, 1) := by decide +kernel
theorem dX8_far_40 : decode cX8_far 40 = .ok (.aload_n 0, 1) := by decide +kernel
theorem dX8_far_41 : decode cX8_far 41 = .ok (.getfield 19, 3) := by decide +kernel
theorem dX8_far_44 : decode cX8_far 44 = .ok (.iload_n 1, 1) := by decide +kernel
theorem dX8_far_45 : decode cX8_far 45 = .ok (.iload_n 2, 1) := by decide +kernel
theorem dX8_far_46 : decode cX8_far 46 = .ok (.iconst 0, 1) := by decide +kernel
theorem dX8_far_47 : decode cX8_far 47 = .ok (.invokevirtual 128, 3) := by decide +kernel
theorem dX8_far_50 : decode cX8_far 50 = .ok (.iload_n 3, 1) := by decide +kernel
theorem dX8_far_51 : decode cX8_far 51 = .ok (.idiv, 1) := by decide +kernel
theorem dX8_far_52 : decode cX8_far 52 = .ok (.sipush 999, 3) := by decide +kernel
theorem dX8_far_55 : decode cX8_far 55 = .ok (.invokestatic 288, 3) := by decide +kernel
theorem dX8_far_58 : decode cX8_far 58 = .ok (.istore 5, 2) := by decide +kernel
theorem dX8_far_60 : decode cX8_far 60 = .ok (.iload 4, 2) := by decide +kernel
theorem dX8_far_62 : decode cX8_far 62 = .ok (.ifCond .ne 8, 3) := by decide +kernel
theorem dX8_far_65 : decode cX8_far 65 = .ok (.iload 5, 2) := by decide +kernel
theorem dX8_far_67 : decode cX8_far 67 = .ok (.goto 14, 3) := by decide +kernel
theorem dX8_far_70 : decode cX8_far 70 = .ok (.aload_n 0, 1) := by decide +kernel
theorem dX8_far_71 : decode cX8_far 71 = .ok (.getfield 19, 3) := by decide +kernel
theorem dX8_far_74 : decode cX8_far 74 = .ok (.iload_n 1, 1) := by decide +kernel
theorem dX8_far_75 : decode cX8_far 75 = .ok (.iload_n 2, 1) := by decide +kernel
theorem dX8_far_76 : decode cX8_far 76 = .ok (.iload 5, 2) := by decide +kernel
theorem dX8_far_78 : decode cX8_far 78 = .ok (.invokevirtual 293, 3) := by decide +kernel
theorem dX8_far_81 : decode cX8_far 81 = .ok (.ireturn, 1) := by decide +kernel
theorem lk_oo_far (F : Nat) (μ : g_St) (v1 : Int32) (v2 : Int32) (v3 : Int32) (v4 : Int32) : g_Go gC 2 yX8_far cX8_far 6 (some .int) 0 [some (.ref 0), some (.int v1), some (.int v2), some (.int v3), some (.int v4), none] [] μ (Option.map (o_i μ) (oo_far F μ v1 v2 v3 v4)) := by
  unfold oo_far
  refine g_aload_n dX8_far_0 rfl rfl ?_
  refine g_iload_n dX8_far_1 rfl rfl ?_
  refine w_Vxi [.int _] dX8_far_2 ml_X8_125 mv_X8_isPerson mc_X8_isPerson cf_X8 ly_Own_lt ly_Own rfl (Nat.le_of_ble_eq_true rfl) (Nat.le_of_ble_eq_true rfl) (Nat.le_of_ble_eq_true rfl) rfl (co_oo_isPerson _ _) (fun x1 => ?_)
  refine w_if_eq (tgt := 38) dX8_far_5 (by decide) ?_ ?_
  · refine g_iconst dX8_far_38 ic_m1 ?_
    exact w_iret dX8_far_39 rfl rfl
  · refine g_aload_n dX8_far_8 rfl rfl ?_
    refine g_iload_n dX8_far_9 rfl rfl ?_
    refine w_Vxi [.int _] dX8_far_10 ml_X8_112 mv_X8_isGood mc_X8_isGood cf_X8 ly_Own_lt ly_Own rfl (Nat.le_of_ble_eq_true rfl) (Nat.le_of_ble_eq_true rfl) (Nat.le_of_ble_eq_true rfl) rfl (co_oo_isGood _ _) (fun x2 => ?_)
    refine w_if_eq (tgt := 38) dX8_far_13 (by decide) ?_ ?_
    · refine g_iconst dX8_far_38 ic_m1 ?_
      exact w_iret dX8_far_39 rfl rfl
    · refine g_iload_n dX8_far_16 rfl rfl ?_
      refine g_iconst dX8_far_17 ic_1 ?_
      refine w_icmp_lt (tgt := 38) dX8_far_18 (by decide) ?_ ?_
      · refine g_iload_n dX8_far_21 rfl rfl ?_
        refine g_bipush dX8_far_22 bp_99 ?_
        refine w_icmp_gt (tgt := 38) dX8_far_24 (by decide) ?_ ?_
        · refine g_iload dX8_far_27 rfl ?_
          refine w_if_lt (tgt := 38) dX8_far_29 (by decide) ?_ ?_
          · refine g_iload dX8_far_32 rfl ?_
            refine g_iconst dX8_far_34 ic_1 ?_
            refine w_icmp_le (tgt := 40) dX8_far_35 (by decide) ?_ ?_
            · refine g_iconst dX8_far_38 ic_m1 ?_
              exact w_iret dX8_far_39 rfl rfl
            · refine g_aload_n dX8_far_40 rfl rfl ?_
              refine w_getql dX8_far_41 cf_X8 fl_X8_19 ly_Own_lt ly_Own rfl (Nat.le_of_ble_eq_true rfl) (fun b3 hb3 => ?_)
              refine g_iload_n dX8_far_44 rfl rfl ?_
              refine g_iload_n dX8_far_45 rfl rfl ?_
              refine g_iconst dX8_far_46 ic_0 ?_
              refine w_Vxi [.int _, .int _, .int _] dX8_far_47 ml_X8_128 mv_X1_worthOf mc_X1_worthOf cf_X1 (ly_Land_lt hb3) (ly_Land hb3) rfl (Nat.le_of_ble_eq_true rfl) (Nat.le_of_ble_eq_true rfl) (Nat.le_of_ble_eq_true rfl) rfl (co_ol_worthOf _ hb3 _ _ _ _) (fun x4 => ?_)
              refine g_iload_n dX8_far_50 rfl rfl ?_
              refine w_idiv dX8_far_51 (fun x5 => ?_)
              refine g_sipush dX8_far_52 sp_999 ?_
              refine g_mmin g_mm dX8_far_55 mh_X8_288 (Nat.le_of_ble_eq_true rfl) (Nat.le_of_ble_eq_true rfl) ?_
              refine g_istore (lo2 := [_, _, _, _, _, _]) dX8_far_58 (Nat.le_of_ble_eq_true rfl) rfl rfl ?_
              refine g_iload dX8_far_60 rfl ?_
              refine w_if_ne (tgt := 70) dX8_far_62 (by decide) ?_ ?_
              · refine g_iload dX8_far_65 rfl ?_
                refine g_goto (tgt := 81) dX8_far_67 (by decide) ?_
                exact w_iret dX8_far_81 rfl rfl
              · refine g_aload_n dX8_far_70 rfl rfl ?_
                refine w_getql dX8_far_71 cf_X8 fl_X8_19 ly_Own_lt ly_Own rfl (Nat.le_of_ble_eq_true rfl) (fun b6 hb6 => ?_)
                refine g_iload_n dX8_far_74 rfl rfl ?_
                refine g_iload_n dX8_far_75 rfl rfl ?_
                refine g_iload dX8_far_76 rfl ?_
                refine w_Vxi [.int _, .int _, .int _] dX8_far_78 ml_X8_293 mv_X1_makersWithin mc_X1_makersWithin cf_X1 (ly_Land_lt hb6) (ly_Land hb6) rfl (Nat.le_of_ble_eq_true rfl) (Nat.le_of_ble_eq_true rfl) (Nat.le_of_ble_eq_true rfl) rfl (co_ol_makersWithin F _ hb6 _ _ _ _) (fun x7 => ?_)
                exact w_iret dX8_far_81 rfl rfl
          · refine g_iconst dX8_far_38 ic_m1 ?_
            exact w_iret dX8_far_39 rfl rfl
        · refine g_iconst dX8_far_38 ic_m1 ?_
          exact w_iret dX8_far_39 rfl rfl
      · refine g_iconst dX8_far_38 ic_m1 ?_
        exact w_iret dX8_far_39 rfl rfl
theorem co_oo_far (F : Nat) (μ : g_St) (v1 : Int32) (v2 : Int32) (v3 : Int32) (v4 : Int32) : g_Con gC 2 yX8_far cX8_far 6 (some .int) [.ref 0, .int v1, .int v2, .int v3, .int v4] μ (g_xi μ (oo_far F μ v1 v2 v3 v4)) := g_conOf mc_X8_far.2.2.2.2 (Nat.le_of_ble_eq_true rfl) rfl (g_xi_rk (Or.inl rfl)) (lk_oo_far F μ v1 v2 v3 v4)
theorem dX8_bestShared_0 : decode cX8_bestShared 0 = .ok (.aload_n 0, 1) := by decide +kernel
theorem dX8_bestShared_1 : decode cX8_bestShared 1 = .ok (.getfield 68, 3) := by decide +kernel
theorem dX8_bestShared_4 : decode cX8_bestShared 4 = .ok (.iconst 0, 1) := by decide +kernel
theorem dX8_bestShared_5 : decode cX8_bestShared 5 = .ok (.invokestatic 378, 3) := by decide +kernel
theorem dX8_bestShared_8 : decode cX8_bestShared 8 = .ok (.iconst 0, 1) := by decide +kernel
theorem dX8_bestShared_9 : decode cX8_bestShared 9 = .ok (.istore_n 3, 1) := by decide +kernel
theorem dX8_bestShared_10 : decode cX8_bestShared 10 = .ok (.iconst 0, 1) := by decide +kernel
theorem dX8_bestShared_11 : decode cX8_bestShared 11 = .ok (.istore 4, 2) := by decide +kernel
theorem dX8_bestShared_13 : decode cX8_bestShared 13 = .ok (.iload 4, 2) := by decide +kernel
theorem dX8_bestShared_15 : decode cX8_bestShared 15 = .ok (.iload_n 2, 1) := by decide +kernel
theorem dX8_bestShared_16 : decode cX8_bestShared 16 = .ok (.if_icmp .ge 105, 3) := by decide +kernel
theorem dX8_bestShared_19 : decode cX8_bestShared 19 = .ok (.iconst 0, 1) := by decide +kernel
theorem dX8_bestShared_20 : decode cX8_bestShared 20 = .ok (.istore 5, 2) := by decide +kernel
theorem dX8_bestShared_22 : decode cX8_bestShared 22 = .ok (.iconst 1, 1) := by decide +kernel
theorem dX8_bestShared_23 : decode cX8_bestShared 23 = .ok (.istore 6, 2) := by decide +kernel
theorem dX8_bestShared_25 : decode cX8_bestShared 25 = .ok (.iload 6, 2) := by decide +kernel
theorem dX8_bestShared_27 : decode cX8_bestShared 27 = .ok (.aload_n 0, 1) := by decide +kernel
theorem dX8_bestShared_28 : decode cX8_bestShared 28 = .ok (.getfield 19, 3) := by decide +kernel
theorem dX8_bestShared_31 : decode cX8_bestShared 31 = .ok (.getfield 228, 3) := by decide +kernel
theorem dX8_bestShared_34 : decode cX8_bestShared 34 = .ok (.if_icmp .ge 50, 3) := by decide +kernel
theorem dX8_bestShared_37 : decode cX8_bestShared 37 = .ok (.aload_n 0, 1) := by decide +kernel
theorem dX8_bestShared_38 : decode cX8_bestShared 38 = .ok (.getfield 19, 3) := by decide +kernel
theorem dX8_bestShared_41 : decode cX8_bestShared 41 = .ok (.iload 6, 2) := by decide +kernel
theorem dX8_bestShared_43 : decode cX8_bestShared 43 = .ok (.iload_n 1, 1) := by decide +kernel
theorem dX8_bestShared_44 : decode cX8_bestShared 44 = .ok (.aload_n 0, 1) := by decide +kernel
theorem dX8_bestShared_45 : decode cX8_bestShared 45 = .ok (.getfield 68, 3) := by decide +kernel
theorem dX8_bestShared_48 : decode cX8_bestShared 48 = .ok (.iload 6, 2) := by decide +kernel
theorem dX8_bestShared_50 : decode cX8_bestShared 50 = .ok (.iaload, 1) := by decide +kernel
theorem dX8_bestShared_51 : decode cX8_bestShared 51 = .ok (.invokevirtual 128, 3) := by decide +kernel
theorem dX8_bestShared_54 : decode cX8_bestShared 54 = .ok (.aload_n 0, 1) := by decide +kernel
theorem dX8_bestShared_55 : decode cX8_bestShared 55 = .ok (.getfield 19, 3) := by decide +kernel
theorem dX8_bestShared_58 : decode cX8_bestShared 58 = .ok (.iload 5, 2) := by decide +kernel
theorem dX8_bestShared_60 : decode cX8_bestShared 60 = .ok (.iload_n 1, 1) := by decide +kernel
theorem dX8_bestShared_61 : decode cX8_bestShared 61 = .ok (.aload_n 0, 1) := by decide +kernel
theorem dX8_bestShared_62 : decode cX8_bestShared 62 = .ok (.getfield 68, 3) := by decide +kernel
theorem dX8_bestShared_65 : decode cX8_bestShared 65 = .ok (.iload 5, 2) := by decide +kernel
theorem dX8_bestShared_67 : decode cX8_bestShared 67 = .ok (.iaload, 1) := by decide +kernel
theorem dX8_bestShared_68 : decode cX8_bestShared 68 = .ok (.invokevirtual 128, 3) := by decide +kernel
theorem dX8_bestShared_71 : decode cX8_bestShared 71 = .ok (.if_icmp .le 7, 3) := by decide +kernel
theorem dX8_bestShared_74 : decode cX8_bestShared 74 = .ok (.iload 6, 2) := by decide +kernel
theorem dX8_bestShared_76 : decode cX8_bestShared 76 = .ok (.istore 5, 2) := by decide +kernel
theorem dX8_bestShared_78 : decode cX8_bestShared 78 = .ok (.iinc 6 1, 3) := by decide +kernel
theorem dX8_bestShared_81 : decode cX8_bestShared 81 = .ok (.goto (-56), 3) := by decide +kernel
theorem dX8_bestShared_84 : decode cX8_bestShared 84 = .ok (.iload_n 3, 1) := by decide +kernel
theorem dX8_bestShared_85 : decode cX8_bestShared 85 = .ok (.aload_n 0, 1) := by decide +kernel
theorem dX8_bestShared_86 : decode cX8_bestShared 86 = .ok (.getfield 19, 3) := by decide +kernel
theorem dX8_bestShared_89 : decode cX8_bestShared 89 = .ok (.iload 5, 2) := by decide +kernel
theorem dX8_bestShared_91 : decode cX8_bestShared 91 = .ok (.iload_n 1, 1) := by decide +kernel
theorem dX8_bestShared_92 : decode cX8_bestShared 92 = .ok (.aload_n 0, 1) := by decide +kernel
theorem dX8_bestShared_93 : decode cX8_bestShared 93 = .ok (.getfield 68, 3) := by decide +kernel
theorem dX8_bestShared_96 : decode cX8_bestShared 96 = .ok (.iload 5, 2) := by decide +kernel
theorem dX8_bestShared_98 : decode cX8_bestShared 98 = .ok (.iaload, 1) := by decide +kernel
theorem dX8_bestShared_99 : decode cX8_bestShared 99 = .ok (.invokevirtual 128, 3) := by decide +kernel
theorem dX8_bestShared_102 : decode cX8_bestShared 102 = .ok (.iadd, 1) := by decide +kernel
theorem dX8_bestShared_103 : decode cX8_bestShared 103 = .ok (.istore_n 3, 1) := by decide +kernel
theorem dX8_bestShared_104 : decode cX8_bestShared 104 = .ok (.aload_n 0, 1) := by decide +kernel
theorem dX8_bestShared_105 : decode cX8_bestShared 105 = .ok (.getfield 68, 3) := by decide +kernel
theorem dX8_bestShared_108 : decode cX8_bestShared 108 = .ok (.iload 5, 2) := by decide +kernel
theorem dX8_bestShared_110 : decode cX8_bestShared 110 = .ok (.dup2, 1) := by decide +kernel
theorem dX8_bestShared_111 : decode cX8_bestShared 111 = .ok (.iaload, 1) := by decide +kernel
theorem dX8_bestShared_112 : decode cX8_bestShared 112 = .ok (.iconst 1, 1) := by decide +kernel
theorem dX8_bestShared_113 : decode cX8_bestShared 113 = .ok (.iadd, 1) := by decide +kernel
theorem dX8_bestShared_114 : decode cX8_bestShared 114 = .ok (.iastore, 1) := by decide +kernel
theorem dX8_bestShared_115 : decode cX8_bestShared 115 = .ok (.iinc 4 1, 3) := by decide +kernel
theorem dX8_bestShared_118 : decode cX8_bestShared 118 = .ok (.goto (-105), 3) := by decide +kernel
theorem dX8_bestShared_121 : decode cX8_bestShared 121 = .ok (.iload_n 3, 1) := by decide +kernel
theorem dX8_bestShared_122 : decode cX8_bestShared 122 = .ok (.ireturn, 1) := by decide +kernel
theorem lk_oo_bestShared_25_b (F : Nat) (v1 : Int32) (v2 : Int32) (v3 : Int32) (v4 : Int32) (K_13 : Int32 → Int32 → g_St → Option (Int32 × g_St)) (hK_13 : ∀ (w3 : Int32) (w4 : Int32) (ν : g_St), g_Go gC 1 yX8_bestShared cX8_bestShared 7 (some .int) 13 [some (.ref 0), some (.int v1), some (.int v2), some (.int w3), some (.int w4), none, none] [] ν (Option.map o_yi (K_13 w3 w4 ν))) (K_25 : Int32 → Int32 → g_St → Option (Int32 × g_St)) (hK_25 : ∀ (w5 : Int32) (w6 : Int32) (ν : g_St), g_Go gC 1 yX8_bestShared cX8_bestShared 7 (some .int) 25 [some (.ref 0), some (.int v1), some (.int v2), some (.int v3), some (.int v4), some (.int w5), some (.int w6)] [] ν (Option.map o_yi (K_25 w5 w6 ν))) (v5 : Int32) (v6 : Int32) (μ : g_St) : g_Go gC 1 yX8_bestShared cX8_bestShared 7 (some .int) 25 [some (.ref 0), some (.int v1), some (.int v2), some (.int v3), some (.int v4), some (.int v5), some (.int v6)] [] μ (Option.map o_yi (oo_bestShared_25_b F v1 v2 v3 v4 K_13 K_25 v5 v6 μ)) := by
  unfold oo_bestShared_25_b
  refine g_iload dX8_bestShared_25 rfl ?_
  refine g_aload_n dX8_bestShared_27 rfl rfl ?_
  refine w_getql dX8_bestShared_28 cf_X8 fl_X8_19 ly_Own_lt ly_Own rfl (Nat.le_of_ble_eq_true rfl) (fun b2 hb2 => ?_)
  refine g_getI dX8_bestShared_31 cf_X1 fl_X8_228 (ly_Land_lt hb2) (ly_Land hb2) rfl (Nat.le_of_ble_eq_true rfl) ?_
  refine w_icmp_ge (tgt := 84) dX8_bestShared_34 (by decide) ?_ ?_
  · refine g_aload_n dX8_bestShared_37 rfl rfl ?_
    refine w_getql dX8_bestShared_38 cf_X8 fl_X8_19 ly_Own_lt ly_Own rfl (Nat.le_of_ble_eq_true rfl) (fun b3 hb3 => ?_)
    refine g_iload dX8_bestShared_41 rfl ?_
    refine g_iload_n dX8_bestShared_43 rfl rfl ?_
    refine g_aload_n dX8_bestShared_44 rfl rfl ?_
    refine g_getS dX8_bestShared_45 cf_X8 fl_X8_68 ly_Own_lt ly_Own rfl (Nat.le_of_ble_eq_true rfl) ?_
    refine g_iload dX8_bestShared_48 rfl ?_
    refine w_iald dX8_bestShared_50 ly_Own_shares_lt ly_Own_shares (fun x4 => ?_)
    refine w_Vxi [.int _, .int _, .int _] dX8_bestShared_51 ml_X8_128 mv_X1_worthOf mc_X1_worthOf cf_X1 (ly_Land_lt hb3) (ly_Land hb3) rfl (Nat.le_of_ble_eq_true rfl) (Nat.le_of_ble_eq_true rfl) (Nat.le_of_ble_eq_true rfl) rfl (co_ol_worthOf _ hb3 _ _ _ _) (fun x5 => ?_)
    refine g_aload_n dX8_bestShared_54 rfl rfl ?_
    refine w_getql dX8_bestShared_55 cf_X8 fl_X8_19 ly_Own_lt ly_Own rfl (Nat.le_of_ble_eq_true rfl) (fun b6 hb6 => ?_)
    refine g_iload dX8_bestShared_58 rfl ?_
    refine g_iload_n dX8_bestShared_60 rfl rfl ?_
    refine g_aload_n dX8_bestShared_61 rfl rfl ?_
    refine g_getS dX8_bestShared_62 cf_X8 fl_X8_68 ly_Own_lt ly_Own rfl (Nat.le_of_ble_eq_true rfl) ?_
    refine g_iload dX8_bestShared_65 rfl ?_
    refine w_iald dX8_bestShared_67 ly_Own_shares_lt ly_Own_shares (fun x7 => ?_)
    refine w_Vxi [.int _, .int _, .int _] dX8_bestShared_68 ml_X8_128 mv_X1_worthOf mc_X1_worthOf cf_X1 (ly_Land_lt hb6) (ly_Land hb6) rfl (Nat.le_of_ble_eq_true rfl) (Nat.le_of_ble_eq_true rfl) (Nat.le_of_ble_eq_true rfl) rfl (co_ol_worthOf _ hb6 _ _ _ _) (fun x8 => ?_)
    refine w_icmp_le (tgt := 78) dX8_bestShared_71 (by decide) ?_ ?_
    · refine g_iload dX8_bestShared_74 rfl ?_
      refine g_istore (lo2 := [_, _, _, _, _, _, _]) dX8_bestShared_76 (Nat.le_of_ble_eq_true rfl) rfl rfl ?_
      refine g_iinc (lo2 := [_, _, _, _, _, _, _]) dX8_bestShared_78 rfl rfl (Nat.le_of_ble_eq_true rfl) rfl rfl ?_
      refine g_goto (tgt := 25) dX8_bestShared_81 (by decide) ?_
      exact g_to (hK_25 _ _ _) (su_s (su_s (su_s (su_s (su_s (su_s (su_s su_0)))))))
    · refine g_iinc (lo2 := [_, _, _, _, _, _, _]) dX8_bestShared_78 rfl rfl (Nat.le_of_ble_eq_true rfl) rfl rfl ?_
      refine g_goto (tgt := 25) dX8_bestShared_81 (by decide) ?_
      exact g_to (hK_25 _ _ _) (su_s (su_s (su_s (su_s (su_s (su_s (su_s su_0)))))))
  · refine g_iload_n dX8_bestShared_84 rfl rfl ?_
    refine g_aload_n dX8_bestShared_85 rfl rfl ?_
    refine w_getql dX8_bestShared_86 cf_X8 fl_X8_19 ly_Own_lt ly_Own rfl (Nat.le_of_ble_eq_true rfl) (fun b9 hb9 => ?_)
    refine g_iload dX8_bestShared_89 rfl ?_
    refine g_iload_n dX8_bestShared_91 rfl rfl ?_
    refine g_aload_n dX8_bestShared_92 rfl rfl ?_
    refine g_getS dX8_bestShared_93 cf_X8 fl_X8_68 ly_Own_lt ly_Own rfl (Nat.le_of_ble_eq_true rfl) ?_
    refine g_iload dX8_bestShared_96 rfl ?_
    refine w_iald dX8_bestShared_98 ly_Own_shares_lt ly_Own_shares (fun x10 => ?_)
    refine w_Vxi [.int _, .int _, .int _] dX8_bestShared_99 ml_X8_128 mv_X1_worthOf mc_X1_worthOf cf_X1 (ly_Land_lt hb9) (ly_Land hb9) rfl (Nat.le_of_ble_eq_true rfl) (Nat.le_of_ble_eq_true rfl) (Nat.le_of_ble_eq_true rfl) rfl (co_ol_worthOf _ hb9 _ _ _ _) (fun x11 => ?_)
    refine g_iadd dX8_bestShared_102 ?_
    refine g_istore_n (lo2 := [_, _, _, _, _, _, _]) dX8_bestShared_103 rfl (Nat.le_of_ble_eq_true rfl) rfl rfl ?_
    refine g_aload_n dX8_bestShared_104 rfl rfl ?_
    refine g_getS dX8_bestShared_105 cf_X8 fl_X8_68 ly_Own_lt ly_Own rfl (Nat.le_of_ble_eq_true rfl) ?_
    refine g_iload dX8_bestShared_108 rfl ?_
    refine g_dup2 dX8_bestShared_110 ?_
    refine w_iald dX8_bestShared_111 ly_Own_shares_lt ly_Own_shares (fun x12 => ?_)
    refine g_iconst dX8_bestShared_112 ic_1 ?_
    refine g_iadd dX8_bestShared_113 ?_
    refine w_iast dX8_bestShared_114 ly_Own_shares_lt ly_Own_shares (fun μ13 => ?_)
    refine g_iinc (lo2 := [_, _, _, _, _, _, _]) dX8_bestShared_115 rfl rfl (Nat.le_of_ble_eq_true rfl) rfl rfl ?_
    refine g_goto (tgt := 13) dX8_bestShared_118 (by decide) ?_
    exact g_to (hK_13 _ _ _) (su_s (su_s (su_s (su_s (su_s (su_n (su_n su_0)))))))
theorem lk_oo_bestShared_25 (F : Nat) (v1 : Int32) (v2 : Int32) (v3 : Int32) (v4 : Int32) (K_13 : Int32 → Int32 → g_St → Option (Int32 × g_St)) (hK_13 : ∀ (w3 : Int32) (w4 : Int32) (ν : g_St), g_Go gC 1 yX8_bestShared cX8_bestShared 7 (some .int) 13 [some (.ref 0), some (.int v1), some (.int v2), some (.int w3), some (.int w4), none, none] [] ν (Option.map o_yi (K_13 w3 w4 ν))) : ∀ (f : Nat) (v5 : Int32) (v6 : Int32) (μ : g_St) , g_Go gC 1 yX8_bestShared cX8_bestShared 7 (some .int) 25 [some (.ref 0), some (.int v1), some (.int v2), some (.int v3), some (.int v4), some (.int v5), some (.int v6)] [] μ (Option.map o_yi (oo_bestShared_25 F v1 v2 v3 v4 K_13 f v5 v6 μ))
  | 0, v5, v6, μ => g_none
  | f + 1, v5, v6, μ => lk_oo_bestShared_25_b F v1 v2 v3 v4 K_13 hK_13 (oo_bestShared_25 F v1 v2 v3 v4 K_13 f) (lk_oo_bestShared_25 F v1 v2 v3 v4 K_13 hK_13 f) v5 v6 μ
theorem lk_oo_bestShared_13_b (F : Nat) (v1 : Int32) (v2 : Int32) (K_13 : Int32 → Int32 → g_St → Option (Int32 × g_St)) (hK_13 : ∀ (w3 : Int32) (w4 : Int32) (ν : g_St), g_Go gC 1 yX8_bestShared cX8_bestShared 7 (some .int) 13 [some (.ref 0), some (.int v1), some (.int v2), some (.int w3), some (.int w4), none, none] [] ν (Option.map o_yi (K_13 w3 w4 ν))) (v3 : Int32) (v4 : Int32) (μ : g_St) : g_Go gC 1 yX8_bestShared cX8_bestShared 7 (some .int) 13 [some (.ref 0), some (.int v1), some (.int v2), some (.int v3), some (.int v4), none, none] [] μ (Option.map o_yi (oo_bestShared_13_b F v1 v2 K_13 v3 v4 μ)) := by
  unfold oo_bestShared_13_b
  refine g_iload dX8_bestShared_13 rfl ?_
  refine g_iload_n dX8_bestShared_15 rfl rfl ?_
  refine w_icmp_ge (tgt := 121) dX8_bestShared_16 (by decide) ?_ ?_
  · refine g_iconst dX8_bestShared_19 ic_0 ?_
    refine g_istore (lo2 := [_, _, _, _, _, _, _]) dX8_bestShared_20 (Nat.le_of_ble_eq_true rfl) rfl rfl ?_
    refine g_iconst dX8_bestShared_22 ic_1 ?_
    refine g_istore (lo2 := [_, _, _, _, _, _, _]) dX8_bestShared_23 (Nat.le_of_ble_eq_true rfl) rfl rfl ?_
    exact g_to (lk_oo_bestShared_25 F _ _ _ _ K_13 hK_13 _ _ _ _) (su_s (su_s (su_s (su_s (su_s (su_s (su_s su_0)))))))
  · refine g_iload_n dX8_bestShared_121 rfl rfl ?_
    exact w_iret dX8_bestShared_122 rfl rfl
theorem lk_oo_bestShared_13 (F : Nat) (v1 : Int32) (v2 : Int32) : ∀ (f : Nat) (v3 : Int32) (v4 : Int32) (μ : g_St) , g_Go gC 1 yX8_bestShared cX8_bestShared 7 (some .int) 13 [some (.ref 0), some (.int v1), some (.int v2), some (.int v3), some (.int v4), none, none] [] μ (Option.map o_yi (oo_bestShared_13 F v1 v2 f v3 v4 μ))
  | 0, v3, v4, μ => g_none
  | f + 1, v3, v4, μ => lk_oo_bestShared_13_b F v1 v2 (oo_bestShared_13 F v1 v2 f) (lk_oo_bestShared_13 F v1 v2 f) v3 v4 μ
theorem lk_oo_bestShared (F : Nat) (v1 : Int32) (v2 : Int32) (μ : g_St) : g_Go gC 1 yX8_bestShared cX8_bestShared 7 (some .int) 0 [some (.ref 0), some (.int v1), some (.int v2), none, none, none, none] [] μ (Option.map o_yi (oo_bestShared F v1 v2 μ)) := by
  unfold oo_bestShared
  refine g_aload_n dX8_bestShared_0 rfl rfl ?_
  refine g_getS dX8_bestShared_1 cf_X8 fl_X8_68 ly_Own_lt ly_Own rfl (Nat.le_of_ble_eq_true rfl) ?_
  refine g_iconst dX8_bestShared_4 ic_0 ?_
  refine w_Syv [.ref _, .int _] dX8_bestShared_5 ml_X8_378 ms_J7_fill_53178 mc_J7_fill_53178 rfl (Nat.le_of_ble_eq_true rfl) (Nat.le_of_ble_eq_true rfl) (Nat.le_of_ble_eq_true rfl) rfl (co_jj_fill F _ _ ly_Own_shares_lt ly_Own_shares _ _) (fun μ1 => ?_)
  refine g_iconst dX8_bestShared_8 ic_0 ?_
  refine g_istore_n (lo2 := [_, _, _, _, _, _, _]) dX8_bestShared_9 rfl (Nat.le_of_ble_eq_true rfl) rfl rfl ?_
  refine g_iconst dX8_bestShared_10 ic_0 ?_
  refine g_istore (lo2 := [_, _, _, _, _, _, _]) dX8_bestShared_11 (Nat.le_of_ble_eq_true rfl) rfl rfl ?_
  exact g_to (lk_oo_bestShared_13 F _ _ _ _ _ _) (su_s (su_s (su_s (su_s (su_s (su_n (su_n su_0)))))))
theorem co_oo_bestShared (F : Nat) (v1 : Int32) (v2 : Int32) (μ : g_St) : g_Con gC 1 yX8_bestShared cX8_bestShared 7 (some .int) [.ref 0, .int v1, .int v2] μ (g_yi (oo_bestShared F v1 v2 μ)) := g_conOf mc_X8_bestShared.2.2.2.2 (Nat.le_of_ble_eq_true rfl) rfl (g_yi_rk (Or.inl rfl)) (lk_oo_bestShared F v1 v2 μ)
theorem dX8_coinFor_0 : decode cX8_coinFor 0 = .ok (.iconst 0, 1) := by decide +kernel
theorem dX8_coinFor_1 : decode cX8_coinFor 1 = .ok (.istore_n 2, 1) := by decide +kernel
theorem dX8_coinFor_2 : decode cX8_coinFor 2 = .ok (.iconst 0, 1) := by decide +kernel
theorem dX8_coinFor_3 : decode cX8_coinFor 3 = .ok (.istore_n 3, 1) := by decide +kernel
theorem dX8_coinFor_4 : decode cX8_coinFor 4 = .ok (.iconst 0, 1) := by decide +kernel
theorem dX8_coinFor_5 : decode cX8_coinFor 5 = .ok (.istore 4, 2) := by decide +kernel
theorem dX8_coinFor_7 : decode cX8_coinFor 7 = .ok (.iload 4, 2) := by decide +kernel
theorem dX8_coinFor_9 : decode cX8_coinFor 9 = .ok (.aload_n 0, 1) := by decide +kernel
theorem dX8_coinFor_10 : decode cX8_coinFor 10 = .ok (.getfield 19, 3) := by decide +kernel
theorem dX8_coinFor_13 : decode cX8_coinFor 13 = .ok (.getfield 228, 3) := by decide +kernel
theorem dX8_coinFor_16 : decode cX8_coinFor 16 = .ok (.if_icmp .ge 41, 3) := by decide +kernel
theorem dX8_coinFor_19 : decode cX8_coinFor 19 = .ok (.aload_n 0, 1) := by decide +kernel
theorem dX8_coinFor_20 : decode cX8_coinFor 20 = .ok (.getfield 39, 3) := by decide +kernel
theorem dX8_coinFor_23 : decode cX8_coinFor 23 = .ok (.iload 4, 2) := by decide +kernel
theorem dX8_coinFor_25 : decode cX8_coinFor 25 = .ok (.iload_n 1, 1) := by decide +kernel
theorem dX8_coinFor_26 : decode cX8_coinFor 26 = .ok (.invokevirtual 307, 3) := by decide +kernel
theorem dX8_coinFor_29 : decode cX8_coinFor 29 = .ok (.istore 5, 2) := by decide +kernel
theorem dX8_coinFor_31 : decode cX8_coinFor 31 = .ok (.iload_n 2, 1) := by decide +kernel
theorem dX8_coinFor_32 : decode cX8_coinFor 32 = .ok (.iload 5, 2) := by decide +kernel
theorem dX8_coinFor_34 : decode cX8_coinFor 34 = .ok (.iadd, 1) := by decide +kernel
theorem dX8_coinFor_35 : decode cX8_coinFor 35 = .ok (.istore_n 2, 1) := by decide +kernel
theorem dX8_coinFor_36 : decode cX8_coinFor 36 = .ok (.iload_n 3, 1) := by decide +kernel
theorem dX8_coinFor_37 : decode cX8_coinFor 37 = .ok (.aload_n 0, 1) := by decide +kernel
theorem dX8_coinFor_38 : decode cX8_coinFor 38 = .ok (.getfield 19, 3) := by decide +kernel
theorem dX8_coinFor_41 : decode cX8_coinFor 41 = .ok (.iload 4, 2) := by decide +kernel
theorem dX8_coinFor_43 : decode cX8_coinFor 43 = .ok (.iload_n 1, 1) := by decide +kernel
theorem dX8_coinFor_44 : decode cX8_coinFor 44 = .ok (.iload 5, 2) := by decide +kernel
theorem dX8_coinFor_46 : decode cX8_coinFor 46 = .ok (.invokevirtual 339, 3) := by decide +kernel
theorem dX8_coinFor_49 : decode cX8_coinFor 49 = .ok (.iadd, 1) := by decide +kernel
theorem dX8_coinFor_50 : decode cX8_coinFor 50 = .ok (.istore_n 3, 1) := by decide +kernel
theorem dX8_coinFor_51 : decode cX8_coinFor 51 = .ok (.iinc 4 1, 3) := by decide +kernel
theorem dX8_coinFor_54 : decode cX8_coinFor 54 = .ok (.goto (-47), 3) := by decide +kernel
theorem dX8_coinFor_57 : decode cX8_coinFor 57 = .ok (.aload_n 0, 1) := by decide +kernel
theorem dX8_coinFor_58 : decode cX8_coinFor 58 = .ok (.iload_n 1, 1) := by decide +kernel
theorem dX8_coinFor_59 : decode cX8_coinFor 59 = .ok (.iload_n 2, 1) := by decide +kernel
theorem dX8_coinFor_60 : decode cX8_coinFor 60 = .ok (.invokevirtual 375, 3) := by decide +kernel
theorem dX8_coinFor_63 : decode cX8_coinFor 63 = .ok (.iload_n 3, 1) := by decide +kernel
theorem dX8_coinFor_64 : decode cX8_coinFor 64 = .ok (.isub, 1) := by decide +kernel
theorem dX8_coinFor_65 : decode cX8_coinFor 65 = .ok (.ireturn, 1) := by decide +kernel
theorem lk_oo_coinFor_7_b (F : Nat) (v1 : Int32) (K_7 : Int32 → Int32 → Int32 → g_St → Option (Int32 × g_St)) (hK_7 : ∀ (w2 : Int32) (w3 : Int32) (w4 : Int32) (ν : g_St), g_Go gC 2 yX8_coinFor cX8_coinFor 6 (some .int) 7 [some (.ref 0), some (.int v1), some (.int w2), some (.int w3), some (.int w4), none] [] ν (Option.map o_yi (K_7 w2 w3 w4 ν))) (v2 : Int32) (v3 : Int32) (v4 : Int32) (μ : g_St) : g_Go gC 2 yX8_coinFor cX8_coinFor 6 (some .int) 7 [some (.ref 0), some (.int v1), some (.int v2), some (.int v3), some (.int v4), none] [] μ (Option.map o_yi (oo_coinFor_7_b F v1 K_7 v2 v3 v4 μ)) := by
  unfold oo_coinFor_7_b
  refine g_iload dX8_coinFor_7 rfl ?_
  refine g_aload_n dX8_coinFor_9 rfl rfl ?_
  refine w_getql dX8_coinFor_10 cf_X8 fl_X8_19 ly_Own_lt ly_Own rfl (Nat.le_of_ble_eq_true rfl) (fun b1 hb1 => ?_)
  refine g_getI dX8_coinFor_13 cf_X1 fl_X8_228 (ly_Land_lt hb1) (ly_Land hb1) rfl (Nat.le_of_ble_eq_true rfl) ?_
  refine w_icmp_ge (tgt := 57) dX8_coinFor_16 (by decide) ?_ ?_
  · refine g_aload_n dX8_coinFor_19 rfl rfl ?_
    refine g_getS dX8_coinFor_20 cf_X8 fl_X8_39 ly_Own_lt ly_Own rfl (Nat.le_of_ble_eq_true rfl) ?_
    refine g_iload dX8_coinFor_23 rfl ?_
    refine g_iload_n dX8_coinFor_25 rfl rfl ?_
    refine w_Vxi [.int _, .int _] dX8_coinFor_26 ml_X8_307 mv_X7_held mc_X7_held cf_X7 (ly_Week_lt (Or.inl rfl)) (ly_Week (Or.inl rfl)) rfl (Nat.le_of_ble_eq_true rfl) (Nat.le_of_ble_eq_true rfl) (Nat.le_of_ble_eq_true rfl) rfl (co_ow_held F _ (Or.inl rfl) _ _ _) (fun x2 => ?_)
    refine g_istore (lo2 := [_, _, _, _, _, _]) dX8_coinFor_29 (Nat.le_of_ble_eq_true rfl) rfl rfl ?_
    refine g_iload_n dX8_coinFor_31 rfl rfl ?_
    refine g_iload dX8_coinFor_32 rfl ?_
    refine g_iadd dX8_coinFor_34 ?_
    refine g_istore_n (lo2 := [_, _, _, _, _, _]) dX8_coinFor_35 rfl (Nat.le_of_ble_eq_true rfl) rfl rfl ?_
    refine g_iload_n dX8_coinFor_36 rfl rfl ?_
    refine g_aload_n dX8_coinFor_37 rfl rfl ?_
    refine w_getql dX8_coinFor_38 cf_X8 fl_X8_19 ly_Own_lt ly_Own rfl (Nat.le_of_ble_eq_true rfl) (fun b3 hb3 => ?_)
    refine g_iload dX8_coinFor_41 rfl ?_
    refine g_iload_n dX8_coinFor_43 rfl rfl ?_
    refine g_iload dX8_coinFor_44 rfl ?_
    refine w_Vxi [.int _, .int _, .int _] dX8_coinFor_46 ml_X8_339 mv_X1_worthOfSome mc_X1_worthOfSome cf_X1 (ly_Land_lt hb3) (ly_Land hb3) rfl (Nat.le_of_ble_eq_true rfl) (Nat.le_of_ble_eq_true rfl) (Nat.le_of_ble_eq_true rfl) rfl (co_ol_worthOfSome F _ hb3 _ _ _ _) (fun x4 => ?_)
    refine g_iadd dX8_coinFor_49 ?_
    refine g_istore_n (lo2 := [_, _, _, _, _, _]) dX8_coinFor_50 rfl (Nat.le_of_ble_eq_true rfl) rfl rfl ?_
    refine g_iinc (lo2 := [_, _, _, _, _, _]) dX8_coinFor_51 rfl rfl (Nat.le_of_ble_eq_true rfl) rfl rfl ?_
    refine g_goto (tgt := 7) dX8_coinFor_54 (by decide) ?_
    exact g_to (hK_7 _ _ _ _) (su_s (su_s (su_s (su_s (su_s (su_n su_0))))))
  · refine g_aload_n dX8_coinFor_57 rfl rfl ?_
    refine g_iload_n dX8_coinFor_58 rfl rfl ?_
    refine g_iload_n dX8_coinFor_59 rfl rfl ?_
    refine w_Vyi [.int _, .int _] dX8_coinFor_60 ml_X8_375 mv_X8_bestShared mc_X8_bestShared cf_X8 ly_Own_lt ly_Own rfl (Nat.le_of_ble_eq_true rfl) (Nat.le_of_ble_eq_true rfl) (Nat.le_of_ble_eq_true rfl) rfl (co_oo_bestShared F _ _ _) (fun q5 => ?_)
    refine g_iload_n dX8_coinFor_63 rfl rfl ?_
    refine g_isub dX8_coinFor_64 ?_
    exact w_iret dX8_coinFor_65 rfl rfl
theorem lk_oo_coinFor_7 (F : Nat) (v1 : Int32) : ∀ (f : Nat) (v2 : Int32) (v3 : Int32) (v4 : Int32) (μ : g_St) , g_Go gC 2 yX8_coinFor cX8_coinFor 6 (some .int) 7 [some (.ref 0), some (.int v1), some (.int v2), some (.int v3), some (.int v4), none] [] μ (Option.map o_yi (oo_coinFor_7 F v1 f v2 v3 v4 μ))
  | 0, v2, v3, v4, μ => g_none
  | f + 1, v2, v3, v4, μ => lk_oo_coinFor_7_b F v1 (oo_coinFor_7 F v1 f) (lk_oo_coinFor_7 F v1 f) v2 v3 v4 μ
theorem lk_oo_coinFor (F : Nat) (v1 : Int32) (μ : g_St) : g_Go gC 2 yX8_coinFor cX8_coinFor 6 (some .int) 0 [some (.ref 0), some (.int v1), none, none, none, none] [] μ (Option.map o_yi (oo_coinFor F v1 μ)) := by
  unfold oo_coinFor
  refine g_iconst dX8_coinFor_0 ic_0 ?_
  refine g_istore_n (lo2 := [_, _, _, _, _, _]) dX8_coinFor_1 rfl (Nat.le_of_ble_eq_true rfl) rfl rfl ?_
  refine g_iconst dX8_coinFor_2 ic_0 ?_
  refine g_istore_n (lo2 := [_, _, _, _, _, _]) dX8_coinFor_3 rfl (Nat.le_of_ble_eq_true rfl) rfl rfl ?_
  refine g_iconst dX8_coinFor_4 ic_0 ?_
  refine g_istore (lo2 := [_, _, _, _, _, _]) dX8_coinFor_5 (Nat.le_of_ble_eq_true rfl) rfl rfl ?_
  exact g_to (lk_oo_coinFor_7 F _ _ _ _ _ _) (su_s (su_s (su_s (su_s (su_s (su_n su_0))))))
theorem co_oo_coinFor (F : Nat) (v1 : Int32) (μ : g_St) : g_Con gC 2 yX8_coinFor cX8_coinFor 6 (some .int) [.ref 0, .int v1] μ (g_yi (oo_coinFor F v1 μ)) := g_conOf mc_X8_coinFor.2.2.2.2 (Nat.le_of_ble_eq_true rfl) rfl (g_yi_rk (Or.inl rfl)) (lk_oo_coinFor F v1 μ)
theorem dX8_coin_0 : decode cX8_coin 0 = .ok (.iload_n 1, 1) := by decide +kernel
theorem dX8_coin_1 : decode cX8_coin 1 = .ok (.iconst (-1), 1) := by decide +kernel
theorem dX8_coin_2 : decode cX8_coin 2 = .ok (.if_icmp .eq 21, 3) := by decide +kernel
theorem dX8_coin_5 : decode cX8_coin 5 = .ok (.aload_n 0, 1) := by decide +kernel
theorem dX8_coin_6 : decode cX8_coin 6 = .ok (.iload_n 1, 1) := by decide +kernel
theorem dX8_coin_7 : decode cX8_coin 7 = .ok (.invokevirtual 112, 3) := by decide +kernel
theorem dX8_coin_10 : decode cX8_coin 10 = .ok (.ifCond .eq 11, 3) := by decide +kernel
theorem dX8_coin_13 : decode cX8_coin 13 = .ok (.aload_n 0, 1) := by decide +kernel
theorem dX8_coin_14 : decode cX8_coin 14 = .ok (.iload_n 1, 1) := by decide +kernel
theorem dX8_coin_15 : decode cX8_coin 15 = .ok (.invokevirtual 296, 3) := by decide +kernel
theorem dX8_coin_18 : decode cX8_coin 18 = .ok (.goto 4, 3) := by decide +kernel
theorem dX8_coin_21 : decode cX8_coin 21 = .ok (.iconst (-1), 1) := by decide +kernel
theorem dX8_coin_22 : decode cX8_coin 22 = .ok (.ireturn, 1) := by decide +kernel
theorem dX8_coin_23 : decode cX8_coin 23 = .ok (.iconst 0, 1) := by decide +kernel
theorem dX8_coin_24 : decode cX8_coin 24 = .ok (.istore_n 2, 1) := by decide +kernel
theorem dX8_coin_25 : decode cX8_coin 25 = .ok (.iconst 0, 1) := by decide +kernel
theorem dX8_coin_26 : decode cX8_coin 26 = .ok (.istore_n 3, 1) := by decide +kernel
theorem dX8_coin_27 : decode cX8_coin 27 = .ok (.iload_n 3, 1) := by decide +kernel
theorem dX8_coin_28 : decode cX8_coin 28 = .ok (.aload_n 0, 1) := by decide +kernel
theorem dX8_coin_29 : decode cX8_coin 29 = .ok (.getfield 19, 3) := by decide +kernel
theorem dX8_coin_32 : decode cX8_coin 32 = .ok (.getfield 299, 3) := by decide +kernel
theorem dX8_coin_35 : decode cX8_coin 35 = .ok (.if_icmp .ge 17, 3) := by decide +kernel
theorem dX8_coin_38 : decode cX8_coin 38 = .ok (.iload_n 2, 1) := by decide +kernel
theorem dX8_coin_39 : decode cX8_coin 39 = .ok (.aload_n 0, 1) := by decide +kernel
theorem dX8_coin_40 : decode cX8_coin 40 = .ok (.iload_n 3, 1) := by decide +kernel
theorem dX8_coin_41 : decode cX8_coin 41 = .ok (.invokevirtual 296, 3) := by decide +kernel
theorem dX8_coin_44 : decode cX8_coin 44 = .ok (.iadd, 1) := by decide +kernel
theorem dX8_coin_45 : decode cX8_coin 45 = .ok (.istore_n 2, 1) := by decide +kernel
theorem dX8_coin_46 : decode cX8_coin 46 = .ok (.iinc 3 1, 3) := by decide +kernel
theorem dX8_coin_49 : decode cX8_coin 49 = .ok (.goto (-22), 3) := by decide +kernel
theorem dX8_coin_52 : decode cX8_coin 52 = .ok (.iload_n 2, 1) := by decide +kernel
theorem dX8_coin_53 : decode cX8_coin 53 = .ok (.ireturn, 1) := by decide +kernel
theorem lk_oo_coin_27_b (F : Nat) (K_27 : Int32 → Int32 → g_St → Option (Int32 × g_St)) (hK_27 : ∀ (w2 : Int32) (w3 : Int32) (ν : g_St), g_Go gC 3 yX8_coin cX8_coin 4 (some .int) 27 [some (.ref 0), none, some (.int w2), some (.int w3)] [] ν (Option.map o_yi (K_27 w2 w3 ν))) (v2 : Int32) (v3 : Int32) (μ : g_St) : g_Go gC 3 yX8_coin cX8_coin 4 (some .int) 27 [some (.ref 0), none, some (.int v2), some (.int v3)] [] μ (Option.map o_yi (oo_coin_27_b F K_27 v2 v3 μ)) := by
  unfold oo_coin_27_b
  refine g_iload_n dX8_coin_27 rfl rfl ?_
  refine g_aload_n dX8_coin_28 rfl rfl ?_
  refine w_getql dX8_coin_29 cf_X8 fl_X8_19 ly_Own_lt ly_Own rfl (Nat.le_of_ble_eq_true rfl) (fun b3 hb3 => ?_)
  refine g_getI dX8_coin_32 cf_X1 fl_X8_299 (ly_Land_lt hb3) (ly_Land hb3) rfl (Nat.le_of_ble_eq_true rfl) ?_
  refine w_icmp_ge (tgt := 52) dX8_coin_35 (by decide) ?_ ?_
  · refine g_iload_n dX8_coin_38 rfl rfl ?_
    refine g_aload_n dX8_coin_39 rfl rfl ?_
    refine g_iload_n dX8_coin_40 rfl rfl ?_
    refine w_Vyi [.int _] dX8_coin_41 ml_X8_296 mv_X8_coinFor mc_X8_coinFor cf_X8 ly_Own_lt ly_Own rfl (Nat.le_of_ble_eq_true rfl) (Nat.le_of_ble_eq_true rfl) (Nat.le_of_ble_eq_true rfl) rfl (co_oo_coinFor F _ _) (fun q4 => ?_)
    refine g_iadd dX8_coin_44 ?_
    refine g_istore_n (lo2 := [_, _, _, _]) dX8_coin_45 rfl (Nat.le_of_ble_eq_true rfl) rfl rfl ?_
    refine g_iinc (lo2 := [_, _, _, _]) dX8_coin_46 rfl rfl (Nat.le_of_ble_eq_true rfl) rfl rfl ?_
    refine g_goto (tgt := 27) dX8_coin_49 (by decide) ?_
    exact g_to (hK_27 _ _ _) (su_s (su_n (su_s (su_s su_0))))
  · refine g_iload_n dX8_coin_52 rfl rfl ?_
    exact w_iret dX8_coin_53 rfl rfl
theorem lk_oo_coin_27 (F : Nat) : ∀ (f : Nat) (v2 : Int32) (v3 : Int32) (μ : g_St) , g_Go gC 3 yX8_coin cX8_coin 4 (some .int) 27 [some (.ref 0), none, some (.int v2), some (.int v3)] [] μ (Option.map o_yi (oo_coin_27 F f v2 v3 μ))
  | 0, v2, v3, μ => g_none
  | f + 1, v2, v3, μ => lk_oo_coin_27_b F (oo_coin_27 F f) (lk_oo_coin_27 F f) v2 v3 μ
theorem lk_oo_coin (F : Nat) (v1 : Int32) (μ : g_St) : g_Go gC 3 yX8_coin cX8_coin 4 (some .int) 0 [some (.ref 0), some (.int v1), none, none] [] μ (Option.map o_yi (oo_coin F v1 μ)) := by
  unfold oo_coin
  refine g_iload_n dX8_coin_0 rfl rfl ?_
  refine g_iconst dX8_coin_1 ic_m1 ?_
  refine w_icmp_eq (tgt := 23) dX8_coin_2 (by decide) ?_ ?_
  · refine g_iconst dX8_coin_23 ic_0 ?_
    refine g_istore_n (lo2 := [_, _, _, _]) dX8_coin_24 rfl (Nat.le_of_ble_eq_true rfl) rfl rfl ?_
    refine g_iconst dX8_coin_25 ic_0 ?_
    refine g_istore_n (lo2 := [_, _, _, _]) dX8_coin_26 rfl (Nat.le_of_ble_eq_true rfl) rfl rfl ?_
    exact g_to (lk_oo_coin_27 F _ _ _ _) (su_s (su_n (su_s (su_s su_0))))
  · refine g_aload_n dX8_coin_5 rfl rfl ?_
    refine g_iload_n dX8_coin_6 rfl rfl ?_
    refine w_Vxi [.int _] dX8_coin_7 ml_X8_112 mv_X8_isGood mc_X8_isGood cf_X8 ly_Own_lt ly_Own rfl (Nat.le_of_ble_eq_true rfl) (Nat.le_of_ble_eq_true rfl) (Nat.le_of_ble_eq_true rfl) rfl (co_oo_isGood _ _) (fun x1 => ?_)
    refine w_if_eq (tgt := 21) dX8_coin_10 (by decide) ?_ ?_
    · refine g_iconst dX8_coin_21 ic_m1 ?_
      exact w_iret dX8_coin_22 rfl rfl
    · refine g_aload_n dX8_coin_13 rfl rfl ?_
      refine g_iload_n dX8_coin_14 rfl rfl ?_
      refine w_Vyi [.int _] dX8_coin_15 ml_X8_296 mv_X8_coinFor mc_X8_coinFor cf_X8 ly_Own_lt ly_Own rfl (Nat.le_of_ble_eq_true rfl) (Nat.le_of_ble_eq_true rfl) (Nat.le_of_ble_eq_true rfl) rfl (co_oo_coinFor F _ _) (fun q2 => ?_)
      refine g_goto (tgt := 22) dX8_coin_18 (by decide) ?_
      exact w_iret dX8_coin_22 rfl rfl
theorem co_oo_coin (F : Nat) (v1 : Int32) (μ : g_St) : g_Con gC 3 yX8_coin cX8_coin 4 (some .int) [.ref 0, .int v1] μ (g_yi (oo_coin F v1 μ)) := g_conOf mc_X8_coin.2.2.2.2 (Nat.le_of_ble_eq_true rfl) rfl (g_yi_rk (Or.inl rfl)) (lk_oo_coin F v1 μ)
theorem dX8_lifted_0 : decode cX8_lifted 0 = .ok (.aload_n 0, 1) := by decide +kernel
theorem dX8_lifted_1 : decode cX8_lifted 1 = .ok (.iload_n 1, 1) := by decide +kernel
theorem dX8_lifted_2 : decode cX8_lifted 2 = .ok (.invokevirtual 112, 3) := by decide +kernel
theorem dX8_lifted_5 : decode cX8_lifted 5 = .ok (.ifCond .ne 5, 3) := by decide +kernel
theorem dX8_lifted_8 : decode cX8_lifted 8 = .ok (.iconst 0, 1) := by decide +kernel
theorem dX8_lifted_9 : decode cX8_lifted 9 = .ok (.ireturn, 1) := by decide +kernel
theorem dX8_lifted_10 : decode cX8_lifted 10 = .ok (.iconst 1, 1) := by decide +kernel
theorem dX8_lifted_11 : decode cX8_lifted 11 = .ok (.iload_n 1, 1) := by decide +kernel
theorem dX8_lifted_12 : decode cX8_lifted 12 = .ok (.ishl, 1) := by decide +kernel
theorem dX8_lifted_13 : decode cX8_lifted 13 = .ok (.istore_n 3, 1) := by decide +kernel
theorem dX8_lifted_14 : decode cX8_lifted 14 = .ok (.aload_n 0, 1) := by decide +kernel
theorem dX8_lifted_15 : decode cX8_lifted 15 = .ok (.getfield 39, 3) := by decide +kernel
theorem dX8_lifted_18 : decode cX8_lifted 18 = .ok (.iload_n 2, 1) := by decide +kernel
theorem dX8_lifted_19 : decode cX8_lifted 19 = .ok (.ifCond .eq 15, 3) := by decide +kernel
theorem dX8_lifted_22 : decode cX8_lifted 22 = .ok (.aload_n 0, 1) := by decide +kernel
theorem dX8_lifted_23 : decode cX8_lifted 23 = .ok (.getfield 39, 3) := by decide +kernel
theorem dX8_lifted_26 : decode cX8_lifted 26 = .ok (.getfield 231, 3) := by decide +kernel
theorem dX8_lifted_29 : decode cX8_lifted 29 = .ok (.iload_n 3, 1) := by decide +kernel
theorem dX8_lifted_30 : decode cX8_lifted 30 = .ok (.ior, 1) := by decide +kernel
theorem dX8_lifted_31 : decode cX8_lifted 31 = .ok (.goto 14, 3) := by decide +kernel
theorem dX8_lifted_34 : decode cX8_lifted 34 = .ok (.aload_n 0, 1) := by decide +kernel
theorem dX8_lifted_35 : decode cX8_lifted 35 = .ok (.getfield 39, 3) := by decide +kernel
theorem dX8_lifted_38 : decode cX8_lifted 38 = .ok (.getfield 231, 3) := by decide +kernel
theorem dX8_lifted_41 : decode cX8_lifted 41 = .ok (.iload_n 3, 1) := by decide +kernel
theorem dX8_lifted_42 : decode cX8_lifted 42 = .ok (.iconst (-1), 1) := by decide +kernel
theorem dX8_lifted_43 : decode cX8_lifted 43 = .ok (.ixor, 1) := by decide +kernel
theorem dX8_lifted_44 : decode cX8_lifted 44 = .ok (.iand, 1) := by decide +kernel
theorem dX8_lifted_45 : decode cX8_lifted 45 = .ok (.putfield 231, 3) := by decide +kernel
theorem dX8_lifted_48 : decode cX8_lifted 48 = .ok (.aload_n 0, 1) := by decide +kernel
theorem dX8_lifted_49 : decode cX8_lifted 49 = .ok (.iconst 0, 1) := by decide +kernel
theorem dX8_lifted_50 : decode cX8_lifted 50 = .ok (.putfield 95, 3) := by decide +kernel
theorem dX8_lifted_53 : decode cX8_lifted 53 = .ok (.iconst 1, 1) := by decide +kernel
theorem dX8_lifted_54 : decode cX8_lifted 54 = .ok (.ireturn, 1) := by decide +kernel
theorem lk_oo_lifted (v1 : Int32) (v2 : Int32) (μ : g_St) : g_Go gC 1 yX8_lifted cX8_lifted 4 (some .boolean) 0 [some (.ref 0), some (.int v1), some (.int v2), none] [] μ (Option.map o_yi (oo_lifted v1 v2 μ)) := by
  unfold oo_lifted
  refine g_aload_n dX8_lifted_0 rfl rfl ?_
  refine g_iload_n dX8_lifted_1 rfl rfl ?_
  refine w_Vxi [.int _] dX8_lifted_2 ml_X8_112 mv_X8_isGood mc_X8_isGood cf_X8 ly_Own_lt ly_Own rfl (Nat.le_of_ble_eq_true rfl) (Nat.le_of_ble_eq_true rfl) (Nat.le_of_ble_eq_true rfl) rfl (co_oo_isGood _ _) (fun x1 => ?_)
  refine w_if_ne (tgt := 10) dX8_lifted_5 (by decide) ?_ ?_
  · refine g_iconst dX8_lifted_8 ic_0 ?_
    exact w_iret dX8_lifted_9 (by decide) rfl
  · refine g_iconst dX8_lifted_10 ic_1 ?_
    refine g_iload_n dX8_lifted_11 rfl rfl ?_
    refine g_ishl dX8_lifted_12 ?_
    refine g_istore_n (lo2 := [_, _, _, _]) dX8_lifted_13 rfl (Nat.le_of_ble_eq_true rfl) rfl rfl ?_
    refine g_aload_n dX8_lifted_14 rfl rfl ?_
    refine g_getS dX8_lifted_15 cf_X8 fl_X8_39 ly_Own_lt ly_Own rfl (Nat.le_of_ble_eq_true rfl) ?_
    refine g_iload_n dX8_lifted_18 rfl rfl ?_
    refine w_if_eq (tgt := 34) dX8_lifted_19 (by decide) ?_ ?_
    · refine g_aload_n dX8_lifted_34 rfl rfl ?_
      refine g_getS dX8_lifted_35 cf_X8 fl_X8_39 ly_Own_lt ly_Own rfl (Nat.le_of_ble_eq_true rfl) ?_
      refine g_getI dX8_lifted_38 cf_X7 fl_X8_231 (ly_Week_lt (Or.inl rfl)) (ly_Week (Or.inl rfl)) rfl (Nat.le_of_ble_eq_true rfl) ?_
      refine g_iload_n dX8_lifted_41 rfl rfl ?_
      refine g_iconst dX8_lifted_42 ic_m1 ?_
      refine g_ixor dX8_lifted_43 ?_
      refine g_iand dX8_lifted_44 ?_
      refine w_putI dX8_lifted_45 cf_X7 fl_X8_231 (ly_Week_lt (Or.inl rfl)) (ly_Week (Or.inl rfl)) rfl (Nat.le_of_ble_eq_true rfl) rfl rfl rfl rfl (fun μ4 => ?_)
      refine g_aload_n dX8_lifted_48 rfl rfl ?_
      refine g_iconst dX8_lifted_49 ic_0 ?_
      refine w_putI dX8_lifted_50 cf_X8 fl_X8_95 ly_Own_lt ly_Own rfl (Nat.le_of_ble_eq_true rfl) rfl rfl (by decide) (by decide) (fun μ5 => ?_)
      refine g_iconst dX8_lifted_53 ic_1 ?_
      exact w_iret dX8_lifted_54 (by decide) rfl
    · refine g_aload_n dX8_lifted_22 rfl rfl ?_
      refine g_getS dX8_lifted_23 cf_X8 fl_X8_39 ly_Own_lt ly_Own rfl (Nat.le_of_ble_eq_true rfl) ?_
      refine g_getI dX8_lifted_26 cf_X7 fl_X8_231 (ly_Week_lt (Or.inl rfl)) (ly_Week (Or.inl rfl)) rfl (Nat.le_of_ble_eq_true rfl) ?_
      refine g_iload_n dX8_lifted_29 rfl rfl ?_
      refine g_ior dX8_lifted_30 ?_
      refine g_goto (tgt := 45) dX8_lifted_31 (by decide) ?_
      refine w_putI dX8_lifted_45 cf_X7 fl_X8_231 (ly_Week_lt (Or.inl rfl)) (ly_Week (Or.inl rfl)) rfl (Nat.le_of_ble_eq_true rfl) rfl rfl rfl rfl (fun μ2 => ?_)
      refine g_aload_n dX8_lifted_48 rfl rfl ?_
      refine g_iconst dX8_lifted_49 ic_0 ?_
      refine w_putI dX8_lifted_50 cf_X8 fl_X8_95 ly_Own_lt ly_Own rfl (Nat.le_of_ble_eq_true rfl) rfl rfl (by decide) (by decide) (fun μ3 => ?_)
      refine g_iconst dX8_lifted_53 ic_1 ?_
      exact w_iret dX8_lifted_54 (by decide) rfl
theorem co_oo_lifted (v1 : Int32) (v2 : Int32) (μ : g_St) : g_Con gC 1 yX8_lifted cX8_lifted 4 (some .boolean) [.ref 0, .int v1, .int v2] μ (g_yi (oo_lifted v1 v2 μ)) := g_conOf mc_X8_lifted.2.2.2.2 (Nat.le_of_ble_eq_true rfl) rfl (g_yi_rk (Or.inr (Or.inl rfl))) (lk_oo_lifted v1 v2 μ)
theorem dX8_mostWith_0 : decode cX8_mostWith 0 = .ok (.aload_n 0, 1) := by decide +kernel
theorem dX8_mostWith_1 : decode cX8_mostWith 1 = .ok (.getfield 95, 3) := by decide +kernel
theorem dX8_mostWith_4 : decode cX8_mostWith 4 = .ok (.ifCond .eq 27, 3) := by decide +kernel
theorem dX8_mostWith_7 : decode cX8_mostWith 7 = .ok (.iload_n 1, 1) := by decide +kernel
theorem dX8_mostWith_8 : decode cX8_mostWith 8 = .ok (.aload_n 0, 1) := by decide +kernel
theorem dX8_mostWith_9 : decode cX8_mostWith 9 = .ok (.getfield 39, 3) := by decide +kernel
theorem dX8_mostWith_12 : decode cX8_mostWith 12 = .ok (.getfield 231, 3) := by decide +kernel
theorem dX8_mostWith_15 : decode cX8_mostWith 15 = .ok (.if_icmp .ne 16, 3) := by decide +kernel
theorem dX8_mostWith_18 : decode cX8_mostWith 18 = .ok (.aload_n 0, 1) := by decide +kernel
theorem dX8_mostWith_19 : decode cX8_mostWith 19 = .ok (.getfield 54, 3) := by decide +kernel
theorem dX8_mostWith_22 : decode cX8_mostWith 22 = .ok (.getfield 219, 3) := by decide +kernel
theorem dX8_mostWith_25 : decode cX8_mostWith 25 = .ok (.aload_n 0, 1) := by decide +kernel
theorem dX8_mostWith_26 : decode cX8_mostWith 26 = .ok (.invokevirtual 244, 3) := by decide +kernel
theorem dX8_mostWith_29 : decode cX8_mostWith 29 = .ok (.iaload, 1) := by decide +kernel
theorem dX8_mostWith_30 : decode cX8_mostWith 30 = .ok (.ireturn, 1) := by decide +kernel
theorem dX8_mostWith_31 : decode cX8_mostWith 31 = .ok (.aload_n 0, 1) := by decide +kernel
theorem dX8_mostWith_32 : decode cX8_mostWith 32 = .ok (.aload_n 0, 1) := by decide +kernel
theorem dX8_mostWith_33 : decode cX8_mostWith 33 = .ok (.getfield 58, 3) := by decide +kernel
theorem dX8_mostWith_36 : decode cX8_mostWith 36 = .ok (.aload_n 0, 1) := by decide +kernel
theorem dX8_mostWith_37 : decode cX8_mostWith 37 = .ok (.invokevirtual 244, 3) := by decide +kernel
theorem dX8_mostWith_40 : decode cX8_mostWith 40 = .ok (.iconst 0, 1) := by decide +kernel
theorem dX8_mostWith_41 : decode cX8_mostWith 41 = .ok (.iload_n 1, 1) := by decide +kernel
theorem dX8_mostWith_42 : decode cX8_mostWith 42 = .ok (.invokevirtual 234, 3) := by decide +kernel
theorem dX8_mostWith_45 : decode cX8_mostWith 45 = .ok (.aload_n 0, 1) := by decide +kernel
theorem dX8_mostWith_46 : decode cX8_mostWith 46 = .ok (.getfield 58, 3) := by decide +kernel
theorem dX8_mostWith_49 : decode cX8_mostWith 49 = .ok (.getfield 219, 3) := by decide +kernel
theorem dX8_mostWith_52 : decode cX8_mostWith 52 = .ok (.aload_n 0, 1) := by decide +kernel
theorem dX8_mostWith_53 : decode cX8_mostWith 53 = .ok (.invokevirtual 244, 3) := by decide +kernel
theorem dX8_mostWith_56 : decode cX8_mostWith 56 = .ok (.iaload, 1) := by decide +kernel
theorem dX8_mostWith_57 : decode cX8_mostWith 57 = .ok (.ireturn, 1) := by decide +kernel
theorem lk_oo_mostWith_31 (F : Nat) (v1 : Int32) (μ : g_St) : g_Go gC 15 yX8_mostWith cX8_mostWith 2 (some .int) 31 [some (.ref 0), some (.int v1)] [] μ (Option.map o_yi (oo_mostWith_31 F v1 μ)) := by
  unfold oo_mostWith_31
  refine g_aload_n dX8_mostWith_31 rfl rfl ?_
  refine g_aload_n dX8_mostWith_32 rfl rfl ?_
  refine g_getS dX8_mostWith_33 cf_X8 fl_X8_58 ly_Own_lt ly_Own rfl (Nat.le_of_ble_eq_true rfl) ?_
  refine g_aload_n dX8_mostWith_36 rfl rfl ?_
  refine w_Vxi [] dX8_mostWith_37 ml_X8_244 mv_X8_everybody mc_X8_everybody cf_X8 ly_Own_lt ly_Own rfl (Nat.le_of_ble_eq_true rfl) (Nat.le_of_ble_eq_true rfl) (Nat.le_of_ble_eq_true rfl) rfl (co_oo_everybody _) (fun x3 => ?_)
  refine g_iconst dX8_mostWith_40 ic_0 ?_
  refine g_iload_n dX8_mostWith_41 rfl rfl ?_
  refine w_Vyv [.ref _, .int _, .int _, .int _] dX8_mostWith_42 ml_X8_234 mv_X8_findRounds mc_X8_findRounds cf_X8 ly_Own_lt ly_Own rfl (Nat.le_of_ble_eq_true rfl) (Nat.le_of_ble_eq_true rfl) (Nat.le_of_ble_eq_true rfl) rfl (co_oo_findRounds F _ (Or.inr rfl) _ _ _ _) (fun μ4 => ?_)
  refine g_aload_n dX8_mostWith_45 rfl rfl ?_
  refine g_getS dX8_mostWith_46 cf_X8 fl_X8_58 ly_Own_lt ly_Own rfl (Nat.le_of_ble_eq_true rfl) ?_
  refine g_getS dX8_mostWith_49 cf_X3 fl_X8_219 (ly_Rounds_lt (Or.inr rfl)) (ly_Rounds (Or.inr rfl)) rfl (Nat.le_of_ble_eq_true rfl) ?_
  refine g_aload_n dX8_mostWith_52 rfl rfl ?_
  refine w_Vxi [] dX8_mostWith_53 ml_X8_244 mv_X8_everybody mc_X8_everybody cf_X8 ly_Own_lt ly_Own rfl (Nat.le_of_ble_eq_true rfl) (Nat.le_of_ble_eq_true rfl) (Nat.le_of_ble_eq_true rfl) rfl (co_oo_everybody _) (fun x5 => ?_)
  refine w_iald dX8_mostWith_56 (ly_Rounds_worth_lt (Or.inr rfl)) (ly_Rounds_worth (Or.inr rfl)) (fun x6 => ?_)
  exact w_iret dX8_mostWith_57 rfl rfl
theorem lk_oo_mostWith (F : Nat) (v1 : Int32) (μ : g_St) : g_Go gC 15 yX8_mostWith cX8_mostWith 2 (some .int) 0 [some (.ref 0), some (.int v1)] [] μ (Option.map o_yi (oo_mostWith F v1 μ)) := by
  unfold oo_mostWith
  refine g_aload_n dX8_mostWith_0 rfl rfl ?_
  refine g_getI dX8_mostWith_1 cf_X8 fl_X8_95 ly_Own_lt ly_Own rfl (Nat.le_of_ble_eq_true rfl) ?_
  refine w_if_eq (tgt := 31) dX8_mostWith_4 (by decide) ?_ ?_
  · exact g_to (lk_oo_mostWith_31 F _ _) (su_s (su_s su_0))
  · refine g_iload_n dX8_mostWith_7 rfl rfl ?_
    refine g_aload_n dX8_mostWith_8 rfl rfl ?_
    refine g_getS dX8_mostWith_9 cf_X8 fl_X8_39 ly_Own_lt ly_Own rfl (Nat.le_of_ble_eq_true rfl) ?_
    refine g_getI dX8_mostWith_12 cf_X7 fl_X8_231 (ly_Week_lt (Or.inl rfl)) (ly_Week (Or.inl rfl)) rfl (Nat.le_of_ble_eq_true rfl) ?_
    refine w_icmp_ne (tgt := 31) dX8_mostWith_15 (by decide) ?_ ?_
    · refine g_aload_n dX8_mostWith_18 rfl rfl ?_
      refine g_getS dX8_mostWith_19 cf_X8 fl_X8_54 ly_Own_lt ly_Own rfl (Nat.le_of_ble_eq_true rfl) ?_
      refine g_getS dX8_mostWith_22 cf_X3 fl_X8_219 (ly_Rounds_lt (Or.inl rfl)) (ly_Rounds (Or.inl rfl)) rfl (Nat.le_of_ble_eq_true rfl) ?_
      refine g_aload_n dX8_mostWith_25 rfl rfl ?_
      refine w_Vxi [] dX8_mostWith_26 ml_X8_244 mv_X8_everybody mc_X8_everybody cf_X8 ly_Own_lt ly_Own rfl (Nat.le_of_ble_eq_true rfl) (Nat.le_of_ble_eq_true rfl) (Nat.le_of_ble_eq_true rfl) rfl (co_oo_everybody _) (fun x1 => ?_)
      refine w_iald dX8_mostWith_29 (ly_Rounds_worth_lt (Or.inl rfl)) (ly_Rounds_worth (Or.inl rfl)) (fun x2 => ?_)
      exact w_iret dX8_mostWith_30 rfl rfl
    · exact g_to (lk_oo_mostWith_31 F _ _) (su_s (su_s su_0))
theorem co_oo_mostWith (F : Nat) (v1 : Int32) (μ : g_St) : g_Con gC 15 yX8_mostWith cX8_mostWith 2 (some .int) [.ref 0, .int v1] μ (g_yi (oo_mostWith F v1 μ)) := g_conOf mc_X8_mostWith.2.2.2.2 (Nat.le_of_ble_eq_true rfl) rfl (g_yi_rk (Or.inl rfl)) (lk_oo_mostWith F v1 μ)
theorem dX8_lift_0 : decode cX8_lift 0 = .ok (.aload_n 0, 1) := by decide +kernel
theorem dX8_lift_1 : decode cX8_lift 1 = .ok (.iload_n 1, 1) := by decide +kernel
theorem dX8_lift_2 : decode cX8_lift 2 = .ok (.invokevirtual 112, 3) := by decide +kernel
theorem dX8_lift_5 : decode cX8_lift 5 = .ok (.ifCond .ne 5, 3) := by decide +kernel
theorem dX8_lift_8 : decode cX8_lift 8 = .ok (.iconst (-1), 1) := by decide +kernel
theorem dX8_lift_9 : decode cX8_lift 9 = .ok (.ireturn, 1) := by decide +kernel
theorem dX8_lift_10 : decode cX8_lift 10 = .ok (.iconst 1, 1) := by decide +kernel
theorem dX8_lift_11 : decode cX8_lift 11 = .ok (.iload_n 1, 1) := by decide +kernel
theorem dX8_lift_12 : decode cX8_lift 12 = .ok (.ishl, 1) := by decide +kernel
theorem dX8_lift_13 : decode cX8_lift 13 = .ok (.istore_n 2, 1) := by decide +kernel
theorem dX8_lift_14 : decode cX8_lift 14 = .ok (.aload_n 0, 1) := by decide +kernel
theorem dX8_lift_15 : decode cX8_lift 15 = .ok (.aload_n 0, 1) := by decide +kernel
theorem dX8_lift_16 : decode cX8_lift 16 = .ok (.getfield 39, 3) := by decide +kernel
theorem dX8_lift_19 : decode cX8_lift 19 = .ok (.getfield 231, 3) := by decide +kernel
theorem dX8_lift_22 : decode cX8_lift 22 = .ok (.iload_n 2, 1) := by decide +kernel
theorem dX8_lift_23 : decode cX8_lift 23 = .ok (.ior, 1) := by decide +kernel
theorem dX8_lift_24 : decode cX8_lift 24 = .ok (.invokevirtual 302, 3) := by decide +kernel
theorem dX8_lift_27 : decode cX8_lift 27 = .ok (.aload_n 0, 1) := by decide +kernel
theorem dX8_lift_28 : decode cX8_lift 28 = .ok (.aload_n 0, 1) := by decide +kernel
theorem dX8_lift_29 : decode cX8_lift 29 = .ok (.getfield 39, 3) := by decide +kernel
theorem dX8_lift_32 : decode cX8_lift 32 = .ok (.getfield 231, 3) := by decide +kernel
theorem dX8_lift_35 : decode cX8_lift 35 = .ok (.iload_n 2, 1) := by decide +kernel
theorem dX8_lift_36 : decode cX8_lift 36 = .ok (.iconst (-1), 1) := by decide +kernel
theorem dX8_lift_37 : decode cX8_lift 37 = .ok (.ixor, 1) := by decide +kernel
theorem dX8_lift_38 : decode cX8_lift 38 = .ok (.iand, 1) := by decide +kernel
theorem dX8_lift_39 : decode cX8_lift 39 = .ok (.invokevirtual 302, 3) := by decide +kernel
theorem dX8_lift_42 : decode cX8_lift 42 = .ok (.isub, 1) := by decide +kernel
theorem dX8_lift_43 : decode cX8_lift 43 = .ok (.ireturn, 1) := by decide +kernel
theorem lk_oo_lift (F : Nat) (v1 : Int32) (μ : g_St) : g_Go gC 16 yX8_lift cX8_lift 3 (some .int) 0 [some (.ref 0), some (.int v1), none] [] μ (Option.map o_yi (oo_lift F v1 μ)) := by
  unfold oo_lift
  refine g_aload_n dX8_lift_0 rfl rfl ?_
  refine g_iload_n dX8_lift_1 rfl rfl ?_
  refine w_Vxi [.int _] dX8_lift_2 ml_X8_112 mv_X8_isGood mc_X8_isGood cf_X8 ly_Own_lt ly_Own rfl (Nat.le_of_ble_eq_true rfl) (Nat.le_of_ble_eq_true rfl) (Nat.le_of_ble_eq_true rfl) rfl (co_oo_isGood _ _) (fun x1 => ?_)
  refine w_if_ne (tgt := 10) dX8_lift_5 (by decide) ?_ ?_
  · refine g_iconst dX8_lift_8 ic_m1 ?_
    exact w_iret dX8_lift_9 rfl rfl
  · refine g_iconst dX8_lift_10 ic_1 ?_
    refine g_iload_n dX8_lift_11 rfl rfl ?_
    refine g_ishl dX8_lift_12 ?_
    refine g_istore_n (lo2 := [_, _, _]) dX8_lift_13 rfl (Nat.le_of_ble_eq_true rfl) rfl rfl ?_
    refine g_aload_n dX8_lift_14 rfl rfl ?_
    refine g_aload_n dX8_lift_15 rfl rfl ?_
    refine g_getS dX8_lift_16 cf_X8 fl_X8_39 ly_Own_lt ly_Own rfl (Nat.le_of_ble_eq_true rfl) ?_
    refine g_getI dX8_lift_19 cf_X7 fl_X8_231 (ly_Week_lt (Or.inl rfl)) (ly_Week (Or.inl rfl)) rfl (Nat.le_of_ble_eq_true rfl) ?_
    refine g_iload_n dX8_lift_22 rfl rfl ?_
    refine g_ior dX8_lift_23 ?_
    refine w_Vyi [.int _] dX8_lift_24 ml_X8_302 mv_X8_mostWith mc_X8_mostWith cf_X8 ly_Own_lt ly_Own rfl (Nat.le_of_ble_eq_true rfl) (Nat.le_of_ble_eq_true rfl) (Nat.le_of_ble_eq_true rfl) rfl (co_oo_mostWith F _ _) (fun q2 => ?_)
    refine g_aload_n dX8_lift_27 rfl rfl ?_
    refine g_aload_n dX8_lift_28 rfl rfl ?_
    refine g_getS dX8_lift_29 cf_X8 fl_X8_39 ly_Own_lt ly_Own rfl (Nat.le_of_ble_eq_true rfl) ?_
    refine g_getI dX8_lift_32 cf_X7 fl_X8_231 (ly_Week_lt (Or.inl rfl)) (ly_Week (Or.inl rfl)) rfl (Nat.le_of_ble_eq_true rfl) ?_
    refine g_iload_n dX8_lift_35 rfl rfl ?_
    refine g_iconst dX8_lift_36 ic_m1 ?_
    refine g_ixor dX8_lift_37 ?_
    refine g_iand dX8_lift_38 ?_
    refine w_Vyi [.int _] dX8_lift_39 ml_X8_302 mv_X8_mostWith mc_X8_mostWith cf_X8 ly_Own_lt ly_Own rfl (Nat.le_of_ble_eq_true rfl) (Nat.le_of_ble_eq_true rfl) (Nat.le_of_ble_eq_true rfl) rfl (co_oo_mostWith F _ _) (fun q3 => ?_)
    refine g_isub dX8_lift_42 ?_
    exact w_iret dX8_lift_43 rfl rfl
theorem co_oo_lift (F : Nat) (v1 : Int32) (μ : g_St) : g_Con gC 16 yX8_lift cX8_lift 3 (some .int) [.ref 0, .int v1] μ (g_yi (oo_lift F v1 μ)) := g_conOf mc_X8_lift.2.2.2.2 (Nat.le_of_ble_eq_true rfl) rfl (g_yi_rk (Or.inl rfl)) (lk_oo_lift F v1 μ)
theorem dX8_leastFine_0 : decode cX8_leastFine 0 = .ok (.iload_n 0, 1) := by decide +kernel
theorem dX8_leastFine_1 : decode cX8_leastFine 1 = .ok (.ifCond .gt 5, 3) := by decide +kernel
theorem dX8_leastFine_4 : decode cX8_leastFine 4 = .ok (.iconst 0, 1) := by decide +kernel
theorem dX8_leastFine_5 : decode cX8_leastFine 5 = .ok (.ireturn, 1) := by decide +kernel
theorem dX8_leastFine_6 : decode cX8_leastFine 6 = .ok (.iload_n 1, 1) := by decide +kernel
theorem dX8_leastFine_7 : decode cX8_leastFine 7 = .ok (.ifCond .gt 5, 3) := by decide +kernel
theorem dX8_leastFine_10 : decode cX8_leastFine 10 = .ok (.iconst (-1), 1) := by decide +kernel
theorem dX8_leastFine_11 : decode cX8_leastFine 11 = .ok (.ireturn, 1) := by decide +kernel
theorem dX8_leastFine_12 : decode cX8_leastFine 12 = .ok (.iload_n 0, 1) := by decide +kernel
theorem dX8_leastFine_13 : decode cX8_leastFine 13 = .ok (.iload_n 1, 1) := by decide +kernel
theorem dX8_leastFine_14 : decode cX8_leastFine 14 = .ok (.iadd, 1) := by decide +kernel
theorem dX8_leastFine_15 : decode cX8_leastFine 15 = .ok (.iconst 1, 1) := by decide +kernel
theorem dX8_leastFine_16 : decode cX8_leastFine 16 = .ok (.isub, 1) := by decide +kernel
theorem dX8_leastFine_17 : decode cX8_leastFine 17 = .ok (.iload_n 1, 1) := by decide +kernel
theorem dX8_leastFine_18 : decode cX8_leastFine 18 = .ok (.idiv, 1) := by decide +kernel
theorem dX8_leastFine_19 : decode cX8_leastFine 19 = .ok (.istore_n 2, 1) := by decide +kernel
theorem dX8_leastFine_20 : decode cX8_leastFine 20 = .ok (.iload_n 2, 1) := by decide +kernel
theorem dX8_leastFine_21 : decode cX8_leastFine 21 = .ok (.sipush 9999, 3) := by decide +kernel
theorem dX8_leastFine_24 : decode cX8_leastFine 24 = .ok (.if_icmp .gt 7, 3) := by decide +kernel
theorem dX8_leastFine_27 : decode cX8_leastFine 27 = .ok (.iload_n 2, 1) := by decide +kernel
theorem dX8_leastFine_28 : decode cX8_leastFine 28 = .ok (.goto 4, 3) := by decide +kernel
theorem dX8_leastFine_31 : decode cX8_leastFine 31 = .ok (.iconst (-1), 1) := by decide +kernel
theorem dX8_leastFine_32 : decode cX8_leastFine 32 = .ok (.ireturn, 1) := by decide +kernel
theorem lk_oo_leastFine (μ : g_St) (v0 : Int32) (v1 : Int32) : g_Go gC 0 yX8_leastFine cX8_leastFine 3 (some .int) 0 [some (.int v0), some (.int v1), none] [] μ (Option.map (o_i μ) (oo_leastFine μ v0 v1)) := by
  unfold oo_leastFine
  refine g_iload_n dX8_leastFine_0 rfl rfl ?_
  refine w_if_gt (tgt := 6) dX8_leastFine_1 (by decide) ?_ ?_
  · refine g_iconst dX8_leastFine_4 ic_0 ?_
    exact w_iret dX8_leastFine_5 rfl rfl
  · refine g_iload_n dX8_leastFine_6 rfl rfl ?_
    refine w_if_gt (tgt := 12) dX8_leastFine_7 (by decide) ?_ ?_
    · refine g_iconst dX8_leastFine_10 ic_m1 ?_
      exact w_iret dX8_leastFine_11 rfl rfl
    · refine g_iload_n dX8_leastFine_12 rfl rfl ?_
      refine g_iload_n dX8_leastFine_13 rfl rfl ?_
      refine g_iadd dX8_leastFine_14 ?_
      refine g_iconst dX8_leastFine_15 ic_1 ?_
      refine g_isub dX8_leastFine_16 ?_
      refine g_iload_n dX8_leastFine_17 rfl rfl ?_
      refine w_idiv dX8_leastFine_18 (fun x1 => ?_)
      refine g_istore_n (lo2 := [_, _, _]) dX8_leastFine_19 rfl (Nat.le_of_ble_eq_true rfl) rfl rfl ?_
      refine g_iload_n dX8_leastFine_20 rfl rfl ?_
      refine g_sipush dX8_leastFine_21 sp_9999 ?_
      refine w_icmp_gt (tgt := 31) dX8_leastFine_24 (by decide) ?_ ?_
      · refine g_iload_n dX8_leastFine_27 rfl rfl ?_
        refine g_goto (tgt := 32) dX8_leastFine_28 (by decide) ?_
        exact w_iret dX8_leastFine_32 rfl rfl
      · refine g_iconst dX8_leastFine_31 ic_m1 ?_
        exact w_iret dX8_leastFine_32 rfl rfl
theorem co_oo_leastFine (μ : g_St) (v0 : Int32) (v1 : Int32) : g_Con gC 0 yX8_leastFine cX8_leastFine 3 (some .int) [.int v0, .int v1] μ (g_xi μ (oo_leastFine μ v0 v1)) := g_conOf mc_X8_leastFine.2.2.2.2 (Nat.le_of_ble_eq_true rfl) rfl (g_xi_rk (Or.inl rfl)) (lk_oo_leastFine μ v0 v1)
theorem dX8_partOfTen_0 : decode cX8_partOfTen 0 = .ok (.iload_n 0, 1) := by decide +kernel
theorem dX8_partOfTen_1 : decode cX8_partOfTen 1 = .ok (.istore_n 2, 1) := by decide +kernel
theorem dX8_partOfTen_2 : decode cX8_partOfTen 2 = .ok (.bipush 10, 2) := by decide +kernel
theorem dX8_partOfTen_4 : decode cX8_partOfTen 4 = .ok (.istore_n 3, 1) := by decide +kernel
theorem dX8_partOfTen_5 : decode cX8_partOfTen 5 = .ok (.iload_n 2, 1) := by decide +kernel
theorem dX8_partOfTen_6 : decode cX8_partOfTen 6 = .ok (.iconst 2, 1) := by decide +kernel
theorem dX8_partOfTen_7 : decode cX8_partOfTen 7 = .ok (.irem, 1) := by decide +kernel
theorem dX8_partOfTen_8 : decode cX8_partOfTen 8 = .ok (.ifCond .ne 11, 3) := by decide +kernel
theorem dX8_partOfTen_11 : decode cX8_partOfTen 11 = .ok (.iload_n 2, 1) := by decide +kernel
theorem dX8_partOfTen_12 : decode cX8_partOfTen 12 = .ok (.iconst 2, 1) := by decide +kernel
theorem dX8_partOfTen_13 : decode cX8_partOfTen 13 = .ok (.idiv, 1) := by decide +kernel
theorem dX8_partOfTen_14 : decode cX8_partOfTen 14 = .ok (.istore_n 2, 1) := by decide +kernel
theorem dX8_partOfTen_15 : decode cX8_partOfTen 15 = .ok (.iload_n 3, 1) := by decide +kernel
theorem dX8_partOfTen_16 : decode cX8_partOfTen 16 = .ok (.iconst 2, 1) := by decide +kernel
theorem dX8_partOfTen_17 : decode cX8_partOfTen 17 = .ok (.idiv, 1) := by decide +kernel
theorem dX8_partOfTen_18 : decode cX8_partOfTen 18 = .ok (.istore_n 3, 1) := by decide +kernel
theorem dX8_partOfTen_19 : decode cX8_partOfTen 19 = .ok (.iload_n 2, 1) := by decide +kernel
theorem dX8_partOfTen_20 : decode cX8_partOfTen 20 = .ok (.iconst 5, 1) := by decide +kernel
theorem dX8_partOfTen_21 : decode cX8_partOfTen 21 = .ok (.irem, 1) := by decide +kernel
theorem dX8_partOfTen_22 : decode cX8_partOfTen 22 = .ok (.ifCond .ne 11, 3) := by decide +kernel
theorem dX8_partOfTen_25 : decode cX8_partOfTen 25 = .ok (.iload_n 2, 1) := by decide +kernel
theorem dX8_partOfTen_26 : decode cX8_partOfTen 26 = .ok (.iconst 5, 1) := by decide +kernel
theorem dX8_partOfTen_27 : decode cX8_partOfTen 27 = .ok (.idiv, 1) := by decide +kernel
theorem dX8_partOfTen_28 : decode cX8_partOfTen 28 = .ok (.istore_n 2, 1) := by decide +kernel
theorem dX8_partOfTen_29 : decode cX8_partOfTen 29 = .ok (.iload_n 3, 1) := by decide +kernel
theorem dX8_partOfTen_30 : decode cX8_partOfTen 30 = .ok (.iconst 5, 1) := by decide +kernel
theorem dX8_partOfTen_31 : decode cX8_partOfTen 31 = .ok (.idiv, 1) := by decide +kernel
theorem dX8_partOfTen_32 : decode cX8_partOfTen 32 = .ok (.istore_n 3, 1) := by decide +kernel
theorem dX8_partOfTen_33 : decode cX8_partOfTen 33 = .ok (.iload_n 1, 1) := by decide +kernel
theorem dX8_partOfTen_34 : decode cX8_partOfTen 34 = .ok (.ifCond .ne 7, 3) := by decide +kernel
theorem dX8_partOfTen_37 : decode cX8_partOfTen 37 = .ok (.iload_n 2, 1) := by decide +kernel
theorem dX8_partOfTen_38 : decode cX8_partOfTen 38 = .ok (.goto 4, 3) := by decide +kernel
theorem dX8_partOfTen_41 : decode cX8_partOfTen 41 = .ok (.iload_n 3, 1) := by decide +kernel
theorem dX8_partOfTen_42 : decode cX8_partOfTen 42 = .ok (.ireturn, 1) := by decide +kernel
theorem lk_oo_partOfTen_33 (μ : g_St) (v1 : Int32) (v2 : Int32) (v3 : Int32) : g_Go gC 0 yX8_partOfTen cX8_partOfTen 4 (some .int) 33 [none, some (.int v1), some (.int v2), some (.int v3)] [] μ (Option.map (o_i μ) (oo_partOfTen_33 μ v1 v2 v3 )) := by
  unfold oo_partOfTen_33
  refine g_iload_n dX8_partOfTen_33 rfl rfl ?_
  refine w_if_ne (tgt := 41) dX8_partOfTen_34 (by decide) ?_ ?_
  · refine g_iload_n dX8_partOfTen_37 rfl rfl ?_
    refine g_goto (tgt := 42) dX8_partOfTen_38 (by decide) ?_
    exact w_iret dX8_partOfTen_42 rfl rfl
  · refine g_iload_n dX8_partOfTen_41 rfl rfl ?_
    exact w_iret dX8_partOfTen_42 rfl rfl
theorem lk_oo_partOfTen_19 (μ : g_St) (v1 : Int32) (v2 : Int32) (v3 : Int32) : g_Go gC 0 yX8_partOfTen cX8_partOfTen 4 (some .int) 19 [none, some (.int v1), some (.int v2), some (.int v3)] [] μ (Option.map (o_i μ) (oo_partOfTen_19 μ v1 v2 v3 )) := by
  unfold oo_partOfTen_19
  refine g_iload_n dX8_partOfTen_19 rfl rfl ?_
  refine g_iconst dX8_partOfTen_20 ic_5 ?_
  refine w_irem dX8_partOfTen_21 (fun x4 => ?_)
  refine w_if_ne (tgt := 33) dX8_partOfTen_22 (by decide) ?_ ?_
  · refine g_iload_n dX8_partOfTen_25 rfl rfl ?_
    refine g_iconst dX8_partOfTen_26 ic_5 ?_
    refine w_idiv dX8_partOfTen_27 (fun x5 => ?_)
    refine g_istore_n (lo2 := [_, _, _, _]) dX8_partOfTen_28 rfl (Nat.le_of_ble_eq_true rfl) rfl rfl ?_
    refine g_iload_n dX8_partOfTen_29 rfl rfl ?_
    refine g_iconst dX8_partOfTen_30 ic_5 ?_
    refine w_idiv dX8_partOfTen_31 (fun x6 => ?_)
    refine g_istore_n (lo2 := [_, _, _, _]) dX8_partOfTen_32 rfl (Nat.le_of_ble_eq_true rfl) rfl rfl ?_
    exact g_to (lk_oo_partOfTen_33 μ _ _ _) (su_n (su_s (su_s (su_s su_0))))
  · exact g_to (lk_oo_partOfTen_33 μ _ _ _) (su_n (su_s (su_s (su_s su_0))))
theorem lk_oo_partOfTen (μ : g_St) (v0 : Int32) (v1 : Int32) : g_Go gC 0 yX8_partOfTen cX8_partOfTen 4 (some .int) 0 [some (.int v0), some (.int v1), none, none] [] μ (Option.map (o_i μ) (oo_partOfTen μ v0 v1)) := by
  unfold oo_partOfTen
  refine g_iload_n dX8_partOfTen_0 rfl rfl ?_
  refine g_istore_n (lo2 := [_, _, _, _]) dX8_partOfTen_1 rfl (Nat.le_of_ble_eq_true rfl) rfl rfl ?_
  refine g_bipush dX8_partOfTen_2 bp_10 ?_
  refine g_istore_n (lo2 := [_, _, _, _]) dX8_partOfTen_4 rfl (Nat.le_of_ble_eq_true rfl) rfl rfl ?_
  refine g_iload_n dX8_partOfTen_5 rfl rfl ?_
  refine g_iconst dX8_partOfTen_6 ic_2 ?_
  refine w_irem dX8_partOfTen_7 (fun x1 => ?_)
  refine w_if_ne (tgt := 19) dX8_partOfTen_8 (by decide) ?_ ?_
  · refine g_iload_n dX8_partOfTen_11 rfl rfl ?_
    refine g_iconst dX8_partOfTen_12 ic_2 ?_
    refine w_idiv dX8_partOfTen_13 (fun x2 => ?_)
    refine g_istore_n (lo2 := [_, _, _, _]) dX8_partOfTen_14 rfl (Nat.le_of_ble_eq_true rfl) rfl rfl ?_
    refine g_iload_n dX8_partOfTen_15 rfl rfl ?_
    refine g_iconst dX8_partOfTen_16 ic_2 ?_
    refine w_idiv dX8_partOfTen_17 (fun x3 => ?_)
    refine g_istore_n (lo2 := [_, _, _, _]) dX8_partOfTen_18 rfl (Nat.le_of_ble_eq_true rfl) rfl rfl ?_
    exact g_to (lk_oo_partOfTen_19 μ _ _ _) (su_n (su_s (su_s (su_s su_0))))
  · exact g_to (lk_oo_partOfTen_19 μ _ _ _) (su_n (su_s (su_s (su_s su_0))))
theorem co_oo_partOfTen (μ : g_St) (v0 : Int32) (v1 : Int32) : g_Con gC 0 yX8_partOfTen cX8_partOfTen 4 (some .int) [.int v0, .int v1] μ (g_xi μ (oo_partOfTen μ v0 v1)) := g_conOf mc_X8_partOfTen.2.2.2.2 (Nat.le_of_ble_eq_true rfl) rfl (g_xi_rk (Or.inl rfl)) (lk_oo_partOfTen μ v0 v1)
theorem dX8_lie_0 : decode cX8_lie 0 = .ok (.iload 4, 2) := by decide +kernel
theorem dX8_lie_2 : decode cX8_lie 2 = .ok (.ifCond .lt 38, 3) := by decide +kernel
theorem dX8_lie_5 : decode cX8_lie 5 = .ok (.iload 4, 2) := by decide +kernel
theorem dX8_lie_7 : decode cX8_lie 7 = .ok (.bipush 10, 2) := by decide +kernel
theorem dX8_lie_9 : decode cX8_lie 9 = .ok (.if_icmp .gt 31, 3) := by decide +kernel
theorem dX8_lie_12 : decode cX8_lie 12 = .ok (.iload 5, 2) := by decide +kernel
theorem dX8_lie_14 : decode cX8_lie 14 = .ok (.ifCond .lt 26, 3) := by decide +kernel
theorem dX8_lie_17 : decode cX8_lie 17 = .ok (.iload 5, 2) := by decide +kernel
theorem dX8_lie_19 : decode cX8_lie 19 = .ok (.sipush 9999, 3) := by decide +kernel
theorem dX8_lie_22 : decode cX8_lie 22 = .ok (.if_icmp .gt 18, 3) := by decide +kernel
theorem dX8_lie_25 : decode cX8_lie 25 = .ok (.iload 6, 2) := by decide +kernel
theorem dX8_lie_27 : decode cX8_lie 27 = .ok (.ifCond .lt 13, 3) := by decide +kernel
theorem dX8_lie_30 : decode cX8_lie 30 = .ok (.iload 6, 2) := by decide +kernel
theorem dX8_lie_32 : decode cX8_lie 32 = .ok (.iconst 2, 1) := by decide +kernel
theorem dX8_lie_33 : decode cX8_lie 33 = .ok (.if_icmp .gt 7, 3) := by decide +kernel
theorem dX8_lie_36 : decode cX8_lie 36 = .ok (.iconst 1, 1) := by decide +kernel
theorem dX8_lie_37 : decode cX8_lie 37 = .ok (.goto 4, 3) := by decide +kernel
theorem dX8_lie_40 : decode cX8_lie 40 = .ok (.iconst 0, 1) := by decide +kernel
theorem dX8_lie_41 : decode cX8_lie 41 = .ok (.istore 7, 2) := by decide +kernel
theorem dX8_lie_43 : decode cX8_lie 43 = .ok (.iload 7, 2) := by decide +kernel
theorem dX8_lie_45 : decode cX8_lie 45 = .ok (.ifCond .eq 23, 3) := by decide +kernel
theorem dX8_lie_48 : decode cX8_lie 48 = .ok (.aload_n 0, 1) := by decide +kernel
theorem dX8_lie_49 : decode cX8_lie 49 = .ok (.iload_n 1, 1) := by decide +kernel
theorem dX8_lie_50 : decode cX8_lie 50 = .ok (.iload_n 2, 1) := by decide +kernel
theorem dX8_lie_51 : decode cX8_lie 51 = .ok (.iload_n 3, 1) := by decide +kernel
theorem dX8_lie_52 : decode cX8_lie 52 = .ok (.invokevirtual 206, 3) := by decide +kernel
theorem dX8_lie_55 : decode cX8_lie 55 = .ok (.ifCond .eq 13, 3) := by decide +kernel
theorem dX8_lie_58 : decode cX8_lie 58 = .ok (.aload_n 0, 1) := by decide +kernel
theorem dX8_lie_59 : decode cX8_lie 59 = .ok (.iload_n 1, 1) := by decide +kernel
theorem dX8_lie_60 : decode cX8_lie 60 = .ok (.iload_n 2, 1) := by decide +kernel
theorem dX8_lie_61 : decode cX8_lie 61 = .ok (.iload_n 3, 1) := by decide +kernel
theorem dX8_lie_62 : decode cX8_lie 62 = .ok (.invokevirtual 181, 3) := by decide +kernel
theorem dX8_lie_65 : decode cX8_lie 65 = .ok (.ifCond .eq 14, 3) := by decide +kernel
theorem dX8_lie_68 : decode cX8_lie 68 = .ok (.new 185, 3) := by decide +kernel
theorem dX8_lie_71 : decode cX8_lie 71 = .ok (.dup, 1) := by decide +kernel
theorem dX8_lie_72 : decode cX8_lie 72 = .ok (.ldc_w 305, 3) := by decide +kernel
theorem dX8_lie_75 : decode cX8_lie 75 = .ok (.invokespecial 189, 3) := by decide +kernel
theorem dX8_lie_78 : decode cX8_lie 78 = .ok (.athrow, 1) := by decide +kernel
theorem dX8_lie_79 : decode cX8_lie 79 = .ok (.aload_n 0, 1) := by decide +kernel
theorem dX8_lie_80 : decode cX8_lie 80 = .ok (.getfield 39, 3) := by decide +kernel
theorem dX8_lie_83 : decode cX8_lie 83 = .ok (.getfield 192, 3) := by decide +kernel
theorem dX8_lie_86 : decode cX8_lie 86 = .ok (.iload_n 3, 1) := by decide +kernel
theorem dX8_lie_87 : decode cX8_lie 87 = .ok (.iaload, 1) := by decide +kernel
theorem dX8_lie_88 : decode cX8_lie 88 = .ok (.istore 8, 2) := by decide +kernel
theorem dX8_lie_90 : decode cX8_lie 90 = .ok (.aload_n 0, 1) := by decide +kernel
theorem dX8_lie_91 : decode cX8_lie 91 = .ok (.getfield 19, 3) := by decide +kernel
theorem dX8_lie_94 : decode cX8_lie 94 = .ok (.iload_n 2, 1) := by decide +kernel
theorem dX8_lie_95 : decode cX8_lie 95 = .ok (.iload 8, 2) := by decide +kernel
theorem dX8_lie_97 : decode cX8_lie 97 = .ok (.aload_n 0, 1) := by decide +kernel
theorem dX8_lie_98 : decode cX8_lie 98 = .ok (.getfield 39, 3) := by decide +kernel
theorem dX8_lie_101 : decode cX8_lie 101 = .ok (.iload_n 2, 1) := by decide +kernel
theorem dX8_lie_102 : decode cX8_lie 102 = .ok (.iload 8, 2) := by decide +kernel
theorem dX8_lie_104 : decode cX8_lie 104 = .ok (.invokevirtual 307, 3) := by decide +kernel
theorem dX8_lie_107 : decode cX8_lie 107 = .ok (.invokevirtual 128, 3) := by decide +kernel
theorem dX8_lie_110 : decode cX8_lie 110 = .ok (.istore 9, 2) := by decide +kernel
theorem dX8_lie_112 : decode cX8_lie 112 = .ok (.aload_n 0, 1) := by decide +kernel
theorem dX8_lie_113 : decode cX8_lie 113 = .ok (.getfield 19, 3) := by decide +kernel
theorem dX8_lie_116 : decode cX8_lie 116 = .ok (.iload_n 1, 1) := by decide +kernel
theorem dX8_lie_117 : decode cX8_lie 117 = .ok (.iload 8, 2) := by decide +kernel
theorem dX8_lie_119 : decode cX8_lie 119 = .ok (.aload_n 0, 1) := by decide +kernel
theorem dX8_lie_120 : decode cX8_lie 120 = .ok (.getfield 39, 3) := by decide +kernel
theorem dX8_lie_123 : decode cX8_lie 123 = .ok (.iload_n 1, 1) := by decide +kernel
theorem dX8_lie_124 : decode cX8_lie 124 = .ok (.iload 8, 2) := by decide +kernel
theorem dX8_lie_126 : decode cX8_lie 126 = .ok (.invokevirtual 307, 3) := by decide +kernel
theorem dX8_lie_129 : decode cX8_lie 129 = .ok (.iconst 1, 1) := by decide +kernel
theorem dX8_lie_130 : decode cX8_lie 130 = .ok (.isub, 1) := by decide +kernel
theorem dX8_lie_131 : decode cX8_lie 131 = .ok (.invokevirtual 128, 3) := by decide +kernel
theorem dX8_lie_134 : decode cX8_lie 134 = .ok (.istore 10, 2) := by decide +kernel
theorem dX8_lie_136 : decode cX8_lie 136 = .ok (.bipush 10, 2) := by decide +kernel
theorem dX8_lie_138 : decode cX8_lie 138 = .ok (.iload 4, 2) := by decide +kernel
theorem dX8_lie_140 : decode cX8_lie 140 = .ok (.isub, 1) := by decide +kernel
theorem dX8_lie_141 : decode cX8_lie 141 = .ok (.iload 9, 2) := by decide +kernel
theorem dX8_lie_143 : decode cX8_lie 143 = .ok (.iload 10, 2) := by decide +kernel
theorem dX8_lie_145 : decode cX8_lie 145 = .ok (.isub, 1) := by decide +kernel
theorem dX8_lie_146 : decode cX8_lie 146 = .ok (.imul, 1) := by decide +kernel
theorem dX8_lie_147 : decode cX8_lie 147 = .ok (.istore 11, 2) := by decide +kernel
theorem dX8_lie_149 : decode cX8_lie 149 = .ok (.iload 6, 2) := by decide +kernel
theorem dX8_lie_151 : decode cX8_lie 151 = .ok (.iconst 2, 1) := by decide +kernel
theorem dX8_lie_152 : decode cX8_lie 152 = .ok (.if_icmp .ne 11, 3) := by decide +kernel
theorem dX8_lie_155 : decode cX8_lie 155 = .ok (.iload 11, 2) := by decide +kernel
theorem dX8_lie_157 : decode cX8_lie 157 = .ok (.iload 4, 2) := by decide +kernel
theorem dX8_lie_159 : decode cX8_lie 159 = .ok (.invokestatic 310, 3) := by decide +kernel
theorem dX8_lie_162 : decode cX8_lie 162 = .ok (.ireturn, 1) := by decide +kernel
theorem dX8_lie_163 : decode cX8_lie 163 = .ok (.iload 11, 2) := by decide +kernel
theorem dX8_lie_165 : decode cX8_lie 165 = .ok (.iload 4, 2) := by decide +kernel
theorem dX8_lie_167 : decode cX8_lie 167 = .ok (.iload 5, 2) := by decide +kernel
theorem dX8_lie_169 : decode cX8_lie 169 = .ok (.imul, 1) := by decide +kernel
theorem dX8_lie_170 : decode cX8_lie 170 = .ok (.isub, 1) := by decide +kernel
theorem dX8_lie_171 : decode cX8_lie 171 = .ok (.iload 6, 2) := by decide +kernel
theorem dX8_lie_173 : decode cX8_lie 173 = .ok (.invokestatic 313, 3) := by decide +kernel
theorem dX8_lie_176 : decode cX8_lie 176 = .ok (.ireturn, 1) := by decide +kernel
theorem lk_oo_lie_41 (F : Nat) (v1 : Int32) (v2 : Int32) (v3 : Int32) (v4 : Int32) (v5 : Int32) (v6 : Int32) (s0 : Int32) (μ : g_St) : g_Go gC 5 yX8_lie cX8_lie 12 (some .int) 41 [some (.ref 0), some (.int v1), some (.int v2), some (.int v3), some (.int v4), some (.int v5), some (.int v6), none, none, none, none, none] [.int s0] μ (Option.map o_x (oo_lie_41 F v1 v2 v3 v4 v5 v6 s0 μ)) := by
  unfold oo_lie_41
  refine g_istore (lo2 := [_, _, _, _, _, _, _, _, _, _, _, _]) dX8_lie_41 (Nat.le_of_ble_eq_true rfl) rfl rfl ?_
  refine g_iload dX8_lie_43 rfl ?_
  refine w_if_eq (tgt := 68) dX8_lie_45 (by decide) ?_ ?_
  · exact w_thr ⟨dX8_lie_68, dX8_lie_71, Or.inr ⟨305, "no such lie", Or.inr ⟨rfl, rfl⟩, dX8_lie_72, dX8_lie_75, dX8_lie_78⟩⟩ rfl
  · refine g_aload_n dX8_lie_48 rfl rfl ?_
    refine g_iload_n dX8_lie_49 rfl rfl ?_
    refine g_iload_n dX8_lie_50 rfl rfl ?_
    refine g_iload_n dX8_lie_51 rfl rfl ?_
    refine w_Vxi [.int _, .int _, .int _] dX8_lie_52 ml_X8_206 mv_X8_isHeldBy mc_X8_isHeldBy cf_X8 ly_Own_lt ly_Own rfl (Nat.le_of_ble_eq_true rfl) (Nat.le_of_ble_eq_true rfl) (Nat.le_of_ble_eq_true rfl) rfl (co_oo_isHeldBy _ _ _ _) (fun x1 => ?_)
    refine w_if_eq (tgt := 68) dX8_lie_55 (by decide) ?_ ?_
    · exact w_thr ⟨dX8_lie_68, dX8_lie_71, Or.inr ⟨305, "no such lie", Or.inr ⟨rfl, rfl⟩, dX8_lie_72, dX8_lie_75, dX8_lie_78⟩⟩ rfl
    · refine g_aload_n dX8_lie_58 rfl rfl ?_
      refine g_iload_n dX8_lie_59 rfl rfl ?_
      refine g_iload_n dX8_lie_60 rfl rfl ?_
      refine g_iload_n dX8_lie_61 rfl rfl ?_
      refine w_Vyi [.int _, .int _, .int _] dX8_lie_62 ml_X8_181 mv_X8_isLawfulNow mc_X8_isLawfulNow cf_X8 ly_Own_lt ly_Own rfl (Nat.le_of_ble_eq_true rfl) (Nat.le_of_ble_eq_true rfl) (Nat.le_of_ble_eq_true rfl) rfl (co_oo_isLawfulNow F _ _ _ _) (fun q2 => ?_)
      refine w_if_eq (tgt := 79) dX8_lie_65 (by decide) ?_ ?_
      · refine g_aload_n dX8_lie_79 rfl rfl ?_
        refine g_getS dX8_lie_80 cf_X8 fl_X8_39 ly_Own_lt ly_Own rfl (Nat.le_of_ble_eq_true rfl) ?_
        refine g_getS dX8_lie_83 cf_X7 fl_X8_192 (ly_Week_lt (Or.inl rfl)) (ly_Week (Or.inl rfl)) rfl (Nat.le_of_ble_eq_true rfl) ?_
        refine g_iload_n dX8_lie_86 rfl rfl ?_
        refine w_iald dX8_lie_87 (ly_Week_good_lt (Or.inl rfl)) (ly_Week_good (Or.inl rfl)) (fun x3 => ?_)
        refine g_istore (lo2 := [_, _, _, _, _, _, _, _, _, _, _, _]) dX8_lie_88 (Nat.le_of_ble_eq_true rfl) rfl rfl ?_
        refine g_aload_n dX8_lie_90 rfl rfl ?_
        refine w_getql dX8_lie_91 cf_X8 fl_X8_19 ly_Own_lt ly_Own rfl (Nat.le_of_ble_eq_true rfl) (fun b4 hb4 => ?_)
        refine g_iload_n dX8_lie_94 rfl rfl ?_
        refine g_iload dX8_lie_95 rfl ?_
        refine g_aload_n dX8_lie_97 rfl rfl ?_
        refine g_getS dX8_lie_98 cf_X8 fl_X8_39 ly_Own_lt ly_Own rfl (Nat.le_of_ble_eq_true rfl) ?_
        refine g_iload_n dX8_lie_101 rfl rfl ?_
        refine g_iload dX8_lie_102 rfl ?_
        refine w_Vxi [.int _, .int _] dX8_lie_104 ml_X8_307 mv_X7_held mc_X7_held cf_X7 (ly_Week_lt (Or.inl rfl)) (ly_Week (Or.inl rfl)) rfl (Nat.le_of_ble_eq_true rfl) (Nat.le_of_ble_eq_true rfl) (Nat.le_of_ble_eq_true rfl) rfl (co_ow_held F _ (Or.inl rfl) _ _ _) (fun x5 => ?_)
        refine w_Vxi [.int _, .int _, .int _] dX8_lie_107 ml_X8_128 mv_X1_worthOf mc_X1_worthOf cf_X1 (ly_Land_lt hb4) (ly_Land hb4) rfl (Nat.le_of_ble_eq_true rfl) (Nat.le_of_ble_eq_true rfl) (Nat.le_of_ble_eq_true rfl) rfl (co_ol_worthOf _ hb4 _ _ _ _) (fun x6 => ?_)
        refine g_istore (lo2 := [_, _, _, _, _, _, _, _, _, _, _, _]) dX8_lie_110 (Nat.le_of_ble_eq_true rfl) rfl rfl ?_
        refine g_aload_n dX8_lie_112 rfl rfl ?_
        refine w_getql dX8_lie_113 cf_X8 fl_X8_19 ly_Own_lt ly_Own rfl (Nat.le_of_ble_eq_true rfl) (fun b7 hb7 => ?_)
        refine g_iload_n dX8_lie_116 rfl rfl ?_
        refine g_iload dX8_lie_117 rfl ?_
        refine g_aload_n dX8_lie_119 rfl rfl ?_
        refine g_getS dX8_lie_120 cf_X8 fl_X8_39 ly_Own_lt ly_Own rfl (Nat.le_of_ble_eq_true rfl) ?_
        refine g_iload_n dX8_lie_123 rfl rfl ?_
        refine g_iload dX8_lie_124 rfl ?_
        refine w_Vxi [.int _, .int _] dX8_lie_126 ml_X8_307 mv_X7_held mc_X7_held cf_X7 (ly_Week_lt (Or.inl rfl)) (ly_Week (Or.inl rfl)) rfl (Nat.le_of_ble_eq_true rfl) (Nat.le_of_ble_eq_true rfl) (Nat.le_of_ble_eq_true rfl) rfl (co_ow_held F _ (Or.inl rfl) _ _ _) (fun x8 => ?_)
        refine g_iconst dX8_lie_129 ic_1 ?_
        refine g_isub dX8_lie_130 ?_
        refine w_Vxi [.int _, .int _, .int _] dX8_lie_131 ml_X8_128 mv_X1_worthOf mc_X1_worthOf cf_X1 (ly_Land_lt hb7) (ly_Land hb7) rfl (Nat.le_of_ble_eq_true rfl) (Nat.le_of_ble_eq_true rfl) (Nat.le_of_ble_eq_true rfl) rfl (co_ol_worthOf _ hb7 _ _ _ _) (fun x9 => ?_)
        refine g_istore (lo2 := [_, _, _, _, _, _, _, _, _, _, _, _]) dX8_lie_134 (Nat.le_of_ble_eq_true rfl) rfl rfl ?_
        refine g_bipush dX8_lie_136 bp_10 ?_
        refine g_iload dX8_lie_138 rfl ?_
        refine g_isub dX8_lie_140 ?_
        refine g_iload dX8_lie_141 rfl ?_
        refine g_iload dX8_lie_143 rfl ?_
        refine g_isub dX8_lie_145 ?_
        refine g_imul dX8_lie_146 ?_
        refine g_istore (lo2 := [_, _, _, _, _, _, _, _, _, _, _, _]) dX8_lie_147 (Nat.le_of_ble_eq_true rfl) rfl rfl ?_
        refine g_iload dX8_lie_149 rfl ?_
        refine g_iconst dX8_lie_151 ic_2 ?_
        refine w_icmp_ne (tgt := 163) dX8_lie_152 (by decide) ?_ ?_
        · refine g_iload dX8_lie_155 rfl ?_
          refine g_iload dX8_lie_157 rfl ?_
          refine w_Sxi [.int _, .int _] dX8_lie_159 ml_X8_310 ms_X8_leastFine mc_X8_leastFine rfl (Nat.le_of_ble_eq_true rfl) (Nat.le_of_ble_eq_true rfl) (Nat.le_of_ble_eq_true rfl) rfl (co_oo_leastFine _ _ _) (fun x10 => ?_)
          exact w_iret dX8_lie_162 rfl rfl
        · refine g_iload dX8_lie_163 rfl ?_
          refine g_iload dX8_lie_165 rfl ?_
          refine g_iload dX8_lie_167 rfl ?_
          refine g_imul dX8_lie_169 ?_
          refine g_isub dX8_lie_170 ?_
          refine g_iload dX8_lie_171 rfl ?_
          refine w_Sxi [.int _, .int _] dX8_lie_173 ml_X8_313 ms_X8_partOfTen mc_X8_partOfTen rfl (Nat.le_of_ble_eq_true rfl) (Nat.le_of_ble_eq_true rfl) (Nat.le_of_ble_eq_true rfl) rfl (co_oo_partOfTen _ _ _) (fun x11 => ?_)
          exact w_iret dX8_lie_176 rfl rfl
      · exact w_thr ⟨dX8_lie_68, dX8_lie_71, Or.inr ⟨305, "no such lie", Or.inr ⟨rfl, rfl⟩, dX8_lie_72, dX8_lie_75, dX8_lie_78⟩⟩ rfl
theorem lk_oo_lie_40 (F : Nat) (v1 : Int32) (v2 : Int32) (v3 : Int32) (v4 : Int32) (v5 : Int32) (v6 : Int32) (μ : g_St) : g_Go gC 5 yX8_lie cX8_lie 12 (some .int) 40 [some (.ref 0), some (.int v1), some (.int v2), some (.int v3), some (.int v4), some (.int v5), some (.int v6), none, none, none, none, none] [] μ (Option.map o_x (oo_lie_40 F v1 v2 v3 v4 v5 v6 μ)) := by
  unfold oo_lie_40
  refine g_iconst dX8_lie_40 ic_0 ?_
  exact g_to (lk_oo_lie_41 F _ _ _ _ _ _ _ _) (su_s (su_s (su_s (su_s (su_s (su_s (su_s (su_n (su_n (su_n (su_n (su_n su_0))))))))))))
theorem lk_oo_lie (F : Nat) (v1 : Int32) (v2 : Int32) (v3 : Int32) (v4 : Int32) (v5 : Int32) (v6 : Int32) (μ : g_St) : g_Go gC 5 yX8_lie cX8_lie 12 (some .int) 0 [some (.ref 0), some (.int v1), some (.int v2), some (.int v3), some (.int v4), some (.int v5), some (.int v6), none, none, none, none, none] [] μ (Option.map o_x (oo_lie F v1 v2 v3 v4 v5 v6 μ)) := by
  unfold oo_lie
  refine g_iload dX8_lie_0 rfl ?_
  refine w_if_lt (tgt := 40) dX8_lie_2 (by decide) ?_ ?_
  · refine g_iload dX8_lie_5 rfl ?_
    refine g_bipush dX8_lie_7 bp_10 ?_
    refine w_icmp_gt (tgt := 40) dX8_lie_9 (by decide) ?_ ?_
    · refine g_iload dX8_lie_12 rfl ?_
      refine w_if_lt (tgt := 40) dX8_lie_14 (by decide) ?_ ?_
      · refine g_iload dX8_lie_17 rfl ?_
        refine g_sipush dX8_lie_19 sp_9999 ?_
        refine w_icmp_gt (tgt := 40) dX8_lie_22 (by decide) ?_ ?_
        · refine g_iload dX8_lie_25 rfl ?_
          refine w_if_lt (tgt := 40) dX8_lie_27 (by decide) ?_ ?_
          · refine g_iload dX8_lie_30 rfl ?_
            refine g_iconst dX8_lie_32 ic_2 ?_
            refine w_icmp_gt (tgt := 40) dX8_lie_33 (by decide) ?_ ?_
            · refine g_iconst dX8_lie_36 ic_1 ?_
              refine g_goto (tgt := 41) dX8_lie_37 (by decide) ?_
              exact g_to (lk_oo_lie_41 F _ _ _ _ _ _ _ _) (su_s (su_s (su_s (su_s (su_s (su_s (su_s (su_n (su_n (su_n (su_n (su_n su_0))))))))))))
            · exact g_to (lk_oo_lie_40 F _ _ _ _ _ _ _) (su_s (su_s (su_s (su_s (su_s (su_s (su_s (su_n (su_n (su_n (su_n (su_n su_0))))))))))))
          · exact g_to (lk_oo_lie_40 F _ _ _ _ _ _ _) (su_s (su_s (su_s (su_s (su_s (su_s (su_s (su_n (su_n (su_n (su_n (su_n su_0))))))))))))
        · exact g_to (lk_oo_lie_40 F _ _ _ _ _ _ _) (su_s (su_s (su_s (su_s (su_s (su_s (su_s (su_n (su_n (su_n (su_n (su_n su_0))))))))))))
      · exact g_to (lk_oo_lie_40 F _ _ _ _ _ _ _) (su_s (su_s (su_s (su_s (su_s (su_s (su_s (su_n (su_n (su_n (su_n (su_n su_0))))))))))))
    · exact g_to (lk_oo_lie_40 F _ _ _ _ _ _ _) (su_s (su_s (su_s (su_s (su_s (su_s (su_s (su_n (su_n (su_n (su_n (su_n su_0))))))))))))
  · exact g_to (lk_oo_lie_40 F _ _ _ _ _ _ _) (su_s (su_s (su_s (su_s (su_s (su_s (su_s (su_n (su_n (su_n (su_n (su_n su_0))))))))))))
theorem dX8_findWares_0 : decode cX8_findWares 0 = .ok (.iconst 0, 1) := by decide +kernel
theorem dX8_findWares_1 : decode cX8_findWares 1 = .ok (.istore_n 1, 1) := by decide +kernel
theorem dX8_findWares_2 : decode cX8_findWares 2 = .ok (.iload_n 1, 1) := by decide +kernel
theorem dX8_findWares_3 : decode cX8_findWares 3 = .ok (.aload_n 0, 1) := by decide +kernel
theorem dX8_findWares_4 : decode cX8_findWares 4 = .ok (.getfield 19, 3) := by decide +kernel
theorem dX8_findWares_7 : decode cX8_findWares 7 = .ok (.getfield 228, 3) := by decide +kernel
theorem dX8_findWares_10 : decode cX8_findWares 10 = .ok (.if_icmp .ge 123, 3) := by decide +kernel
theorem dX8_findWares_13 : decode cX8_findWares 13 = .ok (.iconst 0, 1) := by decide +kernel
theorem dX8_findWares_14 : decode cX8_findWares 14 = .ok (.istore_n 2, 1) := by decide +kernel
theorem dX8_findWares_15 : decode cX8_findWares 15 = .ok (.iload_n 2, 1) := by decide +kernel
theorem dX8_findWares_16 : decode cX8_findWares 16 = .ok (.aload_n 0, 1) := by decide +kernel
theorem dX8_findWares_17 : decode cX8_findWares 17 = .ok (.getfield 19, 3) := by decide +kernel
theorem dX8_findWares_20 : decode cX8_findWares 20 = .ok (.getfield 228, 3) := by decide +kernel
theorem dX8_findWares_23 : decode cX8_findWares 23 = .ok (.if_icmp .ge 104, 3) := by decide +kernel
theorem dX8_findWares_26 : decode cX8_findWares 26 = .ok (.iconst 0, 1) := by decide +kernel
theorem dX8_findWares_27 : decode cX8_findWares 27 = .ok (.istore_n 3, 1) := by decide +kernel
theorem dX8_findWares_28 : decode cX8_findWares 28 = .ok (.iconst 0, 1) := by decide +kernel
theorem dX8_findWares_29 : decode cX8_findWares 29 = .ok (.istore 4, 2) := by decide +kernel
theorem dX8_findWares_31 : decode cX8_findWares 31 = .ok (.iload 4, 2) := by decide +kernel
theorem dX8_findWares_33 : decode cX8_findWares 33 = .ok (.aload_n 0, 1) := by decide +kernel
theorem dX8_findWares_34 : decode cX8_findWares 34 = .ok (.getfield 19, 3) := by decide +kernel
theorem dX8_findWares_37 : decode cX8_findWares 37 = .ok (.getfield 299, 3) := by decide +kernel
theorem dX8_findWares_40 : decode cX8_findWares 40 = .ok (.if_icmp .ge 69, 3) := by decide +kernel
theorem dX8_findWares_43 : decode cX8_findWares 43 = .ok (.iload_n 1, 1) := by decide +kernel
theorem dX8_findWares_44 : decode cX8_findWares 44 = .ok (.iload_n 2, 1) := by decide +kernel
theorem dX8_findWares_45 : decode cX8_findWares 45 = .ok (.if_icmp .eq 64, 3) := by decide +kernel
theorem dX8_findWares_48 : decode cX8_findWares 48 = .ok (.aload_n 0, 1) := by decide +kernel
theorem dX8_findWares_49 : decode cX8_findWares 49 = .ok (.iload_n 1, 1) := by decide +kernel
theorem dX8_findWares_50 : decode cX8_findWares 50 = .ok (.iload_n 2, 1) := by decide +kernel
theorem dX8_findWares_51 : decode cX8_findWares 51 = .ok (.iload 4, 2) := by decide +kernel
theorem dX8_findWares_53 : decode cX8_findWares 53 = .ok (.iconst 0, 1) := by decide +kernel
theorem dX8_findWares_54 : decode cX8_findWares 54 = .ok (.aload_n 0, 1) := by decide +kernel
theorem dX8_findWares_55 : decode cX8_findWares 55 = .ok (.getfield 39, 3) := by decide +kernel
theorem dX8_findWares_58 : decode cX8_findWares 58 = .ok (.getfield 231, 3) := by decide +kernel
theorem dX8_findWares_61 : decode cX8_findWares 61 = .ok (.invokevirtual 346, 3) := by decide +kernel
theorem dX8_findWares_64 : decode cX8_findWares 64 = .ok (.aload_n 0, 1) := by decide +kernel
theorem dX8_findWares_65 : decode cX8_findWares 65 = .ok (.getfield 19, 3) := by decide +kernel
theorem dX8_findWares_68 : decode cX8_findWares 68 = .ok (.getfield 147, 3) := by decide +kernel
theorem dX8_findWares_71 : decode cX8_findWares 71 = .ok (.iload_n 1, 1) := by decide +kernel
theorem dX8_findWares_72 : decode cX8_findWares 72 = .ok (.iaload, 1) := by decide +kernel
theorem dX8_findWares_73 : decode cX8_findWares 73 = .ok (.iload 4, 2) := by decide +kernel
theorem dX8_findWares_75 : decode cX8_findWares 75 = .ok (.ishr, 1) := by decide +kernel
theorem dX8_findWares_76 : decode cX8_findWares 76 = .ok (.iconst 1, 1) := by decide +kernel
theorem dX8_findWares_77 : decode cX8_findWares 77 = .ok (.iand, 1) := by decide +kernel
theorem dX8_findWares_78 : decode cX8_findWares 78 = .ok (.iconst 1, 1) := by decide +kernel
theorem dX8_findWares_79 : decode cX8_findWares 79 = .ok (.if_icmp .ne 24, 3) := by decide +kernel
theorem dX8_findWares_82 : decode cX8_findWares 82 = .ok (.aload_n 0, 1) := by decide +kernel
theorem dX8_findWares_83 : decode cX8_findWares 83 = .ok (.getfield 29, 3) := by decide +kernel
theorem dX8_findWares_86 : decode cX8_findWares 86 = .ok (.aload_n 0, 1) := by decide +kernel
theorem dX8_findWares_87 : decode cX8_findWares 87 = .ok (.getfield 47, 3) := by decide +kernel
theorem dX8_findWares_90 : decode cX8_findWares 90 = .ok (.invokevirtual 349, 3) := by decide +kernel
theorem dX8_findWares_93 : decode cX8_findWares 93 = .ok (.ifCond .eq 10, 3) := by decide +kernel
theorem dX8_findWares_96 : decode cX8_findWares 96 = .ok (.iload_n 3, 1) := by decide +kernel
theorem dX8_findWares_97 : decode cX8_findWares 97 = .ok (.iconst 1, 1) := by decide +kernel
theorem dX8_findWares_98 : decode cX8_findWares 98 = .ok (.iload 4, 2) := by decide +kernel
theorem dX8_findWares_100 : decode cX8_findWares 100 = .ok (.ishl, 1) := by decide +kernel
theorem dX8_findWares_101 : decode cX8_findWares 101 = .ok (.ior, 1) := by decide +kernel
theorem dX8_findWares_102 : decode cX8_findWares 102 = .ok (.istore_n 3, 1) := by decide +kernel
theorem dX8_findWares_103 : decode cX8_findWares 103 = .ok (.iinc 4 1, 3) := by decide +kernel
theorem dX8_findWares_106 : decode cX8_findWares 106 = .ok (.goto (-75), 3) := by decide +kernel
theorem dX8_findWares_109 : decode cX8_findWares 109 = .ok (.aload_n 0, 1) := by decide +kernel
theorem dX8_findWares_110 : decode cX8_findWares 110 = .ok (.getfield 71, 3) := by decide +kernel
theorem dX8_findWares_113 : decode cX8_findWares 113 = .ok (.iload_n 1, 1) := by decide +kernel
theorem dX8_findWares_114 : decode cX8_findWares 114 = .ok (.bipush 8, 2) := by decide +kernel
theorem dX8_findWares_116 : decode cX8_findWares 116 = .ok (.imul, 1) := by decide +kernel
theorem dX8_findWares_117 : decode cX8_findWares 117 = .ok (.iload_n 2, 1) := by decide +kernel
theorem dX8_findWares_118 : decode cX8_findWares 118 = .ok (.iadd, 1) := by decide +kernel
theorem dX8_findWares_119 : decode cX8_findWares 119 = .ok (.iload_n 3, 1) := by decide +kernel
theorem dX8_findWares_120 : decode cX8_findWares 120 = .ok (.iastore, 1) := by decide +kernel
theorem dX8_findWares_121 : decode cX8_findWares 121 = .ok (.iinc 2 1, 3) := by decide +kernel
theorem dX8_findWares_124 : decode cX8_findWares 124 = .ok (.goto (-109), 3) := by decide +kernel
theorem dX8_findWares_127 : decode cX8_findWares 127 = .ok (.iinc 1 1, 3) := by decide +kernel
theorem dX8_findWares_130 : decode cX8_findWares 130 = .ok (.goto (-128), 3) := by decide +kernel
theorem dX8_findWares_133 : decode cX8_findWares 133 = .ok (.return_, 1) := by decide +kernel
theorem lk_oo_findWares_109 (F : Nat) (v1 : Int32) (v2 : Int32) (v3 : Int32) (K_2 : Int32 → g_St → Option g_St) (hK_2 : ∀ (w1 : Int32) (ν : g_St), g_Go gC 3 yX8_findWares cX8_findWares 5 (none : Option Jvm.ClassFile.FieldType) 2 [some (.ref 0), some (.int w1), none, none, none] [] ν (Option.map o_yv (K_2 w1 ν))) (K_15 : Int32 → g_St → Option g_St) (hK_15 : ∀ (w2 : Int32) (ν : g_St), g_Go gC 3 yX8_findWares cX8_findWares 5 (none : Option Jvm.ClassFile.FieldType) 15 [some (.ref 0), some (.int v1), some (.int w2), none, none] [] ν (Option.map o_yv (K_15 w2 ν))) (μ : g_St) : g_Go gC 3 yX8_findWares cX8_findWares 5 (none : Option Jvm.ClassFile.FieldType) 109 [some (.ref 0), some (.int v1), some (.int v2), some (.int v3), none] [] μ (Option.map o_yv (oo_findWares_109 F K_2 K_15 v1 v2 v3 μ)) := by
  unfold oo_findWares_109
  refine g_aload_n dX8_findWares_109 rfl rfl ?_
  refine g_getS dX8_findWares_110 cf_X8 fl_X8_71 ly_Own_lt ly_Own rfl (Nat.le_of_ble_eq_true rfl) ?_
  refine g_iload_n dX8_findWares_113 rfl rfl ?_
  refine g_bipush dX8_findWares_114 bp_8 ?_
  refine g_imul dX8_findWares_116 ?_
  refine g_iload_n dX8_findWares_117 rfl rfl ?_
  refine g_iadd dX8_findWares_118 ?_
  refine g_iload_n dX8_findWares_119 rfl rfl ?_
  refine w_iast dX8_findWares_120 ly_Own_wares_lt ly_Own_wares (fun μ10 => ?_)
  refine g_iinc (lo2 := [_, _, _, _, _]) dX8_findWares_121 rfl rfl (Nat.le_of_ble_eq_true rfl) rfl rfl ?_
  refine g_goto (tgt := 15) dX8_findWares_124 (by decide) ?_
  exact g_to (hK_15 _ _) (su_s (su_s (su_s (su_n (su_n su_0)))))
theorem lk_oo_findWares_31_b (F : Nat) (v1 : Int32) (v2 : Int32) (K_2 : Int32 → g_St → Option g_St) (hK_2 : ∀ (w1 : Int32) (ν : g_St), g_Go gC 3 yX8_findWares cX8_findWares 5 (none : Option Jvm.ClassFile.FieldType) 2 [some (.ref 0), some (.int w1), none, none, none] [] ν (Option.map o_yv (K_2 w1 ν))) (K_15 : Int32 → g_St → Option g_St) (hK_15 : ∀ (w2 : Int32) (ν : g_St), g_Go gC 3 yX8_findWares cX8_findWares 5 (none : Option Jvm.ClassFile.FieldType) 15 [some (.ref 0), some (.int v1), some (.int w2), none, none] [] ν (Option.map o_yv (K_15 w2 ν))) (K_31 : Int32 → Int32 → g_St → Option g_St) (hK_31 : ∀ (w3 : Int32) (w4 : Int32) (ν : g_St), g_Go gC 3 yX8_findWares cX8_findWares 5 (none : Option Jvm.ClassFile.FieldType) 31 [some (.ref 0), some (.int v1), some (.int v2), some (.int w3), some (.int w4)] [] ν (Option.map o_yv (K_31 w3 w4 ν))) (v3 : Int32) (v4 : Int32) (μ : g_St) : g_Go gC 3 yX8_findWares cX8_findWares 5 (none : Option Jvm.ClassFile.FieldType) 31 [some (.ref 0), some (.int v1), some (.int v2), some (.int v3), some (.int v4)] [] μ (Option.map o_yv (oo_findWares_31_b F v1 v2 K_2 K_15 K_31 v3 v4 μ)) := by
  unfold oo_findWares_31_b
  refine g_iload dX8_findWares_31 rfl ?_
  refine g_aload_n dX8_findWares_33 rfl rfl ?_
  refine w_getql dX8_findWares_34 cf_X8 fl_X8_19 ly_Own_lt ly_Own rfl (Nat.le_of_ble_eq_true rfl) (fun b3 hb3 => ?_)
  refine g_getI dX8_findWares_37 cf_X1 fl_X8_299 (ly_Land_lt hb3) (ly_Land hb3) rfl (Nat.le_of_ble_eq_true rfl) ?_
  refine w_icmp_ge (tgt := 109) dX8_findWares_40 (by decide) ?_ ?_
  · refine g_iload_n dX8_findWares_43 rfl rfl ?_
    refine g_iload_n dX8_findWares_44 rfl rfl ?_
    refine w_icmp_eq (tgt := 109) dX8_findWares_45 (by decide) ?_ ?_
    · exact g_to (lk_oo_findWares_109 F _ _ _ K_2 hK_2 K_15 hK_15 _) (su_s (su_s (su_s (su_s (su_n su_0)))))
    · refine g_aload_n dX8_findWares_48 rfl rfl ?_
      refine g_iload_n dX8_findWares_49 rfl rfl ?_
      refine g_iload_n dX8_findWares_50 rfl rfl ?_
      refine g_iload dX8_findWares_51 rfl ?_
      refine g_iconst dX8_findWares_53 ic_0 ?_
      refine g_aload_n dX8_findWares_54 rfl rfl ?_
      refine g_getS dX8_findWares_55 cf_X8 fl_X8_39 ly_Own_lt ly_Own rfl (Nat.le_of_ble_eq_true rfl) ?_
      refine g_getI dX8_findWares_58 cf_X7 fl_X8_231 (ly_Week_lt (Or.inl rfl)) (ly_Week (Or.inl rfl)) rfl (Nat.le_of_ble_eq_true rfl) ?_
      refine w_Vyv [.int _, .int _, .int _, .int _, .int _] dX8_findWares_61 ml_X8_346 mv_X8_fillFacts mc_X8_fillFacts cf_X8 ly_Own_lt ly_Own rfl (Nat.le_of_ble_eq_true rfl) (Nat.le_of_ble_eq_true rfl) (Nat.le_of_ble_eq_true rfl) rfl (co_oo_fillFacts _ _ _ _ _ _) (fun μ4 => ?_)
      refine g_aload_n dX8_findWares_64 rfl rfl ?_
      refine w_getql dX8_findWares_65 cf_X8 fl_X8_19 ly_Own_lt ly_Own rfl (Nat.le_of_ble_eq_true rfl) (fun b5 hb5 => ?_)
      refine g_getS dX8_findWares_68 cf_X1 fl_X8_147 (ly_Land_lt hb5) (ly_Land hb5) rfl (Nat.le_of_ble_eq_true rfl) ?_
      refine g_iload_n dX8_findWares_71 rfl rfl ?_
      refine w_iald dX8_findWares_72 (ly_Land_makes_lt hb5) (ly_Land_makes hb5) (fun x6 => ?_)
      refine g_iload dX8_findWares_73 rfl ?_
      refine g_ishr dX8_findWares_75 ?_
      refine g_iconst dX8_findWares_76 ic_1 ?_
      refine g_iand dX8_findWares_77 ?_
      refine g_iconst dX8_findWares_78 ic_1 ?_
      refine w_icmp_ne (tgt := 103) dX8_findWares_79 (by decide) ?_ ?_
      · refine g_aload_n dX8_findWares_82 rfl rfl ?_
        refine w_getqr dX8_findWares_83 cf_X8 fl_X8_29 ly_Own_lt ly_Own rfl (Nat.le_of_ble_eq_true rfl) (fun b7 hb7 => ?_)
        refine g_aload_n dX8_findWares_86 rfl rfl ?_
        refine g_getS dX8_findWares_87 cf_X8 fl_X8_47 ly_Own_lt ly_Own rfl (Nat.le_of_ble_eq_true rfl) ?_
        refine w_Vyi [.ref _] dX8_findWares_90 ml_X8_349 mv_X4_allows mc_X4_allows cf_X4 (ly_Rule_lt hb7) (ly_Rule hb7) rfl (Nat.le_of_ble_eq_true rfl) (Nat.le_of_ble_eq_true rfl) (Nat.le_of_ble_eq_true rfl) rfl (co_ou_allows F _ hb7 _) (fun q8 => ?_)
        refine w_if_eq (tgt := 103) dX8_findWares_93 (by decide) ?_ ?_
        · refine g_iinc (lo2 := [_, _, _, _, _]) dX8_findWares_103 rfl rfl (Nat.le_of_ble_eq_true rfl) rfl rfl ?_
          refine g_goto (tgt := 31) dX8_findWares_106 (by decide) ?_
          exact g_to (hK_31 _ _ _) (su_s (su_s (su_s (su_s (su_s su_0)))))
        · refine g_iload_n dX8_findWares_96 rfl rfl ?_
          refine g_iconst dX8_findWares_97 ic_1 ?_
          refine g_iload dX8_findWares_98 rfl ?_
          refine g_ishl dX8_findWares_100 ?_
          refine g_ior dX8_findWares_101 ?_
          refine w_istore_n (lo2 := fun _ => [_, _, _, _, _]) dX8_findWares_102 rfl (Nat.le_of_ble_eq_true rfl) rfl (fun _ => rfl) (fun x9 => ?_)
          refine g_iinc (lo2 := [_, _, _, _, _]) dX8_findWares_103 rfl rfl (Nat.le_of_ble_eq_true rfl) rfl rfl ?_
          refine g_goto (tgt := 31) dX8_findWares_106 (by decide) ?_
          exact g_to (hK_31 _ _ _) (su_s (su_s (su_s (su_s (su_s su_0)))))
      · refine g_iinc (lo2 := [_, _, _, _, _]) dX8_findWares_103 rfl rfl (Nat.le_of_ble_eq_true rfl) rfl rfl ?_
        refine g_goto (tgt := 31) dX8_findWares_106 (by decide) ?_
        exact g_to (hK_31 _ _ _) (su_s (su_s (su_s (su_s (su_s su_0)))))
  · exact g_to (lk_oo_findWares_109 F _ _ _ K_2 hK_2 K_15 hK_15 _) (su_s (su_s (su_s (su_s (su_n su_0)))))
theorem lk_oo_findWares_31 (F : Nat) (v1 : Int32) (v2 : Int32) (K_2 : Int32 → g_St → Option g_St) (hK_2 : ∀ (w1 : Int32) (ν : g_St), g_Go gC 3 yX8_findWares cX8_findWares 5 (none : Option Jvm.ClassFile.FieldType) 2 [some (.ref 0), some (.int w1), none, none, none] [] ν (Option.map o_yv (K_2 w1 ν))) (K_15 : Int32 → g_St → Option g_St) (hK_15 : ∀ (w2 : Int32) (ν : g_St), g_Go gC 3 yX8_findWares cX8_findWares 5 (none : Option Jvm.ClassFile.FieldType) 15 [some (.ref 0), some (.int v1), some (.int w2), none, none] [] ν (Option.map o_yv (K_15 w2 ν))) : ∀ (f : Nat) (v3 : Int32) (v4 : Int32) (μ : g_St) , g_Go gC 3 yX8_findWares cX8_findWares 5 (none : Option Jvm.ClassFile.FieldType) 31 [some (.ref 0), some (.int v1), some (.int v2), some (.int v3), some (.int v4)] [] μ (Option.map o_yv (oo_findWares_31 F v1 v2 K_2 K_15 f v3 v4 μ))
  | 0, v3, v4, μ => g_none
  | f + 1, v3, v4, μ => lk_oo_findWares_31_b F v1 v2 K_2 hK_2 K_15 hK_15 (oo_findWares_31 F v1 v2 K_2 K_15 f) (lk_oo_findWares_31 F v1 v2 K_2 hK_2 K_15 hK_15 f) v3 v4 μ
theorem lk_oo_findWares_15_b (F : Nat) (v1 : Int32) (K_2 : Int32 → g_St → Option g_St) (hK_2 : ∀ (w1 : Int32) (ν : g_St), g_Go gC 3 yX8_findWares cX8_findWares 5 (none : Option Jvm.ClassFile.FieldType) 2 [some (.ref 0), some (.int w1), none, none, none] [] ν (Option.map o_yv (K_2 w1 ν))) (K_15 : Int32 → g_St → Option g_St) (hK_15 : ∀ (w2 : Int32) (ν : g_St), g_Go gC 3 yX8_findWares cX8_findWares 5 (none : Option Jvm.ClassFile.FieldType) 15 [some (.ref 0), some (.int v1), some (.int w2), none, none] [] ν (Option.map o_yv (K_15 w2 ν))) (v2 : Int32) (μ : g_St) : g_Go gC 3 yX8_findWares cX8_findWares 5 (none : Option Jvm.ClassFile.FieldType) 15 [some (.ref 0), some (.int v1), some (.int v2), none, none] [] μ (Option.map o_yv (oo_findWares_15_b F v1 K_2 K_15 v2 μ)) := by
  unfold oo_findWares_15_b
  refine g_iload_n dX8_findWares_15 rfl rfl ?_
  refine g_aload_n dX8_findWares_16 rfl rfl ?_
  refine w_getql dX8_findWares_17 cf_X8 fl_X8_19 ly_Own_lt ly_Own rfl (Nat.le_of_ble_eq_true rfl) (fun b2 hb2 => ?_)
  refine g_getI dX8_findWares_20 cf_X1 fl_X8_228 (ly_Land_lt hb2) (ly_Land hb2) rfl (Nat.le_of_ble_eq_true rfl) ?_
  refine w_icmp_ge (tgt := 127) dX8_findWares_23 (by decide) ?_ ?_
  · refine g_iconst dX8_findWares_26 ic_0 ?_
    refine g_istore_n (lo2 := [_, _, _, _, _]) dX8_findWares_27 rfl (Nat.le_of_ble_eq_true rfl) rfl rfl ?_
    refine g_iconst dX8_findWares_28 ic_0 ?_
    refine g_istore (lo2 := [_, _, _, _, _]) dX8_findWares_29 (Nat.le_of_ble_eq_true rfl) rfl rfl ?_
    exact g_to (lk_oo_findWares_31 F _ _ K_2 hK_2 K_15 hK_15 _ _ _ _) (su_s (su_s (su_s (su_s (su_s su_0)))))
  · refine g_iinc (lo2 := [_, _, _, _, _]) dX8_findWares_127 rfl rfl (Nat.le_of_ble_eq_true rfl) rfl rfl ?_
    refine g_goto (tgt := 2) dX8_findWares_130 (by decide) ?_
    exact g_to (hK_2 _ _) (su_s (su_s (su_n (su_n (su_n su_0)))))
theorem lk_oo_findWares_15 (F : Nat) (v1 : Int32) (K_2 : Int32 → g_St → Option g_St) (hK_2 : ∀ (w1 : Int32) (ν : g_St), g_Go gC 3 yX8_findWares cX8_findWares 5 (none : Option Jvm.ClassFile.FieldType) 2 [some (.ref 0), some (.int w1), none, none, none] [] ν (Option.map o_yv (K_2 w1 ν))) : ∀ (f : Nat) (v2 : Int32) (μ : g_St) , g_Go gC 3 yX8_findWares cX8_findWares 5 (none : Option Jvm.ClassFile.FieldType) 15 [some (.ref 0), some (.int v1), some (.int v2), none, none] [] μ (Option.map o_yv (oo_findWares_15 F v1 K_2 f v2 μ))
  | 0, v2, μ => g_none
  | f + 1, v2, μ => lk_oo_findWares_15_b F v1 K_2 hK_2 (oo_findWares_15 F v1 K_2 f) (lk_oo_findWares_15 F v1 K_2 hK_2 f) v2 μ
theorem lk_oo_findWares_2_b (F : Nat) (K_2 : Int32 → g_St → Option g_St) (hK_2 : ∀ (w1 : Int32) (ν : g_St), g_Go gC 3 yX8_findWares cX8_findWares 5 (none : Option Jvm.ClassFile.FieldType) 2 [some (.ref 0), some (.int w1), none, none, none] [] ν (Option.map o_yv (K_2 w1 ν))) (v1 : Int32) (μ : g_St) : g_Go gC 3 yX8_findWares cX8_findWares 5 (none : Option Jvm.ClassFile.FieldType) 2 [some (.ref 0), some (.int v1), none, none, none] [] μ (Option.map o_yv (oo_findWares_2_b F K_2 v1 μ)) := by
  unfold oo_findWares_2_b
  refine g_iload_n dX8_findWares_2 rfl rfl ?_
  refine g_aload_n dX8_findWares_3 rfl rfl ?_
  refine w_getql dX8_findWares_4 cf_X8 fl_X8_19 ly_Own_lt ly_Own rfl (Nat.le_of_ble_eq_true rfl) (fun b1 hb1 => ?_)
  refine g_getI dX8_findWares_7 cf_X1 fl_X8_228 (ly_Land_lt hb1) (ly_Land hb1) rfl (Nat.le_of_ble_eq_true rfl) ?_
  refine w_icmp_ge (tgt := 133) dX8_findWares_10 (by decide) ?_ ?_
  · refine g_iconst dX8_findWares_13 ic_0 ?_
    refine g_istore_n (lo2 := [_, _, _, _, _]) dX8_findWares_14 rfl (Nat.le_of_ble_eq_true rfl) rfl rfl ?_
    exact g_to (lk_oo_findWares_15 F _ K_2 hK_2 _ _ _) (su_s (su_s (su_s (su_n (su_n su_0)))))
  · exact w_vret dX8_findWares_133 rfl rfl
theorem lk_oo_findWares_2 (F : Nat) : ∀ (f : Nat) (v1 : Int32) (μ : g_St) , g_Go gC 3 yX8_findWares cX8_findWares 5 (none : Option Jvm.ClassFile.FieldType) 2 [some (.ref 0), some (.int v1), none, none, none] [] μ (Option.map o_yv (oo_findWares_2 F f v1 μ))
  | 0, v1, μ => g_none
  | f + 1, v1, μ => lk_oo_findWares_2_b F (oo_findWares_2 F f) (lk_oo_findWares_2 F f) v1 μ
theorem lk_oo_findWares (F : Nat) (μ : g_St) : g_Go gC 3 yX8_findWares cX8_findWares 5 (none : Option Jvm.ClassFile.FieldType) 0 [some (.ref 0), none, none, none, none] [] μ (Option.map o_yv (oo_findWares F μ)) := by
  unfold oo_findWares
  refine g_iconst dX8_findWares_0 ic_0 ?_
  refine g_istore_n (lo2 := [_, _, _, _, _]) dX8_findWares_1 rfl (Nat.le_of_ble_eq_true rfl) rfl rfl ?_
  exact g_to (lk_oo_findWares_2 F _ _ _) (su_s (su_s (su_n (su_n (su_n su_0)))))
theorem co_oo_findWares (F : Nat) (μ : g_St) : g_Con gC 3 yX8_findWares cX8_findWares 5 (none : Option Jvm.ClassFile.FieldType) [.ref 0] μ (g_yv (oo_findWares F μ)) := g_conOf mc_X8_findWares.2.2.2.2 (Nat.le_of_ble_eq_true rfl) rfl g_yv_rk (lk_oo_findWares F μ)
theorem dX8_nthBit_0 : decode cX8_nthBit 0 = .ok (.iload_n 0, 1) := by decide +kernel
theorem dX8_nthBit_1 : decode cX8_nthBit 1 = .ok (.istore_n 2, 1) := by decide +kernel
theorem dX8_nthBit_2 : decode cX8_nthBit 2 = .ok (.iconst 0, 1) := by decide +kernel
theorem dX8_nthBit_3 : decode cX8_nthBit 3 = .ok (.istore_n 3, 1) := by decide +kernel
theorem dX8_nthBit_4 : decode cX8_nthBit 4 = .ok (.iload_n 3, 1) := by decide +kernel
theorem dX8_nthBit_5 : decode cX8_nthBit 5 = .ok (.iload_n 1, 1) := by decide +kernel
theorem dX8_nthBit_6 : decode cX8_nthBit 6 = .ok (.if_icmp .ge 15, 3) := by decide +kernel
theorem dX8_nthBit_9 : decode cX8_nthBit 9 = .ok (.iload_n 2, 1) := by decide +kernel
theorem dX8_nthBit_10 : decode cX8_nthBit 10 = .ok (.iload_n 2, 1) := by decide +kernel
theorem dX8_nthBit_11 : decode cX8_nthBit 11 = .ok (.iconst 1, 1) := by decide +kernel
theorem dX8_nthBit_12 : decode cX8_nthBit 12 = .ok (.isub, 1) := by decide +kernel
theorem dX8_nthBit_13 : decode cX8_nthBit 13 = .ok (.iand, 1) := by decide +kernel
theorem dX8_nthBit_14 : decode cX8_nthBit 14 = .ok (.istore_n 2, 1) := by decide +kernel
theorem dX8_nthBit_15 : decode cX8_nthBit 15 = .ok (.iinc 3 1, 3) := by decide +kernel
theorem dX8_nthBit_18 : decode cX8_nthBit 18 = .ok (.goto (-14), 3) := by decide +kernel
theorem dX8_nthBit_21 : decode cX8_nthBit 21 = .ok (.iload_n 2, 1) := by decide +kernel
theorem dX8_nthBit_22 : decode cX8_nthBit 22 = .ok (.invokestatic 394, 3) := by decide +kernel
theorem dX8_nthBit_25 : decode cX8_nthBit 25 = .ok (.ireturn, 1) := by decide +kernel
theorem lk_oo_nthBit_4_b (F : Nat) (μ : g_St) (v1 : Int32) (K_4 : Int32 → Int32 → Option Int32) (hK_4 : ∀ (w2 : Int32) (w3 : Int32), g_Go gC 1 yX8_nthBit cX8_nthBit 4 (some .int) 4 [none, some (.int v1), some (.int w2), some (.int w3)] [] μ (Option.map (o_i μ) (K_4 w2 w3))) (v2 : Int32) (v3 : Int32) : g_Go gC 1 yX8_nthBit cX8_nthBit 4 (some .int) 4 [none, some (.int v1), some (.int v2), some (.int v3)] [] μ (Option.map (o_i μ) (oo_nthBit_4_b F μ v1 K_4 v2 v3 )) := by
  unfold oo_nthBit_4_b
  refine g_iload_n dX8_nthBit_4 rfl rfl ?_
  refine g_iload_n dX8_nthBit_5 rfl rfl ?_
  refine w_icmp_ge (tgt := 21) dX8_nthBit_6 (by decide) ?_ ?_
  · refine g_iload_n dX8_nthBit_9 rfl rfl ?_
    refine g_iload_n dX8_nthBit_10 rfl rfl ?_
    refine g_iconst dX8_nthBit_11 ic_1 ?_
    refine g_isub dX8_nthBit_12 ?_
    refine g_iand dX8_nthBit_13 ?_
    refine g_istore_n (lo2 := [_, _, _, _]) dX8_nthBit_14 rfl (Nat.le_of_ble_eq_true rfl) rfl rfl ?_
    refine g_iinc (lo2 := [_, _, _, _]) dX8_nthBit_15 rfl rfl (Nat.le_of_ble_eq_true rfl) rfl rfl ?_
    refine g_goto (tgt := 4) dX8_nthBit_18 (by decide) ?_
    exact g_to (hK_4 _ _) (su_n (su_s (su_s (su_s su_0))))
  · refine g_iload_n dX8_nthBit_21 rfl rfl ?_
    refine w_Sxi [.int _] dX8_nthBit_22 ml_X8_394 ms_J6_numberOfTrailingZeros_0f7a4 mc_J6_numberOfTrailingZeros_0f7a4 rfl (Nat.le_of_ble_eq_true rfl) (Nat.le_of_ble_eq_true rfl) (Nat.le_of_ble_eq_true rfl) rfl (co_jj_numberOfTrailingZeros gC _ _) (fun x1 => ?_)
    exact w_iret dX8_nthBit_25 rfl rfl
theorem lk_oo_nthBit_4 (F : Nat) (μ : g_St) (v1 : Int32) : ∀ (f : Nat) (v2 : Int32) (v3 : Int32) , g_Go gC 1 yX8_nthBit cX8_nthBit 4 (some .int) 4 [none, some (.int v1), some (.int v2), some (.int v3)] [] μ (Option.map (o_i μ) (oo_nthBit_4 F μ v1 f v2 v3 ))
  | 0, v2, v3 => g_none
  | f + 1, v2, v3 => lk_oo_nthBit_4_b F μ v1 (oo_nthBit_4 F μ v1 f) (lk_oo_nthBit_4 F μ v1 f) v2 v3 
theorem lk_oo_nthBit (F : Nat) (μ : g_St) (v0 : Int32) (v1 : Int32) : g_Go gC 1 yX8_nthBit cX8_nthBit 4 (some .int) 0 [some (.int v0), some (.int v1), none, none] [] μ (Option.map (o_i μ) (oo_nthBit F μ v0 v1)) := by
  unfold oo_nthBit
  refine g_iload_n dX8_nthBit_0 rfl rfl ?_
  refine g_istore_n (lo2 := [_, _, _, _]) dX8_nthBit_1 rfl (Nat.le_of_ble_eq_true rfl) rfl rfl ?_
  refine g_iconst dX8_nthBit_2 ic_0 ?_
  refine g_istore_n (lo2 := [_, _, _, _]) dX8_nthBit_3 rfl (Nat.le_of_ble_eq_true rfl) rfl rfl ?_
  exact g_to (lk_oo_nthBit_4 F μ _ _ _ _) (su_n (su_s (su_s (su_s su_0))))
theorem co_oo_nthBit (F : Nat) (μ : g_St) (v0 : Int32) (v1 : Int32) : g_Con gC 1 yX8_nthBit cX8_nthBit 4 (some .int) [.int v0, .int v1] μ (g_xi μ (oo_nthBit F μ v0 v1)) := g_conOf mc_X8_nthBit.2.2.2.2 (Nat.le_of_ble_eq_true rfl) rfl (g_xi_rk (Or.inl rfl)) (lk_oo_nthBit F μ v0 v1)
theorem dX8_drawWeek_0 : decode cX8_drawWeek 0 = .ok (.lload_n 1, 1) := by decide +kernel
theorem dX8_drawWeek_1 : decode cX8_drawWeek 1 = .ok (.lstore_n 3, 1) := by decide +kernel
theorem dX8_drawWeek_2 : decode cX8_drawWeek 2 = .ok (.aload_n 0, 1) := by decide +kernel
theorem dX8_drawWeek_3 : decode cX8_drawWeek 3 = .ok (.getfield 58, 3) := by decide +kernel
theorem dX8_drawWeek_6 : decode cX8_drawWeek 6 = .ok (.invokevirtual 356, 3) := by decide +kernel
theorem dX8_drawWeek_9 : decode cX8_drawWeek 9 = .ok (.iconst 0, 1) := by decide +kernel
theorem dX8_drawWeek_10 : decode cX8_drawWeek 10 = .ok (.istore 5, 2) := by decide +kernel
theorem dX8_drawWeek_12 : decode cX8_drawWeek 12 = .ok (.iload 5, 2) := by decide +kernel
theorem dX8_drawWeek_14 : decode cX8_drawWeek 14 = .ok (.aload_n 0, 1) := by decide +kernel
theorem dX8_drawWeek_15 : decode cX8_drawWeek 15 = .ok (.getfield 19, 3) := by decide +kernel
theorem dX8_drawWeek_18 : decode cX8_drawWeek 18 = .ok (.getfield 228, 3) := by decide +kernel
theorem dX8_drawWeek_21 : decode cX8_drawWeek 21 = .ok (.if_icmp .ge 129, 3) := by decide +kernel
theorem dX8_drawWeek_24 : decode cX8_drawWeek 24 = .ok (.aload_n 0, 1) := by decide +kernel
theorem dX8_drawWeek_25 : decode cX8_drawWeek 25 = .ok (.getfield 19, 3) := by decide +kernel
theorem dX8_drawWeek_28 : decode cX8_drawWeek 28 = .ok (.getfield 147, 3) := by decide +kernel
theorem dX8_drawWeek_31 : decode cX8_drawWeek 31 = .ok (.iload 5, 2) := by decide +kernel
theorem dX8_drawWeek_33 : decode cX8_drawWeek 33 = .ok (.iaload, 1) := by decide +kernel
theorem dX8_drawWeek_34 : decode cX8_drawWeek 34 = .ok (.invokestatic 271, 3) := by decide +kernel
theorem dX8_drawWeek_37 : decode cX8_drawWeek 37 = .ok (.istore 6, 2) := by decide +kernel
theorem dX8_drawWeek_39 : decode cX8_drawWeek 39 = .ok (.iload 6, 2) := by decide +kernel
theorem dX8_drawWeek_41 : decode cX8_drawWeek 41 = .ok (.ifCond .le 103, 3) := by decide +kernel
theorem dX8_drawWeek_44 : decode cX8_drawWeek 44 = .ok (.lload_n 3, 1) := by decide +kernel
theorem dX8_drawWeek_45 : decode cX8_drawWeek 45 = .ok (.ldc2_w 383, 3) := by decide +kernel
theorem dX8_drawWeek_48 : decode cX8_drawWeek 48 = .ok (.lmul, 1) := by decide +kernel
theorem dX8_drawWeek_49 : decode cX8_drawWeek 49 = .ok (.ldc2_w 385, 3) := by decide +kernel
theorem dX8_drawWeek_52 : decode cX8_drawWeek 52 = .ok (.ladd, 1) := by decide +kernel
theorem dX8_drawWeek_53 : decode cX8_drawWeek 53 = .ok (.ldc2_w 387, 3) := by decide +kernel
theorem dX8_drawWeek_56 : decode cX8_drawWeek 56 = .ok (.lrem, 1) := by decide +kernel
theorem dX8_drawWeek_57 : decode cX8_drawWeek 57 = .ok (.lstore_n 3, 1) := by decide +kernel
theorem dX8_drawWeek_58 : decode cX8_drawWeek 58 = .ok (.aload_n 0, 1) := by decide +kernel
theorem dX8_drawWeek_59 : decode cX8_drawWeek 59 = .ok (.getfield 19, 3) := by decide +kernel
theorem dX8_drawWeek_62 : decode cX8_drawWeek 62 = .ok (.getfield 147, 3) := by decide +kernel
theorem dX8_drawWeek_65 : decode cX8_drawWeek 65 = .ok (.iload 5, 2) := by decide +kernel
theorem dX8_drawWeek_67 : decode cX8_drawWeek 67 = .ok (.iaload, 1) := by decide +kernel
theorem dX8_drawWeek_68 : decode cX8_drawWeek 68 = .ok (.lload_n 3, 1) := by decide +kernel
theorem dX8_drawWeek_69 : decode cX8_drawWeek 69 = .ok (.ldc2_w 389, 3) := by decide +kernel
theorem dX8_drawWeek_72 : decode cX8_drawWeek 72 = .ok (.ldiv, 1) := by decide +kernel
theorem dX8_drawWeek_73 : decode cX8_drawWeek 73 = .ok (.iload 6, 2) := by decide +kernel
theorem dX8_drawWeek_75 : decode cX8_drawWeek 75 = .ok (.i2l, 1) := by decide +kernel
theorem dX8_drawWeek_76 : decode cX8_drawWeek 76 = .ok (.lrem, 1) := by decide +kernel
theorem dX8_drawWeek_77 : decode cX8_drawWeek 77 = .ok (.l2i, 1) := by decide +kernel
theorem dX8_drawWeek_78 : decode cX8_drawWeek 78 = .ok (.invokestatic 391, 3) := by decide +kernel
theorem dX8_drawWeek_81 : decode cX8_drawWeek 81 = .ok (.istore 7, 2) := by decide +kernel
theorem dX8_drawWeek_83 : decode cX8_drawWeek 83 = .ok (.aload_n 0, 1) := by decide +kernel
theorem dX8_drawWeek_84 : decode cX8_drawWeek 84 = .ok (.getfield 58, 3) := by decide +kernel
theorem dX8_drawWeek_87 : decode cX8_drawWeek 87 = .ok (.iload 5, 2) := by decide +kernel
theorem dX8_drawWeek_89 : decode cX8_drawWeek 89 = .ok (.iload 7, 2) := by decide +kernel
theorem dX8_drawWeek_91 : decode cX8_drawWeek 91 = .ok (.invokevirtual 359, 3) := by decide +kernel
theorem dX8_drawWeek_94 : decode cX8_drawWeek 94 = .ok (.iconst 0, 1) := by decide +kernel
theorem dX8_drawWeek_95 : decode cX8_drawWeek 95 = .ok (.istore 8, 2) := by decide +kernel
theorem dX8_drawWeek_97 : decode cX8_drawWeek 97 = .ok (.iload 8, 2) := by decide +kernel
theorem dX8_drawWeek_99 : decode cX8_drawWeek 99 = .ok (.aload_n 0, 1) := by decide +kernel
theorem dX8_drawWeek_100 : decode cX8_drawWeek 100 = .ok (.getfield 19, 3) := by decide +kernel
theorem dX8_drawWeek_103 : decode cX8_drawWeek 103 = .ok (.getfield 228, 3) := by decide +kernel
theorem dX8_drawWeek_106 : decode cX8_drawWeek 106 = .ok (.if_icmp .ge 38, 3) := by decide +kernel
theorem dX8_drawWeek_109 : decode cX8_drawWeek 109 = .ok (.aload_n 0, 1) := by decide +kernel
theorem dX8_drawWeek_110 : decode cX8_drawWeek 110 = .ok (.getfield 58, 3) := by decide +kernel
theorem dX8_drawWeek_113 : decode cX8_drawWeek 113 = .ok (.iload 5, 2) := by decide +kernel
theorem dX8_drawWeek_115 : decode cX8_drawWeek 115 = .ok (.iload 8, 2) := by decide +kernel
theorem dX8_drawWeek_117 : decode cX8_drawWeek 117 = .ok (.aload_n 0, 1) := by decide +kernel
theorem dX8_drawWeek_118 : decode cX8_drawWeek 118 = .ok (.getfield 71, 3) := by decide +kernel
theorem dX8_drawWeek_121 : decode cX8_drawWeek 121 = .ok (.iload 5, 2) := by decide +kernel
theorem dX8_drawWeek_123 : decode cX8_drawWeek 123 = .ok (.bipush 8, 2) := by decide +kernel
theorem dX8_drawWeek_125 : decode cX8_drawWeek 125 = .ok (.imul, 1) := by decide +kernel
theorem dX8_drawWeek_126 : decode cX8_drawWeek 126 = .ok (.iload 8, 2) := by decide +kernel
theorem dX8_drawWeek_128 : decode cX8_drawWeek 128 = .ok (.iadd, 1) := by decide +kernel
theorem dX8_drawWeek_129 : decode cX8_drawWeek 129 = .ok (.iaload, 1) := by decide +kernel
theorem dX8_drawWeek_130 : decode cX8_drawWeek 130 = .ok (.iconst 1, 1) := by decide +kernel
theorem dX8_drawWeek_131 : decode cX8_drawWeek 131 = .ok (.iload 7, 2) := by decide +kernel
theorem dX8_drawWeek_133 : decode cX8_drawWeek 133 = .ok (.ishl, 1) := by decide +kernel
theorem dX8_drawWeek_134 : decode cX8_drawWeek 134 = .ok (.iand, 1) := by decide +kernel
theorem dX8_drawWeek_135 : decode cX8_drawWeek 135 = .ok (.invokevirtual 365, 3) := by decide +kernel
theorem dX8_drawWeek_138 : decode cX8_drawWeek 138 = .ok (.iinc 8 1, 3) := by decide +kernel
theorem dX8_drawWeek_141 : decode cX8_drawWeek 141 = .ok (.goto (-44), 3) := by decide +kernel
theorem dX8_drawWeek_144 : decode cX8_drawWeek 144 = .ok (.iinc 5 1, 3) := by decide +kernel
theorem dX8_drawWeek_147 : decode cX8_drawWeek 147 = .ok (.goto (-135), 3) := by decide +kernel
theorem dX8_drawWeek_150 : decode cX8_drawWeek 150 = .ok (.aload_n 0, 1) := by decide +kernel
theorem dX8_drawWeek_151 : decode cX8_drawWeek 151 = .ok (.getfield 58, 3) := by decide +kernel
theorem dX8_drawWeek_154 : decode cX8_drawWeek 154 = .ok (.aload_n 0, 1) := by decide +kernel
theorem dX8_drawWeek_155 : decode cX8_drawWeek 155 = .ok (.getfield 19, 3) := by decide +kernel
theorem dX8_drawWeek_158 : decode cX8_drawWeek 158 = .ok (.aload_n 0, 1) := by decide +kernel
theorem dX8_drawWeek_159 : decode cX8_drawWeek 159 = .ok (.invokevirtual 244, 3) := by decide +kernel
theorem dX8_drawWeek_162 : decode cX8_drawWeek 162 = .ok (.invokevirtual 368, 3) := by decide +kernel
theorem dX8_drawWeek_165 : decode cX8_drawWeek 165 = .ok (.lload_n 3, 1) := by decide +kernel
theorem dX8_drawWeek_166 : decode cX8_drawWeek 166 = .ok (.lreturn, 1) := by decide +kernel
theorem lk_oo_drawWeek_97_b (F : Nat) (v3 : Int64) (v5 : Int32) (v7 : Int32) (K_12 : Int64 → Int32 → g_St → Option (Int64 × g_St)) (hK_12 : ∀ (w3 : Int64) (w5 : Int32) (ν : g_St), g_Go gC 14 yX8_drawWeek cX8_drawWeek 9 (some .long) 12 [some (.ref 0), none, none, some (.long w3), none, some (.int w5), none, none, none] [] ν (Option.map o_yl (K_12 w3 w5 ν))) (K_97 : Int32 → g_St → Option (Int64 × g_St)) (hK_97 : ∀ (w8 : Int32) (ν : g_St), g_Go gC 14 yX8_drawWeek cX8_drawWeek 9 (some .long) 97 [some (.ref 0), none, none, some (.long v3), none, some (.int v5), none, some (.int v7), some (.int w8)] [] ν (Option.map o_yl (K_97 w8 ν))) (v8 : Int32) (μ : g_St) : g_Go gC 14 yX8_drawWeek cX8_drawWeek 9 (some .long) 97 [some (.ref 0), none, none, some (.long v3), none, some (.int v5), none, some (.int v7), some (.int v8)] [] μ (Option.map o_yl (oo_drawWeek_97_b F v3 v5 v7 K_12 K_97 v8 μ)) := by
  unfold oo_drawWeek_97_b
  refine g_iload dX8_drawWeek_97 rfl ?_
  refine g_aload_n dX8_drawWeek_99 rfl rfl ?_
  refine w_getql dX8_drawWeek_100 cf_X8 fl_X8_19 ly_Own_lt ly_Own rfl (Nat.le_of_ble_eq_true rfl) (fun b13 hb13 => ?_)
  refine g_getI dX8_drawWeek_103 cf_X1 fl_X8_228 (ly_Land_lt hb13) (ly_Land hb13) rfl (Nat.le_of_ble_eq_true rfl) ?_
  refine w_icmp_ge (tgt := 144) dX8_drawWeek_106 (by decide) ?_ ?_
  · refine g_aload_n dX8_drawWeek_109 rfl rfl ?_
    refine g_getS dX8_drawWeek_110 cf_X8 fl_X8_58 ly_Own_lt ly_Own rfl (Nat.le_of_ble_eq_true rfl) ?_
    refine g_iload dX8_drawWeek_113 rfl ?_
    refine g_iload dX8_drawWeek_115 rfl ?_
    refine g_aload_n dX8_drawWeek_117 rfl rfl ?_
    refine g_getS dX8_drawWeek_118 cf_X8 fl_X8_71 ly_Own_lt ly_Own rfl (Nat.le_of_ble_eq_true rfl) ?_
    refine g_iload dX8_drawWeek_121 rfl ?_
    refine g_bipush dX8_drawWeek_123 bp_8 ?_
    refine g_imul dX8_drawWeek_125 ?_
    refine g_iload dX8_drawWeek_126 rfl ?_
    refine g_iadd dX8_drawWeek_128 ?_
    refine w_iald dX8_drawWeek_129 ly_Own_wares_lt ly_Own_wares (fun x14 => ?_)
    refine g_iconst dX8_drawWeek_130 ic_1 ?_
    refine g_iload dX8_drawWeek_131 rfl ?_
    refine g_ishl dX8_drawWeek_133 ?_
    refine g_iand dX8_drawWeek_134 ?_
    refine w_Vyv [.int _, .int _, .int _] dX8_drawWeek_135 ml_X8_365 mv_X3_allow mc_X3_allow cf_X3 (ly_Rounds_lt (Or.inr rfl)) (ly_Rounds (Or.inr rfl)) rfl (Nat.le_of_ble_eq_true rfl) (Nat.le_of_ble_eq_true rfl) (Nat.le_of_ble_eq_true rfl) rfl (co_og_allow _ (Or.inr rfl) _ _ _ _) (fun μ15 => ?_)
    refine g_iinc (lo2 := [_, _, _, _, _, _, _, _, _]) dX8_drawWeek_138 rfl rfl (Nat.le_of_ble_eq_true rfl) rfl rfl ?_
    refine g_goto (tgt := 97) dX8_drawWeek_141 (by decide) ?_
    exact g_to (hK_97 _ _) (su_s (su_n (su_n (su_s (su_n (su_s (su_n (su_s (su_s su_0)))))))))
  · refine g_iinc (lo2 := [_, _, _, _, _, _, _, _, _]) dX8_drawWeek_144 rfl rfl (Nat.le_of_ble_eq_true rfl) rfl rfl ?_
    refine g_goto (tgt := 12) dX8_drawWeek_147 (by decide) ?_
    exact g_to (hK_12 _ _ _) (su_s (su_n (su_n (su_s (su_n (su_s (su_n (su_n (su_n su_0)))))))))
theorem lk_oo_drawWeek_97 (F : Nat) (v3 : Int64) (v5 : Int32) (v7 : Int32) (K_12 : Int64 → Int32 → g_St → Option (Int64 × g_St)) (hK_12 : ∀ (w3 : Int64) (w5 : Int32) (ν : g_St), g_Go gC 14 yX8_drawWeek cX8_drawWeek 9 (some .long) 12 [some (.ref 0), none, none, some (.long w3), none, some (.int w5), none, none, none] [] ν (Option.map o_yl (K_12 w3 w5 ν))) : ∀ (f : Nat) (v8 : Int32) (μ : g_St) , g_Go gC 14 yX8_drawWeek cX8_drawWeek 9 (some .long) 97 [some (.ref 0), none, none, some (.long v3), none, some (.int v5), none, some (.int v7), some (.int v8)] [] μ (Option.map o_yl (oo_drawWeek_97 F v3 v5 v7 K_12 f v8 μ))
  | 0, v8, μ => g_none
  | f + 1, v8, μ => lk_oo_drawWeek_97_b F v3 v5 v7 K_12 hK_12 (oo_drawWeek_97 F v3 v5 v7 K_12 f) (lk_oo_drawWeek_97 F v3 v5 v7 K_12 hK_12 f) v8 μ
theorem lk_oo_drawWeek_12_b (F : Nat) (K_12 : Int64 → Int32 → g_St → Option (Int64 × g_St)) (hK_12 : ∀ (w3 : Int64) (w5 : Int32) (ν : g_St), g_Go gC 14 yX8_drawWeek cX8_drawWeek 9 (some .long) 12 [some (.ref 0), none, none, some (.long w3), none, some (.int w5), none, none, none] [] ν (Option.map o_yl (K_12 w3 w5 ν))) (v3 : Int64) (v5 : Int32) (μ : g_St) : g_Go gC 14 yX8_drawWeek cX8_drawWeek 9 (some .long) 12 [some (.ref 0), none, none, some (.long v3), none, some (.int v5), none, none, none] [] μ (Option.map o_yl (oo_drawWeek_12_b F K_12 v3 v5 μ)) := by
  unfold oo_drawWeek_12_b
  refine g_iload dX8_drawWeek_12 rfl ?_
  refine g_aload_n dX8_drawWeek_14 rfl rfl ?_
  refine w_getql dX8_drawWeek_15 cf_X8 fl_X8_19 ly_Own_lt ly_Own rfl (Nat.le_of_ble_eq_true rfl) (fun b2 hb2 => ?_)
  refine g_getI dX8_drawWeek_18 cf_X1 fl_X8_228 (ly_Land_lt hb2) (ly_Land hb2) rfl (Nat.le_of_ble_eq_true rfl) ?_
  refine w_icmp_ge (tgt := 150) dX8_drawWeek_21 (by decide) ?_ ?_
  · refine g_aload_n dX8_drawWeek_24 rfl rfl ?_
    refine w_getql dX8_drawWeek_25 cf_X8 fl_X8_19 ly_Own_lt ly_Own rfl (Nat.le_of_ble_eq_true rfl) (fun b3 hb3 => ?_)
    refine g_getS dX8_drawWeek_28 cf_X1 fl_X8_147 (ly_Land_lt hb3) (ly_Land hb3) rfl (Nat.le_of_ble_eq_true rfl) ?_
    refine g_iload dX8_drawWeek_31 rfl ?_
    refine w_iald dX8_drawWeek_33 (ly_Land_makes_lt hb3) (ly_Land_makes hb3) (fun x4 => ?_)
    refine w_Sxi [.int _] dX8_drawWeek_34 ml_X8_271 ms_J6_bitCount_0f7a4 mc_J6_bitCount_0f7a4 rfl (Nat.le_of_ble_eq_true rfl) (Nat.le_of_ble_eq_true rfl) (Nat.le_of_ble_eq_true rfl) rfl (co_jj_bitCount gC _ _) (fun x5 => ?_)
    refine g_istore (lo2 := [_, _, _, _, _, _, _, _, _]) dX8_drawWeek_37 (Nat.le_of_ble_eq_true rfl) rfl rfl ?_
    refine g_iload dX8_drawWeek_39 rfl ?_
    refine w_if_le (tgt := 144) dX8_drawWeek_41 (by decide) ?_ ?_
    · refine g_lload_n dX8_drawWeek_44 rfl rfl ?_
      refine g_ldc2 dX8_drawWeek_45 kl_X8_383 ?_
      refine g_lmul dX8_drawWeek_48 ?_
      refine g_ldc2 dX8_drawWeek_49 kl_X8_385 ?_
      refine g_ladd dX8_drawWeek_52 ?_
      refine g_ldc2 dX8_drawWeek_53 kl_X8_387 ?_
      refine w_lrem dX8_drawWeek_56 (fun x6 => ?_)
      refine g_lstore_n (lo2 := [_, _, _, _, _, _, _, _, _]) dX8_drawWeek_57 rfl (Nat.le_of_ble_eq_true rfl) rfl rfl ?_
      refine g_aload_n dX8_drawWeek_58 rfl rfl ?_
      refine w_getql dX8_drawWeek_59 cf_X8 fl_X8_19 ly_Own_lt ly_Own rfl (Nat.le_of_ble_eq_true rfl) (fun b7 hb7 => ?_)
      refine g_getS dX8_drawWeek_62 cf_X1 fl_X8_147 (ly_Land_lt hb7) (ly_Land hb7) rfl (Nat.le_of_ble_eq_true rfl) ?_
      refine g_iload dX8_drawWeek_65 rfl ?_
      refine w_iald dX8_drawWeek_67 (ly_Land_makes_lt hb7) (ly_Land_makes hb7) (fun x8 => ?_)
      refine g_lload_n dX8_drawWeek_68 rfl rfl ?_
      refine g_ldc2 dX8_drawWeek_69 kl_X8_389 ?_
      refine w_ldiv dX8_drawWeek_72 (fun x9 => ?_)
      refine g_iload dX8_drawWeek_73 rfl ?_
      refine g_i2l dX8_drawWeek_75 ?_
      refine w_lrem dX8_drawWeek_76 (fun x10 => ?_)
      refine g_l2i dX8_drawWeek_77 ?_
      refine w_Sxi [.int _, .int _] dX8_drawWeek_78 ml_X8_391 ms_X8_nthBit mc_X8_nthBit rfl (Nat.le_of_ble_eq_true rfl) (Nat.le_of_ble_eq_true rfl) (Nat.le_of_ble_eq_true rfl) rfl (co_oo_nthBit F _ _ _) (fun x11 => ?_)
      refine g_istore (lo2 := [_, _, _, _, _, _, _, _, _]) dX8_drawWeek_81 (Nat.le_of_ble_eq_true rfl) rfl rfl ?_
      refine g_aload_n dX8_drawWeek_83 rfl rfl ?_
      refine g_getS dX8_drawWeek_84 cf_X8 fl_X8_58 ly_Own_lt ly_Own rfl (Nat.le_of_ble_eq_true rfl) ?_
      refine g_iload dX8_drawWeek_87 rfl ?_
      refine g_iload dX8_drawWeek_89 rfl ?_
      refine w_Vyv [.int _, .int _] dX8_drawWeek_91 ml_X8_359 mv_X3_hold mc_X3_hold cf_X3 (ly_Rounds_lt (Or.inr rfl)) (ly_Rounds (Or.inr rfl)) rfl (Nat.le_of_ble_eq_true rfl) (Nat.le_of_ble_eq_true rfl) (Nat.le_of_ble_eq_true rfl) rfl (co_og_hold _ (Or.inr rfl) _ _ _) (fun μ12 => ?_)
      refine g_iconst dX8_drawWeek_94 ic_0 ?_
      refine g_istore (lo2 := [_, _, _, _, _, _, _, _, _]) dX8_drawWeek_95 (Nat.le_of_ble_eq_true rfl) rfl rfl ?_
      exact g_to (lk_oo_drawWeek_97 F _ _ _ K_12 hK_12 _ _ _) (su_s (su_n (su_n (su_s (su_n (su_s (su_n (su_s (su_s su_0)))))))))
    · refine g_iinc (lo2 := [_, _, _, _, _, _, _, _, _]) dX8_drawWeek_144 rfl rfl (Nat.le_of_ble_eq_true rfl) rfl rfl ?_
      refine g_goto (tgt := 12) dX8_drawWeek_147 (by decide) ?_
      exact g_to (hK_12 _ _ _) (su_s (su_n (su_n (su_s (su_n (su_s (su_n (su_n (su_n su_0)))))))))
  · refine g_aload_n dX8_drawWeek_150 rfl rfl ?_
    refine g_getS dX8_drawWeek_151 cf_X8 fl_X8_58 ly_Own_lt ly_Own rfl (Nat.le_of_ble_eq_true rfl) ?_
    refine g_aload_n dX8_drawWeek_154 rfl rfl ?_
    refine w_getql dX8_drawWeek_155 cf_X8 fl_X8_19 ly_Own_lt ly_Own rfl (Nat.le_of_ble_eq_true rfl) (fun b16 hb16 => ?_)
    refine g_aload_n dX8_drawWeek_158 rfl rfl ?_
    refine w_Vxi [] dX8_drawWeek_159 ml_X8_244 mv_X8_everybody mc_X8_everybody cf_X8 ly_Own_lt ly_Own rfl (Nat.le_of_ble_eq_true rfl) (Nat.le_of_ble_eq_true rfl) (Nat.le_of_ble_eq_true rfl) rfl (co_oo_everybody _) (fun x17 => ?_)
    refine w_Vyv [.ref _, .int _] dX8_drawWeek_162 ml_X8_368 mv_X3_find mc_X3_find cf_X3 (ly_Rounds_lt (Or.inr rfl)) (ly_Rounds (Or.inr rfl)) rfl (Nat.le_of_ble_eq_true rfl) (Nat.le_of_ble_eq_true rfl) (Nat.le_of_ble_eq_true rfl) rfl (co_og_find F _ (Or.inr rfl) _ hb16 _ _) (fun μ18 => ?_)
    refine g_lload_n dX8_drawWeek_165 rfl rfl ?_
    exact w_lret dX8_drawWeek_166 rfl rfl
theorem lk_oo_drawWeek_12 (F : Nat) : ∀ (f : Nat) (v3 : Int64) (v5 : Int32) (μ : g_St) , g_Go gC 14 yX8_drawWeek cX8_drawWeek 9 (some .long) 12 [some (.ref 0), none, none, some (.long v3), none, some (.int v5), none, none, none] [] μ (Option.map o_yl (oo_drawWeek_12 F f v3 v5 μ))
  | 0, v3, v5, μ => g_none
  | f + 1, v3, v5, μ => lk_oo_drawWeek_12_b F (oo_drawWeek_12 F f) (lk_oo_drawWeek_12 F f) v3 v5 μ
theorem lk_oo_drawWeek (F : Nat) (v1 : Int64) (μ : g_St) : g_Go gC 14 yX8_drawWeek cX8_drawWeek 9 (some .long) 0 [some (.ref 0), some (.long v1), none, none, none, none, none, none, none] [] μ (Option.map o_yl (oo_drawWeek F v1 μ)) := by
  unfold oo_drawWeek
  refine g_lload_n dX8_drawWeek_0 rfl rfl ?_
  refine g_lstore_n (lo2 := [_, _, _, _, _, _, _, _, _]) dX8_drawWeek_1 rfl (Nat.le_of_ble_eq_true rfl) rfl rfl ?_
  refine g_aload_n dX8_drawWeek_2 rfl rfl ?_
  refine g_getS dX8_drawWeek_3 cf_X8 fl_X8_58 ly_Own_lt ly_Own rfl (Nat.le_of_ble_eq_true rfl) ?_
  refine w_Vyv [] dX8_drawWeek_6 ml_X8_356 mv_X3_clear mc_X3_clear cf_X3 (ly_Rounds_lt (Or.inr rfl)) (ly_Rounds (Or.inr rfl)) rfl (Nat.le_of_ble_eq_true rfl) (Nat.le_of_ble_eq_true rfl) (Nat.le_of_ble_eq_true rfl) rfl (co_og_clear F _ (Or.inr rfl) _) (fun μ1 => ?_)
  refine g_iconst dX8_drawWeek_9 ic_0 ?_
  refine g_istore (lo2 := [_, _, _, _, _, _, _, _, _]) dX8_drawWeek_10 (Nat.le_of_ble_eq_true rfl) rfl rfl ?_
  exact g_to (lk_oo_drawWeek_12 F _ _ _ _) (su_s (su_n (su_n (su_s (su_n (su_s (su_n (su_n (su_n su_0)))))))))
theorem co_oo_drawWeek (F : Nat) (v1 : Int64) (μ : g_St) : g_Con gC 14 yX8_drawWeek cX8_drawWeek 9 (some .long) [.ref 0, .long v1] μ (g_yl (oo_drawWeek F v1 μ)) := g_conOf mc_X8_drawWeek.2.2.2.2 (Nat.le_of_ble_eq_true rfl) rfl g_yl_rk (lk_oo_drawWeek F v1 μ)
theorem dX8_years_0 : decode cX8_years 0 = .ok (.iload_n 1, 1) := by decide +kernel
theorem dX8_years_1 : decode cX8_years 1 = .ok (.ifCond .lt 30, 3) := by decide +kernel
theorem dX8_years_4 : decode cX8_years 4 = .ok (.iload_n 1, 1) := by decide +kernel
theorem dX8_years_5 : decode cX8_years 5 = .ok (.sipush 9999, 3) := by decide +kernel
theorem dX8_years_8 : decode cX8_years 8 = .ok (.if_icmp .gt 23, 3) := by decide +kernel
theorem dX8_years_11 : decode cX8_years 11 = .ok (.iload_n 2, 1) := by decide +kernel
theorem dX8_years_12 : decode cX8_years 12 = .ok (.iconst 1, 1) := by decide +kernel
theorem dX8_years_13 : decode cX8_years 13 = .ok (.if_icmp .lt 18, 3) := by decide +kernel
theorem dX8_years_16 : decode cX8_years 16 = .ok (.iload_n 2, 1) := by decide +kernel
theorem dX8_years_17 : decode cX8_years 17 = .ok (.bipush 52, 2) := by decide +kernel
theorem dX8_years_19 : decode cX8_years 19 = .ok (.if_icmp .gt 12, 3) := by decide +kernel
theorem dX8_years_22 : decode cX8_years 22 = .ok (.iload_n 3, 1) := by decide +kernel
theorem dX8_years_23 : decode cX8_years 23 = .ok (.ifCond .lt 8, 3) := by decide +kernel
theorem dX8_years_26 : decode cX8_years 26 = .ok (.iload_n 3, 1) := by decide +kernel
theorem dX8_years_27 : decode cX8_years 27 = .ok (.iconst 1, 1) := by decide +kernel
theorem dX8_years_28 : decode cX8_years 28 = .ok (.if_icmp .le 5, 3) := by decide +kernel
theorem dX8_years_31 : decode cX8_years 31 = .ok (.iconst (-1), 1) := by decide +kernel
theorem dX8_years_32 : decode cX8_years 32 = .ok (.ireturn, 1) := by decide +kernel
theorem dX8_years_33 : decode cX8_years 33 = .ok (.aload_n 0, 1) := by decide +kernel
theorem dX8_years_34 : decode cX8_years 34 = .ok (.invokevirtual 316, 3) := by decide +kernel
theorem dX8_years_37 : decode cX8_years 37 = .ok (.iconst 0, 1) := by decide +kernel
theorem dX8_years_38 : decode cX8_years 38 = .ok (.istore 4, 2) := by decide +kernel
theorem dX8_years_40 : decode cX8_years 40 = .ok (.iconst 0, 1) := by decide +kernel
theorem dX8_years_41 : decode cX8_years 41 = .ok (.istore 5, 2) := by decide +kernel
theorem dX8_years_43 : decode cX8_years 43 = .ok (.iload_n 1, 1) := by decide +kernel
theorem dX8_years_44 : decode cX8_years 44 = .ok (.i2l, 1) := by decide +kernel
theorem dX8_years_45 : decode cX8_years 45 = .ok (.lstore 6, 2) := by decide +kernel
theorem dX8_years_47 : decode cX8_years 47 = .ok (.iconst 0, 1) := by decide +kernel
theorem dX8_years_48 : decode cX8_years 48 = .ok (.istore 8, 2) := by decide +kernel
theorem dX8_years_50 : decode cX8_years 50 = .ok (.iload 8, 2) := by decide +kernel
theorem dX8_years_52 : decode cX8_years 52 = .ok (.iload_n 2, 1) := by decide +kernel
theorem dX8_years_53 : decode cX8_years 53 = .ok (.if_icmp .ge 53, 3) := by decide +kernel
theorem dX8_years_56 : decode cX8_years 56 = .ok (.aload_n 0, 1) := by decide +kernel
theorem dX8_years_57 : decode cX8_years 57 = .ok (.lload 6, 2) := by decide +kernel
theorem dX8_years_59 : decode cX8_years 59 = .ok (.invokevirtual 319, 3) := by decide +kernel
theorem dX8_years_62 : decode cX8_years 62 = .ok (.lstore 6, 2) := by decide +kernel
theorem dX8_years_64 : decode cX8_years 64 = .ok (.aload_n 0, 1) := by decide +kernel
theorem dX8_years_65 : decode cX8_years 65 = .ok (.getfield 58, 3) := by decide +kernel
theorem dX8_years_68 : decode cX8_years 68 = .ok (.getfield 219, 3) := by decide +kernel
theorem dX8_years_71 : decode cX8_years 71 = .ok (.aload_n 0, 1) := by decide +kernel
theorem dX8_years_72 : decode cX8_years 72 = .ok (.invokevirtual 244, 3) := by decide +kernel
theorem dX8_years_75 : decode cX8_years 75 = .ok (.iaload, 1) := by decide +kernel
theorem dX8_years_76 : decode cX8_years 76 = .ok (.istore 9, 2) := by decide +kernel
theorem dX8_years_78 : decode cX8_years 78 = .ok (.iload 4, 2) := by decide +kernel
theorem dX8_years_80 : decode cX8_years 80 = .ok (.iload 9, 2) := by decide +kernel
theorem dX8_years_82 : decode cX8_years 82 = .ok (.iadd, 1) := by decide +kernel
theorem dX8_years_83 : decode cX8_years 83 = .ok (.istore 4, 2) := by decide +kernel
theorem dX8_years_85 : decode cX8_years 85 = .ok (.iload 5, 2) := by decide +kernel
theorem dX8_years_87 : decode cX8_years 87 = .ok (.iload 9, 2) := by decide +kernel
theorem dX8_years_89 : decode cX8_years 89 = .ok (.ifCond .ne 7, 3) := by decide +kernel
theorem dX8_years_92 : decode cX8_years 92 = .ok (.iconst 1, 1) := by decide +kernel
theorem dX8_years_93 : decode cX8_years 93 = .ok (.goto 4, 3) := by decide +kernel
theorem dX8_years_96 : decode cX8_years 96 = .ok (.iconst 0, 1) := by decide +kernel
theorem dX8_years_97 : decode cX8_years 97 = .ok (.iadd, 1) := by decide +kernel
theorem dX8_years_98 : decode cX8_years 98 = .ok (.istore 5, 2) := by decide +kernel
theorem dX8_years_100 : decode cX8_years 100 = .ok (.iinc 8 1, 3) := by decide +kernel
theorem dX8_years_103 : decode cX8_years 103 = .ok (.goto (-53), 3) := by decide +kernel
theorem dX8_years_106 : decode cX8_years 106 = .ok (.iload_n 3, 1) := by decide +kernel
theorem dX8_years_107 : decode cX8_years 107 = .ok (.ifCond .ne 8, 3) := by decide +kernel
theorem dX8_years_110 : decode cX8_years 110 = .ok (.iload 4, 2) := by decide +kernel
theorem dX8_years_112 : decode cX8_years 112 = .ok (.goto 5, 3) := by decide +kernel
theorem dX8_years_115 : decode cX8_years 115 = .ok (.iload 5, 2) := by decide +kernel
theorem dX8_years_117 : decode cX8_years 117 = .ok (.ireturn, 1) := by decide +kernel
theorem lk_oo_years_50_b (F : Nat) (v2 : Int32) (v3 : Int32) (K_50 : Int32 → Int32 → Int64 → Int32 → g_St → Option (Int32 × g_St)) (hK_50 : ∀ (w4 : Int32) (w5 : Int32) (w6 : Int64) (w8 : Int32) (ν : g_St), g_Go gC 15 yX8_years cX8_years 10 (some .int) 50 [some (.ref 0), none, some (.int v2), some (.int v3), some (.int w4), some (.int w5), some (.long w6), none, some (.int w8), none] [] ν (Option.map o_yi (K_50 w4 w5 w6 w8 ν))) (v4 : Int32) (v5 : Int32) (v6 : Int64) (v8 : Int32) (μ : g_St) : g_Go gC 15 yX8_years cX8_years 10 (some .int) 50 [some (.ref 0), none, some (.int v2), some (.int v3), some (.int v4), some (.int v5), some (.long v6), none, some (.int v8), none] [] μ (Option.map o_yi (oo_years_50_b F v2 v3 K_50 v4 v5 v6 v8 μ)) := by
  unfold oo_years_50_b
  refine g_iload dX8_years_50 rfl ?_
  refine g_iload_n dX8_years_52 rfl rfl ?_
  refine w_icmp_ge (tgt := 106) dX8_years_53 (by decide) ?_ ?_
  · refine g_aload_n dX8_years_56 rfl rfl ?_
    refine g_lload dX8_years_57 rfl ?_
    refine w_Vyl [.long _] dX8_years_59 ml_X8_319 mv_X8_drawWeek mc_X8_drawWeek cf_X8 ly_Own_lt ly_Own rfl (Nat.le_of_ble_eq_true rfl) (Nat.le_of_ble_eq_true rfl) (Nat.le_of_ble_eq_true rfl) rfl (co_oo_drawWeek F _ _) (fun q2 => ?_)
    refine g_lstore (lo2 := [_, _, _, _, _, _, _, _, _, _]) dX8_years_62 (Nat.le_of_ble_eq_true rfl) rfl rfl ?_
    refine g_aload_n dX8_years_64 rfl rfl ?_
    refine g_getS dX8_years_65 cf_X8 fl_X8_58 ly_Own_lt ly_Own rfl (Nat.le_of_ble_eq_true rfl) ?_
    refine g_getS dX8_years_68 cf_X3 fl_X8_219 (ly_Rounds_lt (Or.inr rfl)) (ly_Rounds (Or.inr rfl)) rfl (Nat.le_of_ble_eq_true rfl) ?_
    refine g_aload_n dX8_years_71 rfl rfl ?_
    refine w_Vxi [] dX8_years_72 ml_X8_244 mv_X8_everybody mc_X8_everybody cf_X8 ly_Own_lt ly_Own rfl (Nat.le_of_ble_eq_true rfl) (Nat.le_of_ble_eq_true rfl) (Nat.le_of_ble_eq_true rfl) rfl (co_oo_everybody _) (fun x3 => ?_)
    refine w_iald dX8_years_75 (ly_Rounds_worth_lt (Or.inr rfl)) (ly_Rounds_worth (Or.inr rfl)) (fun x4 => ?_)
    refine g_istore (lo2 := [_, _, _, _, _, _, _, _, _, _]) dX8_years_76 (Nat.le_of_ble_eq_true rfl) rfl rfl ?_
    refine g_iload dX8_years_78 rfl ?_
    refine g_iload dX8_years_80 rfl ?_
    refine g_iadd dX8_years_82 ?_
    refine g_istore (lo2 := [_, _, _, _, _, _, _, _, _, _]) dX8_years_83 (Nat.le_of_ble_eq_true rfl) rfl rfl ?_
    refine g_iload dX8_years_85 rfl ?_
    refine g_iload dX8_years_87 rfl ?_
    refine w_if_ne (tgt := 96) dX8_years_89 (by decide) ?_ ?_
    · refine g_iconst dX8_years_92 ic_1 ?_
      refine g_goto (tgt := 97) dX8_years_93 (by decide) ?_
      refine g_iadd dX8_years_97 ?_
      refine g_istore (lo2 := [_, _, _, _, _, _, _, _, _, _]) dX8_years_98 (Nat.le_of_ble_eq_true rfl) rfl rfl ?_
      refine g_iinc (lo2 := [_, _, _, _, _, _, _, _, _, _]) dX8_years_100 rfl rfl (Nat.le_of_ble_eq_true rfl) rfl rfl ?_
      refine g_goto (tgt := 50) dX8_years_103 (by decide) ?_
      exact g_to (hK_50 _ _ _ _ _) (su_s (su_n (su_s (su_s (su_s (su_s (su_s (su_n (su_s (su_n su_0))))))))))
    · refine g_iconst dX8_years_96 ic_0 ?_
      refine g_iadd dX8_years_97 ?_
      refine g_istore (lo2 := [_, _, _, _, _, _, _, _, _, _]) dX8_years_98 (Nat.le_of_ble_eq_true rfl) rfl rfl ?_
      refine g_iinc (lo2 := [_, _, _, _, _, _, _, _, _, _]) dX8_years_100 rfl rfl (Nat.le_of_ble_eq_true rfl) rfl rfl ?_
      refine g_goto (tgt := 50) dX8_years_103 (by decide) ?_
      exact g_to (hK_50 _ _ _ _ _) (su_s (su_n (su_s (su_s (su_s (su_s (su_s (su_n (su_s (su_n su_0))))))))))
  · refine g_iload_n dX8_years_106 rfl rfl ?_
    refine w_if_ne (tgt := 115) dX8_years_107 (by decide) ?_ ?_
    · refine g_iload dX8_years_110 rfl ?_
      refine g_goto (tgt := 117) dX8_years_112 (by decide) ?_
      exact w_iret dX8_years_117 rfl rfl
    · refine g_iload dX8_years_115 rfl ?_
      exact w_iret dX8_years_117 rfl rfl
theorem lk_oo_years_50 (F : Nat) (v2 : Int32) (v3 : Int32) : ∀ (f : Nat) (v4 : Int32) (v5 : Int32) (v6 : Int64) (v8 : Int32) (μ : g_St) , g_Go gC 15 yX8_years cX8_years 10 (some .int) 50 [some (.ref 0), none, some (.int v2), some (.int v3), some (.int v4), some (.int v5), some (.long v6), none, some (.int v8), none] [] μ (Option.map o_yi (oo_years_50 F v2 v3 f v4 v5 v6 v8 μ))
  | 0, v4, v5, v6, v8, μ => g_none
  | f + 1, v4, v5, v6, v8, μ => lk_oo_years_50_b F v2 v3 (oo_years_50 F v2 v3 f) (lk_oo_years_50 F v2 v3 f) v4 v5 v6 v8 μ
theorem lk_oo_years (F : Nat) (v1 : Int32) (v2 : Int32) (v3 : Int32) (μ : g_St) : g_Go gC 15 yX8_years cX8_years 10 (some .int) 0 [some (.ref 0), some (.int v1), some (.int v2), some (.int v3), none, none, none, none, none, none] [] μ (Option.map o_yi (oo_years F v1 v2 v3 μ)) := by
  unfold oo_years
  refine g_iload_n dX8_years_0 rfl rfl ?_
  refine w_if_lt (tgt := 31) dX8_years_1 (by decide) ?_ ?_
  · refine g_iload_n dX8_years_4 rfl rfl ?_
    refine g_sipush dX8_years_5 sp_9999 ?_
    refine w_icmp_gt (tgt := 31) dX8_years_8 (by decide) ?_ ?_
    · refine g_iload_n dX8_years_11 rfl rfl ?_
      refine g_iconst dX8_years_12 ic_1 ?_
      refine w_icmp_lt (tgt := 31) dX8_years_13 (by decide) ?_ ?_
      · refine g_iload_n dX8_years_16 rfl rfl ?_
        refine g_bipush dX8_years_17 bp_52 ?_
        refine w_icmp_gt (tgt := 31) dX8_years_19 (by decide) ?_ ?_
        · refine g_iload_n dX8_years_22 rfl rfl ?_
          refine w_if_lt (tgt := 31) dX8_years_23 (by decide) ?_ ?_
          · refine g_iload_n dX8_years_26 rfl rfl ?_
            refine g_iconst dX8_years_27 ic_1 ?_
            refine w_icmp_le (tgt := 33) dX8_years_28 (by decide) ?_ ?_
            · refine g_iconst dX8_years_31 ic_m1 ?_
              exact w_iret dX8_years_32 rfl rfl
            · refine g_aload_n dX8_years_33 rfl rfl ?_
              refine w_Vyv [] dX8_years_34 ml_X8_316 mv_X8_findWares mc_X8_findWares cf_X8 ly_Own_lt ly_Own rfl (Nat.le_of_ble_eq_true rfl) (Nat.le_of_ble_eq_true rfl) (Nat.le_of_ble_eq_true rfl) rfl (co_oo_findWares F _) (fun μ1 => ?_)
              refine g_iconst dX8_years_37 ic_0 ?_
              refine g_istore (lo2 := [_, _, _, _, _, _, _, _, _, _]) dX8_years_38 (Nat.le_of_ble_eq_true rfl) rfl rfl ?_
              refine g_iconst dX8_years_40 ic_0 ?_
              refine g_istore (lo2 := [_, _, _, _, _, _, _, _, _, _]) dX8_years_41 (Nat.le_of_ble_eq_true rfl) rfl rfl ?_
              refine g_iload_n dX8_years_43 rfl rfl ?_
              refine g_i2l dX8_years_44 ?_
              refine g_lstore (lo2 := [_, _, _, _, _, _, _, _, _, _]) dX8_years_45 (Nat.le_of_ble_eq_true rfl) rfl rfl ?_
              refine g_iconst dX8_years_47 ic_0 ?_
              refine g_istore (lo2 := [_, _, _, _, _, _, _, _, _, _]) dX8_years_48 (Nat.le_of_ble_eq_true rfl) rfl rfl ?_
              exact g_to (lk_oo_years_50 F _ _ _ _ _ _ _ _) (su_s (su_n (su_s (su_s (su_s (su_s (su_s (su_n (su_s (su_n su_0))))))))))
          · refine g_iconst dX8_years_31 ic_m1 ?_
            exact w_iret dX8_years_32 rfl rfl
        · refine g_iconst dX8_years_31 ic_m1 ?_
          exact w_iret dX8_years_32 rfl rfl
      · refine g_iconst dX8_years_31 ic_m1 ?_
        exact w_iret dX8_years_32 rfl rfl
    · refine g_iconst dX8_years_31 ic_m1 ?_
      exact w_iret dX8_years_32 rfl rfl
  · refine g_iconst dX8_years_31 ic_m1 ?_
    exact w_iret dX8_years_32 rfl rfl
theorem co_oo_years (F : Nat) (v1 : Int32) (v2 : Int32) (v3 : Int32) (μ : g_St) : g_Con gC 15 yX8_years cX8_years 10 (some .int) [.ref 0, .int v1, .int v2, .int v3] μ (g_yi (oo_years F v1 v2 v3 μ)) := g_conOf mc_X8_years.2.2.2.2 (Nat.le_of_ble_eq_true rfl) rfl (g_yi_rk (Or.inl rfl)) (lk_oo_years F v1 v2 v3 μ)
theorem dX8_visited_0 : decode cX8_visited 0 = .ok (.iconst (-1), 1) := by decide +kernel
theorem dX8_visited_1 : decode cX8_visited 1 = .ok (.istore_n 1, 1) := by decide +kernel
theorem dX8_visited_2 : decode cX8_visited 2 = .ok (.iconst 0, 1) := by decide +kernel
theorem dX8_visited_3 : decode cX8_visited 3 = .ok (.istore_n 2, 1) := by decide +kernel
theorem dX8_visited_4 : decode cX8_visited 4 = .ok (.iconst 0, 1) := by decide +kernel
theorem dX8_visited_5 : decode cX8_visited 5 = .ok (.istore_n 3, 1) := by decide +kernel
theorem dX8_visited_6 : decode cX8_visited 6 = .ok (.iload_n 3, 1) := by decide +kernel
theorem dX8_visited_7 : decode cX8_visited 7 = .ok (.aload_n 0, 1) := by decide +kernel
theorem dX8_visited_8 : decode cX8_visited 8 = .ok (.getfield 19, 3) := by decide +kernel
theorem dX8_visited_11 : decode cX8_visited 11 = .ok (.getfield 228, 3) := by decide +kernel
theorem dX8_visited_14 : decode cX8_visited 14 = .ok (.if_icmp .ge 35, 3) := by decide +kernel
theorem dX8_visited_17 : decode cX8_visited 17 = .ok (.aload_n 0, 1) := by decide +kernel
theorem dX8_visited_18 : decode cX8_visited 18 = .ok (.invokevirtual 212, 3) := by decide +kernel
theorem dX8_visited_21 : decode cX8_visited 21 = .ok (.iload_n 3, 1) := by decide +kernel
theorem dX8_visited_22 : decode cX8_visited 22 = .ok (.invokevirtual 323, 3) := by decide +kernel
theorem dX8_visited_25 : decode cX8_visited 25 = .ok (.istore 4, 2) := by decide +kernel
theorem dX8_visited_27 : decode cX8_visited 27 = .ok (.iload_n 1, 1) := by decide +kernel
theorem dX8_visited_28 : decode cX8_visited 28 = .ok (.iconst (-1), 1) := by decide +kernel
theorem dX8_visited_29 : decode cX8_visited 29 = .ok (.if_icmp .eq 9, 3) := by decide +kernel
theorem dX8_visited_32 : decode cX8_visited 32 = .ok (.iload 4, 2) := by decide +kernel
theorem dX8_visited_34 : decode cX8_visited 34 = .ok (.iload_n 2, 1) := by decide +kernel
theorem dX8_visited_35 : decode cX8_visited 35 = .ok (.if_icmp .le 8, 3) := by decide +kernel
theorem dX8_visited_38 : decode cX8_visited 38 = .ok (.iload_n 3, 1) := by decide +kernel
theorem dX8_visited_39 : decode cX8_visited 39 = .ok (.istore_n 1, 1) := by decide +kernel
theorem dX8_visited_40 : decode cX8_visited 40 = .ok (.iload 4, 2) := by decide +kernel
theorem dX8_visited_42 : decode cX8_visited 42 = .ok (.istore_n 2, 1) := by decide +kernel
theorem dX8_visited_43 : decode cX8_visited 43 = .ok (.iinc 3 1, 3) := by decide +kernel
theorem dX8_visited_46 : decode cX8_visited 46 = .ok (.goto (-40), 3) := by decide +kernel
theorem dX8_visited_49 : decode cX8_visited 49 = .ok (.iload_n 1, 1) := by decide +kernel
theorem dX8_visited_50 : decode cX8_visited 50 = .ok (.ireturn, 1) := by decide +kernel
theorem lk_oo_visited_6_b (F : Nat) (K_6 : Int32 → Int32 → Int32 → g_St → Option (Int32 × g_St)) (hK_6 : ∀ (w1 : Int32) (w2 : Int32) (w3 : Int32) (ν : g_St), g_Go gC 16 yX8_visited cX8_visited 5 (some .int) 6 [some (.ref 0), some (.int w1), some (.int w2), some (.int w3), none] [] ν (Option.map o_yi (K_6 w1 w2 w3 ν))) (v1 : Int32) (v2 : Int32) (v3 : Int32) (μ : g_St) : g_Go gC 16 yX8_visited cX8_visited 5 (some .int) 6 [some (.ref 0), some (.int v1), some (.int v2), some (.int v3), none] [] μ (Option.map o_yi (oo_visited_6_b F K_6 v1 v2 v3 μ)) := by
  unfold oo_visited_6_b
  refine g_iload_n dX8_visited_6 rfl rfl ?_
  refine g_aload_n dX8_visited_7 rfl rfl ?_
  refine w_getql dX8_visited_8 cf_X8 fl_X8_19 ly_Own_lt ly_Own rfl (Nat.le_of_ble_eq_true rfl) (fun b1 hb1 => ?_)
  refine g_getI dX8_visited_11 cf_X1 fl_X8_228 (ly_Land_lt hb1) (ly_Land hb1) rfl (Nat.le_of_ble_eq_true rfl) ?_
  refine w_icmp_ge (tgt := 49) dX8_visited_14 (by decide) ?_ ?_
  · refine g_aload_n dX8_visited_17 rfl rfl ?_
    refine w_Vyr [] dX8_visited_18 ml_X8_212 mv_X8_anywhere mc_X8_anywhere cf_X8 ly_Own_lt ly_Own rfl (Nat.le_of_ble_eq_true rfl) (Nat.le_of_ble_eq_true rfl) (Nat.le_of_ble_eq_true rfl) rfl (co_oo_anywhere F _) (fun μ2 => ?_)
    refine g_iload_n dX8_visited_21 rfl rfl ?_
    refine w_Vxi [.int _] dX8_visited_22 ml_X8_323 mv_X3_pairsOf mc_X3_pairsOf cf_X3 (ly_Rounds_lt (Or.inl rfl)) (ly_Rounds (Or.inl rfl)) rfl (Nat.le_of_ble_eq_true rfl) (Nat.le_of_ble_eq_true rfl) (Nat.le_of_ble_eq_true rfl) rfl (co_og_pairsOf F _ (Or.inl rfl) _ _) (fun x3 => ?_)
    refine g_istore (lo2 := [_, _, _, _, _]) dX8_visited_25 (Nat.le_of_ble_eq_true rfl) rfl rfl ?_
    refine g_iload_n dX8_visited_27 rfl rfl ?_
    refine g_iconst dX8_visited_28 ic_m1 ?_
    refine w_icmp_eq (tgt := 38) dX8_visited_29 (by decide) ?_ ?_
    · refine g_iload_n dX8_visited_38 rfl rfl ?_
      refine g_istore_n (lo2 := [_, _, _, _, _]) dX8_visited_39 rfl (Nat.le_of_ble_eq_true rfl) rfl rfl ?_
      refine g_iload dX8_visited_40 rfl ?_
      refine g_istore_n (lo2 := [_, _, _, _, _]) dX8_visited_42 rfl (Nat.le_of_ble_eq_true rfl) rfl rfl ?_
      refine g_iinc (lo2 := [_, _, _, _, _]) dX8_visited_43 rfl rfl (Nat.le_of_ble_eq_true rfl) rfl rfl ?_
      refine g_goto (tgt := 6) dX8_visited_46 (by decide) ?_
      exact g_to (hK_6 _ _ _ _) (su_s (su_s (su_s (su_s (su_n su_0)))))
    · refine g_iload dX8_visited_32 rfl ?_
      refine g_iload_n dX8_visited_34 rfl rfl ?_
      refine w_icmp_le (tgt := 43) dX8_visited_35 (by decide) ?_ ?_
      · refine g_iload_n dX8_visited_38 rfl rfl ?_
        refine g_istore_n (lo2 := [_, _, _, _, _]) dX8_visited_39 rfl (Nat.le_of_ble_eq_true rfl) rfl rfl ?_
        refine g_iload dX8_visited_40 rfl ?_
        refine g_istore_n (lo2 := [_, _, _, _, _]) dX8_visited_42 rfl (Nat.le_of_ble_eq_true rfl) rfl rfl ?_
        refine g_iinc (lo2 := [_, _, _, _, _]) dX8_visited_43 rfl rfl (Nat.le_of_ble_eq_true rfl) rfl rfl ?_
        refine g_goto (tgt := 6) dX8_visited_46 (by decide) ?_
        exact g_to (hK_6 _ _ _ _) (su_s (su_s (su_s (su_s (su_n su_0)))))
      · refine g_iinc (lo2 := [_, _, _, _, _]) dX8_visited_43 rfl rfl (Nat.le_of_ble_eq_true rfl) rfl rfl ?_
        refine g_goto (tgt := 6) dX8_visited_46 (by decide) ?_
        exact g_to (hK_6 _ _ _ _) (su_s (su_s (su_s (su_s (su_n su_0)))))
  · refine g_iload_n dX8_visited_49 rfl rfl ?_
    exact w_iret dX8_visited_50 rfl rfl
theorem lk_oo_visited_6 (F : Nat) : ∀ (f : Nat) (v1 : Int32) (v2 : Int32) (v3 : Int32) (μ : g_St) , g_Go gC 16 yX8_visited cX8_visited 5 (some .int) 6 [some (.ref 0), some (.int v1), some (.int v2), some (.int v3), none] [] μ (Option.map o_yi (oo_visited_6 F f v1 v2 v3 μ))
  | 0, v1, v2, v3, μ => g_none
  | f + 1, v1, v2, v3, μ => lk_oo_visited_6_b F (oo_visited_6 F f) (lk_oo_visited_6 F f) v1 v2 v3 μ
theorem lk_oo_visited (F : Nat) (μ : g_St) : g_Go gC 16 yX8_visited cX8_visited 5 (some .int) 0 [some (.ref 0), none, none, none, none] [] μ (Option.map o_yi (oo_visited F μ)) := by
  unfold oo_visited
  refine g_iconst dX8_visited_0 ic_m1 ?_
  refine g_istore_n (lo2 := [_, _, _, _, _]) dX8_visited_1 rfl (Nat.le_of_ble_eq_true rfl) rfl rfl ?_
  refine g_iconst dX8_visited_2 ic_0 ?_
  refine g_istore_n (lo2 := [_, _, _, _, _]) dX8_visited_3 rfl (Nat.le_of_ble_eq_true rfl) rfl rfl ?_
  refine g_iconst dX8_visited_4 ic_0 ?_
  refine g_istore_n (lo2 := [_, _, _, _, _]) dX8_visited_5 rfl (Nat.le_of_ble_eq_true rfl) rfl rfl ?_
  exact g_to (lk_oo_visited_6 F _ _ _ _ _) (su_s (su_s (su_s (su_s (su_n su_0)))))
theorem co_oo_visited (F : Nat) (μ : g_St) : g_Con gC 16 yX8_visited cX8_visited 5 (some .int) [.ref 0] μ (g_yi (oo_visited F μ)) := g_conOf mc_X8_visited.2.2.2.2 (Nat.le_of_ble_eq_true rfl) rfl (g_yi_rk (Or.inl rfl)) (lk_oo_visited F μ)
theorem dX8_mark_0 : decode cX8_mark 0 = .ok (.iload_n 1, 1) := by decide +kernel
theorem dX8_mark_1 : decode cX8_mark 1 = .ok (.ifCond .lt 23, 3) := by decide +kernel
theorem dX8_mark_4 : decode cX8_mark 4 = .ok (.iload_n 1, 1) := by decide +kernel
theorem dX8_mark_5 : decode cX8_mark 5 = .ok (.iconst 4, 1) := by decide +kernel
theorem dX8_mark_6 : decode cX8_mark 6 = .ok (.if_icmp .ge 18, 3) := by decide +kernel
theorem dX8_mark_9 : decode cX8_mark 9 = .ok (.iload_n 2, 1) := by decide +kernel
theorem dX8_mark_10 : decode cX8_mark 10 = .ok (.ifCond .eq 16, 3) := by decide +kernel
theorem dX8_mark_13 : decode cX8_mark 13 = .ok (.aload_n 0, 1) := by decide +kernel
theorem dX8_mark_14 : decode cX8_mark 14 = .ok (.getfield 92, 3) := by decide +kernel
theorem dX8_mark_17 : decode cX8_mark 17 = .ok (.iload_n 1, 1) := by decide +kernel
theorem dX8_mark_18 : decode cX8_mark 18 = .ok (.ishr, 1) := by decide +kernel
theorem dX8_mark_19 : decode cX8_mark 19 = .ok (.iconst 1, 1) := by decide +kernel
theorem dX8_mark_20 : decode cX8_mark 20 = .ok (.iand, 1) := by decide +kernel
theorem dX8_mark_21 : decode cX8_mark 21 = .ok (.ifCond .ne 5, 3) := by decide +kernel
theorem dX8_mark_24 : decode cX8_mark 24 = .ok (.iconst 0, 1) := by decide +kernel
theorem dX8_mark_25 : decode cX8_mark 25 = .ok (.ireturn, 1) := by decide +kernel
theorem dX8_mark_26 : decode cX8_mark 26 = .ok (.iload_n 2, 1) := by decide +kernel
theorem dX8_mark_27 : decode cX8_mark 27 = .ok (.ifCond .eq 24, 3) := by decide +kernel
theorem dX8_mark_30 : decode cX8_mark 30 = .ok (.aload_n 0, 1) := by decide +kernel
theorem dX8_mark_31 : decode cX8_mark 31 = .ok (.getfield 39, 3) := by decide +kernel
theorem dX8_mark_34 : decode cX8_mark 34 = .ok (.aload_n 0, 1) := by decide +kernel
theorem dX8_mark_35 : decode cX8_mark 35 = .ok (.getfield 43, 3) := by decide +kernel
theorem dX8_mark_38 : decode cX8_mark 38 = .ok (.iload_n 1, 1) := by decide +kernel
theorem dX8_mark_39 : decode cX8_mark 39 = .ok (.aaload, 1) := by decide +kernel
theorem dX8_mark_40 : decode cX8_mark 40 = .ok (.invokevirtual 326, 3) := by decide +kernel
theorem dX8_mark_43 : decode cX8_mark 43 = .ok (.aload_n 0, 1) := by decide +kernel
theorem dX8_mark_44 : decode cX8_mark 44 = .ok (.iconst 0, 1) := by decide +kernel
theorem dX8_mark_45 : decode cX8_mark 45 = .ok (.putfield 95, 3) := by decide +kernel
theorem dX8_mark_48 : decode cX8_mark 48 = .ok (.goto 28, 3) := by decide +kernel
theorem dX8_mark_51 : decode cX8_mark 51 = .ok (.aload_n 0, 1) := by decide +kernel
theorem dX8_mark_52 : decode cX8_mark 52 = .ok (.getfield 43, 3) := by decide +kernel
theorem dX8_mark_55 : decode cX8_mark 55 = .ok (.iload_n 1, 1) := by decide +kernel
theorem dX8_mark_56 : decode cX8_mark 56 = .ok (.aaload, 1) := by decide +kernel
theorem dX8_mark_57 : decode cX8_mark 57 = .ok (.aload_n 0, 1) := by decide +kernel
theorem dX8_mark_58 : decode cX8_mark 58 = .ok (.getfield 39, 3) := by decide +kernel
theorem dX8_mark_61 : decode cX8_mark 61 = .ok (.invokevirtual 326, 3) := by decide +kernel
theorem dX8_mark_64 : decode cX8_mark 64 = .ok (.aload_n 0, 1) := by decide +kernel
theorem dX8_mark_65 : decode cX8_mark 65 = .ok (.dup, 1) := by decide +kernel
theorem dX8_mark_66 : decode cX8_mark 66 = .ok (.getfield 92, 3) := by decide +kernel
theorem dX8_mark_69 : decode cX8_mark 69 = .ok (.iconst 1, 1) := by decide +kernel
theorem dX8_mark_70 : decode cX8_mark 70 = .ok (.iload_n 1, 1) := by decide +kernel
theorem dX8_mark_71 : decode cX8_mark 71 = .ok (.ishl, 1) := by decide +kernel
theorem dX8_mark_72 : decode cX8_mark 72 = .ok (.ior, 1) := by decide +kernel
theorem dX8_mark_73 : decode cX8_mark 73 = .ok (.putfield 92, 3) := by decide +kernel
theorem dX8_mark_76 : decode cX8_mark 76 = .ok (.iconst 1, 1) := by decide +kernel
theorem dX8_mark_77 : decode cX8_mark 77 = .ok (.ireturn, 1) := by decide +kernel
theorem lk_oo_mark_26 (v1 : Int32) (v2 : Int32) (μ : g_St) : g_Go gC 13 yX8_mark cX8_mark 3 (some .boolean) 26 [some (.ref 0), some (.int v1), some (.int v2)] [] μ (Option.map o_yi (oo_mark_26 v1 v2 μ)) := by
  unfold oo_mark_26
  refine g_iload_n dX8_mark_26 rfl rfl ?_
  refine w_if_eq (tgt := 51) dX8_mark_27 (by decide) ?_ ?_
  · refine g_aload_n dX8_mark_51 rfl rfl ?_
    refine g_getS dX8_mark_52 cf_X8 fl_X8_43 ly_Own_lt ly_Own rfl (Nat.le_of_ble_eq_true rfl) ?_
    refine g_iload_n dX8_mark_55 rfl rfl ?_
    refine w_aald5 dX8_mark_56 ly_Own_marks_lt ly_Own_marks (fun j6 hj6 => ?_)
    refine g_aload_n dX8_mark_57 rfl rfl ?_
    refine g_getS dX8_mark_58 cf_X8 fl_X8_39 ly_Own_lt ly_Own rfl (Nat.le_of_ble_eq_true rfl) ?_
    refine w_Vyv [.ref _] dX8_mark_61 ml_X8_326 mv_X7_copy mc_X7_copy cf_X7 (ly_Week_lt (ly_mark_is hj6)) (ly_Week (ly_mark_is hj6)) rfl (Nat.le_of_ble_eq_true rfl) (Nat.le_of_ble_eq_true rfl) (Nat.le_of_ble_eq_true rfl) rfl (co_ow_copy _ (ly_mark_is hj6) _ (Or.inl rfl) _) (fun μ7 => ?_)
    refine g_aload_n dX8_mark_64 rfl rfl ?_
    refine g_dupr dX8_mark_65 ?_
    refine g_getI dX8_mark_66 cf_X8 fl_X8_92 ly_Own_lt ly_Own rfl (Nat.le_of_ble_eq_true rfl) ?_
    refine g_iconst dX8_mark_69 ic_1 ?_
    refine g_iload_n dX8_mark_70 rfl rfl ?_
    refine g_ishl dX8_mark_71 ?_
    refine g_ior dX8_mark_72 ?_
    refine w_putI dX8_mark_73 cf_X8 fl_X8_92 ly_Own_lt ly_Own rfl (Nat.le_of_ble_eq_true rfl) rfl rfl rfl rfl (fun μ8 => ?_)
    refine g_iconst dX8_mark_76 ic_1 ?_
    exact w_iret dX8_mark_77 (by decide) rfl
  · refine g_aload_n dX8_mark_30 rfl rfl ?_
    refine g_getS dX8_mark_31 cf_X8 fl_X8_39 ly_Own_lt ly_Own rfl (Nat.le_of_ble_eq_true rfl) ?_
    refine g_aload_n dX8_mark_34 rfl rfl ?_
    refine g_getS dX8_mark_35 cf_X8 fl_X8_43 ly_Own_lt ly_Own rfl (Nat.le_of_ble_eq_true rfl) ?_
    refine g_iload_n dX8_mark_38 rfl rfl ?_
    refine w_aald5 dX8_mark_39 ly_Own_marks_lt ly_Own_marks (fun j2 hj2 => ?_)
    refine w_Vyv [.ref _] dX8_mark_40 ml_X8_326 mv_X7_copy mc_X7_copy cf_X7 (ly_Week_lt (Or.inl rfl)) (ly_Week (Or.inl rfl)) rfl (Nat.le_of_ble_eq_true rfl) (Nat.le_of_ble_eq_true rfl) (Nat.le_of_ble_eq_true rfl) rfl (co_ow_copy _ (Or.inl rfl) _ (ly_mark_is hj2) _) (fun μ3 => ?_)
    refine g_aload_n dX8_mark_43 rfl rfl ?_
    refine g_iconst dX8_mark_44 ic_0 ?_
    refine w_putI dX8_mark_45 cf_X8 fl_X8_95 ly_Own_lt ly_Own rfl (Nat.le_of_ble_eq_true rfl) rfl rfl (by decide) (by decide) (fun μ4 => ?_)
    refine g_goto (tgt := 76) dX8_mark_48 (by decide) ?_
    refine g_iconst dX8_mark_76 ic_1 ?_
    exact w_iret dX8_mark_77 (by decide) rfl
theorem lk_oo_mark (v1 : Int32) (v2 : Int32) (μ : g_St) : g_Go gC 13 yX8_mark cX8_mark 3 (some .boolean) 0 [some (.ref 0), some (.int v1), some (.int v2)] [] μ (Option.map o_yi (oo_mark v1 v2 μ)) := by
  unfold oo_mark
  refine g_iload_n dX8_mark_0 rfl rfl ?_
  refine w_if_lt (tgt := 24) dX8_mark_1 (by decide) ?_ ?_
  · refine g_iload_n dX8_mark_4 rfl rfl ?_
    refine g_iconst dX8_mark_5 ic_4 ?_
    refine w_icmp_ge (tgt := 24) dX8_mark_6 (by decide) ?_ ?_
    · refine g_iload_n dX8_mark_9 rfl rfl ?_
      refine w_if_eq (tgt := 26) dX8_mark_10 (by decide) ?_ ?_
      · exact g_to (lk_oo_mark_26 _ _ _) (su_s (su_s (su_s su_0)))
      · refine g_aload_n dX8_mark_13 rfl rfl ?_
        refine g_getI dX8_mark_14 cf_X8 fl_X8_92 ly_Own_lt ly_Own rfl (Nat.le_of_ble_eq_true rfl) ?_
        refine g_iload_n dX8_mark_17 rfl rfl ?_
        refine g_ishr dX8_mark_18 ?_
        refine g_iconst dX8_mark_19 ic_1 ?_
        refine g_iand dX8_mark_20 ?_
        refine w_if_ne (tgt := 26) dX8_mark_21 (by decide) ?_ ?_
        · refine g_iconst dX8_mark_24 ic_0 ?_
          exact w_iret dX8_mark_25 (by decide) rfl
        · exact g_to (lk_oo_mark_26 _ _ _) (su_s (su_s (su_s su_0)))
    · refine g_iconst dX8_mark_24 ic_0 ?_
      exact w_iret dX8_mark_25 (by decide) rfl
  · refine g_iconst dX8_mark_24 ic_0 ?_
    exact w_iret dX8_mark_25 (by decide) rfl
theorem co_oo_mark (v1 : Int32) (v2 : Int32) (μ : g_St) : g_Con gC 13 yX8_mark cX8_mark 3 (some .boolean) [.ref 0, .int v1, .int v2] μ (g_yi (oo_mark v1 v2 μ)) := g_conOf mc_X8_mark.2.2.2.2 (Nat.le_of_ble_eq_true rfl) rfl (g_yi_rk (Or.inr (Or.inl rfl))) (lk_oo_mark v1 v2 μ)
theorem dX8_happyOfAll_0 : decode cX8_happyOfAll 0 = .ok (.iconst 0, 1) := by decide +kernel
theorem dX8_happyOfAll_1 : decode cX8_happyOfAll 1 = .ok (.istore_n 1, 1) := by decide +kernel
theorem dX8_happyOfAll_2 : decode cX8_happyOfAll 2 = .ok (.iconst 0, 1) := by decide +kernel
theorem dX8_happyOfAll_3 : decode cX8_happyOfAll 3 = .ok (.istore_n 2, 1) := by decide +kernel
theorem dX8_happyOfAll_4 : decode cX8_happyOfAll 4 = .ok (.iload_n 2, 1) := by decide +kernel
theorem dX8_happyOfAll_5 : decode cX8_happyOfAll 5 = .ok (.aload_n 0, 1) := by decide +kernel
theorem dX8_happyOfAll_6 : decode cX8_happyOfAll 6 = .ok (.getfield 19, 3) := by decide +kernel
theorem dX8_happyOfAll_9 : decode cX8_happyOfAll 9 = .ok (.getfield 228, 3) := by decide +kernel
theorem dX8_happyOfAll_12 : decode cX8_happyOfAll 12 = .ok (.if_icmp .ge 17, 3) := by decide +kernel
theorem dX8_happyOfAll_15 : decode cX8_happyOfAll 15 = .ok (.iload_n 1, 1) := by decide +kernel
theorem dX8_happyOfAll_16 : decode cX8_happyOfAll 16 = .ok (.aload_n 0, 1) := by decide +kernel
theorem dX8_happyOfAll_17 : decode cX8_happyOfAll 17 = .ok (.iload_n 2, 1) := by decide +kernel
theorem dX8_happyOfAll_18 : decode cX8_happyOfAll 18 = .ok (.invokevirtual 141, 3) := by decide +kernel
theorem dX8_happyOfAll_21 : decode cX8_happyOfAll 21 = .ok (.iadd, 1) := by decide +kernel
theorem dX8_happyOfAll_22 : decode cX8_happyOfAll 22 = .ok (.istore_n 1, 1) := by decide +kernel
theorem dX8_happyOfAll_23 : decode cX8_happyOfAll 23 = .ok (.iinc 2 1, 3) := by decide +kernel
theorem dX8_happyOfAll_26 : decode cX8_happyOfAll 26 = .ok (.goto (-22), 3) := by decide +kernel
theorem dX8_happyOfAll_29 : decode cX8_happyOfAll 29 = .ok (.iload_n 1, 1) := by decide +kernel
theorem dX8_happyOfAll_30 : decode cX8_happyOfAll 30 = .ok (.ireturn, 1) := by decide +kernel
theorem lk_oo_happyOfAll_4_b (F : Nat) (μ : g_St) (K_4 : Int32 → Int32 → Option Int32) (hK_4 : ∀ (w1 : Int32) (w2 : Int32), g_Go gC 3 yX8_happyOfAll cX8_happyOfAll 3 (some .int) 4 [some (.ref 0), some (.int w1), some (.int w2)] [] μ (Option.map (o_i μ) (K_4 w1 w2))) (v1 : Int32) (v2 : Int32) : g_Go gC 3 yX8_happyOfAll cX8_happyOfAll 3 (some .int) 4 [some (.ref 0), some (.int v1), some (.int v2)] [] μ (Option.map (o_i μ) (oo_happyOfAll_4_b F μ K_4 v1 v2 )) := by
  unfold oo_happyOfAll_4_b
  refine g_iload_n dX8_happyOfAll_4 rfl rfl ?_
  refine g_aload_n dX8_happyOfAll_5 rfl rfl ?_
  refine w_getql dX8_happyOfAll_6 cf_X8 fl_X8_19 ly_Own_lt ly_Own rfl (Nat.le_of_ble_eq_true rfl) (fun b1 hb1 => ?_)
  refine g_getI dX8_happyOfAll_9 cf_X1 fl_X8_228 (ly_Land_lt hb1) (ly_Land hb1) rfl (Nat.le_of_ble_eq_true rfl) ?_
  refine w_icmp_ge (tgt := 29) dX8_happyOfAll_12 (by decide) ?_ ?_
  · refine g_iload_n dX8_happyOfAll_15 rfl rfl ?_
    refine g_aload_n dX8_happyOfAll_16 rfl rfl ?_
    refine g_iload_n dX8_happyOfAll_17 rfl rfl ?_
    refine w_Vxi [.int _] dX8_happyOfAll_18 ml_X8_141 mv_X8_happyOf mc_X8_happyOf cf_X8 ly_Own_lt ly_Own rfl (Nat.le_of_ble_eq_true rfl) (Nat.le_of_ble_eq_true rfl) (Nat.le_of_ble_eq_true rfl) rfl (co_oo_happyOf F _ _) (fun x2 => ?_)
    refine g_iadd dX8_happyOfAll_21 ?_
    refine g_istore_n (lo2 := [_, _, _]) dX8_happyOfAll_22 rfl (Nat.le_of_ble_eq_true rfl) rfl rfl ?_
    refine g_iinc (lo2 := [_, _, _]) dX8_happyOfAll_23 rfl rfl (Nat.le_of_ble_eq_true rfl) rfl rfl ?_
    refine g_goto (tgt := 4) dX8_happyOfAll_26 (by decide) ?_
    exact g_to (hK_4 _ _) (su_s (su_s (su_s su_0)))
  · refine g_iload_n dX8_happyOfAll_29 rfl rfl ?_
    exact w_iret dX8_happyOfAll_30 rfl rfl
theorem lk_oo_happyOfAll_4 (F : Nat) (μ : g_St) : ∀ (f : Nat) (v1 : Int32) (v2 : Int32) , g_Go gC 3 yX8_happyOfAll cX8_happyOfAll 3 (some .int) 4 [some (.ref 0), some (.int v1), some (.int v2)] [] μ (Option.map (o_i μ) (oo_happyOfAll_4 F μ f v1 v2 ))
  | 0, v1, v2 => g_none
  | f + 1, v1, v2 => lk_oo_happyOfAll_4_b F μ (oo_happyOfAll_4 F μ f) (lk_oo_happyOfAll_4 F μ f) v1 v2 
theorem lk_oo_happyOfAll (F : Nat) (μ : g_St) : g_Go gC 3 yX8_happyOfAll cX8_happyOfAll 3 (some .int) 0 [some (.ref 0), none, none] [] μ (Option.map (o_i μ) (oo_happyOfAll F μ)) := by
  unfold oo_happyOfAll
  refine g_iconst dX8_happyOfAll_0 ic_0 ?_
  refine g_istore_n (lo2 := [_, _, _]) dX8_happyOfAll_1 rfl (Nat.le_of_ble_eq_true rfl) rfl rfl ?_
  refine g_iconst dX8_happyOfAll_2 ic_0 ?_
  refine g_istore_n (lo2 := [_, _, _]) dX8_happyOfAll_3 rfl (Nat.le_of_ble_eq_true rfl) rfl rfl ?_
  exact g_to (lk_oo_happyOfAll_4 F μ _ _ _) (su_s (su_s (su_s su_0)))
theorem co_oo_happyOfAll (F : Nat) (μ : g_St) : g_Con gC 3 yX8_happyOfAll cX8_happyOfAll 3 (some .int) [.ref 0] μ (g_xi μ (oo_happyOfAll F μ)) := g_conOf mc_X8_happyOfAll.2.2.2.2 (Nat.le_of_ble_eq_true rfl) rfl (g_xi_rk (Or.inl rfl)) (lk_oo_happyOfAll F μ)
theorem dX8_count_0 : decode cX8_count 0 = .ok (.iload_n 1, 1) := by decide +kernel
theorem dX8_count_1 : decode cX8_count 1 = .ok (.tableswitch 108 0 7 #[47, 55, 63, 71, 79, 87, 95, 103], 47) := by decide +kernel
theorem dX8_count_48 : decode cX8_count 48 = .ok (.aload_n 0, 1) := by decide +kernel
theorem dX8_count_49 : decode cX8_count 49 = .ok (.getfield 19, 3) := by decide +kernel
theorem dX8_count_52 : decode cX8_count 52 = .ok (.getfield 248, 3) := by decide +kernel
theorem dX8_count_55 : decode cX8_count 55 = .ok (.ireturn, 1) := by decide +kernel
theorem dX8_count_56 : decode cX8_count 56 = .ok (.aload_n 0, 1) := by decide +kernel
theorem dX8_count_57 : decode cX8_count 57 = .ok (.getfield 19, 3) := by decide +kernel
theorem dX8_count_60 : decode cX8_count 60 = .ok (.getfield 299, 3) := by decide +kernel
theorem dX8_count_63 : decode cX8_count 63 = .ok (.ireturn, 1) := by decide +kernel
theorem dX8_count_64 : decode cX8_count 64 = .ok (.aload_n 0, 1) := by decide +kernel
theorem dX8_count_65 : decode cX8_count 65 = .ok (.getfield 19, 3) := by decide +kernel
theorem dX8_count_68 : decode cX8_count 68 = .ok (.getfield 228, 3) := by decide +kernel
theorem dX8_count_71 : decode cX8_count 71 = .ok (.ireturn, 1) := by decide +kernel
theorem dX8_count_72 : decode cX8_count 72 = .ok (.aload_n 0, 1) := by decide +kernel
theorem dX8_count_73 : decode cX8_count 73 = .ok (.getfield 39, 3) := by decide +kernel
theorem dX8_count_76 : decode cX8_count 76 = .ok (.getfield 158, 3) := by decide +kernel
theorem dX8_count_79 : decode cX8_count 79 = .ok (.ireturn, 1) := by decide +kernel
theorem dX8_count_80 : decode cX8_count 80 = .ok (.aload_n 0, 1) := by decide +kernel
theorem dX8_count_81 : decode cX8_count 81 = .ok (.getfield 39, 3) := by decide +kernel
theorem dX8_count_84 : decode cX8_count 84 = .ok (.invokevirtual 330, 3) := by decide +kernel
theorem dX8_count_87 : decode cX8_count 87 = .ok (.ireturn, 1) := by decide +kernel
theorem dX8_count_88 : decode cX8_count 88 = .ok (.aload_n 0, 1) := by decide +kernel
theorem dX8_count_89 : decode cX8_count 89 = .ok (.getfield 29, 3) := by decide +kernel
theorem dX8_count_92 : decode cX8_count 92 = .ok (.getfield 333, 3) := by decide +kernel
theorem dX8_count_95 : decode cX8_count 95 = .ok (.ireturn, 1) := by decide +kernel
theorem dX8_count_96 : decode cX8_count 96 = .ok (.aload_n 0, 1) := by decide +kernel
theorem dX8_count_97 : decode cX8_count 97 = .ok (.getfield 10, 3) := by decide +kernel
theorem dX8_count_100 : decode cX8_count 100 = .ok (.getfield 78, 3) := by decide +kernel
theorem dX8_count_103 : decode cX8_count 103 = .ok (.ireturn, 1) := by decide +kernel
theorem dX8_count_104 : decode cX8_count 104 = .ok (.aload_n 0, 1) := by decide +kernel
theorem dX8_count_105 : decode cX8_count 105 = .ok (.invokevirtual 336, 3) := by decide +kernel
theorem dX8_count_108 : decode cX8_count 108 = .ok (.ireturn, 1) := by decide +kernel
theorem dX8_count_109 : decode cX8_count 109 = .ok (.iconst (-1), 1) := by decide +kernel
theorem dX8_count_110 : decode cX8_count 110 = .ok (.ireturn, 1) := by decide +kernel
theorem lk_oo_count (F : Nat) (μ : g_St) (v1 : Int32) : g_Go gC 4 yX8_count cX8_count 2 (some .int) 0 [some (.ref 0), some (.int v1)] [] μ (Option.map (o_i μ) (oo_count F μ v1)) := by
  unfold oo_count
  refine g_iload_n dX8_count_0 rfl rfl ?_
  refine w_ite (fun h2 => ?_) (fun h2 => ?_)
  · refine w_tin (tgt := 48) (0 : Int32) h2 dX8_count_1 ⟨47, by decide⟩ ?_
    refine g_aload_n dX8_count_48 rfl rfl ?_
    refine w_getql dX8_count_49 cf_X8 fl_X8_19 ly_Own_lt ly_Own rfl (Nat.le_of_ble_eq_true rfl) (fun b1 hb1 => ?_)
    refine g_getI dX8_count_52 cf_X1 fl_X8_248 (ly_Land_lt hb1) (ly_Land hb1) rfl (Nat.le_of_ble_eq_true rfl) ?_
    exact w_iret dX8_count_55 rfl rfl
  refine w_ite (fun h4 => ?_) (fun h4 => ?_)
  · refine w_tin (tgt := 56) (1 : Int32) h4 dX8_count_1 ⟨55, by decide⟩ ?_
    refine g_aload_n dX8_count_56 rfl rfl ?_
    refine w_getql dX8_count_57 cf_X8 fl_X8_19 ly_Own_lt ly_Own rfl (Nat.le_of_ble_eq_true rfl) (fun b3 hb3 => ?_)
    refine g_getI dX8_count_60 cf_X1 fl_X8_299 (ly_Land_lt hb3) (ly_Land hb3) rfl (Nat.le_of_ble_eq_true rfl) ?_
    exact w_iret dX8_count_63 rfl rfl
  refine w_ite (fun h6 => ?_) (fun h6 => ?_)
  · refine w_tin (tgt := 64) (2 : Int32) h6 dX8_count_1 ⟨63, by decide⟩ ?_
    refine g_aload_n dX8_count_64 rfl rfl ?_
    refine w_getql dX8_count_65 cf_X8 fl_X8_19 ly_Own_lt ly_Own rfl (Nat.le_of_ble_eq_true rfl) (fun b5 hb5 => ?_)
    refine g_getI dX8_count_68 cf_X1 fl_X8_228 (ly_Land_lt hb5) (ly_Land hb5) rfl (Nat.le_of_ble_eq_true rfl) ?_
    exact w_iret dX8_count_71 rfl rfl
  refine w_ite (fun h7 => ?_) (fun h7 => ?_)
  · refine w_tin (tgt := 72) (3 : Int32) h7 dX8_count_1 ⟨71, by decide⟩ ?_
    refine g_aload_n dX8_count_72 rfl rfl ?_
    refine g_getS dX8_count_73 cf_X8 fl_X8_39 ly_Own_lt ly_Own rfl (Nat.le_of_ble_eq_true rfl) ?_
    refine g_getI dX8_count_76 cf_X7 fl_X8_158 (ly_Week_lt (Or.inl rfl)) (ly_Week (Or.inl rfl)) rfl (Nat.le_of_ble_eq_true rfl) ?_
    exact w_iret dX8_count_79 rfl rfl
  refine w_ite (fun h9 => ?_) (fun h9 => ?_)
  · refine w_tin (tgt := 80) (4 : Int32) h9 dX8_count_1 ⟨79, by decide⟩ ?_
    refine g_aload_n dX8_count_80 rfl rfl ?_
    refine g_getS dX8_count_81 cf_X8 fl_X8_39 ly_Own_lt ly_Own rfl (Nat.le_of_ble_eq_true rfl) ?_
    refine w_Vxi [] dX8_count_84 ml_X8_330 mv_X7_heldAtAll mc_X7_heldAtAll cf_X7 (ly_Week_lt (Or.inl rfl)) (ly_Week (Or.inl rfl)) rfl (Nat.le_of_ble_eq_true rfl) (Nat.le_of_ble_eq_true rfl) (Nat.le_of_ble_eq_true rfl) rfl (co_ow_heldAtAll F _ (Or.inl rfl) _) (fun x8 => ?_)
    exact w_iret dX8_count_87 rfl rfl
  refine w_ite (fun h11 => ?_) (fun h11 => ?_)
  · refine w_tin (tgt := 88) (5 : Int32) h11 dX8_count_1 ⟨87, by decide⟩ ?_
    refine g_aload_n dX8_count_88 rfl rfl ?_
    refine w_getqr dX8_count_89 cf_X8 fl_X8_29 ly_Own_lt ly_Own rfl (Nat.le_of_ble_eq_true rfl) (fun b10 hb10 => ?_)
    refine g_getI dX8_count_92 cf_X4 fl_X8_333 (ly_Rule_lt hb10) (ly_Rule hb10) rfl (Nat.le_of_ble_eq_true rfl) ?_
    exact w_iret dX8_count_95 rfl rfl
  refine w_ite (fun h12 => ?_) (fun h12 => ?_)
  · refine w_tin (tgt := 96) (6 : Int32) h12 dX8_count_1 ⟨95, by decide⟩ ?_
    refine g_aload_n dX8_count_96 rfl rfl ?_
    refine g_getS dX8_count_97 cf_X8 fl_X8_10 ly_Own_lt ly_Own rfl (Nat.le_of_ble_eq_true rfl) ?_
    refine g_getI dX8_count_100 cf_X6 fl_X8_78 ly_Tape_lt ly_Tape rfl (Nat.le_of_ble_eq_true rfl) ?_
    exact w_iret dX8_count_103 rfl rfl
  refine w_ite (fun h14 => ?_) (fun h14 => ?_)
  · refine w_tin (tgt := 104) (7 : Int32) h14 dX8_count_1 ⟨103, by decide⟩ ?_
    refine g_aload_n dX8_count_104 rfl rfl ?_
    refine w_Vxi [] dX8_count_105 ml_X8_336 mv_X8_happyOfAll mc_X8_happyOfAll cf_X8 ly_Own_lt ly_Own rfl (Nat.le_of_ble_eq_true rfl) (Nat.le_of_ble_eq_true rfl) (Nat.le_of_ble_eq_true rfl) rfl (co_oo_happyOfAll F _) (fun x13 => ?_)
    exact w_iret dX8_count_108 rfl rfl
  refine w_tout (tgt := 109) dX8_count_1 (by have qh2 := g_neT (n := 0) h2 (by decide); have qh4 := g_neT (n := 1) h4 (by decide); have qh6 := g_neT (n := 2) h6 (by decide); have qh7 := g_neT (n := 3) h7 (by decide); have qh9 := g_neT (n := 4) h9 (by decide); have qh11 := g_neT (n := 5) h11 (by decide); have qh12 := g_neT (n := 6) h12 (by decide); have qh14 := g_neT (n := 7) h14 (by decide); omega) (by decide) ?_
  refine g_iconst dX8_count_109 ic_m1 ?_
  exact w_iret dX8_count_110 rfl rfl
theorem co_oo_count (F : Nat) (μ : g_St) (v1 : Int32) : g_Con gC 4 yX8_count cX8_count 2 (some .int) [.ref 0, .int v1] μ (g_xi μ (oo_count F μ v1)) := g_conOf mc_X8_count.2.2.2.2 (Nat.le_of_ble_eq_true rfl) rfl (g_xi_rk (Or.inl rfl)) (lk_oo_count F μ v1)
