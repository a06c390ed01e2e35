/-! Walks, printed by wip/gen -/
theorem dX3_clear_0 : decode cX3_clear 0 = .ok (.aload_n 0, 1) := by decide +kernel
theorem dX3_clear_1 : decode cX3_clear 1 = .ok (.getfield 9, 3) := by decide +kernel
theorem dX3_clear_4 : decode cX3_clear 4 = .ok (.iconst 0, 1) := by decide +kernel
theorem dX3_clear_5 : decode cX3_clear 5 = .ok (.invokestatic 39, 3) := by decide +kernel
theorem dX3_clear_8 : decode cX3_clear 8 = .ok (.aload_n 0, 1) := by decide +kernel
theorem dX3_clear_9 : decode cX3_clear 9 = .ok (.getfield 15, 3) := by decide +kernel
theorem dX3_clear_12 : decode cX3_clear 12 = .ok (.iconst 0, 1) := by decide +kernel
theorem dX3_clear_13 : decode cX3_clear 13 = .ok (.invokestatic 39, 3) := by decide +kernel
theorem dX3_clear_16 : decode cX3_clear 16 = .ok (.aload_n 0, 1) := by decide +kernel
theorem dX3_clear_17 : decode cX3_clear 17 = .ok (.getfield 27, 3) := by decide +kernel
theorem dX3_clear_20 : decode cX3_clear 20 = .ok (.iconst (-1), 1) := by decide +kernel
theorem dX3_clear_21 : decode cX3_clear 21 = .ok (.invokestatic 39, 3) := by decide +kernel
theorem dX3_clear_24 : decode cX3_clear 24 = .ok (.aload_n 0, 1) := by decide +kernel
theorem dX3_clear_25 : decode cX3_clear 25 = .ok (.getfield 30, 3) := by decide +kernel
theorem dX3_clear_28 : decode cX3_clear 28 = .ok (.iconst 0, 1) := by decide +kernel
theorem dX3_clear_29 : decode cX3_clear 29 = .ok (.invokestatic 39, 3) := by decide +kernel
theorem dX3_clear_32 : decode cX3_clear 32 = .ok (.aload_n 0, 1) := by decide +kernel
theorem dX3_clear_33 : decode cX3_clear 33 = .ok (.getfield 33, 3) := by decide +kernel
theorem dX3_clear_36 : decode cX3_clear 36 = .ok (.iconst 0, 1) := by decide +kernel
theorem dX3_clear_37 : decode cX3_clear 37 = .ok (.invokestatic 39, 3) := by decide +kernel
theorem dX3_clear_40 : decode cX3_clear 40 = .ok (.aload_n 0, 1) := by decide +kernel
theorem dX3_clear_41 : decode cX3_clear 41 = .ok (.getfield 36, 3) := by decide +kernel
theorem dX3_clear_44 : decode cX3_clear 44 = .ok (.iconst 0, 1) := by decide +kernel
theorem dX3_clear_45 : decode cX3_clear 45 = .ok (.invokestatic 39, 3) := by decide +kernel
theorem dX3_clear_48 : decode cX3_clear 48 = .ok (.return_, 1) := by decide +kernel
theorem lk_og_clear (F : Nat) (br : Nat) (hbr : g_isRounds br) (μ : g_St) : g_Go gC 1 yX3_clear cX3_clear 1 (none : Option Jvm.ClassFile.FieldType) 0 [some (.ref br)] [] μ (Option.map o_yv (og_clear F br μ)) := by
  unfold og_clear
  refine g_aload_n dX3_clear_0 rfl rfl ?_
  refine g_getS dX3_clear_1 cf_X3 fl_X3_9 (ly_Rounds_lt hbr) (ly_Rounds hbr) rfl (Nat.le_of_ble_eq_true rfl) ?_
  refine g_iconst dX3_clear_4 ic_0 ?_
  refine w_Syv [.ref _, .int _] dX3_clear_5 ml_X3_39 ms_J7_fill_53178 mc_J7_fill_53178 rfl (Nat.le_of_ble_eq_true rfl) (Nat.le_of_ble_eq_true rfl) (Nat.le_of_ble_eq_true rfl) rfl (co_jj_fill F _ _ (ly_Rounds_gifts_lt hbr) (ly_Rounds_gifts hbr) _ _) (fun μ1 => ?_)
  refine g_aload_n dX3_clear_8 rfl rfl ?_
  refine g_getS dX3_clear_9 cf_X3 fl_X3_15 (ly_Rounds_lt hbr) (ly_Rounds hbr) rfl (Nat.le_of_ble_eq_true rfl) ?_
  refine g_iconst dX3_clear_12 ic_0 ?_
  refine w_Syv [.ref _, .int _] dX3_clear_13 ml_X3_39 ms_J7_fill_53178 mc_J7_fill_53178 rfl (Nat.le_of_ble_eq_true rfl) (Nat.le_of_ble_eq_true rfl) (Nat.le_of_ble_eq_true rfl) rfl (co_jj_fill F _ _ (ly_Rounds_held_lt hbr) (ly_Rounds_held hbr) _ _) (fun μ2 => ?_)
  refine g_aload_n dX3_clear_16 rfl rfl ?_
  refine g_getS dX3_clear_17 cf_X3 fl_X3_27 (ly_Rounds_lt hbr) (ly_Rounds hbr) rfl (Nat.le_of_ble_eq_true rfl) ?_
  refine g_iconst dX3_clear_20 ic_m1 ?_
  refine w_Syv [.ref _, .int _] dX3_clear_21 ml_X3_39 ms_J7_fill_53178 mc_J7_fill_53178 rfl (Nat.le_of_ble_eq_true rfl) (Nat.le_of_ble_eq_true rfl) (Nat.le_of_ble_eq_true rfl) rfl (co_jj_fill F _ _ (ly_Rounds_best_lt hbr) (ly_Rounds_best hbr) _ _) (fun μ3 => ?_)
  refine g_aload_n dX3_clear_24 rfl rfl ?_
  refine g_getS dX3_clear_25 cf_X3 fl_X3_30 (ly_Rounds_lt hbr) (ly_Rounds hbr) rfl (Nat.le_of_ble_eq_true rfl) ?_
  refine g_iconst dX3_clear_28 ic_0 ?_
  refine w_Syv [.ref _, .int _] dX3_clear_29 ml_X3_39 ms_J7_fill_53178 mc_J7_fill_53178 rfl (Nat.le_of_ble_eq_true rfl) (Nat.le_of_ble_eq_true rfl) (Nat.le_of_ble_eq_true rfl) rfl (co_jj_fill F _ _ (ly_Rounds_worth_lt hbr) (ly_Rounds_worth hbr) _ _) (fun μ4 => ?_)
  refine g_aload_n dX3_clear_32 rfl rfl ?_
  refine g_getS dX3_clear_33 cf_X3 fl_X3_33 (ly_Rounds_lt hbr) (ly_Rounds hbr) rfl (Nat.le_of_ble_eq_true rfl) ?_
  refine g_iconst dX3_clear_36 ic_0 ?_
  refine w_Syv [.ref _, .int _] dX3_clear_37 ml_X3_39 ms_J7_fill_53178 mc_J7_fill_53178 rfl (Nat.le_of_ble_eq_true rfl) (Nat.le_of_ble_eq_true rfl) (Nat.le_of_ble_eq_true rfl) rfl (co_jj_fill F _ _ (ly_Rounds_many_lt hbr) (ly_Rounds_many hbr) _ _) (fun μ5 => ?_)
  refine g_aload_n dX3_clear_40 rfl rfl ?_
  refine g_getS dX3_clear_41 cf_X3 fl_X3_36 (ly_Rounds_lt hbr) (ly_Rounds hbr) rfl (Nat.le_of_ble_eq_true rfl) ?_
  refine g_iconst dX3_clear_44 ic_0 ?_
  refine w_Syv [.ref _, .int _] dX3_clear_45 ml_X3_39 ms_J7_fill_53178 mc_J7_fill_53178 rfl (Nat.le_of_ble_eq_true rfl) (Nat.le_of_ble_eq_true rfl) (Nat.le_of_ble_eq_true rfl) rfl (co_jj_fill F _ _ (ly_Rounds_within_lt hbr) (ly_Rounds_within hbr) _ _) (fun μ6 => ?_)
  exact w_vret dX3_clear_48 rfl rfl
theorem co_og_clear (F : Nat) (br : Nat) (hbr : g_isRounds br) (μ : g_St) : g_Con gC 1 yX3_clear cX3_clear 1 (none : Option Jvm.ClassFile.FieldType) [.ref br] μ (g_yv (og_clear F br μ)) := g_conOf mc_X3_clear.2.2.2.2 (Nat.le_of_ble_eq_true rfl) rfl g_yv_rk (lk_og_clear F br hbr μ)
theorem dX3_hold_0 : decode cX3_hold 0 = .ok (.aload_n 0, 1) := by decide +kernel
theorem dX3_hold_1 : decode cX3_hold 1 = .ok (.getfield 15, 3) := by decide +kernel
theorem dX3_hold_4 : decode cX3_hold 4 = .ok (.iload_n 1, 1) := by decide +kernel
theorem dX3_hold_5 : decode cX3_hold 5 = .ok (.bipush 6, 2) := by decide +kernel
theorem dX3_hold_7 : decode cX3_hold 7 = .ok (.imul, 1) := by decide +kernel
theorem dX3_hold_8 : decode cX3_hold 8 = .ok (.iload_n 2, 1) := by decide +kernel
theorem dX3_hold_9 : decode cX3_hold 9 = .ok (.iadd, 1) := by decide +kernel
theorem dX3_hold_10 : decode cX3_hold 10 = .ok (.dup2, 1) := by decide +kernel
theorem dX3_hold_11 : decode cX3_hold 11 = .ok (.iaload, 1) := by decide +kernel
theorem dX3_hold_12 : decode cX3_hold 12 = .ok (.iconst 1, 1) := by decide +kernel
theorem dX3_hold_13 : decode cX3_hold 13 = .ok (.iadd, 1) := by decide +kernel
theorem dX3_hold_14 : decode cX3_hold 14 = .ok (.iastore, 1) := by decide +kernel
theorem dX3_hold_15 : decode cX3_hold 15 = .ok (.return_, 1) := by decide +kernel
theorem lk_og_hold (br : Nat) (hbr : g_isRounds br) (v1 : Int32) (v2 : Int32) (μ : g_St) : g_Go gC 0 yX3_hold cX3_hold 3 (none : Option Jvm.ClassFile.FieldType) 0 [some (.ref br), some (.int v1), some (.int v2)] [] μ (Option.map o_yv (og_hold br v1 v2 μ)) := by
  unfold og_hold
  refine g_aload_n dX3_hold_0 rfl rfl ?_
  refine g_getS dX3_hold_1 cf_X3 fl_X3_15 (ly_Rounds_lt hbr) (ly_Rounds hbr) rfl (Nat.le_of_ble_eq_true rfl) ?_
  refine g_iload_n dX3_hold_4 rfl rfl ?_
  refine g_bipush dX3_hold_5 bp_6 ?_
  refine g_imul dX3_hold_7 ?_
  refine g_iload_n dX3_hold_8 rfl rfl ?_
  refine g_iadd dX3_hold_9 ?_
  refine g_dup2 dX3_hold_10 ?_
  refine w_iald dX3_hold_11 (ly_Rounds_held_lt hbr) (ly_Rounds_held hbr) (fun x1 => ?_)
  refine g_iconst dX3_hold_12 ic_1 ?_
  refine g_iadd dX3_hold_13 ?_
  refine w_iast dX3_hold_14 (ly_Rounds_held_lt hbr) (ly_Rounds_held hbr) (fun μ2 => ?_)
  exact w_vret dX3_hold_15 rfl rfl
theorem co_og_hold (br : Nat) (hbr : g_isRounds br) (v1 : Int32) (v2 : Int32) (μ : g_St) : g_Con gC 0 yX3_hold cX3_hold 3 (none : Option Jvm.ClassFile.FieldType) [.ref br, .int v1, .int v2] μ (g_yv (og_hold br v1 v2 μ)) := g_conOf mc_X3_hold.2.2.2.2 (Nat.le_of_ble_eq_true rfl) rfl g_yv_rk (lk_og_hold br hbr v1 v2 μ)
theorem dX3_allow_0 : decode cX3_allow 0 = .ok (.aload_n 0, 1) := by decide +kernel
theorem dX3_allow_1 : decode cX3_allow 1 = .ok (.getfield 9, 3) := by decide +kernel
theorem dX3_allow_4 : decode cX3_allow 4 = .ok (.iload_n 1, 1) := by decide +kernel
theorem dX3_allow_5 : decode cX3_allow 5 = .ok (.bipush 8, 2) := by decide +kernel
theorem dX3_allow_7 : decode cX3_allow 7 = .ok (.imul, 1) := by decide +kernel
theorem dX3_allow_8 : decode cX3_allow 8 = .ok (.iload_n 2, 1) := by decide +kernel
theorem dX3_allow_9 : decode cX3_allow 9 = .ok (.iadd, 1) := by decide +kernel
theorem dX3_allow_10 : decode cX3_allow 10 = .ok (.dup2, 1) := by decide +kernel
theorem dX3_allow_11 : decode cX3_allow 11 = .ok (.iaload, 1) := by decide +kernel
theorem dX3_allow_12 : decode cX3_allow 12 = .ok (.iload_n 3, 1) := by decide +kernel
theorem dX3_allow_13 : decode cX3_allow 13 = .ok (.ior, 1) := by decide +kernel
theorem dX3_allow_14 : decode cX3_allow 14 = .ok (.iastore, 1) := by decide +kernel
theorem dX3_allow_15 : decode cX3_allow 15 = .ok (.return_, 1) := by decide +kernel
theorem lk_og_allow (br : Nat) (hbr : g_isRounds br) (v1 : Int32) (v2 : Int32) (v3 : Int32) (μ : g_St) : g_Go gC 0 yX3_allow cX3_allow 4 (none : Option Jvm.ClassFile.FieldType) 0 [some (.ref br), some (.int v1), some (.int v2), some (.int v3)] [] μ (Option.map o_yv (og_allow br v1 v2 v3 μ)) := by
  unfold og_allow
  refine g_aload_n dX3_allow_0 rfl rfl ?_
  refine g_getS dX3_allow_1 cf_X3 fl_X3_9 (ly_Rounds_lt hbr) (ly_Rounds hbr) rfl (Nat.le_of_ble_eq_true rfl) ?_
  refine g_iload_n dX3_allow_4 rfl rfl ?_
  refine g_bipush dX3_allow_5 bp_8 ?_
  refine g_imul dX3_allow_7 ?_
  refine g_iload_n dX3_allow_8 rfl rfl ?_
  refine g_iadd dX3_allow_9 ?_
  refine g_dup2 dX3_allow_10 ?_
  refine w_iald dX3_allow_11 (ly_Rounds_gifts_lt hbr) (ly_Rounds_gifts hbr) (fun x1 => ?_)
  refine g_iload_n dX3_allow_12 rfl rfl ?_
  refine g_ior dX3_allow_13 ?_
  refine w_iast dX3_allow_14 (ly_Rounds_gifts_lt hbr) (ly_Rounds_gifts hbr) (fun μ2 => ?_)
  exact w_vret dX3_allow_15 rfl rfl
theorem co_og_allow (br : Nat) (hbr : g_isRounds br) (v1 : Int32) (v2 : Int32) (v3 : Int32) (μ : g_St) : g_Con gC 0 yX3_allow cX3_allow 4 (none : Option Jvm.ClassFile.FieldType) [.ref br, .int v1, .int v2, .int v3] μ (g_yv (og_allow br v1 v2 v3 μ)) := g_conOf mc_X3_allow.2.2.2.2 (Nat.le_of_ble_eq_true rfl) rfl g_yv_rk (lk_og_allow br hbr v1 v2 v3 μ)
theorem dX3_mayGive_0 : decode cX3_mayGive 0 = .ok (.aload_n 0, 1) := by decide +kernel
theorem dX3_mayGive_1 : decode cX3_mayGive 1 = .ok (.getfield 9, 3) := by decide +kernel
theorem dX3_mayGive_4 : decode cX3_mayGive 4 = .ok (.iload_n 1, 1) := by decide +kernel
theorem dX3_mayGive_5 : decode cX3_mayGive 5 = .ok (.bipush 8, 2) := by decide +kernel
theorem dX3_mayGive_7 : decode cX3_mayGive 7 = .ok (.imul, 1) := by decide +kernel
theorem dX3_mayGive_8 : decode cX3_mayGive 8 = .ok (.iload_n 2, 1) := by decide +kernel
theorem dX3_mayGive_9 : decode cX3_mayGive 9 = .ok (.iadd, 1) := by decide +kernel
theorem dX3_mayGive_10 : decode cX3_mayGive 10 = .ok (.iaload, 1) := by decide +kernel
theorem dX3_mayGive_11 : decode cX3_mayGive 11 = .ok (.iload_n 3, 1) := by decide +kernel
theorem dX3_mayGive_12 : decode cX3_mayGive 12 = .ok (.ishr, 1) := by decide +kernel
theorem dX3_mayGive_13 : decode cX3_mayGive 13 = .ok (.iconst 1, 1) := by decide +kernel
theorem dX3_mayGive_14 : decode cX3_mayGive 14 = .ok (.iand, 1) := by decide +kernel
theorem dX3_mayGive_15 : decode cX3_mayGive 15 = .ok (.iconst 1, 1) := by decide +kernel
theorem dX3_mayGive_16 : decode cX3_mayGive 16 = .ok (.if_icmp .ne 7, 3) := by decide +kernel
theorem dX3_mayGive_19 : decode cX3_mayGive 19 = .ok (.iconst 1, 1) := by decide +kernel
theorem dX3_mayGive_20 : decode cX3_mayGive 20 = .ok (.goto 4, 3) := by decide +kernel
theorem dX3_mayGive_23 : decode cX3_mayGive 23 = .ok (.iconst 0, 1) := by decide +kernel
theorem dX3_mayGive_24 : decode cX3_mayGive 24 = .ok (.ireturn, 1) := by decide +kernel
theorem lk_og_mayGive (br : Nat) (hbr : g_isRounds br) (μ : g_St) (v1 : Int32) (v2 : Int32) (v3 : Int32) : g_Go gC 0 yX3_mayGive cX3_mayGive 4 (some .boolean) 0 [some (.ref br), some (.int v1), some (.int v2), some (.int v3)] [] μ (Option.map (o_i μ) (og_mayGive br μ v1 v2 v3)) := by
  unfold og_mayGive
  refine g_aload_n dX3_mayGive_0 rfl rfl ?_
  refine g_getS dX3_mayGive_1 cf_X3 fl_X3_9 (ly_Rounds_lt hbr) (ly_Rounds hbr) rfl (Nat.le_of_ble_eq_true rfl) ?_
  refine g_iload_n dX3_mayGive_4 rfl rfl ?_
  refine g_bipush dX3_mayGive_5 bp_8 ?_
  refine g_imul dX3_mayGive_7 ?_
  refine g_iload_n dX3_mayGive_8 rfl rfl ?_
  refine g_iadd dX3_mayGive_9 ?_
  refine w_iald dX3_mayGive_10 (ly_Rounds_gifts_lt hbr) (ly_Rounds_gifts hbr) (fun x1 => ?_)
  refine g_iload_n dX3_mayGive_11 rfl rfl ?_
  refine g_ishr dX3_mayGive_12 ?_
  refine g_iconst dX3_mayGive_13 ic_1 ?_
  refine g_iand dX3_mayGive_14 ?_
  refine g_iconst dX3_mayGive_15 ic_1 ?_
  refine w_icmp_ne (tgt := 23) dX3_mayGive_16 (by decide) ?_ ?_
  · refine g_iconst dX3_mayGive_19 ic_1 ?_
    refine g_goto (tgt := 24) dX3_mayGive_20 (by decide) ?_
    exact w_iret dX3_mayGive_24 (by decide) rfl
  · refine g_iconst dX3_mayGive_23 ic_0 ?_
    exact w_iret dX3_mayGive_24 (by decide) rfl
theorem co_og_mayGive (br : Nat) (hbr : g_isRounds br) (μ : g_St) (v1 : Int32) (v2 : Int32) (v3 : Int32) : g_Con gC 0 yX3_mayGive cX3_mayGive 4 (some .boolean) [.ref br, .int v1, .int v2, .int v3] μ (g_xi μ (og_mayGive br μ v1 v2 v3)) := g_conOf mc_X3_mayGive.2.2.2.2 (Nat.le_of_ble_eq_true rfl) rfl (g_xi_rk (Or.inr (Or.inl rfl))) (lk_og_mayGive br hbr μ v1 v2 v3)
theorem dX3_weigh_0 : decode cX3_weigh 0 = .ok (.iload_n 2, 1) := by decide +kernel
theorem dX3_weigh_1 : decode cX3_weigh 1 = .ok (.bipush 6, 2) := by decide +kernel
theorem dX3_weigh_3 : decode cX3_weigh 3 = .ok (.imul, 1) := by decide +kernel
theorem dX3_weigh_4 : decode cX3_weigh 4 = .ok (.istore_n 3, 1) := by decide +kernel
theorem dX3_weigh_5 : decode cX3_weigh 5 = .ok (.iconst 0, 1) := by decide +kernel
theorem dX3_weigh_6 : decode cX3_weigh 6 = .ok (.istore 4, 2) := by decide +kernel
theorem dX3_weigh_8 : decode cX3_weigh 8 = .ok (.iload 4, 2) := by decide +kernel
theorem dX3_weigh_10 : decode cX3_weigh 10 = .ok (.aload_n 1, 1) := by decide +kernel
theorem dX3_weigh_11 : decode cX3_weigh 11 = .ok (.getfield 63, 3) := by decide +kernel
theorem dX3_weigh_14 : decode cX3_weigh 14 = .ok (.if_icmp .ge 61, 3) := by decide +kernel
theorem dX3_weigh_17 : decode cX3_weigh 17 = .ok (.aload_n 0, 1) := by decide +kernel
theorem dX3_weigh_18 : decode cX3_weigh 18 = .ok (.getfield 18, 3) := by decide +kernel
theorem dX3_weigh_21 : decode cX3_weigh 21 = .ok (.iload_n 3, 1) := by decide +kernel
theorem dX3_weigh_22 : decode cX3_weigh 22 = .ok (.iload 4, 2) := by decide +kernel
theorem dX3_weigh_24 : decode cX3_weigh 24 = .ok (.iadd, 1) := by decide +kernel
theorem dX3_weigh_25 : decode cX3_weigh 25 = .ok (.aload_n 1, 1) := by decide +kernel
theorem dX3_weigh_26 : decode cX3_weigh 26 = .ok (.iload_n 2, 1) := by decide +kernel
theorem dX3_weigh_27 : decode cX3_weigh 27 = .ok (.iload 4, 2) := by decide +kernel
theorem dX3_weigh_29 : decode cX3_weigh 29 = .ok (.aload_n 0, 1) := by decide +kernel
theorem dX3_weigh_30 : decode cX3_weigh 30 = .ok (.getfield 15, 3) := by decide +kernel
theorem dX3_weigh_33 : decode cX3_weigh 33 = .ok (.iload_n 3, 1) := by decide +kernel
theorem dX3_weigh_34 : decode cX3_weigh 34 = .ok (.iload 4, 2) := by decide +kernel
theorem dX3_weigh_36 : decode cX3_weigh 36 = .ok (.iadd, 1) := by decide +kernel
theorem dX3_weigh_37 : decode cX3_weigh 37 = .ok (.iaload, 1) := by decide +kernel
theorem dX3_weigh_38 : decode cX3_weigh 38 = .ok (.invokevirtual 66, 3) := by decide +kernel
theorem dX3_weigh_41 : decode cX3_weigh 41 = .ok (.iastore, 1) := by decide +kernel
theorem dX3_weigh_42 : decode cX3_weigh 42 = .ok (.aload_n 0, 1) := by decide +kernel
theorem dX3_weigh_43 : decode cX3_weigh 43 = .ok (.getfield 21, 3) := by decide +kernel
theorem dX3_weigh_46 : decode cX3_weigh 46 = .ok (.iload_n 3, 1) := by decide +kernel
theorem dX3_weigh_47 : decode cX3_weigh 47 = .ok (.iload 4, 2) := by decide +kernel
theorem dX3_weigh_49 : decode cX3_weigh 49 = .ok (.iadd, 1) := by decide +kernel
theorem dX3_weigh_50 : decode cX3_weigh 50 = .ok (.aload_n 1, 1) := by decide +kernel
theorem dX3_weigh_51 : decode cX3_weigh 51 = .ok (.iload_n 2, 1) := by decide +kernel
theorem dX3_weigh_52 : decode cX3_weigh 52 = .ok (.iload 4, 2) := by decide +kernel
theorem dX3_weigh_54 : decode cX3_weigh 54 = .ok (.aload_n 0, 1) := by decide +kernel
theorem dX3_weigh_55 : decode cX3_weigh 55 = .ok (.getfield 15, 3) := by decide +kernel
theorem dX3_weigh_58 : decode cX3_weigh 58 = .ok (.iload_n 3, 1) := by decide +kernel
theorem dX3_weigh_59 : decode cX3_weigh 59 = .ok (.iload 4, 2) := by decide +kernel
theorem dX3_weigh_61 : decode cX3_weigh 61 = .ok (.iadd, 1) := by decide +kernel
theorem dX3_weigh_62 : decode cX3_weigh 62 = .ok (.iaload, 1) := by decide +kernel
theorem dX3_weigh_63 : decode cX3_weigh 63 = .ok (.iconst 1, 1) := by decide +kernel
theorem dX3_weigh_64 : decode cX3_weigh 64 = .ok (.isub, 1) := by decide +kernel
theorem dX3_weigh_65 : decode cX3_weigh 65 = .ok (.invokevirtual 66, 3) := by decide +kernel
theorem dX3_weigh_68 : decode cX3_weigh 68 = .ok (.iastore, 1) := by decide +kernel
theorem dX3_weigh_69 : decode cX3_weigh 69 = .ok (.iinc 4 1, 3) := by decide +kernel
theorem dX3_weigh_72 : decode cX3_weigh 72 = .ok (.goto (-64), 3) := by decide +kernel
theorem dX3_weigh_75 : decode cX3_weigh 75 = .ok (.iconst 0, 1) := by decide +kernel
theorem dX3_weigh_76 : decode cX3_weigh 76 = .ok (.istore 4, 2) := by decide +kernel
theorem dX3_weigh_78 : decode cX3_weigh 78 = .ok (.iload 4, 2) := by decide +kernel
theorem dX3_weigh_80 : decode cX3_weigh 80 = .ok (.aload_n 1, 1) := by decide +kernel
theorem dX3_weigh_81 : decode cX3_weigh 81 = .ok (.getfield 63, 3) := by decide +kernel
theorem dX3_weigh_84 : decode cX3_weigh 84 = .ok (.if_icmp .ge 94, 3) := by decide +kernel
theorem dX3_weigh_87 : decode cX3_weigh 87 = .ok (.iconst 0, 1) := by decide +kernel
theorem dX3_weigh_88 : decode cX3_weigh 88 = .ok (.istore 5, 2) := by decide +kernel
theorem dX3_weigh_90 : decode cX3_weigh 90 = .ok (.iconst 0, 1) := by decide +kernel
theorem dX3_weigh_91 : decode cX3_weigh 91 = .ok (.istore 6, 2) := by decide +kernel
theorem dX3_weigh_93 : decode cX3_weigh 93 = .ok (.iload 6, 2) := by decide +kernel
theorem dX3_weigh_95 : decode cX3_weigh 95 = .ok (.aload_n 1, 1) := by decide +kernel
theorem dX3_weigh_96 : decode cX3_weigh 96 = .ok (.getfield 63, 3) := by decide +kernel
theorem dX3_weigh_99 : decode cX3_weigh 99 = .ok (.if_icmp .ge 62, 3) := by decide +kernel
theorem dX3_weigh_102 : decode cX3_weigh 102 = .ok (.iload 6, 2) := by decide +kernel
theorem dX3_weigh_104 : decode cX3_weigh 104 = .ok (.iload 4, 2) := by decide +kernel
theorem dX3_weigh_106 : decode cX3_weigh 106 = .ok (.if_icmp .eq 28, 3) := by decide +kernel
theorem dX3_weigh_109 : decode cX3_weigh 109 = .ok (.aload_n 0, 1) := by decide +kernel
theorem dX3_weigh_110 : decode cX3_weigh 110 = .ok (.getfield 18, 3) := by decide +kernel
theorem dX3_weigh_113 : decode cX3_weigh 113 = .ok (.iload_n 3, 1) := by decide +kernel
theorem dX3_weigh_114 : decode cX3_weigh 114 = .ok (.iload 4, 2) := by decide +kernel
theorem dX3_weigh_116 : decode cX3_weigh 116 = .ok (.iadd, 1) := by decide +kernel
theorem dX3_weigh_117 : decode cX3_weigh 117 = .ok (.iaload, 1) := by decide +kernel
theorem dX3_weigh_118 : decode cX3_weigh 118 = .ok (.aload_n 0, 1) := by decide +kernel
theorem dX3_weigh_119 : decode cX3_weigh 119 = .ok (.getfield 21, 3) := by decide +kernel
theorem dX3_weigh_122 : decode cX3_weigh 122 = .ok (.iload_n 3, 1) := by decide +kernel
theorem dX3_weigh_123 : decode cX3_weigh 123 = .ok (.iload 6, 2) := by decide +kernel
theorem dX3_weigh_125 : decode cX3_weigh 125 = .ok (.iadd, 1) := by decide +kernel
theorem dX3_weigh_126 : decode cX3_weigh 126 = .ok (.iaload, 1) := by decide +kernel
theorem dX3_weigh_127 : decode cX3_weigh 127 = .ok (.if_icmp .le 7, 3) := by decide +kernel
theorem dX3_weigh_130 : decode cX3_weigh 130 = .ok (.iconst 1, 1) := by decide +kernel
theorem dX3_weigh_131 : decode cX3_weigh 131 = .ok (.goto 4, 3) := by decide +kernel
theorem dX3_weigh_134 : decode cX3_weigh 134 = .ok (.iconst 0, 1) := by decide +kernel
theorem dX3_weigh_135 : decode cX3_weigh 135 = .ok (.istore 7, 2) := by decide +kernel
theorem dX3_weigh_137 : decode cX3_weigh 137 = .ok (.iload 5, 2) := by decide +kernel
theorem dX3_weigh_139 : decode cX3_weigh 139 = .ok (.iload 7, 2) := by decide +kernel
theorem dX3_weigh_141 : decode cX3_weigh 141 = .ok (.ifCond .eq 10, 3) := by decide +kernel
theorem dX3_weigh_144 : decode cX3_weigh 144 = .ok (.iconst 1, 1) := by decide +kernel
theorem dX3_weigh_145 : decode cX3_weigh 145 = .ok (.iload 6, 2) := by decide +kernel
theorem dX3_weigh_147 : decode cX3_weigh 147 = .ok (.ishl, 1) := by decide +kernel
theorem dX3_weigh_148 : decode cX3_weigh 148 = .ok (.goto 4, 3) := by decide +kernel
theorem dX3_weigh_151 : decode cX3_weigh 151 = .ok (.iconst 0, 1) := by decide +kernel
theorem dX3_weigh_152 : decode cX3_weigh 152 = .ok (.ior, 1) := by decide +kernel
theorem dX3_weigh_153 : decode cX3_weigh 153 = .ok (.istore 5, 2) := by decide +kernel
theorem dX3_weigh_155 : decode cX3_weigh 155 = .ok (.iinc 6 1, 3) := by decide +kernel
theorem dX3_weigh_158 : decode cX3_weigh 158 = .ok (.goto (-65), 3) := by decide +kernel
theorem dX3_weigh_161 : decode cX3_weigh 161 = .ok (.aload_n 0, 1) := by decide +kernel
theorem dX3_weigh_162 : decode cX3_weigh 162 = .ok (.getfield 24, 3) := by decide +kernel
theorem dX3_weigh_165 : decode cX3_weigh 165 = .ok (.iload_n 3, 1) := by decide +kernel
theorem dX3_weigh_166 : decode cX3_weigh 166 = .ok (.iload 4, 2) := by decide +kernel
theorem dX3_weigh_168 : decode cX3_weigh 168 = .ok (.iadd, 1) := by decide +kernel
theorem dX3_weigh_169 : decode cX3_weigh 169 = .ok (.iload 5, 2) := by decide +kernel
theorem dX3_weigh_171 : decode cX3_weigh 171 = .ok (.iastore, 1) := by decide +kernel
theorem dX3_weigh_172 : decode cX3_weigh 172 = .ok (.iinc 4 1, 3) := by decide +kernel
theorem dX3_weigh_175 : decode cX3_weigh 175 = .ok (.goto (-97), 3) := by decide +kernel
theorem dX3_weigh_178 : decode cX3_weigh 178 = .ok (.return_, 1) := by decide +kernel
theorem lk_og_weigh_135 (F : Nat) (br : Nat) (hbr : g_isRounds br) (bl : Nat) (hbl : g_isLand bl) (v3 : Int32) (v4 : Int32) (v5 : Int32) (v6 : Int32) (s0 : Int32) (K_78 : Int32 → g_St → Option g_St) (hK_78 : ∀ (w4 : Int32) (ν : g_St), g_Go gC 1 yX3_weigh cX3_weigh 8 (none : Option Jvm.ClassFile.FieldType) 78 [some (.ref br), some (.ref bl), none, some (.int v3), some (.int w4), none, none, none] [] ν (Option.map o_yv (K_78 w4 ν))) (K_93 : Int32 → Int32 → g_St → Option g_St) (hK_93 : ∀ (w5 : Int32) (w6 : Int32) (ν : g_St), g_Go gC 1 yX3_weigh cX3_weigh 8 (none : Option Jvm.ClassFile.FieldType) 93 [some (.ref br), some (.ref bl), none, some (.int v3), some (.int v4), some (.int w5), some (.int w6), none] [] ν (Option.map o_yv (K_93 w5 w6 ν))) (μ : g_St) : g_Go gC 1 yX3_weigh cX3_weigh 8 (none : Option Jvm.ClassFile.FieldType) 135 [some (.ref br), some (.ref bl), none, some (.int v3), some (.int v4), some (.int v5), some (.int v6), none] [.int s0] μ (Option.map o_yv (og_weigh_135 F br bl K_78 K_93 v3 v4 v5 v6 s0 μ)) := by
  unfold og_weigh_135
  refine g_istore (lo2 := [_, _, _, _, _, _, _, _]) dX3_weigh_135 (Nat.le_of_ble_eq_true rfl) rfl rfl ?_
  refine g_iload dX3_weigh_137 rfl ?_
  refine g_iload dX3_weigh_139 rfl ?_
  refine w_if_eq (tgt := 151) dX3_weigh_141 (by decide) ?_ ?_
  · refine g_iconst dX3_weigh_151 ic_0 ?_
    refine g_ior dX3_weigh_152 ?_
    refine g_istore (lo2 := [_, _, _, _, _, _, _, _]) dX3_weigh_153 (Nat.le_of_ble_eq_true rfl) rfl rfl ?_
    refine g_iinc (lo2 := [_, _, _, _, _, _, _, _]) dX3_weigh_155 rfl rfl (Nat.le_of_ble_eq_true rfl) rfl rfl ?_
    refine g_goto (tgt := 93) dX3_weigh_158 (by decide) ?_
    exact g_to (hK_93 _ _ _) (su_s (su_s (su_n (su_s (su_s (su_s (su_s (su_n su_0))))))))
  · refine g_iconst dX3_weigh_144 ic_1 ?_
    refine g_iload dX3_weigh_145 rfl ?_
    refine g_ishl dX3_weigh_147 ?_
    refine g_goto (tgt := 152) dX3_weigh_148 (by decide) ?_
    refine g_ior dX3_weigh_152 ?_
    refine w_istore (lo2 := fun _ => [_, _, _, _, _, _, _, _]) dX3_weigh_153 (Nat.le_of_ble_eq_true rfl) rfl (fun _ => rfl) (fun x9 => ?_)
    refine g_iinc (lo2 := [_, _, _, _, _, _, _, _]) dX3_weigh_155 rfl rfl (Nat.le_of_ble_eq_true rfl) rfl rfl ?_
    refine g_goto (tgt := 93) dX3_weigh_158 (by decide) ?_
    exact g_to (hK_93 _ _ _) (su_s (su_s (su_n (su_s (su_s (su_s (su_s (su_n su_0))))))))
theorem lk_og_weigh_134 (F : Nat) (br : Nat) (hbr : g_isRounds br) (bl : Nat) (hbl : g_isLand bl) (v3 : Int32) (v4 : Int32) (v5 : Int32) (v6 : Int32) (K_78 : Int32 → g_St → Option g_St) (hK_78 : ∀ (w4 : Int32) (ν : g_St), g_Go gC 1 yX3_weigh cX3_weigh 8 (none : Option Jvm.ClassFile.FieldType) 78 [some (.ref br), some (.ref bl), none, some (.int v3), some (.int w4), none, none, none] [] ν (Option.map o_yv (K_78 w4 ν))) (K_93 : Int32 → Int32 → g_St → Option g_St) (hK_93 : ∀ (w5 : Int32) (w6 : Int32) (ν : g_St), g_Go gC 1 yX3_weigh cX3_weigh 8 (none : Option Jvm.ClassFile.FieldType) 93 [some (.ref br), some (.ref bl), none, some (.int v3), some (.int v4), some (.int w5), some (.int w6), none] [] ν (Option.map o_yv (K_93 w5 w6 ν))) (μ : g_St) : g_Go gC 1 yX3_weigh cX3_weigh 8 (none : Option Jvm.ClassFile.FieldType) 134 [some (.ref br), some (.ref bl), none, some (.int v3), some (.int v4), some (.int v5), some (.int v6), none] [] μ (Option.map o_yv (og_weigh_134 F br bl K_78 K_93 v3 v4 v5 v6 μ)) := by
  unfold og_weigh_134
  refine g_iconst dX3_weigh_134 ic_0 ?_
  exact g_to (lk_og_weigh_135 F br hbr bl hbl _ _ _ _ _ K_78 hK_78 K_93 hK_93 _) (su_s (su_s (su_n (su_s (su_s (su_s (su_s (su_n su_0))))))))
theorem lk_og_weigh_93_b (F : Nat) (br : Nat) (hbr : g_isRounds br) (bl : Nat) (hbl : g_isLand bl) (v3 : Int32) (v4 : Int32) (K_78 : Int32 → g_St → Option g_St) (hK_78 : ∀ (w4 : Int32) (ν : g_St), g_Go gC 1 yX3_weigh cX3_weigh 8 (none : Option Jvm.ClassFile.FieldType) 78 [some (.ref br), some (.ref bl), none, some (.int v3), some (.int w4), none, none, none] [] ν (Option.map o_yv (K_78 w4 ν))) (K_93 : Int32 → Int32 → g_St → Option g_St) (hK_93 : ∀ (w5 : Int32) (w6 : Int32) (ν : g_St), g_Go gC 1 yX3_weigh cX3_weigh 8 (none : Option Jvm.ClassFile.FieldType) 93 [some (.ref br), some (.ref bl), none, some (.int v3), some (.int v4), some (.int w5), some (.int w6), none] [] ν (Option.map o_yv (K_93 w5 w6 ν))) (v5 : Int32) (v6 : Int32) (μ : g_St) : g_Go gC 1 yX3_weigh cX3_weigh 8 (none : Option Jvm.ClassFile.FieldType) 93 [some (.ref br), some (.ref bl), none, some (.int v3), some (.int v4), some (.int v5), some (.int v6), none] [] μ (Option.map o_yv (og_weigh_93_b F br bl v3 v4 K_78 K_93 v5 v6 μ)) := by
  unfold og_weigh_93_b
  refine g_iload dX3_weigh_93 rfl ?_
  refine g_aload_n dX3_weigh_95 rfl rfl ?_
  refine g_getI dX3_weigh_96 cf_X1 fl_X3_63 (ly_Land_lt hbl) (ly_Land hbl) rfl (Nat.le_of_ble_eq_true rfl) ?_
  refine w_icmp_ge (tgt := 161) dX3_weigh_99 (by decide) ?_ ?_
  · refine g_iload dX3_weigh_102 rfl ?_
    refine g_iload dX3_weigh_104 rfl ?_
    refine w_icmp_eq (tgt := 134) dX3_weigh_106 (by decide) ?_ ?_
    · exact g_to (lk_og_weigh_134 F br hbr bl hbl _ _ _ _ K_78 hK_78 K_93 hK_93 _) (su_s (su_s (su_n (su_s (su_s (su_s (su_s (su_n su_0))))))))
    · refine g_aload_n dX3_weigh_109 rfl rfl ?_
      refine g_getS dX3_weigh_110 cf_X3 fl_X3_18 (ly_Rounds_lt hbr) (ly_Rounds hbr) rfl (Nat.le_of_ble_eq_true rfl) ?_
      refine g_iload_n dX3_weigh_113 rfl rfl ?_
      refine g_iload dX3_weigh_114 rfl ?_
      refine g_iadd dX3_weigh_116 ?_
      refine w_iald dX3_weigh_117 (ly_Rounds_more_lt hbr) (ly_Rounds_more hbr) (fun x7 => ?_)
      refine g_aload_n dX3_weigh_118 rfl rfl ?_
      refine g_getS dX3_weigh_119 cf_X3 fl_X3_21 (ly_Rounds_lt hbr) (ly_Rounds hbr) rfl (Nat.le_of_ble_eq_true rfl) ?_
      refine g_iload_n dX3_weigh_122 rfl rfl ?_
      refine g_iload dX3_weigh_123 rfl ?_
      refine g_iadd dX3_weigh_125 ?_
      refine w_iald dX3_weigh_126 (ly_Rounds_last_lt hbr) (ly_Rounds_last hbr) (fun x8 => ?_)
      refine w_icmp_le (tgt := 134) dX3_weigh_127 (by decide) ?_ ?_
      · refine g_iconst dX3_weigh_130 ic_1 ?_
        refine g_goto (tgt := 135) dX3_weigh_131 (by decide) ?_
        exact g_to (lk_og_weigh_135 F br hbr bl hbl _ _ _ _ _ K_78 hK_78 K_93 hK_93 _) (su_s (su_s (su_n (su_s (su_s (su_s (su_s (su_n su_0))))))))
      · exact g_to (lk_og_weigh_134 F br hbr bl hbl _ _ _ _ K_78 hK_78 K_93 hK_93 _) (su_s (su_s (su_n (su_s (su_s (su_s (su_s (su_n su_0))))))))
  · refine g_aload_n dX3_weigh_161 rfl rfl ?_
    refine g_getS dX3_weigh_162 cf_X3 fl_X3_24 (ly_Rounds_lt hbr) (ly_Rounds hbr) rfl (Nat.le_of_ble_eq_true rfl) ?_
    refine g_iload_n dX3_weigh_165 rfl rfl ?_
    refine g_iload dX3_weigh_166 rfl ?_
    refine g_iadd dX3_weigh_168 ?_
    refine g_iload dX3_weigh_169 rfl ?_
    refine w_iast dX3_weigh_171 (ly_Rounds_glad_lt hbr) (ly_Rounds_glad hbr) (fun μ10 => ?_)
    refine g_iinc (lo2 := [_, _, _, _, _, _, _, _]) dX3_weigh_172 rfl rfl (Nat.le_of_ble_eq_true rfl) rfl rfl ?_
    refine g_goto (tgt := 78) dX3_weigh_175 (by decide) ?_
    exact g_to (hK_78 _ _) (su_s (su_s (su_n (su_s (su_s (su_n (su_n (su_n su_0))))))))
theorem lk_og_weigh_93 (F : Nat) (br : Nat) (hbr : g_isRounds br) (bl : Nat) (hbl : g_isLand bl) (v3 : Int32) (v4 : Int32) (K_78 : Int32 → g_St → Option g_St) (hK_78 : ∀ (w4 : Int32) (ν : g_St), g_Go gC 1 yX3_weigh cX3_weigh 8 (none : Option Jvm.ClassFile.FieldType) 78 [some (.ref br), some (.ref bl), none, some (.int v3), some (.int w4), none, none, none] [] ν (Option.map o_yv (K_78 w4 ν))) : ∀ (f : Nat) (v5 : Int32) (v6 : Int32) (μ : g_St) , g_Go gC 1 yX3_weigh cX3_weigh 8 (none : Option Jvm.ClassFile.FieldType) 93 [some (.ref br), some (.ref bl), none, some (.int v3), some (.int v4), some (.int v5), some (.int v6), none] [] μ (Option.map o_yv (og_weigh_93 F br bl v3 v4 K_78 f v5 v6 μ))
  | 0, v5, v6, μ => g_none
  | f + 1, v5, v6, μ => lk_og_weigh_93_b F br hbr bl hbl v3 v4 K_78 hK_78 (og_weigh_93 F br bl v3 v4 K_78 f) (lk_og_weigh_93 F br hbr bl hbl v3 v4 K_78 hK_78 f) v5 v6 μ
theorem lk_og_weigh_78_b (F : Nat) (br : Nat) (hbr : g_isRounds br) (bl : Nat) (hbl : g_isLand bl) (v3 : Int32) (K_78 : Int32 → g_St → Option g_St) (hK_78 : ∀ (w4 : Int32) (ν : g_St), g_Go gC 1 yX3_weigh cX3_weigh 8 (none : Option Jvm.ClassFile.FieldType) 78 [some (.ref br), some (.ref bl), none, some (.int v3), some (.int w4), none, none, none] [] ν (Option.map o_yv (K_78 w4 ν))) (v4 : Int32) (μ : g_St) : g_Go gC 1 yX3_weigh cX3_weigh 8 (none : Option Jvm.ClassFile.FieldType) 78 [some (.ref br), some (.ref bl), none, some (.int v3), some (.int v4), none, none, none] [] μ (Option.map o_yv (og_weigh_78_b F br bl v3 K_78 v4 μ)) := by
  unfold og_weigh_78_b
  refine g_iload dX3_weigh_78 rfl ?_
  refine g_aload_n dX3_weigh_80 rfl rfl ?_
  refine g_getI dX3_weigh_81 cf_X1 fl_X3_63 (ly_Land_lt hbl) (ly_Land hbl) rfl (Nat.le_of_ble_eq_true rfl) ?_
  refine w_icmp_ge (tgt := 178) dX3_weigh_84 (by decide) ?_ ?_
  · refine g_iconst dX3_weigh_87 ic_0 ?_
    refine g_istore (lo2 := [_, _, _, _, _, _, _, _]) dX3_weigh_88 (Nat.le_of_ble_eq_true rfl) rfl rfl ?_
    refine g_iconst dX3_weigh_90 ic_0 ?_
    refine g_istore (lo2 := [_, _, _, _, _, _, _, _]) dX3_weigh_91 (Nat.le_of_ble_eq_true rfl) rfl rfl ?_
    exact g_to (lk_og_weigh_93 F br hbr bl hbl _ _ K_78 hK_78 _ _ _ _) (su_s (su_s (su_n (su_s (su_s (su_s (su_s (su_n su_0))))))))
  · exact w_vret dX3_weigh_178 rfl rfl
theorem lk_og_weigh_78 (F : Nat) (br : Nat) (hbr : g_isRounds br) (bl : Nat) (hbl : g_isLand bl) (v3 : Int32) : ∀ (f : Nat) (v4 : Int32) (μ : g_St) , g_Go gC 1 yX3_weigh cX3_weigh 8 (none : Option Jvm.ClassFile.FieldType) 78 [some (.ref br), some (.ref bl), none, some (.int v3), some (.int v4), none, none, none] [] μ (Option.map o_yv (og_weigh_78 F br bl v3 f v4 μ))
  | 0, v4, μ => g_none
  | f + 1, v4, μ => lk_og_weigh_78_b F br hbr bl hbl v3 (og_weigh_78 F br bl v3 f) (lk_og_weigh_78 F br hbr bl hbl v3 f) v4 μ
theorem lk_og_weigh_8_b (F : Nat) (br : Nat) (hbr : g_isRounds br) (bl : Nat) (hbl : g_isLand bl) (v2 : Int32) (v3 : Int32) (K_8 : Int32 → g_St → Option g_St) (hK_8 : ∀ (w4 : Int32) (ν : g_St), g_Go gC 1 yX3_weigh cX3_weigh 8 (none : Option Jvm.ClassFile.FieldType) 8 [some (.ref br), some (.ref bl), some (.int v2), some (.int v3), some (.int w4), none, none, none] [] ν (Option.map o_yv (K_8 w4 ν))) (v4 : Int32) (μ : g_St) : g_Go gC 1 yX3_weigh cX3_weigh 8 (none : Option Jvm.ClassFile.FieldType) 8 [some (.ref br), some (.ref bl), some (.int v2), some (.int v3), some (.int v4), none, none, none] [] μ (Option.map o_yv (og_weigh_8_b F br bl v2 v3 K_8 v4 μ)) := by
  unfold og_weigh_8_b
  refine g_iload dX3_weigh_8 rfl ?_
  refine g_aload_n dX3_weigh_10 rfl rfl ?_
  refine g_getI dX3_weigh_11 cf_X1 fl_X3_63 (ly_Land_lt hbl) (ly_Land hbl) rfl (Nat.le_of_ble_eq_true rfl) ?_
  refine w_icmp_ge (tgt := 75) dX3_weigh_14 (by decide) ?_ ?_
  · refine g_aload_n dX3_weigh_17 rfl rfl ?_
    refine g_getS dX3_weigh_18 cf_X3 fl_X3_18 (ly_Rounds_lt hbr) (ly_Rounds hbr) rfl (Nat.le_of_ble_eq_true rfl) ?_
    refine g_iload_n dX3_weigh_21 rfl rfl ?_
    refine g_iload dX3_weigh_22 rfl ?_
    refine g_iadd dX3_weigh_24 ?_
    refine g_aload_n dX3_weigh_25 rfl rfl ?_
    refine g_iload_n dX3_weigh_26 rfl rfl ?_
    refine g_iload dX3_weigh_27 rfl ?_
    refine g_aload_n dX3_weigh_29 rfl rfl ?_
    refine g_getS dX3_weigh_30 cf_X3 fl_X3_15 (ly_Rounds_lt hbr) (ly_Rounds hbr) rfl (Nat.le_of_ble_eq_true rfl) ?_
    refine g_iload_n dX3_weigh_33 rfl rfl ?_
    refine g_iload dX3_weigh_34 rfl ?_
    refine g_iadd dX3_weigh_36 ?_
    refine w_iald dX3_weigh_37 (ly_Rounds_held_lt hbr) (ly_Rounds_held hbr) (fun x1 => ?_)
    refine w_Vxi [.int _, .int _, .int _] dX3_weigh_38 ml_X3_66 mv_X1_worthOf mc_X1_worthOf cf_X1 (ly_Land_lt hbl) (ly_Land hbl) rfl (Nat.le_of_ble_eq_true rfl) (Nat.le_of_ble_eq_true rfl) (Nat.le_of_ble_eq_true rfl) rfl (co_ol_worthOf _ hbl _ _ _ _) (fun x2 => ?_)
    refine w_iast dX3_weigh_41 (ly_Rounds_more_lt hbr) (ly_Rounds_more hbr) (fun μ3 => ?_)
    refine g_aload_n dX3_weigh_42 rfl rfl ?_
    refine g_getS dX3_weigh_43 cf_X3 fl_X3_21 (ly_Rounds_lt hbr) (ly_Rounds hbr) rfl (Nat.le_of_ble_eq_true rfl) ?_
    refine g_iload_n dX3_weigh_46 rfl rfl ?_
    refine g_iload dX3_weigh_47 rfl ?_
    refine g_iadd dX3_weigh_49 ?_
    refine g_aload_n dX3_weigh_50 rfl rfl ?_
    refine g_iload_n dX3_weigh_51 rfl rfl ?_
    refine g_iload dX3_weigh_52 rfl ?_
    refine g_aload_n dX3_weigh_54 rfl rfl ?_
    refine g_getS dX3_weigh_55 cf_X3 fl_X3_15 (ly_Rounds_lt hbr) (ly_Rounds hbr) rfl (Nat.le_of_ble_eq_true rfl) ?_
    refine g_iload_n dX3_weigh_58 rfl rfl ?_
    refine g_iload dX3_weigh_59 rfl ?_
    refine g_iadd dX3_weigh_61 ?_
    refine w_iald dX3_weigh_62 (ly_Rounds_held_lt hbr) (ly_Rounds_held hbr) (fun x4 => ?_)
    refine g_iconst dX3_weigh_63 ic_1 ?_
    refine g_isub dX3_weigh_64 ?_
    refine w_Vxi [.int _, .int _, .int _] dX3_weigh_65 ml_X3_66 mv_X1_worthOf mc_X1_worthOf cf_X1 (ly_Land_lt hbl) (ly_Land hbl) rfl (Nat.le_of_ble_eq_true rfl) (Nat.le_of_ble_eq_true rfl) (Nat.le_of_ble_eq_true rfl) rfl (co_ol_worthOf _ hbl _ _ _ _) (fun x5 => ?_)
    refine w_iast dX3_weigh_68 (ly_Rounds_last_lt hbr) (ly_Rounds_last hbr) (fun μ6 => ?_)
    refine g_iinc (lo2 := [_, _, _, _, _, _, _, _]) dX3_weigh_69 rfl rfl (Nat.le_of_ble_eq_true rfl) rfl rfl ?_
    refine g_goto (tgt := 8) dX3_weigh_72 (by decide) ?_
    exact g_to (hK_8 _ _) (su_s (su_s (su_s (su_s (su_s (su_n (su_n (su_n su_0))))))))
  · refine g_iconst dX3_weigh_75 ic_0 ?_
    refine g_istore (lo2 := [_, _, _, _, _, _, _, _]) dX3_weigh_76 (Nat.le_of_ble_eq_true rfl) rfl rfl ?_
    exact g_to (lk_og_weigh_78 F br hbr bl hbl _ _ _ _) (su_s (su_s (su_n (su_s (su_s (su_n (su_n (su_n su_0))))))))
theorem lk_og_weigh_8 (F : Nat) (br : Nat) (hbr : g_isRounds br) (bl : Nat) (hbl : g_isLand bl) (v2 : Int32) (v3 : Int32) : ∀ (f : Nat) (v4 : Int32) (μ : g_St) , g_Go gC 1 yX3_weigh cX3_weigh 8 (none : Option Jvm.ClassFile.FieldType) 8 [some (.ref br), some (.ref bl), some (.int v2), some (.int v3), some (.int v4), none, none, none] [] μ (Option.map o_yv (og_weigh_8 F br bl v2 v3 f v4 μ))
  | 0, v4, μ => g_none
  | f + 1, v4, μ => lk_og_weigh_8_b F br hbr bl hbl v2 v3 (og_weigh_8 F br bl v2 v3 f) (lk_og_weigh_8 F br hbr bl hbl v2 v3 f) v4 μ
theorem lk_og_weigh (F : Nat) (br : Nat) (hbr : g_isRounds br) (bl : Nat) (hbl : g_isLand bl) (v2 : Int32) (μ : g_St) : g_Go gC 1 yX3_weigh cX3_weigh 8 (none : Option Jvm.ClassFile.FieldType) 0 [some (.ref br), some (.ref bl), some (.int v2), none, none, none, none, none] [] μ (Option.map o_yv (og_weigh F br bl v2 μ)) := by
  unfold og_weigh
  refine g_iload_n dX3_weigh_0 rfl rfl ?_
  refine g_bipush dX3_weigh_1 bp_6 ?_
  refine g_imul dX3_weigh_3 ?_
  refine g_istore_n (lo2 := [_, _, _, _, _, _, _, _]) dX3_weigh_4 rfl (Nat.le_of_ble_eq_true rfl) rfl rfl ?_
  refine g_iconst dX3_weigh_5 ic_0 ?_
  refine g_istore (lo2 := [_, _, _, _, _, _, _, _]) dX3_weigh_6 (Nat.le_of_ble_eq_true rfl) rfl rfl ?_
  exact g_to (lk_og_weigh_8 F br hbr bl hbl _ _ _ _ _) (su_s (su_s (su_s (su_s (su_s (su_n (su_n (su_n su_0))))))))
theorem co_og_weigh (F : Nat) (br : Nat) (hbr : g_isRounds br) (bl : Nat) (hbl : g_isLand bl) (v2 : Int32) (μ : g_St) : g_Con gC 1 yX3_weigh cX3_weigh 8 (none : Option Jvm.ClassFile.FieldType) [.ref br, .ref bl, .int v2] μ (g_yv (og_weigh F br bl v2 μ)) := g_conOf mc_X3_weigh.2.2.2.2 (Nat.le_of_ble_eq_true rfl) rfl g_yv_rk (lk_og_weigh F br hbr bl hbl v2 μ)
theorem dX3_closeRing_0 : decode cX3_closeRing 0 = .ok (.iconst 0, 1) := by decide +kernel
theorem dX3_closeRing_1 : decode cX3_closeRing 1 = .ok (.istore 7, 2) := by decide +kernel
theorem dX3_closeRing_3 : decode cX3_closeRing 3 = .ok (.iload_n 2, 1) := by decide +kernel
theorem dX3_closeRing_4 : decode cX3_closeRing 4 = .ok (.bipush 6, 2) := by decide +kernel
theorem dX3_closeRing_6 : decode cX3_closeRing 6 = .ok (.imul, 1) := by decide +kernel
theorem dX3_closeRing_7 : decode cX3_closeRing 7 = .ok (.istore 8, 2) := by decide +kernel
theorem dX3_closeRing_9 : decode cX3_closeRing 9 = .ok (.iconst 0, 1) := by decide +kernel
theorem dX3_closeRing_10 : decode cX3_closeRing 10 = .ok (.istore 9, 2) := by decide +kernel
theorem dX3_closeRing_12 : decode cX3_closeRing 12 = .ok (.iload 9, 2) := by decide +kernel
theorem dX3_closeRing_14 : decode cX3_closeRing 14 = .ok (.bipush 6, 2) := by decide +kernel
theorem dX3_closeRing_16 : decode cX3_closeRing 16 = .ok (.if_icmp .ge 105, 3) := by decide +kernel
theorem dX3_closeRing_19 : decode cX3_closeRing 19 = .ok (.iload 4, 2) := by decide +kernel
theorem dX3_closeRing_21 : decode cX3_closeRing 21 = .ok (.iload 9, 2) := by decide +kernel
theorem dX3_closeRing_23 : decode cX3_closeRing 23 = .ok (.ishr, 1) := by decide +kernel
theorem dX3_closeRing_24 : decode cX3_closeRing 24 = .ok (.ifCond .eq 97, 3) := by decide +kernel
theorem dX3_closeRing_27 : decode cX3_closeRing 27 = .ok (.iload 4, 2) := by decide +kernel
theorem dX3_closeRing_29 : decode cX3_closeRing 29 = .ok (.iload 9, 2) := by decide +kernel
theorem dX3_closeRing_31 : decode cX3_closeRing 31 = .ok (.ishr, 1) := by decide +kernel
theorem dX3_closeRing_32 : decode cX3_closeRing 32 = .ok (.iconst 1, 1) := by decide +kernel
theorem dX3_closeRing_33 : decode cX3_closeRing 33 = .ok (.iand, 1) := by decide +kernel
theorem dX3_closeRing_34 : decode cX3_closeRing 34 = .ok (.iconst 1, 1) := by decide +kernel
theorem dX3_closeRing_35 : decode cX3_closeRing 35 = .ok (.if_icmp .ne 80, 3) := by decide +kernel
theorem dX3_closeRing_38 : decode cX3_closeRing 38 = .ok (.aload_n 0, 1) := by decide +kernel
theorem dX3_closeRing_39 : decode cX3_closeRing 39 = .ok (.getfield 24, 3) := by decide +kernel
theorem dX3_closeRing_42 : decode cX3_closeRing 42 = .ok (.iload 8, 2) := by decide +kernel
theorem dX3_closeRing_44 : decode cX3_closeRing 44 = .ok (.iload 9, 2) := by decide +kernel
theorem dX3_closeRing_46 : decode cX3_closeRing 46 = .ok (.iadd, 1) := by decide +kernel
theorem dX3_closeRing_47 : decode cX3_closeRing 47 = .ok (.iaload, 1) := by decide +kernel
theorem dX3_closeRing_48 : decode cX3_closeRing 48 = .ok (.iload_n 3, 1) := by decide +kernel
theorem dX3_closeRing_49 : decode cX3_closeRing 49 = .ok (.ishr, 1) := by decide +kernel
theorem dX3_closeRing_50 : decode cX3_closeRing 50 = .ok (.iconst 1, 1) := by decide +kernel
theorem dX3_closeRing_51 : decode cX3_closeRing 51 = .ok (.iand, 1) := by decide +kernel
theorem dX3_closeRing_52 : decode cX3_closeRing 52 = .ok (.iconst 1, 1) := by decide +kernel
theorem dX3_closeRing_53 : decode cX3_closeRing 53 = .ok (.if_icmp .ne 62, 3) := by decide +kernel
theorem dX3_closeRing_56 : decode cX3_closeRing 56 = .ok (.aload_n 0, 1) := by decide +kernel
theorem dX3_closeRing_57 : decode cX3_closeRing 57 = .ok (.getfield 18, 3) := by decide +kernel
theorem dX3_closeRing_60 : decode cX3_closeRing 60 = .ok (.iload 8, 2) := by decide +kernel
theorem dX3_closeRing_62 : decode cX3_closeRing 62 = .ok (.iload 9, 2) := by decide +kernel
theorem dX3_closeRing_64 : decode cX3_closeRing 64 = .ok (.iadd, 1) := by decide +kernel
theorem dX3_closeRing_65 : decode cX3_closeRing 65 = .ok (.iaload, 1) := by decide +kernel
theorem dX3_closeRing_66 : decode cX3_closeRing 66 = .ok (.aload_n 0, 1) := by decide +kernel
theorem dX3_closeRing_67 : decode cX3_closeRing 67 = .ok (.getfield 21, 3) := by decide +kernel
theorem dX3_closeRing_70 : decode cX3_closeRing 70 = .ok (.iload 8, 2) := by decide +kernel
theorem dX3_closeRing_72 : decode cX3_closeRing 72 = .ok (.iload_n 3, 1) := by decide +kernel
theorem dX3_closeRing_73 : decode cX3_closeRing 73 = .ok (.iadd, 1) := by decide +kernel
theorem dX3_closeRing_74 : decode cX3_closeRing 74 = .ok (.iaload, 1) := by decide +kernel
theorem dX3_closeRing_75 : decode cX3_closeRing 75 = .ok (.isub, 1) := by decide +kernel
theorem dX3_closeRing_76 : decode cX3_closeRing 76 = .ok (.istore 10, 2) := by decide +kernel
theorem dX3_closeRing_78 : decode cX3_closeRing 78 = .ok (.aload_n 0, 1) := by decide +kernel
theorem dX3_closeRing_79 : decode cX3_closeRing 79 = .ok (.getfield 27, 3) := by decide +kernel
theorem dX3_closeRing_82 : decode cX3_closeRing 82 = .ok (.iload_n 1, 1) := by decide +kernel
theorem dX3_closeRing_83 : decode cX3_closeRing 83 = .ok (.aload_n 0, 1) := by decide +kernel
theorem dX3_closeRing_84 : decode cX3_closeRing 84 = .ok (.getfield 27, 3) := by decide +kernel
theorem dX3_closeRing_87 : decode cX3_closeRing 87 = .ok (.iload_n 1, 1) := by decide +kernel
theorem dX3_closeRing_88 : decode cX3_closeRing 88 = .ok (.iaload, 1) := by decide +kernel
theorem dX3_closeRing_89 : decode cX3_closeRing 89 = .ok (.iload 6, 2) := by decide +kernel
theorem dX3_closeRing_91 : decode cX3_closeRing 91 = .ok (.aload_n 0, 1) := by decide +kernel
theorem dX3_closeRing_92 : decode cX3_closeRing 92 = .ok (.getfield 21, 3) := by decide +kernel
theorem dX3_closeRing_95 : decode cX3_closeRing 95 = .ok (.iload 5, 2) := by decide +kernel
theorem dX3_closeRing_97 : decode cX3_closeRing 97 = .ok (.bipush 6, 2) := by decide +kernel
theorem dX3_closeRing_99 : decode cX3_closeRing 99 = .ok (.imul, 1) := by decide +kernel
theorem dX3_closeRing_100 : decode cX3_closeRing 100 = .ok (.iload 9, 2) := by decide +kernel
theorem dX3_closeRing_102 : decode cX3_closeRing 102 = .ok (.iadd, 1) := by decide +kernel
theorem dX3_closeRing_103 : decode cX3_closeRing 103 = .ok (.iaload, 1) := by decide +kernel
theorem dX3_closeRing_104 : decode cX3_closeRing 104 = .ok (.isub, 1) := by decide +kernel
theorem dX3_closeRing_105 : decode cX3_closeRing 105 = .ok (.iload 10, 2) := by decide +kernel
theorem dX3_closeRing_107 : decode cX3_closeRing 107 = .ok (.iadd, 1) := by decide +kernel
theorem dX3_closeRing_108 : decode cX3_closeRing 108 = .ok (.invokestatic 84, 3) := by decide +kernel
theorem dX3_closeRing_111 : decode cX3_closeRing 111 = .ok (.iastore, 1) := by decide +kernel
theorem dX3_closeRing_112 : decode cX3_closeRing 112 = .ok (.iconst 1, 1) := by decide +kernel
theorem dX3_closeRing_113 : decode cX3_closeRing 113 = .ok (.istore 7, 2) := by decide +kernel
theorem dX3_closeRing_115 : decode cX3_closeRing 115 = .ok (.iinc 9 1, 3) := by decide +kernel
theorem dX3_closeRing_118 : decode cX3_closeRing 118 = .ok (.goto (-106), 3) := by decide +kernel
theorem dX3_closeRing_121 : decode cX3_closeRing 121 = .ok (.iload 7, 2) := by decide +kernel
theorem dX3_closeRing_123 : decode cX3_closeRing 123 = .ok (.ireturn, 1) := by decide +kernel
theorem lk_og_closeRing_12_b (F : Nat) (br : Nat) (hbr : g_isRounds br) (v1 : Int32) (v3 : Int32) (v4 : Int32) (v5 : Int32) (v6 : Int32) (v8 : Int32) (K_12 : Int32 → Int32 → g_St → Option (Int32 × g_St)) (hK_12 : ∀ (w7 : Int32) (w9 : Int32) (ν : g_St), g_Go gC 1 yX3_closeRing cX3_closeRing 11 (some .boolean) 12 [some (.ref br), some (.int v1), none, some (.int v3), some (.int v4), some (.int v5), some (.int v6), some (.int w7), some (.int v8), some (.int w9), none] [] ν (Option.map o_yi (K_12 w7 w9 ν))) (v7 : Int32) (v9 : Int32) (μ : g_St) : g_Go gC 1 yX3_closeRing cX3_closeRing 11 (some .boolean) 12 [some (.ref br), some (.int v1), none, some (.int v3), some (.int v4), some (.int v5), some (.int v6), some (.int v7), some (.int v8), some (.int v9), none] [] μ (Option.map o_yi (og_closeRing_12_b F br v1 v3 v4 v5 v6 v8 K_12 v7 v9 μ)) := by
  unfold og_closeRing_12_b
  refine g_iload dX3_closeRing_12 rfl ?_
  refine g_bipush dX3_closeRing_14 bp_6 ?_
  refine w_icmp_ge (tgt := 121) dX3_closeRing_16 (by decide) ?_ ?_
  · refine g_iload dX3_closeRing_19 rfl ?_
    refine g_iload dX3_closeRing_21 rfl ?_
    refine g_ishr dX3_closeRing_23 ?_
    refine w_if_eq (tgt := 121) dX3_closeRing_24 (by decide) ?_ ?_
    · refine g_iload dX3_closeRing_121 rfl ?_
      exact w_zret dX3_closeRing_123 rfl rfl
    · refine g_iload dX3_closeRing_27 rfl ?_
      refine g_iload dX3_closeRing_29 rfl ?_
      refine g_ishr dX3_closeRing_31 ?_
      refine g_iconst dX3_closeRing_32 ic_1 ?_
      refine g_iand dX3_closeRing_33 ?_
      refine g_iconst dX3_closeRing_34 ic_1 ?_
      refine w_icmp_ne (tgt := 115) dX3_closeRing_35 (by decide) ?_ ?_
      · refine g_aload_n dX3_closeRing_38 rfl rfl ?_
        refine g_getS dX3_closeRing_39 cf_X3 fl_X3_24 (ly_Rounds_lt hbr) (ly_Rounds hbr) rfl (Nat.le_of_ble_eq_true rfl) ?_
        refine g_iload dX3_closeRing_42 rfl ?_
        refine g_iload dX3_closeRing_44 rfl ?_
        refine g_iadd dX3_closeRing_46 ?_
        refine w_iald dX3_closeRing_47 (ly_Rounds_glad_lt hbr) (ly_Rounds_glad hbr) (fun x1 => ?_)
        refine g_iload_n dX3_closeRing_48 rfl rfl ?_
        refine g_ishr dX3_closeRing_49 ?_
        refine g_iconst dX3_closeRing_50 ic_1 ?_
        refine g_iand dX3_closeRing_51 ?_
        refine g_iconst dX3_closeRing_52 ic_1 ?_
        refine w_icmp_ne (tgt := 115) dX3_closeRing_53 (by decide) ?_ ?_
        · refine g_aload_n dX3_closeRing_56 rfl rfl ?_
          refine g_getS dX3_closeRing_57 cf_X3 fl_X3_18 (ly_Rounds_lt hbr) (ly_Rounds hbr) rfl (Nat.le_of_ble_eq_true rfl) ?_
          refine g_iload dX3_closeRing_60 rfl ?_
          refine g_iload dX3_closeRing_62 rfl ?_
          refine g_iadd dX3_closeRing_64 ?_
          refine w_iald dX3_closeRing_65 (ly_Rounds_more_lt hbr) (ly_Rounds_more hbr) (fun x2 => ?_)
          refine g_aload_n dX3_closeRing_66 rfl rfl ?_
          refine g_getS dX3_closeRing_67 cf_X3 fl_X3_21 (ly_Rounds_lt hbr) (ly_Rounds hbr) rfl (Nat.le_of_ble_eq_true rfl) ?_
          refine g_iload dX3_closeRing_70 rfl ?_
          refine g_iload_n dX3_closeRing_72 rfl rfl ?_
          refine g_iadd dX3_closeRing_73 ?_
          refine w_iald dX3_closeRing_74 (ly_Rounds_last_lt hbr) (ly_Rounds_last hbr) (fun x3 => ?_)
          refine g_isub dX3_closeRing_75 ?_
          refine g_istore (lo2 := [_, _, _, _, _, _, _, _, _, _, _]) dX3_closeRing_76 (Nat.le_of_ble_eq_true rfl) rfl rfl ?_
          refine g_aload_n dX3_closeRing_78 rfl rfl ?_
          refine g_getS dX3_closeRing_79 cf_X3 fl_X3_27 (ly_Rounds_lt hbr) (ly_Rounds hbr) rfl (Nat.le_of_ble_eq_true rfl) ?_
          refine g_iload_n dX3_closeRing_82 rfl rfl ?_
          refine g_aload_n dX3_closeRing_83 rfl rfl ?_
          refine g_getS dX3_closeRing_84 cf_X3 fl_X3_27 (ly_Rounds_lt hbr) (ly_Rounds hbr) rfl (Nat.le_of_ble_eq_true rfl) ?_
          refine g_iload_n dX3_closeRing_87 rfl rfl ?_
          refine w_iald dX3_closeRing_88 (ly_Rounds_best_lt hbr) (ly_Rounds_best hbr) (fun x4 => ?_)
          refine g_iload dX3_closeRing_89 rfl ?_
          refine g_aload_n dX3_closeRing_91 rfl rfl ?_
          refine g_getS dX3_closeRing_92 cf_X3 fl_X3_21 (ly_Rounds_lt hbr) (ly_Rounds hbr) rfl (Nat.le_of_ble_eq_true rfl) ?_
          refine g_iload dX3_closeRing_95 rfl ?_
          refine g_bipush dX3_closeRing_97 bp_6 ?_
          refine g_imul dX3_closeRing_99 ?_
          refine g_iload dX3_closeRing_100 rfl ?_
          refine g_iadd dX3_closeRing_102 ?_
          refine w_iald dX3_closeRing_103 (ly_Rounds_last_lt hbr) (ly_Rounds_last hbr) (fun x5 => ?_)
          refine g_isub dX3_closeRing_104 ?_
          refine g_iload dX3_closeRing_105 rfl ?_
          refine g_iadd dX3_closeRing_107 ?_
          refine g_mmax g_mm dX3_closeRing_108 mh_X3_84 (Nat.le_of_ble_eq_true rfl) (Nat.le_of_ble_eq_true rfl) ?_
          refine w_iast dX3_closeRing_111 (ly_Rounds_best_lt hbr) (ly_Rounds_best hbr) (fun μ6 => ?_)
          refine g_iconst dX3_closeRing_112 ic_1 ?_
          refine g_istore (lo2 := [_, _, _, _, _, _, _, _, _, _, _]) dX3_closeRing_113 (Nat.le_of_ble_eq_true rfl) rfl rfl ?_
          refine g_iinc (lo2 := [_, _, _, _, _, _, _, _, _, _, _]) dX3_closeRing_115 rfl rfl (Nat.le_of_ble_eq_true rfl) rfl rfl ?_
          refine g_goto (tgt := 12) dX3_closeRing_118 (by decide) ?_
          exact g_to (hK_12 _ _ _) (su_s (su_s (su_n (su_s (su_s (su_s (su_s (su_s (su_s (su_s (su_n su_0)))))))))))
        · refine g_iinc (lo2 := [_, _, _, _, _, _, _, _, _, _, _]) dX3_closeRing_115 rfl rfl (Nat.le_of_ble_eq_true rfl) rfl rfl ?_
          refine g_goto (tgt := 12) dX3_closeRing_118 (by decide) ?_
          exact g_to (hK_12 _ _ _) (su_s (su_s (su_n (su_s (su_s (su_s (su_s (su_s (su_s (su_s (su_n su_0)))))))))))
      · refine g_iinc (lo2 := [_, _, _, _, _, _, _, _, _, _, _]) dX3_closeRing_115 rfl rfl (Nat.le_of_ble_eq_true rfl) rfl rfl ?_
        refine g_goto (tgt := 12) dX3_closeRing_118 (by decide) ?_
        exact g_to (hK_12 _ _ _) (su_s (su_s (su_n (su_s (su_s (su_s (su_s (su_s (su_s (su_s (su_n su_0)))))))))))
  · refine g_iload dX3_closeRing_121 rfl ?_
    exact w_zret dX3_closeRing_123 rfl rfl
theorem lk_og_closeRing_12 (F : Nat) (br : Nat) (hbr : g_isRounds br) (v1 : Int32) (v3 : Int32) (v4 : Int32) (v5 : Int32) (v6 : Int32) (v8 : Int32) : ∀ (f : Nat) (v7 : Int32) (v9 : Int32) (μ : g_St) , g_Go gC 1 yX3_closeRing cX3_closeRing 11 (some .boolean) 12 [some (.ref br), some (.int v1), none, some (.int v3), some (.int v4), some (.int v5), some (.int v6), some (.int v7), some (.int v8), some (.int v9), none] [] μ (Option.map o_yi (og_closeRing_12 F br v1 v3 v4 v5 v6 v8 f v7 v9 μ))
  | 0, v7, v9, μ => g_none
  | f + 1, v7, v9, μ => lk_og_closeRing_12_b F br hbr v1 v3 v4 v5 v6 v8 (og_closeRing_12 F br v1 v3 v4 v5 v6 v8 f) (lk_og_closeRing_12 F br hbr v1 v3 v4 v5 v6 v8 f) v7 v9 μ
theorem lk_og_closeRing (F : Nat) (br : Nat) (hbr : g_isRounds br) (v1 : Int32) (v2 : Int32) (v3 : Int32) (v4 : Int32) (v5 : Int32) (v6 : Int32) (μ : g_St) : g_Go gC 1 yX3_closeRing cX3_closeRing 11 (some .boolean) 0 [some (.ref br), some (.int v1), some (.int v2), some (.int v3), some (.int v4), some (.int v5), some (.int v6), none, none, none, none] [] μ (Option.map o_yi (og_closeRing F br v1 v2 v3 v4 v5 v6 μ)) := by
  unfold og_closeRing
  refine g_iconst dX3_closeRing_0 ic_0 ?_
  refine g_istore (lo2 := [_, _, _, _, _, _, _, _, _, _, _]) dX3_closeRing_1 (Nat.le_of_ble_eq_true rfl) rfl rfl ?_
  refine g_iload_n dX3_closeRing_3 rfl rfl ?_
  refine g_bipush dX3_closeRing_4 bp_6 ?_
  refine g_imul dX3_closeRing_6 ?_
  refine g_istore (lo2 := [_, _, _, _, _, _, _, _, _, _, _]) dX3_closeRing_7 (Nat.le_of_ble_eq_true rfl) rfl rfl ?_
  refine g_iconst dX3_closeRing_9 ic_0 ?_
  refine g_istore (lo2 := [_, _, _, _, _, _, _, _, _, _, _]) dX3_closeRing_10 (Nat.le_of_ble_eq_true rfl) rfl rfl ?_
  exact g_to (lk_og_closeRing_12 F br hbr _ _ _ _ _ _ _ _ _ _) (su_s (su_s (su_n (su_s (su_s (su_s (su_s (su_s (su_s (su_s (su_n su_0)))))))))))
theorem co_og_closeRing (F : Nat) (br : Nat) (hbr : g_isRounds br) (v1 : Int32) (v2 : Int32) (v3 : Int32) (v4 : Int32) (v5 : Int32) (v6 : Int32) (μ : g_St) : g_Con gC 1 yX3_closeRing cX3_closeRing 11 (some .boolean) [.ref br, .int v1, .int v2, .int v3, .int v4, .int v5, .int v6] μ (g_yi (og_closeRing F br v1 v2 v3 v4 v5 v6 μ)) := g_conOf mc_X3_closeRing.2.2.2.2 (Nat.le_of_ble_eq_true rfl) rfl (g_yi_rk (Or.inr (Or.inl rfl))) (lk_og_closeRing F br hbr v1 v2 v3 v4 v5 v6 μ)
theorem dX3_goOn_0 : decode cX3_goOn 0 = .ok (.aload_n 0, 1) := by decide +kernel
theorem dX3_goOn_1 : decode cX3_goOn 1 = .ok (.getfield 24, 3) := by decide +kernel
theorem dX3_goOn_4 : decode cX3_goOn 4 = .ok (.iload 4, 2) := by decide +kernel
theorem dX3_goOn_6 : decode cX3_goOn 6 = .ok (.bipush 6, 2) := by decide +kernel
theorem dX3_goOn_8 : decode cX3_goOn 8 = .ok (.imul, 1) := by decide +kernel
theorem dX3_goOn_9 : decode cX3_goOn 9 = .ok (.iload 5, 2) := by decide +kernel
theorem dX3_goOn_11 : decode cX3_goOn 11 = .ok (.iadd, 1) := by decide +kernel
theorem dX3_goOn_12 : decode cX3_goOn 12 = .ok (.iaload, 1) := by decide +kernel
theorem dX3_goOn_13 : decode cX3_goOn 13 = .ok (.istore 7, 2) := by decide +kernel
theorem dX3_goOn_15 : decode cX3_goOn 15 = .ok (.iload 6, 2) := by decide +kernel
theorem dX3_goOn_17 : decode cX3_goOn 17 = .ok (.aload_n 0, 1) := by decide +kernel
theorem dX3_goOn_18 : decode cX3_goOn 18 = .ok (.getfield 18, 3) := by decide +kernel
theorem dX3_goOn_21 : decode cX3_goOn 21 = .ok (.iload 4, 2) := by decide +kernel
theorem dX3_goOn_23 : decode cX3_goOn 23 = .ok (.bipush 6, 2) := by decide +kernel
theorem dX3_goOn_25 : decode cX3_goOn 25 = .ok (.imul, 1) := by decide +kernel
theorem dX3_goOn_26 : decode cX3_goOn 26 = .ok (.iload 5, 2) := by decide +kernel
theorem dX3_goOn_28 : decode cX3_goOn 28 = .ok (.iadd, 1) := by decide +kernel
theorem dX3_goOn_29 : decode cX3_goOn 29 = .ok (.iaload, 1) := by decide +kernel
theorem dX3_goOn_30 : decode cX3_goOn 30 = .ok (.iadd, 1) := by decide +kernel
theorem dX3_goOn_31 : decode cX3_goOn 31 = .ok (.istore 8, 2) := by decide +kernel
theorem dX3_goOn_33 : decode cX3_goOn 33 = .ok (.aload_n 0, 1) := by decide +kernel
theorem dX3_goOn_34 : decode cX3_goOn 34 = .ok (.iload_n 1, 1) := by decide +kernel
theorem dX3_goOn_35 : decode cX3_goOn 35 = .ok (.iload_n 2, 1) := by decide +kernel
theorem dX3_goOn_36 : decode cX3_goOn 36 = .ok (.iload_n 3, 1) := by decide +kernel
theorem dX3_goOn_37 : decode cX3_goOn 37 = .ok (.iload 7, 2) := by decide +kernel
theorem dX3_goOn_39 : decode cX3_goOn 39 = .ok (.aload_n 0, 1) := by decide +kernel
theorem dX3_goOn_40 : decode cX3_goOn 40 = .ok (.getfield 9, 3) := by decide +kernel
theorem dX3_goOn_43 : decode cX3_goOn 43 = .ok (.iload 4, 2) := by decide +kernel
theorem dX3_goOn_45 : decode cX3_goOn 45 = .ok (.bipush 8, 2) := by decide +kernel
theorem dX3_goOn_47 : decode cX3_goOn 47 = .ok (.imul, 1) := by decide +kernel
theorem dX3_goOn_48 : decode cX3_goOn 48 = .ok (.iload_n 2, 1) := by decide +kernel
theorem dX3_goOn_49 : decode cX3_goOn 49 = .ok (.iadd, 1) := by decide +kernel
theorem dX3_goOn_50 : decode cX3_goOn 50 = .ok (.iaload, 1) := by decide +kernel
theorem dX3_goOn_51 : decode cX3_goOn 51 = .ok (.iand, 1) := by decide +kernel
theorem dX3_goOn_52 : decode cX3_goOn 52 = .ok (.iload 4, 2) := by decide +kernel
theorem dX3_goOn_54 : decode cX3_goOn 54 = .ok (.iload 8, 2) := by decide +kernel
theorem dX3_goOn_56 : decode cX3_goOn 56 = .ok (.invokevirtual 74, 3) := by decide +kernel
theorem dX3_goOn_59 : decode cX3_goOn 59 = .ok (.istore 9, 2) := by decide +kernel
theorem dX3_goOn_61 : decode cX3_goOn 61 = .ok (.iload_n 1, 1) := by decide +kernel
theorem dX3_goOn_62 : decode cX3_goOn 62 = .ok (.invokestatic 78, 3) := by decide +kernel
theorem dX3_goOn_65 : decode cX3_goOn 65 = .ok (.iconst 5, 1) := by decide +kernel
theorem dX3_goOn_66 : decode cX3_goOn 66 = .ok (.if_icmp .lt 6, 3) := by decide +kernel
theorem dX3_goOn_69 : decode cX3_goOn 69 = .ok (.iload 9, 2) := by decide +kernel
theorem dX3_goOn_71 : decode cX3_goOn 71 = .ok (.ireturn, 1) := by decide +kernel
theorem dX3_goOn_72 : decode cX3_goOn 72 = .ok (.iload_n 2, 1) := by decide +kernel
theorem dX3_goOn_73 : decode cX3_goOn 73 = .ok (.iconst 1, 1) := by decide +kernel
theorem dX3_goOn_74 : decode cX3_goOn 74 = .ok (.iadd, 1) := by decide +kernel
theorem dX3_goOn_75 : decode cX3_goOn 75 = .ok (.istore 10, 2) := by decide +kernel
theorem dX3_goOn_77 : decode cX3_goOn 77 = .ok (.iload 10, 2) := by decide +kernel
theorem dX3_goOn_79 : decode cX3_goOn 79 = .ok (.bipush 8, 2) := by decide +kernel
theorem dX3_goOn_81 : decode cX3_goOn 81 = .ok (.if_icmp .ge 117, 3) := by decide +kernel
theorem dX3_goOn_84 : decode cX3_goOn 84 = .ok (.iload_n 1, 1) := by decide +kernel
theorem dX3_goOn_85 : decode cX3_goOn 85 = .ok (.iload 10, 2) := by decide +kernel
theorem dX3_goOn_87 : decode cX3_goOn 87 = .ok (.ishr, 1) := by decide +kernel
theorem dX3_goOn_88 : decode cX3_goOn 88 = .ok (.iconst 1, 1) := by decide +kernel
theorem dX3_goOn_89 : decode cX3_goOn 89 = .ok (.iand, 1) := by decide +kernel
theorem dX3_goOn_90 : decode cX3_goOn 90 = .ok (.iconst 1, 1) := by decide +kernel
theorem dX3_goOn_91 : decode cX3_goOn 91 = .ok (.if_icmp .ne 7, 3) := by decide +kernel
theorem dX3_goOn_94 : decode cX3_goOn 94 = .ok (.iconst 0, 1) := by decide +kernel
theorem dX3_goOn_95 : decode cX3_goOn 95 = .ok (.goto 19, 3) := by decide +kernel
theorem dX3_goOn_98 : decode cX3_goOn 98 = .ok (.iload 7, 2) := by decide +kernel
theorem dX3_goOn_100 : decode cX3_goOn 100 = .ok (.aload_n 0, 1) := by decide +kernel
theorem dX3_goOn_101 : decode cX3_goOn 101 = .ok (.getfield 9, 3) := by decide +kernel
theorem dX3_goOn_104 : decode cX3_goOn 104 = .ok (.iload 4, 2) := by decide +kernel
theorem dX3_goOn_106 : decode cX3_goOn 106 = .ok (.bipush 8, 2) := by decide +kernel
theorem dX3_goOn_108 : decode cX3_goOn 108 = .ok (.imul, 1) := by decide +kernel
theorem dX3_goOn_109 : decode cX3_goOn 109 = .ok (.iload 10, 2) := by decide +kernel
theorem dX3_goOn_111 : decode cX3_goOn 111 = .ok (.iadd, 1) := by decide +kernel
theorem dX3_goOn_112 : decode cX3_goOn 112 = .ok (.iaload, 1) := by decide +kernel
theorem dX3_goOn_113 : decode cX3_goOn 113 = .ok (.iand, 1) := by decide +kernel
theorem dX3_goOn_114 : decode cX3_goOn 114 = .ok (.istore 11, 2) := by decide +kernel
theorem dX3_goOn_116 : decode cX3_goOn 116 = .ok (.iconst 0, 1) := by decide +kernel
theorem dX3_goOn_117 : decode cX3_goOn 117 = .ok (.istore 12, 2) := by decide +kernel
theorem dX3_goOn_119 : decode cX3_goOn 119 = .ok (.iload 12, 2) := by decide +kernel
theorem dX3_goOn_121 : decode cX3_goOn 121 = .ok (.bipush 6, 2) := by decide +kernel
theorem dX3_goOn_123 : decode cX3_goOn 123 = .ok (.if_icmp .ge 69, 3) := by decide +kernel
theorem dX3_goOn_126 : decode cX3_goOn 126 = .ok (.iload 11, 2) := by decide +kernel
theorem dX3_goOn_128 : decode cX3_goOn 128 = .ok (.iload 12, 2) := by decide +kernel
theorem dX3_goOn_130 : decode cX3_goOn 130 = .ok (.ishr, 1) := by decide +kernel
theorem dX3_goOn_131 : decode cX3_goOn 131 = .ok (.ifCond .eq 61, 3) := by decide +kernel
theorem dX3_goOn_134 : decode cX3_goOn 134 = .ok (.iload 11, 2) := by decide +kernel
theorem dX3_goOn_136 : decode cX3_goOn 136 = .ok (.iload 12, 2) := by decide +kernel
theorem dX3_goOn_138 : decode cX3_goOn 138 = .ok (.ishr, 1) := by decide +kernel
theorem dX3_goOn_139 : decode cX3_goOn 139 = .ok (.iconst 1, 1) := by decide +kernel
theorem dX3_goOn_140 : decode cX3_goOn 140 = .ok (.iand, 1) := by decide +kernel
theorem dX3_goOn_141 : decode cX3_goOn 141 = .ok (.iconst 1, 1) := by decide +kernel
theorem dX3_goOn_142 : decode cX3_goOn 142 = .ok (.if_icmp .ne 44, 3) := by decide +kernel
theorem dX3_goOn_145 : decode cX3_goOn 145 = .ok (.iload 8, 2) := by decide +kernel
theorem dX3_goOn_147 : decode cX3_goOn 147 = .ok (.aload_n 0, 1) := by decide +kernel
theorem dX3_goOn_148 : decode cX3_goOn 148 = .ok (.getfield 21, 3) := by decide +kernel
theorem dX3_goOn_151 : decode cX3_goOn 151 = .ok (.iload 4, 2) := by decide +kernel
theorem dX3_goOn_153 : decode cX3_goOn 153 = .ok (.bipush 6, 2) := by decide +kernel
theorem dX3_goOn_155 : decode cX3_goOn 155 = .ok (.imul, 1) := by decide +kernel
theorem dX3_goOn_156 : decode cX3_goOn 156 = .ok (.iload 12, 2) := by decide +kernel
theorem dX3_goOn_158 : decode cX3_goOn 158 = .ok (.iadd, 1) := by decide +kernel
theorem dX3_goOn_159 : decode cX3_goOn 159 = .ok (.iaload, 1) := by decide +kernel
theorem dX3_goOn_160 : decode cX3_goOn 160 = .ok (.isub, 1) := by decide +kernel
theorem dX3_goOn_161 : decode cX3_goOn 161 = .ok (.istore 13, 2) := by decide +kernel
theorem dX3_goOn_163 : decode cX3_goOn 163 = .ok (.iload 9, 2) := by decide +kernel
theorem dX3_goOn_165 : decode cX3_goOn 165 = .ok (.aload_n 0, 1) := by decide +kernel
theorem dX3_goOn_166 : decode cX3_goOn 166 = .ok (.iload_n 1, 1) := by decide +kernel
theorem dX3_goOn_167 : decode cX3_goOn 167 = .ok (.iconst 1, 1) := by decide +kernel
theorem dX3_goOn_168 : decode cX3_goOn 168 = .ok (.iload 10, 2) := by decide +kernel
theorem dX3_goOn_170 : decode cX3_goOn 170 = .ok (.ishl, 1) := by decide +kernel
theorem dX3_goOn_171 : decode cX3_goOn 171 = .ok (.ior, 1) := by decide +kernel
theorem dX3_goOn_172 : decode cX3_goOn 172 = .ok (.iload_n 2, 1) := by decide +kernel
theorem dX3_goOn_173 : decode cX3_goOn 173 = .ok (.iload_n 3, 1) := by decide +kernel
theorem dX3_goOn_174 : decode cX3_goOn 174 = .ok (.iload 10, 2) := by decide +kernel
theorem dX3_goOn_176 : decode cX3_goOn 176 = .ok (.iload 12, 2) := by decide +kernel
theorem dX3_goOn_178 : decode cX3_goOn 178 = .ok (.iload 13, 2) := by decide +kernel
theorem dX3_goOn_180 : decode cX3_goOn 180 = .ok (.invokestatic 70, 3) := by decide +kernel
theorem dX3_goOn_183 : decode cX3_goOn 183 = .ok (.ior, 1) := by decide +kernel
theorem dX3_goOn_184 : decode cX3_goOn 184 = .ok (.istore 9, 2) := by decide +kernel
theorem dX3_goOn_186 : decode cX3_goOn 186 = .ok (.iinc 12 1, 3) := by decide +kernel
theorem dX3_goOn_189 : decode cX3_goOn 189 = .ok (.goto (-70), 3) := by decide +kernel
theorem dX3_goOn_192 : decode cX3_goOn 192 = .ok (.iinc 10 1, 3) := by decide +kernel
theorem dX3_goOn_195 : decode cX3_goOn 195 = .ok (.goto (-118), 3) := by decide +kernel
theorem dX3_goOn_198 : decode cX3_goOn 198 = .ok (.iload 9, 2) := by decide +kernel
theorem dX3_goOn_200 : decode cX3_goOn 200 = .ok (.ireturn, 1) := by decide +kernel
theorem lk_og_goOn_119_b (D : Nat) (F : Nat) (br : Nat) (hbr : g_isRounds br) (rec : Int32 → Int32 → Int32 → Int32 → Int32 → Int32 → g_St → Option (Int32 × g_St)) (hrec : ∀ (v1 : Int32) (v2 : Int32) (v3 : Int32) (v4 : Int32) (v5 : Int32) (v6 : Int32) (μ : g_St), g_Con gC (2 + D) yX3_goOn cX3_goOn 14 (some .boolean) [.ref br, .int v1, .int v2, .int v3, .int v4, .int v5, .int v6] μ (g_yi (rec v1 v2 v3 v4 v5 v6 μ))) (v1 : Int32) (v2 : Int32) (v3 : Int32) (v4 : Int32) (v7 : Int32) (v8 : Int32) (v10 : Int32) (v11 : Int32) (K_77 : Int32 → Int32 → g_St → Option (Int32 × g_St)) (hK_77 : ∀ (w9 : Int32) (w10 : Int32) (ν : g_St), g_Go gC (2 + (D + 1)) yX3_goOn cX3_goOn 14 (some .boolean) 77 [some (.ref br), some (.int v1), some (.int v2), some (.int v3), some (.int v4), none, none, some (.int v7), some (.int v8), some (.int w9), some (.int w10), none, none, none] [] ν (Option.map o_yi (K_77 w9 w10 ν))) (K_119 : Int32 → Int32 → g_St → Option (Int32 × g_St)) (hK_119 : ∀ (w9 : Int32) (w12 : Int32) (ν : g_St), g_Go gC (2 + (D + 1)) yX3_goOn cX3_goOn 14 (some .boolean) 119 [some (.ref br), some (.int v1), some (.int v2), some (.int v3), some (.int v4), none, none, some (.int v7), some (.int v8), some (.int w9), some (.int v10), some (.int v11), some (.int w12), none] [] ν (Option.map o_yi (K_119 w9 w12 ν))) (v9 : Int32) (v12 : Int32) (μ : g_St) : g_Go gC (2 + (D + 1)) yX3_goOn cX3_goOn 14 (some .boolean) 119 [some (.ref br), some (.int v1), some (.int v2), some (.int v3), some (.int v4), none, none, some (.int v7), some (.int v8), some (.int v9), some (.int v10), some (.int v11), some (.int v12), none] [] μ (Option.map o_yi (og_goOn_119_b F br rec v1 v2 v3 v4 v7 v8 v10 v11 K_77 K_119 v9 v12 μ)) := by
  unfold og_goOn_119_b
  refine g_iload dX3_goOn_119 rfl ?_
  refine g_bipush dX3_goOn_121 bp_6 ?_
  refine w_icmp_ge (tgt := 192) dX3_goOn_123 (by decide) ?_ ?_
  · refine g_iload dX3_goOn_126 rfl ?_
    refine g_iload dX3_goOn_128 rfl ?_
    refine g_ishr dX3_goOn_130 ?_
    refine w_if_eq (tgt := 192) dX3_goOn_131 (by decide) ?_ ?_
    · refine g_iinc (lo2 := [_, _, _, _, _, _, _, _, _, _, _, _, _, _]) dX3_goOn_192 rfl rfl (Nat.le_of_ble_eq_true rfl) rfl rfl ?_
      refine g_goto (tgt := 77) dX3_goOn_195 (by decide) ?_
      exact g_to (hK_77 _ _ _) (su_s (su_s (su_s (su_s (su_s (su_n (su_n (su_s (su_s (su_s (su_s (su_n (su_n (su_n su_0))))))))))))))
    · refine g_iload dX3_goOn_134 rfl ?_
      refine g_iload dX3_goOn_136 rfl ?_
      refine g_ishr dX3_goOn_138 ?_
      refine g_iconst dX3_goOn_139 ic_1 ?_
      refine g_iand dX3_goOn_140 ?_
      refine g_iconst dX3_goOn_141 ic_1 ?_
      refine w_icmp_ne (tgt := 186) dX3_goOn_142 (by decide) ?_ ?_
      · refine g_iload dX3_goOn_145 rfl ?_
        refine g_aload_n dX3_goOn_147 rfl rfl ?_
        refine g_getS dX3_goOn_148 cf_X3 fl_X3_21 (ly_Rounds_lt hbr) (ly_Rounds hbr) rfl (Nat.le_of_ble_eq_true rfl) ?_
        refine g_iload dX3_goOn_151 rfl ?_
        refine g_bipush dX3_goOn_153 bp_6 ?_
        refine g_imul dX3_goOn_155 ?_
        refine g_iload dX3_goOn_156 rfl ?_
        refine g_iadd dX3_goOn_158 ?_
        refine w_iald dX3_goOn_159 (ly_Rounds_last_lt hbr) (ly_Rounds_last hbr) (fun x6 => ?_)
        refine g_isub dX3_goOn_160 ?_
        refine g_istore (lo2 := [_, _, _, _, _, _, _, _, _, _, _, _, _, _]) dX3_goOn_161 (Nat.le_of_ble_eq_true rfl) rfl rfl ?_
        refine g_iload dX3_goOn_163 rfl ?_
        refine g_aload_n dX3_goOn_165 rfl rfl ?_
        refine g_iload_n dX3_goOn_166 rfl rfl ?_
        refine g_iconst dX3_goOn_167 ic_1 ?_
        refine g_iload dX3_goOn_168 rfl ?_
        refine g_ishl dX3_goOn_170 ?_
        refine g_ior dX3_goOn_171 ?_
        refine g_iload_n dX3_goOn_172 rfl rfl ?_
        refine g_iload_n dX3_goOn_173 rfl rfl ?_
        refine g_iload dX3_goOn_174 rfl ?_
        refine g_iload dX3_goOn_176 rfl ?_
        refine g_iload dX3_goOn_178 rfl ?_
        refine w_Syi [.ref _, .int _, .int _, .int _, .int _, .int _, .int _] dX3_goOn_180 ml_X3_70 ms_X3_goOn mc_X3_goOn rfl (by omega) (Nat.le_of_ble_eq_true rfl) (Nat.le_of_ble_eq_true rfl) rfl (hrec _ _ _ _ _ _ _) (fun q7 => ?_)
        refine g_ior dX3_goOn_183 ?_
        refine g_istore (lo2 := [_, _, _, _, _, _, _, _, _, _, _, _, _, _]) dX3_goOn_184 (Nat.le_of_ble_eq_true rfl) rfl rfl ?_
        refine g_iinc (lo2 := [_, _, _, _, _, _, _, _, _, _, _, _, _, _]) dX3_goOn_186 rfl rfl (Nat.le_of_ble_eq_true rfl) rfl rfl ?_
        refine g_goto (tgt := 119) dX3_goOn_189 (by decide) ?_
        exact g_to (hK_119 _ _ _) (su_s (su_s (su_s (su_s (su_s (su_n (su_n (su_s (su_s (su_s (su_s (su_s (su_s (su_n su_0))))))))))))))
      · refine g_iinc (lo2 := [_, _, _, _, _, _, _, _, _, _, _, _, _, _]) dX3_goOn_186 rfl rfl (Nat.le_of_ble_eq_true rfl) rfl rfl ?_
        refine g_goto (tgt := 119) dX3_goOn_189 (by decide) ?_
        exact g_to (hK_119 _ _ _) (su_s (su_s (su_s (su_s (su_s (su_n (su_n (su_s (su_s (su_s (su_s (su_s (su_s (su_n su_0))))))))))))))
  · refine g_iinc (lo2 := [_, _, _, _, _, _, _, _, _, _, _, _, _, _]) dX3_goOn_192 rfl rfl (Nat.le_of_ble_eq_true rfl) rfl rfl ?_
    refine g_goto (tgt := 77) dX3_goOn_195 (by decide) ?_
    exact g_to (hK_77 _ _ _) (su_s (su_s (su_s (su_s (su_s (su_n (su_n (su_s (su_s (su_s (su_s (su_n (su_n (su_n su_0))))))))))))))
theorem lk_og_goOn_119 (D : Nat) (F : Nat) (br : Nat) (hbr : g_isRounds br) (rec : Int32 → Int32 → Int32 → Int32 → Int32 → Int32 → g_St → Option (Int32 × g_St)) (hrec : ∀ (v1 : Int32) (v2 : Int32) (v3 : Int32) (v4 : Int32) (v5 : Int32) (v6 : Int32) (μ : g_St), g_Con gC (2 + D) yX3_goOn cX3_goOn 14 (some .boolean) [.ref br, .int v1, .int v2, .int v3, .int v4, .int v5, .int v6] μ (g_yi (rec v1 v2 v3 v4 v5 v6 μ))) (v1 : Int32) (v2 : Int32) (v3 : Int32) (v4 : Int32) (v7 : Int32) (v8 : Int32) (v10 : Int32) (v11 : Int32) (K_77 : Int32 → Int32 → g_St → Option (Int32 × g_St)) (hK_77 : ∀ (w9 : Int32) (w10 : Int32) (ν : g_St), g_Go gC (2 + (D + 1)) yX3_goOn cX3_goOn 14 (some .boolean) 77 [some (.ref br), some (.int v1), some (.int v2), some (.int v3), some (.int v4), none, none, some (.int v7), some (.int v8), some (.int w9), some (.int w10), none, none, none] [] ν (Option.map o_yi (K_77 w9 w10 ν))) : ∀ (f : Nat) (v9 : Int32) (v12 : Int32) (μ : g_St) , g_Go gC (2 + (D + 1)) yX3_goOn cX3_goOn 14 (some .boolean) 119 [some (.ref br), some (.int v1), some (.int v2), some (.int v3), some (.int v4), none, none, some (.int v7), some (.int v8), some (.int v9), some (.int v10), some (.int v11), some (.int v12), none] [] μ (Option.map o_yi (og_goOn_119 F br rec v1 v2 v3 v4 v7 v8 v10 v11 K_77 f v9 v12 μ))
  | 0, v9, v12, μ => g_none
  | f + 1, v9, v12, μ => lk_og_goOn_119_b D F br hbr rec hrec v1 v2 v3 v4 v7 v8 v10 v11 K_77 hK_77 (og_goOn_119 F br rec v1 v2 v3 v4 v7 v8 v10 v11 K_77 f) (lk_og_goOn_119 D F br hbr rec hrec v1 v2 v3 v4 v7 v8 v10 v11 K_77 hK_77 f) v9 v12 μ
theorem lk_og_goOn_77_b (D : Nat) (F : Nat) (br : Nat) (hbr : g_isRounds br) (rec : Int32 → Int32 → Int32 → Int32 → Int32 → Int32 → g_St → Option (Int32 × g_St)) (hrec : ∀ (v1 : Int32) (v2 : Int32) (v3 : Int32) (v4 : Int32) (v5 : Int32) (v6 : Int32) (μ : g_St), g_Con gC (2 + D) yX3_goOn cX3_goOn 14 (some .boolean) [.ref br, .int v1, .int v2, .int v3, .int v4, .int v5, .int v6] μ (g_yi (rec v1 v2 v3 v4 v5 v6 μ))) (v1 : Int32) (v2 : Int32) (v3 : Int32) (v4 : Int32) (v7 : Int32) (v8 : Int32) (K_77 : Int32 → Int32 → g_St → Option (Int32 × g_St)) (hK_77 : ∀ (w9 : Int32) (w10 : Int32) (ν : g_St), g_Go gC (2 + (D + 1)) yX3_goOn cX3_goOn 14 (some .boolean) 77 [some (.ref br), some (.int v1), some (.int v2), some (.int v3), some (.int v4), none, none, some (.int v7), some (.int v8), some (.int w9), some (.int w10), none, none, none] [] ν (Option.map o_yi (K_77 w9 w10 ν))) (v9 : Int32) (v10 : Int32) (μ : g_St) : g_Go gC (2 + (D + 1)) yX3_goOn cX3_goOn 14 (some .boolean) 77 [some (.ref br), some (.int v1), some (.int v2), some (.int v3), some (.int v4), none, none, some (.int v7), some (.int v8), some (.int v9), some (.int v10), none, none, none] [] μ (Option.map o_yi (og_goOn_77_b F br rec v1 v2 v3 v4 v7 v8 K_77 v9 v10 μ)) := by
  unfold og_goOn_77_b
  refine g_iload dX3_goOn_77 rfl ?_
  refine g_bipush dX3_goOn_79 bp_8 ?_
  refine w_icmp_ge (tgt := 198) dX3_goOn_81 (by decide) ?_ ?_
  · refine g_iload_n dX3_goOn_84 rfl rfl ?_
    refine g_iload dX3_goOn_85 rfl ?_
    refine g_ishr dX3_goOn_87 ?_
    refine g_iconst dX3_goOn_88 ic_1 ?_
    refine g_iand dX3_goOn_89 ?_
    refine g_iconst dX3_goOn_90 ic_1 ?_
    refine w_icmp_ne (tgt := 98) dX3_goOn_91 (by decide) ?_ ?_
    · refine g_iconst dX3_goOn_94 ic_0 ?_
      refine g_goto (tgt := 114) dX3_goOn_95 (by decide) ?_
      refine g_istore (lo2 := [_, _, _, _, _, _, _, _, _, _, _, _, _, _]) dX3_goOn_114 (Nat.le_of_ble_eq_true rfl) rfl rfl ?_
      refine g_iconst dX3_goOn_116 ic_0 ?_
      refine g_istore (lo2 := [_, _, _, _, _, _, _, _, _, _, _, _, _, _]) dX3_goOn_117 (Nat.le_of_ble_eq_true rfl) rfl rfl ?_
      exact g_to (lk_og_goOn_119 D F br hbr rec hrec _ _ _ _ _ _ _ _ K_77 hK_77 _ _ _ _) (su_s (su_s (su_s (su_s (su_s (su_n (su_n (su_s (su_s (su_s (su_s (su_s (su_s (su_n su_0))))))))))))))
    · refine g_iload dX3_goOn_98 rfl ?_
      refine g_aload_n dX3_goOn_100 rfl rfl ?_
      refine g_getS dX3_goOn_101 cf_X3 fl_X3_9 (ly_Rounds_lt hbr) (ly_Rounds hbr) rfl (Nat.le_of_ble_eq_true rfl) ?_
      refine g_iload dX3_goOn_104 rfl ?_
      refine g_bipush dX3_goOn_106 bp_8 ?_
      refine g_imul dX3_goOn_108 ?_
      refine g_iload dX3_goOn_109 rfl ?_
      refine g_iadd dX3_goOn_111 ?_
      refine w_iald dX3_goOn_112 (ly_Rounds_gifts_lt hbr) (ly_Rounds_gifts hbr) (fun x8 => ?_)
      refine g_iand dX3_goOn_113 ?_
      refine g_istore (lo2 := [_, _, _, _, _, _, _, _, _, _, _, _, _, _]) dX3_goOn_114 (Nat.le_of_ble_eq_true rfl) rfl rfl ?_
      refine g_iconst dX3_goOn_116 ic_0 ?_
      refine g_istore (lo2 := [_, _, _, _, _, _, _, _, _, _, _, _, _, _]) dX3_goOn_117 (Nat.le_of_ble_eq_true rfl) rfl rfl ?_
      exact g_to (lk_og_goOn_119 D F br hbr rec hrec _ _ _ _ _ _ _ _ K_77 hK_77 _ _ _ _) (su_s (su_s (su_s (su_s (su_s (su_n (su_n (su_s (su_s (su_s (su_s (su_s (su_s (su_n su_0))))))))))))))
  · refine g_iload dX3_goOn_198 rfl ?_
    exact w_zret dX3_goOn_200 rfl rfl
theorem lk_og_goOn_77 (D : Nat) (F : Nat) (br : Nat) (hbr : g_isRounds br) (rec : Int32 → Int32 → Int32 → Int32 → Int32 → Int32 → g_St → Option (Int32 × g_St)) (hrec : ∀ (v1 : Int32) (v2 : Int32) (v3 : Int32) (v4 : Int32) (v5 : Int32) (v6 : Int32) (μ : g_St), g_Con gC (2 + D) yX3_goOn cX3_goOn 14 (some .boolean) [.ref br, .int v1, .int v2, .int v3, .int v4, .int v5, .int v6] μ (g_yi (rec v1 v2 v3 v4 v5 v6 μ))) (v1 : Int32) (v2 : Int32) (v3 : Int32) (v4 : Int32) (v7 : Int32) (v8 : Int32) : ∀ (f : Nat) (v9 : Int32) (v10 : Int32) (μ : g_St) , g_Go gC (2 + (D + 1)) yX3_goOn cX3_goOn 14 (some .boolean) 77 [some (.ref br), some (.int v1), some (.int v2), some (.int v3), some (.int v4), none, none, some (.int v7), some (.int v8), some (.int v9), some (.int v10), none, none, none] [] μ (Option.map o_yi (og_goOn_77 F br rec v1 v2 v3 v4 v7 v8 f v9 v10 μ))
  | 0, v9, v10, μ => g_none
  | f + 1, v9, v10, μ => lk_og_goOn_77_b D F br hbr rec hrec v1 v2 v3 v4 v7 v8 (og_goOn_77 F br rec v1 v2 v3 v4 v7 v8 f) (lk_og_goOn_77 D F br hbr rec hrec v1 v2 v3 v4 v7 v8 f) v9 v10 μ
theorem lk_og_goOn_b (D : Nat) (F : Nat) (br : Nat) (hbr : g_isRounds br) (rec : Int32 → Int32 → Int32 → Int32 → Int32 → Int32 → g_St → Option (Int32 × g_St)) (hrec : ∀ (v1 : Int32) (v2 : Int32) (v3 : Int32) (v4 : Int32) (v5 : Int32) (v6 : Int32) (μ : g_St), g_Con gC (2 + D) yX3_goOn cX3_goOn 14 (some .boolean) [.ref br, .int v1, .int v2, .int v3, .int v4, .int v5, .int v6] μ (g_yi (rec v1 v2 v3 v4 v5 v6 μ))) (v1 : Int32) (v2 : Int32) (v3 : Int32) (v4 : Int32) (v5 : Int32) (v6 : Int32) (μ : g_St) : g_Go gC (2 + (D + 1)) yX3_goOn cX3_goOn 14 (some .boolean) 0 [some (.ref br), some (.int v1), some (.int v2), some (.int v3), some (.int v4), some (.int v5), some (.int v6), none, none, none, none, none, none, none] [] μ (Option.map o_yi (og_goOn_b F br rec v1 v2 v3 v4 v5 v6 μ)) := by
  unfold og_goOn_b
  refine g_aload_n dX3_goOn_0 rfl rfl ?_
  refine g_getS dX3_goOn_1 cf_X3 fl_X3_24 (ly_Rounds_lt hbr) (ly_Rounds hbr) rfl (Nat.le_of_ble_eq_true rfl) ?_
  refine g_iload dX3_goOn_4 rfl ?_
  refine g_bipush dX3_goOn_6 bp_6 ?_
  refine g_imul dX3_goOn_8 ?_
  refine g_iload dX3_goOn_9 rfl ?_
  refine g_iadd dX3_goOn_11 ?_
  refine w_iald dX3_goOn_12 (ly_Rounds_glad_lt hbr) (ly_Rounds_glad hbr) (fun x1 => ?_)
  refine g_istore (lo2 := [_, _, _, _, _, _, _, _, _, _, _, _, _, _]) dX3_goOn_13 (Nat.le_of_ble_eq_true rfl) rfl rfl ?_
  refine g_iload dX3_goOn_15 rfl ?_
  refine g_aload_n dX3_goOn_17 rfl rfl ?_
  refine g_getS dX3_goOn_18 cf_X3 fl_X3_18 (ly_Rounds_lt hbr) (ly_Rounds hbr) rfl (Nat.le_of_ble_eq_true rfl) ?_
  refine g_iload dX3_goOn_21 rfl ?_
  refine g_bipush dX3_goOn_23 bp_6 ?_
  refine g_imul dX3_goOn_25 ?_
  refine g_iload dX3_goOn_26 rfl ?_
  refine g_iadd dX3_goOn_28 ?_
  refine w_iald dX3_goOn_29 (ly_Rounds_more_lt hbr) (ly_Rounds_more hbr) (fun x2 => ?_)
  refine g_iadd dX3_goOn_30 ?_
  refine g_istore (lo2 := [_, _, _, _, _, _, _, _, _, _, _, _, _, _]) dX3_goOn_31 (Nat.le_of_ble_eq_true rfl) rfl rfl ?_
  refine g_aload_n dX3_goOn_33 rfl rfl ?_
  refine g_iload_n dX3_goOn_34 rfl rfl ?_
  refine g_iload_n dX3_goOn_35 rfl rfl ?_
  refine g_iload_n dX3_goOn_36 rfl rfl ?_
  refine g_iload dX3_goOn_37 rfl ?_
  refine g_aload_n dX3_goOn_39 rfl rfl ?_
  refine g_getS dX3_goOn_40 cf_X3 fl_X3_9 (ly_Rounds_lt hbr) (ly_Rounds hbr) rfl (Nat.le_of_ble_eq_true rfl) ?_
  refine g_iload dX3_goOn_43 rfl ?_
  refine g_bipush dX3_goOn_45 bp_8 ?_
  refine g_imul dX3_goOn_47 ?_
  refine g_iload_n dX3_goOn_48 rfl rfl ?_
  refine g_iadd dX3_goOn_49 ?_
  refine w_iald dX3_goOn_50 (ly_Rounds_gifts_lt hbr) (ly_Rounds_gifts hbr) (fun x3 => ?_)
  refine g_iand dX3_goOn_51 ?_
  refine g_iload dX3_goOn_52 rfl ?_
  refine g_iload dX3_goOn_54 rfl ?_
  refine w_Vyi [.int _, .int _, .int _, .int _, .int _, .int _] dX3_goOn_56 ml_X3_74 mv_X3_closeRing mc_X3_closeRing cf_X3 (ly_Rounds_lt hbr) (ly_Rounds hbr) rfl (by omega) (Nat.le_of_ble_eq_true rfl) (Nat.le_of_ble_eq_true rfl) rfl (co_og_closeRing F _ hbr _ _ _ _ _ _ _) (fun q4 => ?_)
  refine g_istore (lo2 := [_, _, _, _, _, _, _, _, _, _, _, _, _, _]) dX3_goOn_59 (Nat.le_of_ble_eq_true rfl) rfl rfl ?_
  refine g_iload_n dX3_goOn_61 rfl rfl ?_
  refine w_Sxi [.int _] dX3_goOn_62 ml_X3_78 ms_J6_bitCount_0f7a4 mc_J6_bitCount_0f7a4 rfl (by omega) (Nat.le_of_ble_eq_true rfl) (Nat.le_of_ble_eq_true rfl) rfl (co_jj_bitCount gC _ _) (fun x5 => ?_)
  refine g_iconst dX3_goOn_65 ic_5 ?_
  refine w_icmp_lt (tgt := 72) dX3_goOn_66 (by decide) ?_ ?_
  · refine g_iload dX3_goOn_69 rfl ?_
    exact w_zret dX3_goOn_71 rfl rfl
  · refine g_iload_n dX3_goOn_72 rfl rfl ?_
    refine g_iconst dX3_goOn_73 ic_1 ?_
    refine g_iadd dX3_goOn_74 ?_
    refine g_istore (lo2 := [_, _, _, _, _, _, _, _, _, _, _, _, _, _]) dX3_goOn_75 (Nat.le_of_ble_eq_true rfl) rfl rfl ?_
    exact g_to (lk_og_goOn_77 D F br hbr rec hrec _ _ _ _ _ _ _ _ _ _) (su_s (su_s (su_s (su_s (su_s (su_n (su_n (su_s (su_s (su_s (su_s (su_n (su_n (su_n su_0))))))))))))))
theorem co_og_goOn_b (D : Nat) (F : Nat) (br : Nat) (hbr : g_isRounds br) (rec : Int32 → Int32 → Int32 → Int32 → Int32 → Int32 → g_St → Option (Int32 × g_St)) (hrec : ∀ (v1 : Int32) (v2 : Int32) (v3 : Int32) (v4 : Int32) (v5 : Int32) (v6 : Int32) (μ : g_St), g_Con gC (2 + D) yX3_goOn cX3_goOn 14 (some .boolean) [.ref br, .int v1, .int v2, .int v3, .int v4, .int v5, .int v6] μ (g_yi (rec v1 v2 v3 v4 v5 v6 μ))) (v1 : Int32) (v2 : Int32) (v3 : Int32) (v4 : Int32) (v5 : Int32) (v6 : Int32) (μ : g_St) : g_Con gC (2 + (D + 1)) yX3_goOn cX3_goOn 14 (some .boolean) [.ref br, .int v1, .int v2, .int v3, .int v4, .int v5, .int v6] μ (g_yi (og_goOn_b F br rec v1 v2 v3 v4 v5 v6 μ)) := g_conOf mc_X3_goOn.2.2.2.2 (Nat.le_of_ble_eq_true rfl) rfl (g_yi_rk (Or.inr (Or.inl rfl))) (lk_og_goOn_b D F br hbr rec hrec v1 v2 v3 v4 v5 v6 μ)
theorem co_og_goOn (F : Nat) (br : Nat) (hbr : g_isRounds br) : ∀ (D : Nat) (v1 : Int32) (v2 : Int32) (v3 : Int32) (v4 : Int32) (v5 : Int32) (v6 : Int32) (μ : g_St), g_Con gC (2 + D) yX3_goOn cX3_goOn 14 (some .boolean) [.ref br, .int v1, .int v2, .int v3, .int v4, .int v5, .int v6] μ (g_yi (og_goOn F br D v1 v2 v3 v4 v5 v6 μ))
  | 0, v1, v2, v3, v4, v5, v6, μ => fun _ _ h => nomatch h
  | D + 1, v1, v2, v3, v4, v5, v6, μ => co_og_goOn_b D F br hbr (og_goOn F br D) (co_og_goOn F br hbr D) v1 v2 v3 v4 v5 v6 μ
theorem dX3_startRings_0 : decode cX3_startRings 0 = .ok (.iconst 0, 1) := by decide +kernel
theorem dX3_startRings_1 : decode cX3_startRings 1 = .ok (.istore_n 2, 1) := by decide +kernel
theorem dX3_startRings_2 : decode cX3_startRings 2 = .ok (.iload_n 1, 1) := by decide +kernel
theorem dX3_startRings_3 : decode cX3_startRings 3 = .ok (.iconst 1, 1) := by decide +kernel
theorem dX3_startRings_4 : decode cX3_startRings 4 = .ok (.iadd, 1) := by decide +kernel
theorem dX3_startRings_5 : decode cX3_startRings 5 = .ok (.istore_n 3, 1) := by decide +kernel
theorem dX3_startRings_6 : decode cX3_startRings 6 = .ok (.iload_n 3, 1) := by decide +kernel
theorem dX3_startRings_7 : decode cX3_startRings 7 = .ok (.bipush 8, 2) := by decide +kernel
theorem dX3_startRings_9 : decode cX3_startRings 9 = .ok (.if_icmp .ge 78, 3) := by decide +kernel
theorem dX3_startRings_12 : decode cX3_startRings 12 = .ok (.aload_n 0, 1) := by decide +kernel
theorem dX3_startRings_13 : decode cX3_startRings 13 = .ok (.getfield 9, 3) := by decide +kernel
theorem dX3_startRings_16 : decode cX3_startRings 16 = .ok (.iload_n 1, 1) := by decide +kernel
theorem dX3_startRings_17 : decode cX3_startRings 17 = .ok (.bipush 8, 2) := by decide +kernel
theorem dX3_startRings_19 : decode cX3_startRings 19 = .ok (.imul, 1) := by decide +kernel
theorem dX3_startRings_20 : decode cX3_startRings 20 = .ok (.iload_n 3, 1) := by decide +kernel
theorem dX3_startRings_21 : decode cX3_startRings 21 = .ok (.iadd, 1) := by decide +kernel
theorem dX3_startRings_22 : decode cX3_startRings 22 = .ok (.iaload, 1) := by decide +kernel
theorem dX3_startRings_23 : decode cX3_startRings 23 = .ok (.istore 4, 2) := by decide +kernel
theorem dX3_startRings_25 : decode cX3_startRings 25 = .ok (.iconst 0, 1) := by decide +kernel
theorem dX3_startRings_26 : decode cX3_startRings 26 = .ok (.istore 5, 2) := by decide +kernel
theorem dX3_startRings_28 : decode cX3_startRings 28 = .ok (.iload 5, 2) := by decide +kernel
theorem dX3_startRings_30 : decode cX3_startRings 30 = .ok (.bipush 6, 2) := by decide +kernel
theorem dX3_startRings_32 : decode cX3_startRings 32 = .ok (.if_icmp .ge 49, 3) := by decide +kernel
theorem dX3_startRings_35 : decode cX3_startRings 35 = .ok (.iload 4, 2) := by decide +kernel
theorem dX3_startRings_37 : decode cX3_startRings 37 = .ok (.iload 5, 2) := by decide +kernel
theorem dX3_startRings_39 : decode cX3_startRings 39 = .ok (.ishr, 1) := by decide +kernel
theorem dX3_startRings_40 : decode cX3_startRings 40 = .ok (.ifCond .eq 41, 3) := by decide +kernel
theorem dX3_startRings_43 : decode cX3_startRings 43 = .ok (.iload 4, 2) := by decide +kernel
theorem dX3_startRings_45 : decode cX3_startRings 45 = .ok (.iload 5, 2) := by decide +kernel
theorem dX3_startRings_47 : decode cX3_startRings 47 = .ok (.ishr, 1) := by decide +kernel
theorem dX3_startRings_48 : decode cX3_startRings 48 = .ok (.iconst 1, 1) := by decide +kernel
theorem dX3_startRings_49 : decode cX3_startRings 49 = .ok (.iand, 1) := by decide +kernel
theorem dX3_startRings_50 : decode cX3_startRings 50 = .ok (.iconst 1, 1) := by decide +kernel
theorem dX3_startRings_51 : decode cX3_startRings 51 = .ok (.if_icmp .ne 24, 3) := by decide +kernel
theorem dX3_startRings_54 : decode cX3_startRings 54 = .ok (.iload_n 2, 1) := by decide +kernel
theorem dX3_startRings_55 : decode cX3_startRings 55 = .ok (.aload_n 0, 1) := by decide +kernel
theorem dX3_startRings_56 : decode cX3_startRings 56 = .ok (.iconst 1, 1) := by decide +kernel
theorem dX3_startRings_57 : decode cX3_startRings 57 = .ok (.iload_n 1, 1) := by decide +kernel
theorem dX3_startRings_58 : decode cX3_startRings 58 = .ok (.ishl, 1) := by decide +kernel
theorem dX3_startRings_59 : decode cX3_startRings 59 = .ok (.iconst 1, 1) := by decide +kernel
theorem dX3_startRings_60 : decode cX3_startRings 60 = .ok (.iload_n 3, 1) := by decide +kernel
theorem dX3_startRings_61 : decode cX3_startRings 61 = .ok (.ishl, 1) := by decide +kernel
theorem dX3_startRings_62 : decode cX3_startRings 62 = .ok (.ior, 1) := by decide +kernel
theorem dX3_startRings_63 : decode cX3_startRings 63 = .ok (.iload_n 1, 1) := by decide +kernel
theorem dX3_startRings_64 : decode cX3_startRings 64 = .ok (.iload 5, 2) := by decide +kernel
theorem dX3_startRings_66 : decode cX3_startRings 66 = .ok (.iload_n 3, 1) := by decide +kernel
theorem dX3_startRings_67 : decode cX3_startRings 67 = .ok (.iload 5, 2) := by decide +kernel
theorem dX3_startRings_69 : decode cX3_startRings 69 = .ok (.iconst 0, 1) := by decide +kernel
theorem dX3_startRings_70 : decode cX3_startRings 70 = .ok (.invokestatic 70, 3) := by decide +kernel
theorem dX3_startRings_73 : decode cX3_startRings 73 = .ok (.ior, 1) := by decide +kernel
theorem dX3_startRings_74 : decode cX3_startRings 74 = .ok (.istore_n 2, 1) := by decide +kernel
theorem dX3_startRings_75 : decode cX3_startRings 75 = .ok (.iinc 5 1, 3) := by decide +kernel
theorem dX3_startRings_78 : decode cX3_startRings 78 = .ok (.goto (-50), 3) := by decide +kernel
theorem dX3_startRings_81 : decode cX3_startRings 81 = .ok (.iinc 3 1, 3) := by decide +kernel
theorem dX3_startRings_84 : decode cX3_startRings 84 = .ok (.goto (-78), 3) := by decide +kernel
theorem dX3_startRings_87 : decode cX3_startRings 87 = .ok (.iload_n 2, 1) := by decide +kernel
theorem dX3_startRings_88 : decode cX3_startRings 88 = .ok (.ireturn, 1) := by decide +kernel
theorem lk_og_startRings_28_b (F : Nat) (br : Nat) (hbr : g_isRounds br) (v1 : Int32) (v3 : Int32) (v4 : Int32) (K_6 : Int32 → Int32 → g_St → Option (Int32 × g_St)) (hK_6 : ∀ (w2 : Int32) (w3 : Int32) (ν : g_St), g_Go gC 12 yX3_startRings cX3_startRings 6 (some .boolean) 6 [some (.ref br), some (.int v1), some (.int w2), some (.int w3), none, none] [] ν (Option.map o_yi (K_6 w2 w3 ν))) (K_28 : Int32 → Int32 → g_St → Option (Int32 × g_St)) (hK_28 : ∀ (w2 : Int32) (w5 : Int32) (ν : g_St), g_Go gC 12 yX3_startRings cX3_startRings 6 (some .boolean) 28 [some (.ref br), some (.int v1), some (.int w2), some (.int v3), some (.int v4), some (.int w5)] [] ν (Option.map o_yi (K_28 w2 w5 ν))) (v2 : Int32) (v5 : Int32) (μ : g_St) : g_Go gC 12 yX3_startRings cX3_startRings 6 (some .boolean) 28 [some (.ref br), some (.int v1), some (.int v2), some (.int v3), some (.int v4), some (.int v5)] [] μ (Option.map o_yi (og_startRings_28_b F br v1 v3 v4 K_6 K_28 v2 v5 μ)) := by
  unfold og_startRings_28_b
  refine g_iload dX3_startRings_28 rfl ?_
  refine g_bipush dX3_startRings_30 bp_6 ?_
  refine w_icmp_ge (tgt := 81) dX3_startRings_32 (by decide) ?_ ?_
  · refine g_iload dX3_startRings_35 rfl ?_
    refine g_iload dX3_startRings_37 rfl ?_
    refine g_ishr dX3_startRings_39 ?_
    refine w_if_eq (tgt := 81) dX3_startRings_40 (by decide) ?_ ?_
    · refine g_iinc (lo2 := [_, _, _, _, _, _]) dX3_startRings_81 rfl rfl (Nat.le_of_ble_eq_true rfl) rfl rfl ?_
      refine g_goto (tgt := 6) dX3_startRings_84 (by decide) ?_
      exact g_to (hK_6 _ _ _) (su_s (su_s (su_s (su_s (su_n (su_n su_0))))))
    · refine g_iload dX3_startRings_43 rfl ?_
      refine g_iload dX3_startRings_45 rfl ?_
      refine g_ishr dX3_startRings_47 ?_
      refine g_iconst dX3_startRings_48 ic_1 ?_
      refine g_iand dX3_startRings_49 ?_
      refine g_iconst dX3_startRings_50 ic_1 ?_
      refine w_icmp_ne (tgt := 75) dX3_startRings_51 (by decide) ?_ ?_
      · refine g_iload_n dX3_startRings_54 rfl rfl ?_
        refine g_aload_n dX3_startRings_55 rfl rfl ?_
        refine g_iconst dX3_startRings_56 ic_1 ?_
        refine g_iload_n dX3_startRings_57 rfl rfl ?_
        refine g_ishl dX3_startRings_58 ?_
        refine g_iconst dX3_startRings_59 ic_1 ?_
        refine g_iload_n dX3_startRings_60 rfl rfl ?_
        refine g_ishl dX3_startRings_61 ?_
        refine g_ior dX3_startRings_62 ?_
        refine g_iload_n dX3_startRings_63 rfl rfl ?_
        refine g_iload dX3_startRings_64 rfl ?_
        refine g_iload_n dX3_startRings_66 rfl rfl ?_
        refine g_iload dX3_startRings_67 rfl ?_
        refine g_iconst dX3_startRings_69 ic_0 ?_
        refine w_Syi [.ref _, .int _, .int _, .int _, .int _, .int _, .int _] dX3_startRings_70 ml_X3_70 ms_X3_goOn mc_X3_goOn rfl (by omega) (Nat.le_of_ble_eq_true rfl) (Nat.le_of_ble_eq_true rfl) rfl (co_og_goOn F _ hbr 9 _ _ _ _ _ _ _) (fun q2 => ?_)
        refine g_ior dX3_startRings_73 ?_
        refine g_istore_n (lo2 := [_, _, _, _, _, _]) dX3_startRings_74 rfl (Nat.le_of_ble_eq_true rfl) rfl rfl ?_
        refine g_iinc (lo2 := [_, _, _, _, _, _]) dX3_startRings_75 rfl rfl (Nat.le_of_ble_eq_true rfl) rfl rfl ?_
        refine g_goto (tgt := 28) dX3_startRings_78 (by decide) ?_
        exact g_to (hK_28 _ _ _) (su_s (su_s (su_s (su_s (su_s (su_s su_0))))))
      · refine g_iinc (lo2 := [_, _, _, _, _, _]) dX3_startRings_75 rfl rfl (Nat.le_of_ble_eq_true rfl) rfl rfl ?_
        refine g_goto (tgt := 28) dX3_startRings_78 (by decide) ?_
        exact g_to (hK_28 _ _ _) (su_s (su_s (su_s (su_s (su_s (su_s su_0))))))
  · refine g_iinc (lo2 := [_, _, _, _, _, _]) dX3_startRings_81 rfl rfl (Nat.le_of_ble_eq_true rfl) rfl rfl ?_
    refine g_goto (tgt := 6) dX3_startRings_84 (by decide) ?_
    exact g_to (hK_6 _ _ _) (su_s (su_s (su_s (su_s (su_n (su_n su_0))))))
theorem lk_og_startRings_28 (F : Nat) (br : Nat) (hbr : g_isRounds br) (v1 : Int32) (v3 : Int32) (v4 : Int32) (K_6 : Int32 → Int32 → g_St → Option (Int32 × g_St)) (hK_6 : ∀ (w2 : Int32) (w3 : Int32) (ν : g_St), g_Go gC 12 yX3_startRings cX3_startRings 6 (some .boolean) 6 [some (.ref br), some (.int v1), some (.int w2), some (.int w3), none, none] [] ν (Option.map o_yi (K_6 w2 w3 ν))) : ∀ (f : Nat) (v2 : Int32) (v5 : Int32) (μ : g_St) , g_Go gC 12 yX3_startRings cX3_startRings 6 (some .boolean) 28 [some (.ref br), some (.int v1), some (.int v2), some (.int v3), some (.int v4), some (.int v5)] [] μ (Option.map o_yi (og_startRings_28 F br v1 v3 v4 K_6 f v2 v5 μ))
  | 0, v2, v5, μ => g_none
  | f + 1, v2, v5, μ => lk_og_startRings_28_b F br hbr v1 v3 v4 K_6 hK_6 (og_startRings_28 F br v1 v3 v4 K_6 f) (lk_og_startRings_28 F br hbr v1 v3 v4 K_6 hK_6 f) v2 v5 μ
theorem lk_og_startRings_6_b (F : Nat) (br : Nat) (hbr : g_isRounds br) (v1 : Int32) (K_6 : Int32 → Int32 → g_St → Option (Int32 × g_St)) (hK_6 : ∀ (w2 : Int32) (w3 : Int32) (ν : g_St), g_Go gC 12 yX3_startRings cX3_startRings 6 (some .boolean) 6 [some (.ref br), some (.int v1), some (.int w2), some (.int w3), none, none] [] ν (Option.map o_yi (K_6 w2 w3 ν))) (v2 : Int32) (v3 : Int32) (μ : g_St) : g_Go gC 12 yX3_startRings cX3_startRings 6 (some .boolean) 6 [some (.ref br), some (.int v1), some (.int v2), some (.int v3), none, none] [] μ (Option.map o_yi (og_startRings_6_b F br v1 K_6 v2 v3 μ)) := by
  unfold og_startRings_6_b
  refine g_iload_n dX3_startRings_6 rfl rfl ?_
  refine g_bipush dX3_startRings_7 bp_8 ?_
  refine w_icmp_ge (tgt := 87) dX3_startRings_9 (by decide) ?_ ?_
  · refine g_aload_n dX3_startRings_12 rfl rfl ?_
    refine g_getS dX3_startRings_13 cf_X3 fl_X3_9 (ly_Rounds_lt hbr) (ly_Rounds hbr) rfl (Nat.le_of_ble_eq_true rfl) ?_
    refine g_iload_n dX3_startRings_16 rfl rfl ?_
    refine g_bipush dX3_startRings_17 bp_8 ?_
    refine g_imul dX3_startRings_19 ?_
    refine g_iload_n dX3_startRings_20 rfl rfl ?_
    refine g_iadd dX3_startRings_21 ?_
    refine w_iald dX3_startRings_22 (ly_Rounds_gifts_lt hbr) (ly_Rounds_gifts hbr) (fun x1 => ?_)
    refine g_istore (lo2 := [_, _, _, _, _, _]) dX3_startRings_23 (Nat.le_of_ble_eq_true rfl) rfl rfl ?_
    refine g_iconst dX3_startRings_25 ic_0 ?_
    refine g_istore (lo2 := [_, _, _, _, _, _]) dX3_startRings_26 (Nat.le_of_ble_eq_true rfl) rfl rfl ?_
    exact g_to (lk_og_startRings_28 F br hbr _ _ _ K_6 hK_6 _ _ _ _) (su_s (su_s (su_s (su_s (su_s (su_s su_0))))))
  · refine g_iload_n dX3_startRings_87 rfl rfl ?_
    exact w_zret dX3_startRings_88 rfl rfl
theorem lk_og_startRings_6 (F : Nat) (br : Nat) (hbr : g_isRounds br) (v1 : Int32) : ∀ (f : Nat) (v2 : Int32) (v3 : Int32) (μ : g_St) , g_Go gC 12 yX3_startRings cX3_startRings 6 (some .boolean) 6 [some (.ref br), some (.int v1), some (.int v2), some (.int v3), none, none] [] μ (Option.map o_yi (og_startRings_6 F br v1 f v2 v3 μ))
  | 0, v2, v3, μ => g_none
  | f + 1, v2, v3, μ => lk_og_startRings_6_b F br hbr v1 (og_startRings_6 F br v1 f) (lk_og_startRings_6 F br hbr v1 f) v2 v3 μ
theorem lk_og_startRings (F : Nat) (br : Nat) (hbr : g_isRounds br) (v1 : Int32) (μ : g_St) : g_Go gC 12 yX3_startRings cX3_startRings 6 (some .boolean) 0 [some (.ref br), some (.int v1), none, none, none, none] [] μ (Option.map o_yi (og_startRings F br v1 μ)) := by
  unfold og_startRings
  refine g_iconst dX3_startRings_0 ic_0 ?_
  refine g_istore_n (lo2 := [_, _, _, _, _, _]) dX3_startRings_1 rfl (Nat.le_of_ble_eq_true rfl) rfl rfl ?_
  refine g_iload_n dX3_startRings_2 rfl rfl ?_
  refine g_iconst dX3_startRings_3 ic_1 ?_
  refine g_iadd dX3_startRings_4 ?_
  refine g_istore_n (lo2 := [_, _, _, _, _, _]) dX3_startRings_5 rfl (Nat.le_of_ble_eq_true rfl) rfl rfl ?_
  exact g_to (lk_og_startRings_6 F br hbr _ _ _ _ _) (su_s (su_s (su_s (su_s (su_n (su_n su_0))))))
theorem co_og_startRings (F : Nat) (br : Nat) (hbr : g_isRounds br) (v1 : Int32) (μ : g_St) : g_Con gC 12 yX3_startRings cX3_startRings 6 (some .boolean) [.ref br, .int v1] μ (g_yi (og_startRings F br v1 μ)) := g_conOf mc_X3_startRings.2.2.2.2 (Nat.le_of_ble_eq_true rfl) rfl (g_yi_rk (Or.inr (Or.inl rfl))) (lk_og_startRings F br hbr v1 μ)
theorem dX3_offerRound_0 : decode cX3_offerRound 0 = .ok (.aload_n 0, 1) := by decide +kernel
theorem dX3_offerRound_1 : decode cX3_offerRound 1 = .ok (.getfield 27, 3) := by decide +kernel
theorem dX3_offerRound_4 : decode cX3_offerRound 4 = .ok (.iload_n 2, 1) := by decide +kernel
theorem dX3_offerRound_5 : decode cX3_offerRound 5 = .ok (.iaload, 1) := by decide +kernel
theorem dX3_offerRound_6 : decode cX3_offerRound 6 = .ok (.aload_n 0, 1) := by decide +kernel
theorem dX3_offerRound_7 : decode cX3_offerRound 7 = .ok (.getfield 30, 3) := by decide +kernel
theorem dX3_offerRound_10 : decode cX3_offerRound 10 = .ok (.iload_n 1, 1) := by decide +kernel
theorem dX3_offerRound_11 : decode cX3_offerRound 11 = .ok (.iload_n 2, 1) := by decide +kernel
theorem dX3_offerRound_12 : decode cX3_offerRound 12 = .ok (.ixor, 1) := by decide +kernel
theorem dX3_offerRound_13 : decode cX3_offerRound 13 = .ok (.iaload, 1) := by decide +kernel
theorem dX3_offerRound_14 : decode cX3_offerRound 14 = .ok (.iadd, 1) := by decide +kernel
theorem dX3_offerRound_15 : decode cX3_offerRound 15 = .ok (.istore_n 3, 1) := by decide +kernel
theorem dX3_offerRound_16 : decode cX3_offerRound 16 = .ok (.iconst 1, 1) := by decide +kernel
theorem dX3_offerRound_17 : decode cX3_offerRound 17 = .ok (.aload_n 0, 1) := by decide +kernel
theorem dX3_offerRound_18 : decode cX3_offerRound 18 = .ok (.getfield 33, 3) := by decide +kernel
theorem dX3_offerRound_21 : decode cX3_offerRound 21 = .ok (.iload_n 1, 1) := by decide +kernel
theorem dX3_offerRound_22 : decode cX3_offerRound 22 = .ok (.iload_n 2, 1) := by decide +kernel
theorem dX3_offerRound_23 : decode cX3_offerRound 23 = .ok (.ixor, 1) := by decide +kernel
theorem dX3_offerRound_24 : decode cX3_offerRound 24 = .ok (.iaload, 1) := by decide +kernel
theorem dX3_offerRound_25 : decode cX3_offerRound 25 = .ok (.iadd, 1) := by decide +kernel
theorem dX3_offerRound_26 : decode cX3_offerRound 26 = .ok (.istore 4, 2) := by decide +kernel
theorem dX3_offerRound_28 : decode cX3_offerRound 28 = .ok (.iload_n 2, 1) := by decide +kernel
theorem dX3_offerRound_29 : decode cX3_offerRound 29 = .ok (.invokestatic 78, 3) := by decide +kernel
theorem dX3_offerRound_32 : decode cX3_offerRound 32 = .ok (.aload_n 0, 1) := by decide +kernel
theorem dX3_offerRound_33 : decode cX3_offerRound 33 = .ok (.getfield 36, 3) := by decide +kernel
theorem dX3_offerRound_36 : decode cX3_offerRound 36 = .ok (.iload_n 1, 1) := by decide +kernel
theorem dX3_offerRound_37 : decode cX3_offerRound 37 = .ok (.iload_n 2, 1) := by decide +kernel
theorem dX3_offerRound_38 : decode cX3_offerRound 38 = .ok (.ixor, 1) := by decide +kernel
theorem dX3_offerRound_39 : decode cX3_offerRound 39 = .ok (.iaload, 1) := by decide +kernel
theorem dX3_offerRound_40 : decode cX3_offerRound 40 = .ok (.iadd, 1) := by decide +kernel
theorem dX3_offerRound_41 : decode cX3_offerRound 41 = .ok (.istore 5, 2) := by decide +kernel
theorem dX3_offerRound_43 : decode cX3_offerRound 43 = .ok (.iload 4, 2) := by decide +kernel
theorem dX3_offerRound_45 : decode cX3_offerRound 45 = .ok (.aload_n 0, 1) := by decide +kernel
theorem dX3_offerRound_46 : decode cX3_offerRound 46 = .ok (.getfield 33, 3) := by decide +kernel
theorem dX3_offerRound_49 : decode cX3_offerRound 49 = .ok (.iload_n 1, 1) := by decide +kernel
theorem dX3_offerRound_50 : decode cX3_offerRound 50 = .ok (.iaload, 1) := by decide +kernel
theorem dX3_offerRound_51 : decode cX3_offerRound 51 = .ok (.if_icmp .lt 25, 3) := by decide +kernel
theorem dX3_offerRound_54 : decode cX3_offerRound 54 = .ok (.iload 4, 2) := by decide +kernel
theorem dX3_offerRound_56 : decode cX3_offerRound 56 = .ok (.aload_n 0, 1) := by decide +kernel
theorem dX3_offerRound_57 : decode cX3_offerRound 57 = .ok (.getfield 33, 3) := by decide +kernel
theorem dX3_offerRound_60 : decode cX3_offerRound 60 = .ok (.iload_n 1, 1) := by decide +kernel
theorem dX3_offerRound_61 : decode cX3_offerRound 61 = .ok (.iaload, 1) := by decide +kernel
theorem dX3_offerRound_62 : decode cX3_offerRound 62 = .ok (.if_icmp .ne 18, 3) := by decide +kernel
theorem dX3_offerRound_65 : decode cX3_offerRound 65 = .ok (.iload 5, 2) := by decide +kernel
theorem dX3_offerRound_67 : decode cX3_offerRound 67 = .ok (.aload_n 0, 1) := by decide +kernel
theorem dX3_offerRound_68 : decode cX3_offerRound 68 = .ok (.getfield 36, 3) := by decide +kernel
theorem dX3_offerRound_71 : decode cX3_offerRound 71 = .ok (.iload_n 1, 1) := by decide +kernel
theorem dX3_offerRound_72 : decode cX3_offerRound 72 = .ok (.iaload, 1) := by decide +kernel
theorem dX3_offerRound_73 : decode cX3_offerRound 73 = .ok (.if_icmp .ge 7, 3) := by decide +kernel
theorem dX3_offerRound_76 : decode cX3_offerRound 76 = .ok (.iconst 1, 1) := by decide +kernel
theorem dX3_offerRound_77 : decode cX3_offerRound 77 = .ok (.goto 4, 3) := by decide +kernel
theorem dX3_offerRound_80 : decode cX3_offerRound 80 = .ok (.iconst 0, 1) := by decide +kernel
theorem dX3_offerRound_81 : decode cX3_offerRound 81 = .ok (.istore 6, 2) := by decide +kernel
theorem dX3_offerRound_83 : decode cX3_offerRound 83 = .ok (.iload_n 3, 1) := by decide +kernel
theorem dX3_offerRound_84 : decode cX3_offerRound 84 = .ok (.aload_n 0, 1) := by decide +kernel
theorem dX3_offerRound_85 : decode cX3_offerRound 85 = .ok (.getfield 30, 3) := by decide +kernel
theorem dX3_offerRound_88 : decode cX3_offerRound 88 = .ok (.iload_n 1, 1) := by decide +kernel
theorem dX3_offerRound_89 : decode cX3_offerRound 89 = .ok (.iaload, 1) := by decide +kernel
theorem dX3_offerRound_90 : decode cX3_offerRound 90 = .ok (.if_icmp .gt 18, 3) := by decide +kernel
theorem dX3_offerRound_93 : decode cX3_offerRound 93 = .ok (.iload_n 3, 1) := by decide +kernel
theorem dX3_offerRound_94 : decode cX3_offerRound 94 = .ok (.aload_n 0, 1) := by decide +kernel
theorem dX3_offerRound_95 : decode cX3_offerRound 95 = .ok (.getfield 30, 3) := by decide +kernel
theorem dX3_offerRound_98 : decode cX3_offerRound 98 = .ok (.iload_n 1, 1) := by decide +kernel
theorem dX3_offerRound_99 : decode cX3_offerRound 99 = .ok (.iaload, 1) := by decide +kernel
theorem dX3_offerRound_100 : decode cX3_offerRound 100 = .ok (.if_icmp .ne 31, 3) := by decide +kernel
theorem dX3_offerRound_103 : decode cX3_offerRound 103 = .ok (.iload 6, 2) := by decide +kernel
theorem dX3_offerRound_105 : decode cX3_offerRound 105 = .ok (.ifCond .eq 26, 3) := by decide +kernel
theorem dX3_offerRound_108 : decode cX3_offerRound 108 = .ok (.aload_n 0, 1) := by decide +kernel
theorem dX3_offerRound_109 : decode cX3_offerRound 109 = .ok (.getfield 30, 3) := by decide +kernel
theorem dX3_offerRound_112 : decode cX3_offerRound 112 = .ok (.iload_n 1, 1) := by decide +kernel
theorem dX3_offerRound_113 : decode cX3_offerRound 113 = .ok (.iload_n 3, 1) := by decide +kernel
theorem dX3_offerRound_114 : decode cX3_offerRound 114 = .ok (.iastore, 1) := by decide +kernel
theorem dX3_offerRound_115 : decode cX3_offerRound 115 = .ok (.aload_n 0, 1) := by decide +kernel
theorem dX3_offerRound_116 : decode cX3_offerRound 116 = .ok (.getfield 33, 3) := by decide +kernel
theorem dX3_offerRound_119 : decode cX3_offerRound 119 = .ok (.iload_n 1, 1) := by decide +kernel
theorem dX3_offerRound_120 : decode cX3_offerRound 120 = .ok (.iload 4, 2) := by decide +kernel
theorem dX3_offerRound_122 : decode cX3_offerRound 122 = .ok (.iastore, 1) := by decide +kernel
theorem dX3_offerRound_123 : decode cX3_offerRound 123 = .ok (.aload_n 0, 1) := by decide +kernel
theorem dX3_offerRound_124 : decode cX3_offerRound 124 = .ok (.getfield 36, 3) := by decide +kernel
theorem dX3_offerRound_127 : decode cX3_offerRound 127 = .ok (.iload_n 1, 1) := by decide +kernel
theorem dX3_offerRound_128 : decode cX3_offerRound 128 = .ok (.iload 5, 2) := by decide +kernel
theorem dX3_offerRound_130 : decode cX3_offerRound 130 = .ok (.iastore, 1) := by decide +kernel
theorem dX3_offerRound_131 : decode cX3_offerRound 131 = .ok (.return_, 1) := by decide +kernel
theorem lk_og_offerRound_108 (br : Nat) (hbr : g_isRounds br) (v1 : Int32) (v3 : Int32) (v4 : Int32) (v5 : Int32) (μ : g_St) : g_Go gC 1 yX3_offerRound cX3_offerRound 7 (none : Option Jvm.ClassFile.FieldType) 108 [some (.ref br), some (.int v1), none, some (.int v3), some (.int v4), some (.int v5), none] [] μ (Option.map o_yv (og_offerRound_108 br v1 v3 v4 v5 μ)) := by
  unfold og_offerRound_108
  refine g_aload_n dX3_offerRound_108 rfl rfl ?_
  refine g_getS dX3_offerRound_109 cf_X3 fl_X3_30 (ly_Rounds_lt hbr) (ly_Rounds hbr) rfl (Nat.le_of_ble_eq_true rfl) ?_
  refine g_iload_n dX3_offerRound_112 rfl rfl ?_
  refine g_iload_n dX3_offerRound_113 rfl rfl ?_
  refine w_iast dX3_offerRound_114 (ly_Rounds_worth_lt hbr) (ly_Rounds_worth hbr) (fun μ11 => ?_)
  refine g_aload_n dX3_offerRound_115 rfl rfl ?_
  refine g_getS dX3_offerRound_116 cf_X3 fl_X3_33 (ly_Rounds_lt hbr) (ly_Rounds hbr) rfl (Nat.le_of_ble_eq_true rfl) ?_
  refine g_iload_n dX3_offerRound_119 rfl rfl ?_
  refine g_iload dX3_offerRound_120 rfl ?_
  refine w_iast dX3_offerRound_122 (ly_Rounds_many_lt hbr) (ly_Rounds_many hbr) (fun μ12 => ?_)
  refine g_aload_n dX3_offerRound_123 rfl rfl ?_
  refine g_getS dX3_offerRound_124 cf_X3 fl_X3_36 (ly_Rounds_lt hbr) (ly_Rounds hbr) rfl (Nat.le_of_ble_eq_true rfl) ?_
  refine g_iload_n dX3_offerRound_127 rfl rfl ?_
  refine g_iload dX3_offerRound_128 rfl ?_
  refine w_iast dX3_offerRound_130 (ly_Rounds_within_lt hbr) (ly_Rounds_within hbr) (fun μ13 => ?_)
  exact w_vret dX3_offerRound_131 rfl rfl
theorem lk_og_offerRound_81 (br : Nat) (hbr : g_isRounds br) (v1 : Int32) (v3 : Int32) (v4 : Int32) (v5 : Int32) (s0 : Int32) (μ : g_St) : g_Go gC 1 yX3_offerRound cX3_offerRound 7 (none : Option Jvm.ClassFile.FieldType) 81 [some (.ref br), some (.int v1), none, some (.int v3), some (.int v4), some (.int v5), none] [.int s0] μ (Option.map o_yv (og_offerRound_81 br v1 v3 v4 v5 s0 μ)) := by
  unfold og_offerRound_81
  refine g_istore (lo2 := [_, _, _, _, _, _, _]) dX3_offerRound_81 (Nat.le_of_ble_eq_true rfl) rfl rfl ?_
  refine g_iload_n dX3_offerRound_83 rfl rfl ?_
  refine g_aload_n dX3_offerRound_84 rfl rfl ?_
  refine g_getS dX3_offerRound_85 cf_X3 fl_X3_30 (ly_Rounds_lt hbr) (ly_Rounds hbr) rfl (Nat.le_of_ble_eq_true rfl) ?_
  refine g_iload_n dX3_offerRound_88 rfl rfl ?_
  refine w_iald dX3_offerRound_89 (ly_Rounds_worth_lt hbr) (ly_Rounds_worth hbr) (fun x9 => ?_)
  refine w_icmp_gt (tgt := 108) dX3_offerRound_90 (by decide) ?_ ?_
  · refine g_iload_n dX3_offerRound_93 rfl rfl ?_
    refine g_aload_n dX3_offerRound_94 rfl rfl ?_
    refine g_getS dX3_offerRound_95 cf_X3 fl_X3_30 (ly_Rounds_lt hbr) (ly_Rounds hbr) rfl (Nat.le_of_ble_eq_true rfl) ?_
    refine g_iload_n dX3_offerRound_98 rfl rfl ?_
    refine w_iald dX3_offerRound_99 (ly_Rounds_worth_lt hbr) (ly_Rounds_worth hbr) (fun x10 => ?_)
    refine w_icmp_ne (tgt := 131) dX3_offerRound_100 (by decide) ?_ ?_
    · refine g_iload dX3_offerRound_103 rfl ?_
      refine w_if_eq (tgt := 131) dX3_offerRound_105 (by decide) ?_ ?_
      · exact w_vret dX3_offerRound_131 rfl rfl
      · exact g_to (lk_og_offerRound_108 br hbr _ _ _ _ _) (su_s (su_s (su_n (su_s (su_s (su_s (su_n su_0)))))))
    · exact w_vret dX3_offerRound_131 rfl rfl
  · exact g_to (lk_og_offerRound_108 br hbr _ _ _ _ _) (su_s (su_s (su_n (su_s (su_s (su_s (su_n su_0)))))))
theorem lk_og_offerRound_76 (br : Nat) (hbr : g_isRounds br) (v1 : Int32) (v3 : Int32) (v4 : Int32) (v5 : Int32) (μ : g_St) : g_Go gC 1 yX3_offerRound cX3_offerRound 7 (none : Option Jvm.ClassFile.FieldType) 76 [some (.ref br), some (.int v1), none, some (.int v3), some (.int v4), some (.int v5), none] [] μ (Option.map o_yv (og_offerRound_76 br v1 v3 v4 v5 μ)) := by
  unfold og_offerRound_76
  refine g_iconst dX3_offerRound_76 ic_1 ?_
  refine g_goto (tgt := 81) dX3_offerRound_77 (by decide) ?_
  exact g_to (lk_og_offerRound_81 br hbr _ _ _ _ _ _) (su_s (su_s (su_n (su_s (su_s (su_s (su_n su_0)))))))
theorem lk_og_offerRound_80 (br : Nat) (hbr : g_isRounds br) (v1 : Int32) (v3 : Int32) (v4 : Int32) (v5 : Int32) (μ : g_St) : g_Go gC 1 yX3_offerRound cX3_offerRound 7 (none : Option Jvm.ClassFile.FieldType) 80 [some (.ref br), some (.int v1), none, some (.int v3), some (.int v4), some (.int v5), none] [] μ (Option.map o_yv (og_offerRound_80 br v1 v3 v4 v5 μ)) := by
  unfold og_offerRound_80
  refine g_iconst dX3_offerRound_80 ic_0 ?_
  exact g_to (lk_og_offerRound_81 br hbr _ _ _ _ _ _) (su_s (su_s (su_n (su_s (su_s (su_s (su_n su_0)))))))
theorem lk_og_offerRound (br : Nat) (hbr : g_isRounds br) (v1 : Int32) (v2 : Int32) (μ : g_St) : g_Go gC 1 yX3_offerRound cX3_offerRound 7 (none : Option Jvm.ClassFile.FieldType) 0 [some (.ref br), some (.int v1), some (.int v2), none, none, none, none] [] μ (Option.map o_yv (og_offerRound br v1 v2 μ)) := by
  unfold og_offerRound
  refine g_aload_n dX3_offerRound_0 rfl rfl ?_
  refine g_getS dX3_offerRound_1 cf_X3 fl_X3_27 (ly_Rounds_lt hbr) (ly_Rounds hbr) rfl (Nat.le_of_ble_eq_true rfl) ?_
  refine g_iload_n dX3_offerRound_4 rfl rfl ?_
  refine w_iald dX3_offerRound_5 (ly_Rounds_best_lt hbr) (ly_Rounds_best hbr) (fun x1 => ?_)
  refine g_aload_n dX3_offerRound_6 rfl rfl ?_
  refine g_getS dX3_offerRound_7 cf_X3 fl_X3_30 (ly_Rounds_lt hbr) (ly_Rounds hbr) rfl (Nat.le_of_ble_eq_true rfl) ?_
  refine g_iload_n dX3_offerRound_10 rfl rfl ?_
  refine g_iload_n dX3_offerRound_11 rfl rfl ?_
  refine g_ixor dX3_offerRound_12 ?_
  refine w_iald dX3_offerRound_13 (ly_Rounds_worth_lt hbr) (ly_Rounds_worth hbr) (fun x2 => ?_)
  refine g_iadd dX3_offerRound_14 ?_
  refine g_istore_n (lo2 := [_, _, _, _, _, _, _]) dX3_offerRound_15 rfl (Nat.le_of_ble_eq_true rfl) rfl rfl ?_
  refine g_iconst dX3_offerRound_16 ic_1 ?_
  refine g_aload_n dX3_offerRound_17 rfl rfl ?_
  refine g_getS dX3_offerRound_18 cf_X3 fl_X3_33 (ly_Rounds_lt hbr) (ly_Rounds hbr) rfl (Nat.le_of_ble_eq_true rfl) ?_
  refine g_iload_n dX3_offerRound_21 rfl rfl ?_
  refine g_iload_n dX3_offerRound_22 rfl rfl ?_
  refine g_ixor dX3_offerRound_23 ?_
  refine w_iald dX3_offerRound_24 (ly_Rounds_many_lt hbr) (ly_Rounds_many hbr) (fun x3 => ?_)
  refine g_iadd dX3_offerRound_25 ?_
  refine g_istore (lo2 := [_, _, _, _, _, _, _]) dX3_offerRound_26 (Nat.le_of_ble_eq_true rfl) rfl rfl ?_
  refine g_iload_n dX3_offerRound_28 rfl rfl ?_
  refine w_Sxi [.int _] dX3_offerRound_29 ml_X3_78 ms_J6_bitCount_0f7a4 mc_J6_bitCount_0f7a4 rfl (Nat.le_of_ble_eq_true rfl) (Nat.le_of_ble_eq_true rfl) (Nat.le_of_ble_eq_true rfl) rfl (co_jj_bitCount gC _ _) (fun x4 => ?_)
  refine g_aload_n dX3_offerRound_32 rfl rfl ?_
  refine g_getS dX3_offerRound_33 cf_X3 fl_X3_36 (ly_Rounds_lt hbr) (ly_Rounds hbr) rfl (Nat.le_of_ble_eq_true rfl) ?_
  refine g_iload_n dX3_offerRound_36 rfl rfl ?_
  refine g_iload_n dX3_offerRound_37 rfl rfl ?_
  refine g_ixor dX3_offerRound_38 ?_
  refine w_iald dX3_offerRound_39 (ly_Rounds_within_lt hbr) (ly_Rounds_within hbr) (fun x5 => ?_)
  refine g_iadd dX3_offerRound_40 ?_
  refine g_istore (lo2 := [_, _, _, _, _, _, _]) dX3_offerRound_41 (Nat.le_of_ble_eq_true rfl) rfl rfl ?_
  refine g_iload dX3_offerRound_43 rfl ?_
  refine g_aload_n dX3_offerRound_45 rfl rfl ?_
  refine g_getS dX3_offerRound_46 cf_X3 fl_X3_33 (ly_Rounds_lt hbr) (ly_Rounds hbr) rfl (Nat.le_of_ble_eq_true rfl) ?_
  refine g_iload_n dX3_offerRound_49 rfl rfl ?_
  refine w_iald dX3_offerRound_50 (ly_Rounds_many_lt hbr) (ly_Rounds_many hbr) (fun x6 => ?_)
  refine w_icmp_lt (tgt := 76) dX3_offerRound_51 (by decide) ?_ ?_
  · refine g_iload dX3_offerRound_54 rfl ?_
    refine g_aload_n dX3_offerRound_56 rfl rfl ?_
    refine g_getS dX3_offerRound_57 cf_X3 fl_X3_33 (ly_Rounds_lt hbr) (ly_Rounds hbr) rfl (Nat.le_of_ble_eq_true rfl) ?_
    refine g_iload_n dX3_offerRound_60 rfl rfl ?_
    refine w_iald dX3_offerRound_61 (ly_Rounds_many_lt hbr) (ly_Rounds_many hbr) (fun x7 => ?_)
    refine w_icmp_ne (tgt := 80) dX3_offerRound_62 (by decide) ?_ ?_
    · refine g_iload dX3_offerRound_65 rfl ?_
      refine g_aload_n dX3_offerRound_67 rfl rfl ?_
      refine g_getS dX3_offerRound_68 cf_X3 fl_X3_36 (ly_Rounds_lt hbr) (ly_Rounds hbr) rfl (Nat.le_of_ble_eq_true rfl) ?_
      refine g_iload_n dX3_offerRound_71 rfl rfl ?_
      refine w_iald dX3_offerRound_72 (ly_Rounds_within_lt hbr) (ly_Rounds_within hbr) (fun x8 => ?_)
      refine w_icmp_ge (tgt := 80) dX3_offerRound_73 (by decide) ?_ ?_
      · exact g_to (lk_og_offerRound_76 br hbr _ _ _ _ _) (su_s (su_s (su_n (su_s (su_s (su_s (su_n su_0)))))))
      · exact g_to (lk_og_offerRound_80 br hbr _ _ _ _ _) (su_s (su_s (su_n (su_s (su_s (su_s (su_n su_0)))))))
    · exact g_to (lk_og_offerRound_80 br hbr _ _ _ _ _) (su_s (su_s (su_n (su_s (su_s (su_s (su_n su_0)))))))
  · exact g_to (lk_og_offerRound_76 br hbr _ _ _ _ _) (su_s (su_s (su_n (su_s (su_s (su_s (su_n su_0)))))))
theorem co_og_offerRound (br : Nat) (hbr : g_isRounds br) (v1 : Int32) (v2 : Int32) (μ : g_St) : g_Con gC 1 yX3_offerRound cX3_offerRound 7 (none : Option Jvm.ClassFile.FieldType) [.ref br, .int v1, .int v2] μ (g_yv (og_offerRound br v1 v2 μ)) := g_conOf mc_X3_offerRound.2.2.2.2 (Nat.le_of_ble_eq_true rfl) rfl g_yv_rk (lk_og_offerRound br hbr v1 v2 μ)
theorem dX3_findMost_0 : decode cX3_findMost 0 = .ok (.iload_n 1, 1) := by decide +kernel
theorem dX3_findMost_1 : decode cX3_findMost 1 = .ok (.iload_n 1, 1) := by decide +kernel
theorem dX3_findMost_2 : decode cX3_findMost 2 = .ok (.ineg, 1) := by decide +kernel
theorem dX3_findMost_3 : decode cX3_findMost 3 = .ok (.iand, 1) := by decide +kernel
theorem dX3_findMost_4 : decode cX3_findMost 4 = .ok (.istore_n 2, 1) := by decide +kernel
theorem dX3_findMost_5 : decode cX3_findMost 5 = .ok (.iload_n 1, 1) := by decide +kernel
theorem dX3_findMost_6 : decode cX3_findMost 6 = .ok (.iload_n 2, 1) := by decide +kernel
theorem dX3_findMost_7 : decode cX3_findMost 7 = .ok (.ixor, 1) := by decide +kernel
theorem dX3_findMost_8 : decode cX3_findMost 8 = .ok (.istore_n 3, 1) := by decide +kernel
theorem dX3_findMost_9 : decode cX3_findMost 9 = .ok (.aload_n 0, 1) := by decide +kernel
theorem dX3_findMost_10 : decode cX3_findMost 10 = .ok (.getfield 30, 3) := by decide +kernel
theorem dX3_findMost_13 : decode cX3_findMost 13 = .ok (.iload_n 1, 1) := by decide +kernel
theorem dX3_findMost_14 : decode cX3_findMost 14 = .ok (.aload_n 0, 1) := by decide +kernel
theorem dX3_findMost_15 : decode cX3_findMost 15 = .ok (.getfield 30, 3) := by decide +kernel
theorem dX3_findMost_18 : decode cX3_findMost 18 = .ok (.iload_n 3, 1) := by decide +kernel
theorem dX3_findMost_19 : decode cX3_findMost 19 = .ok (.iaload, 1) := by decide +kernel
theorem dX3_findMost_20 : decode cX3_findMost 20 = .ok (.iastore, 1) := by decide +kernel
theorem dX3_findMost_21 : decode cX3_findMost 21 = .ok (.aload_n 0, 1) := by decide +kernel
theorem dX3_findMost_22 : decode cX3_findMost 22 = .ok (.getfield 33, 3) := by decide +kernel
theorem dX3_findMost_25 : decode cX3_findMost 25 = .ok (.iload_n 1, 1) := by decide +kernel
theorem dX3_findMost_26 : decode cX3_findMost 26 = .ok (.aload_n 0, 1) := by decide +kernel
theorem dX3_findMost_27 : decode cX3_findMost 27 = .ok (.getfield 33, 3) := by decide +kernel
theorem dX3_findMost_30 : decode cX3_findMost 30 = .ok (.iload_n 3, 1) := by decide +kernel
theorem dX3_findMost_31 : decode cX3_findMost 31 = .ok (.iaload, 1) := by decide +kernel
theorem dX3_findMost_32 : decode cX3_findMost 32 = .ok (.iastore, 1) := by decide +kernel
theorem dX3_findMost_33 : decode cX3_findMost 33 = .ok (.aload_n 0, 1) := by decide +kernel
theorem dX3_findMost_34 : decode cX3_findMost 34 = .ok (.getfield 36, 3) := by decide +kernel
theorem dX3_findMost_37 : decode cX3_findMost 37 = .ok (.iload_n 1, 1) := by decide +kernel
theorem dX3_findMost_38 : decode cX3_findMost 38 = .ok (.aload_n 0, 1) := by decide +kernel
theorem dX3_findMost_39 : decode cX3_findMost 39 = .ok (.getfield 36, 3) := by decide +kernel
theorem dX3_findMost_42 : decode cX3_findMost 42 = .ok (.iload_n 3, 1) := by decide +kernel
theorem dX3_findMost_43 : decode cX3_findMost 43 = .ok (.iaload, 1) := by decide +kernel
theorem dX3_findMost_44 : decode cX3_findMost 44 = .ok (.iastore, 1) := by decide +kernel
theorem dX3_findMost_45 : decode cX3_findMost 45 = .ok (.iload_n 3, 1) := by decide +kernel
theorem dX3_findMost_46 : decode cX3_findMost 46 = .ok (.istore 4, 2) := by decide +kernel
theorem dX3_findMost_48 : decode cX3_findMost 48 = .ok (.iload 4, 2) := by decide +kernel
theorem dX3_findMost_50 : decode cX3_findMost 50 = .ok (.ifCond .le 36, 3) := by decide +kernel
theorem dX3_findMost_53 : decode cX3_findMost 53 = .ok (.aload_n 0, 1) := by decide +kernel
theorem dX3_findMost_54 : decode cX3_findMost 54 = .ok (.getfield 27, 3) := by decide +kernel
theorem dX3_findMost_57 : decode cX3_findMost 57 = .ok (.iload 4, 2) := by decide +kernel
theorem dX3_findMost_59 : decode cX3_findMost 59 = .ok (.iload_n 2, 1) := by decide +kernel
theorem dX3_findMost_60 : decode cX3_findMost 60 = .ok (.ior, 1) := by decide +kernel
theorem dX3_findMost_61 : decode cX3_findMost 61 = .ok (.iaload, 1) := by decide +kernel
theorem dX3_findMost_62 : decode cX3_findMost 62 = .ok (.iconst (-1), 1) := by decide +kernel
theorem dX3_findMost_63 : decode cX3_findMost 63 = .ok (.if_icmp .eq 12, 3) := by decide +kernel
theorem dX3_findMost_66 : decode cX3_findMost 66 = .ok (.aload_n 0, 1) := by decide +kernel
theorem dX3_findMost_67 : decode cX3_findMost 67 = .ok (.iload_n 1, 1) := by decide +kernel
theorem dX3_findMost_68 : decode cX3_findMost 68 = .ok (.iload 4, 2) := by decide +kernel
theorem dX3_findMost_70 : decode cX3_findMost 70 = .ok (.iload_n 2, 1) := by decide +kernel
theorem dX3_findMost_71 : decode cX3_findMost 71 = .ok (.ior, 1) := by decide +kernel
theorem dX3_findMost_72 : decode cX3_findMost 72 = .ok (.invokevirtual 90, 3) := by decide +kernel
theorem dX3_findMost_75 : decode cX3_findMost 75 = .ok (.iload 4, 2) := by decide +kernel
theorem dX3_findMost_77 : decode cX3_findMost 77 = .ok (.iconst 1, 1) := by decide +kernel
theorem dX3_findMost_78 : decode cX3_findMost 78 = .ok (.isub, 1) := by decide +kernel
theorem dX3_findMost_79 : decode cX3_findMost 79 = .ok (.iload_n 3, 1) := by decide +kernel
theorem dX3_findMost_80 : decode cX3_findMost 80 = .ok (.iand, 1) := by decide +kernel
theorem dX3_findMost_81 : decode cX3_findMost 81 = .ok (.istore 4, 2) := by decide +kernel
theorem dX3_findMost_83 : decode cX3_findMost 83 = .ok (.goto (-35), 3) := by decide +kernel
theorem dX3_findMost_86 : decode cX3_findMost 86 = .ok (.return_, 1) := by decide +kernel
theorem lk_og_findMost_48_b (F : Nat) (br : Nat) (hbr : g_isRounds br) (v1 : Int32) (v2 : Int32) (v3 : Int32) (K_48 : Int32 → g_St → Option g_St) (hK_48 : ∀ (w4 : Int32) (ν : g_St), g_Go gC 2 yX3_findMost cX3_findMost 5 (none : Option Jvm.ClassFile.FieldType) 48 [some (.ref br), some (.int v1), some (.int v2), some (.int v3), some (.int w4)] [] ν (Option.map o_yv (K_48 w4 ν))) (v4 : Int32) (μ : g_St) : g_Go gC 2 yX3_findMost cX3_findMost 5 (none : Option Jvm.ClassFile.FieldType) 48 [some (.ref br), some (.int v1), some (.int v2), some (.int v3), some (.int v4)] [] μ (Option.map o_yv (og_findMost_48_b F br v1 v2 v3 K_48 v4 μ)) := by
  unfold og_findMost_48_b
  refine g_iload dX3_findMost_48 rfl ?_
  refine w_if_le (tgt := 86) dX3_findMost_50 (by decide) ?_ ?_
  · refine g_aload_n dX3_findMost_53 rfl rfl ?_
    refine g_getS dX3_findMost_54 cf_X3 fl_X3_27 (ly_Rounds_lt hbr) (ly_Rounds hbr) rfl (Nat.le_of_ble_eq_true rfl) ?_
    refine g_iload dX3_findMost_57 rfl ?_
    refine g_iload_n dX3_findMost_59 rfl rfl ?_
    refine g_ior dX3_findMost_60 ?_
    refine w_iald dX3_findMost_61 (ly_Rounds_best_lt hbr) (ly_Rounds_best hbr) (fun x7 => ?_)
    refine g_iconst dX3_findMost_62 ic_m1 ?_
    refine w_icmp_eq (tgt := 75) dX3_findMost_63 (by decide) ?_ ?_
    · refine g_iload dX3_findMost_75 rfl ?_
      refine g_iconst dX3_findMost_77 ic_1 ?_
      refine g_isub dX3_findMost_78 ?_
      refine g_iload_n dX3_findMost_79 rfl rfl ?_
      refine g_iand dX3_findMost_80 ?_
      refine g_istore (lo2 := [_, _, _, _, _]) dX3_findMost_81 (Nat.le_of_ble_eq_true rfl) rfl rfl ?_
      refine g_goto (tgt := 48) dX3_findMost_83 (by decide) ?_
      exact g_to (hK_48 _ _) (su_s (su_s (su_s (su_s (su_s su_0)))))
    · refine g_aload_n dX3_findMost_66 rfl rfl ?_
      refine g_iload_n dX3_findMost_67 rfl rfl ?_
      refine g_iload dX3_findMost_68 rfl ?_
      refine g_iload_n dX3_findMost_70 rfl rfl ?_
      refine g_ior dX3_findMost_71 ?_
      refine w_Vyv [.int _, .int _] dX3_findMost_72 ml_X3_90 mv_X3_offerRound mc_X3_offerRound cf_X3 (ly_Rounds_lt hbr) (ly_Rounds hbr) rfl (Nat.le_of_ble_eq_true rfl) (Nat.le_of_ble_eq_true rfl) (Nat.le_of_ble_eq_true rfl) rfl (co_og_offerRound _ hbr _ _ _) (fun μ8 => ?_)
      refine g_iload dX3_findMost_75 rfl ?_
      refine g_iconst dX3_findMost_77 ic_1 ?_
      refine g_isub dX3_findMost_78 ?_
      refine g_iload_n dX3_findMost_79 rfl rfl ?_
      refine g_iand dX3_findMost_80 ?_
      refine g_istore (lo2 := [_, _, _, _, _]) dX3_findMost_81 (Nat.le_of_ble_eq_true rfl) rfl rfl ?_
      refine g_goto (tgt := 48) dX3_findMost_83 (by decide) ?_
      exact g_to (hK_48 _ _) (su_s (su_s (su_s (su_s (su_s su_0)))))
  · exact w_vret dX3_findMost_86 rfl rfl
theorem lk_og_findMost_48 (F : Nat) (br : Nat) (hbr : g_isRounds br) (v1 : Int32) (v2 : Int32) (v3 : Int32) : ∀ (f : Nat) (v4 : Int32) (μ : g_St) , g_Go gC 2 yX3_findMost cX3_findMost 5 (none : Option Jvm.ClassFile.FieldType) 48 [some (.ref br), some (.int v1), some (.int v2), some (.int v3), some (.int v4)] [] μ (Option.map o_yv (og_findMost_48 F br v1 v2 v3 f v4 μ))
  | 0, v4, μ => g_none
  | f + 1, v4, μ => lk_og_findMost_48_b F br hbr v1 v2 v3 (og_findMost_48 F br v1 v2 v3 f) (lk_og_findMost_48 F br hbr v1 v2 v3 f) v4 μ
theorem lk_og_findMost (F : Nat) (br : Nat) (hbr : g_isRounds br) (v1 : Int32) (μ : g_St) : g_Go gC 2 yX3_findMost cX3_findMost 5 (none : Option Jvm.ClassFile.FieldType) 0 [some (.ref br), some (.int v1), none, none, none] [] μ (Option.map o_yv (og_findMost F br v1 μ)) := by
  unfold og_findMost
  refine g_iload_n dX3_findMost_0 rfl rfl ?_
  refine g_iload_n dX3_findMost_1 rfl rfl ?_
  refine g_ineg dX3_findMost_2 ?_
  refine g_iand dX3_findMost_3 ?_
  refine g_istore_n (lo2 := [_, _, _, _, _]) dX3_findMost_4 rfl (Nat.le_of_ble_eq_true rfl) rfl rfl ?_
  refine g_iload_n dX3_findMost_5 rfl rfl ?_
  refine g_iload_n dX3_findMost_6 rfl rfl ?_
  refine g_ixor dX3_findMost_7 ?_
  refine g_istore_n (lo2 := [_, _, _, _, _]) dX3_findMost_8 rfl (Nat.le_of_ble_eq_true rfl) rfl rfl ?_
  refine g_aload_n dX3_findMost_9 rfl rfl ?_
  refine g_getS dX3_findMost_10 cf_X3 fl_X3_30 (ly_Rounds_lt hbr) (ly_Rounds hbr) rfl (Nat.le_of_ble_eq_true rfl) ?_
  refine g_iload_n dX3_findMost_13 rfl rfl ?_
  refine g_aload_n dX3_findMost_14 rfl rfl ?_
  refine g_getS dX3_findMost_15 cf_X3 fl_X3_30 (ly_Rounds_lt hbr) (ly_Rounds hbr) rfl (Nat.le_of_ble_eq_true rfl) ?_
  refine g_iload_n dX3_findMost_18 rfl rfl ?_
  refine w_iald dX3_findMost_19 (ly_Rounds_worth_lt hbr) (ly_Rounds_worth hbr) (fun x1 => ?_)
  refine w_iast dX3_findMost_20 (ly_Rounds_worth_lt hbr) (ly_Rounds_worth hbr) (fun μ2 => ?_)
  refine g_aload_n dX3_findMost_21 rfl rfl ?_
  refine g_getS dX3_findMost_22 cf_X3 fl_X3_33 (ly_Rounds_lt hbr) (ly_Rounds hbr) rfl (Nat.le_of_ble_eq_true rfl) ?_
  refine g_iload_n dX3_findMost_25 rfl rfl ?_
  refine g_aload_n dX3_findMost_26 rfl rfl ?_
  refine g_getS dX3_findMost_27 cf_X3 fl_X3_33 (ly_Rounds_lt hbr) (ly_Rounds hbr) rfl (Nat.le_of_ble_eq_true rfl) ?_
  refine g_iload_n dX3_findMost_30 rfl rfl ?_
  refine w_iald dX3_findMost_31 (ly_Rounds_many_lt hbr) (ly_Rounds_many hbr) (fun x3 => ?_)
  refine w_iast dX3_findMost_32 (ly_Rounds_many_lt hbr) (ly_Rounds_many hbr) (fun μ4 => ?_)
  refine g_aload_n dX3_findMost_33 rfl rfl ?_
  refine g_getS dX3_findMost_34 cf_X3 fl_X3_36 (ly_Rounds_lt hbr) (ly_Rounds hbr) rfl (Nat.le_of_ble_eq_true rfl) ?_
  refine g_iload_n dX3_findMost_37 rfl rfl ?_
  refine g_aload_n dX3_findMost_38 rfl rfl ?_
  refine g_getS dX3_findMost_39 cf_X3 fl_X3_36 (ly_Rounds_lt hbr) (ly_Rounds hbr) rfl (Nat.le_of_ble_eq_true rfl) ?_
  refine g_iload_n dX3_findMost_42 rfl rfl ?_
  refine w_iald dX3_findMost_43 (ly_Rounds_within_lt hbr) (ly_Rounds_within hbr) (fun x5 => ?_)
  refine w_iast dX3_findMost_44 (ly_Rounds_within_lt hbr) (ly_Rounds_within hbr) (fun μ6 => ?_)
  refine g_iload_n dX3_findMost_45 rfl rfl ?_
  refine g_istore (lo2 := [_, _, _, _, _]) dX3_findMost_46 (Nat.le_of_ble_eq_true rfl) rfl rfl ?_
  exact g_to (lk_og_findMost_48 F br hbr _ _ _ _ _ _) (su_s (su_s (su_s (su_s (su_s su_0)))))
theorem co_og_findMost (F : Nat) (br : Nat) (hbr : g_isRounds br) (v1 : Int32) (μ : g_St) : g_Con gC 2 yX3_findMost cX3_findMost 5 (none : Option Jvm.ClassFile.FieldType) [.ref br, .int v1] μ (g_yv (og_findMost F br v1 μ)) := g_conOf mc_X3_findMost.2.2.2.2 (Nat.le_of_ble_eq_true rfl) rfl g_yv_rk (lk_og_findMost F br hbr v1 μ)
theorem dX3_find_0 : decode cX3_find 0 = .ok (.iconst 0, 1) := by decide +kernel
theorem dX3_find_1 : decode cX3_find 1 = .ok (.istore_n 3, 1) := by decide +kernel
theorem dX3_find_2 : decode cX3_find 2 = .ok (.iload_n 3, 1) := by decide +kernel
theorem dX3_find_3 : decode cX3_find 3 = .ok (.aload_n 1, 1) := by decide +kernel
theorem dX3_find_4 : decode cX3_find 4 = .ok (.getfield 45, 3) := by decide +kernel
theorem dX3_find_7 : decode cX3_find 7 = .ok (.if_icmp .ge 15, 3) := by decide +kernel
theorem dX3_find_10 : decode cX3_find 10 = .ok (.aload_n 0, 1) := by decide +kernel
theorem dX3_find_11 : decode cX3_find 11 = .ok (.aload_n 1, 1) := by decide +kernel
theorem dX3_find_12 : decode cX3_find 12 = .ok (.iload_n 3, 1) := by decide +kernel
theorem dX3_find_13 : decode cX3_find 13 = .ok (.invokevirtual 51, 3) := by decide +kernel
theorem dX3_find_16 : decode cX3_find 16 = .ok (.iinc 3 1, 3) := by decide +kernel
theorem dX3_find_19 : decode cX3_find 19 = .ok (.goto (-17), 3) := by decide +kernel
theorem dX3_find_22 : decode cX3_find 22 = .ok (.iconst 0, 1) := by decide +kernel
theorem dX3_find_23 : decode cX3_find 23 = .ok (.istore_n 3, 1) := by decide +kernel
theorem dX3_find_24 : decode cX3_find 24 = .ok (.iconst 0, 1) := by decide +kernel
theorem dX3_find_25 : decode cX3_find 25 = .ok (.istore 4, 2) := by decide +kernel
theorem dX3_find_27 : decode cX3_find 27 = .ok (.iload 4, 2) := by decide +kernel
theorem dX3_find_29 : decode cX3_find 29 = .ok (.aload_n 1, 1) := by decide +kernel
theorem dX3_find_30 : decode cX3_find 30 = .ok (.getfield 45, 3) := by decide +kernel
theorem dX3_find_33 : decode cX3_find 33 = .ok (.if_icmp .ge 36, 3) := by decide +kernel
theorem dX3_find_36 : decode cX3_find 36 = .ok (.iload_n 3, 1) := by decide +kernel
theorem dX3_find_37 : decode cX3_find 37 = .ok (.iload_n 2, 1) := by decide +kernel
theorem dX3_find_38 : decode cX3_find 38 = .ok (.iload 4, 2) := by decide +kernel
theorem dX3_find_40 : decode cX3_find 40 = .ok (.ishr, 1) := by decide +kernel
theorem dX3_find_41 : decode cX3_find 41 = .ok (.iconst 1, 1) := by decide +kernel
theorem dX3_find_42 : decode cX3_find 42 = .ok (.iand, 1) := by decide +kernel
theorem dX3_find_43 : decode cX3_find 43 = .ok (.iconst 1, 1) := by decide +kernel
theorem dX3_find_44 : decode cX3_find 44 = .ok (.if_icmp .ne 16, 3) := by decide +kernel
theorem dX3_find_47 : decode cX3_find 47 = .ok (.aload_n 0, 1) := by decide +kernel
theorem dX3_find_48 : decode cX3_find 48 = .ok (.iload 4, 2) := by decide +kernel
theorem dX3_find_50 : decode cX3_find 50 = .ok (.invokevirtual 55, 3) := by decide +kernel
theorem dX3_find_53 : decode cX3_find 53 = .ok (.ifCond .eq 7, 3) := by decide +kernel
theorem dX3_find_56 : decode cX3_find 56 = .ok (.iconst 1, 1) := by decide +kernel
theorem dX3_find_57 : decode cX3_find 57 = .ok (.goto 4, 3) := by decide +kernel
theorem dX3_find_60 : decode cX3_find 60 = .ok (.iconst 0, 1) := by decide +kernel
theorem dX3_find_61 : decode cX3_find 61 = .ok (.ior, 1) := by decide +kernel
theorem dX3_find_62 : decode cX3_find 62 = .ok (.istore_n 3, 1) := by decide +kernel
theorem dX3_find_63 : decode cX3_find 63 = .ok (.iinc 4 1, 3) := by decide +kernel
theorem dX3_find_66 : decode cX3_find 66 = .ok (.goto (-39), 3) := by decide +kernel
theorem dX3_find_69 : decode cX3_find 69 = .ok (.iconst 1, 1) := by decide +kernel
theorem dX3_find_70 : decode cX3_find 70 = .ok (.istore 4, 2) := by decide +kernel
theorem dX3_find_72 : decode cX3_find 72 = .ok (.iload_n 3, 1) := by decide +kernel
theorem dX3_find_73 : decode cX3_find 73 = .ok (.ifCond .eq 30, 3) := by decide +kernel
theorem dX3_find_76 : decode cX3_find 76 = .ok (.iload 4, 2) := by decide +kernel
theorem dX3_find_78 : decode cX3_find 78 = .ok (.iload_n 2, 1) := by decide +kernel
theorem dX3_find_79 : decode cX3_find 79 = .ok (.if_icmp .gt 24, 3) := by decide +kernel
theorem dX3_find_82 : decode cX3_find 82 = .ok (.iload 4, 2) := by decide +kernel
theorem dX3_find_84 : decode cX3_find 84 = .ok (.iload_n 2, 1) := by decide +kernel
theorem dX3_find_85 : decode cX3_find 85 = .ok (.iconst (-1), 1) := by decide +kernel
theorem dX3_find_86 : decode cX3_find 86 = .ok (.ixor, 1) := by decide +kernel
theorem dX3_find_87 : decode cX3_find 87 = .ok (.iand, 1) := by decide +kernel
theorem dX3_find_88 : decode cX3_find 88 = .ok (.ifCond .ne 9, 3) := by decide +kernel
theorem dX3_find_91 : decode cX3_find 91 = .ok (.aload_n 0, 1) := by decide +kernel
theorem dX3_find_92 : decode cX3_find 92 = .ok (.iload 4, 2) := by decide +kernel
theorem dX3_find_94 : decode cX3_find 94 = .ok (.invokevirtual 59, 3) := by decide +kernel
theorem dX3_find_97 : decode cX3_find 97 = .ok (.iinc 4 1, 3) := by decide +kernel
theorem dX3_find_100 : decode cX3_find 100 = .ok (.goto (-28), 3) := by decide +kernel
theorem dX3_find_103 : decode cX3_find 103 = .ok (.return_, 1) := by decide +kernel
theorem lk_og_find_72_b (F : Nat) (br : Nat) (hbr : g_isRounds br) (bl : Nat) (hbl : g_isLand bl) (v2 : Int32) (v3 : Int32) (K_72 : Int32 → g_St → Option g_St) (hK_72 : ∀ (w4 : Int32) (ν : g_St), g_Go gC 13 yX3_find cX3_find 5 (none : Option Jvm.ClassFile.FieldType) 72 [some (.ref br), none, some (.int v2), some (.int v3), some (.int w4)] [] ν (Option.map o_yv (K_72 w4 ν))) (v4 : Int32) (μ : g_St) : g_Go gC 13 yX3_find cX3_find 5 (none : Option Jvm.ClassFile.FieldType) 72 [some (.ref br), none, some (.int v2), some (.int v3), some (.int v4)] [] μ (Option.map o_yv (og_find_72_b F br bl v2 v3 K_72 v4 μ)) := by
  unfold og_find_72_b
  refine g_iload_n dX3_find_72 rfl rfl ?_
  refine w_if_eq (tgt := 103) dX3_find_73 (by decide) ?_ ?_
  · exact w_vret dX3_find_103 rfl rfl
  · refine g_iload dX3_find_76 rfl ?_
    refine g_iload_n dX3_find_78 rfl rfl ?_
    refine w_icmp_gt (tgt := 103) dX3_find_79 (by decide) ?_ ?_
    · refine g_iload dX3_find_82 rfl ?_
      refine g_iload_n dX3_find_84 rfl rfl ?_
      refine g_iconst dX3_find_85 ic_m1 ?_
      refine g_ixor dX3_find_86 ?_
      refine g_iand dX3_find_87 ?_
      refine w_if_ne (tgt := 97) dX3_find_88 (by decide) ?_ ?_
      · refine g_aload_n dX3_find_91 rfl rfl ?_
        refine g_iload dX3_find_92 rfl ?_
        refine w_Vyv [.int _] dX3_find_94 ml_X3_59 mv_X3_findMost mc_X3_findMost cf_X3 (ly_Rounds_lt hbr) (ly_Rounds hbr) rfl (Nat.le_of_ble_eq_true rfl) (Nat.le_of_ble_eq_true rfl) (Nat.le_of_ble_eq_true rfl) rfl (co_og_findMost F _ hbr _ _) (fun μ3 => ?_)
        refine g_iinc (lo2 := [_, _, _, _, _]) dX3_find_97 rfl rfl (Nat.le_of_ble_eq_true rfl) rfl rfl ?_
        refine g_goto (tgt := 72) dX3_find_100 (by decide) ?_
        exact g_to (hK_72 _ _) (su_s (su_n (su_s (su_s (su_s su_0)))))
      · refine g_iinc (lo2 := [_, _, _, _, _]) dX3_find_97 rfl rfl (Nat.le_of_ble_eq_true rfl) rfl rfl ?_
        refine g_goto (tgt := 72) dX3_find_100 (by decide) ?_
        exact g_to (hK_72 _ _) (su_s (su_n (su_s (su_s (su_s su_0)))))
    · exact w_vret dX3_find_103 rfl rfl
theorem lk_og_find_72 (F : Nat) (br : Nat) (hbr : g_isRounds br) (bl : Nat) (hbl : g_isLand bl) (v2 : Int32) (v3 : Int32) : ∀ (f : Nat) (v4 : Int32) (μ : g_St) , g_Go gC 13 yX3_find cX3_find 5 (none : Option Jvm.ClassFile.FieldType) 72 [some (.ref br), none, some (.int v2), some (.int v3), some (.int v4)] [] μ (Option.map o_yv (og_find_72 F br bl v2 v3 f v4 μ))
  | 0, v4, μ => g_none
  | f + 1, v4, μ => lk_og_find_72_b F br hbr bl hbl v2 v3 (og_find_72 F br bl v2 v3 f) (lk_og_find_72 F br hbr bl hbl v2 v3 f) v4 μ
theorem lk_og_find_27_b (F : Nat) (br : Nat) (hbr : g_isRounds br) (bl : Nat) (hbl : g_isLand bl) (v2 : Int32) (K_27 : Int32 → Int32 → g_St → Option g_St) (hK_27 : ∀ (w3 : Int32) (w4 : Int32) (ν : g_St), g_Go gC 13 yX3_find cX3_find 5 (none : Option Jvm.ClassFile.FieldType) 27 [some (.ref br), some (.ref bl), some (.int v2), some (.int w3), some (.int w4)] [] ν (Option.map o_yv (K_27 w3 w4 ν))) (v3 : Int32) (v4 : Int32) (μ : g_St) : g_Go gC 13 yX3_find cX3_find 5 (none : Option Jvm.ClassFile.FieldType) 27 [some (.ref br), some (.ref bl), some (.int v2), some (.int v3), some (.int v4)] [] μ (Option.map o_yv (og_find_27_b F br bl v2 K_27 v3 v4 μ)) := by
  unfold og_find_27_b
  refine g_iload dX3_find_27 rfl ?_
  refine g_aload_n dX3_find_29 rfl rfl ?_
  refine g_getI dX3_find_30 cf_X1 fl_X3_45 (ly_Land_lt hbl) (ly_Land hbl) rfl (Nat.le_of_ble_eq_true rfl) ?_
  refine w_icmp_ge (tgt := 69) dX3_find_33 (by decide) ?_ ?_
  · refine g_iload_n dX3_find_36 rfl rfl ?_
    refine g_iload_n dX3_find_37 rfl rfl ?_
    refine g_iload dX3_find_38 rfl ?_
    refine g_ishr dX3_find_40 ?_
    refine g_iconst dX3_find_41 ic_1 ?_
    refine g_iand dX3_find_42 ?_
    refine g_iconst dX3_find_43 ic_1 ?_
    refine w_icmp_ne (tgt := 60) dX3_find_44 (by decide) ?_ ?_
    · refine g_aload_n dX3_find_47 rfl rfl ?_
      refine g_iload dX3_find_48 rfl ?_
      refine w_Vyi [.int _] dX3_find_50 ml_X3_55 mv_X3_startRings mc_X3_startRings cf_X3 (ly_Rounds_lt hbr) (ly_Rounds hbr) rfl (Nat.le_of_ble_eq_true rfl) (Nat.le_of_ble_eq_true rfl) (Nat.le_of_ble_eq_true rfl) rfl (co_og_startRings F _ hbr _ _) (fun q2 => ?_)
      refine w_if_eq (tgt := 60) dX3_find_53 (by decide) ?_ ?_
      · refine g_iconst dX3_find_60 ic_0 ?_
        refine g_ior dX3_find_61 ?_
        refine g_istore_n (lo2 := [_, _, _, _, _]) dX3_find_62 rfl (Nat.le_of_ble_eq_true rfl) rfl rfl ?_
        refine g_iinc (lo2 := [_, _, _, _, _]) dX3_find_63 rfl rfl (Nat.le_of_ble_eq_true rfl) rfl rfl ?_
        refine g_goto (tgt := 27) dX3_find_66 (by decide) ?_
        exact g_to (hK_27 _ _ _) (su_s (su_s (su_s (su_s (su_s su_0)))))
      · refine g_iconst dX3_find_56 ic_1 ?_
        refine g_goto (tgt := 61) dX3_find_57 (by decide) ?_
        refine g_ior dX3_find_61 ?_
        refine g_istore_n (lo2 := [_, _, _, _, _]) dX3_find_62 rfl (Nat.le_of_ble_eq_true rfl) rfl rfl ?_
        refine g_iinc (lo2 := [_, _, _, _, _]) dX3_find_63 rfl rfl (Nat.le_of_ble_eq_true rfl) rfl rfl ?_
        refine g_goto (tgt := 27) dX3_find_66 (by decide) ?_
        exact g_to (hK_27 _ _ _) (su_s (su_s (su_s (su_s (su_s su_0)))))
    · refine g_iconst dX3_find_60 ic_0 ?_
      refine g_ior dX3_find_61 ?_
      refine g_istore_n (lo2 := [_, _, _, _, _]) dX3_find_62 rfl (Nat.le_of_ble_eq_true rfl) rfl rfl ?_
      refine g_iinc (lo2 := [_, _, _, _, _]) dX3_find_63 rfl rfl (Nat.le_of_ble_eq_true rfl) rfl rfl ?_
      refine g_goto (tgt := 27) dX3_find_66 (by decide) ?_
      exact g_to (hK_27 _ _ _) (su_s (su_s (su_s (su_s (su_s su_0)))))
  · refine g_iconst dX3_find_69 ic_1 ?_
    refine g_istore (lo2 := [_, _, _, _, _]) dX3_find_70 (Nat.le_of_ble_eq_true rfl) rfl rfl ?_
    exact g_to (lk_og_find_72 F br hbr bl hbl _ _ _ _ _) (su_s (su_n (su_s (su_s (su_s su_0)))))
theorem lk_og_find_27 (F : Nat) (br : Nat) (hbr : g_isRounds br) (bl : Nat) (hbl : g_isLand bl) (v2 : Int32) : ∀ (f : Nat) (v3 : Int32) (v4 : Int32) (μ : g_St) , g_Go gC 13 yX3_find cX3_find 5 (none : Option Jvm.ClassFile.FieldType) 27 [some (.ref br), some (.ref bl), some (.int v2), some (.int v3), some (.int v4)] [] μ (Option.map o_yv (og_find_27 F br bl v2 f v3 v4 μ))
  | 0, v3, v4, μ => g_none
  | f + 1, v3, v4, μ => lk_og_find_27_b F br hbr bl hbl v2 (og_find_27 F br bl v2 f) (lk_og_find_27 F br hbr bl hbl v2 f) v3 v4 μ
theorem lk_og_find_2_b (F : Nat) (br : Nat) (hbr : g_isRounds br) (bl : Nat) (hbl : g_isLand bl) (v2 : Int32) (K_2 : Int32 → g_St → Option g_St) (hK_2 : ∀ (w3 : Int32) (ν : g_St), g_Go gC 13 yX3_find cX3_find 5 (none : Option Jvm.ClassFile.FieldType) 2 [some (.ref br), some (.ref bl), some (.int v2), some (.int w3), none] [] ν (Option.map o_yv (K_2 w3 ν))) (v3 : Int32) (μ : g_St) : g_Go gC 13 yX3_find cX3_find 5 (none : Option Jvm.ClassFile.FieldType) 2 [some (.ref br), some (.ref bl), some (.int v2), some (.int v3), none] [] μ (Option.map o_yv (og_find_2_b F br bl v2 K_2 v3 μ)) := by
  unfold og_find_2_b
  refine g_iload_n dX3_find_2 rfl rfl ?_
  refine g_aload_n dX3_find_3 rfl rfl ?_
  refine g_getI dX3_find_4 cf_X1 fl_X3_45 (ly_Land_lt hbl) (ly_Land hbl) rfl (Nat.le_of_ble_eq_true rfl) ?_
  refine w_icmp_ge (tgt := 22) dX3_find_7 (by decide) ?_ ?_
  · refine g_aload_n dX3_find_10 rfl rfl ?_
    refine g_aload_n dX3_find_11 rfl rfl ?_
    refine g_iload_n dX3_find_12 rfl rfl ?_
    refine w_Vyv [.ref _, .int _] dX3_find_13 ml_X3_51 mv_X3_weigh mc_X3_weigh cf_X3 (ly_Rounds_lt hbr) (ly_Rounds hbr) rfl (Nat.le_of_ble_eq_true rfl) (Nat.le_of_ble_eq_true rfl) (Nat.le_of_ble_eq_true rfl) rfl (co_og_weigh F _ hbr _ hbl _ _) (fun μ1 => ?_)
    refine g_iinc (lo2 := [_, _, _, _, _]) dX3_find_16 rfl rfl (Nat.le_of_ble_eq_true rfl) rfl rfl ?_
    refine g_goto (tgt := 2) dX3_find_19 (by decide) ?_
    exact g_to (hK_2 _ _) (su_s (su_s (su_s (su_s (su_n su_0)))))
  · refine g_iconst dX3_find_22 ic_0 ?_
    refine g_istore_n (lo2 := [_, _, _, _, _]) dX3_find_23 rfl (Nat.le_of_ble_eq_true rfl) rfl rfl ?_
    refine g_iconst dX3_find_24 ic_0 ?_
    refine g_istore (lo2 := [_, _, _, _, _]) dX3_find_25 (Nat.le_of_ble_eq_true rfl) rfl rfl ?_
    exact g_to (lk_og_find_27 F br hbr bl hbl _ _ _ _ _) (su_s (su_s (su_s (su_s (su_s su_0)))))
theorem lk_og_find_2 (F : Nat) (br : Nat) (hbr : g_isRounds br) (bl : Nat) (hbl : g_isLand bl) (v2 : Int32) : ∀ (f : Nat) (v3 : Int32) (μ : g_St) , g_Go gC 13 yX3_find cX3_find 5 (none : Option Jvm.ClassFile.FieldType) 2 [some (.ref br), some (.ref bl), some (.int v2), some (.int v3), none] [] μ (Option.map o_yv (og_find_2 F br bl v2 f v3 μ))
  | 0, v3, μ => g_none
  | f + 1, v3, μ => lk_og_find_2_b F br hbr bl hbl v2 (og_find_2 F br bl v2 f) (lk_og_find_2 F br hbr bl hbl v2 f) v3 μ
theorem lk_og_find (F : Nat) (br : Nat) (hbr : g_isRounds br) (bl : Nat) (hbl : g_isLand bl) (v2 : Int32) (μ : g_St) : g_Go gC 13 yX3_find cX3_find 5 (none : Option Jvm.ClassFile.FieldType) 0 [some (.ref br), some (.ref bl), some (.int v2), none, none] [] μ (Option.map o_yv (og_find F br bl v2 μ)) := by
  unfold og_find
  refine g_iconst dX3_find_0 ic_0 ?_
  refine g_istore_n (lo2 := [_, _, _, _, _]) dX3_find_1 rfl (Nat.le_of_ble_eq_true rfl) rfl rfl ?_
  exact g_to (lk_og_find_2 F br hbr bl hbl _ _ _ _) (su_s (su_s (su_s (su_s (su_n su_0)))))
theorem co_og_find (F : Nat) (br : Nat) (hbr : g_isRounds br) (bl : Nat) (hbl : g_isLand bl) (v2 : Int32) (μ : g_St) : g_Con gC 13 yX3_find cX3_find 5 (none : Option Jvm.ClassFile.FieldType) [.ref br, .ref bl, .int v2] μ (g_yv (og_find F br bl v2 μ)) := g_conOf mc_X3_find.2.2.2.2 (Nat.le_of_ble_eq_true rfl) rfl g_yv_rk (lk_og_find F br hbr bl hbl v2 μ)
theorem dX3_shortestIn_0 : decode cX3_shortestIn 0 = .ok (.iconst (-1), 1) := by decide +kernel
theorem dX3_shortestIn_1 : decode cX3_shortestIn 1 = .ok (.istore_n 2, 1) := by decide +kernel
theorem dX3_shortestIn_2 : decode cX3_shortestIn 2 = .ok (.iload_n 1, 1) := by decide +kernel
theorem dX3_shortestIn_3 : decode cX3_shortestIn 3 = .ok (.istore_n 3, 1) := by decide +kernel
theorem dX3_shortestIn_4 : decode cX3_shortestIn 4 = .ok (.iload_n 3, 1) := by decide +kernel
theorem dX3_shortestIn_5 : decode cX3_shortestIn 5 = .ok (.ifCond .le 42, 3) := by decide +kernel
theorem dX3_shortestIn_8 : decode cX3_shortestIn 8 = .ok (.iload_n 3, 1) := by decide +kernel
theorem dX3_shortestIn_9 : decode cX3_shortestIn 9 = .ok (.invokestatic 78, 3) := by decide +kernel
theorem dX3_shortestIn_12 : decode cX3_shortestIn 12 = .ok (.istore 4, 2) := by decide +kernel
theorem dX3_shortestIn_14 : decode cX3_shortestIn 14 = .ok (.aload_n 0, 1) := by decide +kernel
theorem dX3_shortestIn_15 : decode cX3_shortestIn 15 = .ok (.getfield 27, 3) := by decide +kernel
theorem dX3_shortestIn_18 : decode cX3_shortestIn 18 = .ok (.iload_n 3, 1) := by decide +kernel
theorem dX3_shortestIn_19 : decode cX3_shortestIn 19 = .ok (.iaload, 1) := by decide +kernel
theorem dX3_shortestIn_20 : decode cX3_shortestIn 20 = .ok (.iconst (-1), 1) := by decide +kernel
theorem dX3_shortestIn_21 : decode cX3_shortestIn 21 = .ok (.if_icmp .eq 17, 3) := by decide +kernel
theorem dX3_shortestIn_24 : decode cX3_shortestIn 24 = .ok (.iload_n 2, 1) := by decide +kernel
theorem dX3_shortestIn_25 : decode cX3_shortestIn 25 = .ok (.iconst (-1), 1) := by decide +kernel
theorem dX3_shortestIn_26 : decode cX3_shortestIn 26 = .ok (.if_icmp .eq 9, 3) := by decide +kernel
theorem dX3_shortestIn_29 : decode cX3_shortestIn 29 = .ok (.iload 4, 2) := by decide +kernel
theorem dX3_shortestIn_31 : decode cX3_shortestIn 31 = .ok (.iload_n 2, 1) := by decide +kernel
theorem dX3_shortestIn_32 : decode cX3_shortestIn 32 = .ok (.if_icmp .ge 6, 3) := by decide +kernel
theorem dX3_shortestIn_35 : decode cX3_shortestIn 35 = .ok (.iload 4, 2) := by decide +kernel
theorem dX3_shortestIn_37 : decode cX3_shortestIn 37 = .ok (.istore_n 2, 1) := by decide +kernel
theorem dX3_shortestIn_38 : decode cX3_shortestIn 38 = .ok (.iload_n 3, 1) := by decide +kernel
theorem dX3_shortestIn_39 : decode cX3_shortestIn 39 = .ok (.iconst 1, 1) := by decide +kernel
theorem dX3_shortestIn_40 : decode cX3_shortestIn 40 = .ok (.isub, 1) := by decide +kernel
theorem dX3_shortestIn_41 : decode cX3_shortestIn 41 = .ok (.iload_n 1, 1) := by decide +kernel
theorem dX3_shortestIn_42 : decode cX3_shortestIn 42 = .ok (.iand, 1) := by decide +kernel
theorem dX3_shortestIn_43 : decode cX3_shortestIn 43 = .ok (.istore_n 3, 1) := by decide +kernel
theorem dX3_shortestIn_44 : decode cX3_shortestIn 44 = .ok (.goto (-40), 3) := by decide +kernel
theorem dX3_shortestIn_47 : decode cX3_shortestIn 47 = .ok (.iload_n 2, 1) := by decide +kernel
theorem dX3_shortestIn_48 : decode cX3_shortestIn 48 = .ok (.ireturn, 1) := by decide +kernel
theorem lk_og_shortestIn_4_b (F : Nat) (br : Nat) (hbr : g_isRounds br) (μ : g_St) (v1 : Int32) (K_4 : Int32 → Int32 → Option Int32) (hK_4 : ∀ (w2 : Int32) (w3 : Int32), g_Go gC 1 yX3_shortestIn cX3_shortestIn 5 (some .int) 4 [some (.ref br), some (.int v1), some (.int w2), some (.int w3), none] [] μ (Option.map (o_i μ) (K_4 w2 w3))) (v2 : Int32) (v3 : Int32) : g_Go gC 1 yX3_shortestIn cX3_shortestIn 5 (some .int) 4 [some (.ref br), some (.int v1), some (.int v2), some (.int v3), none] [] μ (Option.map (o_i μ) (og_shortestIn_4_b F br μ v1 K_4 v2 v3 )) := by
  unfold og_shortestIn_4_b
  refine g_iload_n dX3_shortestIn_4 rfl rfl ?_
  refine w_if_le (tgt := 47) dX3_shortestIn_5 (by decide) ?_ ?_
  · refine g_iload_n dX3_shortestIn_8 rfl rfl ?_
    refine w_Sxi [.int _] dX3_shortestIn_9 ml_X3_78 ms_J6_bitCount_0f7a4 mc_J6_bitCount_0f7a4 rfl (Nat.le_of_ble_eq_true rfl) (Nat.le_of_ble_eq_true rfl) (Nat.le_of_ble_eq_true rfl) rfl (co_jj_bitCount gC _ _) (fun x1 => ?_)
    refine g_istore (lo2 := [_, _, _, _, _]) dX3_shortestIn_12 (Nat.le_of_ble_eq_true rfl) rfl rfl ?_
    refine g_aload_n dX3_shortestIn_14 rfl rfl ?_
    refine g_getS dX3_shortestIn_15 cf_X3 fl_X3_27 (ly_Rounds_lt hbr) (ly_Rounds hbr) rfl (Nat.le_of_ble_eq_true rfl) ?_
    refine g_iload_n dX3_shortestIn_18 rfl rfl ?_
    refine w_iald dX3_shortestIn_19 (ly_Rounds_best_lt hbr) (ly_Rounds_best hbr) (fun x2 => ?_)
    refine g_iconst dX3_shortestIn_20 ic_m1 ?_
    refine w_icmp_eq (tgt := 38) dX3_shortestIn_21 (by decide) ?_ ?_
    · refine g_iload_n dX3_shortestIn_38 rfl rfl ?_
      refine g_iconst dX3_shortestIn_39 ic_1 ?_
      refine g_isub dX3_shortestIn_40 ?_
      refine g_iload_n dX3_shortestIn_41 rfl rfl ?_
      refine g_iand dX3_shortestIn_42 ?_
      refine g_istore_n (lo2 := [_, _, _, _, _]) dX3_shortestIn_43 rfl (Nat.le_of_ble_eq_true rfl) rfl rfl ?_
      refine g_goto (tgt := 4) dX3_shortestIn_44 (by decide) ?_
      exact g_to (hK_4 _ _) (su_s (su_s (su_s (su_s (su_n su_0)))))
    · refine g_iload_n dX3_shortestIn_24 rfl rfl ?_
      refine g_iconst dX3_shortestIn_25 ic_m1 ?_
      refine w_icmp_eq (tgt := 35) dX3_shortestIn_26 (by decide) ?_ ?_
      · refine g_iload dX3_shortestIn_35 rfl ?_
        refine g_istore_n (lo2 := [_, _, _, _, _]) dX3_shortestIn_37 rfl (Nat.le_of_ble_eq_true rfl) rfl rfl ?_
        refine g_iload_n dX3_shortestIn_38 rfl rfl ?_
        refine g_iconst dX3_shortestIn_39 ic_1 ?_
        refine g_isub dX3_shortestIn_40 ?_
        refine g_iload_n dX3_shortestIn_41 rfl rfl ?_
        refine g_iand dX3_shortestIn_42 ?_
        refine g_istore_n (lo2 := [_, _, _, _, _]) dX3_shortestIn_43 rfl (Nat.le_of_ble_eq_true rfl) rfl rfl ?_
        refine g_goto (tgt := 4) dX3_shortestIn_44 (by decide) ?_
        exact g_to (hK_4 _ _) (su_s (su_s (su_s (su_s (su_n su_0)))))
      · refine g_iload dX3_shortestIn_29 rfl ?_
        refine g_iload_n dX3_shortestIn_31 rfl rfl ?_
        refine w_icmp_ge (tgt := 38) dX3_shortestIn_32 (by decide) ?_ ?_
        · refine g_iload dX3_shortestIn_35 rfl ?_
          refine g_istore_n (lo2 := [_, _, _, _, _]) dX3_shortestIn_37 rfl (Nat.le_of_ble_eq_true rfl) rfl rfl ?_
          refine g_iload_n dX3_shortestIn_38 rfl rfl ?_
          refine g_iconst dX3_shortestIn_39 ic_1 ?_
          refine g_isub dX3_shortestIn_40 ?_
          refine g_iload_n dX3_shortestIn_41 rfl rfl ?_
          refine g_iand dX3_shortestIn_42 ?_
          refine g_istore_n (lo2 := [_, _, _, _, _]) dX3_shortestIn_43 rfl (Nat.le_of_ble_eq_true rfl) rfl rfl ?_
          refine g_goto (tgt := 4) dX3_shortestIn_44 (by decide) ?_
          exact g_to (hK_4 _ _) (su_s (su_s (su_s (su_s (su_n su_0)))))
        · refine g_iload_n dX3_shortestIn_38 rfl rfl ?_
          refine g_iconst dX3_shortestIn_39 ic_1 ?_
          refine g_isub dX3_shortestIn_40 ?_
          refine g_iload_n dX3_shortestIn_41 rfl rfl ?_
          refine g_iand dX3_shortestIn_42 ?_
          refine g_istore_n (lo2 := [_, _, _, _, _]) dX3_shortestIn_43 rfl (Nat.le_of_ble_eq_true rfl) rfl rfl ?_
          refine g_goto (tgt := 4) dX3_shortestIn_44 (by decide) ?_
          exact g_to (hK_4 _ _) (su_s (su_s (su_s (su_s (su_n su_0)))))
  · refine g_iload_n dX3_shortestIn_47 rfl rfl ?_
    exact w_iret dX3_shortestIn_48 rfl rfl
theorem lk_og_shortestIn_4 (F : Nat) (br : Nat) (hbr : g_isRounds br) (μ : g_St) (v1 : Int32) : ∀ (f : Nat) (v2 : Int32) (v3 : Int32) , g_Go gC 1 yX3_shortestIn cX3_shortestIn 5 (some .int) 4 [some (.ref br), some (.int v1), some (.int v2), some (.int v3), none] [] μ (Option.map (o_i μ) (og_shortestIn_4 F br μ v1 f v2 v3 ))
  | 0, v2, v3 => g_none
  | f + 1, v2, v3 => lk_og_shortestIn_4_b F br hbr μ v1 (og_shortestIn_4 F br μ v1 f) (lk_og_shortestIn_4 F br hbr μ v1 f) v2 v3 
theorem lk_og_shortestIn (F : Nat) (br : Nat) (hbr : g_isRounds br) (μ : g_St) (v1 : Int32) : g_Go gC 1 yX3_shortestIn cX3_shortestIn 5 (some .int) 0 [some (.ref br), some (.int v1), none, none, none] [] μ (Option.map (o_i μ) (og_shortestIn F br μ v1)) := by
  unfold og_shortestIn
  refine g_iconst dX3_shortestIn_0 ic_m1 ?_
  refine g_istore_n (lo2 := [_, _, _, _, _]) dX3_shortestIn_1 rfl (Nat.le_of_ble_eq_true rfl) rfl rfl ?_
  refine g_iload_n dX3_shortestIn_2 rfl rfl ?_
  refine g_istore_n (lo2 := [_, _, _, _, _]) dX3_shortestIn_3 rfl (Nat.le_of_ble_eq_true rfl) rfl rfl ?_
  exact g_to (lk_og_shortestIn_4 F br hbr μ _ _ _ _) (su_s (su_s (su_s (su_s (su_n su_0)))))
theorem co_og_shortestIn (F : Nat) (br : Nat) (hbr : g_isRounds br) (μ : g_St) (v1 : Int32) : g_Con gC 1 yX3_shortestIn cX3_shortestIn 5 (some .int) [.ref br, .int v1] μ (g_xi μ (og_shortestIn F br μ v1)) := g_conOf mc_X3_shortestIn.2.2.2.2 (Nat.le_of_ble_eq_true rfl) rfl (g_xi_rk (Or.inl rfl)) (lk_og_shortestIn F br hbr μ v1)
theorem dX3_pairsOf_0 : decode cX3_pairsOf 0 = .ok (.iconst 0, 1) := by decide +kernel
theorem dX3_pairsOf_1 : decode cX3_pairsOf 1 = .ok (.istore_n 2, 1) := by decide +kernel
theorem dX3_pairsOf_2 : decode cX3_pairsOf 2 = .ok (.iconst 0, 1) := by decide +kernel
theorem dX3_pairsOf_3 : decode cX3_pairsOf 3 = .ok (.istore_n 3, 1) := by decide +kernel
theorem dX3_pairsOf_4 : decode cX3_pairsOf 4 = .ok (.iload_n 3, 1) := by decide +kernel
theorem dX3_pairsOf_5 : decode cX3_pairsOf 5 = .ok (.bipush 8, 2) := by decide +kernel
theorem dX3_pairsOf_7 : decode cX3_pairsOf 7 = .ok (.if_icmp .ge 38, 3) := by decide +kernel
theorem dX3_pairsOf_10 : decode cX3_pairsOf 10 = .ok (.iload_n 2, 1) := by decide +kernel
theorem dX3_pairsOf_11 : decode cX3_pairsOf 11 = .ok (.iload_n 3, 1) := by decide +kernel
theorem dX3_pairsOf_12 : decode cX3_pairsOf 12 = .ok (.iload_n 1, 1) := by decide +kernel
theorem dX3_pairsOf_13 : decode cX3_pairsOf 13 = .ok (.if_icmp .eq 23, 3) := by decide +kernel
theorem dX3_pairsOf_16 : decode cX3_pairsOf 16 = .ok (.aload_n 0, 1) := by decide +kernel
theorem dX3_pairsOf_17 : decode cX3_pairsOf 17 = .ok (.getfield 27, 3) := by decide +kernel
theorem dX3_pairsOf_20 : decode cX3_pairsOf 20 = .ok (.iconst 1, 1) := by decide +kernel
theorem dX3_pairsOf_21 : decode cX3_pairsOf 21 = .ok (.iload_n 1, 1) := by decide +kernel
theorem dX3_pairsOf_22 : decode cX3_pairsOf 22 = .ok (.ishl, 1) := by decide +kernel
theorem dX3_pairsOf_23 : decode cX3_pairsOf 23 = .ok (.iconst 1, 1) := by decide +kernel
theorem dX3_pairsOf_24 : decode cX3_pairsOf 24 = .ok (.iload_n 3, 1) := by decide +kernel
theorem dX3_pairsOf_25 : decode cX3_pairsOf 25 = .ok (.ishl, 1) := by decide +kernel
theorem dX3_pairsOf_26 : decode cX3_pairsOf 26 = .ok (.ior, 1) := by decide +kernel
theorem dX3_pairsOf_27 : decode cX3_pairsOf 27 = .ok (.iaload, 1) := by decide +kernel
theorem dX3_pairsOf_28 : decode cX3_pairsOf 28 = .ok (.iconst (-1), 1) := by decide +kernel
theorem dX3_pairsOf_29 : decode cX3_pairsOf 29 = .ok (.if_icmp .eq 7, 3) := by decide +kernel
theorem dX3_pairsOf_32 : decode cX3_pairsOf 32 = .ok (.iconst 1, 1) := by decide +kernel
theorem dX3_pairsOf_33 : decode cX3_pairsOf 33 = .ok (.goto 4, 3) := by decide +kernel
theorem dX3_pairsOf_36 : decode cX3_pairsOf 36 = .ok (.iconst 0, 1) := by decide +kernel
theorem dX3_pairsOf_37 : decode cX3_pairsOf 37 = .ok (.iadd, 1) := by decide +kernel
theorem dX3_pairsOf_38 : decode cX3_pairsOf 38 = .ok (.istore_n 2, 1) := by decide +kernel
theorem dX3_pairsOf_39 : decode cX3_pairsOf 39 = .ok (.iinc 3 1, 3) := by decide +kernel
theorem dX3_pairsOf_42 : decode cX3_pairsOf 42 = .ok (.goto (-38), 3) := by decide +kernel
theorem dX3_pairsOf_45 : decode cX3_pairsOf 45 = .ok (.iload_n 2, 1) := by decide +kernel
theorem dX3_pairsOf_46 : decode cX3_pairsOf 46 = .ok (.ireturn, 1) := by decide +kernel
theorem lk_og_pairsOf_4_b (F : Nat) (br : Nat) (hbr : g_isRounds br) (μ : g_St) (v1 : Int32) (K_4 : Int32 → Int32 → Option Int32) (hK_4 : ∀ (w2 : Int32) (w3 : Int32), g_Go gC 0 yX3_pairsOf cX3_pairsOf 4 (some .int) 4 [some (.ref br), some (.int v1), some (.int w2), some (.int w3)] [] μ (Option.map (o_i μ) (K_4 w2 w3))) (v2 : Int32) (v3 : Int32) : g_Go gC 0 yX3_pairsOf cX3_pairsOf 4 (some .int) 4 [some (.ref br), some (.int v1), some (.int v2), some (.int v3)] [] μ (Option.map (o_i μ) (og_pairsOf_4_b F br μ v1 K_4 v2 v3 )) := by
  unfold og_pairsOf_4_b
  refine g_iload_n dX3_pairsOf_4 rfl rfl ?_
  refine g_bipush dX3_pairsOf_5 bp_8 ?_
  refine w_icmp_ge (tgt := 45) dX3_pairsOf_7 (by decide) ?_ ?_
  · refine g_iload_n dX3_pairsOf_10 rfl rfl ?_
    refine g_iload_n dX3_pairsOf_11 rfl rfl ?_
    refine g_iload_n dX3_pairsOf_12 rfl rfl ?_
    refine w_icmp_eq (tgt := 36) dX3_pairsOf_13 (by decide) ?_ ?_
    · refine g_iconst dX3_pairsOf_36 ic_0 ?_
      refine g_iadd dX3_pairsOf_37 ?_
      refine g_istore_n (lo2 := [_, _, _, _]) dX3_pairsOf_38 rfl (Nat.le_of_ble_eq_true rfl) rfl rfl ?_
      refine g_iinc (lo2 := [_, _, _, _]) dX3_pairsOf_39 rfl rfl (Nat.le_of_ble_eq_true rfl) rfl rfl ?_
      refine g_goto (tgt := 4) dX3_pairsOf_42 (by decide) ?_
      exact g_to (hK_4 _ _) (su_s (su_s (su_s (su_s su_0))))
    · refine g_aload_n dX3_pairsOf_16 rfl rfl ?_
      refine g_getS dX3_pairsOf_17 cf_X3 fl_X3_27 (ly_Rounds_lt hbr) (ly_Rounds hbr) rfl (Nat.le_of_ble_eq_true rfl) ?_
      refine g_iconst dX3_pairsOf_20 ic_1 ?_
      refine g_iload_n dX3_pairsOf_21 rfl rfl ?_
      refine g_ishl dX3_pairsOf_22 ?_
      refine g_iconst dX3_pairsOf_23 ic_1 ?_
      refine g_iload_n dX3_pairsOf_24 rfl rfl ?_
      refine g_ishl dX3_pairsOf_25 ?_
      refine g_ior dX3_pairsOf_26 ?_
      refine w_iald dX3_pairsOf_27 (ly_Rounds_best_lt hbr) (ly_Rounds_best hbr) (fun x1 => ?_)
      refine g_iconst dX3_pairsOf_28 ic_m1 ?_
      refine w_icmp_eq (tgt := 36) dX3_pairsOf_29 (by decide) ?_ ?_
      · refine g_iconst dX3_pairsOf_36 ic_0 ?_
        refine g_iadd dX3_pairsOf_37 ?_
        refine g_istore_n (lo2 := [_, _, _, _]) dX3_pairsOf_38 rfl (Nat.le_of_ble_eq_true rfl) rfl rfl ?_
        refine g_iinc (lo2 := [_, _, _, _]) dX3_pairsOf_39 rfl rfl (Nat.le_of_ble_eq_true rfl) rfl rfl ?_
        refine g_goto (tgt := 4) dX3_pairsOf_42 (by decide) ?_
        exact g_to (hK_4 _ _) (su_s (su_s (su_s (su_s su_0))))
      · refine g_iconst dX3_pairsOf_32 ic_1 ?_
        refine g_goto (tgt := 37) dX3_pairsOf_33 (by decide) ?_
        refine g_iadd dX3_pairsOf_37 ?_
        refine g_istore_n (lo2 := [_, _, _, _]) dX3_pairsOf_38 rfl (Nat.le_of_ble_eq_true rfl) rfl rfl ?_
        refine g_iinc (lo2 := [_, _, _, _]) dX3_pairsOf_39 rfl rfl (Nat.le_of_ble_eq_true rfl) rfl rfl ?_
        refine g_goto (tgt := 4) dX3_pairsOf_42 (by decide) ?_
        exact g_to (hK_4 _ _) (su_s (su_s (su_s (su_s su_0))))
  · refine g_iload_n dX3_pairsOf_45 rfl rfl ?_
    exact w_iret dX3_pairsOf_46 rfl rfl
theorem lk_og_pairsOf_4 (F : Nat) (br : Nat) (hbr : g_isRounds br) (μ : g_St) (v1 : Int32) : ∀ (f : Nat) (v2 : Int32) (v3 : Int32) , g_Go gC 0 yX3_pairsOf cX3_pairsOf 4 (some .int) 4 [some (.ref br), some (.int v1), some (.int v2), some (.int v3)] [] μ (Option.map (o_i μ) (og_pairsOf_4 F br μ v1 f v2 v3 ))
  | 0, v2, v3 => g_none
  | f + 1, v2, v3 => lk_og_pairsOf_4_b F br hbr μ v1 (og_pairsOf_4 F br μ v1 f) (lk_og_pairsOf_4 F br hbr μ v1 f) v2 v3 
theorem lk_og_pairsOf (F : Nat) (br : Nat) (hbr : g_isRounds br) (μ : g_St) (v1 : Int32) : g_Go gC 0 yX3_pairsOf cX3_pairsOf 4 (some .int) 0 [some (.ref br), some (.int v1), none, none] [] μ (Option.map (o_i μ) (og_pairsOf F br μ v1)) := by
  unfold og_pairsOf
  refine g_iconst dX3_pairsOf_0 ic_0 ?_
  refine g_istore_n (lo2 := [_, _, _, _]) dX3_pairsOf_1 rfl (Nat.le_of_ble_eq_true rfl) rfl rfl ?_
  refine g_iconst dX3_pairsOf_2 ic_0 ?_
  refine g_istore_n (lo2 := [_, _, _, _]) dX3_pairsOf_3 rfl (Nat.le_of_ble_eq_true rfl) rfl rfl ?_
  exact g_to (lk_og_pairsOf_4 F br hbr μ _ _ _ _) (su_s (su_s (su_s (su_s su_0))))
theorem co_og_pairsOf (F : Nat) (br : Nat) (hbr : g_isRounds br) (μ : g_St) (v1 : Int32) : g_Con gC 0 yX3_pairsOf cX3_pairsOf 4 (some .int) [.ref br, .int v1] μ (g_xi μ (og_pairsOf F br μ v1)) := g_conOf mc_X3_pairsOf.2.2.2.2 (Nat.le_of_ble_eq_true rfl) rfl (g_xi_rk (Or.inl rfl)) (lk_og_pairsOf F br hbr μ v1)
theorem dX0_withGroup_0 : decode cX0_withGroup 0 = .ok (.aload_n 0, 1) := by decide +kernel
theorem dX0_withGroup_1 : decode cX0_withGroup 1 = .ok (.getfield 11, 3) := by decide +kernel
theorem dX0_withGroup_4 : decode cX0_withGroup 4 = .ok (.iload_n 2, 1) := by decide +kernel
theorem dX0_withGroup_5 : decode cX0_withGroup 5 = .ok (.iconst 1, 1) := by decide +kernel
theorem dX0_withGroup_6 : decode cX0_withGroup 6 = .ok (.isub, 1) := by decide +kernel
theorem dX0_withGroup_7 : decode cX0_withGroup 7 = .ok (.aaload, 1) := by decide +kernel
theorem dX0_withGroup_8 : decode cX0_withGroup 8 = .ok (.iload_n 3, 1) := by decide +kernel
theorem dX0_withGroup_9 : decode cX0_withGroup 9 = .ok (.iload 4, 2) := by decide +kernel
theorem dX0_withGroup_11 : decode cX0_withGroup 11 = .ok (.ixor, 1) := by decide +kernel
theorem dX0_withGroup_12 : decode cX0_withGroup 12 = .ok (.iaload, 1) := by decide +kernel
theorem dX0_withGroup_13 : decode cX0_withGroup 13 = .ok (.istore 5, 2) := by decide +kernel
theorem dX0_withGroup_15 : decode cX0_withGroup 15 = .ok (.iload 4, 2) := by decide +kernel
theorem dX0_withGroup_17 : decode cX0_withGroup 17 = .ok (.invokestatic 52, 3) := by decide +kernel
theorem dX0_withGroup_20 : decode cX0_withGroup 20 = .ok (.aload_n 0, 1) := by decide +kernel
theorem dX0_withGroup_21 : decode cX0_withGroup 21 = .ok (.getfield 20, 3) := by decide +kernel
theorem dX0_withGroup_24 : decode cX0_withGroup 24 = .ok (.if_icmp .gt 9, 3) := by decide +kernel
theorem dX0_withGroup_27 : decode cX0_withGroup 27 = .ok (.iload 5, 2) := by decide +kernel
theorem dX0_withGroup_29 : decode cX0_withGroup 29 = .ok (.iconst (-1), 1) := by decide +kernel
theorem dX0_withGroup_30 : decode cX0_withGroup 30 = .ok (.if_icmp .ne 7, 3) := by decide +kernel
theorem dX0_withGroup_33 : decode cX0_withGroup 33 = .ok (.iconst (-1), 1) := by decide +kernel
theorem dX0_withGroup_34 : decode cX0_withGroup 34 = .ok (.goto 10, 3) := by decide +kernel
theorem dX0_withGroup_37 : decode cX0_withGroup 37 = .ok (.iload 5, 2) := by decide +kernel
theorem dX0_withGroup_39 : decode cX0_withGroup 39 = .ok (.aload_n 1, 1) := by decide +kernel
theorem dX0_withGroup_40 : decode cX0_withGroup 40 = .ok (.iload 4, 2) := by decide +kernel
theorem dX0_withGroup_42 : decode cX0_withGroup 42 = .ok (.iaload, 1) := by decide +kernel
theorem dX0_withGroup_43 : decode cX0_withGroup 43 = .ok (.iadd, 1) := by decide +kernel
theorem dX0_withGroup_44 : decode cX0_withGroup 44 = .ok (.ireturn, 1) := by decide +kernel
theorem lk_oh_withGroup (μ : g_St) (v2 : Int32) (v3 : Int32) (v4 : Int32) : g_Go gC 1 yX0_withGroup cX0_withGroup 6 (some .int) 0 [some (.ref 91), some (.ref 78), some (.int v2), some (.int v3), some (.int v4), none] [] μ (Option.map (o_i μ) (oh_withGroup μ v2 v3 v4)) := by
  unfold oh_withGroup
  refine g_aload_n dX0_withGroup_0 rfl rfl ?_
  refine g_getS dX0_withGroup_1 cf_X0 fl_X0_11 ly_Homes_lt ly_Homes rfl (Nat.le_of_ble_eq_true rfl) ?_
  refine g_iload_n dX0_withGroup_4 rfl rfl ?_
  refine g_iconst dX0_withGroup_5 ic_1 ?_
  refine g_isub dX0_withGroup_6 ?_
  refine w_aald4 dX0_withGroup_7 ly_Homes_sums_lt ly_Homes_sums (fun j2 hj2 => ?_)
  refine g_iload_n dX0_withGroup_8 rfl rfl ?_
  refine g_iload dX0_withGroup_9 rfl ?_
  refine g_ixor dX0_withGroup_11 ?_
  refine w_iald dX0_withGroup_12 (ly_Homes_sums_row_lt hj2) (ly_Homes_sums_row hj2) (fun x3 => ?_)
  refine g_istore (lo2 := [_, _, _, _, _, _]) dX0_withGroup_13 (Nat.le_of_ble_eq_true rfl) rfl rfl ?_
  refine g_iload dX0_withGroup_15 rfl ?_
  refine w_Sxi [.int _] dX0_withGroup_17 ml_X0_52 ms_J6_bitCount_0f7a4 mc_J6_bitCount_0f7a4 rfl (Nat.le_of_ble_eq_true rfl) (Nat.le_of_ble_eq_true rfl) (Nat.le_of_ble_eq_true rfl) rfl (co_jj_bitCount gC _ _) (fun x4 => ?_)
  refine g_aload_n dX0_withGroup_20 rfl rfl ?_
  refine g_getI dX0_withGroup_21 cf_X0 fl_X0_20 ly_Homes_lt ly_Homes rfl (Nat.le_of_ble_eq_true rfl) ?_
  refine w_icmp_gt (tgt := 33) dX0_withGroup_24 (by decide) ?_ ?_
  · refine g_iload dX0_withGroup_27 rfl ?_
    refine g_iconst dX0_withGroup_29 ic_m1 ?_
    refine w_icmp_ne (tgt := 37) dX0_withGroup_30 (by decide) ?_ ?_
    · refine g_iconst dX0_withGroup_33 ic_m1 ?_
      refine g_goto (tgt := 44) dX0_withGroup_34 (by decide) ?_
      exact w_iret dX0_withGroup_44 rfl rfl
    · refine g_iload dX0_withGroup_37 rfl ?_
      refine g_aload_n dX0_withGroup_39 rfl rfl ?_
      refine g_iload dX0_withGroup_40 rfl ?_
      refine w_iald dX0_withGroup_42 ly_Rounds0_worth_lt ly_Rounds0_worth (fun x5 => ?_)
      refine g_iadd dX0_withGroup_43 ?_
      exact w_iret dX0_withGroup_44 rfl rfl
  · refine g_iconst dX0_withGroup_33 ic_m1 ?_
    refine g_goto (tgt := 44) dX0_withGroup_34 (by decide) ?_
    exact w_iret dX0_withGroup_44 rfl rfl
theorem co_oh_withGroup (μ : g_St) (v2 : Int32) (v3 : Int32) (v4 : Int32) : g_Con gC 1 yX0_withGroup cX0_withGroup 6 (some .int) [.ref 91, .ref 78, .int v2, .int v3, .int v4] μ (g_xi μ (oh_withGroup μ v2 v3 v4)) := g_conOf mc_X0_withGroup.2.2.2.2 (Nat.le_of_ble_eq_true rfl) rfl (g_xi_rk (Or.inl rfl)) (lk_oh_withGroup μ v2 v3 v4)
theorem dX0_bestSplit_0 : decode cX0_bestSplit 0 = .ok (.iconst (-1), 1) := by decide +kernel
theorem dX0_bestSplit_1 : decode cX0_bestSplit 1 = .ok (.istore 4, 2) := by decide +kernel
theorem dX0_bestSplit_3 : decode cX0_bestSplit 3 = .ok (.iload_n 3, 1) := by decide +kernel
theorem dX0_bestSplit_4 : decode cX0_bestSplit 4 = .ok (.iload_n 3, 1) := by decide +kernel
theorem dX0_bestSplit_5 : decode cX0_bestSplit 5 = .ok (.ineg, 1) := by decide +kernel
theorem dX0_bestSplit_6 : decode cX0_bestSplit 6 = .ok (.iand, 1) := by decide +kernel
theorem dX0_bestSplit_7 : decode cX0_bestSplit 7 = .ok (.istore 5, 2) := by decide +kernel
theorem dX0_bestSplit_9 : decode cX0_bestSplit 9 = .ok (.iload_n 3, 1) := by decide +kernel
theorem dX0_bestSplit_10 : decode cX0_bestSplit 10 = .ok (.iload 5, 2) := by decide +kernel
theorem dX0_bestSplit_12 : decode cX0_bestSplit 12 = .ok (.ixor, 1) := by decide +kernel
theorem dX0_bestSplit_13 : decode cX0_bestSplit 13 = .ok (.istore 6, 2) := by decide +kernel
theorem dX0_bestSplit_15 : decode cX0_bestSplit 15 = .ok (.iload 6, 2) := by decide +kernel
theorem dX0_bestSplit_17 : decode cX0_bestSplit 17 = .ok (.istore 7, 2) := by decide +kernel
theorem dX0_bestSplit_19 : decode cX0_bestSplit 19 = .ok (.iload 7, 2) := by decide +kernel
theorem dX0_bestSplit_21 : decode cX0_bestSplit 21 = .ok (.ifCond .lt 43, 3) := by decide +kernel
theorem dX0_bestSplit_24 : decode cX0_bestSplit 24 = .ok (.iload 4, 2) := by decide +kernel
theorem dX0_bestSplit_26 : decode cX0_bestSplit 26 = .ok (.aload_n 0, 1) := by decide +kernel
theorem dX0_bestSplit_27 : decode cX0_bestSplit 27 = .ok (.aload_n 1, 1) := by decide +kernel
theorem dX0_bestSplit_28 : decode cX0_bestSplit 28 = .ok (.iload_n 2, 1) := by decide +kernel
theorem dX0_bestSplit_29 : decode cX0_bestSplit 29 = .ok (.iload_n 3, 1) := by decide +kernel
theorem dX0_bestSplit_30 : decode cX0_bestSplit 30 = .ok (.iload 7, 2) := by decide +kernel
theorem dX0_bestSplit_32 : decode cX0_bestSplit 32 = .ok (.iload 5, 2) := by decide +kernel
theorem dX0_bestSplit_34 : decode cX0_bestSplit 34 = .ok (.ior, 1) := by decide +kernel
theorem dX0_bestSplit_35 : decode cX0_bestSplit 35 = .ok (.invokevirtual 42, 3) := by decide +kernel
theorem dX0_bestSplit_38 : decode cX0_bestSplit 38 = .ok (.invokestatic 46, 3) := by decide +kernel
theorem dX0_bestSplit_41 : decode cX0_bestSplit 41 = .ok (.istore 4, 2) := by decide +kernel
theorem dX0_bestSplit_43 : decode cX0_bestSplit 43 = .ok (.iload 7, 2) := by decide +kernel
theorem dX0_bestSplit_45 : decode cX0_bestSplit 45 = .ok (.ifCond .ne 7, 3) := by decide +kernel
theorem dX0_bestSplit_48 : decode cX0_bestSplit 48 = .ok (.iconst (-1), 1) := by decide +kernel
theorem dX0_bestSplit_49 : decode cX0_bestSplit 49 = .ok (.goto 10, 3) := by decide +kernel
theorem dX0_bestSplit_52 : decode cX0_bestSplit 52 = .ok (.iload 7, 2) := by decide +kernel
theorem dX0_bestSplit_54 : decode cX0_bestSplit 54 = .ok (.iconst 1, 1) := by decide +kernel
theorem dX0_bestSplit_55 : decode cX0_bestSplit 55 = .ok (.isub, 1) := by decide +kernel
theorem dX0_bestSplit_56 : decode cX0_bestSplit 56 = .ok (.iload 6, 2) := by decide +kernel
theorem dX0_bestSplit_58 : decode cX0_bestSplit 58 = .ok (.iand, 1) := by decide +kernel
theorem dX0_bestSplit_59 : decode cX0_bestSplit 59 = .ok (.istore 7, 2) := by decide +kernel
theorem dX0_bestSplit_61 : decode cX0_bestSplit 61 = .ok (.goto (-42), 3) := by decide +kernel
theorem dX0_bestSplit_64 : decode cX0_bestSplit 64 = .ok (.iload 4, 2) := by decide +kernel
theorem dX0_bestSplit_66 : decode cX0_bestSplit 66 = .ok (.ireturn, 1) := by decide +kernel
theorem lk_oh_bestSplit_19_b (F : Nat) (μ : g_St) (v2 : Int32) (v3 : Int32) (v5 : Int32) (v6 : Int32) (K_19 : Int32 → Int32 → Option Int32) (hK_19 : ∀ (w4 : Int32) (w7 : Int32), g_Go gC 2 yX0_bestSplit cX0_bestSplit 8 (some .int) 19 [some (.ref 91), some (.ref 78), some (.int v2), some (.int v3), some (.int w4), some (.int v5), some (.int v6), some (.int w7)] [] μ (Option.map (o_i μ) (K_19 w4 w7))) (v4 : Int32) (v7 : Int32) : g_Go gC 2 yX0_bestSplit cX0_bestSplit 8 (some .int) 19 [some (.ref 91), some (.ref 78), some (.int v2), some (.int v3), some (.int v4), some (.int v5), some (.int v6), some (.int v7)] [] μ (Option.map (o_i μ) (oh_bestSplit_19_b F μ v2 v3 v5 v6 K_19 v4 v7 )) := by
  unfold oh_bestSplit_19_b
  refine g_iload dX0_bestSplit_19 rfl ?_
  refine w_if_lt (tgt := 64) dX0_bestSplit_21 (by decide) ?_ ?_
  · refine g_iload dX0_bestSplit_24 rfl ?_
    refine g_aload_n dX0_bestSplit_26 rfl rfl ?_
    refine g_aload_n dX0_bestSplit_27 rfl rfl ?_
    refine g_iload_n dX0_bestSplit_28 rfl rfl ?_
    refine g_iload_n dX0_bestSplit_29 rfl rfl ?_
    refine g_iload dX0_bestSplit_30 rfl ?_
    refine g_iload dX0_bestSplit_32 rfl ?_
    refine g_ior dX0_bestSplit_34 ?_
    refine w_Vxi [.ref _, .int _, .int _, .int _] dX0_bestSplit_35 ml_X0_42 mv_X0_withGroup mc_X0_withGroup cf_X0 ly_Homes_lt ly_Homes rfl (Nat.le_of_ble_eq_true rfl) (Nat.le_of_ble_eq_true rfl) (Nat.le_of_ble_eq_true rfl) rfl (co_oh_withGroup _ _ _ _) (fun x1 => ?_)
    refine g_mmax g_mm dX0_bestSplit_38 mh_X0_46 (Nat.le_of_ble_eq_true rfl) (Nat.le_of_ble_eq_true rfl) ?_
    refine g_istore (lo2 := [_, _, _, _, _, _, _, _]) dX0_bestSplit_41 (Nat.le_of_ble_eq_true rfl) rfl rfl ?_
    refine g_iload dX0_bestSplit_43 rfl ?_
    refine w_if_ne (tgt := 52) dX0_bestSplit_45 (by decide) ?_ ?_
    · refine g_iconst dX0_bestSplit_48 ic_m1 ?_
      refine g_goto (tgt := 59) dX0_bestSplit_49 (by decide) ?_
      refine g_istore (lo2 := [_, _, _, _, _, _, _, _]) dX0_bestSplit_59 (Nat.le_of_ble_eq_true rfl) rfl rfl ?_
      refine g_goto (tgt := 19) dX0_bestSplit_61 (by decide) ?_
      exact g_to (hK_19 _ _) (su_s (su_s (su_s (su_s (su_s (su_s (su_s (su_s su_0))))))))
    · refine g_iload dX0_bestSplit_52 rfl ?_
      refine g_iconst dX0_bestSplit_54 ic_1 ?_
      refine g_isub dX0_bestSplit_55 ?_
      refine g_iload dX0_bestSplit_56 rfl ?_
      refine g_iand dX0_bestSplit_58 ?_
      refine g_istore (lo2 := [_, _, _, _, _, _, _, _]) dX0_bestSplit_59 (Nat.le_of_ble_eq_true rfl) rfl rfl ?_
      refine g_goto (tgt := 19) dX0_bestSplit_61 (by decide) ?_
      exact g_to (hK_19 _ _) (su_s (su_s (su_s (su_s (su_s (su_s (su_s (su_s su_0))))))))
  · refine g_iload dX0_bestSplit_64 rfl ?_
    exact w_iret dX0_bestSplit_66 rfl rfl
theorem lk_oh_bestSplit_19 (F : Nat) (μ : g_St) (v2 : Int32) (v3 : Int32) (v5 : Int32) (v6 : Int32) : ∀ (f : Nat) (v4 : Int32) (v7 : Int32) , g_Go gC 2 yX0_bestSplit cX0_bestSplit 8 (some .int) 19 [some (.ref 91), some (.ref 78), some (.int v2), some (.int v3), some (.int v4), some (.int v5), some (.int v6), some (.int v7)] [] μ (Option.map (o_i μ) (oh_bestSplit_19 F μ v2 v3 v5 v6 f v4 v7 ))
  | 0, v4, v7 => g_none
  | f + 1, v4, v7 => lk_oh_bestSplit_19_b F μ v2 v3 v5 v6 (oh_bestSplit_19 F μ v2 v3 v5 v6 f) (lk_oh_bestSplit_19 F μ v2 v3 v5 v6 f) v4 v7 
theorem lk_oh_bestSplit (F : Nat) (μ : g_St) (v2 : Int32) (v3 : Int32) : g_Go gC 2 yX0_bestSplit cX0_bestSplit 8 (some .int) 0 [some (.ref 91), some (.ref 78), some (.int v2), some (.int v3), none, none, none, none] [] μ (Option.map (o_i μ) (oh_bestSplit F μ v2 v3)) := by
  unfold oh_bestSplit
  refine g_iconst dX0_bestSplit_0 ic_m1 ?_
  refine g_istore (lo2 := [_, _, _, _, _, _, _, _]) dX0_bestSplit_1 (Nat.le_of_ble_eq_true rfl) rfl rfl ?_
  refine g_iload_n dX0_bestSplit_3 rfl rfl ?_
  refine g_iload_n dX0_bestSplit_4 rfl rfl ?_
  refine g_ineg dX0_bestSplit_5 ?_
  refine g_iand dX0_bestSplit_6 ?_
  refine g_istore (lo2 := [_, _, _, _, _, _, _, _]) dX0_bestSplit_7 (Nat.le_of_ble_eq_true rfl) rfl rfl ?_
  refine g_iload_n dX0_bestSplit_9 rfl rfl ?_
  refine g_iload dX0_bestSplit_10 rfl ?_
  refine g_ixor dX0_bestSplit_12 ?_
  refine g_istore (lo2 := [_, _, _, _, _, _, _, _]) dX0_bestSplit_13 (Nat.le_of_ble_eq_true rfl) rfl rfl ?_
  refine g_iload dX0_bestSplit_15 rfl ?_
  refine g_istore (lo2 := [_, _, _, _, _, _, _, _]) dX0_bestSplit_17 (Nat.le_of_ble_eq_true rfl) rfl rfl ?_
  exact g_to (lk_oh_bestSplit_19 F μ _ _ _ _ _ _ _) (su_s (su_s (su_s (su_s (su_s (su_s (su_s (su_s su_0))))))))
theorem co_oh_bestSplit (F : Nat) (μ : g_St) (v2 : Int32) (v3 : Int32) : g_Con gC 2 yX0_bestSplit cX0_bestSplit 8 (some .int) [.ref 91, .ref 78, .int v2, .int v3] μ (g_xi μ (oh_bestSplit F μ v2 v3)) := g_conOf mc_X0_bestSplit.2.2.2.2 (Nat.le_of_ble_eq_true rfl) rfl (g_xi_rk (Or.inl rfl)) (lk_oh_bestSplit F μ v2 v3)
theorem dX0_fill_0 : decode cX0_fill 0 = .ok (.aload_n 0, 1) := by decide +kernel
theorem dX0_fill_1 : decode cX0_fill 1 = .ok (.iload_n 2, 1) := by decide +kernel
theorem dX0_fill_2 : decode cX0_fill 2 = .ok (.putfield 16, 3) := by decide +kernel
theorem dX0_fill_5 : decode cX0_fill 5 = .ok (.aload_n 0, 1) := by decide +kernel
theorem dX0_fill_6 : decode cX0_fill 6 = .ok (.iload_n 3, 1) := by decide +kernel
theorem dX0_fill_7 : decode cX0_fill 7 = .ok (.putfield 20, 3) := by decide +kernel
theorem dX0_fill_10 : decode cX0_fill 10 = .ok (.aload_n 0, 1) := by decide +kernel
theorem dX0_fill_11 : decode cX0_fill 11 = .ok (.iload 4, 2) := by decide +kernel
theorem dX0_fill_13 : decode cX0_fill 13 = .ok (.putfield 23, 3) := by decide +kernel
theorem dX0_fill_16 : decode cX0_fill 16 = .ok (.aload_n 0, 1) := by decide +kernel
theorem dX0_fill_17 : decode cX0_fill 17 = .ok (.iconst (-1), 1) := by decide +kernel
theorem dX0_fill_18 : decode cX0_fill 18 = .ok (.putfield 26, 3) := by decide +kernel
theorem dX0_fill_21 : decode cX0_fill 21 = .ok (.aload_n 0, 1) := by decide +kernel
theorem dX0_fill_22 : decode cX0_fill 22 = .ok (.iconst (-1), 1) := by decide +kernel
theorem dX0_fill_23 : decode cX0_fill 23 = .ok (.putfield 29, 3) := by decide +kernel
theorem dX0_fill_26 : decode cX0_fill 26 = .ok (.aload_n 0, 1) := by decide +kernel
theorem dX0_fill_27 : decode cX0_fill 27 = .ok (.getfield 11, 3) := by decide +kernel
theorem dX0_fill_30 : decode cX0_fill 30 = .ok (.iconst 0, 1) := by decide +kernel
theorem dX0_fill_31 : decode cX0_fill 31 = .ok (.aaload, 1) := by decide +kernel
theorem dX0_fill_32 : decode cX0_fill 32 = .ok (.iconst (-1), 1) := by decide +kernel
theorem dX0_fill_33 : decode cX0_fill 33 = .ok (.invokestatic 32, 3) := by decide +kernel
theorem dX0_fill_36 : decode cX0_fill 36 = .ok (.aload_n 0, 1) := by decide +kernel
theorem dX0_fill_37 : decode cX0_fill 37 = .ok (.getfield 11, 3) := by decide +kernel
theorem dX0_fill_40 : decode cX0_fill 40 = .ok (.iconst 0, 1) := by decide +kernel
theorem dX0_fill_41 : decode cX0_fill 41 = .ok (.aaload, 1) := by decide +kernel
theorem dX0_fill_42 : decode cX0_fill 42 = .ok (.iconst 0, 1) := by decide +kernel
theorem dX0_fill_43 : decode cX0_fill 43 = .ok (.iconst 0, 1) := by decide +kernel
theorem dX0_fill_44 : decode cX0_fill 44 = .ok (.iastore, 1) := by decide +kernel
theorem dX0_fill_45 : decode cX0_fill 45 = .ok (.iconst 1, 1) := by decide +kernel
theorem dX0_fill_46 : decode cX0_fill 46 = .ok (.istore 5, 2) := by decide +kernel
theorem dX0_fill_48 : decode cX0_fill 48 = .ok (.iload 5, 2) := by decide +kernel
theorem dX0_fill_50 : decode cX0_fill 50 = .ok (.aload_n 0, 1) := by decide +kernel
theorem dX0_fill_51 : decode cX0_fill 51 = .ok (.getfield 23, 3) := by decide +kernel
theorem dX0_fill_54 : decode cX0_fill 54 = .ok (.if_icmp .gt 97, 3) := by decide +kernel
theorem dX0_fill_57 : decode cX0_fill 57 = .ok (.aload_n 0, 1) := by decide +kernel
theorem dX0_fill_58 : decode cX0_fill 58 = .ok (.getfield 11, 3) := by decide +kernel
theorem dX0_fill_61 : decode cX0_fill 61 = .ok (.iload 5, 2) := by decide +kernel
theorem dX0_fill_63 : decode cX0_fill 63 = .ok (.aaload, 1) := by decide +kernel
theorem dX0_fill_64 : decode cX0_fill 64 = .ok (.iconst 0, 1) := by decide +kernel
theorem dX0_fill_65 : decode cX0_fill 65 = .ok (.iconst (-1), 1) := by decide +kernel
theorem dX0_fill_66 : decode cX0_fill 66 = .ok (.iastore, 1) := by decide +kernel
theorem dX0_fill_67 : decode cX0_fill 67 = .ok (.iconst 1, 1) := by decide +kernel
theorem dX0_fill_68 : decode cX0_fill 68 = .ok (.istore 6, 2) := by decide +kernel
theorem dX0_fill_70 : decode cX0_fill 70 = .ok (.iload 6, 2) := by decide +kernel
theorem dX0_fill_72 : decode cX0_fill 72 = .ok (.aload_n 0, 1) := by decide +kernel
theorem dX0_fill_73 : decode cX0_fill 73 = .ok (.getfield 16, 3) := by decide +kernel
theorem dX0_fill_76 : decode cX0_fill 76 = .ok (.if_icmp .gt 28, 3) := by decide +kernel
theorem dX0_fill_79 : decode cX0_fill 79 = .ok (.aload_n 0, 1) := by decide +kernel
theorem dX0_fill_80 : decode cX0_fill 80 = .ok (.getfield 11, 3) := by decide +kernel
theorem dX0_fill_83 : decode cX0_fill 83 = .ok (.iload 5, 2) := by decide +kernel
theorem dX0_fill_85 : decode cX0_fill 85 = .ok (.aaload, 1) := by decide +kernel
theorem dX0_fill_86 : decode cX0_fill 86 = .ok (.iload 6, 2) := by decide +kernel
theorem dX0_fill_88 : decode cX0_fill 88 = .ok (.aload_n 0, 1) := by decide +kernel
theorem dX0_fill_89 : decode cX0_fill 89 = .ok (.aload_n 1, 1) := by decide +kernel
theorem dX0_fill_90 : decode cX0_fill 90 = .ok (.iload 5, 2) := by decide +kernel
theorem dX0_fill_92 : decode cX0_fill 92 = .ok (.iload 6, 2) := by decide +kernel
theorem dX0_fill_94 : decode cX0_fill 94 = .ok (.invokevirtual 38, 3) := by decide +kernel
theorem dX0_fill_97 : decode cX0_fill 97 = .ok (.iastore, 1) := by decide +kernel
theorem dX0_fill_98 : decode cX0_fill 98 = .ok (.iinc 6 1, 3) := by decide +kernel
theorem dX0_fill_101 : decode cX0_fill 101 = .ok (.goto (-31), 3) := by decide +kernel
theorem dX0_fill_104 : decode cX0_fill 104 = .ok (.aload_n 0, 1) := by decide +kernel
theorem dX0_fill_105 : decode cX0_fill 105 = .ok (.getfield 11, 3) := by decide +kernel
theorem dX0_fill_108 : decode cX0_fill 108 = .ok (.iload 5, 2) := by decide +kernel
theorem dX0_fill_110 : decode cX0_fill 110 = .ok (.aaload, 1) := by decide +kernel
theorem dX0_fill_111 : decode cX0_fill 111 = .ok (.aload_n 0, 1) := by decide +kernel
theorem dX0_fill_112 : decode cX0_fill 112 = .ok (.getfield 16, 3) := by decide +kernel
theorem dX0_fill_115 : decode cX0_fill 115 = .ok (.iaload, 1) := by decide +kernel
theorem dX0_fill_116 : decode cX0_fill 116 = .ok (.aload_n 0, 1) := by decide +kernel
theorem dX0_fill_117 : decode cX0_fill 117 = .ok (.getfield 26, 3) := by decide +kernel
theorem dX0_fill_120 : decode cX0_fill 120 = .ok (.if_icmp .le 25, 3) := by decide +kernel
theorem dX0_fill_123 : decode cX0_fill 123 = .ok (.aload_n 0, 1) := by decide +kernel
theorem dX0_fill_124 : decode cX0_fill 124 = .ok (.aload_n 0, 1) := by decide +kernel
theorem dX0_fill_125 : decode cX0_fill 125 = .ok (.getfield 11, 3) := by decide +kernel
theorem dX0_fill_128 : decode cX0_fill 128 = .ok (.iload 5, 2) := by decide +kernel
theorem dX0_fill_130 : decode cX0_fill 130 = .ok (.aaload, 1) := by decide +kernel
theorem dX0_fill_131 : decode cX0_fill 131 = .ok (.aload_n 0, 1) := by decide +kernel
theorem dX0_fill_132 : decode cX0_fill 132 = .ok (.getfield 16, 3) := by decide +kernel
theorem dX0_fill_135 : decode cX0_fill 135 = .ok (.iaload, 1) := by decide +kernel
theorem dX0_fill_136 : decode cX0_fill 136 = .ok (.putfield 26, 3) := by decide +kernel
theorem dX0_fill_139 : decode cX0_fill 139 = .ok (.aload_n 0, 1) := by decide +kernel
theorem dX0_fill_140 : decode cX0_fill 140 = .ok (.iload 5, 2) := by decide +kernel
theorem dX0_fill_142 : decode cX0_fill 142 = .ok (.putfield 29, 3) := by decide +kernel
theorem dX0_fill_145 : decode cX0_fill 145 = .ok (.iinc 5 1, 3) := by decide +kernel
theorem dX0_fill_148 : decode cX0_fill 148 = .ok (.goto (-100), 3) := by decide +kernel
theorem dX0_fill_151 : decode cX0_fill 151 = .ok (.return_, 1) := by decide +kernel
theorem lk_oh_fill_70_b (F : Nat) (v5 : Int32) (K_48 : Int32 → g_St → Option g_St) (hK_48 : ∀ (w5 : Int32) (ν : g_St), g_Go gC 3 yX0_fill cX0_fill 7 (none : Option Jvm.ClassFile.FieldType) 48 [some (.ref 91), some (.ref 78), none, none, none, some (.int w5), none] [] ν (Option.map o_yv (K_48 w5 ν))) (K_70 : Int32 → g_St → Option g_St) (hK_70 : ∀ (w6 : Int32) (ν : g_St), g_Go gC 3 yX0_fill cX0_fill 7 (none : Option Jvm.ClassFile.FieldType) 70 [some (.ref 91), some (.ref 78), none, none, none, some (.int v5), some (.int w6)] [] ν (Option.map o_yv (K_70 w6 ν))) (v6 : Int32) (μ : g_St) : g_Go gC 3 yX0_fill cX0_fill 7 (none : Option Jvm.ClassFile.FieldType) 70 [some (.ref 91), some (.ref 78), none, none, none, some (.int v5), some (.int v6)] [] μ (Option.map o_yv (oh_fill_70_b F v5 K_48 K_70 v6 μ)) := by
  unfold oh_fill_70_b
  refine g_iload dX0_fill_70 rfl ?_
  refine g_aload_n dX0_fill_72 rfl rfl ?_
  refine g_getI dX0_fill_73 cf_X0 fl_X0_16 ly_Homes_lt ly_Homes rfl (Nat.le_of_ble_eq_true rfl) ?_
  refine w_icmp_gt (tgt := 104) dX0_fill_76 (by decide) ?_ ?_
  · refine g_aload_n dX0_fill_79 rfl rfl ?_
    refine g_getS dX0_fill_80 cf_X0 fl_X0_11 ly_Homes_lt ly_Homes rfl (Nat.le_of_ble_eq_true rfl) ?_
    refine g_iload dX0_fill_83 rfl ?_
    refine w_aald4 dX0_fill_85 ly_Homes_sums_lt ly_Homes_sums (fun j16 hj16 => ?_)
    refine g_iload dX0_fill_86 rfl ?_
    refine g_aload_n dX0_fill_88 rfl rfl ?_
    refine g_aload_n dX0_fill_89 rfl rfl ?_
    refine g_iload dX0_fill_90 rfl ?_
    refine g_iload dX0_fill_92 rfl ?_
    refine w_Vxi [.ref _, .int _, .int _] dX0_fill_94 ml_X0_38 mv_X0_bestSplit mc_X0_bestSplit cf_X0 ly_Homes_lt ly_Homes rfl (Nat.le_of_ble_eq_true rfl) (Nat.le_of_ble_eq_true rfl) (Nat.le_of_ble_eq_true rfl) rfl (co_oh_bestSplit F _ _ _) (fun x17 => ?_)
    refine w_iast dX0_fill_97 (ly_Homes_sums_row_lt hj16) (ly_Homes_sums_row hj16) (fun μ18 => ?_)
    refine g_iinc (lo2 := [_, _, _, _, _, _, _]) dX0_fill_98 rfl rfl (Nat.le_of_ble_eq_true rfl) rfl rfl ?_
    refine g_goto (tgt := 70) dX0_fill_101 (by decide) ?_
    exact g_to (hK_70 _ _) (su_s (su_s (su_n (su_n (su_n (su_s (su_s su_0)))))))
  · refine g_aload_n dX0_fill_104 rfl rfl ?_
    refine g_getS dX0_fill_105 cf_X0 fl_X0_11 ly_Homes_lt ly_Homes rfl (Nat.le_of_ble_eq_true rfl) ?_
    refine g_iload dX0_fill_108 rfl ?_
    refine w_aald4 dX0_fill_110 ly_Homes_sums_lt ly_Homes_sums (fun j20 hj20 => ?_)
    refine g_aload_n dX0_fill_111 rfl rfl ?_
    refine g_getI dX0_fill_112 cf_X0 fl_X0_16 ly_Homes_lt ly_Homes rfl (Nat.le_of_ble_eq_true rfl) ?_
    refine w_iald dX0_fill_115 (ly_Homes_sums_row_lt hj20) (ly_Homes_sums_row hj20) (fun x21 => ?_)
    refine g_aload_n dX0_fill_116 rfl rfl ?_
    refine g_getI dX0_fill_117 cf_X0 fl_X0_26 ly_Homes_lt ly_Homes rfl (Nat.le_of_ble_eq_true rfl) ?_
    refine w_icmp_le (tgt := 145) dX0_fill_120 (by decide) ?_ ?_
    · refine g_aload_n dX0_fill_123 rfl rfl ?_
      refine g_aload_n dX0_fill_124 rfl rfl ?_
      refine g_getS dX0_fill_125 cf_X0 fl_X0_11 ly_Homes_lt ly_Homes rfl (Nat.le_of_ble_eq_true rfl) ?_
      refine g_iload dX0_fill_128 rfl ?_
      refine w_aald4 dX0_fill_130 ly_Homes_sums_lt ly_Homes_sums (fun j23 hj23 => ?_)
      refine g_aload_n dX0_fill_131 rfl rfl ?_
      refine g_getI dX0_fill_132 cf_X0 fl_X0_16 ly_Homes_lt ly_Homes rfl (Nat.le_of_ble_eq_true rfl) ?_
      refine w_iald dX0_fill_135 (ly_Homes_sums_row_lt hj23) (ly_Homes_sums_row hj23) (fun x24 => ?_)
      refine w_putI dX0_fill_136 cf_X0 fl_X0_26 ly_Homes_lt ly_Homes rfl (Nat.le_of_ble_eq_true rfl) rfl rfl rfl rfl (fun μ25 => ?_)
      refine g_aload_n dX0_fill_139 rfl rfl ?_
      refine g_iload dX0_fill_140 rfl ?_
      refine w_putI dX0_fill_142 cf_X0 fl_X0_29 ly_Homes_lt ly_Homes rfl (Nat.le_of_ble_eq_true rfl) rfl rfl rfl rfl (fun μ26 => ?_)
      refine g_iinc (lo2 := [_, _, _, _, _, _, _]) dX0_fill_145 rfl rfl (Nat.le_of_ble_eq_true rfl) rfl rfl ?_
      refine g_goto (tgt := 48) dX0_fill_148 (by decide) ?_
      exact g_to (hK_48 _ _) (su_s (su_s (su_n (su_n (su_n (su_s (su_n su_0)))))))
    · refine g_iinc (lo2 := [_, _, _, _, _, _, _]) dX0_fill_145 rfl rfl (Nat.le_of_ble_eq_true rfl) rfl rfl ?_
      refine g_goto (tgt := 48) dX0_fill_148 (by decide) ?_
      exact g_to (hK_48 _ _) (su_s (su_s (su_n (su_n (su_n (su_s (su_n su_0)))))))
theorem lk_oh_fill_70 (F : Nat) (v5 : Int32) (K_48 : Int32 → g_St → Option g_St) (hK_48 : ∀ (w5 : Int32) (ν : g_St), g_Go gC 3 yX0_fill cX0_fill 7 (none : Option Jvm.ClassFile.FieldType) 48 [some (.ref 91), some (.ref 78), none, none, none, some (.int w5), none] [] ν (Option.map o_yv (K_48 w5 ν))) : ∀ (f : Nat) (v6 : Int32) (μ : g_St) , g_Go gC 3 yX0_fill cX0_fill 7 (none : Option Jvm.ClassFile.FieldType) 70 [some (.ref 91), some (.ref 78), none, none, none, some (.int v5), some (.int v6)] [] μ (Option.map o_yv (oh_fill_70 F v5 K_48 f v6 μ))
  | 0, v6, μ => g_none
  | f + 1, v6, μ => lk_oh_fill_70_b F v5 K_48 hK_48 (oh_fill_70 F v5 K_48 f) (lk_oh_fill_70 F v5 K_48 hK_48 f) v6 μ
theorem lk_oh_fill_48_b (F : Nat) (K_48 : Int32 → g_St → Option g_St) (hK_48 : ∀ (w5 : Int32) (ν : g_St), g_Go gC 3 yX0_fill cX0_fill 7 (none : Option Jvm.ClassFile.FieldType) 48 [some (.ref 91), some (.ref 78), none, none, none, some (.int w5), none] [] ν (Option.map o_yv (K_48 w5 ν))) (v5 : Int32) (μ : g_St) : g_Go gC 3 yX0_fill cX0_fill 7 (none : Option Jvm.ClassFile.FieldType) 48 [some (.ref 91), some (.ref 78), none, none, none, some (.int v5), none] [] μ (Option.map o_yv (oh_fill_48_b F K_48 v5 μ)) := by
  unfold oh_fill_48_b
  refine g_iload dX0_fill_48 rfl ?_
  refine g_aload_n dX0_fill_50 rfl rfl ?_
  refine g_getI dX0_fill_51 cf_X0 fl_X0_23 ly_Homes_lt ly_Homes rfl (Nat.le_of_ble_eq_true rfl) ?_
  refine w_icmp_gt (tgt := 151) dX0_fill_54 (by decide) ?_ ?_
  · refine g_aload_n dX0_fill_57 rfl rfl ?_
    refine g_getS dX0_fill_58 cf_X0 fl_X0_11 ly_Homes_lt ly_Homes rfl (Nat.le_of_ble_eq_true rfl) ?_
    refine g_iload dX0_fill_61 rfl ?_
    refine w_aald4 dX0_fill_63 ly_Homes_sums_lt ly_Homes_sums (fun j13 hj13 => ?_)
    refine g_iconst dX0_fill_64 ic_0 ?_
    refine g_iconst dX0_fill_65 ic_m1 ?_
    refine w_iast dX0_fill_66 (ly_Homes_sums_row_lt hj13) (ly_Homes_sums_row hj13) (fun μ14 => ?_)
    refine g_iconst dX0_fill_67 ic_1 ?_
    refine g_istore (lo2 := [_, _, _, _, _, _, _]) dX0_fill_68 (Nat.le_of_ble_eq_true rfl) rfl rfl ?_
    exact g_to (lk_oh_fill_70 F _ K_48 hK_48 _ _ _) (su_s (su_s (su_n (su_n (su_n (su_s (su_s su_0)))))))
  · exact w_vret dX0_fill_151 rfl rfl
theorem lk_oh_fill_48 (F : Nat) : ∀ (f : Nat) (v5 : Int32) (μ : g_St) , g_Go gC 3 yX0_fill cX0_fill 7 (none : Option Jvm.ClassFile.FieldType) 48 [some (.ref 91), some (.ref 78), none, none, none, some (.int v5), none] [] μ (Option.map o_yv (oh_fill_48 F f v5 μ))
  | 0, v5, μ => g_none
  | f + 1, v5, μ => lk_oh_fill_48_b F (oh_fill_48 F f) (lk_oh_fill_48 F f) v5 μ
theorem lk_oh_fill (F : Nat) (v2 : Int32) (v3 : Int32) (v4 : Int32) (μ : g_St) : g_Go gC 3 yX0_fill cX0_fill 7 (none : Option Jvm.ClassFile.FieldType) 0 [some (.ref 91), some (.ref 78), some (.int v2), some (.int v3), some (.int v4), none, none] [] μ (Option.map o_yv (oh_fill F v2 v3 v4 μ)) := by
  unfold oh_fill
  refine g_aload_n dX0_fill_0 rfl rfl ?_
  refine g_iload_n dX0_fill_1 rfl rfl ?_
  refine w_putI dX0_fill_2 cf_X0 fl_X0_16 ly_Homes_lt ly_Homes rfl (Nat.le_of_ble_eq_true rfl) rfl rfl rfl rfl (fun μ1 => ?_)
  refine g_aload_n dX0_fill_5 rfl rfl ?_
  refine g_iload_n dX0_fill_6 rfl rfl ?_
  refine w_putI dX0_fill_7 cf_X0 fl_X0_20 ly_Homes_lt ly_Homes rfl (Nat.le_of_ble_eq_true rfl) rfl rfl rfl rfl (fun μ2 => ?_)
  refine g_aload_n dX0_fill_10 rfl rfl ?_
  refine g_iload dX0_fill_11 rfl ?_
  refine w_putI dX0_fill_13 cf_X0 fl_X0_23 ly_Homes_lt ly_Homes rfl (Nat.le_of_ble_eq_true rfl) rfl rfl rfl rfl (fun μ3 => ?_)
  refine g_aload_n dX0_fill_16 rfl rfl ?_
  refine g_iconst dX0_fill_17 ic_m1 ?_
  refine w_putI dX0_fill_18 cf_X0 fl_X0_26 ly_Homes_lt ly_Homes rfl (Nat.le_of_ble_eq_true rfl) rfl rfl rfl rfl (fun μ4 => ?_)
  refine g_aload_n dX0_fill_21 rfl rfl ?_
  refine g_iconst dX0_fill_22 ic_m1 ?_
  refine w_putI dX0_fill_23 cf_X0 fl_X0_29 ly_Homes_lt ly_Homes rfl (Nat.le_of_ble_eq_true rfl) rfl rfl rfl rfl (fun μ5 => ?_)
  refine g_aload_n dX0_fill_26 rfl rfl ?_
  refine g_getS dX0_fill_27 cf_X0 fl_X0_11 ly_Homes_lt ly_Homes rfl (Nat.le_of_ble_eq_true rfl) ?_
  refine g_iconst dX0_fill_30 ic_0 ?_
  refine w_aald4 dX0_fill_31 ly_Homes_sums_lt ly_Homes_sums (fun j7 hj7 => ?_)
  refine g_iconst dX0_fill_32 ic_m1 ?_
  refine w_Syv [.ref _, .int _] dX0_fill_33 ml_X0_32 ms_J7_fill_53178 mc_J7_fill_53178 rfl (Nat.le_of_ble_eq_true rfl) (Nat.le_of_ble_eq_true rfl) (Nat.le_of_ble_eq_true rfl) rfl (co_jj_fill F _ _ (ly_Homes_sums_row_lt hj7) (ly_Homes_sums_row hj7) _ _) (fun μ8 => ?_)
  refine g_aload_n dX0_fill_36 rfl rfl ?_
  refine g_getS dX0_fill_37 cf_X0 fl_X0_11 ly_Homes_lt ly_Homes rfl (Nat.le_of_ble_eq_true rfl) ?_
  refine g_iconst dX0_fill_40 ic_0 ?_
  refine w_aald4 dX0_fill_41 ly_Homes_sums_lt ly_Homes_sums (fun j10 hj10 => ?_)
  refine g_iconst dX0_fill_42 ic_0 ?_
  refine g_iconst dX0_fill_43 ic_0 ?_
  refine w_iast dX0_fill_44 (ly_Homes_sums_row_lt hj10) (ly_Homes_sums_row hj10) (fun μ11 => ?_)
  refine g_iconst dX0_fill_45 ic_1 ?_
  refine g_istore (lo2 := [_, _, _, _, _, _, _]) dX0_fill_46 (Nat.le_of_ble_eq_true rfl) rfl rfl ?_
  exact g_to (lk_oh_fill_48 F _ _ _) (su_s (su_s (su_n (su_n (su_n (su_s (su_n su_0)))))))
theorem co_oh_fill (F : Nat) (v2 : Int32) (v3 : Int32) (v4 : Int32) (μ : g_St) : g_Con gC 3 yX0_fill cX0_fill 7 (none : Option Jvm.ClassFile.FieldType) [.ref 91, .ref 78, .int v2, .int v3, .int v4] μ (g_yv (oh_fill F v2 v3 v4 μ)) := g_conOf mc_X0_fill.2.2.2.2 (Nat.le_of_ble_eq_true rfl) rfl g_yv_rk (lk_oh_fill F v2 v3 v4 μ)
theorem dX0_together_0 : decode cX0_together 0 = .ok (.aload_n 0, 1) := by decide +kernel
theorem dX0_together_1 : decode cX0_together 1 = .ok (.getfield 16, 3) := by decide +kernel
theorem dX0_together_4 : decode cX0_together 4 = .ok (.iload_n 2, 1) := by decide +kernel
theorem dX0_together_5 : decode cX0_together 5 = .ok (.ixor, 1) := by decide +kernel
theorem dX0_together_6 : decode cX0_together 6 = .ok (.istore_n 3, 1) := by decide +kernel
theorem dX0_together_7 : decode cX0_together 7 = .ok (.iload_n 3, 1) := by decide +kernel
theorem dX0_together_8 : decode cX0_together 8 = .ok (.istore 4, 2) := by decide +kernel
theorem dX0_together_10 : decode cX0_together 10 = .ok (.iload 4, 2) := by decide +kernel
theorem dX0_together_12 : decode cX0_together 12 = .ok (.ifCond .lt 65, 3) := by decide +kernel
theorem dX0_together_15 : decode cX0_together 15 = .ok (.iconst 1, 1) := by decide +kernel
theorem dX0_together_16 : decode cX0_together 16 = .ok (.istore 5, 2) := by decide +kernel
theorem dX0_together_18 : decode cX0_together 18 = .ok (.iload 5, 2) := by decide +kernel
theorem dX0_together_20 : decode cX0_together 20 = .ok (.aload_n 0, 1) := by decide +kernel
theorem dX0_together_21 : decode cX0_together 21 = .ok (.getfield 23, 3) := by decide +kernel
theorem dX0_together_24 : decode cX0_together 24 = .ok (.if_icmp .gt 33, 3) := by decide +kernel
theorem dX0_together_27 : decode cX0_together 27 = .ok (.aload_n 0, 1) := by decide +kernel
theorem dX0_together_28 : decode cX0_together 28 = .ok (.aload_n 1, 1) := by decide +kernel
theorem dX0_together_29 : decode cX0_together 29 = .ok (.iload 5, 2) := by decide +kernel
theorem dX0_together_31 : decode cX0_together 31 = .ok (.aload_n 0, 1) := by decide +kernel
theorem dX0_together_32 : decode cX0_together 32 = .ok (.getfield 16, 3) := by decide +kernel
theorem dX0_together_35 : decode cX0_together 35 = .ok (.iload 4, 2) := by decide +kernel
theorem dX0_together_37 : decode cX0_together 37 = .ok (.iload_n 2, 1) := by decide +kernel
theorem dX0_together_38 : decode cX0_together 38 = .ok (.ior, 1) := by decide +kernel
theorem dX0_together_39 : decode cX0_together 39 = .ok (.invokevirtual 42, 3) := by decide +kernel
theorem dX0_together_42 : decode cX0_together 42 = .ok (.aload_n 0, 1) := by decide +kernel
theorem dX0_together_43 : decode cX0_together 43 = .ok (.getfield 26, 3) := by decide +kernel
theorem dX0_together_46 : decode cX0_together 46 = .ok (.if_icmp .ne 5, 3) := by decide +kernel
theorem dX0_together_49 : decode cX0_together 49 = .ok (.iconst 1, 1) := by decide +kernel
theorem dX0_together_50 : decode cX0_together 50 = .ok (.ireturn, 1) := by decide +kernel
theorem dX0_together_51 : decode cX0_together 51 = .ok (.iinc 5 1, 3) := by decide +kernel
theorem dX0_together_54 : decode cX0_together 54 = .ok (.goto (-36), 3) := by decide +kernel
theorem dX0_together_57 : decode cX0_together 57 = .ok (.iload 4, 2) := by decide +kernel
theorem dX0_together_59 : decode cX0_together 59 = .ok (.ifCond .ne 7, 3) := by decide +kernel
theorem dX0_together_62 : decode cX0_together 62 = .ok (.iconst (-1), 1) := by decide +kernel
theorem dX0_together_63 : decode cX0_together 63 = .ok (.goto 9, 3) := by decide +kernel
theorem dX0_together_66 : decode cX0_together 66 = .ok (.iload 4, 2) := by decide +kernel
theorem dX0_together_68 : decode cX0_together 68 = .ok (.iconst 1, 1) := by decide +kernel
theorem dX0_together_69 : decode cX0_together 69 = .ok (.isub, 1) := by decide +kernel
theorem dX0_together_70 : decode cX0_together 70 = .ok (.iload_n 3, 1) := by decide +kernel
theorem dX0_together_71 : decode cX0_together 71 = .ok (.iand, 1) := by decide +kernel
theorem dX0_together_72 : decode cX0_together 72 = .ok (.istore 4, 2) := by decide +kernel
theorem dX0_together_74 : decode cX0_together 74 = .ok (.goto (-64), 3) := by decide +kernel
theorem dX0_together_77 : decode cX0_together 77 = .ok (.iconst 0, 1) := by decide +kernel
theorem dX0_together_78 : decode cX0_together 78 = .ok (.ireturn, 1) := by decide +kernel
theorem lk_oh_together_18_b (F : Nat) (μ : g_St) (v2 : Int32) (v3 : Int32) (v4 : Int32) (K_10 : Int32 → Option Int32) (hK_10 : ∀ (w4 : Int32), g_Go gC 2 yX0_together cX0_together 6 (some .boolean) 10 [some (.ref 91), some (.ref 78), some (.int v2), some (.int v3), some (.int w4), none] [] μ (Option.map (o_i μ) (K_10 w4))) (K_18 : Int32 → Option Int32) (hK_18 : ∀ (w5 : Int32), g_Go gC 2 yX0_together cX0_together 6 (some .boolean) 18 [some (.ref 91), some (.ref 78), some (.int v2), some (.int v3), some (.int v4), some (.int w5)] [] μ (Option.map (o_i μ) (K_18 w5))) (v5 : Int32) : g_Go gC 2 yX0_together cX0_together 6 (some .boolean) 18 [some (.ref 91), some (.ref 78), some (.int v2), some (.int v3), some (.int v4), some (.int v5)] [] μ (Option.map (o_i μ) (oh_together_18_b F μ v2 v3 v4 K_10 K_18 v5 )) := by
  unfold oh_together_18_b
  refine g_iload dX0_together_18 rfl ?_
  refine g_aload_n dX0_together_20 rfl rfl ?_
  refine g_getI dX0_together_21 cf_X0 fl_X0_23 ly_Homes_lt ly_Homes rfl (Nat.le_of_ble_eq_true rfl) ?_
  refine w_icmp_gt (tgt := 57) dX0_together_24 (by decide) ?_ ?_
  · refine g_aload_n dX0_together_27 rfl rfl ?_
    refine g_aload_n dX0_together_28 rfl rfl ?_
    refine g_iload dX0_together_29 rfl ?_
    refine g_aload_n dX0_together_31 rfl rfl ?_
    refine g_getI dX0_together_32 cf_X0 fl_X0_16 ly_Homes_lt ly_Homes rfl (Nat.le_of_ble_eq_true rfl) ?_
    refine g_iload dX0_together_35 rfl ?_
    refine g_iload_n dX0_together_37 rfl rfl ?_
    refine g_ior dX0_together_38 ?_
    refine w_Vxi [.ref _, .int _, .int _, .int _] dX0_together_39 ml_X0_42 mv_X0_withGroup mc_X0_withGroup cf_X0 ly_Homes_lt ly_Homes rfl (Nat.le_of_ble_eq_true rfl) (Nat.le_of_ble_eq_true rfl) (Nat.le_of_ble_eq_true rfl) rfl (co_oh_withGroup _ _ _ _) (fun x1 => ?_)
    refine g_aload_n dX0_together_42 rfl rfl ?_
    refine g_getI dX0_together_43 cf_X0 fl_X0_26 ly_Homes_lt ly_Homes rfl (Nat.le_of_ble_eq_true rfl) ?_
    refine w_icmp_ne (tgt := 51) dX0_together_46 (by decide) ?_ ?_
    · refine g_iconst dX0_together_49 ic_1 ?_
      exact w_iret dX0_together_50 (by decide) rfl
    · refine g_iinc (lo2 := [_, _, _, _, _, _]) dX0_together_51 rfl rfl (Nat.le_of_ble_eq_true rfl) rfl rfl ?_
      refine g_goto (tgt := 18) dX0_together_54 (by decide) ?_
      exact g_to (hK_18 _) (su_s (su_s (su_s (su_s (su_s (su_s su_0))))))
  · refine g_iload dX0_together_57 rfl ?_
    refine w_if_ne (tgt := 66) dX0_together_59 (by decide) ?_ ?_
    · refine g_iconst dX0_together_62 ic_m1 ?_
      refine g_goto (tgt := 72) dX0_together_63 (by decide) ?_
      refine g_istore (lo2 := [_, _, _, _, _, _]) dX0_together_72 (Nat.le_of_ble_eq_true rfl) rfl rfl ?_
      refine g_goto (tgt := 10) dX0_together_74 (by decide) ?_
      exact g_to (hK_10 _) (su_s (su_s (su_s (su_s (su_s (su_n su_0))))))
    · refine g_iload dX0_together_66 rfl ?_
      refine g_iconst dX0_together_68 ic_1 ?_
      refine g_isub dX0_together_69 ?_
      refine g_iload_n dX0_together_70 rfl rfl ?_
      refine g_iand dX0_together_71 ?_
      refine g_istore (lo2 := [_, _, _, _, _, _]) dX0_together_72 (Nat.le_of_ble_eq_true rfl) rfl rfl ?_
      refine g_goto (tgt := 10) dX0_together_74 (by decide) ?_
      exact g_to (hK_10 _) (su_s (su_s (su_s (su_s (su_s (su_n su_0))))))
theorem lk_oh_together_18 (F : Nat) (μ : g_St) (v2 : Int32) (v3 : Int32) (v4 : Int32) (K_10 : Int32 → Option Int32) (hK_10 : ∀ (w4 : Int32), g_Go gC 2 yX0_together cX0_together 6 (some .boolean) 10 [some (.ref 91), some (.ref 78), some (.int v2), some (.int v3), some (.int w4), none] [] μ (Option.map (o_i μ) (K_10 w4))) : ∀ (f : Nat) (v5 : Int32) , g_Go gC 2 yX0_together cX0_together 6 (some .boolean) 18 [some (.ref 91), some (.ref 78), some (.int v2), some (.int v3), some (.int v4), some (.int v5)] [] μ (Option.map (o_i μ) (oh_together_18 F μ v2 v3 v4 K_10 f v5 ))
  | 0, v5 => g_none
  | f + 1, v5 => lk_oh_together_18_b F μ v2 v3 v4 K_10 hK_10 (oh_together_18 F μ v2 v3 v4 K_10 f) (lk_oh_together_18 F μ v2 v3 v4 K_10 hK_10 f) v5 
theorem lk_oh_together_10_b (F : Nat) (μ : g_St) (v2 : Int32) (v3 : Int32) (K_10 : Int32 → Option Int32) (hK_10 : ∀ (w4 : Int32), g_Go gC 2 yX0_together cX0_together 6 (some .boolean) 10 [some (.ref 91), some (.ref 78), some (.int v2), some (.int v3), some (.int w4), none] [] μ (Option.map (o_i μ) (K_10 w4))) (v4 : Int32) : g_Go gC 2 yX0_together cX0_together 6 (some .boolean) 10 [some (.ref 91), some (.ref 78), some (.int v2), some (.int v3), some (.int v4), none] [] μ (Option.map (o_i μ) (oh_together_10_b F μ v2 v3 K_10 v4 )) := by
  unfold oh_together_10_b
  refine g_iload dX0_together_10 rfl ?_
  refine w_if_lt (tgt := 77) dX0_together_12 (by decide) ?_ ?_
  · refine g_iconst dX0_together_15 ic_1 ?_
    refine g_istore (lo2 := [_, _, _, _, _, _]) dX0_together_16 (Nat.le_of_ble_eq_true rfl) rfl rfl ?_
    exact g_to (lk_oh_together_18 F μ _ _ _ K_10 hK_10 _ _) (su_s (su_s (su_s (su_s (su_s (su_s su_0))))))
  · refine g_iconst dX0_together_77 ic_0 ?_
    exact w_iret dX0_together_78 (by decide) rfl
theorem lk_oh_together_10 (F : Nat) (μ : g_St) (v2 : Int32) (v3 : Int32) : ∀ (f : Nat) (v4 : Int32) , g_Go gC 2 yX0_together cX0_together 6 (some .boolean) 10 [some (.ref 91), some (.ref 78), some (.int v2), some (.int v3), some (.int v4), none] [] μ (Option.map (o_i μ) (oh_together_10 F μ v2 v3 f v4 ))
  | 0, v4 => g_none
  | f + 1, v4 => lk_oh_together_10_b F μ v2 v3 (oh_together_10 F μ v2 v3 f) (lk_oh_together_10 F μ v2 v3 f) v4 
theorem lk_oh_together (F : Nat) (μ : g_St) (v2 : Int32) : g_Go gC 2 yX0_together cX0_together 6 (some .boolean) 0 [some (.ref 91), some (.ref 78), some (.int v2), none, none, none] [] μ (Option.map (o_i μ) (oh_together F μ v2)) := by
  unfold oh_together
  refine g_aload_n dX0_together_0 rfl rfl ?_
  refine g_getI dX0_together_1 cf_X0 fl_X0_16 ly_Homes_lt ly_Homes rfl (Nat.le_of_ble_eq_true rfl) ?_
  refine g_iload_n dX0_together_4 rfl rfl ?_
  refine g_ixor dX0_together_5 ?_
  refine g_istore_n (lo2 := [_, _, _, _, _, _]) dX0_together_6 rfl (Nat.le_of_ble_eq_true rfl) rfl rfl ?_
  refine g_iload_n dX0_together_7 rfl rfl ?_
  refine g_istore (lo2 := [_, _, _, _, _, _]) dX0_together_8 (Nat.le_of_ble_eq_true rfl) rfl rfl ?_
  exact g_to (lk_oh_together_10 F μ _ _ _ _) (su_s (su_s (su_s (su_s (su_s (su_n su_0))))))
theorem co_oh_together (F : Nat) (μ : g_St) (v2 : Int32) : g_Con gC 2 yX0_together cX0_together 6 (some .boolean) [.ref 91, .ref 78, .int v2] μ (g_xi μ (oh_together F μ v2)) := g_conOf mc_X0_together.2.2.2.2 (Nat.le_of_ble_eq_true rfl) rfl (g_xi_rk (Or.inr (Or.inl rfl))) (lk_oh_together F μ v2)
