/-! Walks, printed by wip/gen -/
theorem dX2_takeNewName_0 : decode cX2_takeNewName 0 = .ok (.aload_n 0, 1) := by decide +kernel
theorem dX2_takeNewName_1 : decode cX2_takeNewName 1 = .ok (.invokevirtual 117, 3) := by decide +kernel
theorem dX2_takeNewName_4 : decode cX2_takeNewName 4 = .ok (.ifCond .ne 9, 3) := by decide +kernel
theorem dX2_takeNewName_7 : decode cX2_takeNewName 7 = .ok (.aload_n 0, 1) := by decide +kernel
theorem dX2_takeNewName_8 : decode cX2_takeNewName 8 = .ok (.iconst 1, 1) := by decide +kernel
theorem dX2_takeNewName_9 : decode cX2_takeNewName 9 = .ok (.invokevirtual 42, 3) := by decide +kernel
theorem dX2_takeNewName_12 : decode cX2_takeNewName 12 = .ok (.ireturn, 1) := by decide +kernel
theorem dX2_takeNewName_13 : decode cX2_takeNewName 13 = .ok (.aload_n 1, 1) := by decide +kernel
theorem dX2_takeNewName_14 : decode cX2_takeNewName 14 = .ok (.aload_n 0, 1) := by decide +kernel
theorem dX2_takeNewName_15 : decode cX2_takeNewName 15 = .ok (.getfield 121, 3) := by decide +kernel
theorem dX2_takeNewName_18 : decode cX2_takeNewName 18 = .ok (.invokevirtual 125, 3) := by decide +kernel
theorem dX2_takeNewName_21 : decode cX2_takeNewName 21 = .ok (.ifCond .ne 9, 3) := by decide +kernel
theorem dX2_takeNewName_24 : decode cX2_takeNewName 24 = .ok (.iload_n 3, 1) := by decide +kernel
theorem dX2_takeNewName_25 : decode cX2_takeNewName 25 = .ok (.aload_n 2, 1) := by decide +kernel
theorem dX2_takeNewName_26 : decode cX2_takeNewName 26 = .ok (.arraylength, 1) := by decide +kernel
theorem dX2_takeNewName_27 : decode cX2_takeNewName 27 = .ok (.if_icmp .lt 9, 3) := by decide +kernel
theorem dX2_takeNewName_30 : decode cX2_takeNewName 30 = .ok (.aload_n 0, 1) := by decide +kernel
theorem dX2_takeNewName_31 : decode cX2_takeNewName 31 = .ok (.iconst 3, 1) := by decide +kernel
theorem dX2_takeNewName_32 : decode cX2_takeNewName 32 = .ok (.invokevirtual 42, 3) := by decide +kernel
theorem dX2_takeNewName_35 : decode cX2_takeNewName 35 = .ok (.ireturn, 1) := by decide +kernel
theorem dX2_takeNewName_36 : decode cX2_takeNewName 36 = .ok (.aload_n 2, 1) := by decide +kernel
theorem dX2_takeNewName_37 : decode cX2_takeNewName 37 = .ok (.iload_n 3, 1) := by decide +kernel
theorem dX2_takeNewName_38 : decode cX2_takeNewName 38 = .ok (.aload_n 0, 1) := by decide +kernel
theorem dX2_takeNewName_39 : decode cX2_takeNewName 39 = .ok (.getfield 121, 3) := by decide +kernel
theorem dX2_takeNewName_42 : decode cX2_takeNewName 42 = .ok (.lastore, 1) := by decide +kernel
theorem dX2_takeNewName_43 : decode cX2_takeNewName 43 = .ok (.aload_n 0, 1) := by decide +kernel
theorem dX2_takeNewName_44 : decode cX2_takeNewName 44 = .ok (.invokevirtual 61, 3) := by decide +kernel
theorem dX2_takeNewName_47 : decode cX2_takeNewName 47 = .ok (.iconst 1, 1) := by decide +kernel
theorem dX2_takeNewName_48 : decode cX2_takeNewName 48 = .ok (.ireturn, 1) := by decide +kernel
theorem lk_od_takeNewName_30 (F : Nat) (bl : Nat) (hbl : g_isLand bl) (a2 na2 : Nat) (la2 : a2 < gC.1) (ya2 : gC.2 a2 = .inr (1, na2, g_zf)) (μ : g_St) : g_Go gC 2 yX2_takeNewName cX2_takeNewName 4 (some .boolean) 30 [some (.ref 1), none, none, none] [] μ (Option.map o_yi (od_takeNewName_30 F bl a2 na2 μ)) := by
  unfold od_takeNewName_30
  refine g_aload_n dX2_takeNewName_30 rfl rfl ?_
  refine g_iconst dX2_takeNewName_31 ic_3 ?_
  refine w_Vyi [.int _] dX2_takeNewName_32 ml_X2_42 mv_X6_wrong mc_X6_wrong cf_X6 ly_Tape_lt ly_Tape rfl (Nat.le_of_ble_eq_true rfl) (Nat.le_of_ble_eq_true rfl) (Nat.le_of_ble_eq_true rfl) rfl (co_ot_wrong _ _) (fun q4 => ?_)
  exact w_zret dX2_takeNewName_35 rfl rfl
theorem lk_od_takeNewName (F : Nat) (bl : Nat) (hbl : g_isLand bl) (a2 na2 : Nat) (la2 : a2 < gC.1) (ya2 : gC.2 a2 = .inr (1, na2, g_zf)) (v3 : Int32) (μ : g_St) : g_Go gC 2 yX2_takeNewName cX2_takeNewName 4 (some .boolean) 0 [some (.ref 1), some (.ref bl), some (.ref a2), some (.int v3)] [] μ (Option.map o_yi (od_takeNewName F bl a2 na2 v3 μ)) := by
  unfold od_takeNewName
  refine g_aload_n dX2_takeNewName_0 rfl rfl ?_
  refine w_Vxi [] dX2_takeNewName_1 ml_X2_117 mv_X6_isName mc_X6_isName cf_X6 ly_Tape_lt ly_Tape rfl (Nat.le_of_ble_eq_true rfl) (Nat.le_of_ble_eq_true rfl) (Nat.le_of_ble_eq_true rfl) rfl (co_ot_isName _) (fun x1 => ?_)
  refine w_if_ne (tgt := 13) dX2_takeNewName_4 (by decide) ?_ ?_
  · refine g_aload_n dX2_takeNewName_7 rfl rfl ?_
    refine g_iconst dX2_takeNewName_8 ic_1 ?_
    refine w_Vyi [.int _] dX2_takeNewName_9 ml_X2_42 mv_X6_wrong mc_X6_wrong cf_X6 ly_Tape_lt ly_Tape rfl (Nat.le_of_ble_eq_true rfl) (Nat.le_of_ble_eq_true rfl) (Nat.le_of_ble_eq_true rfl) rfl (co_ot_wrong _ _) (fun q2 => ?_)
    exact w_zret dX2_takeNewName_12 rfl rfl
  · refine g_aload_n dX2_takeNewName_13 rfl rfl ?_
    refine g_aload_n dX2_takeNewName_14 rfl rfl ?_
    refine g_getL dX2_takeNewName_15 cf_X6 fl_X2_121 ly_Tape_lt ly_Tape rfl (Nat.le_of_ble_eq_true rfl) ?_
    refine w_Vxi [.long _] dX2_takeNewName_18 ml_X2_125 mv_X1_isTold mc_X1_isTold cf_X1 (ly_Land_lt hbl) (ly_Land hbl) rfl (Nat.le_of_ble_eq_true rfl) (Nat.le_of_ble_eq_true rfl) (Nat.le_of_ble_eq_true rfl) rfl (co_ol_isTold F _ hbl _ _) (fun x3 => ?_)
    refine w_if_ne (tgt := 30) dX2_takeNewName_21 (by decide) ?_ ?_
    · refine g_iload_n dX2_takeNewName_24 rfl rfl ?_
      refine g_aload_n dX2_takeNewName_25 rfl rfl ?_
      refine g_alen dX2_takeNewName_26 la2 ya2 rfl ?_
      refine w_icmp_lt (tgt := 36) dX2_takeNewName_27 (by decide) ?_ ?_
      · exact g_to (lk_od_takeNewName_30 F bl hbl a2 na2 la2 ya2 _) (su_s (su_n (su_n (su_n su_0))))
      · refine g_aload_n dX2_takeNewName_36 rfl rfl ?_
        refine g_iload_n dX2_takeNewName_37 rfl rfl ?_
        refine g_aload_n dX2_takeNewName_38 rfl rfl ?_
        refine g_getL dX2_takeNewName_39 cf_X6 fl_X2_121 ly_Tape_lt ly_Tape rfl (Nat.le_of_ble_eq_true rfl) ?_
        refine w_last dX2_takeNewName_42 la2 ya2 (fun μ5 => ?_)
        refine g_aload_n dX2_takeNewName_43 rfl rfl ?_
        refine w_Vyv [] dX2_takeNewName_44 ml_X2_61 mv_X6_advance mc_X6_advance cf_X6 ly_Tape_lt ly_Tape rfl (Nat.le_of_ble_eq_true rfl) (Nat.le_of_ble_eq_true rfl) (Nat.le_of_ble_eq_true rfl) rfl (co_ot_advance _) (fun μ6 => ?_)
        refine g_iconst dX2_takeNewName_47 ic_1 ?_
        exact w_iret dX2_takeNewName_48 (by decide) rfl
    · exact g_to (lk_od_takeNewName_30 F bl hbl a2 na2 la2 ya2 _) (su_s (su_n (su_n (su_n su_0))))
theorem co_od_takeNewName (F : Nat) (bl : Nat) (hbl : g_isLand bl) (a2 na2 : Nat) (la2 : a2 < gC.1) (ya2 : gC.2 a2 = .inr (1, na2, g_zf)) (v3 : Int32) (μ : g_St) : g_Con gC 2 yX2_takeNewName cX2_takeNewName 4 (some .boolean) [.ref 1, .ref bl, .ref a2, .int v3] μ (g_yi (od_takeNewName F bl a2 na2 v3 μ)) := g_conOf mc_X2_takeNewName.2.2.2.2 (Nat.le_of_ble_eq_true rfl) rfl (g_yi_rk (Or.inr (Or.inl rfl))) (lk_od_takeNewName F bl hbl a2 na2 la2 ya2 v3 μ)
theorem dX2_readPlace_0 : decode cX2_readPlace 0 = .ok (.aload_n 0, 1) := by decide +kernel
theorem dX2_readPlace_1 : decode cX2_readPlace 1 = .ok (.invokevirtual 61, 3) := by decide +kernel
theorem dX2_readPlace_4 : decode cX2_readPlace 4 = .ok (.aload_n 0, 1) := by decide +kernel
theorem dX2_readPlace_5 : decode cX2_readPlace 5 = .ok (.aload_n 1, 1) := by decide +kernel
theorem dX2_readPlace_6 : decode cX2_readPlace 6 = .ok (.aload_n 1, 1) := by decide +kernel
theorem dX2_readPlace_7 : decode cX2_readPlace 7 = .ok (.getfield 64, 3) := by decide +kernel
theorem dX2_readPlace_10 : decode cX2_readPlace 10 = .ok (.aload_n 1, 1) := by decide +kernel
theorem dX2_readPlace_11 : decode cX2_readPlace 11 = .ok (.getfield 36, 3) := by decide +kernel
theorem dX2_readPlace_14 : decode cX2_readPlace 14 = .ok (.invokestatic 68, 3) := by decide +kernel
theorem dX2_readPlace_17 : decode cX2_readPlace 17 = .ok (.ifCond .ne 5, 3) := by decide +kernel
theorem dX2_readPlace_20 : decode cX2_readPlace 20 = .ok (.iconst 0, 1) := by decide +kernel
theorem dX2_readPlace_21 : decode cX2_readPlace 21 = .ok (.ireturn, 1) := by decide +kernel
theorem dX2_readPlace_22 : decode cX2_readPlace 22 = .ok (.aload_n 1, 1) := by decide +kernel
theorem dX2_readPlace_23 : decode cX2_readPlace 23 = .ok (.dup, 1) := by decide +kernel
theorem dX2_readPlace_24 : decode cX2_readPlace 24 = .ok (.getfield 36, 3) := by decide +kernel
theorem dX2_readPlace_27 : decode cX2_readPlace 27 = .ok (.iconst 1, 1) := by decide +kernel
theorem dX2_readPlace_28 : decode cX2_readPlace 28 = .ok (.iadd, 1) := by decide +kernel
theorem dX2_readPlace_29 : decode cX2_readPlace 29 = .ok (.putfield 36, 3) := by decide +kernel
theorem dX2_readPlace_32 : decode cX2_readPlace 32 = .ok (.aload_n 0, 1) := by decide +kernel
theorem dX2_readPlace_33 : decode cX2_readPlace 33 = .ok (.bipush 59, 2) := by decide +kernel
theorem dX2_readPlace_35 : decode cX2_readPlace 35 = .ok (.invokevirtual 72, 3) := by decide +kernel
theorem dX2_readPlace_38 : decode cX2_readPlace 38 = .ok (.ireturn, 1) := by decide +kernel
theorem lk_od_readPlace (F : Nat) (bl : Nat) (hbl : g_isLand bl) (μ : g_St) : g_Go gC 3 yX2_readPlace cX2_readPlace 2 (some .boolean) 0 [some (.ref 1), some (.ref bl)] [] μ (Option.map o_yi (od_readPlace F bl μ)) := by
  unfold od_readPlace
  refine g_aload_n dX2_readPlace_0 rfl rfl ?_
  refine w_Vyv [] dX2_readPlace_1 ml_X2_61 mv_X6_advance mc_X6_advance cf_X6 ly_Tape_lt ly_Tape rfl (Nat.le_of_ble_eq_true rfl) (Nat.le_of_ble_eq_true rfl) (Nat.le_of_ble_eq_true rfl) rfl (co_ot_advance _) (fun μ1 => ?_)
  refine g_aload_n dX2_readPlace_4 rfl rfl ?_
  refine g_aload_n dX2_readPlace_5 rfl rfl ?_
  refine g_aload_n dX2_readPlace_6 rfl rfl ?_
  refine g_getS dX2_readPlace_7 cf_X1 fl_X2_64 (ly_Land_lt hbl) (ly_Land hbl) rfl (Nat.le_of_ble_eq_true rfl) ?_
  refine g_aload_n dX2_readPlace_10 rfl rfl ?_
  refine g_getI dX2_readPlace_11 cf_X1 fl_X2_36 (ly_Land_lt hbl) (ly_Land hbl) rfl (Nat.le_of_ble_eq_true rfl) ?_
  refine w_Syi [.ref _, .ref _, .ref _, .int _] dX2_readPlace_14 ml_X2_68 ms_X2_takeNewName mc_X2_takeNewName rfl (Nat.le_of_ble_eq_true rfl) (Nat.le_of_ble_eq_true rfl) (Nat.le_of_ble_eq_true rfl) rfl (co_od_takeNewName F _ hbl _ _ (ly_Land_placeNames_lt hbl) (ly_Land_placeNames hbl) _ _) (fun q2 => ?_)
  refine w_if_ne (tgt := 22) dX2_readPlace_17 (by decide) ?_ ?_
  · refine g_iconst dX2_readPlace_20 ic_0 ?_
    exact w_iret dX2_readPlace_21 (by decide) rfl
  · refine g_aload_n dX2_readPlace_22 rfl rfl ?_
    refine g_dupr dX2_readPlace_23 ?_
    refine g_getI dX2_readPlace_24 cf_X1 fl_X2_36 (ly_Land_lt hbl) (ly_Land hbl) rfl (Nat.le_of_ble_eq_true rfl) ?_
    refine g_iconst dX2_readPlace_27 ic_1 ?_
    refine g_iadd dX2_readPlace_28 ?_
    refine w_putI dX2_readPlace_29 cf_X1 fl_X2_36 (ly_Land_lt hbl) (ly_Land hbl) rfl (Nat.le_of_ble_eq_true rfl) rfl rfl rfl rfl (fun μ3 => ?_)
    refine g_aload_n dX2_readPlace_32 rfl rfl ?_
    refine g_bipush dX2_readPlace_33 bp_59 ?_
    refine w_Vyi [.int _] dX2_readPlace_35 ml_X2_72 mv_X6_take mc_X6_take cf_X6 ly_Tape_lt ly_Tape rfl (Nat.le_of_ble_eq_true rfl) (Nat.le_of_ble_eq_true rfl) (Nat.le_of_ble_eq_true rfl) rfl (co_ot_take _ _) (fun q4 => ?_)
    exact w_zret dX2_readPlace_38 rfl rfl
theorem co_od_readPlace (F : Nat) (bl : Nat) (hbl : g_isLand bl) (μ : g_St) : g_Con gC 3 yX2_readPlace cX2_readPlace 2 (some .boolean) [.ref 1, .ref bl] μ (g_yi (od_readPlace F bl μ)) := g_conOf mc_X2_readPlace.2.2.2.2 (Nat.le_of_ble_eq_true rfl) rfl (g_yi_rk (Or.inr (Or.inl rfl))) (lk_od_readPlace F bl hbl μ)
theorem dX2_takeTold_0 : decode cX2_takeTold 0 = .ok (.aload_n 0, 1) := by decide +kernel
theorem dX2_takeTold_1 : decode cX2_takeTold 1 = .ok (.invokevirtual 117, 3) := by decide +kernel
theorem dX2_takeTold_4 : decode cX2_takeTold 4 = .ok (.ifCond .eq 15, 3) := by decide +kernel
theorem dX2_takeTold_7 : decode cX2_takeTold 7 = .ok (.aload_n 1, 1) := by decide +kernel
theorem dX2_takeTold_8 : decode cX2_takeTold 8 = .ok (.iload_n 2, 1) := by decide +kernel
theorem dX2_takeTold_9 : decode cX2_takeTold 9 = .ok (.aload_n 0, 1) := by decide +kernel
theorem dX2_takeTold_10 : decode cX2_takeTold 10 = .ok (.getfield 121, 3) := by decide +kernel
theorem dX2_takeTold_13 : decode cX2_takeTold 13 = .ok (.invokestatic 129, 3) := by decide +kernel
theorem dX2_takeTold_16 : decode cX2_takeTold 16 = .ok (.goto 4, 3) := by decide +kernel
theorem dX2_takeTold_19 : decode cX2_takeTold 19 = .ok (.iconst (-1), 1) := by decide +kernel
theorem dX2_takeTold_20 : decode cX2_takeTold 20 = .ok (.istore 4, 2) := by decide +kernel
theorem dX2_takeTold_22 : decode cX2_takeTold 22 = .ok (.iload 4, 2) := by decide +kernel
theorem dX2_takeTold_24 : decode cX2_takeTold 24 = .ok (.iconst (-1), 1) := by decide +kernel
theorem dX2_takeTold_25 : decode cX2_takeTold 25 = .ok (.if_icmp .ne 22, 3) := by decide +kernel
theorem dX2_takeTold_28 : decode cX2_takeTold 28 = .ok (.aload_n 0, 1) := by decide +kernel
theorem dX2_takeTold_29 : decode cX2_takeTold 29 = .ok (.aload_n 0, 1) := by decide +kernel
theorem dX2_takeTold_30 : decode cX2_takeTold 30 = .ok (.invokevirtual 117, 3) := by decide +kernel
theorem dX2_takeTold_33 : decode cX2_takeTold 33 = .ok (.ifCond .eq 7, 3) := by decide +kernel
theorem dX2_takeTold_36 : decode cX2_takeTold 36 = .ok (.iconst 2, 1) := by decide +kernel
theorem dX2_takeTold_37 : decode cX2_takeTold 37 = .ok (.goto 4, 3) := by decide +kernel
theorem dX2_takeTold_40 : decode cX2_takeTold 40 = .ok (.iconst 1, 1) := by decide +kernel
theorem dX2_takeTold_41 : decode cX2_takeTold 41 = .ok (.invokevirtual 42, 3) := by decide +kernel
theorem dX2_takeTold_44 : decode cX2_takeTold 44 = .ok (.pop, 1) := by decide +kernel
theorem dX2_takeTold_45 : decode cX2_takeTold 45 = .ok (.iconst (-1), 1) := by decide +kernel
theorem dX2_takeTold_46 : decode cX2_takeTold 46 = .ok (.ireturn, 1) := by decide +kernel
theorem dX2_takeTold_47 : decode cX2_takeTold 47 = .ok (.iload_n 3, 1) := by decide +kernel
theorem dX2_takeTold_48 : decode cX2_takeTold 48 = .ok (.iload 4, 2) := by decide +kernel
theorem dX2_takeTold_50 : decode cX2_takeTold 50 = .ok (.ishr, 1) := by decide +kernel
theorem dX2_takeTold_51 : decode cX2_takeTold 51 = .ok (.iconst 1, 1) := by decide +kernel
theorem dX2_takeTold_52 : decode cX2_takeTold 52 = .ok (.iand, 1) := by decide +kernel
theorem dX2_takeTold_53 : decode cX2_takeTold 53 = .ok (.iconst 1, 1) := by decide +kernel
theorem dX2_takeTold_54 : decode cX2_takeTold 54 = .ok (.if_icmp .ne 11, 3) := by decide +kernel
theorem dX2_takeTold_57 : decode cX2_takeTold 57 = .ok (.aload_n 0, 1) := by decide +kernel
theorem dX2_takeTold_58 : decode cX2_takeTold 58 = .ok (.iconst 3, 1) := by decide +kernel
theorem dX2_takeTold_59 : decode cX2_takeTold 59 = .ok (.invokevirtual 42, 3) := by decide +kernel
theorem dX2_takeTold_62 : decode cX2_takeTold 62 = .ok (.pop, 1) := by decide +kernel
theorem dX2_takeTold_63 : decode cX2_takeTold 63 = .ok (.iconst (-1), 1) := by decide +kernel
theorem dX2_takeTold_64 : decode cX2_takeTold 64 = .ok (.ireturn, 1) := by decide +kernel
theorem dX2_takeTold_65 : decode cX2_takeTold 65 = .ok (.aload_n 0, 1) := by decide +kernel
theorem dX2_takeTold_66 : decode cX2_takeTold 66 = .ok (.invokevirtual 61, 3) := by decide +kernel
theorem dX2_takeTold_69 : decode cX2_takeTold 69 = .ok (.iload 4, 2) := by decide +kernel
theorem dX2_takeTold_71 : decode cX2_takeTold 71 = .ok (.ireturn, 1) := by decide +kernel
theorem lk_od_takeTold_41 (F : Nat) (a1 na1 : Nat) (la1 : a1 < gC.1) (ya1 : gC.2 a1 = .inr (1, na1, g_zf)) (s0 : Int32) (μ : g_St) : g_Go gC 1 yX2_takeTold cX2_takeTold 5 (some .int) 41 [none, none, none, none, none] [.int s0, .ref 1] μ (Option.map o_yi (od_takeTold_41 F a1 na1 s0 μ)) := by
  unfold od_takeTold_41
  refine w_Vyi [.int _] dX2_takeTold_41 ml_X2_42 mv_X6_wrong mc_X6_wrong cf_X6 ly_Tape_lt ly_Tape rfl (Nat.le_of_ble_eq_true rfl) (Nat.le_of_ble_eq_true rfl) (Nat.le_of_ble_eq_true rfl) rfl (co_ot_wrong _ _) (fun q4 => ?_)
  refine g_popi dX2_takeTold_44 ?_
  refine g_iconst dX2_takeTold_45 ic_m1 ?_
  exact w_iret dX2_takeTold_46 rfl rfl
theorem lk_od_takeTold_20 (F : Nat) (a1 na1 : Nat) (la1 : a1 < gC.1) (ya1 : gC.2 a1 = .inr (1, na1, g_zf)) (v3 : Int32) (s0 : Int32) (μ : g_St) : g_Go gC 1 yX2_takeTold cX2_takeTold 5 (some .int) 20 [some (.ref 1), none, none, some (.int v3), none] [.int s0] μ (Option.map o_yi (od_takeTold_20 F a1 na1 v3 s0 μ)) := by
  unfold od_takeTold_20
  refine g_istore (lo2 := [_, _, _, _, _]) dX2_takeTold_20 (Nat.le_of_ble_eq_true rfl) rfl rfl ?_
  refine g_iload dX2_takeTold_22 rfl ?_
  refine g_iconst dX2_takeTold_24 ic_m1 ?_
  refine w_icmp_ne (tgt := 47) dX2_takeTold_25 (by decide) ?_ ?_
  · refine g_aload_n dX2_takeTold_28 rfl rfl ?_
    refine g_aload_n dX2_takeTold_29 rfl rfl ?_
    refine w_Vxi [] dX2_takeTold_30 ml_X2_117 mv_X6_isName mc_X6_isName cf_X6 ly_Tape_lt ly_Tape rfl (Nat.le_of_ble_eq_true rfl) (Nat.le_of_ble_eq_true rfl) (Nat.le_of_ble_eq_true rfl) rfl (co_ot_isName _) (fun x3 => ?_)
    refine w_if_eq (tgt := 40) dX2_takeTold_33 (by decide) ?_ ?_
    · refine g_iconst dX2_takeTold_40 ic_1 ?_
      exact g_to (lk_od_takeTold_41 F a1 na1 la1 ya1 _ _) (su_n (su_n (su_n (su_n (su_n su_0)))))
    · refine g_iconst dX2_takeTold_36 ic_2 ?_
      refine g_goto (tgt := 41) dX2_takeTold_37 (by decide) ?_
      exact g_to (lk_od_takeTold_41 F a1 na1 la1 ya1 _ _) (su_n (su_n (su_n (su_n (su_n su_0)))))
  · refine g_iload_n dX2_takeTold_47 rfl rfl ?_
    refine g_iload dX2_takeTold_48 rfl ?_
    refine g_ishr dX2_takeTold_50 ?_
    refine g_iconst dX2_takeTold_51 ic_1 ?_
    refine g_iand dX2_takeTold_52 ?_
    refine g_iconst dX2_takeTold_53 ic_1 ?_
    refine w_icmp_ne (tgt := 65) dX2_takeTold_54 (by decide) ?_ ?_
    · refine g_aload_n dX2_takeTold_57 rfl rfl ?_
      refine g_iconst dX2_takeTold_58 ic_3 ?_
      refine w_Vyi [.int _] dX2_takeTold_59 ml_X2_42 mv_X6_wrong mc_X6_wrong cf_X6 ly_Tape_lt ly_Tape rfl (Nat.le_of_ble_eq_true rfl) (Nat.le_of_ble_eq_true rfl) (Nat.le_of_ble_eq_true rfl) rfl (co_ot_wrong _ _) (fun q5 => ?_)
      refine g_popi dX2_takeTold_62 ?_
      refine g_iconst dX2_takeTold_63 ic_m1 ?_
      exact w_iret dX2_takeTold_64 rfl rfl
    · refine g_aload_n dX2_takeTold_65 rfl rfl ?_
      refine w_Vyv [] dX2_takeTold_66 ml_X2_61 mv_X6_advance mc_X6_advance cf_X6 ly_Tape_lt ly_Tape rfl (Nat.le_of_ble_eq_true rfl) (Nat.le_of_ble_eq_true rfl) (Nat.le_of_ble_eq_true rfl) rfl (co_ot_advance _) (fun μ6 => ?_)
      refine g_iload dX2_takeTold_69 rfl ?_
      exact w_iret dX2_takeTold_71 rfl rfl
theorem lk_od_takeTold (F : Nat) (a1 na1 : Nat) (la1 : a1 < gC.1) (ya1 : gC.2 a1 = .inr (1, na1, g_zf)) (v2 : Int32) (v3 : Int32) (μ : g_St) : g_Go gC 1 yX2_takeTold cX2_takeTold 5 (some .int) 0 [some (.ref 1), some (.ref a1), some (.int v2), some (.int v3), none] [] μ (Option.map o_yi (od_takeTold F a1 na1 v2 v3 μ)) := by
  unfold od_takeTold
  refine g_aload_n dX2_takeTold_0 rfl rfl ?_
  refine w_Vxi [] dX2_takeTold_1 ml_X2_117 mv_X6_isName mc_X6_isName cf_X6 ly_Tape_lt ly_Tape rfl (Nat.le_of_ble_eq_true rfl) (Nat.le_of_ble_eq_true rfl) (Nat.le_of_ble_eq_true rfl) rfl (co_ot_isName _) (fun x1 => ?_)
  refine w_if_eq (tgt := 19) dX2_takeTold_4 (by decide) ?_ ?_
  · refine g_iconst dX2_takeTold_19 ic_m1 ?_
    exact g_to (lk_od_takeTold_20 F a1 na1 la1 ya1 _ _ _) (su_s (su_n (su_n (su_s (su_n su_0)))))
  · refine g_aload_n dX2_takeTold_7 rfl rfl ?_
    refine g_iload_n dX2_takeTold_8 rfl rfl ?_
    refine g_aload_n dX2_takeTold_9 rfl rfl ?_
    refine g_getL dX2_takeTold_10 cf_X6 fl_X2_121 ly_Tape_lt ly_Tape rfl (Nat.le_of_ble_eq_true rfl) ?_
    refine w_Sxi [.ref _, .int _, .long _] dX2_takeTold_13 ml_X2_129 ms_X8_indexIn mc_X8_indexIn rfl (Nat.le_of_ble_eq_true rfl) (Nat.le_of_ble_eq_true rfl) (Nat.le_of_ble_eq_true rfl) rfl (co_oo_indexIn F _ _ la1 ya1 _ _ _) (fun x2 => ?_)
    refine g_goto (tgt := 20) dX2_takeTold_16 (by decide) ?_
    exact g_to (lk_od_takeTold_20 F a1 na1 la1 ya1 _ _ _) (su_s (su_n (su_n (su_s (su_n su_0)))))
theorem co_od_takeTold (F : Nat) (a1 na1 : Nat) (la1 : a1 < gC.1) (ya1 : gC.2 a1 = .inr (1, na1, g_zf)) (v2 : Int32) (v3 : Int32) (μ : g_St) : g_Con gC 1 yX2_takeTold cX2_takeTold 5 (some .int) [.ref 1, .ref a1, .int v2, .int v3] μ (g_yi (od_takeTold F a1 na1 v2 v3 μ)) := g_conOf mc_X2_takeTold.2.2.2.2 (Nat.le_of_ble_eq_true rfl) rfl (g_yi_rk (Or.inl rfl)) (lk_od_takeTold F a1 na1 la1 ya1 v2 v3 μ)
theorem dX2_readWay_0 : decode cX2_readWay 0 = .ok (.aload_n 0, 1) := by decide +kernel
theorem dX2_readWay_1 : decode cX2_readWay 1 = .ok (.invokevirtual 61, 3) := by decide +kernel
theorem dX2_readWay_4 : decode cX2_readWay 4 = .ok (.aload_n 0, 1) := by decide +kernel
theorem dX2_readWay_5 : decode cX2_readWay 5 = .ok (.aload_n 1, 1) := by decide +kernel
theorem dX2_readWay_6 : decode cX2_readWay 6 = .ok (.getfield 64, 3) := by decide +kernel
theorem dX2_readWay_9 : decode cX2_readWay 9 = .ok (.aload_n 1, 1) := by decide +kernel
theorem dX2_readWay_10 : decode cX2_readWay 10 = .ok (.getfield 36, 3) := by decide +kernel
theorem dX2_readWay_13 : decode cX2_readWay 13 = .ok (.iconst 0, 1) := by decide +kernel
theorem dX2_readWay_14 : decode cX2_readWay 14 = .ok (.invokestatic 75, 3) := by decide +kernel
theorem dX2_readWay_17 : decode cX2_readWay 17 = .ok (.istore_n 2, 1) := by decide +kernel
theorem dX2_readWay_18 : decode cX2_readWay 18 = .ok (.iload_n 2, 1) := by decide +kernel
theorem dX2_readWay_19 : decode cX2_readWay 19 = .ok (.iconst (-1), 1) := by decide +kernel
theorem dX2_readWay_20 : decode cX2_readWay 20 = .ok (.if_icmp .ne 5, 3) := by decide +kernel
theorem dX2_readWay_23 : decode cX2_readWay 23 = .ok (.iconst 0, 1) := by decide +kernel
theorem dX2_readWay_24 : decode cX2_readWay 24 = .ok (.ireturn, 1) := by decide +kernel
theorem dX2_readWay_25 : decode cX2_readWay 25 = .ok (.aload_n 0, 1) := by decide +kernel
theorem dX2_readWay_26 : decode cX2_readWay 26 = .ok (.aload_n 1, 1) := by decide +kernel
theorem dX2_readWay_27 : decode cX2_readWay 27 = .ok (.getfield 64, 3) := by decide +kernel
theorem dX2_readWay_30 : decode cX2_readWay 30 = .ok (.aload_n 1, 1) := by decide +kernel
theorem dX2_readWay_31 : decode cX2_readWay 31 = .ok (.getfield 36, 3) := by decide +kernel
theorem dX2_readWay_34 : decode cX2_readWay 34 = .ok (.iconst 1, 1) := by decide +kernel
theorem dX2_readWay_35 : decode cX2_readWay 35 = .ok (.iload_n 2, 1) := by decide +kernel
theorem dX2_readWay_36 : decode cX2_readWay 36 = .ok (.ishl, 1) := by decide +kernel
theorem dX2_readWay_37 : decode cX2_readWay 37 = .ok (.invokestatic 75, 3) := by decide +kernel
theorem dX2_readWay_40 : decode cX2_readWay 40 = .ok (.istore_n 3, 1) := by decide +kernel
theorem dX2_readWay_41 : decode cX2_readWay 41 = .ok (.iload_n 3, 1) := by decide +kernel
theorem dX2_readWay_42 : decode cX2_readWay 42 = .ok (.iconst (-1), 1) := by decide +kernel
theorem dX2_readWay_43 : decode cX2_readWay 43 = .ok (.if_icmp .ne 5, 3) := by decide +kernel
theorem dX2_readWay_46 : decode cX2_readWay 46 = .ok (.iconst 0, 1) := by decide +kernel
theorem dX2_readWay_47 : decode cX2_readWay 47 = .ok (.ireturn, 1) := by decide +kernel
theorem dX2_readWay_48 : decode cX2_readWay 48 = .ok (.aload_n 0, 1) := by decide +kernel
theorem dX2_readWay_49 : decode cX2_readWay 49 = .ok (.iconst 1, 1) := by decide +kernel
theorem dX2_readWay_50 : decode cX2_readWay 50 = .ok (.bipush 24, 2) := by decide +kernel
theorem dX2_readWay_52 : decode cX2_readWay 52 = .ok (.invokevirtual 79, 3) := by decide +kernel
theorem dX2_readWay_55 : decode cX2_readWay 55 = .ok (.istore 4, 2) := by decide +kernel
theorem dX2_readWay_57 : decode cX2_readWay 57 = .ok (.iload 4, 2) := by decide +kernel
theorem dX2_readWay_59 : decode cX2_readWay 59 = .ok (.iconst (-1), 1) := by decide +kernel
theorem dX2_readWay_60 : decode cX2_readWay 60 = .ok (.if_icmp .ne 5, 3) := by decide +kernel
theorem dX2_readWay_63 : decode cX2_readWay 63 = .ok (.iconst 0, 1) := by decide +kernel
theorem dX2_readWay_64 : decode cX2_readWay 64 = .ok (.ireturn, 1) := by decide +kernel
theorem dX2_readWay_65 : decode cX2_readWay 65 = .ok (.aload_n 1, 1) := by decide +kernel
theorem dX2_readWay_66 : decode cX2_readWay 66 = .ok (.getfield 83, 3) := by decide +kernel
theorem dX2_readWay_69 : decode cX2_readWay 69 = .ok (.iload_n 2, 1) := by decide +kernel
theorem dX2_readWay_70 : decode cX2_readWay 70 = .ok (.aaload, 1) := by decide +kernel
theorem dX2_readWay_71 : decode cX2_readWay 71 = .ok (.iload_n 3, 1) := by decide +kernel
theorem dX2_readWay_72 : decode cX2_readWay 72 = .ok (.iload 4, 2) := by decide +kernel
theorem dX2_readWay_74 : decode cX2_readWay 74 = .ok (.iastore, 1) := by decide +kernel
theorem dX2_readWay_75 : decode cX2_readWay 75 = .ok (.aload_n 1, 1) := by decide +kernel
theorem dX2_readWay_76 : decode cX2_readWay 76 = .ok (.getfield 83, 3) := by decide +kernel
theorem dX2_readWay_79 : decode cX2_readWay 79 = .ok (.iload_n 3, 1) := by decide +kernel
theorem dX2_readWay_80 : decode cX2_readWay 80 = .ok (.aaload, 1) := by decide +kernel
theorem dX2_readWay_81 : decode cX2_readWay 81 = .ok (.iload_n 2, 1) := by decide +kernel
theorem dX2_readWay_82 : decode cX2_readWay 82 = .ok (.iload 4, 2) := by decide +kernel
theorem dX2_readWay_84 : decode cX2_readWay 84 = .ok (.iastore, 1) := by decide +kernel
theorem dX2_readWay_85 : decode cX2_readWay 85 = .ok (.aload_n 0, 1) := by decide +kernel
theorem dX2_readWay_86 : decode cX2_readWay 86 = .ok (.bipush 59, 2) := by decide +kernel
theorem dX2_readWay_88 : decode cX2_readWay 88 = .ok (.invokevirtual 72, 3) := by decide +kernel
theorem dX2_readWay_91 : decode cX2_readWay 91 = .ok (.ireturn, 1) := by decide +kernel
theorem lk_od_readWay (F : Nat) (bl : Nat) (hbl : g_isLand bl) (μ : g_St) : g_Go gC 2 yX2_readWay cX2_readWay 5 (some .boolean) 0 [some (.ref 1), some (.ref bl), none, none, none] [] μ (Option.map o_yi (od_readWay F bl μ)) := by
  unfold od_readWay
  refine g_aload_n dX2_readWay_0 rfl rfl ?_
  refine w_Vyv [] dX2_readWay_1 ml_X2_61 mv_X6_advance mc_X6_advance cf_X6 ly_Tape_lt ly_Tape rfl (Nat.le_of_ble_eq_true rfl) (Nat.le_of_ble_eq_true rfl) (Nat.le_of_ble_eq_true rfl) rfl (co_ot_advance _) (fun μ1 => ?_)
  refine g_aload_n dX2_readWay_4 rfl rfl ?_
  refine g_aload_n dX2_readWay_5 rfl rfl ?_
  refine g_getS dX2_readWay_6 cf_X1 fl_X2_64 (ly_Land_lt hbl) (ly_Land hbl) rfl (Nat.le_of_ble_eq_true rfl) ?_
  refine g_aload_n dX2_readWay_9 rfl rfl ?_
  refine g_getI dX2_readWay_10 cf_X1 fl_X2_36 (ly_Land_lt hbl) (ly_Land hbl) rfl (Nat.le_of_ble_eq_true rfl) ?_
  refine g_iconst dX2_readWay_13 ic_0 ?_
  refine w_Syi [.ref _, .ref _, .int _, .int _] dX2_readWay_14 ml_X2_75 ms_X2_takeTold mc_X2_takeTold rfl (Nat.le_of_ble_eq_true rfl) (Nat.le_of_ble_eq_true rfl) (Nat.le_of_ble_eq_true rfl) rfl (co_od_takeTold F _ _ (ly_Land_placeNames_lt hbl) (ly_Land_placeNames hbl) _ _ _) (fun q2 => ?_)
  refine g_istore_n (lo2 := [_, _, _, _, _]) dX2_readWay_17 rfl (Nat.le_of_ble_eq_true rfl) rfl rfl ?_
  refine g_iload_n dX2_readWay_18 rfl rfl ?_
  refine g_iconst dX2_readWay_19 ic_m1 ?_
  refine w_icmp_ne (tgt := 25) dX2_readWay_20 (by decide) ?_ ?_
  · refine g_iconst dX2_readWay_23 ic_0 ?_
    exact w_iret dX2_readWay_24 (by decide) rfl
  · refine g_aload_n dX2_readWay_25 rfl rfl ?_
    refine g_aload_n dX2_readWay_26 rfl rfl ?_
    refine g_getS dX2_readWay_27 cf_X1 fl_X2_64 (ly_Land_lt hbl) (ly_Land hbl) rfl (Nat.le_of_ble_eq_true rfl) ?_
    refine g_aload_n dX2_readWay_30 rfl rfl ?_
    refine g_getI dX2_readWay_31 cf_X1 fl_X2_36 (ly_Land_lt hbl) (ly_Land hbl) rfl (Nat.le_of_ble_eq_true rfl) ?_
    refine g_iconst dX2_readWay_34 ic_1 ?_
    refine g_iload_n dX2_readWay_35 rfl rfl ?_
    refine g_ishl dX2_readWay_36 ?_
    refine w_Syi [.ref _, .ref _, .int _, .int _] dX2_readWay_37 ml_X2_75 ms_X2_takeTold mc_X2_takeTold rfl (Nat.le_of_ble_eq_true rfl) (Nat.le_of_ble_eq_true rfl) (Nat.le_of_ble_eq_true rfl) rfl (co_od_takeTold F _ _ (ly_Land_placeNames_lt hbl) (ly_Land_placeNames hbl) _ _ _) (fun q3 => ?_)
    refine g_istore_n (lo2 := [_, _, _, _, _]) dX2_readWay_40 rfl (Nat.le_of_ble_eq_true rfl) rfl rfl ?_
    refine g_iload_n dX2_readWay_41 rfl rfl ?_
    refine g_iconst dX2_readWay_42 ic_m1 ?_
    refine w_icmp_ne (tgt := 48) dX2_readWay_43 (by decide) ?_ ?_
    · refine g_iconst dX2_readWay_46 ic_0 ?_
      exact w_iret dX2_readWay_47 (by decide) rfl
    · refine g_aload_n dX2_readWay_48 rfl rfl ?_
      refine g_iconst dX2_readWay_49 ic_1 ?_
      refine g_bipush dX2_readWay_50 bp_24 ?_
      refine w_Vyi [.int _, .int _] dX2_readWay_52 ml_X2_79 mv_X6_takeNumber mc_X6_takeNumber cf_X6 ly_Tape_lt ly_Tape rfl (Nat.le_of_ble_eq_true rfl) (Nat.le_of_ble_eq_true rfl) (Nat.le_of_ble_eq_true rfl) rfl (co_ot_takeNumber _ _ _) (fun q4 => ?_)
      refine g_istore (lo2 := [_, _, _, _, _]) dX2_readWay_55 (Nat.le_of_ble_eq_true rfl) rfl rfl ?_
      refine g_iload dX2_readWay_57 rfl ?_
      refine g_iconst dX2_readWay_59 ic_m1 ?_
      refine w_icmp_ne (tgt := 65) dX2_readWay_60 (by decide) ?_ ?_
      · refine g_iconst dX2_readWay_63 ic_0 ?_
        exact w_iret dX2_readWay_64 (by decide) rfl
      · refine g_aload_n dX2_readWay_65 rfl rfl ?_
        refine g_getS dX2_readWay_66 cf_X1 fl_X2_83 (ly_Land_lt hbl) (ly_Land hbl) rfl (Nat.le_of_ble_eq_true rfl) ?_
        refine g_iload_n dX2_readWay_69 rfl rfl ?_
        refine w_aald4 dX2_readWay_70 (ly_Land_ways_lt hbl) (ly_Land_ways hbl) (fun j6 hj6 => ?_)
        refine g_iload_n dX2_readWay_71 rfl rfl ?_
        refine g_iload dX2_readWay_72 rfl ?_
        refine w_iast dX2_readWay_74 (ly_Land_ways_row_lt hbl hj6) (ly_Land_ways_row hbl hj6) (fun μ7 => ?_)
        refine g_aload_n dX2_readWay_75 rfl rfl ?_
        refine g_getS dX2_readWay_76 cf_X1 fl_X2_83 (ly_Land_lt hbl) (ly_Land hbl) rfl (Nat.le_of_ble_eq_true rfl) ?_
        refine g_iload_n dX2_readWay_79 rfl rfl ?_
        refine w_aald4 dX2_readWay_80 (ly_Land_ways_lt hbl) (ly_Land_ways hbl) (fun j9 hj9 => ?_)
        refine g_iload_n dX2_readWay_81 rfl rfl ?_
        refine g_iload dX2_readWay_82 rfl ?_
        refine w_iast dX2_readWay_84 (ly_Land_ways_row_lt hbl hj9) (ly_Land_ways_row hbl hj9) (fun μ10 => ?_)
        refine g_aload_n dX2_readWay_85 rfl rfl ?_
        refine g_bipush dX2_readWay_86 bp_59 ?_
        refine w_Vyi [.int _] dX2_readWay_88 ml_X2_72 mv_X6_take mc_X6_take cf_X6 ly_Tape_lt ly_Tape rfl (Nat.le_of_ble_eq_true rfl) (Nat.le_of_ble_eq_true rfl) (Nat.le_of_ble_eq_true rfl) rfl (co_ot_take _ _) (fun q11 => ?_)
        exact w_zret dX2_readWay_91 rfl rfl
theorem co_od_readWay (F : Nat) (bl : Nat) (hbl : g_isLand bl) (μ : g_St) : g_Con gC 2 yX2_readWay cX2_readWay 5 (some .boolean) [.ref 1, .ref bl] μ (g_yi (od_readWay F bl μ)) := g_conOf mc_X2_readWay.2.2.2.2 (Nat.le_of_ble_eq_true rfl) rfl (g_yi_rk (Or.inr (Or.inl rfl))) (lk_od_readWay F bl hbl μ)
theorem dX2_takeGoods_0 : decode cX2_takeGoods 0 = .ok (.iconst 0, 1) := by decide +kernel
theorem dX2_takeGoods_1 : decode cX2_takeGoods 1 = .ok (.istore_n 2, 1) := by decide +kernel
theorem dX2_takeGoods_2 : decode cX2_takeGoods 2 = .ok (.iconst 0, 1) := by decide +kernel
theorem dX2_takeGoods_3 : decode cX2_takeGoods 3 = .ok (.istore_n 3, 1) := by decide +kernel
theorem dX2_takeGoods_4 : decode cX2_takeGoods 4 = .ok (.iload_n 3, 1) := by decide +kernel
theorem dX2_takeGoods_5 : decode cX2_takeGoods 5 = .ok (.bipush 6, 2) := by decide +kernel
theorem dX2_takeGoods_7 : decode cX2_takeGoods 7 = .ok (.if_icmp .gt 46, 3) := by decide +kernel
theorem dX2_takeGoods_10 : decode cX2_takeGoods 10 = .ok (.aload_n 0, 1) := by decide +kernel
theorem dX2_takeGoods_11 : decode cX2_takeGoods 11 = .ok (.invokevirtual 117, 3) := by decide +kernel
theorem dX2_takeGoods_14 : decode cX2_takeGoods 14 = .ok (.ifCond .eq 39, 3) := by decide +kernel
theorem dX2_takeGoods_17 : decode cX2_takeGoods 17 = .ok (.aload_n 0, 1) := by decide +kernel
theorem dX2_takeGoods_18 : decode cX2_takeGoods 18 = .ok (.aload_n 1, 1) := by decide +kernel
theorem dX2_takeGoods_19 : decode cX2_takeGoods 19 = .ok (.getfield 87, 3) := by decide +kernel
theorem dX2_takeGoods_22 : decode cX2_takeGoods 22 = .ok (.aload_n 1, 1) := by decide +kernel
theorem dX2_takeGoods_23 : decode cX2_takeGoods 23 = .ok (.getfield 49, 3) := by decide +kernel
theorem dX2_takeGoods_26 : decode cX2_takeGoods 26 = .ok (.iload_n 2, 1) := by decide +kernel
theorem dX2_takeGoods_27 : decode cX2_takeGoods 27 = .ok (.invokestatic 75, 3) := by decide +kernel
theorem dX2_takeGoods_30 : decode cX2_takeGoods 30 = .ok (.istore 4, 2) := by decide +kernel
theorem dX2_takeGoods_32 : decode cX2_takeGoods 32 = .ok (.iload 4, 2) := by decide +kernel
theorem dX2_takeGoods_34 : decode cX2_takeGoods 34 = .ok (.iconst (-1), 1) := by decide +kernel
theorem dX2_takeGoods_35 : decode cX2_takeGoods 35 = .ok (.if_icmp .ne 5, 3) := by decide +kernel
theorem dX2_takeGoods_38 : decode cX2_takeGoods 38 = .ok (.iconst (-1), 1) := by decide +kernel
theorem dX2_takeGoods_39 : decode cX2_takeGoods 39 = .ok (.ireturn, 1) := by decide +kernel
theorem dX2_takeGoods_40 : decode cX2_takeGoods 40 = .ok (.iload_n 2, 1) := by decide +kernel
theorem dX2_takeGoods_41 : decode cX2_takeGoods 41 = .ok (.iconst 1, 1) := by decide +kernel
theorem dX2_takeGoods_42 : decode cX2_takeGoods 42 = .ok (.iload 4, 2) := by decide +kernel
theorem dX2_takeGoods_44 : decode cX2_takeGoods 44 = .ok (.ishl, 1) := by decide +kernel
theorem dX2_takeGoods_45 : decode cX2_takeGoods 45 = .ok (.ior, 1) := by decide +kernel
theorem dX2_takeGoods_46 : decode cX2_takeGoods 46 = .ok (.istore_n 2, 1) := by decide +kernel
theorem dX2_takeGoods_47 : decode cX2_takeGoods 47 = .ok (.iinc 3 1, 3) := by decide +kernel
theorem dX2_takeGoods_50 : decode cX2_takeGoods 50 = .ok (.goto (-46), 3) := by decide +kernel
theorem dX2_takeGoods_53 : decode cX2_takeGoods 53 = .ok (.iload_n 2, 1) := by decide +kernel
theorem dX2_takeGoods_54 : decode cX2_takeGoods 54 = .ok (.ireturn, 1) := by decide +kernel
theorem lk_od_takeGoods_4_b (F : Nat) (bl : Nat) (hbl : g_isLand bl) (K_4 : Int32 → Int32 → g_St → Option (Int32 × g_St)) (hK_4 : ∀ (w2 : Int32) (w3 : Int32) (ν : g_St), g_Go gC 2 yX2_takeGoods cX2_takeGoods 5 (some .int) 4 [some (.ref 1), some (.ref bl), some (.int w2), some (.int w3), none] [] ν (Option.map o_yi (K_4 w2 w3 ν))) (v2 : Int32) (v3 : Int32) (μ : g_St) : g_Go gC 2 yX2_takeGoods cX2_takeGoods 5 (some .int) 4 [some (.ref 1), some (.ref bl), some (.int v2), some (.int v3), none] [] μ (Option.map o_yi (od_takeGoods_4_b F bl K_4 v2 v3 μ)) := by
  unfold od_takeGoods_4_b
  refine g_iload_n dX2_takeGoods_4 rfl rfl ?_
  refine g_bipush dX2_takeGoods_5 bp_6 ?_
  refine w_icmp_gt (tgt := 53) dX2_takeGoods_7 (by decide) ?_ ?_
  · refine g_aload_n dX2_takeGoods_10 rfl rfl ?_
    refine w_Vxi [] dX2_takeGoods_11 ml_X2_117 mv_X6_isName mc_X6_isName cf_X6 ly_Tape_lt ly_Tape rfl (Nat.le_of_ble_eq_true rfl) (Nat.le_of_ble_eq_true rfl) (Nat.le_of_ble_eq_true rfl) rfl (co_ot_isName _) (fun x1 => ?_)
    refine w_if_eq (tgt := 53) dX2_takeGoods_14 (by decide) ?_ ?_
    · refine g_iload_n dX2_takeGoods_53 rfl rfl ?_
      exact w_iret dX2_takeGoods_54 rfl rfl
    · refine g_aload_n dX2_takeGoods_17 rfl rfl ?_
      refine g_aload_n dX2_takeGoods_18 rfl rfl ?_
      refine g_getS dX2_takeGoods_19 cf_X1 fl_X2_87 (ly_Land_lt hbl) (ly_Land hbl) rfl (Nat.le_of_ble_eq_true rfl) ?_
      refine g_aload_n dX2_takeGoods_22 rfl rfl ?_
      refine g_getI dX2_takeGoods_23 cf_X1 fl_X2_49 (ly_Land_lt hbl) (ly_Land hbl) rfl (Nat.le_of_ble_eq_true rfl) ?_
      refine g_iload_n dX2_takeGoods_26 rfl rfl ?_
      refine w_Syi [.ref _, .ref _, .int _, .int _] dX2_takeGoods_27 ml_X2_75 ms_X2_takeTold mc_X2_takeTold rfl (Nat.le_of_ble_eq_true rfl) (Nat.le_of_ble_eq_true rfl) (Nat.le_of_ble_eq_true rfl) rfl (co_od_takeTold F _ _ (ly_Land_goodNames_lt hbl) (ly_Land_goodNames hbl) _ _ _) (fun q2 => ?_)
      refine g_istore (lo2 := [_, _, _, _, _]) dX2_takeGoods_30 (Nat.le_of_ble_eq_true rfl) rfl rfl ?_
      refine g_iload dX2_takeGoods_32 rfl ?_
      refine g_iconst dX2_takeGoods_34 ic_m1 ?_
      refine w_icmp_ne (tgt := 40) dX2_takeGoods_35 (by decide) ?_ ?_
      · refine g_iconst dX2_takeGoods_38 ic_m1 ?_
        exact w_iret dX2_takeGoods_39 rfl rfl
      · refine g_iload_n dX2_takeGoods_40 rfl rfl ?_
        refine g_iconst dX2_takeGoods_41 ic_1 ?_
        refine g_iload dX2_takeGoods_42 rfl ?_
        refine g_ishl dX2_takeGoods_44 ?_
        refine g_ior dX2_takeGoods_45 ?_
        refine w_istore_n (lo2 := fun _ => [_, _, _, _, _]) dX2_takeGoods_46 rfl (Nat.le_of_ble_eq_true rfl) rfl (fun _ => rfl) (fun x3 => ?_)
        refine g_iinc (lo2 := [_, _, _, _, _]) dX2_takeGoods_47 rfl rfl (Nat.le_of_ble_eq_true rfl) rfl rfl ?_
        refine g_goto (tgt := 4) dX2_takeGoods_50 (by decide) ?_
        exact g_to (hK_4 _ _ _) (su_s (su_s (su_s (su_s (su_n su_0)))))
  · refine g_iload_n dX2_takeGoods_53 rfl rfl ?_
    exact w_iret dX2_takeGoods_54 rfl rfl
theorem lk_od_takeGoods_4 (F : Nat) (bl : Nat) (hbl : g_isLand bl) : ∀ (f : Nat) (v2 : Int32) (v3 : Int32) (μ : g_St) , g_Go gC 2 yX2_takeGoods cX2_takeGoods 5 (some .int) 4 [some (.ref 1), some (.ref bl), some (.int v2), some (.int v3), none] [] μ (Option.map o_yi (od_takeGoods_4 F bl f v2 v3 μ))
  | 0, v2, v3, μ => g_none
  | f + 1, v2, v3, μ => lk_od_takeGoods_4_b F bl hbl (od_takeGoods_4 F bl f) (lk_od_takeGoods_4 F bl hbl f) v2 v3 μ
theorem lk_od_takeGoods (F : Nat) (bl : Nat) (hbl : g_isLand bl) (μ : g_St) : g_Go gC 2 yX2_takeGoods cX2_takeGoods 5 (some .int) 0 [some (.ref 1), some (.ref bl), none, none, none] [] μ (Option.map o_yi (od_takeGoods F bl μ)) := by
  unfold od_takeGoods
  refine g_iconst dX2_takeGoods_0 ic_0 ?_
  refine g_istore_n (lo2 := [_, _, _, _, _]) dX2_takeGoods_1 rfl (Nat.le_of_ble_eq_true rfl) rfl rfl ?_
  refine g_iconst dX2_takeGoods_2 ic_0 ?_
  refine g_istore_n (lo2 := [_, _, _, _, _]) dX2_takeGoods_3 rfl (Nat.le_of_ble_eq_true rfl) rfl rfl ?_
  exact g_to (lk_od_takeGoods_4 F bl hbl _ _ _ _) (su_s (su_s (su_s (su_s (su_n su_0)))))
theorem co_od_takeGoods (F : Nat) (bl : Nat) (hbl : g_isLand bl) (μ : g_St) : g_Con gC 2 yX2_takeGoods cX2_takeGoods 5 (some .int) [.ref 1, .ref bl] μ (g_yi (od_takeGoods F bl μ)) := g_conOf mc_X2_takeGoods.2.2.2.2 (Nat.le_of_ble_eq_true rfl) rfl (g_yi_rk (Or.inl rfl)) (lk_od_takeGoods F bl hbl μ)
theorem dX2_readGood_0 : decode cX2_readGood 0 = .ok (.aload_n 1, 1) := by decide +kernel
theorem dX2_readGood_1 : decode cX2_readGood 1 = .ok (.getfield 49, 3) := by decide +kernel
theorem dX2_readGood_4 : decode cX2_readGood 4 = .ok (.istore_n 2, 1) := by decide +kernel
theorem dX2_readGood_5 : decode cX2_readGood 5 = .ok (.aload_n 0, 1) := by decide +kernel
theorem dX2_readGood_6 : decode cX2_readGood 6 = .ok (.invokevirtual 61, 3) := by decide +kernel
theorem dX2_readGood_9 : decode cX2_readGood 9 = .ok (.aload_n 0, 1) := by decide +kernel
theorem dX2_readGood_10 : decode cX2_readGood 10 = .ok (.aload_n 1, 1) := by decide +kernel
theorem dX2_readGood_11 : decode cX2_readGood 11 = .ok (.aload_n 1, 1) := by decide +kernel
theorem dX2_readGood_12 : decode cX2_readGood 12 = .ok (.getfield 87, 3) := by decide +kernel
theorem dX2_readGood_15 : decode cX2_readGood 15 = .ok (.iload_n 2, 1) := by decide +kernel
theorem dX2_readGood_16 : decode cX2_readGood 16 = .ok (.invokestatic 68, 3) := by decide +kernel
theorem dX2_readGood_19 : decode cX2_readGood 19 = .ok (.ifCond .eq 11, 3) := by decide +kernel
theorem dX2_readGood_22 : decode cX2_readGood 22 = .ok (.aload_n 0, 1) := by decide +kernel
theorem dX2_readGood_23 : decode cX2_readGood 23 = .ok (.iconst 3, 1) := by decide +kernel
theorem dX2_readGood_24 : decode cX2_readGood 24 = .ok (.invokevirtual 72, 3) := by decide +kernel
theorem dX2_readGood_27 : decode cX2_readGood 27 = .ok (.ifCond .ne 5, 3) := by decide +kernel
theorem dX2_readGood_30 : decode cX2_readGood 30 = .ok (.iconst 0, 1) := by decide +kernel
theorem dX2_readGood_31 : decode cX2_readGood 31 = .ok (.ireturn, 1) := by decide +kernel
theorem dX2_readGood_32 : decode cX2_readGood 32 = .ok (.aload_n 0, 1) := by decide +kernel
theorem dX2_readGood_33 : decode cX2_readGood 33 = .ok (.iconst 1, 1) := by decide +kernel
theorem dX2_readGood_34 : decode cX2_readGood 34 = .ok (.bipush 24, 2) := by decide +kernel
theorem dX2_readGood_36 : decode cX2_readGood 36 = .ok (.invokevirtual 79, 3) := by decide +kernel
theorem dX2_readGood_39 : decode cX2_readGood 39 = .ok (.istore_n 3, 1) := by decide +kernel
theorem dX2_readGood_40 : decode cX2_readGood 40 = .ok (.iload_n 3, 1) := by decide +kernel
theorem dX2_readGood_41 : decode cX2_readGood 41 = .ok (.iconst (-1), 1) := by decide +kernel
theorem dX2_readGood_42 : decode cX2_readGood 42 = .ok (.if_icmp .ne 5, 3) := by decide +kernel
theorem dX2_readGood_45 : decode cX2_readGood 45 = .ok (.iconst 0, 1) := by decide +kernel
theorem dX2_readGood_46 : decode cX2_readGood 46 = .ok (.ireturn, 1) := by decide +kernel
theorem dX2_readGood_47 : decode cX2_readGood 47 = .ok (.iconst 0, 1) := by decide +kernel
theorem dX2_readGood_48 : decode cX2_readGood 48 = .ok (.istore 4, 2) := by decide +kernel
theorem dX2_readGood_50 : decode cX2_readGood 50 = .ok (.aload_n 0, 1) := by decide +kernel
theorem dX2_readGood_51 : decode cX2_readGood 51 = .ok (.getfield 19, 3) := by decide +kernel
theorem dX2_readGood_54 : decode cX2_readGood 54 = .ok (.iconst 4, 1) := by decide +kernel
theorem dX2_readGood_55 : decode cX2_readGood 55 = .ok (.if_icmp .ne 25, 3) := by decide +kernel
theorem dX2_readGood_58 : decode cX2_readGood 58 = .ok (.aload_n 0, 1) := by decide +kernel
theorem dX2_readGood_59 : decode cX2_readGood 59 = .ok (.invokevirtual 61, 3) := by decide +kernel
theorem dX2_readGood_62 : decode cX2_readGood 62 = .ok (.aload_n 0, 1) := by decide +kernel
theorem dX2_readGood_63 : decode cX2_readGood 63 = .ok (.aload_n 1, 1) := by decide +kernel
theorem dX2_readGood_64 : decode cX2_readGood 64 = .ok (.invokestatic 90, 3) := by decide +kernel
theorem dX2_readGood_67 : decode cX2_readGood 67 = .ok (.istore 4, 2) := by decide +kernel
theorem dX2_readGood_69 : decode cX2_readGood 69 = .ok (.iload 4, 2) := by decide +kernel
theorem dX2_readGood_71 : decode cX2_readGood 71 = .ok (.ifCond .ne 9, 3) := by decide +kernel
theorem dX2_readGood_74 : decode cX2_readGood 74 = .ok (.aload_n 0, 1) := by decide +kernel
theorem dX2_readGood_75 : decode cX2_readGood 75 = .ok (.iconst 1, 1) := by decide +kernel
theorem dX2_readGood_76 : decode cX2_readGood 76 = .ok (.invokevirtual 42, 3) := by decide +kernel
theorem dX2_readGood_79 : decode cX2_readGood 79 = .ok (.ireturn, 1) := by decide +kernel
theorem dX2_readGood_80 : decode cX2_readGood 80 = .ok (.iload 4, 2) := by decide +kernel
theorem dX2_readGood_82 : decode cX2_readGood 82 = .ok (.iconst (-1), 1) := by decide +kernel
theorem dX2_readGood_83 : decode cX2_readGood 83 = .ok (.if_icmp .eq 12, 3) := by decide +kernel
theorem dX2_readGood_86 : decode cX2_readGood 86 = .ok (.aload_n 0, 1) := by decide +kernel
theorem dX2_readGood_87 : decode cX2_readGood 87 = .ok (.bipush 59, 2) := by decide +kernel
theorem dX2_readGood_89 : decode cX2_readGood 89 = .ok (.invokevirtual 72, 3) := by decide +kernel
theorem dX2_readGood_92 : decode cX2_readGood 92 = .ok (.ifCond .ne 5, 3) := by decide +kernel
theorem dX2_readGood_95 : decode cX2_readGood 95 = .ok (.iconst 0, 1) := by decide +kernel
theorem dX2_readGood_96 : decode cX2_readGood 96 = .ok (.ireturn, 1) := by decide +kernel
theorem dX2_readGood_97 : decode cX2_readGood 97 = .ok (.aload_n 1, 1) := by decide +kernel
theorem dX2_readGood_98 : decode cX2_readGood 98 = .ok (.getfield 94, 3) := by decide +kernel
theorem dX2_readGood_101 : decode cX2_readGood 101 = .ok (.iload_n 2, 1) := by decide +kernel
theorem dX2_readGood_102 : decode cX2_readGood 102 = .ok (.iload_n 3, 1) := by decide +kernel
theorem dX2_readGood_103 : decode cX2_readGood 103 = .ok (.iastore, 1) := by decide +kernel
theorem dX2_readGood_104 : decode cX2_readGood 104 = .ok (.aload_n 1, 1) := by decide +kernel
theorem dX2_readGood_105 : decode cX2_readGood 105 = .ok (.getfield 98, 3) := by decide +kernel
theorem dX2_readGood_108 : decode cX2_readGood 108 = .ok (.iload_n 2, 1) := by decide +kernel
theorem dX2_readGood_109 : decode cX2_readGood 109 = .ok (.iload 4, 2) := by decide +kernel
theorem dX2_readGood_111 : decode cX2_readGood 111 = .ok (.iastore, 1) := by decide +kernel
theorem dX2_readGood_112 : decode cX2_readGood 112 = .ok (.aload_n 1, 1) := by decide +kernel
theorem dX2_readGood_113 : decode cX2_readGood 113 = .ok (.dup, 1) := by decide +kernel
theorem dX2_readGood_114 : decode cX2_readGood 114 = .ok (.getfield 49, 3) := by decide +kernel
theorem dX2_readGood_117 : decode cX2_readGood 117 = .ok (.iconst 1, 1) := by decide +kernel
theorem dX2_readGood_118 : decode cX2_readGood 118 = .ok (.iadd, 1) := by decide +kernel
theorem dX2_readGood_119 : decode cX2_readGood 119 = .ok (.putfield 49, 3) := by decide +kernel
theorem dX2_readGood_122 : decode cX2_readGood 122 = .ok (.iconst 1, 1) := by decide +kernel
theorem dX2_readGood_123 : decode cX2_readGood 123 = .ok (.ireturn, 1) := by decide +kernel
theorem lk_od_readGood_80 (F : Nat) (bl : Nat) (hbl : g_isLand bl) (v2 : Int32) (v3 : Int32) (v4 : Int32) (μ : g_St) : g_Go gC 3 yX2_readGood cX2_readGood 5 (some .boolean) 80 [some (.ref 1), some (.ref bl), some (.int v2), some (.int v3), some (.int v4)] [] μ (Option.map o_yi (od_readGood_80 F bl v2 v3 v4 μ)) := by
  unfold od_readGood_80
  refine g_iload dX2_readGood_80 rfl ?_
  refine g_iconst dX2_readGood_82 ic_m1 ?_
  refine w_icmp_eq (tgt := 95) dX2_readGood_83 (by decide) ?_ ?_
  · refine g_iconst dX2_readGood_95 ic_0 ?_
    exact w_iret dX2_readGood_96 (by decide) rfl
  · refine g_aload_n dX2_readGood_86 rfl rfl ?_
    refine g_bipush dX2_readGood_87 bp_59 ?_
    refine w_Vyi [.int _] dX2_readGood_89 ml_X2_72 mv_X6_take mc_X6_take cf_X6 ly_Tape_lt ly_Tape rfl (Nat.le_of_ble_eq_true rfl) (Nat.le_of_ble_eq_true rfl) (Nat.le_of_ble_eq_true rfl) rfl (co_ot_take _ _) (fun q8 => ?_)
    refine w_if_ne (tgt := 97) dX2_readGood_92 (by decide) ?_ ?_
    · refine g_iconst dX2_readGood_95 ic_0 ?_
      exact w_iret dX2_readGood_96 (by decide) rfl
    · refine g_aload_n dX2_readGood_97 rfl rfl ?_
      refine g_getS dX2_readGood_98 cf_X1 fl_X2_94 (ly_Land_lt hbl) (ly_Land hbl) rfl (Nat.le_of_ble_eq_true rfl) ?_
      refine g_iload_n dX2_readGood_101 rfl rfl ?_
      refine g_iload_n dX2_readGood_102 rfl rfl ?_
      refine w_iast dX2_readGood_103 (ly_Land_hours_lt hbl) (ly_Land_hours hbl) (fun μ9 => ?_)
      refine g_aload_n dX2_readGood_104 rfl rfl ?_
      refine g_getS dX2_readGood_105 cf_X1 fl_X2_98 (ly_Land_lt hbl) (ly_Land hbl) rfl (Nat.le_of_ble_eq_true rfl) ?_
      refine g_iload_n dX2_readGood_108 rfl rfl ?_
      refine g_iload dX2_readGood_109 rfl ?_
      refine w_iast dX2_readGood_111 (ly_Land_from_lt hbl) (ly_Land_from hbl) (fun μ10 => ?_)
      refine g_aload_n dX2_readGood_112 rfl rfl ?_
      refine g_dupr dX2_readGood_113 ?_
      refine g_getI dX2_readGood_114 cf_X1 fl_X2_49 (ly_Land_lt hbl) (ly_Land hbl) rfl (Nat.le_of_ble_eq_true rfl) ?_
      refine g_iconst dX2_readGood_117 ic_1 ?_
      refine g_iadd dX2_readGood_118 ?_
      refine w_putI dX2_readGood_119 cf_X1 fl_X2_49 (ly_Land_lt hbl) (ly_Land hbl) rfl (Nat.le_of_ble_eq_true rfl) rfl rfl rfl rfl (fun μ11 => ?_)
      refine g_iconst dX2_readGood_122 ic_1 ?_
      exact w_iret dX2_readGood_123 (by decide) rfl
theorem lk_od_readGood (F : Nat) (bl : Nat) (hbl : g_isLand bl) (μ : g_St) : g_Go gC 3 yX2_readGood cX2_readGood 5 (some .boolean) 0 [some (.ref 1), some (.ref bl), none, none, none] [] μ (Option.map o_yi (od_readGood F bl μ)) := by
  unfold od_readGood
  refine g_aload_n dX2_readGood_0 rfl rfl ?_
  refine g_getI dX2_readGood_1 cf_X1 fl_X2_49 (ly_Land_lt hbl) (ly_Land hbl) rfl (Nat.le_of_ble_eq_true rfl) ?_
  refine g_istore_n (lo2 := [_, _, _, _, _]) dX2_readGood_4 rfl (Nat.le_of_ble_eq_true rfl) rfl rfl ?_
  refine g_aload_n dX2_readGood_5 rfl rfl ?_
  refine w_Vyv [] dX2_readGood_6 ml_X2_61 mv_X6_advance mc_X6_advance cf_X6 ly_Tape_lt ly_Tape rfl (Nat.le_of_ble_eq_true rfl) (Nat.le_of_ble_eq_true rfl) (Nat.le_of_ble_eq_true rfl) rfl (co_ot_advance _) (fun μ1 => ?_)
  refine g_aload_n dX2_readGood_9 rfl rfl ?_
  refine g_aload_n dX2_readGood_10 rfl rfl ?_
  refine g_aload_n dX2_readGood_11 rfl rfl ?_
  refine g_getS dX2_readGood_12 cf_X1 fl_X2_87 (ly_Land_lt hbl) (ly_Land hbl) rfl (Nat.le_of_ble_eq_true rfl) ?_
  refine g_iload_n dX2_readGood_15 rfl rfl ?_
  refine w_Syi [.ref _, .ref _, .ref _, .int _] dX2_readGood_16 ml_X2_68 ms_X2_takeNewName mc_X2_takeNewName rfl (Nat.le_of_ble_eq_true rfl) (Nat.le_of_ble_eq_true rfl) (Nat.le_of_ble_eq_true rfl) rfl (co_od_takeNewName F _ hbl _ _ (ly_Land_goodNames_lt hbl) (ly_Land_goodNames hbl) _ _) (fun q2 => ?_)
  refine w_if_eq (tgt := 30) dX2_readGood_19 (by decide) ?_ ?_
  · refine g_iconst dX2_readGood_30 ic_0 ?_
    exact w_iret dX2_readGood_31 (by decide) rfl
  · refine g_aload_n dX2_readGood_22 rfl rfl ?_
    refine g_iconst dX2_readGood_23 ic_3 ?_
    refine w_Vyi [.int _] dX2_readGood_24 ml_X2_72 mv_X6_take mc_X6_take cf_X6 ly_Tape_lt ly_Tape rfl (Nat.le_of_ble_eq_true rfl) (Nat.le_of_ble_eq_true rfl) (Nat.le_of_ble_eq_true rfl) rfl (co_ot_take _ _) (fun q3 => ?_)
    refine w_if_ne (tgt := 32) dX2_readGood_27 (by decide) ?_ ?_
    · refine g_iconst dX2_readGood_30 ic_0 ?_
      exact w_iret dX2_readGood_31 (by decide) rfl
    · refine g_aload_n dX2_readGood_32 rfl rfl ?_
      refine g_iconst dX2_readGood_33 ic_1 ?_
      refine g_bipush dX2_readGood_34 bp_24 ?_
      refine w_Vyi [.int _, .int _] dX2_readGood_36 ml_X2_79 mv_X6_takeNumber mc_X6_takeNumber cf_X6 ly_Tape_lt ly_Tape rfl (Nat.le_of_ble_eq_true rfl) (Nat.le_of_ble_eq_true rfl) (Nat.le_of_ble_eq_true rfl) rfl (co_ot_takeNumber _ _ _) (fun q4 => ?_)
      refine g_istore_n (lo2 := [_, _, _, _, _]) dX2_readGood_39 rfl (Nat.le_of_ble_eq_true rfl) rfl rfl ?_
      refine g_iload_n dX2_readGood_40 rfl rfl ?_
      refine g_iconst dX2_readGood_41 ic_m1 ?_
      refine w_icmp_ne (tgt := 47) dX2_readGood_42 (by decide) ?_ ?_
      · refine g_iconst dX2_readGood_45 ic_0 ?_
        exact w_iret dX2_readGood_46 (by decide) rfl
      · refine g_iconst dX2_readGood_47 ic_0 ?_
        refine g_istore (lo2 := [_, _, _, _, _]) dX2_readGood_48 (Nat.le_of_ble_eq_true rfl) rfl rfl ?_
        refine g_aload_n dX2_readGood_50 rfl rfl ?_
        refine g_getI dX2_readGood_51 cf_X6 fl_X2_19 ly_Tape_lt ly_Tape rfl (Nat.le_of_ble_eq_true rfl) ?_
        refine g_iconst dX2_readGood_54 ic_4 ?_
        refine w_icmp_ne (tgt := 80) dX2_readGood_55 (by decide) ?_ ?_
        · refine g_aload_n dX2_readGood_58 rfl rfl ?_
          refine w_Vyv [] dX2_readGood_59 ml_X2_61 mv_X6_advance mc_X6_advance cf_X6 ly_Tape_lt ly_Tape rfl (Nat.le_of_ble_eq_true rfl) (Nat.le_of_ble_eq_true rfl) (Nat.le_of_ble_eq_true rfl) rfl (co_ot_advance _) (fun μ5 => ?_)
          refine g_aload_n dX2_readGood_62 rfl rfl ?_
          refine g_aload_n dX2_readGood_63 rfl rfl ?_
          refine w_Syi [.ref _, .ref _] dX2_readGood_64 ml_X2_90 ms_X2_takeGoods mc_X2_takeGoods rfl (Nat.le_of_ble_eq_true rfl) (Nat.le_of_ble_eq_true rfl) (Nat.le_of_ble_eq_true rfl) rfl (co_od_takeGoods F _ hbl _) (fun q6 => ?_)
          refine g_istore (lo2 := [_, _, _, _, _]) dX2_readGood_67 (Nat.le_of_ble_eq_true rfl) rfl rfl ?_
          refine g_iload dX2_readGood_69 rfl ?_
          refine w_if_ne (tgt := 80) dX2_readGood_71 (by decide) ?_ ?_
          · refine g_aload_n dX2_readGood_74 rfl rfl ?_
            refine g_iconst dX2_readGood_75 ic_1 ?_
            refine w_Vyi [.int _] dX2_readGood_76 ml_X2_42 mv_X6_wrong mc_X6_wrong cf_X6 ly_Tape_lt ly_Tape rfl (Nat.le_of_ble_eq_true rfl) (Nat.le_of_ble_eq_true rfl) (Nat.le_of_ble_eq_true rfl) rfl (co_ot_wrong _ _) (fun q7 => ?_)
            exact w_zret dX2_readGood_79 rfl rfl
          · exact g_to (lk_od_readGood_80 F bl hbl _ _ _ _) (su_s (su_s (su_s (su_s (su_s su_0)))))
        · exact g_to (lk_od_readGood_80 F bl hbl _ _ _ _) (su_s (su_s (su_s (su_s (su_s su_0)))))
theorem co_od_readGood (F : Nat) (bl : Nat) (hbl : g_isLand bl) (μ : g_St) : g_Con gC 3 yX2_readGood cX2_readGood 5 (some .boolean) [.ref 1, .ref bl] μ (g_yi (od_readGood F bl μ)) := g_conOf mc_X2_readGood.2.2.2.2 (Nat.le_of_ble_eq_true rfl) rfl (g_yi_rk (Or.inr (Or.inl rfl))) (lk_od_readGood F bl hbl μ)
theorem dX2_readWant_0 : decode cX2_readWant 0 = .ok (.aload_n 0, 1) := by decide +kernel
theorem dX2_readWant_1 : decode cX2_readWant 1 = .ok (.invokevirtual 61, 3) := by decide +kernel
theorem dX2_readWant_4 : decode cX2_readWant 4 = .ok (.aload_n 0, 1) := by decide +kernel
theorem dX2_readWant_5 : decode cX2_readWant 5 = .ok (.aload_n 1, 1) := by decide +kernel
theorem dX2_readWant_6 : decode cX2_readWant 6 = .ok (.getfield 87, 3) := by decide +kernel
theorem dX2_readWant_9 : decode cX2_readWant 9 = .ok (.aload_n 1, 1) := by decide +kernel
theorem dX2_readWant_10 : decode cX2_readWant 10 = .ok (.getfield 49, 3) := by decide +kernel
theorem dX2_readWant_13 : decode cX2_readWant 13 = .ok (.iload_n 2, 1) := by decide +kernel
theorem dX2_readWant_14 : decode cX2_readWant 14 = .ok (.invokestatic 75, 3) := by decide +kernel
theorem dX2_readWant_17 : decode cX2_readWant 17 = .ok (.istore_n 3, 1) := by decide +kernel
theorem dX2_readWant_18 : decode cX2_readWant 18 = .ok (.iload_n 3, 1) := by decide +kernel
theorem dX2_readWant_19 : decode cX2_readWant 19 = .ok (.iconst (-1), 1) := by decide +kernel
theorem dX2_readWant_20 : decode cX2_readWant 20 = .ok (.if_icmp .ne 5, 3) := by decide +kernel
theorem dX2_readWant_23 : decode cX2_readWant 23 = .ok (.iconst (-1), 1) := by decide +kernel
theorem dX2_readWant_24 : decode cX2_readWant 24 = .ok (.ireturn, 1) := by decide +kernel
theorem dX2_readWant_25 : decode cX2_readWant 25 = .ok (.aload_n 1, 1) := by decide +kernel
theorem dX2_readWant_26 : decode cX2_readWant 26 = .ok (.getfield 114, 3) := by decide +kernel
theorem dX2_readWant_29 : decode cX2_readWant 29 = .ok (.aload_n 1, 1) := by decide +kernel
theorem dX2_readWant_30 : decode cX2_readWant 30 = .ok (.getfield 55, 3) := by decide +kernel
theorem dX2_readWant_33 : decode cX2_readWant 33 = .ok (.aaload, 1) := by decide +kernel
theorem dX2_readWant_34 : decode cX2_readWant 34 = .ok (.astore 4, 2) := by decide +kernel
theorem dX2_readWant_36 : decode cX2_readWant 36 = .ok (.sipush 999, 3) := by decide +kernel
theorem dX2_readWant_39 : decode cX2_readWant 39 = .ok (.istore 5, 2) := by decide +kernel
theorem dX2_readWant_41 : decode cX2_readWant 41 = .ok (.iconst 0, 1) := by decide +kernel
theorem dX2_readWant_42 : decode cX2_readWant 42 = .ok (.istore 6, 2) := by decide +kernel
theorem dX2_readWant_44 : decode cX2_readWant 44 = .ok (.iload 6, 2) := by decide +kernel
theorem dX2_readWant_46 : decode cX2_readWant 46 = .ok (.iconst 3, 1) := by decide +kernel
theorem dX2_readWant_47 : decode cX2_readWant 47 = .ok (.if_icmp .ge 52, 3) := by decide +kernel
theorem dX2_readWant_50 : decode cX2_readWant 50 = .ok (.iload 6, 2) := by decide +kernel
theorem dX2_readWant_52 : decode cX2_readWant 52 = .ok (.ifCond .eq 13, 3) := by decide +kernel
theorem dX2_readWant_55 : decode cX2_readWant 55 = .ok (.aload_n 0, 1) := by decide +kernel
theorem dX2_readWant_56 : decode cX2_readWant 56 = .ok (.getfield 19, 3) := by decide +kernel
theorem dX2_readWant_59 : decode cX2_readWant 59 = .ok (.sipush 201, 3) := by decide +kernel
theorem dX2_readWant_62 : decode cX2_readWant 62 = .ok (.if_icmp .ne 37, 3) := by decide +kernel
theorem dX2_readWant_65 : decode cX2_readWant 65 = .ok (.aload_n 0, 1) := by decide +kernel
theorem dX2_readWant_66 : decode cX2_readWant 66 = .ok (.iconst 0, 1) := by decide +kernel
theorem dX2_readWant_67 : decode cX2_readWant 67 = .ok (.iload 5, 2) := by decide +kernel
theorem dX2_readWant_69 : decode cX2_readWant 69 = .ok (.invokevirtual 79, 3) := by decide +kernel
theorem dX2_readWant_72 : decode cX2_readWant 72 = .ok (.istore 5, 2) := by decide +kernel
theorem dX2_readWant_74 : decode cX2_readWant 74 = .ok (.iload 5, 2) := by decide +kernel
theorem dX2_readWant_76 : decode cX2_readWant 76 = .ok (.iconst (-1), 1) := by decide +kernel
theorem dX2_readWant_77 : decode cX2_readWant 77 = .ok (.if_icmp .ne 5, 3) := by decide +kernel
theorem dX2_readWant_80 : decode cX2_readWant 80 = .ok (.iconst (-1), 1) := by decide +kernel
theorem dX2_readWant_81 : decode cX2_readWant 81 = .ok (.ireturn, 1) := by decide +kernel
theorem dX2_readWant_82 : decode cX2_readWant 82 = .ok (.aload 4, 2) := by decide +kernel
theorem dX2_readWant_84 : decode cX2_readWant 84 = .ok (.iload_n 3, 1) := by decide +kernel
theorem dX2_readWant_85 : decode cX2_readWant 85 = .ok (.iconst 3, 1) := by decide +kernel
theorem dX2_readWant_86 : decode cX2_readWant 86 = .ok (.imul, 1) := by decide +kernel
theorem dX2_readWant_87 : decode cX2_readWant 87 = .ok (.iload 6, 2) := by decide +kernel
theorem dX2_readWant_89 : decode cX2_readWant 89 = .ok (.iadd, 1) := by decide +kernel
theorem dX2_readWant_90 : decode cX2_readWant 90 = .ok (.iload 5, 2) := by decide +kernel
theorem dX2_readWant_92 : decode cX2_readWant 92 = .ok (.iastore, 1) := by decide +kernel
theorem dX2_readWant_93 : decode cX2_readWant 93 = .ok (.iinc 6 1, 3) := by decide +kernel
theorem dX2_readWant_96 : decode cX2_readWant 96 = .ok (.goto (-52), 3) := by decide +kernel
theorem dX2_readWant_99 : decode cX2_readWant 99 = .ok (.iload_n 3, 1) := by decide +kernel
theorem dX2_readWant_100 : decode cX2_readWant 100 = .ok (.ireturn, 1) := by decide +kernel
theorem lk_od_readWant_65 (F : Nat) (bl : Nat) (hbl : g_isLand bl) (v4 : Nat) (lv4 : v4 < gC.1) (yv4 : gC.2 v4 = .inr (0, 18, g_zf)) (v3 : Int32) (v5 : Int32) (v6 : Int32) (K_44 : Int32 → Int32 → g_St → Option (Int32 × g_St)) (hK_44 : ∀ (w5 : Int32) (w6 : Int32) (ν : g_St), g_Go gC 2 yX2_readWant cX2_readWant 7 (some .int) 44 [some (.ref 1), none, none, some (.int v3), some (.ref v4), some (.int w5), some (.int w6)] [] ν (Option.map o_yi (K_44 w5 w6 ν))) (μ : g_St) : g_Go gC 2 yX2_readWant cX2_readWant 7 (some .int) 65 [some (.ref 1), none, none, some (.int v3), some (.ref v4), some (.int v5), some (.int v6)] [] μ (Option.map o_yi (od_readWant_65 F bl v4 K_44 v3 v5 v6 μ)) := by
  unfold od_readWant_65
  refine g_aload_n dX2_readWant_65 rfl rfl ?_
  refine g_iconst dX2_readWant_66 ic_0 ?_
  refine g_iload dX2_readWant_67 rfl ?_
  refine w_Vyi [.int _, .int _] dX2_readWant_69 ml_X2_79 mv_X6_takeNumber mc_X6_takeNumber cf_X6 ly_Tape_lt ly_Tape rfl (Nat.le_of_ble_eq_true rfl) (Nat.le_of_ble_eq_true rfl) (Nat.le_of_ble_eq_true rfl) rfl (co_ot_takeNumber _ _ _) (fun q5 => ?_)
  refine g_istore (lo2 := [_, _, _, _, _, _, _]) dX2_readWant_72 (Nat.le_of_ble_eq_true rfl) rfl rfl ?_
  refine g_iload dX2_readWant_74 rfl ?_
  refine g_iconst dX2_readWant_76 ic_m1 ?_
  refine w_icmp_ne (tgt := 82) dX2_readWant_77 (by decide) ?_ ?_
  · refine g_iconst dX2_readWant_80 ic_m1 ?_
    exact w_iret dX2_readWant_81 rfl rfl
  · refine g_aload dX2_readWant_82 rfl ?_
    refine g_iload_n dX2_readWant_84 rfl rfl ?_
    refine g_iconst dX2_readWant_85 ic_3 ?_
    refine g_imul dX2_readWant_86 ?_
    refine g_iload dX2_readWant_87 rfl ?_
    refine g_iadd dX2_readWant_89 ?_
    refine g_iload dX2_readWant_90 rfl ?_
    refine w_iast dX2_readWant_92 lv4 yv4 (fun μ6 => ?_)
    refine g_iinc (lo2 := [_, _, _, _, _, _, _]) dX2_readWant_93 rfl rfl (Nat.le_of_ble_eq_true rfl) rfl rfl ?_
    refine g_goto (tgt := 44) dX2_readWant_96 (by decide) ?_
    exact g_to (hK_44 _ _ _) (su_s (su_n (su_n (su_s (su_s (su_s (su_s su_0)))))))
theorem lk_od_readWant_44_b (F : Nat) (bl : Nat) (hbl : g_isLand bl) (v4 : Nat) (lv4 : v4 < gC.1) (yv4 : gC.2 v4 = .inr (0, 18, g_zf)) (v3 : Int32) (K_44 : Int32 → Int32 → g_St → Option (Int32 × g_St)) (hK_44 : ∀ (w5 : Int32) (w6 : Int32) (ν : g_St), g_Go gC 2 yX2_readWant cX2_readWant 7 (some .int) 44 [some (.ref 1), none, none, some (.int v3), some (.ref v4), some (.int w5), some (.int w6)] [] ν (Option.map o_yi (K_44 w5 w6 ν))) (v5 : Int32) (v6 : Int32) (μ : g_St) : g_Go gC 2 yX2_readWant cX2_readWant 7 (some .int) 44 [some (.ref 1), none, none, some (.int v3), some (.ref v4), some (.int v5), some (.int v6)] [] μ (Option.map o_yi (od_readWant_44_b F bl v4 v3 K_44 v5 v6 μ)) := by
  unfold od_readWant_44_b
  refine g_iload dX2_readWant_44 rfl ?_
  refine g_iconst dX2_readWant_46 ic_3 ?_
  refine w_icmp_ge (tgt := 99) dX2_readWant_47 (by decide) ?_ ?_
  · refine g_iload dX2_readWant_50 rfl ?_
    refine w_if_eq (tgt := 65) dX2_readWant_52 (by decide) ?_ ?_
    · exact g_to (lk_od_readWant_65 F bl hbl _ lv4 yv4 _ _ _ K_44 hK_44 _) (su_s (su_n (su_n (su_s (su_s (su_s (su_s su_0)))))))
    · refine g_aload_n dX2_readWant_55 rfl rfl ?_
      refine g_getI dX2_readWant_56 cf_X6 fl_X2_19 ly_Tape_lt ly_Tape rfl (Nat.le_of_ble_eq_true rfl) ?_
      refine g_sipush dX2_readWant_59 sp_201 ?_
      refine w_icmp_ne (tgt := 99) dX2_readWant_62 (by decide) ?_ ?_
      · exact g_to (lk_od_readWant_65 F bl hbl _ lv4 yv4 _ _ _ K_44 hK_44 _) (su_s (su_n (su_n (su_s (su_s (su_s (su_s su_0)))))))
      · refine g_iload_n dX2_readWant_99 rfl rfl ?_
        exact w_iret dX2_readWant_100 rfl rfl
  · refine g_iload_n dX2_readWant_99 rfl rfl ?_
    exact w_iret dX2_readWant_100 rfl rfl
theorem lk_od_readWant_44 (F : Nat) (bl : Nat) (hbl : g_isLand bl) (v4 : Nat) (lv4 : v4 < gC.1) (yv4 : gC.2 v4 = .inr (0, 18, g_zf)) (v3 : Int32) : ∀ (f : Nat) (v5 : Int32) (v6 : Int32) (μ : g_St) , g_Go gC 2 yX2_readWant cX2_readWant 7 (some .int) 44 [some (.ref 1), none, none, some (.int v3), some (.ref v4), some (.int v5), some (.int v6)] [] μ (Option.map o_yi (od_readWant_44 F bl v4 v3 f v5 v6 μ))
  | 0, v5, v6, μ => g_none
  | f + 1, v5, v6, μ => lk_od_readWant_44_b F bl hbl v4 lv4 yv4 v3 (od_readWant_44 F bl v4 v3 f) (lk_od_readWant_44 F bl hbl v4 lv4 yv4 v3 f) v5 v6 μ
theorem lk_od_readWant (F : Nat) (bl : Nat) (hbl : g_isLand bl) (v2 : Int32) (μ : g_St) : g_Go gC 2 yX2_readWant cX2_readWant 7 (some .int) 0 [some (.ref 1), some (.ref bl), some (.int v2), none, none, none, none] [] μ (Option.map o_yi (od_readWant F bl v2 μ)) := by
  unfold od_readWant
  refine g_aload_n dX2_readWant_0 rfl rfl ?_
  refine w_Vyv [] dX2_readWant_1 ml_X2_61 mv_X6_advance mc_X6_advance cf_X6 ly_Tape_lt ly_Tape rfl (Nat.le_of_ble_eq_true rfl) (Nat.le_of_ble_eq_true rfl) (Nat.le_of_ble_eq_true rfl) rfl (co_ot_advance _) (fun μ1 => ?_)
  refine g_aload_n dX2_readWant_4 rfl rfl ?_
  refine g_aload_n dX2_readWant_5 rfl rfl ?_
  refine g_getS dX2_readWant_6 cf_X1 fl_X2_87 (ly_Land_lt hbl) (ly_Land hbl) rfl (Nat.le_of_ble_eq_true rfl) ?_
  refine g_aload_n dX2_readWant_9 rfl rfl ?_
  refine g_getI dX2_readWant_10 cf_X1 fl_X2_49 (ly_Land_lt hbl) (ly_Land hbl) rfl (Nat.le_of_ble_eq_true rfl) ?_
  refine g_iload_n dX2_readWant_13 rfl rfl ?_
  refine w_Syi [.ref _, .ref _, .int _, .int _] dX2_readWant_14 ml_X2_75 ms_X2_takeTold mc_X2_takeTold rfl (Nat.le_of_ble_eq_true rfl) (Nat.le_of_ble_eq_true rfl) (Nat.le_of_ble_eq_true rfl) rfl (co_od_takeTold F _ _ (ly_Land_goodNames_lt hbl) (ly_Land_goodNames hbl) _ _ _) (fun q2 => ?_)
  refine g_istore_n (lo2 := [_, _, _, _, _, _, _]) dX2_readWant_17 rfl (Nat.le_of_ble_eq_true rfl) rfl rfl ?_
  refine g_iload_n dX2_readWant_18 rfl rfl ?_
  refine g_iconst dX2_readWant_19 ic_m1 ?_
  refine w_icmp_ne (tgt := 25) dX2_readWant_20 (by decide) ?_ ?_
  · refine g_iconst dX2_readWant_23 ic_m1 ?_
    exact w_iret dX2_readWant_24 rfl rfl
  · refine g_aload_n dX2_readWant_25 rfl rfl ?_
    refine g_getS dX2_readWant_26 cf_X1 fl_X2_114 (ly_Land_lt hbl) (ly_Land hbl) rfl (Nat.le_of_ble_eq_true rfl) ?_
    refine g_aload_n dX2_readWant_29 rfl rfl ?_
    refine g_getI dX2_readWant_30 cf_X1 fl_X2_55 (ly_Land_lt hbl) (ly_Land hbl) rfl (Nat.le_of_ble_eq_true rfl) ?_
    refine w_aald4 dX2_readWant_33 (ly_Land_worths_lt hbl) (ly_Land_worths hbl) (fun j4 hj4 => ?_)
    refine g_astore (lo2 := [_, _, _, _, _, _, _]) dX2_readWant_34 (Nat.le_of_ble_eq_true rfl) rfl rfl ?_
    refine g_sipush dX2_readWant_36 sp_999 ?_
    refine g_istore (lo2 := [_, _, _, _, _, _, _]) dX2_readWant_39 (Nat.le_of_ble_eq_true rfl) rfl rfl ?_
    refine g_iconst dX2_readWant_41 ic_0 ?_
    refine g_istore (lo2 := [_, _, _, _, _, _, _]) dX2_readWant_42 (Nat.le_of_ble_eq_true rfl) rfl rfl ?_
    exact g_to (lk_od_readWant_44 F bl hbl _ (ly_Land_worths_row_lt hbl hj4) (ly_Land_worths_row hbl hj4) _ _ _ _ _) (su_s (su_n (su_n (su_s (su_s (su_s (su_s su_0)))))))
theorem co_od_readWant (F : Nat) (bl : Nat) (hbl : g_isLand bl) (v2 : Int32) (μ : g_St) : g_Con gC 2 yX2_readWant cX2_readWant 7 (some .int) [.ref 1, .ref bl, .int v2] μ (g_yi (od_readWant F bl v2 μ)) := g_conOf mc_X2_readWant.2.2.2.2 (Nat.le_of_ble_eq_true rfl) rfl (g_yi_rk (Or.inl rfl)) (lk_od_readWant F bl hbl v2 μ)
theorem dX2_readPerson_0 : decode cX2_readPerson 0 = .ok (.aload_n 1, 1) := by decide +kernel
theorem dX2_readPerson_1 : decode cX2_readPerson 1 = .ok (.getfield 55, 3) := by decide +kernel
theorem dX2_readPerson_4 : decode cX2_readPerson 4 = .ok (.istore_n 2, 1) := by decide +kernel
theorem dX2_readPerson_5 : decode cX2_readPerson 5 = .ok (.aload_n 0, 1) := by decide +kernel
theorem dX2_readPerson_6 : decode cX2_readPerson 6 = .ok (.invokevirtual 61, 3) := by decide +kernel
theorem dX2_readPerson_9 : decode cX2_readPerson 9 = .ok (.aload_n 0, 1) := by decide +kernel
theorem dX2_readPerson_10 : decode cX2_readPerson 10 = .ok (.aload_n 1, 1) := by decide +kernel
theorem dX2_readPerson_11 : decode cX2_readPerson 11 = .ok (.aload_n 1, 1) := by decide +kernel
theorem dX2_readPerson_12 : decode cX2_readPerson 12 = .ok (.getfield 101, 3) := by decide +kernel
theorem dX2_readPerson_15 : decode cX2_readPerson 15 = .ok (.iload_n 2, 1) := by decide +kernel
theorem dX2_readPerson_16 : decode cX2_readPerson 16 = .ok (.invokestatic 68, 3) := by decide +kernel
theorem dX2_readPerson_19 : decode cX2_readPerson 19 = .ok (.ifCond .eq 12, 3) := by decide +kernel
theorem dX2_readPerson_22 : decode cX2_readPerson 22 = .ok (.aload_n 0, 1) := by decide +kernel
theorem dX2_readPerson_23 : decode cX2_readPerson 23 = .ok (.bipush 6, 2) := by decide +kernel
theorem dX2_readPerson_25 : decode cX2_readPerson 25 = .ok (.invokevirtual 72, 3) := by decide +kernel
theorem dX2_readPerson_28 : decode cX2_readPerson 28 = .ok (.ifCond .ne 5, 3) := by decide +kernel
theorem dX2_readPerson_31 : decode cX2_readPerson 31 = .ok (.iconst 0, 1) := by decide +kernel
theorem dX2_readPerson_32 : decode cX2_readPerson 32 = .ok (.ireturn, 1) := by decide +kernel
theorem dX2_readPerson_33 : decode cX2_readPerson 33 = .ok (.aload_n 0, 1) := by decide +kernel
theorem dX2_readPerson_34 : decode cX2_readPerson 34 = .ok (.aload_n 1, 1) := by decide +kernel
theorem dX2_readPerson_35 : decode cX2_readPerson 35 = .ok (.getfield 64, 3) := by decide +kernel
theorem dX2_readPerson_38 : decode cX2_readPerson 38 = .ok (.aload_n 1, 1) := by decide +kernel
theorem dX2_readPerson_39 : decode cX2_readPerson 39 = .ok (.getfield 36, 3) := by decide +kernel
theorem dX2_readPerson_42 : decode cX2_readPerson 42 = .ok (.iconst 0, 1) := by decide +kernel
theorem dX2_readPerson_43 : decode cX2_readPerson 43 = .ok (.invokestatic 75, 3) := by decide +kernel
theorem dX2_readPerson_46 : decode cX2_readPerson 46 = .ok (.istore_n 3, 1) := by decide +kernel
theorem dX2_readPerson_47 : decode cX2_readPerson 47 = .ok (.iload_n 3, 1) := by decide +kernel
theorem dX2_readPerson_48 : decode cX2_readPerson 48 = .ok (.iconst (-1), 1) := by decide +kernel
theorem dX2_readPerson_49 : decode cX2_readPerson 49 = .ok (.if_icmp .eq 12, 3) := by decide +kernel
theorem dX2_readPerson_52 : decode cX2_readPerson 52 = .ok (.aload_n 0, 1) := by decide +kernel
theorem dX2_readPerson_53 : decode cX2_readPerson 53 = .ok (.bipush 7, 2) := by decide +kernel
theorem dX2_readPerson_55 : decode cX2_readPerson 55 = .ok (.invokevirtual 72, 3) := by decide +kernel
theorem dX2_readPerson_58 : decode cX2_readPerson 58 = .ok (.ifCond .ne 5, 3) := by decide +kernel
theorem dX2_readPerson_61 : decode cX2_readPerson 61 = .ok (.iconst 0, 1) := by decide +kernel
theorem dX2_readPerson_62 : decode cX2_readPerson 62 = .ok (.ireturn, 1) := by decide +kernel
theorem dX2_readPerson_63 : decode cX2_readPerson 63 = .ok (.aload_n 0, 1) := by decide +kernel
theorem dX2_readPerson_64 : decode cX2_readPerson 64 = .ok (.aload_n 1, 1) := by decide +kernel
theorem dX2_readPerson_65 : decode cX2_readPerson 65 = .ok (.invokestatic 90, 3) := by decide +kernel
theorem dX2_readPerson_68 : decode cX2_readPerson 68 = .ok (.istore 4, 2) := by decide +kernel
theorem dX2_readPerson_70 : decode cX2_readPerson 70 = .ok (.iload 4, 2) := by decide +kernel
theorem dX2_readPerson_72 : decode cX2_readPerson 72 = .ok (.iconst (-1), 1) := by decide +kernel
theorem dX2_readPerson_73 : decode cX2_readPerson 73 = .ok (.if_icmp .ne 5, 3) := by decide +kernel
theorem dX2_readPerson_76 : decode cX2_readPerson 76 = .ok (.iconst 0, 1) := by decide +kernel
theorem dX2_readPerson_77 : decode cX2_readPerson 77 = .ok (.ireturn, 1) := by decide +kernel
theorem dX2_readPerson_78 : decode cX2_readPerson 78 = .ok (.iconst 0, 1) := by decide +kernel
theorem dX2_readPerson_79 : decode cX2_readPerson 79 = .ok (.istore 5, 2) := by decide +kernel
theorem dX2_readPerson_81 : decode cX2_readPerson 81 = .ok (.iconst 0, 1) := by decide +kernel
theorem dX2_readPerson_82 : decode cX2_readPerson 82 = .ok (.istore 6, 2) := by decide +kernel
theorem dX2_readPerson_84 : decode cX2_readPerson 84 = .ok (.iload 6, 2) := by decide +kernel
theorem dX2_readPerson_86 : decode cX2_readPerson 86 = .ok (.bipush 6, 2) := by decide +kernel
theorem dX2_readPerson_88 : decode cX2_readPerson 88 = .ok (.if_icmp .gt 44, 3) := by decide +kernel
theorem dX2_readPerson_91 : decode cX2_readPerson 91 = .ok (.aload_n 0, 1) := by decide +kernel
theorem dX2_readPerson_92 : decode cX2_readPerson 92 = .ok (.getfield 19, 3) := by decide +kernel
theorem dX2_readPerson_95 : decode cX2_readPerson 95 = .ok (.bipush 8, 2) := by decide +kernel
theorem dX2_readPerson_97 : decode cX2_readPerson 97 = .ok (.if_icmp .ne 35, 3) := by decide +kernel
theorem dX2_readPerson_100 : decode cX2_readPerson 100 = .ok (.aload_n 0, 1) := by decide +kernel
theorem dX2_readPerson_101 : decode cX2_readPerson 101 = .ok (.aload_n 1, 1) := by decide +kernel
theorem dX2_readPerson_102 : decode cX2_readPerson 102 = .ok (.iload 5, 2) := by decide +kernel
theorem dX2_readPerson_104 : decode cX2_readPerson 104 = .ok (.invokestatic 104, 3) := by decide +kernel
theorem dX2_readPerson_107 : decode cX2_readPerson 107 = .ok (.istore 7, 2) := by decide +kernel
theorem dX2_readPerson_109 : decode cX2_readPerson 109 = .ok (.iload 7, 2) := by decide +kernel
theorem dX2_readPerson_111 : decode cX2_readPerson 111 = .ok (.iconst (-1), 1) := by decide +kernel
theorem dX2_readPerson_112 : decode cX2_readPerson 112 = .ok (.if_icmp .ne 5, 3) := by decide +kernel
theorem dX2_readPerson_115 : decode cX2_readPerson 115 = .ok (.iconst 0, 1) := by decide +kernel
theorem dX2_readPerson_116 : decode cX2_readPerson 116 = .ok (.ireturn, 1) := by decide +kernel
theorem dX2_readPerson_117 : decode cX2_readPerson 117 = .ok (.iload 5, 2) := by decide +kernel
theorem dX2_readPerson_119 : decode cX2_readPerson 119 = .ok (.iconst 1, 1) := by decide +kernel
theorem dX2_readPerson_120 : decode cX2_readPerson 120 = .ok (.iload 7, 2) := by decide +kernel
theorem dX2_readPerson_122 : decode cX2_readPerson 122 = .ok (.ishl, 1) := by decide +kernel
theorem dX2_readPerson_123 : decode cX2_readPerson 123 = .ok (.ior, 1) := by decide +kernel
theorem dX2_readPerson_124 : decode cX2_readPerson 124 = .ok (.istore 5, 2) := by decide +kernel
theorem dX2_readPerson_126 : decode cX2_readPerson 126 = .ok (.iinc 6 1, 3) := by decide +kernel
theorem dX2_readPerson_129 : decode cX2_readPerson 129 = .ok (.goto (-45), 3) := by decide +kernel
theorem dX2_readPerson_132 : decode cX2_readPerson 132 = .ok (.aload_n 0, 1) := by decide +kernel
theorem dX2_readPerson_133 : decode cX2_readPerson 133 = .ok (.bipush 59, 2) := by decide +kernel
theorem dX2_readPerson_135 : decode cX2_readPerson 135 = .ok (.invokevirtual 72, 3) := by decide +kernel
theorem dX2_readPerson_138 : decode cX2_readPerson 138 = .ok (.ifCond .ne 5, 3) := by decide +kernel
theorem dX2_readPerson_141 : decode cX2_readPerson 141 = .ok (.iconst 0, 1) := by decide +kernel
theorem dX2_readPerson_142 : decode cX2_readPerson 142 = .ok (.ireturn, 1) := by decide +kernel
theorem dX2_readPerson_143 : decode cX2_readPerson 143 = .ok (.aload_n 1, 1) := by decide +kernel
theorem dX2_readPerson_144 : decode cX2_readPerson 144 = .ok (.getfield 108, 3) := by decide +kernel
theorem dX2_readPerson_147 : decode cX2_readPerson 147 = .ok (.iload_n 2, 1) := by decide +kernel
theorem dX2_readPerson_148 : decode cX2_readPerson 148 = .ok (.iload_n 3, 1) := by decide +kernel
theorem dX2_readPerson_149 : decode cX2_readPerson 149 = .ok (.iastore, 1) := by decide +kernel
theorem dX2_readPerson_150 : decode cX2_readPerson 150 = .ok (.aload_n 1, 1) := by decide +kernel
theorem dX2_readPerson_151 : decode cX2_readPerson 151 = .ok (.getfield 111, 3) := by decide +kernel
theorem dX2_readPerson_154 : decode cX2_readPerson 154 = .ok (.iload_n 2, 1) := by decide +kernel
theorem dX2_readPerson_155 : decode cX2_readPerson 155 = .ok (.iload 4, 2) := by decide +kernel
theorem dX2_readPerson_157 : decode cX2_readPerson 157 = .ok (.iastore, 1) := by decide +kernel
theorem dX2_readPerson_158 : decode cX2_readPerson 158 = .ok (.aload_n 1, 1) := by decide +kernel
theorem dX2_readPerson_159 : decode cX2_readPerson 159 = .ok (.dup, 1) := by decide +kernel
theorem dX2_readPerson_160 : decode cX2_readPerson 160 = .ok (.getfield 55, 3) := by decide +kernel
theorem dX2_readPerson_163 : decode cX2_readPerson 163 = .ok (.iconst 1, 1) := by decide +kernel
theorem dX2_readPerson_164 : decode cX2_readPerson 164 = .ok (.iadd, 1) := by decide +kernel
theorem dX2_readPerson_165 : decode cX2_readPerson 165 = .ok (.putfield 55, 3) := by decide +kernel
theorem dX2_readPerson_168 : decode cX2_readPerson 168 = .ok (.iconst 1, 1) := by decide +kernel
theorem dX2_readPerson_169 : decode cX2_readPerson 169 = .ok (.ireturn, 1) := by decide +kernel
theorem lk_od_readPerson_132 (F : Nat) (bl : Nat) (hbl : g_isLand bl) (v2 : Int32) (v3 : Int32) (v4 : Int32) (μ : g_St) : g_Go gC 3 yX2_readPerson cX2_readPerson 8 (some .boolean) 132 [some (.ref 1), some (.ref bl), some (.int v2), some (.int v3), some (.int v4), none, none, none] [] μ (Option.map o_yi (od_readPerson_132 F bl v2 v3 v4 μ)) := by
  unfold od_readPerson_132
  refine g_aload_n dX2_readPerson_132 rfl rfl ?_
  refine g_bipush dX2_readPerson_133 bp_59 ?_
  refine w_Vyi [.int _] dX2_readPerson_135 ml_X2_72 mv_X6_take mc_X6_take cf_X6 ly_Tape_lt ly_Tape rfl (Nat.le_of_ble_eq_true rfl) (Nat.le_of_ble_eq_true rfl) (Nat.le_of_ble_eq_true rfl) rfl (co_ot_take _ _) (fun q9 => ?_)
  refine w_if_ne (tgt := 143) dX2_readPerson_138 (by decide) ?_ ?_
  · refine g_iconst dX2_readPerson_141 ic_0 ?_
    exact w_iret dX2_readPerson_142 (by decide) rfl
  · refine g_aload_n dX2_readPerson_143 rfl rfl ?_
    refine g_getS dX2_readPerson_144 cf_X1 fl_X2_108 (ly_Land_lt hbl) (ly_Land hbl) rfl (Nat.le_of_ble_eq_true rfl) ?_
    refine g_iload_n dX2_readPerson_147 rfl rfl ?_
    refine g_iload_n dX2_readPerson_148 rfl rfl ?_
    refine w_iast dX2_readPerson_149 (ly_Land_home_lt hbl) (ly_Land_home hbl) (fun μ10 => ?_)
    refine g_aload_n dX2_readPerson_150 rfl rfl ?_
    refine g_getS dX2_readPerson_151 cf_X1 fl_X2_111 (ly_Land_lt hbl) (ly_Land hbl) rfl (Nat.le_of_ble_eq_true rfl) ?_
    refine g_iload_n dX2_readPerson_154 rfl rfl ?_
    refine g_iload dX2_readPerson_155 rfl ?_
    refine w_iast dX2_readPerson_157 (ly_Land_makes_lt hbl) (ly_Land_makes hbl) (fun μ11 => ?_)
    refine g_aload_n dX2_readPerson_158 rfl rfl ?_
    refine g_dupr dX2_readPerson_159 ?_
    refine g_getI dX2_readPerson_160 cf_X1 fl_X2_55 (ly_Land_lt hbl) (ly_Land hbl) rfl (Nat.le_of_ble_eq_true rfl) ?_
    refine g_iconst dX2_readPerson_163 ic_1 ?_
    refine g_iadd dX2_readPerson_164 ?_
    refine w_putI dX2_readPerson_165 cf_X1 fl_X2_55 (ly_Land_lt hbl) (ly_Land hbl) rfl (Nat.le_of_ble_eq_true rfl) rfl rfl rfl rfl (fun μ12 => ?_)
    refine g_iconst dX2_readPerson_168 ic_1 ?_
    exact w_iret dX2_readPerson_169 (by decide) rfl
theorem lk_od_readPerson_84_b (F : Nat) (bl : Nat) (hbl : g_isLand bl) (v2 : Int32) (v3 : Int32) (v4 : Int32) (K_84 : Int32 → Int32 → g_St → Option (Int32 × g_St)) (hK_84 : ∀ (w5 : Int32) (w6 : Int32) (ν : g_St), g_Go gC 3 yX2_readPerson cX2_readPerson 8 (some .boolean) 84 [some (.ref 1), some (.ref bl), some (.int v2), some (.int v3), some (.int v4), some (.int w5), some (.int w6), none] [] ν (Option.map o_yi (K_84 w5 w6 ν))) (v5 : Int32) (v6 : Int32) (μ : g_St) : g_Go gC 3 yX2_readPerson cX2_readPerson 8 (some .boolean) 84 [some (.ref 1), some (.ref bl), some (.int v2), some (.int v3), some (.int v4), some (.int v5), some (.int v6), none] [] μ (Option.map o_yi (od_readPerson_84_b F bl v2 v3 v4 K_84 v5 v6 μ)) := by
  unfold od_readPerson_84_b
  refine g_iload dX2_readPerson_84 rfl ?_
  refine g_bipush dX2_readPerson_86 bp_6 ?_
  refine w_icmp_gt (tgt := 132) dX2_readPerson_88 (by decide) ?_ ?_
  · refine g_aload_n dX2_readPerson_91 rfl rfl ?_
    refine g_getI dX2_readPerson_92 cf_X6 fl_X2_19 ly_Tape_lt ly_Tape rfl (Nat.le_of_ble_eq_true rfl) ?_
    refine g_bipush dX2_readPerson_95 bp_8 ?_
    refine w_icmp_ne (tgt := 132) dX2_readPerson_97 (by decide) ?_ ?_
    · refine g_aload_n dX2_readPerson_100 rfl rfl ?_
      refine g_aload_n dX2_readPerson_101 rfl rfl ?_
      refine g_iload dX2_readPerson_102 rfl ?_
      refine w_Syi [.ref _, .ref _, .int _] dX2_readPerson_104 ml_X2_104 ms_X2_readWant mc_X2_readWant rfl (Nat.le_of_ble_eq_true rfl) (Nat.le_of_ble_eq_true rfl) (Nat.le_of_ble_eq_true rfl) rfl (co_od_readWant F _ hbl _ _) (fun q7 => ?_)
      refine g_istore (lo2 := [_, _, _, _, _, _, _, _]) dX2_readPerson_107 (Nat.le_of_ble_eq_true rfl) rfl rfl ?_
      refine g_iload dX2_readPerson_109 rfl ?_
      refine g_iconst dX2_readPerson_111 ic_m1 ?_
      refine w_icmp_ne (tgt := 117) dX2_readPerson_112 (by decide) ?_ ?_
      · refine g_iconst dX2_readPerson_115 ic_0 ?_
        exact w_iret dX2_readPerson_116 (by decide) rfl
      · refine g_iload dX2_readPerson_117 rfl ?_
        refine g_iconst dX2_readPerson_119 ic_1 ?_
        refine g_iload dX2_readPerson_120 rfl ?_
        refine g_ishl dX2_readPerson_122 ?_
        refine g_ior dX2_readPerson_123 ?_
        refine w_istore (lo2 := fun _ => [_, _, _, _, _, _, _, _]) dX2_readPerson_124 (Nat.le_of_ble_eq_true rfl) rfl (fun _ => rfl) (fun x8 => ?_)
        refine g_iinc (lo2 := [_, _, _, _, _, _, _, _]) dX2_readPerson_126 rfl rfl (Nat.le_of_ble_eq_true rfl) rfl rfl ?_
        refine g_goto (tgt := 84) dX2_readPerson_129 (by decide) ?_
        exact g_to (hK_84 _ _ _) (su_s (su_s (su_s (su_s (su_s (su_s (su_s (su_n su_0))))))))
    · exact g_to (lk_od_readPerson_132 F bl hbl _ _ _ _) (su_s (su_s (su_s (su_s (su_s (su_n (su_n (su_n su_0))))))))
  · exact g_to (lk_od_readPerson_132 F bl hbl _ _ _ _) (su_s (su_s (su_s (su_s (su_s (su_n (su_n (su_n su_0))))))))
theorem lk_od_readPerson_84 (F : Nat) (bl : Nat) (hbl : g_isLand bl) (v2 : Int32) (v3 : Int32) (v4 : Int32) : ∀ (f : Nat) (v5 : Int32) (v6 : Int32) (μ : g_St) , g_Go gC 3 yX2_readPerson cX2_readPerson 8 (some .boolean) 84 [some (.ref 1), some (.ref bl), some (.int v2), some (.int v3), some (.int v4), some (.int v5), some (.int v6), none] [] μ (Option.map o_yi (od_readPerson_84 F bl v2 v3 v4 f v5 v6 μ))
  | 0, v5, v6, μ => g_none
  | f + 1, v5, v6, μ => lk_od_readPerson_84_b F bl hbl v2 v3 v4 (od_readPerson_84 F bl v2 v3 v4 f) (lk_od_readPerson_84 F bl hbl v2 v3 v4 f) v5 v6 μ
theorem lk_od_readPerson (F : Nat) (bl : Nat) (hbl : g_isLand bl) (μ : g_St) : g_Go gC 3 yX2_readPerson cX2_readPerson 8 (some .boolean) 0 [some (.ref 1), some (.ref bl), none, none, none, none, none, none] [] μ (Option.map o_yi (od_readPerson F bl μ)) := by
  unfold od_readPerson
  refine g_aload_n dX2_readPerson_0 rfl rfl ?_
  refine g_getI dX2_readPerson_1 cf_X1 fl_X2_55 (ly_Land_lt hbl) (ly_Land hbl) rfl (Nat.le_of_ble_eq_true rfl) ?_
  refine g_istore_n (lo2 := [_, _, _, _, _, _, _, _]) dX2_readPerson_4 rfl (Nat.le_of_ble_eq_true rfl) rfl rfl ?_
  refine g_aload_n dX2_readPerson_5 rfl rfl ?_
  refine w_Vyv [] dX2_readPerson_6 ml_X2_61 mv_X6_advance mc_X6_advance cf_X6 ly_Tape_lt ly_Tape rfl (Nat.le_of_ble_eq_true rfl) (Nat.le_of_ble_eq_true rfl) (Nat.le_of_ble_eq_true rfl) rfl (co_ot_advance _) (fun μ1 => ?_)
  refine g_aload_n dX2_readPerson_9 rfl rfl ?_
  refine g_aload_n dX2_readPerson_10 rfl rfl ?_
  refine g_aload_n dX2_readPerson_11 rfl rfl ?_
  refine g_getS dX2_readPerson_12 cf_X1 fl_X2_101 (ly_Land_lt hbl) (ly_Land hbl) rfl (Nat.le_of_ble_eq_true rfl) ?_
  refine g_iload_n dX2_readPerson_15 rfl rfl ?_
  refine w_Syi [.ref _, .ref _, .ref _, .int _] dX2_readPerson_16 ml_X2_68 ms_X2_takeNewName mc_X2_takeNewName rfl (Nat.le_of_ble_eq_true rfl) (Nat.le_of_ble_eq_true rfl) (Nat.le_of_ble_eq_true rfl) rfl (co_od_takeNewName F _ hbl _ _ (ly_Land_personNames_lt hbl) (ly_Land_personNames hbl) _ _) (fun q2 => ?_)
  refine w_if_eq (tgt := 31) dX2_readPerson_19 (by decide) ?_ ?_
  · refine g_iconst dX2_readPerson_31 ic_0 ?_
    exact w_iret dX2_readPerson_32 (by decide) rfl
  · refine g_aload_n dX2_readPerson_22 rfl rfl ?_
    refine g_bipush dX2_readPerson_23 bp_6 ?_
    refine w_Vyi [.int _] dX2_readPerson_25 ml_X2_72 mv_X6_take mc_X6_take cf_X6 ly_Tape_lt ly_Tape rfl (Nat.le_of_ble_eq_true rfl) (Nat.le_of_ble_eq_true rfl) (Nat.le_of_ble_eq_true rfl) rfl (co_ot_take _ _) (fun q3 => ?_)
    refine w_if_ne (tgt := 33) dX2_readPerson_28 (by decide) ?_ ?_
    · refine g_iconst dX2_readPerson_31 ic_0 ?_
      exact w_iret dX2_readPerson_32 (by decide) rfl
    · refine g_aload_n dX2_readPerson_33 rfl rfl ?_
      refine g_aload_n dX2_readPerson_34 rfl rfl ?_
      refine g_getS dX2_readPerson_35 cf_X1 fl_X2_64 (ly_Land_lt hbl) (ly_Land hbl) rfl (Nat.le_of_ble_eq_true rfl) ?_
      refine g_aload_n dX2_readPerson_38 rfl rfl ?_
      refine g_getI dX2_readPerson_39 cf_X1 fl_X2_36 (ly_Land_lt hbl) (ly_Land hbl) rfl (Nat.le_of_ble_eq_true rfl) ?_
      refine g_iconst dX2_readPerson_42 ic_0 ?_
      refine w_Syi [.ref _, .ref _, .int _, .int _] dX2_readPerson_43 ml_X2_75 ms_X2_takeTold mc_X2_takeTold rfl (Nat.le_of_ble_eq_true rfl) (Nat.le_of_ble_eq_true rfl) (Nat.le_of_ble_eq_true rfl) rfl (co_od_takeTold F _ _ (ly_Land_placeNames_lt hbl) (ly_Land_placeNames hbl) _ _ _) (fun q4 => ?_)
      refine g_istore_n (lo2 := [_, _, _, _, _, _, _, _]) dX2_readPerson_46 rfl (Nat.le_of_ble_eq_true rfl) rfl rfl ?_
      refine g_iload_n dX2_readPerson_47 rfl rfl ?_
      refine g_iconst dX2_readPerson_48 ic_m1 ?_
      refine w_icmp_eq (tgt := 61) dX2_readPerson_49 (by decide) ?_ ?_
      · refine g_iconst dX2_readPerson_61 ic_0 ?_
        exact w_iret dX2_readPerson_62 (by decide) rfl
      · refine g_aload_n dX2_readPerson_52 rfl rfl ?_
        refine g_bipush dX2_readPerson_53 bp_7 ?_
        refine w_Vyi [.int _] dX2_readPerson_55 ml_X2_72 mv_X6_take mc_X6_take cf_X6 ly_Tape_lt ly_Tape rfl (Nat.le_of_ble_eq_true rfl) (Nat.le_of_ble_eq_true rfl) (Nat.le_of_ble_eq_true rfl) rfl (co_ot_take _ _) (fun q5 => ?_)
        refine w_if_ne (tgt := 63) dX2_readPerson_58 (by decide) ?_ ?_
        · refine g_iconst dX2_readPerson_61 ic_0 ?_
          exact w_iret dX2_readPerson_62 (by decide) rfl
        · refine g_aload_n dX2_readPerson_63 rfl rfl ?_
          refine g_aload_n dX2_readPerson_64 rfl rfl ?_
          refine w_Syi [.ref _, .ref _] dX2_readPerson_65 ml_X2_90 ms_X2_takeGoods mc_X2_takeGoods rfl (Nat.le_of_ble_eq_true rfl) (Nat.le_of_ble_eq_true rfl) (Nat.le_of_ble_eq_true rfl) rfl (co_od_takeGoods F _ hbl _) (fun q6 => ?_)
          refine g_istore (lo2 := [_, _, _, _, _, _, _, _]) dX2_readPerson_68 (Nat.le_of_ble_eq_true rfl) rfl rfl ?_
          refine g_iload dX2_readPerson_70 rfl ?_
          refine g_iconst dX2_readPerson_72 ic_m1 ?_
          refine w_icmp_ne (tgt := 78) dX2_readPerson_73 (by decide) ?_ ?_
          · refine g_iconst dX2_readPerson_76 ic_0 ?_
            exact w_iret dX2_readPerson_77 (by decide) rfl
          · refine g_iconst dX2_readPerson_78 ic_0 ?_
            refine g_istore (lo2 := [_, _, _, _, _, _, _, _]) dX2_readPerson_79 (Nat.le_of_ble_eq_true rfl) rfl rfl ?_
            refine g_iconst dX2_readPerson_81 ic_0 ?_
            refine g_istore (lo2 := [_, _, _, _, _, _, _, _]) dX2_readPerson_82 (Nat.le_of_ble_eq_true rfl) rfl rfl ?_
            exact g_to (lk_od_readPerson_84 F bl hbl _ _ _ _ _ _ _) (su_s (su_s (su_s (su_s (su_s (su_s (su_s (su_n su_0))))))))
theorem co_od_readPerson (F : Nat) (bl : Nat) (hbl : g_isLand bl) (μ : g_St) : g_Con gC 3 yX2_readPerson cX2_readPerson 8 (some .boolean) [.ref 1, .ref bl] μ (g_yi (od_readPerson F bl μ)) := g_conOf mc_X2_readPerson.2.2.2.2 (Nat.le_of_ble_eq_true rfl) rfl (g_yi_rk (Or.inr (Or.inl rfl))) (lk_od_readPerson F bl hbl μ)
theorem dX2_readLine_0 : decode cX2_readLine 0 = .ok (.aload_n 0, 1) := by decide +kernel
theorem dX2_readLine_1 : decode cX2_readLine 1 = .ok (.getfield 19, 3) := by decide +kernel
theorem dX2_readLine_4 : decode cX2_readLine 4 = .ok (.tableswitch 114 0 5 #[40, 62, 68, 114, 114, 91], 40) := by decide +kernel
theorem dX2_readLine_44 : decode cX2_readLine 44 = .ok (.aload_n 1, 1) := by decide +kernel
theorem dX2_readLine_45 : decode cX2_readLine 45 = .ok (.getfield 36, 3) := by decide +kernel
theorem dX2_readLine_48 : decode cX2_readLine 48 = .ok (.iconst 5, 1) := by decide +kernel
theorem dX2_readLine_49 : decode cX2_readLine 49 = .ok (.if_icmp .ge 11, 3) := by decide +kernel
theorem dX2_readLine_52 : decode cX2_readLine 52 = .ok (.aload_n 0, 1) := by decide +kernel
theorem dX2_readLine_53 : decode cX2_readLine 53 = .ok (.aload_n 1, 1) := by decide +kernel
theorem dX2_readLine_54 : decode cX2_readLine 54 = .ok (.invokestatic 39, 3) := by decide +kernel
theorem dX2_readLine_57 : decode cX2_readLine 57 = .ok (.goto 8, 3) := by decide +kernel
theorem dX2_readLine_60 : decode cX2_readLine 60 = .ok (.aload_n 0, 1) := by decide +kernel
theorem dX2_readLine_61 : decode cX2_readLine 61 = .ok (.iconst 5, 1) := by decide +kernel
theorem dX2_readLine_62 : decode cX2_readLine 62 = .ok (.invokevirtual 42, 3) := by decide +kernel
theorem dX2_readLine_65 : decode cX2_readLine 65 = .ok (.ireturn, 1) := by decide +kernel
theorem dX2_readLine_66 : decode cX2_readLine 66 = .ok (.aload_n 0, 1) := by decide +kernel
theorem dX2_readLine_67 : decode cX2_readLine 67 = .ok (.aload_n 1, 1) := by decide +kernel
theorem dX2_readLine_68 : decode cX2_readLine 68 = .ok (.invokestatic 46, 3) := by decide +kernel
theorem dX2_readLine_71 : decode cX2_readLine 71 = .ok (.ireturn, 1) := by decide +kernel
theorem dX2_readLine_72 : decode cX2_readLine 72 = .ok (.aload_n 1, 1) := by decide +kernel
theorem dX2_readLine_73 : decode cX2_readLine 73 = .ok (.getfield 49, 3) := by decide +kernel
theorem dX2_readLine_76 : decode cX2_readLine 76 = .ok (.bipush 6, 2) := by decide +kernel
theorem dX2_readLine_78 : decode cX2_readLine 78 = .ok (.if_icmp .ge 11, 3) := by decide +kernel
theorem dX2_readLine_81 : decode cX2_readLine 81 = .ok (.aload_n 0, 1) := by decide +kernel
theorem dX2_readLine_82 : decode cX2_readLine 82 = .ok (.aload_n 1, 1) := by decide +kernel
theorem dX2_readLine_83 : decode cX2_readLine 83 = .ok (.invokestatic 52, 3) := by decide +kernel
theorem dX2_readLine_86 : decode cX2_readLine 86 = .ok (.goto 8, 3) := by decide +kernel
theorem dX2_readLine_89 : decode cX2_readLine 89 = .ok (.aload_n 0, 1) := by decide +kernel
theorem dX2_readLine_90 : decode cX2_readLine 90 = .ok (.iconst 5, 1) := by decide +kernel
theorem dX2_readLine_91 : decode cX2_readLine 91 = .ok (.invokevirtual 42, 3) := by decide +kernel
theorem dX2_readLine_94 : decode cX2_readLine 94 = .ok (.ireturn, 1) := by decide +kernel
theorem dX2_readLine_95 : decode cX2_readLine 95 = .ok (.aload_n 1, 1) := by decide +kernel
theorem dX2_readLine_96 : decode cX2_readLine 96 = .ok (.getfield 55, 3) := by decide +kernel
theorem dX2_readLine_99 : decode cX2_readLine 99 = .ok (.bipush 8, 2) := by decide +kernel
theorem dX2_readLine_101 : decode cX2_readLine 101 = .ok (.if_icmp .ge 11, 3) := by decide +kernel
theorem dX2_readLine_104 : decode cX2_readLine 104 = .ok (.aload_n 0, 1) := by decide +kernel
theorem dX2_readLine_105 : decode cX2_readLine 105 = .ok (.aload_n 1, 1) := by decide +kernel
theorem dX2_readLine_106 : decode cX2_readLine 106 = .ok (.invokestatic 58, 3) := by decide +kernel
theorem dX2_readLine_109 : decode cX2_readLine 109 = .ok (.goto 8, 3) := by decide +kernel
theorem dX2_readLine_112 : decode cX2_readLine 112 = .ok (.aload_n 0, 1) := by decide +kernel
theorem dX2_readLine_113 : decode cX2_readLine 113 = .ok (.iconst 5, 1) := by decide +kernel
theorem dX2_readLine_114 : decode cX2_readLine 114 = .ok (.invokevirtual 42, 3) := by decide +kernel
theorem dX2_readLine_117 : decode cX2_readLine 117 = .ok (.ireturn, 1) := by decide +kernel
theorem dX2_readLine_118 : decode cX2_readLine 118 = .ok (.aload_n 0, 1) := by decide +kernel
theorem dX2_readLine_119 : decode cX2_readLine 119 = .ok (.iconst 1, 1) := by decide +kernel
theorem dX2_readLine_120 : decode cX2_readLine 120 = .ok (.invokevirtual 42, 3) := by decide +kernel
theorem dX2_readLine_123 : decode cX2_readLine 123 = .ok (.ireturn, 1) := by decide +kernel
theorem lk_od_readLine (F : Nat) (bl : Nat) (hbl : g_isLand bl) (μ : g_St) : g_Go gC 4 yX2_readLine cX2_readLine 2 (some .boolean) 0 [some (.ref 1), some (.ref bl)] [] μ (Option.map o_yi (od_readLine F bl μ)) := by
  unfold od_readLine
  refine g_aload_n dX2_readLine_0 rfl rfl ?_
  refine g_getI dX2_readLine_1 cf_X6 fl_X2_19 ly_Tape_lt ly_Tape rfl (Nat.le_of_ble_eq_true rfl) ?_
  refine w_ite (fun h3 => ?_) (fun h3 => ?_)
  · refine w_tin (tgt := 44) (0 : Int32) h3 dX2_readLine_4 ⟨40, by decide⟩ ?_
    refine g_aload_n dX2_readLine_44 rfl rfl ?_
    refine g_getI dX2_readLine_45 cf_X1 fl_X2_36 (ly_Land_lt hbl) (ly_Land hbl) rfl (Nat.le_of_ble_eq_true rfl) ?_
    refine g_iconst dX2_readLine_48 ic_5 ?_
    refine w_icmp_ge (tgt := 60) dX2_readLine_49 (by decide) ?_ ?_
    · refine g_aload_n dX2_readLine_52 rfl rfl ?_
      refine g_aload_n dX2_readLine_53 rfl rfl ?_
      refine w_Syi [.ref _, .ref _] dX2_readLine_54 ml_X2_39 ms_X2_readPlace mc_X2_readPlace rfl (Nat.le_of_ble_eq_true rfl) (Nat.le_of_ble_eq_true rfl) (Nat.le_of_ble_eq_true rfl) rfl (co_od_readPlace F _ hbl _) (fun q1 => ?_)
      refine g_goto (tgt := 65) dX2_readLine_57 (by decide) ?_
      exact w_zret dX2_readLine_65 rfl rfl
    · refine g_aload_n dX2_readLine_60 rfl rfl ?_
      refine g_iconst dX2_readLine_61 ic_5 ?_
      refine w_Vyi [.int _] dX2_readLine_62 ml_X2_42 mv_X6_wrong mc_X6_wrong cf_X6 ly_Tape_lt ly_Tape rfl (Nat.le_of_ble_eq_true rfl) (Nat.le_of_ble_eq_true rfl) (Nat.le_of_ble_eq_true rfl) rfl (co_ot_wrong _ _) (fun q2 => ?_)
      exact w_zret dX2_readLine_65 rfl rfl
  refine w_ite (fun h5 => ?_) (fun h5 => ?_)
  · refine w_tin (tgt := 66) (1 : Int32) h5 dX2_readLine_4 ⟨62, by decide⟩ ?_
    refine g_aload_n dX2_readLine_66 rfl rfl ?_
    refine g_aload_n dX2_readLine_67 rfl rfl ?_
    refine w_Syi [.ref _, .ref _] dX2_readLine_68 ml_X2_46 ms_X2_readWay mc_X2_readWay rfl (Nat.le_of_ble_eq_true rfl) (Nat.le_of_ble_eq_true rfl) (Nat.le_of_ble_eq_true rfl) rfl (co_od_readWay F _ hbl _) (fun q4 => ?_)
    exact w_zret dX2_readLine_71 rfl rfl
  refine w_ite (fun h8 => ?_) (fun h8 => ?_)
  · refine w_tin (tgt := 72) (2 : Int32) h8 dX2_readLine_4 ⟨68, by decide⟩ ?_
    refine g_aload_n dX2_readLine_72 rfl rfl ?_
    refine g_getI dX2_readLine_73 cf_X1 fl_X2_49 (ly_Land_lt hbl) (ly_Land hbl) rfl (Nat.le_of_ble_eq_true rfl) ?_
    refine g_bipush dX2_readLine_76 bp_6 ?_
    refine w_icmp_ge (tgt := 89) dX2_readLine_78 (by decide) ?_ ?_
    · refine g_aload_n dX2_readLine_81 rfl rfl ?_
      refine g_aload_n dX2_readLine_82 rfl rfl ?_
      refine w_Syi [.ref _, .ref _] dX2_readLine_83 ml_X2_52 ms_X2_readGood mc_X2_readGood rfl (Nat.le_of_ble_eq_true rfl) (Nat.le_of_ble_eq_true rfl) (Nat.le_of_ble_eq_true rfl) rfl (co_od_readGood F _ hbl _) (fun q6 => ?_)
      refine g_goto (tgt := 94) dX2_readLine_86 (by decide) ?_
      exact w_zret dX2_readLine_94 rfl rfl
    · refine g_aload_n dX2_readLine_89 rfl rfl ?_
      refine g_iconst dX2_readLine_90 ic_5 ?_
      refine w_Vyi [.int _] dX2_readLine_91 ml_X2_42 mv_X6_wrong mc_X6_wrong cf_X6 ly_Tape_lt ly_Tape rfl (Nat.le_of_ble_eq_true rfl) (Nat.le_of_ble_eq_true rfl) (Nat.le_of_ble_eq_true rfl) rfl (co_ot_wrong _ _) (fun q7 => ?_)
      exact w_zret dX2_readLine_94 rfl rfl
  refine w_ite (fun h10 => ?_) (fun h10 => ?_)
  · refine w_tin (tgt := 118) (3 : Int32) h10 dX2_readLine_4 ⟨114, by decide⟩ ?_
    refine g_aload_n dX2_readLine_118 rfl rfl ?_
    refine g_iconst dX2_readLine_119 ic_1 ?_
    refine w_Vyi [.int _] dX2_readLine_120 ml_X2_42 mv_X6_wrong mc_X6_wrong cf_X6 ly_Tape_lt ly_Tape rfl (Nat.le_of_ble_eq_true rfl) (Nat.le_of_ble_eq_true rfl) (Nat.le_of_ble_eq_true rfl) rfl (co_ot_wrong _ _) (fun q9 => ?_)
    exact w_zret dX2_readLine_123 rfl rfl
  refine w_ite (fun h12 => ?_) (fun h12 => ?_)
  · refine w_tin (tgt := 118) (4 : Int32) h12 dX2_readLine_4 ⟨114, by decide⟩ ?_
    refine g_aload_n dX2_readLine_118 rfl rfl ?_
    refine g_iconst dX2_readLine_119 ic_1 ?_
    refine w_Vyi [.int _] dX2_readLine_120 ml_X2_42 mv_X6_wrong mc_X6_wrong cf_X6 ly_Tape_lt ly_Tape rfl (Nat.le_of_ble_eq_true rfl) (Nat.le_of_ble_eq_true rfl) (Nat.le_of_ble_eq_true rfl) rfl (co_ot_wrong _ _) (fun q11 => ?_)
    exact w_zret dX2_readLine_123 rfl rfl
  refine w_ite (fun h15 => ?_) (fun h15 => ?_)
  · refine w_tin (tgt := 95) (5 : Int32) h15 dX2_readLine_4 ⟨91, by decide⟩ ?_
    refine g_aload_n dX2_readLine_95 rfl rfl ?_
    refine g_getI dX2_readLine_96 cf_X1 fl_X2_55 (ly_Land_lt hbl) (ly_Land hbl) rfl (Nat.le_of_ble_eq_true rfl) ?_
    refine g_bipush dX2_readLine_99 bp_8 ?_
    refine w_icmp_ge (tgt := 112) dX2_readLine_101 (by decide) ?_ ?_
    · refine g_aload_n dX2_readLine_104 rfl rfl ?_
      refine g_aload_n dX2_readLine_105 rfl rfl ?_
      refine w_Syi [.ref _, .ref _] dX2_readLine_106 ml_X2_58 ms_X2_readPerson mc_X2_readPerson rfl (Nat.le_of_ble_eq_true rfl) (Nat.le_of_ble_eq_true rfl) (Nat.le_of_ble_eq_true rfl) rfl (co_od_readPerson F _ hbl _) (fun q13 => ?_)
      refine g_goto (tgt := 117) dX2_readLine_109 (by decide) ?_
      exact w_zret dX2_readLine_117 rfl rfl
    · refine g_aload_n dX2_readLine_112 rfl rfl ?_
      refine g_iconst dX2_readLine_113 ic_5 ?_
      refine w_Vyi [.int _] dX2_readLine_114 ml_X2_42 mv_X6_wrong mc_X6_wrong cf_X6 ly_Tape_lt ly_Tape rfl (Nat.le_of_ble_eq_true rfl) (Nat.le_of_ble_eq_true rfl) (Nat.le_of_ble_eq_true rfl) rfl (co_ot_wrong _ _) (fun q14 => ?_)
      exact w_zret dX2_readLine_117 rfl rfl
  refine w_tout (tgt := 118) dX2_readLine_4 (by have qh3 := g_neT (n := 0) h3 (by decide); have qh5 := g_neT (n := 1) h5 (by decide); have qh8 := g_neT (n := 2) h8 (by decide); have qh10 := g_neT (n := 3) h10 (by decide); have qh12 := g_neT (n := 4) h12 (by decide); have qh15 := g_neT (n := 5) h15 (by decide); omega) (by decide) ?_
  refine g_aload_n dX2_readLine_118 rfl rfl ?_
  refine g_iconst dX2_readLine_119 ic_1 ?_
  refine w_Vyi [.int _] dX2_readLine_120 ml_X2_42 mv_X6_wrong mc_X6_wrong cf_X6 ly_Tape_lt ly_Tape rfl (Nat.le_of_ble_eq_true rfl) (Nat.le_of_ble_eq_true rfl) (Nat.le_of_ble_eq_true rfl) rfl (co_ot_wrong _ _) (fun q16 => ?_)
  exact w_zret dX2_readLine_123 rfl rfl
theorem co_od_readLine (F : Nat) (bl : Nat) (hbl : g_isLand bl) (μ : g_St) : g_Con gC 4 yX2_readLine cX2_readLine 2 (some .boolean) [.ref 1, .ref bl] μ (g_yi (od_readLine F bl μ)) := g_conOf mc_X2_readLine.2.2.2.2 (Nat.le_of_ble_eq_true rfl) rfl (g_yi_rk (Or.inr (Or.inl rfl))) (lk_od_readLine F bl hbl μ)
theorem dX2_read_0 : decode cX2_read 0 = .ok (.aload_n 1, 1) := by decide +kernel
theorem dX2_read_1 : decode cX2_read 1 = .ok (.invokevirtual 9, 3) := by decide +kernel
theorem dX2_read_4 : decode cX2_read 4 = .ok (.aload_n 0, 1) := by decide +kernel
theorem dX2_read_5 : decode cX2_read 5 = .ok (.invokevirtual 14, 3) := by decide +kernel
theorem dX2_read_8 : decode cX2_read 8 = .ok (.iconst 0, 1) := by decide +kernel
theorem dX2_read_9 : decode cX2_read 9 = .ok (.istore_n 2, 1) := by decide +kernel
theorem dX2_read_10 : decode cX2_read 10 = .ok (.iload_n 2, 1) := by decide +kernel
theorem dX2_read_11 : decode cX2_read 11 = .ok (.sipush 1000, 3) := by decide +kernel
theorem dX2_read_14 : decode cX2_read 14 = .ok (.if_icmp .ge 30, 3) := by decide +kernel
theorem dX2_read_17 : decode cX2_read 17 = .ok (.aload_n 0, 1) := by decide +kernel
theorem dX2_read_18 : decode cX2_read 18 = .ok (.getfield 19, 3) := by decide +kernel
theorem dX2_read_21 : decode cX2_read 21 = .ok (.sipush 202, 3) := by decide +kernel
theorem dX2_read_24 : decode cX2_read 24 = .ok (.if_icmp .eq 20, 3) := by decide +kernel
theorem dX2_read_27 : decode cX2_read 27 = .ok (.aload_n 0, 1) := by decide +kernel
theorem dX2_read_28 : decode cX2_read 28 = .ok (.aload_n 1, 1) := by decide +kernel
theorem dX2_read_29 : decode cX2_read 29 = .ok (.invokestatic 23, 3) := by decide +kernel
theorem dX2_read_32 : decode cX2_read 32 = .ok (.ifCond .ne 6, 3) := by decide +kernel
theorem dX2_read_35 : decode cX2_read 35 = .ok (.goto 9, 3) := by decide +kernel
theorem dX2_read_38 : decode cX2_read 38 = .ok (.iinc 2 1, 3) := by decide +kernel
theorem dX2_read_41 : decode cX2_read 41 = .ok (.goto (-31), 3) := by decide +kernel
theorem dX2_read_44 : decode cX2_read 44 = .ok (.aload_n 1, 1) := by decide +kernel
theorem dX2_read_45 : decode cX2_read 45 = .ok (.invokevirtual 29, 3) := by decide +kernel
theorem dX2_read_48 : decode cX2_read 48 = .ok (.aload_n 0, 1) := by decide +kernel
theorem dX2_read_49 : decode cX2_read 49 = .ok (.invokevirtual 32, 3) := by decide +kernel
theorem dX2_read_52 : decode cX2_read 52 = .ok (.ireturn, 1) := by decide +kernel
theorem lk_od_read_44 (F : Nat) (bl : Nat) (hbl : g_isLand bl) (μ : g_St) : g_Go gC 6 yX2_read cX2_read 3 (some .int) 44 [some (.ref 1), some (.ref bl), none] [] μ (Option.map o_yi (od_read_44 F bl μ)) := by
  unfold od_read_44
  refine g_aload_n dX2_read_44 rfl rfl ?_
  refine w_Vyv [] dX2_read_45 ml_X2_29 mv_X1_shortenWays mc_X1_shortenWays cf_X1 (ly_Land_lt hbl) (ly_Land hbl) rfl (Nat.le_of_ble_eq_true rfl) (Nat.le_of_ble_eq_true rfl) (Nat.le_of_ble_eq_true rfl) rfl (co_ol_shortenWays F _ hbl _) (fun μ4 => ?_)
  refine g_aload_n dX2_read_48 rfl rfl ?_
  refine w_Vyi [] dX2_read_49 ml_X2_32 mv_X6_close mc_X6_close cf_X6 ly_Tape_lt ly_Tape rfl (Nat.le_of_ble_eq_true rfl) (Nat.le_of_ble_eq_true rfl) (Nat.le_of_ble_eq_true rfl) rfl (co_ot_close _) (fun q5 => ?_)
  exact w_iret dX2_read_52 rfl rfl
theorem lk_od_read_10_b (F : Nat) (bl : Nat) (hbl : g_isLand bl) (K_10 : Int32 → g_St → Option (Int32 × g_St)) (hK_10 : ∀ (w2 : Int32) (ν : g_St), g_Go gC 6 yX2_read cX2_read 3 (some .int) 10 [some (.ref 1), some (.ref bl), some (.int w2)] [] ν (Option.map o_yi (K_10 w2 ν))) (v2 : Int32) (μ : g_St) : g_Go gC 6 yX2_read cX2_read 3 (some .int) 10 [some (.ref 1), some (.ref bl), some (.int v2)] [] μ (Option.map o_yi (od_read_10_b F bl K_10 v2 μ)) := by
  unfold od_read_10_b
  refine g_iload_n dX2_read_10 rfl rfl ?_
  refine g_sipush dX2_read_11 sp_1000 ?_
  refine w_icmp_ge (tgt := 44) dX2_read_14 (by decide) ?_ ?_
  · refine g_aload_n dX2_read_17 rfl rfl ?_
    refine g_getI dX2_read_18 cf_X6 fl_X2_19 ly_Tape_lt ly_Tape rfl (Nat.le_of_ble_eq_true rfl) ?_
    refine g_sipush dX2_read_21 sp_202 ?_
    refine w_icmp_eq (tgt := 44) dX2_read_24 (by decide) ?_ ?_
    · exact g_to (lk_od_read_44 F bl hbl _) (su_s (su_s (su_n su_0)))
    · refine g_aload_n dX2_read_27 rfl rfl ?_
      refine g_aload_n dX2_read_28 rfl rfl ?_
      refine w_Syi [.ref _, .ref _] dX2_read_29 ml_X2_23 ms_X2_readLine mc_X2_readLine rfl (Nat.le_of_ble_eq_true rfl) (Nat.le_of_ble_eq_true rfl) (Nat.le_of_ble_eq_true rfl) rfl (co_od_readLine F _ hbl _) (fun q3 => ?_)
      refine w_if_ne (tgt := 38) dX2_read_32 (by decide) ?_ ?_
      · refine g_goto (tgt := 44) dX2_read_35 (by decide) ?_
        exact g_to (lk_od_read_44 F bl hbl _) (su_s (su_s (su_n su_0)))
      · refine g_iinc (lo2 := [_, _, _]) dX2_read_38 rfl rfl (Nat.le_of_ble_eq_true rfl) rfl rfl ?_
        refine g_goto (tgt := 10) dX2_read_41 (by decide) ?_
        exact g_to (hK_10 _ _) (su_s (su_s (su_s su_0)))
  · exact g_to (lk_od_read_44 F bl hbl _) (su_s (su_s (su_n su_0)))
theorem lk_od_read_10 (F : Nat) (bl : Nat) (hbl : g_isLand bl) : ∀ (f : Nat) (v2 : Int32) (μ : g_St) , g_Go gC 6 yX2_read cX2_read 3 (some .int) 10 [some (.ref 1), some (.ref bl), some (.int v2)] [] μ (Option.map o_yi (od_read_10 F bl f v2 μ))
  | 0, v2, μ => g_none
  | f + 1, v2, μ => lk_od_read_10_b F bl hbl (od_read_10 F bl f) (lk_od_read_10 F bl hbl f) v2 μ
theorem lk_od_read (F : Nat) (bl : Nat) (hbl : g_isLand bl) (μ : g_St) : g_Go gC 6 yX2_read cX2_read 3 (some .int) 0 [some (.ref 1), some (.ref bl), none] [] μ (Option.map o_yi (od_read F bl μ)) := by
  unfold od_read
  refine g_aload_n dX2_read_0 rfl rfl ?_
  refine w_Vyv [] dX2_read_1 ml_X2_9 mv_X1_clear mc_X1_clear cf_X1 (ly_Land_lt hbl) (ly_Land hbl) rfl (Nat.le_of_ble_eq_true rfl) (Nat.le_of_ble_eq_true rfl) (Nat.le_of_ble_eq_true rfl) rfl (co_ol_clear F _ hbl _) (fun μ1 => ?_)
  refine g_aload_n dX2_read_4 rfl rfl ?_
  refine w_Vyv [] dX2_read_5 ml_X2_14 mv_X6_open mc_X6_open cf_X6 ly_Tape_lt ly_Tape rfl (Nat.le_of_ble_eq_true rfl) (Nat.le_of_ble_eq_true rfl) (Nat.le_of_ble_eq_true rfl) rfl (co_ot_open F _) (fun μ2 => ?_)
  refine g_iconst dX2_read_8 ic_0 ?_
  refine g_istore_n (lo2 := [_, _, _]) dX2_read_9 rfl (Nat.le_of_ble_eq_true rfl) rfl rfl ?_
  exact g_to (lk_od_read_10 F bl hbl _ _ _) (su_s (su_s (su_s su_0)))
theorem co_od_read (F : Nat) (bl : Nat) (hbl : g_isLand bl) (μ : g_St) : g_Con gC 6 yX2_read cX2_read 3 (some .int) [.ref 1, .ref bl] μ (g_yi (od_read F bl μ)) := g_conOf mc_X2_read.2.2.2.2 (Nat.le_of_ble_eq_true rfl) rfl (g_yi_rk (Or.inl rfl)) (lk_od_read F bl hbl μ)
theorem dX5_isFact_0 : decode cX5_isFact 0 = .ok (.iload_n 0, 1) := by decide +kernel
theorem dX5_isFact_1 : decode cX5_isFact 1 = .ok (.iconst 2, 1) := by decide +kernel
theorem dX5_isFact_2 : decode cX5_isFact 2 = .ok (.if_icmp .eq 20, 3) := by decide +kernel
theorem dX5_isFact_5 : decode cX5_isFact 5 = .ok (.iload_n 0, 1) := by decide +kernel
theorem dX5_isFact_6 : decode cX5_isFact 6 = .ok (.iconst 3, 1) := by decide +kernel
theorem dX5_isFact_7 : decode cX5_isFact 7 = .ok (.if_icmp .eq 15, 3) := by decide +kernel
theorem dX5_isFact_10 : decode cX5_isFact 10 = .ok (.iload_n 0, 1) := by decide +kernel
theorem dX5_isFact_11 : decode cX5_isFact 11 = .ok (.bipush 14, 2) := by decide +kernel
theorem dX5_isFact_13 : decode cX5_isFact 13 = .ok (.if_icmp .lt 13, 3) := by decide +kernel
theorem dX5_isFact_16 : decode cX5_isFact 16 = .ok (.iload_n 0, 1) := by decide +kernel
theorem dX5_isFact_17 : decode cX5_isFact 17 = .ok (.bipush 20, 2) := by decide +kernel
theorem dX5_isFact_19 : decode cX5_isFact 19 = .ok (.if_icmp .ge 7, 3) := by decide +kernel
theorem dX5_isFact_22 : decode cX5_isFact 22 = .ok (.iconst 1, 1) := by decide +kernel
theorem dX5_isFact_23 : decode cX5_isFact 23 = .ok (.goto 4, 3) := by decide +kernel
theorem dX5_isFact_26 : decode cX5_isFact 26 = .ok (.iconst 0, 1) := by decide +kernel
theorem dX5_isFact_27 : decode cX5_isFact 27 = .ok (.ireturn, 1) := by decide +kernel
theorem lk_oe_isFact (μ : g_St) (v0 : Int32) : g_Go gC 0 yX5_isFact cX5_isFact 1 (some .boolean) 0 [some (.int v0)] [] μ (Option.map (o_i μ) (oe_isFact μ v0)) := by
  unfold oe_isFact
  refine g_iload_n dX5_isFact_0 rfl rfl ?_
  refine g_iconst dX5_isFact_1 ic_2 ?_
  refine w_icmp_eq (tgt := 22) dX5_isFact_2 (by decide) ?_ ?_
  · refine g_iconst dX5_isFact_22 ic_1 ?_
    refine g_goto (tgt := 27) dX5_isFact_23 (by decide) ?_
    exact w_iret dX5_isFact_27 (by decide) rfl
  · refine g_iload_n dX5_isFact_5 rfl rfl ?_
    refine g_iconst dX5_isFact_6 ic_3 ?_
    refine w_icmp_eq (tgt := 22) dX5_isFact_7 (by decide) ?_ ?_
    · refine g_iconst dX5_isFact_22 ic_1 ?_
      refine g_goto (tgt := 27) dX5_isFact_23 (by decide) ?_
      exact w_iret dX5_isFact_27 (by decide) rfl
    · refine g_iload_n dX5_isFact_10 rfl rfl ?_
      refine g_bipush dX5_isFact_11 bp_14 ?_
      refine w_icmp_lt (tgt := 26) dX5_isFact_13 (by decide) ?_ ?_
      · refine g_iload_n dX5_isFact_16 rfl rfl ?_
        refine g_bipush dX5_isFact_17 bp_20 ?_
        refine w_icmp_ge (tgt := 26) dX5_isFact_19 (by decide) ?_ ?_
        · refine g_iconst dX5_isFact_22 ic_1 ?_
          refine g_goto (tgt := 27) dX5_isFact_23 (by decide) ?_
          exact w_iret dX5_isFact_27 (by decide) rfl
        · refine g_iconst dX5_isFact_26 ic_0 ?_
          exact w_iret dX5_isFact_27 (by decide) rfl
      · refine g_iconst dX5_isFact_26 ic_0 ?_
        exact w_iret dX5_isFact_27 (by decide) rfl
theorem co_oe_isFact (μ : g_St) (v0 : Int32) : g_Con gC 0 yX5_isFact cX5_isFact 1 (some .boolean) [.int v0] μ (g_xi μ (oe_isFact μ v0)) := g_conOf mc_X5_isFact.2.2.2.2 (Nat.le_of_ble_eq_true rfl) rfl (g_xi_rk (Or.inr (Or.inl rfl))) (lk_oe_isFact μ v0)
theorem dX5_joins_0 : decode cX5_joins 0 = .ok (.iload_n 1, 1) := by decide +kernel
theorem dX5_joins_1 : decode cX5_joins 1 = .ok (.tableswitch 81 0 2 #[27, 45, 63], 27) := by decide +kernel
theorem dX5_joins_28 : decode cX5_joins 28 = .ok (.iload_n 0, 1) := by decide +kernel
theorem dX5_joins_29 : decode cX5_joins 29 = .ok (.bipush 11, 2) := by decide +kernel
theorem dX5_joins_31 : decode cX5_joins 31 = .ok (.if_icmp .eq 9, 3) := by decide +kernel
theorem dX5_joins_34 : decode cX5_joins 34 = .ok (.iload_n 0, 1) := by decide +kernel
theorem dX5_joins_35 : decode cX5_joins 35 = .ok (.bipush 12, 2) := by decide +kernel
theorem dX5_joins_37 : decode cX5_joins 37 = .ok (.if_icmp .ne 7, 3) := by decide +kernel
theorem dX5_joins_40 : decode cX5_joins 40 = .ok (.iconst 1, 1) := by decide +kernel
theorem dX5_joins_41 : decode cX5_joins 41 = .ok (.goto 4, 3) := by decide +kernel
theorem dX5_joins_44 : decode cX5_joins 44 = .ok (.iconst 0, 1) := by decide +kernel
theorem dX5_joins_45 : decode cX5_joins 45 = .ok (.ireturn, 1) := by decide +kernel
theorem dX5_joins_46 : decode cX5_joins 46 = .ok (.iload_n 0, 1) := by decide +kernel
theorem dX5_joins_47 : decode cX5_joins 47 = .ok (.bipush 60, 2) := by decide +kernel
theorem dX5_joins_49 : decode cX5_joins 49 = .ok (.if_icmp .eq 9, 3) := by decide +kernel
theorem dX5_joins_52 : decode cX5_joins 52 = .ok (.iload_n 0, 1) := by decide +kernel
theorem dX5_joins_53 : decode cX5_joins 53 = .ok (.bipush 61, 2) := by decide +kernel
theorem dX5_joins_55 : decode cX5_joins 55 = .ok (.if_icmp .ne 7, 3) := by decide +kernel
theorem dX5_joins_58 : decode cX5_joins 58 = .ok (.iconst 1, 1) := by decide +kernel
theorem dX5_joins_59 : decode cX5_joins 59 = .ok (.goto 4, 3) := by decide +kernel
theorem dX5_joins_62 : decode cX5_joins 62 = .ok (.iconst 0, 1) := by decide +kernel
theorem dX5_joins_63 : decode cX5_joins 63 = .ok (.ireturn, 1) := by decide +kernel
theorem dX5_joins_64 : decode cX5_joins 64 = .ok (.iload_n 0, 1) := by decide +kernel
theorem dX5_joins_65 : decode cX5_joins 65 = .ok (.bipush 43, 2) := by decide +kernel
theorem dX5_joins_67 : decode cX5_joins 67 = .ok (.if_icmp .eq 9, 3) := by decide +kernel
theorem dX5_joins_70 : decode cX5_joins 70 = .ok (.iload_n 0, 1) := by decide +kernel
theorem dX5_joins_71 : decode cX5_joins 71 = .ok (.bipush 45, 2) := by decide +kernel
theorem dX5_joins_73 : decode cX5_joins 73 = .ok (.if_icmp .ne 7, 3) := by decide +kernel
theorem dX5_joins_76 : decode cX5_joins 76 = .ok (.iconst 1, 1) := by decide +kernel
theorem dX5_joins_77 : decode cX5_joins 77 = .ok (.goto 4, 3) := by decide +kernel
theorem dX5_joins_80 : decode cX5_joins 80 = .ok (.iconst 0, 1) := by decide +kernel
theorem dX5_joins_81 : decode cX5_joins 81 = .ok (.ireturn, 1) := by decide +kernel
theorem dX5_joins_82 : decode cX5_joins 82 = .ok (.iload_n 0, 1) := by decide +kernel
theorem dX5_joins_83 : decode cX5_joins 83 = .ok (.bipush 42, 2) := by decide +kernel
theorem dX5_joins_85 : decode cX5_joins 85 = .ok (.if_icmp .ne 7, 3) := by decide +kernel
theorem dX5_joins_88 : decode cX5_joins 88 = .ok (.iconst 1, 1) := by decide +kernel
theorem dX5_joins_89 : decode cX5_joins 89 = .ok (.goto 4, 3) := by decide +kernel
theorem dX5_joins_92 : decode cX5_joins 92 = .ok (.iconst 0, 1) := by decide +kernel
theorem dX5_joins_93 : decode cX5_joins 93 = .ok (.ireturn, 1) := by decide +kernel
theorem lk_oe_joins (μ : g_St) (v0 : Int32) (v1 : Int32) : g_Go gC 0 yX5_joins cX5_joins 2 (some .boolean) 0 [some (.int v0), some (.int v1)] [] μ (Option.map (o_i μ) (oe_joins μ v0 v1)) := by
  unfold oe_joins
  refine g_iload_n dX5_joins_0 rfl rfl ?_
  refine w_ite (fun h1 => ?_) (fun h1 => ?_)
  · refine w_tin (tgt := 28) (0 : Int32) h1 dX5_joins_1 ⟨27, by decide⟩ ?_
    refine g_iload_n dX5_joins_28 rfl rfl ?_
    refine g_bipush dX5_joins_29 bp_11 ?_
    refine w_icmp_eq (tgt := 40) dX5_joins_31 (by decide) ?_ ?_
    · refine g_iconst dX5_joins_40 ic_1 ?_
      refine g_goto (tgt := 45) dX5_joins_41 (by decide) ?_
      exact w_iret dX5_joins_45 (by decide) rfl
    · refine g_iload_n dX5_joins_34 rfl rfl ?_
      refine g_bipush dX5_joins_35 bp_12 ?_
      refine w_icmp_ne (tgt := 44) dX5_joins_37 (by decide) ?_ ?_
      · refine g_iconst dX5_joins_40 ic_1 ?_
        refine g_goto (tgt := 45) dX5_joins_41 (by decide) ?_
        exact w_iret dX5_joins_45 (by decide) rfl
      · refine g_iconst dX5_joins_44 ic_0 ?_
        exact w_iret dX5_joins_45 (by decide) rfl
  refine w_ite (fun h2 => ?_) (fun h2 => ?_)
  · refine w_tin (tgt := 46) (1 : Int32) h2 dX5_joins_1 ⟨45, by decide⟩ ?_
    refine g_iload_n dX5_joins_46 rfl rfl ?_
    refine g_bipush dX5_joins_47 bp_60 ?_
    refine w_icmp_eq (tgt := 58) dX5_joins_49 (by decide) ?_ ?_
    · refine g_iconst dX5_joins_58 ic_1 ?_
      refine g_goto (tgt := 63) dX5_joins_59 (by decide) ?_
      exact w_iret dX5_joins_63 (by decide) rfl
    · refine g_iload_n dX5_joins_52 rfl rfl ?_
      refine g_bipush dX5_joins_53 bp_61 ?_
      refine w_icmp_ne (tgt := 62) dX5_joins_55 (by decide) ?_ ?_
      · refine g_iconst dX5_joins_58 ic_1 ?_
        refine g_goto (tgt := 63) dX5_joins_59 (by decide) ?_
        exact w_iret dX5_joins_63 (by decide) rfl
      · refine g_iconst dX5_joins_62 ic_0 ?_
        exact w_iret dX5_joins_63 (by decide) rfl
  refine w_ite (fun h3 => ?_) (fun h3 => ?_)
  · refine w_tin (tgt := 64) (2 : Int32) h3 dX5_joins_1 ⟨63, by decide⟩ ?_
    refine g_iload_n dX5_joins_64 rfl rfl ?_
    refine g_bipush dX5_joins_65 bp_43 ?_
    refine w_icmp_eq (tgt := 76) dX5_joins_67 (by decide) ?_ ?_
    · refine g_iconst dX5_joins_76 ic_1 ?_
      refine g_goto (tgt := 81) dX5_joins_77 (by decide) ?_
      exact w_iret dX5_joins_81 (by decide) rfl
    · refine g_iload_n dX5_joins_70 rfl rfl ?_
      refine g_bipush dX5_joins_71 bp_45 ?_
      refine w_icmp_ne (tgt := 80) dX5_joins_73 (by decide) ?_ ?_
      · refine g_iconst dX5_joins_76 ic_1 ?_
        refine g_goto (tgt := 81) dX5_joins_77 (by decide) ?_
        exact w_iret dX5_joins_81 (by decide) rfl
      · refine g_iconst dX5_joins_80 ic_0 ?_
        exact w_iret dX5_joins_81 (by decide) rfl
  refine w_tout (tgt := 82) dX5_joins_1 (by have qh1 := g_neT (n := 0) h1 (by decide); have qh2 := g_neT (n := 1) h2 (by decide); have qh3 := g_neT (n := 2) h3 (by decide); omega) (by decide) ?_
  refine g_iload_n dX5_joins_82 rfl rfl ?_
  refine g_bipush dX5_joins_83 bp_42 ?_
  refine w_icmp_ne (tgt := 92) dX5_joins_85 (by decide) ?_ ?_
  · refine g_iconst dX5_joins_88 ic_1 ?_
    refine g_goto (tgt := 93) dX5_joins_89 (by decide) ?_
    exact w_iret dX5_joins_93 (by decide) rfl
  · refine g_iconst dX5_joins_92 ic_0 ?_
    exact w_iret dX5_joins_93 (by decide) rfl
theorem co_oe_joins (μ : g_St) (v0 : Int32) (v1 : Int32) : g_Con gC 0 yX5_joins cX5_joins 2 (some .boolean) [.int v0, .int v1] μ (g_xi μ (oe_joins μ v0 v1)) := g_conOf mc_X5_joins.2.2.2.2 (Nat.le_of_ble_eq_true rfl) rfl (g_xi_rk (Or.inr (Or.inl rfl))) (lk_oe_joins μ v0 v1)
theorem dX5_readJoined_0 : decode cX5_readJoined 0 = .ok (.iload_n 2, 1) := by decide +kernel
theorem dX5_readJoined_1 : decode cX5_readJoined 1 = .ok (.iconst 3, 1) := by decide +kernel
theorem dX5_readJoined_2 : decode cX5_readJoined 2 = .ok (.if_icmp .le 10, 3) := by decide +kernel
theorem dX5_readJoined_5 : decode cX5_readJoined 5 = .ok (.aload_n 0, 1) := by decide +kernel
theorem dX5_readJoined_6 : decode cX5_readJoined 6 = .ok (.aload_n 1, 1) := by decide +kernel
theorem dX5_readJoined_7 : decode cX5_readJoined 7 = .ok (.iload_n 3, 1) := by decide +kernel
theorem dX5_readJoined_8 : decode cX5_readJoined 8 = .ok (.invokestatic 50, 3) := by decide +kernel
theorem dX5_readJoined_11 : decode cX5_readJoined 11 = .ok (.ireturn, 1) := by decide +kernel
theorem dX5_readJoined_12 : decode cX5_readJoined 12 = .ok (.aload_n 0, 1) := by decide +kernel
theorem dX5_readJoined_13 : decode cX5_readJoined 13 = .ok (.aload_n 1, 1) := by decide +kernel
theorem dX5_readJoined_14 : decode cX5_readJoined 14 = .ok (.iload_n 2, 1) := by decide +kernel
theorem dX5_readJoined_15 : decode cX5_readJoined 15 = .ok (.iconst 1, 1) := by decide +kernel
theorem dX5_readJoined_16 : decode cX5_readJoined 16 = .ok (.iadd, 1) := by decide +kernel
theorem dX5_readJoined_17 : decode cX5_readJoined 17 = .ok (.iload_n 3, 1) := by decide +kernel
theorem dX5_readJoined_18 : decode cX5_readJoined 18 = .ok (.invokestatic 43, 3) := by decide +kernel
theorem dX5_readJoined_21 : decode cX5_readJoined 21 = .ok (.ifCond .ne 5, 3) := by decide +kernel
theorem dX5_readJoined_24 : decode cX5_readJoined 24 = .ok (.iconst 0, 1) := by decide +kernel
theorem dX5_readJoined_25 : decode cX5_readJoined 25 = .ok (.ireturn, 1) := by decide +kernel
theorem dX5_readJoined_26 : decode cX5_readJoined 26 = .ok (.iload_n 2, 1) := by decide +kernel
theorem dX5_readJoined_27 : decode cX5_readJoined 27 = .ok (.iconst 1, 1) := by decide +kernel
theorem dX5_readJoined_28 : decode cX5_readJoined 28 = .ok (.if_icmp .ne 7, 3) := by decide +kernel
theorem dX5_readJoined_31 : decode cX5_readJoined 31 = .ok (.iconst 1, 1) := by decide +kernel
theorem dX5_readJoined_32 : decode cX5_readJoined 32 = .ok (.goto 6, 3) := by decide +kernel
theorem dX5_readJoined_35 : decode cX5_readJoined 35 = .ok (.sipush 1000, 3) := by decide +kernel
theorem dX5_readJoined_38 : decode cX5_readJoined 38 = .ok (.istore 4, 2) := by decide +kernel
theorem dX5_readJoined_40 : decode cX5_readJoined 40 = .ok (.iconst 0, 1) := by decide +kernel
theorem dX5_readJoined_41 : decode cX5_readJoined 41 = .ok (.istore 5, 2) := by decide +kernel
theorem dX5_readJoined_43 : decode cX5_readJoined 43 = .ok (.iload 5, 2) := by decide +kernel
theorem dX5_readJoined_45 : decode cX5_readJoined 45 = .ok (.iload 4, 2) := by decide +kernel
theorem dX5_readJoined_47 : decode cX5_readJoined 47 = .ok (.if_icmp .ge 54, 3) := by decide +kernel
theorem dX5_readJoined_50 : decode cX5_readJoined 50 = .ok (.aload_n 0, 1) := by decide +kernel
theorem dX5_readJoined_51 : decode cX5_readJoined 51 = .ok (.getfield 19, 3) := by decide +kernel
theorem dX5_readJoined_54 : decode cX5_readJoined 54 = .ok (.iload_n 2, 1) := by decide +kernel
theorem dX5_readJoined_55 : decode cX5_readJoined 55 = .ok (.invokestatic 54, 3) := by decide +kernel
theorem dX5_readJoined_58 : decode cX5_readJoined 58 = .ok (.ifCond .eq 43, 3) := by decide +kernel
theorem dX5_readJoined_61 : decode cX5_readJoined 61 = .ok (.aload_n 0, 1) := by decide +kernel
theorem dX5_readJoined_62 : decode cX5_readJoined 62 = .ok (.getfield 19, 3) := by decide +kernel
theorem dX5_readJoined_65 : decode cX5_readJoined 65 = .ok (.istore 6, 2) := by decide +kernel
theorem dX5_readJoined_67 : decode cX5_readJoined 67 = .ok (.aload_n 0, 1) := by decide +kernel
theorem dX5_readJoined_68 : decode cX5_readJoined 68 = .ok (.invokevirtual 58, 3) := by decide +kernel
theorem dX5_readJoined_71 : decode cX5_readJoined 71 = .ok (.aload_n 0, 1) := by decide +kernel
theorem dX5_readJoined_72 : decode cX5_readJoined 72 = .ok (.aload_n 1, 1) := by decide +kernel
theorem dX5_readJoined_73 : decode cX5_readJoined 73 = .ok (.iload_n 2, 1) := by decide +kernel
theorem dX5_readJoined_74 : decode cX5_readJoined 74 = .ok (.iconst 1, 1) := by decide +kernel
theorem dX5_readJoined_75 : decode cX5_readJoined 75 = .ok (.iadd, 1) := by decide +kernel
theorem dX5_readJoined_76 : decode cX5_readJoined 76 = .ok (.iload_n 3, 1) := by decide +kernel
theorem dX5_readJoined_77 : decode cX5_readJoined 77 = .ok (.invokestatic 43, 3) := by decide +kernel
theorem dX5_readJoined_80 : decode cX5_readJoined 80 = .ok (.ifCond .ne 5, 3) := by decide +kernel
theorem dX5_readJoined_83 : decode cX5_readJoined 83 = .ok (.iconst 0, 1) := by decide +kernel
theorem dX5_readJoined_84 : decode cX5_readJoined 84 = .ok (.ireturn, 1) := by decide +kernel
theorem dX5_readJoined_85 : decode cX5_readJoined 85 = .ok (.aload_n 1, 1) := by decide +kernel
theorem dX5_readJoined_86 : decode cX5_readJoined 86 = .ok (.sipush 20000, 3) := by decide +kernel
theorem dX5_readJoined_89 : decode cX5_readJoined 89 = .ok (.iload 6, 2) := by decide +kernel
theorem dX5_readJoined_91 : decode cX5_readJoined 91 = .ok (.iadd, 1) := by decide +kernel
theorem dX5_readJoined_92 : decode cX5_readJoined 92 = .ok (.invokevirtual 61, 3) := by decide +kernel
theorem dX5_readJoined_95 : decode cX5_readJoined 95 = .ok (.iinc 5 1, 3) := by decide +kernel
theorem dX5_readJoined_98 : decode cX5_readJoined 98 = .ok (.goto (-55), 3) := by decide +kernel
theorem dX5_readJoined_101 : decode cX5_readJoined 101 = .ok (.iconst 1, 1) := by decide +kernel
theorem dX5_readJoined_102 : decode cX5_readJoined 102 = .ok (.ireturn, 1) := by decide +kernel
theorem lk_oe_readJoined_43_b (D : Nat) (F : Nat) (bu : Nat) (hbu : g_isRule bu) (rec : Bool → Int32 → Int32 → g_St → Option (Int32 × g_St)) (hrec1 : ∀ (u v : Int32) (μ : g_St), g_Con gC (2 + D) yX5_readJoined cX5_readJoined 7 (some .boolean) [.ref 1, .ref bu, .int u, .int v] μ (g_yi (rec true u v μ))) (hrec2 : ∀ (u v : Int32) (μ : g_St), g_Con gC (2 + D) yX5_readPart cX5_readPart 6 (some .boolean) [.ref 1, .ref bu, .int v] μ (g_yi (rec false u v μ))) (v2 : Int32) (v3 : Int32) (v4 : Int32) (K_43 : Int32 → g_St → Option (Int32 × g_St)) (hK_43 : ∀ (w5 : Int32) (ν : g_St), g_Go gC (2 + (D + 1)) yX5_readJoined cX5_readJoined 7 (some .boolean) 43 [some (.ref 1), some (.ref bu), some (.int v2), some (.int v3), some (.int v4), some (.int w5), none] [] ν (Option.map o_yi (K_43 w5 ν))) (v5 : Int32) (μ : g_St) : g_Go gC (2 + (D + 1)) yX5_readJoined cX5_readJoined 7 (some .boolean) 43 [some (.ref 1), some (.ref bu), some (.int v2), some (.int v3), some (.int v4), some (.int v5), none] [] μ (Option.map o_yi (oe_readJoined_43_b F bu rec v2 v3 v4 K_43 v5 μ)) := by
  unfold oe_readJoined_43_b
  refine g_iload dX5_readJoined_43 rfl ?_
  refine g_iload dX5_readJoined_45 rfl ?_
  refine w_icmp_ge (tgt := 101) dX5_readJoined_47 (by decide) ?_ ?_
  · refine g_aload_n dX5_readJoined_50 rfl rfl ?_
    refine g_getI dX5_readJoined_51 cf_X6 fl_X5_19 ly_Tape_lt ly_Tape rfl (Nat.le_of_ble_eq_true rfl) ?_
    refine g_iload_n dX5_readJoined_54 rfl rfl ?_
    refine w_Sxi [.int _, .int _] dX5_readJoined_55 ml_X5_54 ms_X5_joins mc_X5_joins rfl (by omega) (Nat.le_of_ble_eq_true rfl) (Nat.le_of_ble_eq_true rfl) rfl (co_oe_joins _ _ _) (fun x3 => ?_)
    refine w_if_eq (tgt := 101) dX5_readJoined_58 (by decide) ?_ ?_
    · refine g_iconst dX5_readJoined_101 ic_1 ?_
      exact w_iret dX5_readJoined_102 (by decide) rfl
    · refine g_aload_n dX5_readJoined_61 rfl rfl ?_
      refine g_getI dX5_readJoined_62 cf_X6 fl_X5_19 ly_Tape_lt ly_Tape rfl (Nat.le_of_ble_eq_true rfl) ?_
      refine g_istore (lo2 := [_, _, _, _, _, _, _]) dX5_readJoined_65 (Nat.le_of_ble_eq_true rfl) rfl rfl ?_
      refine g_aload_n dX5_readJoined_67 rfl rfl ?_
      refine w_Vyv [] dX5_readJoined_68 ml_X5_58 mv_X6_advance mc_X6_advance cf_X6 ly_Tape_lt ly_Tape rfl (by omega) (Nat.le_of_ble_eq_true rfl) (Nat.le_of_ble_eq_true rfl) rfl (co_ot_advance _) (fun μ4 => ?_)
      refine g_aload_n dX5_readJoined_71 rfl rfl ?_
      refine g_aload_n dX5_readJoined_72 rfl rfl ?_
      refine g_iload_n dX5_readJoined_73 rfl rfl ?_
      refine g_iconst dX5_readJoined_74 ic_1 ?_
      refine g_iadd dX5_readJoined_75 ?_
      refine g_iload_n dX5_readJoined_76 rfl rfl ?_
      refine w_Syi [.ref _, .ref _, .int _, .int _] dX5_readJoined_77 ml_X5_43 ms_X5_readJoined mc_X5_readJoined rfl (by omega) (Nat.le_of_ble_eq_true rfl) (Nat.le_of_ble_eq_true rfl) rfl (hrec1 _ _ _) (fun q5 => ?_)
      refine w_if_ne (tgt := 85) dX5_readJoined_80 (by decide) ?_ ?_
      · refine g_iconst dX5_readJoined_83 ic_0 ?_
        exact w_iret dX5_readJoined_84 (by decide) rfl
      · refine g_aload_n dX5_readJoined_85 rfl rfl ?_
        refine g_sipush dX5_readJoined_86 sp_20000 ?_
        refine g_iload dX5_readJoined_89 rfl ?_
        refine g_iadd dX5_readJoined_91 ?_
        refine w_Vyv [.int _] dX5_readJoined_92 ml_X5_61 mv_X4_put mc_X4_put cf_X4 (ly_Rule_lt hbu) (ly_Rule hbu) rfl (by omega) (Nat.le_of_ble_eq_true rfl) (Nat.le_of_ble_eq_true rfl) rfl (co_ou_put _ hbu _ _) (fun μ6 => ?_)
        refine g_iinc (lo2 := [_, _, _, _, _, _, _]) dX5_readJoined_95 rfl rfl (Nat.le_of_ble_eq_true rfl) rfl rfl ?_
        refine g_goto (tgt := 43) dX5_readJoined_98 (by decide) ?_
        exact g_to (hK_43 _ _) (su_s (su_s (su_s (su_s (su_s (su_s (su_n su_0)))))))
  · refine g_iconst dX5_readJoined_101 ic_1 ?_
    exact w_iret dX5_readJoined_102 (by decide) rfl
theorem lk_oe_readJoined_43 (D : Nat) (F : Nat) (bu : Nat) (hbu : g_isRule bu) (rec : Bool → Int32 → Int32 → g_St → Option (Int32 × g_St)) (hrec1 : ∀ (u v : Int32) (μ : g_St), g_Con gC (2 + D) yX5_readJoined cX5_readJoined 7 (some .boolean) [.ref 1, .ref bu, .int u, .int v] μ (g_yi (rec true u v μ))) (hrec2 : ∀ (u v : Int32) (μ : g_St), g_Con gC (2 + D) yX5_readPart cX5_readPart 6 (some .boolean) [.ref 1, .ref bu, .int v] μ (g_yi (rec false u v μ))) (v2 : Int32) (v3 : Int32) (v4 : Int32) : ∀ (f : Nat) (v5 : Int32) (μ : g_St) , g_Go gC (2 + (D + 1)) yX5_readJoined cX5_readJoined 7 (some .boolean) 43 [some (.ref 1), some (.ref bu), some (.int v2), some (.int v3), some (.int v4), some (.int v5), none] [] μ (Option.map o_yi (oe_readJoined_43 F bu rec v2 v3 v4 f v5 μ))
  | 0, v5, μ => g_none
  | f + 1, v5, μ => lk_oe_readJoined_43_b D F bu hbu rec hrec1 hrec2 v2 v3 v4 (oe_readJoined_43 F bu rec v2 v3 v4 f) (lk_oe_readJoined_43 D F bu hbu rec hrec1 hrec2 v2 v3 v4 f) v5 μ
theorem lk_oe_readJoined_b (D : Nat) (F : Nat) (bu : Nat) (hbu : g_isRule bu) (rec : Bool → Int32 → Int32 → g_St → Option (Int32 × g_St)) (hrec1 : ∀ (u v : Int32) (μ : g_St), g_Con gC (2 + D) yX5_readJoined cX5_readJoined 7 (some .boolean) [.ref 1, .ref bu, .int u, .int v] μ (g_yi (rec true u v μ))) (hrec2 : ∀ (u v : Int32) (μ : g_St), g_Con gC (2 + D) yX5_readPart cX5_readPart 6 (some .boolean) [.ref 1, .ref bu, .int v] μ (g_yi (rec false u v μ))) (v2 : Int32) (v3 : Int32) (μ : g_St) : g_Go gC (2 + (D + 1)) yX5_readJoined cX5_readJoined 7 (some .boolean) 0 [some (.ref 1), some (.ref bu), some (.int v2), some (.int v3), none, none, none] [] μ (Option.map o_yi (oe_readJoined_b F bu rec v2 v3 μ)) := by
  unfold oe_readJoined_b
  refine g_iload_n dX5_readJoined_0 rfl rfl ?_
  refine g_iconst dX5_readJoined_1 ic_3 ?_
  refine w_icmp_le (tgt := 12) dX5_readJoined_2 (by decide) ?_ ?_
  · refine g_aload_n dX5_readJoined_5 rfl rfl ?_
    refine g_aload_n dX5_readJoined_6 rfl rfl ?_
    refine g_iload_n dX5_readJoined_7 rfl rfl ?_
    refine w_Syi [.ref _, .ref _, .int _] dX5_readJoined_8 ml_X5_50 ms_X5_readPart mc_X5_readPart rfl (by omega) (Nat.le_of_ble_eq_true rfl) (Nat.le_of_ble_eq_true rfl) rfl (hrec2 0 _ _) (fun q1 => ?_)
    exact w_zret dX5_readJoined_11 rfl rfl
  · refine g_aload_n dX5_readJoined_12 rfl rfl ?_
    refine g_aload_n dX5_readJoined_13 rfl rfl ?_
    refine g_iload_n dX5_readJoined_14 rfl rfl ?_
    refine g_iconst dX5_readJoined_15 ic_1 ?_
    refine g_iadd dX5_readJoined_16 ?_
    refine g_iload_n dX5_readJoined_17 rfl rfl ?_
    refine w_Syi [.ref _, .ref _, .int _, .int _] dX5_readJoined_18 ml_X5_43 ms_X5_readJoined mc_X5_readJoined rfl (by omega) (Nat.le_of_ble_eq_true rfl) (Nat.le_of_ble_eq_true rfl) rfl (hrec1 _ _ _) (fun q2 => ?_)
    refine w_if_ne (tgt := 26) dX5_readJoined_21 (by decide) ?_ ?_
    · refine g_iconst dX5_readJoined_24 ic_0 ?_
      exact w_iret dX5_readJoined_25 (by decide) rfl
    · refine g_iload_n dX5_readJoined_26 rfl rfl ?_
      refine g_iconst dX5_readJoined_27 ic_1 ?_
      refine w_icmp_ne (tgt := 35) dX5_readJoined_28 (by decide) ?_ ?_
      · refine g_iconst dX5_readJoined_31 ic_1 ?_
        refine g_goto (tgt := 38) dX5_readJoined_32 (by decide) ?_
        refine g_istore (lo2 := [_, _, _, _, _, _, _]) dX5_readJoined_38 (Nat.le_of_ble_eq_true rfl) rfl rfl ?_
        refine g_iconst dX5_readJoined_40 ic_0 ?_
        refine g_istore (lo2 := [_, _, _, _, _, _, _]) dX5_readJoined_41 (Nat.le_of_ble_eq_true rfl) rfl rfl ?_
        exact g_to (lk_oe_readJoined_43 D F bu hbu rec hrec1 hrec2 _ _ _ _ _ _) (su_s (su_s (su_s (su_s (su_s (su_s (su_n su_0)))))))
      · refine g_sipush dX5_readJoined_35 sp_1000 ?_
        refine g_istore (lo2 := [_, _, _, _, _, _, _]) dX5_readJoined_38 (Nat.le_of_ble_eq_true rfl) rfl rfl ?_
        refine g_iconst dX5_readJoined_40 ic_0 ?_
        refine g_istore (lo2 := [_, _, _, _, _, _, _]) dX5_readJoined_41 (Nat.le_of_ble_eq_true rfl) rfl rfl ?_
        exact g_to (lk_oe_readJoined_43 D F bu hbu rec hrec1 hrec2 _ _ _ _ _ _) (su_s (su_s (su_s (su_s (su_s (su_s (su_n su_0)))))))
theorem co_oe_readJoined_b (D : Nat) (F : Nat) (bu : Nat) (hbu : g_isRule bu) (rec : Bool → Int32 → Int32 → g_St → Option (Int32 × g_St)) (hrec1 : ∀ (u v : Int32) (μ : g_St), g_Con gC (2 + D) yX5_readJoined cX5_readJoined 7 (some .boolean) [.ref 1, .ref bu, .int u, .int v] μ (g_yi (rec true u v μ))) (hrec2 : ∀ (u v : Int32) (μ : g_St), g_Con gC (2 + D) yX5_readPart cX5_readPart 6 (some .boolean) [.ref 1, .ref bu, .int v] μ (g_yi (rec false u v μ))) (v2 : Int32) (v3 : Int32) (μ : g_St) : g_Con gC (2 + (D + 1)) yX5_readJoined cX5_readJoined 7 (some .boolean) [.ref 1, .ref bu, .int v2, .int v3] μ (g_yi (oe_readJoined_b F bu rec v2 v3 μ)) := g_conOf mc_X5_readJoined.2.2.2.2 (Nat.le_of_ble_eq_true rfl) rfl (g_yi_rk (Or.inr (Or.inl rfl))) (lk_oe_readJoined_b D F bu hbu rec hrec1 hrec2 v2 v3 μ)
theorem dX5_readPart_0 : decode cX5_readPart 0 = .ok (.aload_n 0, 1) := by decide +kernel
theorem dX5_readPart_1 : decode cX5_readPart 1 = .ok (.getfield 19, 3) := by decide +kernel
theorem dX5_readPart_4 : decode cX5_readPart 4 = .ok (.istore_n 3, 1) := by decide +kernel
theorem dX5_readPart_5 : decode cX5_readPart 5 = .ok (.iload_n 3, 1) := by decide +kernel
theorem dX5_readPart_6 : decode cX5_readPart 6 = .ok (.sipush 201, 3) := by decide +kernel
theorem dX5_readPart_9 : decode cX5_readPart 9 = .ok (.if_icmp .ne 7, 3) := by decide +kernel
theorem dX5_readPart_12 : decode cX5_readPart 12 = .ok (.iconst 1, 1) := by decide +kernel
theorem dX5_readPart_13 : decode cX5_readPart 13 = .ok (.goto 4, 3) := by decide +kernel
theorem dX5_readPart_16 : decode cX5_readPart 16 = .ok (.iconst 0, 1) := by decide +kernel
theorem dX5_readPart_17 : decode cX5_readPart 17 = .ok (.istore 4, 2) := by decide +kernel
theorem dX5_readPart_19 : decode cX5_readPart 19 = .ok (.iload 4, 2) := by decide +kernel
theorem dX5_readPart_21 : decode cX5_readPart 21 = .ok (.ifCond .ne 28, 3) := by decide +kernel
theorem dX5_readPart_24 : decode cX5_readPart 24 = .ok (.iload_n 3, 1) := by decide +kernel
theorem dX5_readPart_25 : decode cX5_readPart 25 = .ok (.invokestatic 65, 3) := by decide +kernel
theorem dX5_readPart_28 : decode cX5_readPart 28 = .ok (.ifCond .ne 21, 3) := by decide +kernel
theorem dX5_readPart_31 : decode cX5_readPart 31 = .ok (.iload_n 3, 1) := by decide +kernel
theorem dX5_readPart_32 : decode cX5_readPart 32 = .ok (.bipush 13, 2) := by decide +kernel
theorem dX5_readPart_34 : decode cX5_readPart 34 = .ok (.if_icmp .eq 15, 3) := by decide +kernel
theorem dX5_readPart_37 : decode cX5_readPart 37 = .ok (.iload_n 3, 1) := by decide +kernel
theorem dX5_readPart_38 : decode cX5_readPart 38 = .ok (.bipush 40, 2) := by decide +kernel
theorem dX5_readPart_40 : decode cX5_readPart 40 = .ok (.if_icmp .eq 9, 3) := by decide +kernel
theorem dX5_readPart_43 : decode cX5_readPart 43 = .ok (.aload_n 0, 1) := by decide +kernel
theorem dX5_readPart_44 : decode cX5_readPart 44 = .ok (.iconst 1, 1) := by decide +kernel
theorem dX5_readPart_45 : decode cX5_readPart 45 = .ok (.invokevirtual 36, 3) := by decide +kernel
theorem dX5_readPart_48 : decode cX5_readPart 48 = .ok (.ireturn, 1) := by decide +kernel
theorem dX5_readPart_49 : decode cX5_readPart 49 = .ok (.iload_n 2, 1) := by decide +kernel
theorem dX5_readPart_50 : decode cX5_readPart 50 = .ok (.iconst 5, 1) := by decide +kernel
theorem dX5_readPart_51 : decode cX5_readPart 51 = .ok (.if_icmp .lt 9, 3) := by decide +kernel
theorem dX5_readPart_54 : decode cX5_readPart 54 = .ok (.aload_n 0, 1) := by decide +kernel
theorem dX5_readPart_55 : decode cX5_readPart 55 = .ok (.iconst 5, 1) := by decide +kernel
theorem dX5_readPart_56 : decode cX5_readPart 56 = .ok (.invokevirtual 36, 3) := by decide +kernel
theorem dX5_readPart_59 : decode cX5_readPart 59 = .ok (.ireturn, 1) := by decide +kernel
theorem dX5_readPart_60 : decode cX5_readPart 60 = .ok (.iload 4, 2) := by decide +kernel
theorem dX5_readPart_62 : decode cX5_readPart 62 = .ok (.ifCond .eq 11, 3) := by decide +kernel
theorem dX5_readPart_65 : decode cX5_readPart 65 = .ok (.aload_n 0, 1) := by decide +kernel
theorem dX5_readPart_66 : decode cX5_readPart 66 = .ok (.getfield 68, 3) := by decide +kernel
theorem dX5_readPart_69 : decode cX5_readPart 69 = .ok (.l2i, 1) := by decide +kernel
theorem dX5_readPart_70 : decode cX5_readPart 70 = .ok (.goto 8, 3) := by decide +kernel
theorem dX5_readPart_73 : decode cX5_readPart 73 = .ok (.sipush 10000, 3) := by decide +kernel
theorem dX5_readPart_76 : decode cX5_readPart 76 = .ok (.iload_n 3, 1) := by decide +kernel
theorem dX5_readPart_77 : decode cX5_readPart 77 = .ok (.iadd, 1) := by decide +kernel
theorem dX5_readPart_78 : decode cX5_readPart 78 = .ok (.istore 5, 2) := by decide +kernel
theorem dX5_readPart_80 : decode cX5_readPart 80 = .ok (.aload_n 0, 1) := by decide +kernel
theorem dX5_readPart_81 : decode cX5_readPart 81 = .ok (.invokevirtual 58, 3) := by decide +kernel
theorem dX5_readPart_84 : decode cX5_readPart 84 = .ok (.iload_n 3, 1) := by decide +kernel
theorem dX5_readPart_85 : decode cX5_readPart 85 = .ok (.bipush 40, 2) := by decide +kernel
theorem dX5_readPart_87 : decode cX5_readPart 87 = .ok (.if_icmp .ne 30, 3) := by decide +kernel
theorem dX5_readPart_90 : decode cX5_readPart 90 = .ok (.aload_n 0, 1) := by decide +kernel
theorem dX5_readPart_91 : decode cX5_readPart 91 = .ok (.aload_n 1, 1) := by decide +kernel
theorem dX5_readPart_92 : decode cX5_readPart 92 = .ok (.iconst 0, 1) := by decide +kernel
theorem dX5_readPart_93 : decode cX5_readPart 93 = .ok (.iload_n 2, 1) := by decide +kernel
theorem dX5_readPart_94 : decode cX5_readPart 94 = .ok (.iconst 1, 1) := by decide +kernel
theorem dX5_readPart_95 : decode cX5_readPart 95 = .ok (.iadd, 1) := by decide +kernel
theorem dX5_readPart_96 : decode cX5_readPart 96 = .ok (.invokestatic 43, 3) := by decide +kernel
theorem dX5_readPart_99 : decode cX5_readPart 99 = .ok (.ifCond .eq 16, 3) := by decide +kernel
theorem dX5_readPart_102 : decode cX5_readPart 102 = .ok (.aload_n 0, 1) := by decide +kernel
theorem dX5_readPart_103 : decode cX5_readPart 103 = .ok (.bipush 41, 2) := by decide +kernel
theorem dX5_readPart_105 : decode cX5_readPart 105 = .ok (.invokevirtual 40, 3) := by decide +kernel
theorem dX5_readPart_108 : decode cX5_readPart 108 = .ok (.ifCond .eq 7, 3) := by decide +kernel
theorem dX5_readPart_111 : decode cX5_readPart 111 = .ok (.iconst 1, 1) := by decide +kernel
theorem dX5_readPart_112 : decode cX5_readPart 112 = .ok (.goto 4, 3) := by decide +kernel
theorem dX5_readPart_115 : decode cX5_readPart 115 = .ok (.iconst 0, 1) := by decide +kernel
theorem dX5_readPart_116 : decode cX5_readPart 116 = .ok (.ireturn, 1) := by decide +kernel
theorem dX5_readPart_117 : decode cX5_readPart 117 = .ok (.iload_n 3, 1) := by decide +kernel
theorem dX5_readPart_118 : decode cX5_readPart 118 = .ok (.bipush 13, 2) := by decide +kernel
theorem dX5_readPart_120 : decode cX5_readPart 120 = .ok (.if_icmp .ne 21, 3) := by decide +kernel
theorem dX5_readPart_123 : decode cX5_readPart 123 = .ok (.sipush 20013, 3) := by decide +kernel
theorem dX5_readPart_126 : decode cX5_readPart 126 = .ok (.istore 5, 2) := by decide +kernel
theorem dX5_readPart_128 : decode cX5_readPart 128 = .ok (.aload_n 0, 1) := by decide +kernel
theorem dX5_readPart_129 : decode cX5_readPart 129 = .ok (.aload_n 1, 1) := by decide +kernel
theorem dX5_readPart_130 : decode cX5_readPart 130 = .ok (.iload_n 2, 1) := by decide +kernel
theorem dX5_readPart_131 : decode cX5_readPart 131 = .ok (.iconst 1, 1) := by decide +kernel
theorem dX5_readPart_132 : decode cX5_readPart 132 = .ok (.iadd, 1) := by decide +kernel
theorem dX5_readPart_133 : decode cX5_readPart 133 = .ok (.invokestatic 50, 3) := by decide +kernel
theorem dX5_readPart_136 : decode cX5_readPart 136 = .ok (.ifCond .ne 5, 3) := by decide +kernel
theorem dX5_readPart_139 : decode cX5_readPart 139 = .ok (.iconst 0, 1) := by decide +kernel
theorem dX5_readPart_140 : decode cX5_readPart 140 = .ok (.ireturn, 1) := by decide +kernel
theorem dX5_readPart_141 : decode cX5_readPart 141 = .ok (.aload_n 1, 1) := by decide +kernel
theorem dX5_readPart_142 : decode cX5_readPart 142 = .ok (.iload 5, 2) := by decide +kernel
theorem dX5_readPart_144 : decode cX5_readPart 144 = .ok (.invokevirtual 61, 3) := by decide +kernel
theorem dX5_readPart_147 : decode cX5_readPart 147 = .ok (.iconst 1, 1) := by decide +kernel
theorem dX5_readPart_148 : decode cX5_readPart 148 = .ok (.ireturn, 1) := by decide +kernel
theorem lk_oe_readPart_141 (D : Nat) (F : Nat) (bu : Nat) (hbu : g_isRule bu) (rec : Bool → Int32 → Int32 → g_St → Option (Int32 × g_St)) (hrec1 : ∀ (u v : Int32) (μ : g_St), g_Con gC (2 + D) yX5_readJoined cX5_readJoined 7 (some .boolean) [.ref 1, .ref bu, .int u, .int v] μ (g_yi (rec true u v μ))) (hrec2 : ∀ (u v : Int32) (μ : g_St), g_Con gC (2 + D) yX5_readPart cX5_readPart 6 (some .boolean) [.ref 1, .ref bu, .int v] μ (g_yi (rec false u v μ))) (v5 : Int32) (μ : g_St) : g_Go gC (2 + (D + 1)) yX5_readPart cX5_readPart 6 (some .boolean) 141 [none, some (.ref bu), none, none, none, some (.int v5)] [] μ (Option.map o_yi (oe_readPart_141 F bu rec v5 μ)) := by
  unfold oe_readPart_141
  refine g_aload_n dX5_readPart_141 rfl rfl ?_
  refine g_iload dX5_readPart_142 rfl ?_
  refine w_Vyv [.int _] dX5_readPart_144 ml_X5_61 mv_X4_put mc_X4_put cf_X4 (ly_Rule_lt hbu) (ly_Rule hbu) rfl (by omega) (Nat.le_of_ble_eq_true rfl) (Nat.le_of_ble_eq_true rfl) rfl (co_ou_put _ hbu _ _) (fun μ8 => ?_)
  refine g_iconst dX5_readPart_147 ic_1 ?_
  exact w_iret dX5_readPart_148 (by decide) rfl
theorem lk_oe_readPart_78 (D : Nat) (F : Nat) (bu : Nat) (hbu : g_isRule bu) (rec : Bool → Int32 → Int32 → g_St → Option (Int32 × g_St)) (hrec1 : ∀ (u v : Int32) (μ : g_St), g_Con gC (2 + D) yX5_readJoined cX5_readJoined 7 (some .boolean) [.ref 1, .ref bu, .int u, .int v] μ (g_yi (rec true u v μ))) (hrec2 : ∀ (u v : Int32) (μ : g_St), g_Con gC (2 + D) yX5_readPart cX5_readPart 6 (some .boolean) [.ref 1, .ref bu, .int v] μ (g_yi (rec false u v μ))) (v2 : Int32) (v3 : Int32) (s0 : Int32) (μ : g_St) : g_Go gC (2 + (D + 1)) yX5_readPart cX5_readPart 6 (some .boolean) 78 [some (.ref 1), some (.ref bu), some (.int v2), some (.int v3), none, none] [.int s0] μ (Option.map o_yi (oe_readPart_78 F bu rec v2 v3 s0 μ)) := by
  unfold oe_readPart_78
  refine g_istore (lo2 := [_, _, _, _, _, _]) dX5_readPart_78 (Nat.le_of_ble_eq_true rfl) rfl rfl ?_
  refine g_aload_n dX5_readPart_80 rfl rfl ?_
  refine w_Vyv [] dX5_readPart_81 ml_X5_58 mv_X6_advance mc_X6_advance cf_X6 ly_Tape_lt ly_Tape rfl (by omega) (Nat.le_of_ble_eq_true rfl) (Nat.le_of_ble_eq_true rfl) rfl (co_ot_advance _) (fun μ4 => ?_)
  refine g_iload_n dX5_readPart_84 rfl rfl ?_
  refine g_bipush dX5_readPart_85 bp_40 ?_
  refine w_icmp_ne (tgt := 117) dX5_readPart_87 (by decide) ?_ ?_
  · refine g_aload_n dX5_readPart_90 rfl rfl ?_
    refine g_aload_n dX5_readPart_91 rfl rfl ?_
    refine g_iconst dX5_readPart_92 ic_0 ?_
    refine g_iload_n dX5_readPart_93 rfl rfl ?_
    refine g_iconst dX5_readPart_94 ic_1 ?_
    refine g_iadd dX5_readPart_95 ?_
    refine w_Syi [.ref _, .ref _, .int _, .int _] dX5_readPart_96 ml_X5_43 ms_X5_readJoined mc_X5_readJoined rfl (by omega) (Nat.le_of_ble_eq_true rfl) (Nat.le_of_ble_eq_true rfl) rfl (hrec1 _ _ _) (fun q5 => ?_)
    refine w_if_eq (tgt := 115) dX5_readPart_99 (by decide) ?_ ?_
    · refine g_iconst dX5_readPart_115 ic_0 ?_
      exact w_iret dX5_readPart_116 (by decide) rfl
    · refine g_aload_n dX5_readPart_102 rfl rfl ?_
      refine g_bipush dX5_readPart_103 bp_41 ?_
      refine w_Vyi [.int _] dX5_readPart_105 ml_X5_40 mv_X6_take mc_X6_take cf_X6 ly_Tape_lt ly_Tape rfl (by omega) (Nat.le_of_ble_eq_true rfl) (Nat.le_of_ble_eq_true rfl) rfl (co_ot_take _ _) (fun q6 => ?_)
      refine w_if_eq (tgt := 115) dX5_readPart_108 (by decide) ?_ ?_
      · refine g_iconst dX5_readPart_115 ic_0 ?_
        exact w_iret dX5_readPart_116 (by decide) rfl
      · refine g_iconst dX5_readPart_111 ic_1 ?_
        refine g_goto (tgt := 116) dX5_readPart_112 (by decide) ?_
        exact w_iret dX5_readPart_116 (by decide) rfl
  · refine g_iload_n dX5_readPart_117 rfl rfl ?_
    refine g_bipush dX5_readPart_118 bp_13 ?_
    refine w_icmp_ne (tgt := 141) dX5_readPart_120 (by decide) ?_ ?_
    · refine g_sipush dX5_readPart_123 sp_20013 ?_
      refine g_istore (lo2 := [_, _, _, _, _, _]) dX5_readPart_126 (Nat.le_of_ble_eq_true rfl) rfl rfl ?_
      refine g_aload_n dX5_readPart_128 rfl rfl ?_
      refine g_aload_n dX5_readPart_129 rfl rfl ?_
      refine g_iload_n dX5_readPart_130 rfl rfl ?_
      refine g_iconst dX5_readPart_131 ic_1 ?_
      refine g_iadd dX5_readPart_132 ?_
      refine w_Syi [.ref _, .ref _, .int _] dX5_readPart_133 ml_X5_50 ms_X5_readPart mc_X5_readPart rfl (by omega) (Nat.le_of_ble_eq_true rfl) (Nat.le_of_ble_eq_true rfl) rfl (hrec2 0 _ _) (fun q7 => ?_)
      refine w_if_ne (tgt := 141) dX5_readPart_136 (by decide) ?_ ?_
      · refine g_iconst dX5_readPart_139 ic_0 ?_
        exact w_iret dX5_readPart_140 (by decide) rfl
      · exact g_to (lk_oe_readPart_141 D F bu hbu rec hrec1 hrec2 _ _) (su_n (su_s (su_n (su_n (su_n (su_s su_0))))))
    · exact g_to (lk_oe_readPart_141 D F bu hbu rec hrec1 hrec2 _ _) (su_n (su_s (su_n (su_n (su_n (su_s su_0))))))
theorem lk_oe_readPart_49 (D : Nat) (F : Nat) (bu : Nat) (hbu : g_isRule bu) (rec : Bool → Int32 → Int32 → g_St → Option (Int32 × g_St)) (hrec1 : ∀ (u v : Int32) (μ : g_St), g_Con gC (2 + D) yX5_readJoined cX5_readJoined 7 (some .boolean) [.ref 1, .ref bu, .int u, .int v] μ (g_yi (rec true u v μ))) (hrec2 : ∀ (u v : Int32) (μ : g_St), g_Con gC (2 + D) yX5_readPart cX5_readPart 6 (some .boolean) [.ref 1, .ref bu, .int v] μ (g_yi (rec false u v μ))) (v2 : Int32) (v3 : Int32) (v4 : Int32) (μ : g_St) : g_Go gC (2 + (D + 1)) yX5_readPart cX5_readPart 6 (some .boolean) 49 [some (.ref 1), some (.ref bu), some (.int v2), some (.int v3), some (.int v4), none] [] μ (Option.map o_yi (oe_readPart_49 F bu rec v2 v3 v4 μ)) := by
  unfold oe_readPart_49
  refine g_iload_n dX5_readPart_49 rfl rfl ?_
  refine g_iconst dX5_readPart_50 ic_5 ?_
  refine w_icmp_lt (tgt := 60) dX5_readPart_51 (by decide) ?_ ?_
  · refine g_aload_n dX5_readPart_54 rfl rfl ?_
    refine g_iconst dX5_readPart_55 ic_5 ?_
    refine w_Vyi [.int _] dX5_readPart_56 ml_X5_36 mv_X6_wrong mc_X6_wrong cf_X6 ly_Tape_lt ly_Tape rfl (by omega) (Nat.le_of_ble_eq_true rfl) (Nat.le_of_ble_eq_true rfl) rfl (co_ot_wrong _ _) (fun q3 => ?_)
    exact w_zret dX5_readPart_59 rfl rfl
  · refine g_iload dX5_readPart_60 rfl ?_
    refine w_if_eq (tgt := 73) dX5_readPart_62 (by decide) ?_ ?_
    · refine g_sipush dX5_readPart_73 sp_10000 ?_
      refine g_iload_n dX5_readPart_76 rfl rfl ?_
      refine g_iadd dX5_readPart_77 ?_
      exact g_to (lk_oe_readPart_78 D F bu hbu rec hrec1 hrec2 _ _ _ _) (su_s (su_s (su_s (su_s (su_n (su_n su_0))))))
    · refine g_aload_n dX5_readPart_65 rfl rfl ?_
      refine g_getL dX5_readPart_66 cf_X6 fl_X5_68 ly_Tape_lt ly_Tape rfl (Nat.le_of_ble_eq_true rfl) ?_
      refine g_l2i dX5_readPart_69 ?_
      refine g_goto (tgt := 78) dX5_readPart_70 (by decide) ?_
      exact g_to (lk_oe_readPart_78 D F bu hbu rec hrec1 hrec2 _ _ _ _) (su_s (su_s (su_s (su_s (su_n (su_n su_0))))))
theorem lk_oe_readPart_17 (D : Nat) (F : Nat) (bu : Nat) (hbu : g_isRule bu) (rec : Bool → Int32 → Int32 → g_St → Option (Int32 × g_St)) (hrec1 : ∀ (u v : Int32) (μ : g_St), g_Con gC (2 + D) yX5_readJoined cX5_readJoined 7 (some .boolean) [.ref 1, .ref bu, .int u, .int v] μ (g_yi (rec true u v μ))) (hrec2 : ∀ (u v : Int32) (μ : g_St), g_Con gC (2 + D) yX5_readPart cX5_readPart 6 (some .boolean) [.ref 1, .ref bu, .int v] μ (g_yi (rec false u v μ))) (v2 : Int32) (v3 : Int32) (s0 : Int32) (μ : g_St) : g_Go gC (2 + (D + 1)) yX5_readPart cX5_readPart 6 (some .boolean) 17 [some (.ref 1), some (.ref bu), some (.int v2), some (.int v3), none, none] [.int s0] μ (Option.map o_yi (oe_readPart_17 F bu rec v2 v3 s0 μ)) := by
  unfold oe_readPart_17
  refine g_istore (lo2 := [_, _, _, _, _, _]) dX5_readPart_17 (Nat.le_of_ble_eq_true rfl) rfl rfl ?_
  refine g_iload dX5_readPart_19 rfl ?_
  refine w_if_ne (tgt := 49) dX5_readPart_21 (by decide) ?_ ?_
  · refine g_iload_n dX5_readPart_24 rfl rfl ?_
    refine w_Sxi [.int _] dX5_readPart_25 ml_X5_65 ms_X5_isFact mc_X5_isFact rfl (by omega) (Nat.le_of_ble_eq_true rfl) (Nat.le_of_ble_eq_true rfl) rfl (co_oe_isFact _ _) (fun x1 => ?_)
    refine w_if_ne (tgt := 49) dX5_readPart_28 (by decide) ?_ ?_
    · refine g_iload_n dX5_readPart_31 rfl rfl ?_
      refine g_bipush dX5_readPart_32 bp_13 ?_
      refine w_icmp_eq (tgt := 49) dX5_readPart_34 (by decide) ?_ ?_
      · exact g_to (lk_oe_readPart_49 D F bu hbu rec hrec1 hrec2 _ _ _ _) (su_s (su_s (su_s (su_s (su_s (su_n su_0))))))
      · refine g_iload_n dX5_readPart_37 rfl rfl ?_
        refine g_bipush dX5_readPart_38 bp_40 ?_
        refine w_icmp_eq (tgt := 49) dX5_readPart_40 (by decide) ?_ ?_
        · exact g_to (lk_oe_readPart_49 D F bu hbu rec hrec1 hrec2 _ _ _ _) (su_s (su_s (su_s (su_s (su_s (su_n su_0))))))
        · refine g_aload_n dX5_readPart_43 rfl rfl ?_
          refine g_iconst dX5_readPart_44 ic_1 ?_
          refine w_Vyi [.int _] dX5_readPart_45 ml_X5_36 mv_X6_wrong mc_X6_wrong cf_X6 ly_Tape_lt ly_Tape rfl (by omega) (Nat.le_of_ble_eq_true rfl) (Nat.le_of_ble_eq_true rfl) rfl (co_ot_wrong _ _) (fun q2 => ?_)
          exact w_zret dX5_readPart_48 rfl rfl
    · exact g_to (lk_oe_readPart_49 D F bu hbu rec hrec1 hrec2 _ _ _ _) (su_s (su_s (su_s (su_s (su_s (su_n su_0))))))
  · exact g_to (lk_oe_readPart_49 D F bu hbu rec hrec1 hrec2 _ _ _ _) (su_s (su_s (su_s (su_s (su_s (su_n su_0))))))
theorem lk_oe_readPart_b (D : Nat) (F : Nat) (bu : Nat) (hbu : g_isRule bu) (rec : Bool → Int32 → Int32 → g_St → Option (Int32 × g_St)) (hrec1 : ∀ (u v : Int32) (μ : g_St), g_Con gC (2 + D) yX5_readJoined cX5_readJoined 7 (some .boolean) [.ref 1, .ref bu, .int u, .int v] μ (g_yi (rec true u v μ))) (hrec2 : ∀ (u v : Int32) (μ : g_St), g_Con gC (2 + D) yX5_readPart cX5_readPart 6 (some .boolean) [.ref 1, .ref bu, .int v] μ (g_yi (rec false u v μ))) (v2 : Int32) (μ : g_St) : g_Go gC (2 + (D + 1)) yX5_readPart cX5_readPart 6 (some .boolean) 0 [some (.ref 1), some (.ref bu), some (.int v2), none, none, none] [] μ (Option.map o_yi (oe_readPart_b F bu rec v2 μ)) := by
  unfold oe_readPart_b
  refine g_aload_n dX5_readPart_0 rfl rfl ?_
  refine g_getI dX5_readPart_1 cf_X6 fl_X5_19 ly_Tape_lt ly_Tape rfl (Nat.le_of_ble_eq_true rfl) ?_
  refine g_istore_n (lo2 := [_, _, _, _, _, _]) dX5_readPart_4 rfl (Nat.le_of_ble_eq_true rfl) rfl rfl ?_
  refine g_iload_n dX5_readPart_5 rfl rfl ?_
  refine g_sipush dX5_readPart_6 sp_201 ?_
  refine w_icmp_ne (tgt := 16) dX5_readPart_9 (by decide) ?_ ?_
  · refine g_iconst dX5_readPart_12 ic_1 ?_
    refine g_goto (tgt := 17) dX5_readPart_13 (by decide) ?_
    exact g_to (lk_oe_readPart_17 D F bu hbu rec hrec1 hrec2 _ _ _ _) (su_s (su_s (su_s (su_s (su_n (su_n su_0))))))
  · refine g_iconst dX5_readPart_16 ic_0 ?_
    exact g_to (lk_oe_readPart_17 D F bu hbu rec hrec1 hrec2 _ _ _ _) (su_s (su_s (su_s (su_s (su_n (su_n su_0))))))
theorem co_oe_readPart_b (D : Nat) (F : Nat) (bu : Nat) (hbu : g_isRule bu) (rec : Bool → Int32 → Int32 → g_St → Option (Int32 × g_St)) (hrec1 : ∀ (u v : Int32) (μ : g_St), g_Con gC (2 + D) yX5_readJoined cX5_readJoined 7 (some .boolean) [.ref 1, .ref bu, .int u, .int v] μ (g_yi (rec true u v μ))) (hrec2 : ∀ (u v : Int32) (μ : g_St), g_Con gC (2 + D) yX5_readPart cX5_readPart 6 (some .boolean) [.ref 1, .ref bu, .int v] μ (g_yi (rec false u v μ))) (v2 : Int32) (μ : g_St) : g_Con gC (2 + (D + 1)) yX5_readPart cX5_readPart 6 (some .boolean) [.ref 1, .ref bu, .int v2] μ (g_yi (oe_readPart_b F bu rec v2 μ)) := g_conOf mc_X5_readPart.2.2.2.2 (Nat.le_of_ble_eq_true rfl) rfl (g_yi_rk (Or.inr (Or.inl rfl))) (lk_oe_readPart_b D F bu hbu rec hrec1 hrec2 v2 μ)
theorem co_oe_rp (F : Nat) (bu : Nat) (hbu : g_isRule bu) : ∀ D : Nat, (∀ (u v : Int32) (μ : g_St), g_Con gC (2 + D) yX5_readJoined cX5_readJoined 7 (some .boolean) [.ref 1, .ref bu, .int u, .int v] μ (g_yi (oe_rp F bu D true u v μ))) ∧ (∀ (u v : Int32) (μ : g_St), g_Con gC (2 + D) yX5_readPart cX5_readPart 6 (some .boolean) [.ref 1, .ref bu, .int v] μ (g_yi (oe_rp F bu D false u v μ)))
  | 0 => ⟨fun _ _ _ _ _ h => (nomatch h), fun _ _ _ _ _ h => (nomatch h)⟩
  | D + 1 => ⟨fun u v μ => co_oe_readJoined_b D F bu hbu (oe_rp F bu D) (co_oe_rp F bu hbu D).1 (co_oe_rp F bu hbu D).2 u v μ, fun u v μ => co_oe_readPart_b D F bu hbu (oe_rp F bu D) (co_oe_rp F bu hbu D).1 (co_oe_rp F bu hbu D).2 v μ⟩
theorem co_oe_rp1 (F : Nat) (bu : Nat) (hbu : g_isRule bu) (D : Nat) (u v : Int32) (μ : g_St) : g_Con gC (2 + D) yX5_readJoined cX5_readJoined 7 (some .boolean) [.ref 1, .ref bu, .int u, .int v] μ (g_yi (oe_rp F bu D true u v μ)) := (co_oe_rp F bu hbu D).1 u v μ
theorem dX5_readLine_0 : decode cX5_readLine 0 = .ok (.aload_n 0, 1) := by decide +kernel
theorem dX5_readLine_1 : decode cX5_readLine 1 = .ok (.getfield 19, 3) := by decide +kernel
theorem dX5_readLine_4 : decode cX5_readLine 4 = .ok (.bipush 9, 2) := by decide +kernel
theorem dX5_readLine_6 : decode cX5_readLine 6 = .ok (.if_icmp .ne 18, 3) := by decide +kernel
theorem dX5_readLine_9 : decode cX5_readLine 9 = .ok (.aload_n 1, 1) := by decide +kernel
theorem dX5_readLine_10 : decode cX5_readLine 10 = .ok (.getfield 33, 3) := by decide +kernel
theorem dX5_readLine_13 : decode cX5_readLine 13 = .ok (.bipush 6, 2) := by decide +kernel
theorem dX5_readLine_15 : decode cX5_readLine 15 = .ok (.if_icmp .lt 9, 3) := by decide +kernel
theorem dX5_readLine_18 : decode cX5_readLine 18 = .ok (.aload_n 0, 1) := by decide +kernel
theorem dX5_readLine_19 : decode cX5_readLine 19 = .ok (.iconst 5, 1) := by decide +kernel
theorem dX5_readLine_20 : decode cX5_readLine 20 = .ok (.invokevirtual 36, 3) := by decide +kernel
theorem dX5_readLine_23 : decode cX5_readLine 23 = .ok (.ireturn, 1) := by decide +kernel
theorem dX5_readLine_24 : decode cX5_readLine 24 = .ok (.aload_n 0, 1) := by decide +kernel
theorem dX5_readLine_25 : decode cX5_readLine 25 = .ok (.bipush 9, 2) := by decide +kernel
theorem dX5_readLine_27 : decode cX5_readLine 27 = .ok (.invokevirtual 40, 3) := by decide +kernel
theorem dX5_readLine_30 : decode cX5_readLine 30 = .ok (.ifCond .eq 12, 3) := by decide +kernel
theorem dX5_readLine_33 : decode cX5_readLine 33 = .ok (.aload_n 0, 1) := by decide +kernel
theorem dX5_readLine_34 : decode cX5_readLine 34 = .ok (.bipush 10, 2) := by decide +kernel
theorem dX5_readLine_36 : decode cX5_readLine 36 = .ok (.invokevirtual 40, 3) := by decide +kernel
theorem dX5_readLine_39 : decode cX5_readLine 39 = .ok (.ifCond .ne 5, 3) := by decide +kernel
theorem dX5_readLine_42 : decode cX5_readLine 42 = .ok (.iconst 0, 1) := by decide +kernel
theorem dX5_readLine_43 : decode cX5_readLine 43 = .ok (.ireturn, 1) := by decide +kernel
theorem dX5_readLine_44 : decode cX5_readLine 44 = .ok (.aload_n 0, 1) := by decide +kernel
theorem dX5_readLine_45 : decode cX5_readLine 45 = .ok (.aload_n 1, 1) := by decide +kernel
theorem dX5_readLine_46 : decode cX5_readLine 46 = .ok (.iconst 0, 1) := by decide +kernel
theorem dX5_readLine_47 : decode cX5_readLine 47 = .ok (.iconst 0, 1) := by decide +kernel
theorem dX5_readLine_48 : decode cX5_readLine 48 = .ok (.invokestatic 43, 3) := by decide +kernel
theorem dX5_readLine_51 : decode cX5_readLine 51 = .ok (.ifCond .eq 12, 3) := by decide +kernel
theorem dX5_readLine_54 : decode cX5_readLine 54 = .ok (.aload_n 0, 1) := by decide +kernel
theorem dX5_readLine_55 : decode cX5_readLine 55 = .ok (.bipush 59, 2) := by decide +kernel
theorem dX5_readLine_57 : decode cX5_readLine 57 = .ok (.invokevirtual 40, 3) := by decide +kernel
theorem dX5_readLine_60 : decode cX5_readLine 60 = .ok (.ifCond .ne 5, 3) := by decide +kernel
theorem dX5_readLine_63 : decode cX5_readLine 63 = .ok (.iconst 0, 1) := by decide +kernel
theorem dX5_readLine_64 : decode cX5_readLine 64 = .ok (.ireturn, 1) := by decide +kernel
theorem dX5_readLine_65 : decode cX5_readLine 65 = .ok (.aload_n 1, 1) := by decide +kernel
theorem dX5_readLine_66 : decode cX5_readLine 66 = .ok (.invokevirtual 47, 3) := by decide +kernel
theorem dX5_readLine_69 : decode cX5_readLine 69 = .ok (.iconst 1, 1) := by decide +kernel
theorem dX5_readLine_70 : decode cX5_readLine 70 = .ok (.ireturn, 1) := by decide +kernel
theorem lk_oe_readLine_24 (F : Nat) (bu : Nat) (hbu : g_isRule bu) (μ : g_St) : g_Go gC 48 yX5_readLine cX5_readLine 2 (some .boolean) 24 [some (.ref 1), some (.ref bu)] [] μ (Option.map o_yi (oe_readLine_24 F bu μ)) := by
  unfold oe_readLine_24
  refine g_aload_n dX5_readLine_24 rfl rfl ?_
  refine g_bipush dX5_readLine_25 bp_9 ?_
  refine w_Vyi [.int _] dX5_readLine_27 ml_X5_40 mv_X6_take mc_X6_take cf_X6 ly_Tape_lt ly_Tape rfl (Nat.le_of_ble_eq_true rfl) (Nat.le_of_ble_eq_true rfl) (Nat.le_of_ble_eq_true rfl) rfl (co_ot_take _ _) (fun q2 => ?_)
  refine w_if_eq (tgt := 42) dX5_readLine_30 (by decide) ?_ ?_
  · refine g_iconst dX5_readLine_42 ic_0 ?_
    exact w_iret dX5_readLine_43 (by decide) rfl
  · refine g_aload_n dX5_readLine_33 rfl rfl ?_
    refine g_bipush dX5_readLine_34 bp_10 ?_
    refine w_Vyi [.int _] dX5_readLine_36 ml_X5_40 mv_X6_take mc_X6_take cf_X6 ly_Tape_lt ly_Tape rfl (Nat.le_of_ble_eq_true rfl) (Nat.le_of_ble_eq_true rfl) (Nat.le_of_ble_eq_true rfl) rfl (co_ot_take _ _) (fun q3 => ?_)
    refine w_if_ne (tgt := 44) dX5_readLine_39 (by decide) ?_ ?_
    · refine g_iconst dX5_readLine_42 ic_0 ?_
      exact w_iret dX5_readLine_43 (by decide) rfl
    · refine g_aload_n dX5_readLine_44 rfl rfl ?_
      refine g_aload_n dX5_readLine_45 rfl rfl ?_
      refine g_iconst dX5_readLine_46 ic_0 ?_
      refine g_iconst dX5_readLine_47 ic_0 ?_
      refine w_Syi [.ref _, .ref _, .int _, .int _] dX5_readLine_48 ml_X5_43 ms_X5_readJoined mc_X5_readJoined rfl (by omega) (Nat.le_of_ble_eq_true rfl) (Nat.le_of_ble_eq_true rfl) rfl (co_oe_rp1 F _ hbu 45 _ _ _) (fun q4 => ?_)
      refine w_if_eq (tgt := 63) dX5_readLine_51 (by decide) ?_ ?_
      · refine g_iconst dX5_readLine_63 ic_0 ?_
        exact w_iret dX5_readLine_64 (by decide) rfl
      · refine g_aload_n dX5_readLine_54 rfl rfl ?_
        refine g_bipush dX5_readLine_55 bp_59 ?_
        refine w_Vyi [.int _] dX5_readLine_57 ml_X5_40 mv_X6_take mc_X6_take cf_X6 ly_Tape_lt ly_Tape rfl (Nat.le_of_ble_eq_true rfl) (Nat.le_of_ble_eq_true rfl) (Nat.le_of_ble_eq_true rfl) rfl (co_ot_take _ _) (fun q5 => ?_)
        refine w_if_ne (tgt := 65) dX5_readLine_60 (by decide) ?_ ?_
        · refine g_iconst dX5_readLine_63 ic_0 ?_
          exact w_iret dX5_readLine_64 (by decide) rfl
        · refine g_aload_n dX5_readLine_65 rfl rfl ?_
          refine w_Vyv [] dX5_readLine_66 ml_X5_47 mv_X4_endLine mc_X4_endLine cf_X4 (ly_Rule_lt hbu) (ly_Rule hbu) rfl (Nat.le_of_ble_eq_true rfl) (Nat.le_of_ble_eq_true rfl) (Nat.le_of_ble_eq_true rfl) rfl (co_ou_endLine _ hbu _) (fun μ6 => ?_)
          refine g_iconst dX5_readLine_69 ic_1 ?_
          exact w_iret dX5_readLine_70 (by decide) rfl
theorem lk_oe_readLine (F : Nat) (bu : Nat) (hbu : g_isRule bu) (μ : g_St) : g_Go gC 48 yX5_readLine cX5_readLine 2 (some .boolean) 0 [some (.ref 1), some (.ref bu)] [] μ (Option.map o_yi (oe_readLine F bu μ)) := by
  unfold oe_readLine
  refine g_aload_n dX5_readLine_0 rfl rfl ?_
  refine g_getI dX5_readLine_1 cf_X6 fl_X5_19 ly_Tape_lt ly_Tape rfl (Nat.le_of_ble_eq_true rfl) ?_
  refine g_bipush dX5_readLine_4 bp_9 ?_
  refine w_icmp_ne (tgt := 24) dX5_readLine_6 (by decide) ?_ ?_
  · refine g_aload_n dX5_readLine_9 rfl rfl ?_
    refine g_getI dX5_readLine_10 cf_X4 fl_X5_33 (ly_Rule_lt hbu) (ly_Rule hbu) rfl (Nat.le_of_ble_eq_true rfl) ?_
    refine g_bipush dX5_readLine_13 bp_6 ?_
    refine w_icmp_lt (tgt := 24) dX5_readLine_15 (by decide) ?_ ?_
    · refine g_aload_n dX5_readLine_18 rfl rfl ?_
      refine g_iconst dX5_readLine_19 ic_5 ?_
      refine w_Vyi [.int _] dX5_readLine_20 ml_X5_36 mv_X6_wrong mc_X6_wrong cf_X6 ly_Tape_lt ly_Tape rfl (Nat.le_of_ble_eq_true rfl) (Nat.le_of_ble_eq_true rfl) (Nat.le_of_ble_eq_true rfl) rfl (co_ot_wrong _ _) (fun q1 => ?_)
      exact w_zret dX5_readLine_23 rfl rfl
    · exact g_to (lk_oe_readLine_24 F bu hbu _) (su_s (su_s su_0))
  · exact g_to (lk_oe_readLine_24 F bu hbu _) (su_s (su_s su_0))
theorem co_oe_readLine (F : Nat) (bu : Nat) (hbu : g_isRule bu) (μ : g_St) : g_Con gC 48 yX5_readLine cX5_readLine 2 (some .boolean) [.ref 1, .ref bu] μ (g_yi (oe_readLine F bu μ)) := g_conOf mc_X5_readLine.2.2.2.2 (Nat.le_of_ble_eq_true rfl) rfl (g_yi_rk (Or.inr (Or.inl rfl))) (lk_oe_readLine F bu hbu μ)
theorem dX5_read_0 : decode cX5_read 0 = .ok (.aload_n 1, 1) := by decide +kernel
theorem dX5_read_1 : decode cX5_read 1 = .ok (.invokevirtual 9, 3) := by decide +kernel
theorem dX5_read_4 : decode cX5_read 4 = .ok (.aload_n 0, 1) := by decide +kernel
theorem dX5_read_5 : decode cX5_read 5 = .ok (.invokevirtual 14, 3) := by decide +kernel
theorem dX5_read_8 : decode cX5_read 8 = .ok (.iconst 0, 1) := by decide +kernel
theorem dX5_read_9 : decode cX5_read 9 = .ok (.istore_n 2, 1) := by decide +kernel
theorem dX5_read_10 : decode cX5_read 10 = .ok (.iload_n 2, 1) := by decide +kernel
theorem dX5_read_11 : decode cX5_read 11 = .ok (.sipush 1000, 3) := by decide +kernel
theorem dX5_read_14 : decode cX5_read 14 = .ok (.if_icmp .ge 30, 3) := by decide +kernel
theorem dX5_read_17 : decode cX5_read 17 = .ok (.aload_n 0, 1) := by decide +kernel
theorem dX5_read_18 : decode cX5_read 18 = .ok (.getfield 19, 3) := by decide +kernel
theorem dX5_read_21 : decode cX5_read 21 = .ok (.sipush 202, 3) := by decide +kernel
theorem dX5_read_24 : decode cX5_read 24 = .ok (.if_icmp .eq 20, 3) := by decide +kernel
theorem dX5_read_27 : decode cX5_read 27 = .ok (.aload_n 0, 1) := by decide +kernel
theorem dX5_read_28 : decode cX5_read 28 = .ok (.aload_n 1, 1) := by decide +kernel
theorem dX5_read_29 : decode cX5_read 29 = .ok (.invokestatic 23, 3) := by decide +kernel
theorem dX5_read_32 : decode cX5_read 32 = .ok (.ifCond .ne 6, 3) := by decide +kernel
theorem dX5_read_35 : decode cX5_read 35 = .ok (.goto 9, 3) := by decide +kernel
theorem dX5_read_38 : decode cX5_read 38 = .ok (.iinc 2 1, 3) := by decide +kernel
theorem dX5_read_41 : decode cX5_read 41 = .ok (.goto (-31), 3) := by decide +kernel
theorem dX5_read_44 : decode cX5_read 44 = .ok (.aload_n 0, 1) := by decide +kernel
theorem dX5_read_45 : decode cX5_read 45 = .ok (.invokevirtual 29, 3) := by decide +kernel
theorem dX5_read_48 : decode cX5_read 48 = .ok (.ireturn, 1) := by decide +kernel
theorem lk_oe_read_44 (F : Nat) (bu : Nat) (hbu : g_isRule bu) (μ : g_St) : g_Go gC 49 yX5_read cX5_read 3 (some .int) 44 [some (.ref 1), none, none] [] μ (Option.map o_yi (oe_read_44 F bu μ)) := by
  unfold oe_read_44
  refine g_aload_n dX5_read_44 rfl rfl ?_
  refine w_Vyi [] dX5_read_45 ml_X5_29 mv_X6_close mc_X6_close cf_X6 ly_Tape_lt ly_Tape rfl (Nat.le_of_ble_eq_true rfl) (Nat.le_of_ble_eq_true rfl) (Nat.le_of_ble_eq_true rfl) rfl (co_ot_close _) (fun q4 => ?_)
  exact w_iret dX5_read_48 rfl rfl
theorem lk_oe_read_10_b (F : Nat) (bu : Nat) (hbu : g_isRule bu) (K_10 : Int32 → g_St → Option (Int32 × g_St)) (hK_10 : ∀ (w2 : Int32) (ν : g_St), g_Go gC 49 yX5_read cX5_read 3 (some .int) 10 [some (.ref 1), some (.ref bu), some (.int w2)] [] ν (Option.map o_yi (K_10 w2 ν))) (v2 : Int32) (μ : g_St) : g_Go gC 49 yX5_read cX5_read 3 (some .int) 10 [some (.ref 1), some (.ref bu), some (.int v2)] [] μ (Option.map o_yi (oe_read_10_b F bu K_10 v2 μ)) := by
  unfold oe_read_10_b
  refine g_iload_n dX5_read_10 rfl rfl ?_
  refine g_sipush dX5_read_11 sp_1000 ?_
  refine w_icmp_ge (tgt := 44) dX5_read_14 (by decide) ?_ ?_
  · refine g_aload_n dX5_read_17 rfl rfl ?_
    refine g_getI dX5_read_18 cf_X6 fl_X5_19 ly_Tape_lt ly_Tape rfl (Nat.le_of_ble_eq_true rfl) ?_
    refine g_sipush dX5_read_21 sp_202 ?_
    refine w_icmp_eq (tgt := 44) dX5_read_24 (by decide) ?_ ?_
    · exact g_to (lk_oe_read_44 F bu hbu _) (su_s (su_n (su_n su_0)))
    · refine g_aload_n dX5_read_27 rfl rfl ?_
      refine g_aload_n dX5_read_28 rfl rfl ?_
      refine w_Syi [.ref _, .ref _] dX5_read_29 ml_X5_23 ms_X5_readLine mc_X5_readLine rfl (Nat.le_of_ble_eq_true rfl) (Nat.le_of_ble_eq_true rfl) (Nat.le_of_ble_eq_true rfl) rfl (co_oe_readLine F _ hbu _) (fun q3 => ?_)
      refine w_if_ne (tgt := 38) dX5_read_32 (by decide) ?_ ?_
      · refine g_goto (tgt := 44) dX5_read_35 (by decide) ?_
        exact g_to (lk_oe_read_44 F bu hbu _) (su_s (su_n (su_n su_0)))
      · refine g_iinc (lo2 := [_, _, _]) dX5_read_38 rfl rfl (Nat.le_of_ble_eq_true rfl) rfl rfl ?_
        refine g_goto (tgt := 10) dX5_read_41 (by decide) ?_
        exact g_to (hK_10 _ _) (su_s (su_s (su_s su_0)))
  · exact g_to (lk_oe_read_44 F bu hbu _) (su_s (su_n (su_n su_0)))
theorem lk_oe_read_10 (F : Nat) (bu : Nat) (hbu : g_isRule bu) : ∀ (f : Nat) (v2 : Int32) (μ : g_St) , g_Go gC 49 yX5_read cX5_read 3 (some .int) 10 [some (.ref 1), some (.ref bu), some (.int v2)] [] μ (Option.map o_yi (oe_read_10 F bu f v2 μ))
  | 0, v2, μ => g_none
  | f + 1, v2, μ => lk_oe_read_10_b F bu hbu (oe_read_10 F bu f) (lk_oe_read_10 F bu hbu f) v2 μ
theorem lk_oe_read (F : Nat) (bu : Nat) (hbu : g_isRule bu) (μ : g_St) : g_Go gC 49 yX5_read cX5_read 3 (some .int) 0 [some (.ref 1), some (.ref bu), none] [] μ (Option.map o_yi (oe_read F bu μ)) := by
  unfold oe_read
  refine g_aload_n dX5_read_0 rfl rfl ?_
  refine w_Vyv [] dX5_read_1 ml_X5_9 mv_X4_clear mc_X4_clear cf_X4 (ly_Rule_lt hbu) (ly_Rule hbu) rfl (Nat.le_of_ble_eq_true rfl) (Nat.le_of_ble_eq_true rfl) (Nat.le_of_ble_eq_true rfl) rfl (co_ou_clear _ hbu _) (fun μ1 => ?_)
  refine g_aload_n dX5_read_4 rfl rfl ?_
  refine w_Vyv [] dX5_read_5 ml_X5_14 mv_X6_open mc_X6_open cf_X6 ly_Tape_lt ly_Tape rfl (Nat.le_of_ble_eq_true rfl) (Nat.le_of_ble_eq_true rfl) (Nat.le_of_ble_eq_true rfl) rfl (co_ot_open F _) (fun μ2 => ?_)
  refine g_iconst dX5_read_8 ic_0 ?_
  refine g_istore_n (lo2 := [_, _, _]) dX5_read_9 rfl (Nat.le_of_ble_eq_true rfl) rfl rfl ?_
  exact g_to (lk_oe_read_10 F bu hbu _ _ _) (su_s (su_s (su_s su_0)))
theorem co_oe_read (F : Nat) (bu : Nat) (hbu : g_isRule bu) (μ : g_St) : g_Con gC 49 yX5_read cX5_read 3 (some .int) [.ref 1, .ref bu] μ (g_yi (oe_read F bu μ)) := g_conOf mc_X5_read.2.2.2.2 (Nat.le_of_ble_eq_true rfl) rfl (g_yi_rk (Or.inl rfl)) (lk_oe_read F bu hbu μ)
