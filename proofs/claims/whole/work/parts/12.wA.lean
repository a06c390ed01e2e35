/-! Walks, printed by wip/gen -/
theorem dJ6_numberOfTrailingZeros_0f7a4_0 : decode cJ6_numberOfTrailingZeros_0f7a4 0 = .ok (.iload_n 0, 1) := by decide +kernel
theorem dJ6_numberOfTrailingZeros_0f7a4_1 : decode cJ6_numberOfTrailingZeros_0f7a4 1 = .ok (.iconst (-1), 1) := by decide +kernel
theorem dJ6_numberOfTrailingZeros_0f7a4_2 : decode cJ6_numberOfTrailingZeros_0f7a4 2 = .ok (.ixor, 1) := by decide +kernel
theorem dJ6_numberOfTrailingZeros_0f7a4_3 : decode cJ6_numberOfTrailingZeros_0f7a4 3 = .ok (.iload_n 0, 1) := by decide +kernel
theorem dJ6_numberOfTrailingZeros_0f7a4_4 : decode cJ6_numberOfTrailingZeros_0f7a4 4 = .ok (.iconst 1, 1) := by decide +kernel
theorem dJ6_numberOfTrailingZeros_0f7a4_5 : decode cJ6_numberOfTrailingZeros_0f7a4 5 = .ok (.isub, 1) := by decide +kernel
theorem dJ6_numberOfTrailingZeros_0f7a4_6 : decode cJ6_numberOfTrailingZeros_0f7a4 6 = .ok (.iand, 1) := by decide +kernel
theorem dJ6_numberOfTrailingZeros_0f7a4_7 : decode cJ6_numberOfTrailingZeros_0f7a4 7 = .ok (.istore_n 0, 1) := by decide +kernel
theorem dJ6_numberOfTrailingZeros_0f7a4_8 : decode cJ6_numberOfTrailingZeros_0f7a4 8 = .ok (.iload_n 0, 1) := by decide +kernel
theorem dJ6_numberOfTrailingZeros_0f7a4_9 : decode cJ6_numberOfTrailingZeros_0f7a4 9 = .ok (.ifCond .gt 8, 3) := by decide +kernel
theorem dJ6_numberOfTrailingZeros_0f7a4_12 : decode cJ6_numberOfTrailingZeros_0f7a4 12 = .ok (.iload_n 0, 1) := by decide +kernel
theorem dJ6_numberOfTrailingZeros_0f7a4_13 : decode cJ6_numberOfTrailingZeros_0f7a4 13 = .ok (.bipush 32, 2) := by decide +kernel
theorem dJ6_numberOfTrailingZeros_0f7a4_15 : decode cJ6_numberOfTrailingZeros_0f7a4 15 = .ok (.iand, 1) := by decide +kernel
theorem dJ6_numberOfTrailingZeros_0f7a4_16 : decode cJ6_numberOfTrailingZeros_0f7a4 16 = .ok (.ireturn, 1) := by decide +kernel
theorem dJ6_numberOfTrailingZeros_0f7a4_17 : decode cJ6_numberOfTrailingZeros_0f7a4 17 = .ok (.iconst 1, 1) := by decide +kernel
theorem dJ6_numberOfTrailingZeros_0f7a4_18 : decode cJ6_numberOfTrailingZeros_0f7a4 18 = .ok (.istore_n 1, 1) := by decide +kernel
theorem dJ6_numberOfTrailingZeros_0f7a4_19 : decode cJ6_numberOfTrailingZeros_0f7a4 19 = .ok (.iload_n 0, 1) := by decide +kernel
theorem dJ6_numberOfTrailingZeros_0f7a4_20 : decode cJ6_numberOfTrailingZeros_0f7a4 20 = .ok (.ldc_w 264, 3) := by decide +kernel
theorem dJ6_numberOfTrailingZeros_0f7a4_23 : decode cJ6_numberOfTrailingZeros_0f7a4 23 = .ok (.if_icmp .le 11, 3) := by decide +kernel
theorem dJ6_numberOfTrailingZeros_0f7a4_26 : decode cJ6_numberOfTrailingZeros_0f7a4 26 = .ok (.iinc 1 16, 3) := by decide +kernel
theorem dJ6_numberOfTrailingZeros_0f7a4_29 : decode cJ6_numberOfTrailingZeros_0f7a4 29 = .ok (.iload_n 0, 1) := by decide +kernel
theorem dJ6_numberOfTrailingZeros_0f7a4_30 : decode cJ6_numberOfTrailingZeros_0f7a4 30 = .ok (.bipush 16, 2) := by decide +kernel
theorem dJ6_numberOfTrailingZeros_0f7a4_32 : decode cJ6_numberOfTrailingZeros_0f7a4 32 = .ok (.iushr, 1) := by decide +kernel
theorem dJ6_numberOfTrailingZeros_0f7a4_33 : decode cJ6_numberOfTrailingZeros_0f7a4 33 = .ok (.istore_n 0, 1) := by decide +kernel
theorem dJ6_numberOfTrailingZeros_0f7a4_34 : decode cJ6_numberOfTrailingZeros_0f7a4 34 = .ok (.iload_n 0, 1) := by decide +kernel
theorem dJ6_numberOfTrailingZeros_0f7a4_35 : decode cJ6_numberOfTrailingZeros_0f7a4 35 = .ok (.sipush 256, 3) := by decide +kernel
theorem dJ6_numberOfTrailingZeros_0f7a4_38 : decode cJ6_numberOfTrailingZeros_0f7a4 38 = .ok (.if_icmp .le 11, 3) := by decide +kernel
theorem dJ6_numberOfTrailingZeros_0f7a4_41 : decode cJ6_numberOfTrailingZeros_0f7a4 41 = .ok (.iinc 1 8, 3) := by decide +kernel
theorem dJ6_numberOfTrailingZeros_0f7a4_44 : decode cJ6_numberOfTrailingZeros_0f7a4 44 = .ok (.iload_n 0, 1) := by decide +kernel
theorem dJ6_numberOfTrailingZeros_0f7a4_45 : decode cJ6_numberOfTrailingZeros_0f7a4 45 = .ok (.bipush 8, 2) := by decide +kernel
theorem dJ6_numberOfTrailingZeros_0f7a4_47 : decode cJ6_numberOfTrailingZeros_0f7a4 47 = .ok (.iushr, 1) := by decide +kernel
theorem dJ6_numberOfTrailingZeros_0f7a4_48 : decode cJ6_numberOfTrailingZeros_0f7a4 48 = .ok (.istore_n 0, 1) := by decide +kernel
theorem dJ6_numberOfTrailingZeros_0f7a4_49 : decode cJ6_numberOfTrailingZeros_0f7a4 49 = .ok (.iload_n 0, 1) := by decide +kernel
theorem dJ6_numberOfTrailingZeros_0f7a4_50 : decode cJ6_numberOfTrailingZeros_0f7a4 50 = .ok (.bipush 16, 2) := by decide +kernel
theorem dJ6_numberOfTrailingZeros_0f7a4_52 : decode cJ6_numberOfTrailingZeros_0f7a4 52 = .ok (.if_icmp .le 10, 3) := by decide +kernel
theorem dJ6_numberOfTrailingZeros_0f7a4_55 : decode cJ6_numberOfTrailingZeros_0f7a4 55 = .ok (.iinc 1 4, 3) := by decide +kernel
theorem dJ6_numberOfTrailingZeros_0f7a4_58 : decode cJ6_numberOfTrailingZeros_0f7a4 58 = .ok (.iload_n 0, 1) := by decide +kernel
theorem dJ6_numberOfTrailingZeros_0f7a4_59 : decode cJ6_numberOfTrailingZeros_0f7a4 59 = .ok (.iconst 4, 1) := by decide +kernel
theorem dJ6_numberOfTrailingZeros_0f7a4_60 : decode cJ6_numberOfTrailingZeros_0f7a4 60 = .ok (.iushr, 1) := by decide +kernel
theorem dJ6_numberOfTrailingZeros_0f7a4_61 : decode cJ6_numberOfTrailingZeros_0f7a4 61 = .ok (.istore_n 0, 1) := by decide +kernel
theorem dJ6_numberOfTrailingZeros_0f7a4_62 : decode cJ6_numberOfTrailingZeros_0f7a4 62 = .ok (.iload_n 0, 1) := by decide +kernel
theorem dJ6_numberOfTrailingZeros_0f7a4_63 : decode cJ6_numberOfTrailingZeros_0f7a4 63 = .ok (.iconst 4, 1) := by decide +kernel
theorem dJ6_numberOfTrailingZeros_0f7a4_64 : decode cJ6_numberOfTrailingZeros_0f7a4 64 = .ok (.if_icmp .le 10, 3) := by decide +kernel
theorem dJ6_numberOfTrailingZeros_0f7a4_67 : decode cJ6_numberOfTrailingZeros_0f7a4 67 = .ok (.iinc 1 2, 3) := by decide +kernel
theorem dJ6_numberOfTrailingZeros_0f7a4_70 : decode cJ6_numberOfTrailingZeros_0f7a4 70 = .ok (.iload_n 0, 1) := by decide +kernel
theorem dJ6_numberOfTrailingZeros_0f7a4_71 : decode cJ6_numberOfTrailingZeros_0f7a4 71 = .ok (.iconst 2, 1) := by decide +kernel
theorem dJ6_numberOfTrailingZeros_0f7a4_72 : decode cJ6_numberOfTrailingZeros_0f7a4 72 = .ok (.iushr, 1) := by decide +kernel
theorem dJ6_numberOfTrailingZeros_0f7a4_73 : decode cJ6_numberOfTrailingZeros_0f7a4 73 = .ok (.istore_n 0, 1) := by decide +kernel
theorem dJ6_numberOfTrailingZeros_0f7a4_74 : decode cJ6_numberOfTrailingZeros_0f7a4 74 = .ok (.iload_n 1, 1) := by decide +kernel
theorem dJ6_numberOfTrailingZeros_0f7a4_75 : decode cJ6_numberOfTrailingZeros_0f7a4 75 = .ok (.iload_n 0, 1) := by decide +kernel
theorem dJ6_numberOfTrailingZeros_0f7a4_76 : decode cJ6_numberOfTrailingZeros_0f7a4 76 = .ok (.iconst 1, 1) := by decide +kernel
theorem dJ6_numberOfTrailingZeros_0f7a4_77 : decode cJ6_numberOfTrailingZeros_0f7a4 77 = .ok (.iushr, 1) := by decide +kernel
theorem dJ6_numberOfTrailingZeros_0f7a4_78 : decode cJ6_numberOfTrailingZeros_0f7a4 78 = .ok (.iadd, 1) := by decide +kernel
theorem dJ6_numberOfTrailingZeros_0f7a4_79 : decode cJ6_numberOfTrailingZeros_0f7a4 79 = .ok (.ireturn, 1) := by decide +kernel
theorem lk_jj_numberOfTrailingZeros_62 (Λ : g_Lay) (μ : g_St) (v0 : Int32) (v1 : Int32) : g_Go Λ 0 yJ6_numberOfTrailingZeros_0f7a4 cJ6_numberOfTrailingZeros_0f7a4 2 (some .int) 62 [some (.int v0), some (.int v1)] [] μ (Option.map (o_i μ) (jj_numberOfTrailingZeros_62 μ v0 v1 )) := by
  unfold jj_numberOfTrailingZeros_62
  refine g_iload_n dJ6_numberOfTrailingZeros_0f7a4_62 rfl rfl ?_
  refine g_iconst dJ6_numberOfTrailingZeros_0f7a4_63 ic_4 ?_
  refine w_icmp_le (tgt := 74) dJ6_numberOfTrailingZeros_0f7a4_64 (by decide) ?_ ?_
  · refine g_iinc (lo2 := [_, _]) dJ6_numberOfTrailingZeros_0f7a4_67 rfl rfl (Nat.le_of_ble_eq_true rfl) rfl rfl ?_
    refine g_iload_n dJ6_numberOfTrailingZeros_0f7a4_70 rfl rfl ?_
    refine g_iconst dJ6_numberOfTrailingZeros_0f7a4_71 ic_2 ?_
    refine g_iushr dJ6_numberOfTrailingZeros_0f7a4_72 ?_
    refine w_istore_n (lo2 := fun _ => [_, _]) dJ6_numberOfTrailingZeros_0f7a4_73 rfl (Nat.le_of_ble_eq_true rfl) rfl (fun _ => rfl) (fun x5 => ?_)
    refine g_iload_n dJ6_numberOfTrailingZeros_0f7a4_74 rfl rfl ?_
    refine g_iload_n dJ6_numberOfTrailingZeros_0f7a4_75 rfl rfl ?_
    refine g_iconst dJ6_numberOfTrailingZeros_0f7a4_76 ic_1 ?_
    refine g_iushr dJ6_numberOfTrailingZeros_0f7a4_77 ?_
    refine g_iadd dJ6_numberOfTrailingZeros_0f7a4_78 ?_
    exact w_iret dJ6_numberOfTrailingZeros_0f7a4_79 rfl rfl
  · refine g_iload_n dJ6_numberOfTrailingZeros_0f7a4_74 rfl rfl ?_
    refine g_iload_n dJ6_numberOfTrailingZeros_0f7a4_75 rfl rfl ?_
    refine g_iconst dJ6_numberOfTrailingZeros_0f7a4_76 ic_1 ?_
    refine g_iushr dJ6_numberOfTrailingZeros_0f7a4_77 ?_
    refine g_iadd dJ6_numberOfTrailingZeros_0f7a4_78 ?_
    exact w_iret dJ6_numberOfTrailingZeros_0f7a4_79 rfl rfl
theorem lk_jj_numberOfTrailingZeros_49 (Λ : g_Lay) (μ : g_St) (v0 : Int32) (v1 : Int32) : g_Go Λ 0 yJ6_numberOfTrailingZeros_0f7a4 cJ6_numberOfTrailingZeros_0f7a4 2 (some .int) 49 [some (.int v0), some (.int v1)] [] μ (Option.map (o_i μ) (jj_numberOfTrailingZeros_49 μ v0 v1 )) := by
  unfold jj_numberOfTrailingZeros_49
  refine g_iload_n dJ6_numberOfTrailingZeros_0f7a4_49 rfl rfl ?_
  refine g_bipush dJ6_numberOfTrailingZeros_0f7a4_50 bp_16 ?_
  refine w_icmp_le (tgt := 62) dJ6_numberOfTrailingZeros_0f7a4_52 (by decide) ?_ ?_
  · refine g_iinc (lo2 := [_, _]) dJ6_numberOfTrailingZeros_0f7a4_55 rfl rfl (Nat.le_of_ble_eq_true rfl) rfl rfl ?_
    refine g_iload_n dJ6_numberOfTrailingZeros_0f7a4_58 rfl rfl ?_
    refine g_iconst dJ6_numberOfTrailingZeros_0f7a4_59 ic_4 ?_
    refine g_iushr dJ6_numberOfTrailingZeros_0f7a4_60 ?_
    refine w_istore_n (lo2 := fun _ => [_, _]) dJ6_numberOfTrailingZeros_0f7a4_61 rfl (Nat.le_of_ble_eq_true rfl) rfl (fun _ => rfl) (fun x4 => ?_)
    exact g_to (lk_jj_numberOfTrailingZeros_62 Λ μ _ _) (su_s (su_s su_0))
  · exact g_to (lk_jj_numberOfTrailingZeros_62 Λ μ _ _) (su_s (su_s su_0))
theorem lk_jj_numberOfTrailingZeros_34 (Λ : g_Lay) (μ : g_St) (v0 : Int32) (v1 : Int32) : g_Go Λ 0 yJ6_numberOfTrailingZeros_0f7a4 cJ6_numberOfTrailingZeros_0f7a4 2 (some .int) 34 [some (.int v0), some (.int v1)] [] μ (Option.map (o_i μ) (jj_numberOfTrailingZeros_34 μ v0 v1 )) := by
  unfold jj_numberOfTrailingZeros_34
  refine g_iload_n dJ6_numberOfTrailingZeros_0f7a4_34 rfl rfl ?_
  refine g_sipush dJ6_numberOfTrailingZeros_0f7a4_35 sp_256 ?_
  refine w_icmp_le (tgt := 49) dJ6_numberOfTrailingZeros_0f7a4_38 (by decide) ?_ ?_
  · refine g_iinc (lo2 := [_, _]) dJ6_numberOfTrailingZeros_0f7a4_41 rfl rfl (Nat.le_of_ble_eq_true rfl) rfl rfl ?_
    refine g_iload_n dJ6_numberOfTrailingZeros_0f7a4_44 rfl rfl ?_
    refine g_bipush dJ6_numberOfTrailingZeros_0f7a4_45 bp_8 ?_
    refine g_iushr dJ6_numberOfTrailingZeros_0f7a4_47 ?_
    refine w_istore_n (lo2 := fun _ => [_, _]) dJ6_numberOfTrailingZeros_0f7a4_48 rfl (Nat.le_of_ble_eq_true rfl) rfl (fun _ => rfl) (fun x3 => ?_)
    exact g_to (lk_jj_numberOfTrailingZeros_49 Λ μ _ _) (su_s (su_s su_0))
  · exact g_to (lk_jj_numberOfTrailingZeros_49 Λ μ _ _) (su_s (su_s su_0))
theorem lk_jj_numberOfTrailingZeros (Λ : g_Lay) (μ : g_St) (v0 : Int32) : g_Go Λ 0 yJ6_numberOfTrailingZeros_0f7a4 cJ6_numberOfTrailingZeros_0f7a4 2 (some .int) 0 [some (.int v0), none] [] μ (Option.map (o_i μ) (jj_numberOfTrailingZeros μ v0)) := by
  unfold jj_numberOfTrailingZeros
  refine g_iload_n dJ6_numberOfTrailingZeros_0f7a4_0 rfl rfl ?_
  refine g_iconst dJ6_numberOfTrailingZeros_0f7a4_1 ic_m1 ?_
  refine g_ixor dJ6_numberOfTrailingZeros_0f7a4_2 ?_
  refine g_iload_n dJ6_numberOfTrailingZeros_0f7a4_3 rfl rfl ?_
  refine g_iconst dJ6_numberOfTrailingZeros_0f7a4_4 ic_1 ?_
  refine g_isub dJ6_numberOfTrailingZeros_0f7a4_5 ?_
  refine g_iand dJ6_numberOfTrailingZeros_0f7a4_6 ?_
  refine w_istore_n (lo2 := fun _ => [_, _]) dJ6_numberOfTrailingZeros_0f7a4_7 rfl (Nat.le_of_ble_eq_true rfl) rfl (fun _ => rfl) (fun x1 => ?_)
  refine g_iload_n dJ6_numberOfTrailingZeros_0f7a4_8 rfl rfl ?_
  refine w_if_gt (tgt := 17) dJ6_numberOfTrailingZeros_0f7a4_9 (by decide) ?_ ?_
  · refine g_iload_n dJ6_numberOfTrailingZeros_0f7a4_12 rfl rfl ?_
    refine g_bipush dJ6_numberOfTrailingZeros_0f7a4_13 bp_32 ?_
    refine g_iand dJ6_numberOfTrailingZeros_0f7a4_15 ?_
    exact w_iret dJ6_numberOfTrailingZeros_0f7a4_16 rfl rfl
  · refine g_iconst dJ6_numberOfTrailingZeros_0f7a4_17 ic_1 ?_
    refine g_istore_n (lo2 := [_, _]) dJ6_numberOfTrailingZeros_0f7a4_18 rfl (Nat.le_of_ble_eq_true rfl) rfl rfl ?_
    refine g_iload_n dJ6_numberOfTrailingZeros_0f7a4_19 rfl rfl ?_
    refine g_ldcw dJ6_numberOfTrailingZeros_0f7a4_20 kc_J6_264 ?_
    refine w_icmp_le (tgt := 34) dJ6_numberOfTrailingZeros_0f7a4_23 (by decide) ?_ ?_
    · refine g_iinc (lo2 := [_, _]) dJ6_numberOfTrailingZeros_0f7a4_26 rfl rfl (Nat.le_of_ble_eq_true rfl) rfl rfl ?_
      refine g_iload_n dJ6_numberOfTrailingZeros_0f7a4_29 rfl rfl ?_
      refine g_bipush dJ6_numberOfTrailingZeros_0f7a4_30 bp_16 ?_
      refine g_iushr dJ6_numberOfTrailingZeros_0f7a4_32 ?_
      refine w_istore_n (lo2 := fun _ => [_, _]) dJ6_numberOfTrailingZeros_0f7a4_33 rfl (Nat.le_of_ble_eq_true rfl) rfl (fun _ => rfl) (fun x2 => ?_)
      exact g_to (lk_jj_numberOfTrailingZeros_34 Λ μ _ _) (su_s (su_s su_0))
    · exact g_to (lk_jj_numberOfTrailingZeros_34 Λ μ _ _) (su_s (su_s su_0))
theorem co_jj_numberOfTrailingZeros (Λ : g_Lay) (μ : g_St) (v0 : Int32) : g_Con Λ 0 yJ6_numberOfTrailingZeros_0f7a4 cJ6_numberOfTrailingZeros_0f7a4 2 (some .int) [.int v0] μ (g_xi μ (jj_numberOfTrailingZeros μ v0)) := g_conOf mc_J6_numberOfTrailingZeros_0f7a4.2.2.2.2 (Nat.le_of_ble_eq_true rfl) rfl (g_xi_rk (Or.inl rfl)) (lk_jj_numberOfTrailingZeros Λ μ v0)
theorem dJ6_bitCount_0f7a4_0 : decode cJ6_bitCount_0f7a4 0 = .ok (.iload_n 0, 1) := by decide +kernel
theorem dJ6_bitCount_0f7a4_1 : decode cJ6_bitCount_0f7a4 1 = .ok (.iload_n 0, 1) := by decide +kernel
theorem dJ6_bitCount_0f7a4_2 : decode cJ6_bitCount_0f7a4 2 = .ok (.iconst 1, 1) := by decide +kernel
theorem dJ6_bitCount_0f7a4_3 : decode cJ6_bitCount_0f7a4 3 = .ok (.iushr, 1) := by decide +kernel
theorem dJ6_bitCount_0f7a4_4 : decode cJ6_bitCount_0f7a4 4 = .ok (.ldc_w 265, 3) := by decide +kernel
theorem dJ6_bitCount_0f7a4_7 : decode cJ6_bitCount_0f7a4 7 = .ok (.iand, 1) := by decide +kernel
theorem dJ6_bitCount_0f7a4_8 : decode cJ6_bitCount_0f7a4 8 = .ok (.isub, 1) := by decide +kernel
theorem dJ6_bitCount_0f7a4_9 : decode cJ6_bitCount_0f7a4 9 = .ok (.istore_n 0, 1) := by decide +kernel
theorem dJ6_bitCount_0f7a4_10 : decode cJ6_bitCount_0f7a4 10 = .ok (.iload_n 0, 1) := by decide +kernel
theorem dJ6_bitCount_0f7a4_11 : decode cJ6_bitCount_0f7a4 11 = .ok (.ldc_w 266, 3) := by decide +kernel
theorem dJ6_bitCount_0f7a4_14 : decode cJ6_bitCount_0f7a4 14 = .ok (.iand, 1) := by decide +kernel
theorem dJ6_bitCount_0f7a4_15 : decode cJ6_bitCount_0f7a4 15 = .ok (.iload_n 0, 1) := by decide +kernel
theorem dJ6_bitCount_0f7a4_16 : decode cJ6_bitCount_0f7a4 16 = .ok (.iconst 2, 1) := by decide +kernel
theorem dJ6_bitCount_0f7a4_17 : decode cJ6_bitCount_0f7a4 17 = .ok (.iushr, 1) := by decide +kernel
theorem dJ6_bitCount_0f7a4_18 : decode cJ6_bitCount_0f7a4 18 = .ok (.ldc_w 266, 3) := by decide +kernel
theorem dJ6_bitCount_0f7a4_21 : decode cJ6_bitCount_0f7a4 21 = .ok (.iand, 1) := by decide +kernel
theorem dJ6_bitCount_0f7a4_22 : decode cJ6_bitCount_0f7a4 22 = .ok (.iadd, 1) := by decide +kernel
theorem dJ6_bitCount_0f7a4_23 : decode cJ6_bitCount_0f7a4 23 = .ok (.istore_n 0, 1) := by decide +kernel
theorem dJ6_bitCount_0f7a4_24 : decode cJ6_bitCount_0f7a4 24 = .ok (.iload_n 0, 1) := by decide +kernel
theorem dJ6_bitCount_0f7a4_25 : decode cJ6_bitCount_0f7a4 25 = .ok (.iload_n 0, 1) := by decide +kernel
theorem dJ6_bitCount_0f7a4_26 : decode cJ6_bitCount_0f7a4 26 = .ok (.iconst 4, 1) := by decide +kernel
theorem dJ6_bitCount_0f7a4_27 : decode cJ6_bitCount_0f7a4 27 = .ok (.iushr, 1) := by decide +kernel
theorem dJ6_bitCount_0f7a4_28 : decode cJ6_bitCount_0f7a4 28 = .ok (.iadd, 1) := by decide +kernel
theorem dJ6_bitCount_0f7a4_29 : decode cJ6_bitCount_0f7a4 29 = .ok (.ldc_w 267, 3) := by decide +kernel
theorem dJ6_bitCount_0f7a4_32 : decode cJ6_bitCount_0f7a4 32 = .ok (.iand, 1) := by decide +kernel
theorem dJ6_bitCount_0f7a4_33 : decode cJ6_bitCount_0f7a4 33 = .ok (.istore_n 0, 1) := by decide +kernel
theorem dJ6_bitCount_0f7a4_34 : decode cJ6_bitCount_0f7a4 34 = .ok (.iload_n 0, 1) := by decide +kernel
theorem dJ6_bitCount_0f7a4_35 : decode cJ6_bitCount_0f7a4 35 = .ok (.iload_n 0, 1) := by decide +kernel
theorem dJ6_bitCount_0f7a4_36 : decode cJ6_bitCount_0f7a4 36 = .ok (.bipush 8, 2) := by decide +kernel
theorem dJ6_bitCount_0f7a4_38 : decode cJ6_bitCount_0f7a4 38 = .ok (.iushr, 1) := by decide +kernel
theorem dJ6_bitCount_0f7a4_39 : decode cJ6_bitCount_0f7a4 39 = .ok (.iadd, 1) := by decide +kernel
theorem dJ6_bitCount_0f7a4_40 : decode cJ6_bitCount_0f7a4 40 = .ok (.istore_n 0, 1) := by decide +kernel
theorem dJ6_bitCount_0f7a4_41 : decode cJ6_bitCount_0f7a4 41 = .ok (.iload_n 0, 1) := by decide +kernel
theorem dJ6_bitCount_0f7a4_42 : decode cJ6_bitCount_0f7a4 42 = .ok (.iload_n 0, 1) := by decide +kernel
theorem dJ6_bitCount_0f7a4_43 : decode cJ6_bitCount_0f7a4 43 = .ok (.bipush 16, 2) := by decide +kernel
theorem dJ6_bitCount_0f7a4_45 : decode cJ6_bitCount_0f7a4 45 = .ok (.iushr, 1) := by decide +kernel
theorem dJ6_bitCount_0f7a4_46 : decode cJ6_bitCount_0f7a4 46 = .ok (.iadd, 1) := by decide +kernel
theorem dJ6_bitCount_0f7a4_47 : decode cJ6_bitCount_0f7a4 47 = .ok (.istore_n 0, 1) := by decide +kernel
theorem dJ6_bitCount_0f7a4_48 : decode cJ6_bitCount_0f7a4 48 = .ok (.iload_n 0, 1) := by decide +kernel
theorem dJ6_bitCount_0f7a4_49 : decode cJ6_bitCount_0f7a4 49 = .ok (.bipush 63, 2) := by decide +kernel
theorem dJ6_bitCount_0f7a4_51 : decode cJ6_bitCount_0f7a4 51 = .ok (.iand, 1) := by decide +kernel
theorem dJ6_bitCount_0f7a4_52 : decode cJ6_bitCount_0f7a4 52 = .ok (.ireturn, 1) := by decide +kernel
theorem lk_jj_bitCount (Λ : g_Lay) (μ : g_St) (v0 : Int32) : g_Go Λ 0 yJ6_bitCount_0f7a4 cJ6_bitCount_0f7a4 1 (some .int) 0 [some (.int v0)] [] μ (Option.map (o_i μ) (jj_bitCount μ v0)) := by
  unfold jj_bitCount
  refine g_iload_n dJ6_bitCount_0f7a4_0 rfl rfl ?_
  refine g_iload_n dJ6_bitCount_0f7a4_1 rfl rfl ?_
  refine g_iconst dJ6_bitCount_0f7a4_2 ic_1 ?_
  refine g_iushr dJ6_bitCount_0f7a4_3 ?_
  refine g_ldcw dJ6_bitCount_0f7a4_4 kc_J6_265 ?_
  refine g_iand dJ6_bitCount_0f7a4_7 ?_
  refine g_isub dJ6_bitCount_0f7a4_8 ?_
  refine w_istore_n (lo2 := fun _ => [_]) dJ6_bitCount_0f7a4_9 rfl (Nat.le_of_ble_eq_true rfl) rfl (fun _ => rfl) (fun x1 => ?_)
  refine g_iload_n dJ6_bitCount_0f7a4_10 rfl rfl ?_
  refine g_ldcw dJ6_bitCount_0f7a4_11 kc_J6_266 ?_
  refine g_iand dJ6_bitCount_0f7a4_14 ?_
  refine g_iload_n dJ6_bitCount_0f7a4_15 rfl rfl ?_
  refine g_iconst dJ6_bitCount_0f7a4_16 ic_2 ?_
  refine g_iushr dJ6_bitCount_0f7a4_17 ?_
  refine g_ldcw dJ6_bitCount_0f7a4_18 kc_J6_266 ?_
  refine g_iand dJ6_bitCount_0f7a4_21 ?_
  refine g_iadd dJ6_bitCount_0f7a4_22 ?_
  refine w_istore_n (lo2 := fun _ => [_]) dJ6_bitCount_0f7a4_23 rfl (Nat.le_of_ble_eq_true rfl) rfl (fun _ => rfl) (fun x2 => ?_)
  refine g_iload_n dJ6_bitCount_0f7a4_24 rfl rfl ?_
  refine g_iload_n dJ6_bitCount_0f7a4_25 rfl rfl ?_
  refine g_iconst dJ6_bitCount_0f7a4_26 ic_4 ?_
  refine g_iushr dJ6_bitCount_0f7a4_27 ?_
  refine g_iadd dJ6_bitCount_0f7a4_28 ?_
  refine g_ldcw dJ6_bitCount_0f7a4_29 kc_J6_267 ?_
  refine g_iand dJ6_bitCount_0f7a4_32 ?_
  refine w_istore_n (lo2 := fun _ => [_]) dJ6_bitCount_0f7a4_33 rfl (Nat.le_of_ble_eq_true rfl) rfl (fun _ => rfl) (fun x3 => ?_)
  refine g_iload_n dJ6_bitCount_0f7a4_34 rfl rfl ?_
  refine g_iload_n dJ6_bitCount_0f7a4_35 rfl rfl ?_
  refine g_bipush dJ6_bitCount_0f7a4_36 bp_8 ?_
  refine g_iushr dJ6_bitCount_0f7a4_38 ?_
  refine g_iadd dJ6_bitCount_0f7a4_39 ?_
  refine w_istore_n (lo2 := fun _ => [_]) dJ6_bitCount_0f7a4_40 rfl (Nat.le_of_ble_eq_true rfl) rfl (fun _ => rfl) (fun x4 => ?_)
  refine g_iload_n dJ6_bitCount_0f7a4_41 rfl rfl ?_
  refine g_iload_n dJ6_bitCount_0f7a4_42 rfl rfl ?_
  refine g_bipush dJ6_bitCount_0f7a4_43 bp_16 ?_
  refine g_iushr dJ6_bitCount_0f7a4_45 ?_
  refine g_iadd dJ6_bitCount_0f7a4_46 ?_
  refine w_istore_n (lo2 := fun _ => [_]) dJ6_bitCount_0f7a4_47 rfl (Nat.le_of_ble_eq_true rfl) rfl (fun _ => rfl) (fun x5 => ?_)
  refine g_iload_n dJ6_bitCount_0f7a4_48 rfl rfl ?_
  refine g_bipush dJ6_bitCount_0f7a4_49 bp_63 ?_
  refine g_iand dJ6_bitCount_0f7a4_51 ?_
  exact w_iret dJ6_bitCount_0f7a4_52 rfl rfl
theorem co_jj_bitCount (Λ : g_Lay) (μ : g_St) (v0 : Int32) : g_Con Λ 0 yJ6_bitCount_0f7a4 cJ6_bitCount_0f7a4 1 (some .int) [.int v0] μ (g_xi μ (jj_bitCount μ v0)) := g_conOf mc_J6_bitCount_0f7a4.2.2.2.2 (Nat.le_of_ble_eq_true rfl) rfl (g_xi_rk (Or.inl rfl)) (lk_jj_bitCount Λ μ v0)
theorem dJ1_canEncode_9a6ad_0 : decode cJ1_canEncode_9a6ad 0 = .ok (.iload_n 0, 1) := by decide +kernel
theorem dJ1_canEncode_9a6ad_1 : decode cJ1_canEncode_9a6ad 1 = .ok (.ifCond .lt 14, 3) := by decide +kernel
theorem dJ1_canEncode_9a6ad_4 : decode cJ1_canEncode_9a6ad 4 = .ok (.iload_n 0, 1) := by decide +kernel
theorem dJ1_canEncode_9a6ad_5 : decode cJ1_canEncode_9a6ad 5 = .ok (.sipush 255, 3) := by decide +kernel
theorem dJ1_canEncode_9a6ad_8 : decode cJ1_canEncode_9a6ad 8 = .ok (.if_icmp .gt 7, 3) := by decide +kernel
theorem dJ1_canEncode_9a6ad_11 : decode cJ1_canEncode_9a6ad 11 = .ok (.iconst 1, 1) := by decide +kernel
theorem dJ1_canEncode_9a6ad_12 : decode cJ1_canEncode_9a6ad 12 = .ok (.goto 4, 3) := by decide +kernel
theorem dJ1_canEncode_9a6ad_15 : decode cJ1_canEncode_9a6ad 15 = .ok (.iconst 0, 1) := by decide +kernel
theorem dJ1_canEncode_9a6ad_16 : decode cJ1_canEncode_9a6ad 16 = .ok (.ireturn, 1) := by decide +kernel
theorem lk_jl_canEncode (Λ : g_Lay) (μ : g_St) (v0 : Int32) : g_Go Λ 0 yJ1_canEncode_9a6ad cJ1_canEncode_9a6ad 1 (some .boolean) 0 [some (.int v0)] [] μ (Option.map (o_i μ) (jl_canEncode μ v0)) := by
  unfold jl_canEncode
  refine g_iload_n dJ1_canEncode_9a6ad_0 rfl rfl ?_
  refine w_if_lt (tgt := 15) dJ1_canEncode_9a6ad_1 (by decide) ?_ ?_
  · refine g_iload_n dJ1_canEncode_9a6ad_4 rfl rfl ?_
    refine g_sipush dJ1_canEncode_9a6ad_5 sp_255 ?_
    refine w_icmp_gt (tgt := 15) dJ1_canEncode_9a6ad_8 (by decide) ?_ ?_
    · refine g_iconst dJ1_canEncode_9a6ad_11 ic_1 ?_
      refine g_goto (tgt := 16) dJ1_canEncode_9a6ad_12 (by decide) ?_
      exact w_iret dJ1_canEncode_9a6ad_16 (by decide) rfl
    · refine g_iconst dJ1_canEncode_9a6ad_15 ic_0 ?_
      exact w_iret dJ1_canEncode_9a6ad_16 (by decide) rfl
  · refine g_iconst dJ1_canEncode_9a6ad_15 ic_0 ?_
    exact w_iret dJ1_canEncode_9a6ad_16 (by decide) rfl
theorem co_jl_canEncode (Λ : g_Lay) (μ : g_St) (v0 : Int32) : g_Con Λ 0 yJ1_canEncode_9a6ad cJ1_canEncode_9a6ad 1 (some .boolean) [.int v0] μ (g_xi μ (jl_canEncode μ v0)) := g_conOf mc_J1_canEncode_9a6ad.2.2.2.2 (Nat.le_of_ble_eq_true rfl) rfl (g_xi_rk (Or.inr (Or.inl rfl))) (lk_jl_canEncode Λ μ v0)
theorem dJ1_indexOfChar_4cfef_0 : decode cJ1_indexOfChar_4cfef 0 = .ok (.iload_n 1, 1) := by decide +kernel
theorem dJ1_indexOfChar_4cfef_1 : decode cJ1_indexOfChar_4cfef 1 = .ok (.i2b, 1) := by decide +kernel
theorem dJ1_indexOfChar_4cfef_2 : decode cJ1_indexOfChar_4cfef 2 = .ok (.istore 4, 2) := by decide +kernel
theorem dJ1_indexOfChar_4cfef_4 : decode cJ1_indexOfChar_4cfef 4 = .ok (.iload_n 2, 1) := by decide +kernel
theorem dJ1_indexOfChar_4cfef_5 : decode cJ1_indexOfChar_4cfef 5 = .ok (.istore 5, 2) := by decide +kernel
theorem dJ1_indexOfChar_4cfef_7 : decode cJ1_indexOfChar_4cfef 7 = .ok (.iload 5, 2) := by decide +kernel
theorem dJ1_indexOfChar_4cfef_9 : decode cJ1_indexOfChar_4cfef 9 = .ok (.iload_n 3, 1) := by decide +kernel
theorem dJ1_indexOfChar_4cfef_10 : decode cJ1_indexOfChar_4cfef 10 = .ok (.if_icmp .ge 21, 3) := by decide +kernel
theorem dJ1_indexOfChar_4cfef_13 : decode cJ1_indexOfChar_4cfef 13 = .ok (.aload_n 0, 1) := by decide +kernel
theorem dJ1_indexOfChar_4cfef_14 : decode cJ1_indexOfChar_4cfef 14 = .ok (.iload 5, 2) := by decide +kernel
theorem dJ1_indexOfChar_4cfef_16 : decode cJ1_indexOfChar_4cfef 16 = .ok (.baload, 1) := by decide +kernel
theorem dJ1_indexOfChar_4cfef_17 : decode cJ1_indexOfChar_4cfef 17 = .ok (.iload 4, 2) := by decide +kernel
theorem dJ1_indexOfChar_4cfef_19 : decode cJ1_indexOfChar_4cfef 19 = .ok (.if_icmp .ne 6, 3) := by decide +kernel
theorem dJ1_indexOfChar_4cfef_22 : decode cJ1_indexOfChar_4cfef 22 = .ok (.iload 5, 2) := by decide +kernel
theorem dJ1_indexOfChar_4cfef_24 : decode cJ1_indexOfChar_4cfef 24 = .ok (.ireturn, 1) := by decide +kernel
theorem dJ1_indexOfChar_4cfef_25 : decode cJ1_indexOfChar_4cfef 25 = .ok (.iinc 5 1, 3) := by decide +kernel
theorem dJ1_indexOfChar_4cfef_28 : decode cJ1_indexOfChar_4cfef 28 = .ok (.goto (-21), 3) := by decide +kernel
theorem dJ1_indexOfChar_4cfef_31 : decode cJ1_indexOfChar_4cfef 31 = .ok (.iconst (-1), 1) := by decide +kernel
theorem dJ1_indexOfChar_4cfef_32 : decode cJ1_indexOfChar_4cfef 32 = .ok (.ireturn, 1) := by decide +kernel
theorem lk_jl_indexOfChar_7_b (Λ : g_Lay) (F : Nat) (i : Nat) (hi : i < 2) (μ : g_St) (v3 : Int32) (v4 : Int32) (K_7 : Int32 → Option Int32) (hK_7 : ∀ (w5 : Int32), g_Go Λ 0 yJ1_indexOfChar_4cfef cJ1_indexOfChar_4cfef 6 (some .int) 7 [some (.ref (901 + 2 * i)), none, none, some (.int v3), some (.int v4), some (.int w5)] [] μ (Option.map (o_i μ) (K_7 w5))) (v5 : Int32) : g_Go Λ 0 yJ1_indexOfChar_4cfef cJ1_indexOfChar_4cfef 6 (some .int) 7 [some (.ref (901 + 2 * i)), none, none, some (.int v3), some (.int v4), some (.int v5)] [] μ (Option.map (o_i μ) (jl_indexOfChar_7_b F i μ v3 v4 K_7 v5 )) := by
  unfold jl_indexOfChar_7_b
  refine g_iload dJ1_indexOfChar_4cfef_7 rfl ?_
  refine g_iload_n dJ1_indexOfChar_4cfef_9 rfl rfl ?_
  refine w_icmp_ge (tgt := 31) dJ1_indexOfChar_4cfef_10 (by decide) ?_ ?_
  · refine g_aload_n dJ1_indexOfChar_4cfef_13 rfl rfl ?_
    refine g_iload dJ1_indexOfChar_4cfef_14 rfl ?_
    refine w_sbld (i := i) hi dJ1_indexOfChar_4cfef_16 (fun x1 => ?_)
    refine g_iload dJ1_indexOfChar_4cfef_17 rfl ?_
    refine w_icmp_ne (tgt := 25) dJ1_indexOfChar_4cfef_19 (by decide) ?_ ?_
    · refine g_iload dJ1_indexOfChar_4cfef_22 rfl ?_
      exact w_iret dJ1_indexOfChar_4cfef_24 rfl rfl
    · refine g_iinc (lo2 := [_, _, _, _, _, _]) dJ1_indexOfChar_4cfef_25 rfl rfl (Nat.le_of_ble_eq_true rfl) rfl rfl ?_
      refine g_goto (tgt := 7) dJ1_indexOfChar_4cfef_28 (by decide) ?_
      exact g_to (hK_7 _) (su_s (su_n (su_n (su_s (su_s (su_s su_0))))))
  · refine g_iconst dJ1_indexOfChar_4cfef_31 ic_m1 ?_
    exact w_iret dJ1_indexOfChar_4cfef_32 rfl rfl
theorem lk_jl_indexOfChar_7 (Λ : g_Lay) (F : Nat) (i : Nat) (hi : i < 2) (μ : g_St) (v3 : Int32) (v4 : Int32) : ∀ (f : Nat) (v5 : Int32) , g_Go Λ 0 yJ1_indexOfChar_4cfef cJ1_indexOfChar_4cfef 6 (some .int) 7 [some (.ref (901 + 2 * i)), none, none, some (.int v3), some (.int v4), some (.int v5)] [] μ (Option.map (o_i μ) (jl_indexOfChar_7 F i μ v3 v4 f v5 ))
  | 0, v5 => g_none
  | f + 1, v5 => lk_jl_indexOfChar_7_b Λ F i hi μ v3 v4 (jl_indexOfChar_7 F i μ v3 v4 f) (lk_jl_indexOfChar_7 Λ F i hi μ v3 v4 f) v5 
theorem lk_jl_indexOfChar (Λ : g_Lay) (F : Nat) (i : Nat) (hi : i < 2) (μ : g_St) (v1 : Int32) (v2 : Int32) (v3 : Int32) : g_Go Λ 0 yJ1_indexOfChar_4cfef cJ1_indexOfChar_4cfef 6 (some .int) 0 [some (.ref (901 + 2 * i)), some (.int v1), some (.int v2), some (.int v3), none, none] [] μ (Option.map (o_i μ) (jl_indexOfChar F i μ v1 v2 v3)) := by
  unfold jl_indexOfChar
  refine g_iload_n dJ1_indexOfChar_4cfef_0 rfl rfl ?_
  refine g_i2b dJ1_indexOfChar_4cfef_1 ?_
  refine g_istore (lo2 := [_, _, _, _, _, _]) dJ1_indexOfChar_4cfef_2 (Nat.le_of_ble_eq_true rfl) rfl rfl ?_
  refine g_iload_n dJ1_indexOfChar_4cfef_4 rfl rfl ?_
  refine g_istore (lo2 := [_, _, _, _, _, _]) dJ1_indexOfChar_4cfef_5 (Nat.le_of_ble_eq_true rfl) rfl rfl ?_
  exact g_to (lk_jl_indexOfChar_7 Λ F i hi μ _ _ _ _) (su_s (su_n (su_n (su_s (su_s (su_s su_0))))))
theorem co_jl_indexOfChar (Λ : g_Lay) (F : Nat) (i : Nat) (hi : i < 2) (μ : g_St) (v1 : Int32) (v2 : Int32) (v3 : Int32) : g_Con Λ 0 yJ1_indexOfChar_4cfef cJ1_indexOfChar_4cfef 6 (some .int) [.ref (901 + 2 * i), .int v1, .int v2, .int v3] μ (g_xi μ (jl_indexOfChar F i μ v1 v2 v3)) := g_conOf mc_J1_indexOfChar_4cfef.2.2.2.2 (Nat.le_of_ble_eq_true rfl) rfl (g_xi_rk (Or.inl rfl)) (lk_jl_indexOfChar Λ F i hi μ v1 v2 v3)
theorem dJ1_indexOf_4cfef_0 : decode cJ1_indexOf_4cfef 0 = .ok (.iload_n 1, 1) := by decide +kernel
theorem dJ1_indexOf_4cfef_1 : decode cJ1_indexOf_4cfef 1 = .ok (.invokestatic 88, 3) := by decide +kernel
theorem dJ1_indexOf_4cfef_4 : decode cJ1_indexOf_4cfef 4 = .ok (.ifCond .ne 5, 3) := by decide +kernel
theorem dJ1_indexOf_4cfef_7 : decode cJ1_indexOf_4cfef 7 = .ok (.iconst (-1), 1) := by decide +kernel
theorem dJ1_indexOf_4cfef_8 : decode cJ1_indexOf_4cfef 8 = .ok (.ireturn, 1) := by decide +kernel
theorem dJ1_indexOf_4cfef_9 : decode cJ1_indexOf_4cfef 9 = .ok (.iload_n 2, 1) := by decide +kernel
theorem dJ1_indexOf_4cfef_10 : decode cJ1_indexOf_4cfef 10 = .ok (.iconst 0, 1) := by decide +kernel
theorem dJ1_indexOf_4cfef_11 : decode cJ1_indexOf_4cfef 11 = .ok (.invokestatic 92, 3) := by decide +kernel
theorem dJ1_indexOf_4cfef_14 : decode cJ1_indexOf_4cfef 14 = .ok (.istore_n 2, 1) := by decide +kernel
theorem dJ1_indexOf_4cfef_15 : decode cJ1_indexOf_4cfef 15 = .ok (.iload_n 3, 1) := by decide +kernel
theorem dJ1_indexOf_4cfef_16 : decode cJ1_indexOf_4cfef 16 = .ok (.aload_n 0, 1) := by decide +kernel
theorem dJ1_indexOf_4cfef_17 : decode cJ1_indexOf_4cfef 17 = .ok (.arraylength, 1) := by decide +kernel
theorem dJ1_indexOf_4cfef_18 : decode cJ1_indexOf_4cfef 18 = .ok (.invokestatic 38, 3) := by decide +kernel
theorem dJ1_indexOf_4cfef_21 : decode cJ1_indexOf_4cfef 21 = .ok (.istore_n 3, 1) := by decide +kernel
theorem dJ1_indexOf_4cfef_22 : decode cJ1_indexOf_4cfef 22 = .ok (.iload_n 2, 1) := by decide +kernel
theorem dJ1_indexOf_4cfef_23 : decode cJ1_indexOf_4cfef 23 = .ok (.iload_n 3, 1) := by decide +kernel
theorem dJ1_indexOf_4cfef_24 : decode cJ1_indexOf_4cfef 24 = .ok (.if_icmp .lt 5, 3) := by decide +kernel
theorem dJ1_indexOf_4cfef_27 : decode cJ1_indexOf_4cfef 27 = .ok (.iconst (-1), 1) := by decide +kernel
theorem dJ1_indexOf_4cfef_28 : decode cJ1_indexOf_4cfef 28 = .ok (.ireturn, 1) := by decide +kernel
theorem dJ1_indexOf_4cfef_29 : decode cJ1_indexOf_4cfef 29 = .ok (.aload_n 0, 1) := by decide +kernel
theorem dJ1_indexOf_4cfef_30 : decode cJ1_indexOf_4cfef 30 = .ok (.iload_n 1, 1) := by decide +kernel
theorem dJ1_indexOf_4cfef_31 : decode cJ1_indexOf_4cfef 31 = .ok (.iload_n 2, 1) := by decide +kernel
theorem dJ1_indexOf_4cfef_32 : decode cJ1_indexOf_4cfef 32 = .ok (.iload_n 3, 1) := by decide +kernel
theorem dJ1_indexOf_4cfef_33 : decode cJ1_indexOf_4cfef 33 = .ok (.invokestatic 95, 3) := by decide +kernel
theorem dJ1_indexOf_4cfef_36 : decode cJ1_indexOf_4cfef 36 = .ok (.ireturn, 1) := by decide +kernel
theorem lk_jl_indexOf (Λ : g_Lay) (F : Nat) (i : Nat) (hi : i < 2) (μ : g_St) (v1 : Int32) (v2 : Int32) (v3 : Int32) : g_Go Λ 1 yJ1_indexOf_4cfef cJ1_indexOf_4cfef 4 (some .int) 0 [some (.ref (901 + 2 * i)), some (.int v1), some (.int v2), some (.int v3)] [] μ (Option.map (o_i μ) (jl_indexOf F i μ v1 v2 v3)) := by
  unfold jl_indexOf
  refine g_iload_n dJ1_indexOf_4cfef_0 rfl rfl ?_
  refine w_Sxi [.int _] dJ1_indexOf_4cfef_1 ml_J1_88 ms_J1_canEncode_9a6ad mc_J1_canEncode_9a6ad rfl (Nat.le_of_ble_eq_true rfl) (Nat.le_of_ble_eq_true rfl) (Nat.le_of_ble_eq_true rfl) rfl (co_jl_canEncode Λ _ _) (fun x1 => ?_)
  refine w_if_ne (tgt := 9) dJ1_indexOf_4cfef_4 (by decide) ?_ ?_
  · refine g_iconst dJ1_indexOf_4cfef_7 ic_m1 ?_
    exact w_iret dJ1_indexOf_4cfef_8 rfl rfl
  · refine g_iload_n dJ1_indexOf_4cfef_9 rfl rfl ?_
    refine g_iconst dJ1_indexOf_4cfef_10 ic_0 ?_
    refine g_mmax g_mm dJ1_indexOf_4cfef_11 mh_J1_92 (Nat.le_of_ble_eq_true rfl) (Nat.le_of_ble_eq_true rfl) ?_
    refine g_istore_n (lo2 := [_, _, _, _]) dJ1_indexOf_4cfef_14 rfl (Nat.le_of_ble_eq_true rfl) rfl rfl ?_
    refine g_iload_n dJ1_indexOf_4cfef_15 rfl rfl ?_
    refine g_aload_n dJ1_indexOf_4cfef_16 rfl rfl ?_
    refine g_slen (i := i) hi dJ1_indexOf_4cfef_17 ?_
    refine g_mmin g_mm dJ1_indexOf_4cfef_18 mh_J1_38 (Nat.le_of_ble_eq_true rfl) (Nat.le_of_ble_eq_true rfl) ?_
    refine g_istore_n (lo2 := [_, _, _, _]) dJ1_indexOf_4cfef_21 rfl (Nat.le_of_ble_eq_true rfl) rfl rfl ?_
    refine g_iload_n dJ1_indexOf_4cfef_22 rfl rfl ?_
    refine g_iload_n dJ1_indexOf_4cfef_23 rfl rfl ?_
    refine w_icmp_lt (tgt := 29) dJ1_indexOf_4cfef_24 (by decide) ?_ ?_
    · refine g_iconst dJ1_indexOf_4cfef_27 ic_m1 ?_
      exact w_iret dJ1_indexOf_4cfef_28 rfl rfl
    · refine g_aload_n dJ1_indexOf_4cfef_29 rfl rfl ?_
      refine g_iload_n dJ1_indexOf_4cfef_30 rfl rfl ?_
      refine g_iload_n dJ1_indexOf_4cfef_31 rfl rfl ?_
      refine g_iload_n dJ1_indexOf_4cfef_32 rfl rfl ?_
      refine w_Sxi [.ref _, .int _, .int _, .int _] dJ1_indexOf_4cfef_33 ml_J1_95 ms_J1_indexOfChar_4cfef mc_J1_indexOfChar_4cfef rfl (Nat.le_of_ble_eq_true rfl) (Nat.le_of_ble_eq_true rfl) (Nat.le_of_ble_eq_true rfl) rfl (co_jl_indexOfChar Λ F i hi _ _ _ _) (fun x2 => ?_)
      exact w_iret dJ1_indexOf_4cfef_36 rfl rfl
theorem co_jl_indexOf (Λ : g_Lay) (F : Nat) (i : Nat) (hi : i < 2) (μ : g_St) (v1 : Int32) (v2 : Int32) (v3 : Int32) : g_Con Λ 1 yJ1_indexOf_4cfef cJ1_indexOf_4cfef 4 (some .int) [.ref (901 + 2 * i), .int v1, .int v2, .int v3] μ (g_xi μ (jl_indexOf F i μ v1 v2 v3)) := g_conOf mc_J1_indexOf_4cfef.2.2.2.2 (Nat.le_of_ble_eq_true rfl) rfl (g_xi_rk (Or.inl rfl)) (lk_jl_indexOf Λ F i hi μ v1 v2 v3)
theorem dJ0_coder_7d493_0 : decode cJ0_coder_7d493 0 = .ok (.getstatic 38, 3) := by decide +kernel
theorem dJ0_coder_7d493_3 : decode cJ0_coder_7d493 3 = .ok (.ifCond .eq 10, 3) := by decide +kernel
theorem dJ0_coder_7d493_6 : decode cJ0_coder_7d493 6 = .ok (.aload_n 0, 1) := by decide +kernel
theorem dJ0_coder_7d493_7 : decode cJ0_coder_7d493 7 = .ok (.getfield 15, 3) := by decide +kernel
theorem dJ0_coder_7d493_10 : decode cJ0_coder_7d493 10 = .ok (.goto 4, 3) := by decide +kernel
theorem dJ0_coder_7d493_13 : decode cJ0_coder_7d493 13 = .ok (.iconst 1, 1) := by decide +kernel
theorem dJ0_coder_7d493_14 : decode cJ0_coder_7d493 14 = .ok (.ireturn, 1) := by decide +kernel
theorem lk_js_coder (Λ : g_Lay) (i : Nat) (hi : i < 2) (μ : g_St) : g_Go Λ 0 yJ0_coder_7d493 cJ0_coder_7d493 1 (some .byte) 0 [some (.ref (900 + 2 * i))] [] μ (Option.map (o_i μ) (js_coder i μ)) := by
  unfold js_coder
  refine g_scs dJ0_coder_7d493_0 fs_J0_38 ?_
  refine w_if_eq (tgt := 13) dJ0_coder_7d493_3 (by decide) ?_ ?_
  · refine g_iconst dJ0_coder_7d493_13 ic_1 ?_
    exact w_iret dJ0_coder_7d493_14 (by decide) rfl
  · refine g_aload_n dJ0_coder_7d493_6 rfl rfl ?_
    refine g_scod (i := i) hi dJ0_coder_7d493_7 fs_J0_15 ?_
    refine g_goto (tgt := 14) dJ0_coder_7d493_10 (by decide) ?_
    exact w_iret dJ0_coder_7d493_14 (by decide) rfl
theorem co_js_coder (Λ : g_Lay) (i : Nat) (hi : i < 2) (μ : g_St) : g_Con Λ 0 yJ0_coder_7d493 cJ0_coder_7d493 1 (some .byte) [.ref (900 + 2 * i)] μ (g_xi μ (js_coder i μ)) := g_conOf mc_J0_coder_7d493.2.2.2.2 (Nat.le_of_ble_eq_true rfl) rfl (g_xi_rk (Or.inr (Or.inr (Or.inl rfl)))) (lk_js_coder Λ i hi μ)
theorem dJ0_length_8abf5_0 : decode cJ0_length_8abf5 0 = .ok (.aload_n 0, 1) := by decide +kernel
theorem dJ0_length_8abf5_1 : decode cJ0_length_8abf5 1 = .ok (.getfield 9, 3) := by decide +kernel
theorem dJ0_length_8abf5_4 : decode cJ0_length_8abf5 4 = .ok (.arraylength, 1) := by decide +kernel
theorem dJ0_length_8abf5_5 : decode cJ0_length_8abf5 5 = .ok (.aload_n 0, 1) := by decide +kernel
theorem dJ0_length_8abf5_6 : decode cJ0_length_8abf5 6 = .ok (.invokevirtual 335, 3) := by decide +kernel
theorem dJ0_length_8abf5_9 : decode cJ0_length_8abf5 9 = .ok (.ishr, 1) := by decide +kernel
theorem dJ0_length_8abf5_10 : decode cJ0_length_8abf5 10 = .ok (.ireturn, 1) := by decide +kernel
theorem lk_js_length (Λ : g_Lay) (i : Nat) (hi : i < 2) (μ : g_St) : g_Go Λ 1 yJ0_length_8abf5 cJ0_length_8abf5 1 (some .int) 0 [some (.ref (900 + 2 * i))] [] μ (Option.map (o_i μ) (js_length i μ)) := by
  unfold js_length
  refine g_aload_n dJ0_length_8abf5_0 rfl rfl ?_
  refine g_sval (i := i) hi dJ0_length_8abf5_1 fs_J0_9 ?_
  refine g_slen (i := i) hi dJ0_length_8abf5_4 ?_
  refine g_aload_n dJ0_length_8abf5_5 rfl rfl ?_
  refine w_Vsxi [] (i := i) hi rfl dJ0_length_8abf5_6 mq_J0_335 mv_J0_coder_7d493 mc_J0_coder_7d493 rfl (Nat.le_of_ble_eq_true rfl) (Nat.le_of_ble_eq_true rfl) (Nat.le_of_ble_eq_true rfl) rfl (co_js_coder Λ i hi _) (fun x1 => ?_)
  refine g_ishr dJ0_length_8abf5_9 ?_
  exact w_iret dJ0_length_8abf5_10 rfl rfl
theorem co_js_length (Λ : g_Lay) (i : Nat) (hi : i < 2) (μ : g_St) : g_Con Λ 1 yJ0_length_8abf5 cJ0_length_8abf5 1 (some .int) [.ref (900 + 2 * i)] μ (g_xi μ (js_length i μ)) := g_conOf mc_J0_length_8abf5.2.2.2.2 (Nat.le_of_ble_eq_true rfl) rfl (g_xi_rk (Or.inl rfl)) (lk_js_length Λ i hi μ)
theorem dJ0_isLatin1_aae02_0 : decode cJ0_isLatin1_aae02 0 = .ok (.getstatic 38, 3) := by decide +kernel
theorem dJ0_isLatin1_aae02_3 : decode cJ0_isLatin1_aae02 3 = .ok (.ifCond .eq 14, 3) := by decide +kernel
theorem dJ0_isLatin1_aae02_6 : decode cJ0_isLatin1_aae02 6 = .ok (.aload_n 0, 1) := by decide +kernel
theorem dJ0_isLatin1_aae02_7 : decode cJ0_isLatin1_aae02 7 = .ok (.getfield 15, 3) := by decide +kernel
theorem dJ0_isLatin1_aae02_10 : decode cJ0_isLatin1_aae02 10 = .ok (.ifCond .ne 7, 3) := by decide +kernel
theorem dJ0_isLatin1_aae02_13 : decode cJ0_isLatin1_aae02 13 = .ok (.iconst 1, 1) := by decide +kernel
theorem dJ0_isLatin1_aae02_14 : decode cJ0_isLatin1_aae02 14 = .ok (.goto 4, 3) := by decide +kernel
theorem dJ0_isLatin1_aae02_17 : decode cJ0_isLatin1_aae02 17 = .ok (.iconst 0, 1) := by decide +kernel
theorem dJ0_isLatin1_aae02_18 : decode cJ0_isLatin1_aae02 18 = .ok (.ireturn, 1) := by decide +kernel
theorem lk_js_isLatin1 (Λ : g_Lay) (i : Nat) (hi : i < 2) (μ : g_St) : g_Go Λ 0 yJ0_isLatin1_aae02 cJ0_isLatin1_aae02 1 (some .boolean) 0 [some (.ref (900 + 2 * i))] [] μ (Option.map (o_i μ) (js_isLatin1 i μ)) := by
  unfold js_isLatin1
  refine g_scs dJ0_isLatin1_aae02_0 fs_J0_38 ?_
  refine w_if_eq (tgt := 17) dJ0_isLatin1_aae02_3 (by decide) ?_ ?_
  · refine g_iconst dJ0_isLatin1_aae02_17 ic_0 ?_
    exact w_iret dJ0_isLatin1_aae02_18 (by decide) rfl
  · refine g_aload_n dJ0_isLatin1_aae02_6 rfl rfl ?_
    refine g_scod (i := i) hi dJ0_isLatin1_aae02_7 fs_J0_15 ?_
    refine w_if_ne (tgt := 17) dJ0_isLatin1_aae02_10 (by decide) ?_ ?_
    · refine g_iconst dJ0_isLatin1_aae02_13 ic_1 ?_
      refine g_goto (tgt := 18) dJ0_isLatin1_aae02_14 (by decide) ?_
      exact w_iret dJ0_isLatin1_aae02_18 (by decide) rfl
    · refine g_iconst dJ0_isLatin1_aae02_17 ic_0 ?_
      exact w_iret dJ0_isLatin1_aae02_18 (by decide) rfl
theorem co_js_isLatin1 (Λ : g_Lay) (i : Nat) (hi : i < 2) (μ : g_St) : g_Con Λ 0 yJ0_isLatin1_aae02 cJ0_isLatin1_aae02 1 (some .boolean) [.ref (900 + 2 * i)] μ (g_xi μ (js_isLatin1 i μ)) := g_conOf mc_J0_isLatin1_aae02.2.2.2.2 (Nat.le_of_ble_eq_true rfl) rfl (g_xi_rk (Or.inr (Or.inl rfl))) (lk_js_isLatin1 Λ i hi μ)
theorem dJ0_indexOf_7cf53_0 : decode cJ0_indexOf_7cf53 0 = .ok (.aload_n 0, 1) := by decide +kernel
theorem dJ0_indexOf_7cf53_1 : decode cJ0_indexOf_7cf53 1 = .ok (.invokevirtual 492, 3) := by decide +kernel
theorem dJ0_indexOf_7cf53_4 : decode cJ0_indexOf_7cf53 4 = .ok (.ifCond .eq 19, 3) := by decide +kernel
theorem dJ0_indexOf_7cf53_7 : decode cJ0_indexOf_7cf53 7 = .ok (.aload_n 0, 1) := by decide +kernel
theorem dJ0_indexOf_7cf53_8 : decode cJ0_indexOf_7cf53 8 = .ok (.getfield 9, 3) := by decide +kernel
theorem dJ0_indexOf_7cf53_11 : decode cJ0_indexOf_7cf53 11 = .ok (.iload_n 1, 1) := by decide +kernel
theorem dJ0_indexOf_7cf53_12 : decode cJ0_indexOf_7cf53 12 = .ok (.iload_n 2, 1) := by decide +kernel
theorem dJ0_indexOf_7cf53_13 : decode cJ0_indexOf_7cf53 13 = .ok (.aload_n 0, 1) := by decide +kernel
theorem dJ0_indexOf_7cf53_14 : decode cJ0_indexOf_7cf53 14 = .ok (.invokevirtual 505, 3) := by decide +kernel
theorem dJ0_indexOf_7cf53_17 : decode cJ0_indexOf_7cf53 17 = .ok (.invokestatic 637, 3) := by decide +kernel
theorem dJ0_indexOf_7cf53_20 : decode cJ0_indexOf_7cf53 20 = .ok (.goto 16, 3) := by decide +kernel
theorem dJ0_indexOf_7cf53_23 : decode cJ0_indexOf_7cf53 23 = .ok (.aload_n 0, 1) := by decide +kernel
theorem dJ0_indexOf_7cf53_24 : decode cJ0_indexOf_7cf53 24 = .ok (.getfield 9, 3) := by decide +kernel
theorem dJ0_indexOf_7cf53_27 : decode cJ0_indexOf_7cf53 27 = .ok (.iload_n 1, 1) := by decide +kernel
theorem dJ0_indexOf_7cf53_28 : decode cJ0_indexOf_7cf53 28 = .ok (.iload_n 2, 1) := by decide +kernel
theorem dJ0_indexOf_7cf53_29 : decode cJ0_indexOf_7cf53 29 = .ok (.aload_n 0, 1) := by decide +kernel
theorem dJ0_indexOf_7cf53_30 : decode cJ0_indexOf_7cf53 30 = .ok (.invokevirtual 505, 3) := by decide +kernel
theorem dJ0_indexOf_7cf53_33 : decode cJ0_indexOf_7cf53 33 = .ok (.invokestatic 640, 3) := by decide +kernel
theorem dJ0_indexOf_7cf53_36 : decode cJ0_indexOf_7cf53 36 = .ok (.ireturn, 1) := by decide +kernel
theorem lk_js_indexOf2 (Λ : g_Lay) (F : Nat) (i : Nat) (hi : i < 2) (μ : g_St) (v1 : Int32) (v2 : Int32) : g_Go Λ 2 yJ0_indexOf_7cf53 cJ0_indexOf_7cf53 3 (some .int) 0 [some (.ref (900 + 2 * i)), some (.int v1), some (.int v2)] [] μ (Option.map (o_i μ) (js_indexOf2 F i μ v1 v2)) := by
  unfold js_indexOf2
  refine g_aload_n dJ0_indexOf_7cf53_0 rfl rfl ?_
  refine w_Vsxi [] (i := i) hi rfl dJ0_indexOf_7cf53_1 mq_J0_492 mv_J0_isLatin1_aae02 mc_J0_isLatin1_aae02 rfl (Nat.le_of_ble_eq_true rfl) (Nat.le_of_ble_eq_true rfl) (Nat.le_of_ble_eq_true rfl) rfl (co_js_isLatin1 Λ i hi _) (fun x1 => ?_)
  refine w_if_eq (tgt := 23) dJ0_indexOf_7cf53_4 (by decide) ?_ ?_
  · refine g_aload_n dJ0_indexOf_7cf53_23 rfl rfl ?_
    refine g_sval (i := i) hi dJ0_indexOf_7cf53_24 fs_J0_9 ?_
    refine g_iload_n dJ0_indexOf_7cf53_27 rfl rfl ?_
    refine g_iload_n dJ0_indexOf_7cf53_28 rfl rfl ?_
    refine g_aload_n dJ0_indexOf_7cf53_29 rfl rfl ?_
    refine w_Vsxi [] (i := i) hi rfl dJ0_indexOf_7cf53_30 mq_J0_505 mv_J0_length_8abf5 mc_J0_length_8abf5 rfl (Nat.le_of_ble_eq_true rfl) (Nat.le_of_ble_eq_true rfl) (Nat.le_of_ble_eq_true rfl) rfl (co_js_length Λ i hi _) (fun x4 => ?_)
    exact g_none
  · refine g_aload_n dJ0_indexOf_7cf53_7 rfl rfl ?_
    refine g_sval (i := i) hi dJ0_indexOf_7cf53_8 fs_J0_9 ?_
    refine g_iload_n dJ0_indexOf_7cf53_11 rfl rfl ?_
    refine g_iload_n dJ0_indexOf_7cf53_12 rfl rfl ?_
    refine g_aload_n dJ0_indexOf_7cf53_13 rfl rfl ?_
    refine w_Vsxi [] (i := i) hi rfl dJ0_indexOf_7cf53_14 mq_J0_505 mv_J0_length_8abf5 mc_J0_length_8abf5 rfl (Nat.le_of_ble_eq_true rfl) (Nat.le_of_ble_eq_true rfl) (Nat.le_of_ble_eq_true rfl) rfl (co_js_length Λ i hi _) (fun x2 => ?_)
    refine w_Sxi [.ref _, .int _, .int _, .int _] dJ0_indexOf_7cf53_17 ml_J0_637 ms_J1_indexOf_4cfef mc_J1_indexOf_4cfef rfl (Nat.le_of_ble_eq_true rfl) (Nat.le_of_ble_eq_true rfl) (Nat.le_of_ble_eq_true rfl) rfl (co_jl_indexOf Λ F i hi _ _ _ _) (fun x3 => ?_)
    refine g_goto (tgt := 36) dJ0_indexOf_7cf53_20 (by decide) ?_
    exact w_iret dJ0_indexOf_7cf53_36 rfl rfl
theorem co_js_indexOf2 (Λ : g_Lay) (F : Nat) (i : Nat) (hi : i < 2) (μ : g_St) (v1 : Int32) (v2 : Int32) : g_Con Λ 2 yJ0_indexOf_7cf53 cJ0_indexOf_7cf53 3 (some .int) [.ref (900 + 2 * i), .int v1, .int v2] μ (g_xi μ (js_indexOf2 F i μ v1 v2)) := g_conOf mc_J0_indexOf_7cf53.2.2.2.2 (Nat.le_of_ble_eq_true rfl) rfl (g_xi_rk (Or.inl rfl)) (lk_js_indexOf2 Λ F i hi μ v1 v2)
theorem dJ0_indexOf_0f7a4_0 : decode cJ0_indexOf_0f7a4 0 = .ok (.aload_n 0, 1) := by decide +kernel
theorem dJ0_indexOf_0f7a4_1 : decode cJ0_indexOf_0f7a4 1 = .ok (.iload_n 1, 1) := by decide +kernel
theorem dJ0_indexOf_0f7a4_2 : decode cJ0_indexOf_0f7a4 2 = .ok (.iconst 0, 1) := by decide +kernel
theorem dJ0_indexOf_0f7a4_3 : decode cJ0_indexOf_0f7a4 3 = .ok (.invokevirtual 633, 3) := by decide +kernel
theorem dJ0_indexOf_0f7a4_6 : decode cJ0_indexOf_0f7a4 6 = .ok (.ireturn, 1) := by decide +kernel
theorem lk_js_indexOf (Λ : g_Lay) (F : Nat) (i : Nat) (hi : i < 2) (μ : g_St) (v1 : Int32) : g_Go Λ 3 yJ0_indexOf_0f7a4 cJ0_indexOf_0f7a4 2 (some .int) 0 [some (.ref (900 + 2 * i)), some (.int v1)] [] μ (Option.map (o_i μ) (js_indexOf F i μ v1)) := by
  unfold js_indexOf
  refine g_aload_n dJ0_indexOf_0f7a4_0 rfl rfl ?_
  refine g_iload_n dJ0_indexOf_0f7a4_1 rfl rfl ?_
  refine g_iconst dJ0_indexOf_0f7a4_2 ic_0 ?_
  refine w_Vsxi [.int _, .int _] (i := i) hi rfl dJ0_indexOf_0f7a4_3 mq_J0_633 mv_J0_indexOf_7cf53 mc_J0_indexOf_7cf53 rfl (Nat.le_of_ble_eq_true rfl) (Nat.le_of_ble_eq_true rfl) (Nat.le_of_ble_eq_true rfl) rfl (co_js_indexOf2 Λ F i hi _ _ _) (fun x1 => ?_)
  exact w_iret dJ0_indexOf_0f7a4_6 rfl rfl
theorem co_js_indexOf (Λ : g_Lay) (F : Nat) (i : Nat) (hi : i < 2) (μ : g_St) (v1 : Int32) : g_Con Λ 3 yJ0_indexOf_0f7a4 cJ0_indexOf_0f7a4 2 (some .int) [.ref (900 + 2 * i), .int v1] μ (g_xi μ (js_indexOf F i μ v1)) := g_conOf mc_J0_indexOf_0f7a4.2.2.2.2 (Nat.le_of_ble_eq_true rfl) rfl (g_xi_rk (Or.inl rfl)) (lk_js_indexOf Λ F i hi μ v1)
theorem dJ7_fill_53178_0 : decode cJ7_fill_53178 0 = .ok (.iconst 0, 1) := by decide +kernel
theorem dJ7_fill_53178_1 : decode cJ7_fill_53178 1 = .ok (.istore_n 2, 1) := by decide +kernel
theorem dJ7_fill_53178_2 : decode cJ7_fill_53178 2 = .ok (.aload_n 0, 1) := by decide +kernel
theorem dJ7_fill_53178_3 : decode cJ7_fill_53178 3 = .ok (.arraylength, 1) := by decide +kernel
theorem dJ7_fill_53178_4 : decode cJ7_fill_53178 4 = .ok (.istore_n 3, 1) := by decide +kernel
theorem dJ7_fill_53178_5 : decode cJ7_fill_53178 5 = .ok (.iload_n 2, 1) := by decide +kernel
theorem dJ7_fill_53178_6 : decode cJ7_fill_53178 6 = .ok (.iload_n 3, 1) := by decide +kernel
theorem dJ7_fill_53178_7 : decode cJ7_fill_53178 7 = .ok (.if_icmp .ge 13, 3) := by decide +kernel
theorem dJ7_fill_53178_10 : decode cJ7_fill_53178 10 = .ok (.aload_n 0, 1) := by decide +kernel
theorem dJ7_fill_53178_11 : decode cJ7_fill_53178 11 = .ok (.iload_n 2, 1) := by decide +kernel
theorem dJ7_fill_53178_12 : decode cJ7_fill_53178 12 = .ok (.iload_n 1, 1) := by decide +kernel
theorem dJ7_fill_53178_13 : decode cJ7_fill_53178 13 = .ok (.iastore, 1) := by decide +kernel
theorem dJ7_fill_53178_14 : decode cJ7_fill_53178 14 = .ok (.iinc 2 1, 3) := by decide +kernel
theorem dJ7_fill_53178_17 : decode cJ7_fill_53178 17 = .ok (.goto (-12), 3) := by decide +kernel
theorem dJ7_fill_53178_20 : decode cJ7_fill_53178 20 = .ok (.return_, 1) := by decide +kernel
theorem lk_jj_fill_5_b (F : Nat) (a0 na0 : Nat) (la0 : a0 < gC.1) (ya0 : gC.2 a0 = .inr (0, na0, g_zf)) (v1 : Int32) (v3 : Int32) (K_5 : Int32 → g_St → Option g_St) (hK_5 : ∀ (w2 : Int32) (ν : g_St), g_Go gC 0 yJ7_fill_53178 cJ7_fill_53178 4 (none : Option Jvm.ClassFile.FieldType) 5 [some (.ref a0), some (.int v1), some (.int w2), some (.int v3)] [] ν (Option.map o_yv (K_5 w2 ν))) (v2 : Int32) (μ : g_St) : g_Go gC 0 yJ7_fill_53178 cJ7_fill_53178 4 (none : Option Jvm.ClassFile.FieldType) 5 [some (.ref a0), some (.int v1), some (.int v2), some (.int v3)] [] μ (Option.map o_yv (jj_fill_5_b F a0 na0 v1 v3 K_5 v2 μ)) := by
  unfold jj_fill_5_b
  refine g_iload_n dJ7_fill_53178_5 rfl rfl ?_
  refine g_iload_n dJ7_fill_53178_6 rfl rfl ?_
  refine w_icmp_ge (tgt := 20) dJ7_fill_53178_7 (by decide) ?_ ?_
  · refine g_aload_n dJ7_fill_53178_10 rfl rfl ?_
    refine g_iload_n dJ7_fill_53178_11 rfl rfl ?_
    refine g_iload_n dJ7_fill_53178_12 rfl rfl ?_
    refine w_iast dJ7_fill_53178_13 la0 ya0 (fun μ1 => ?_)
    refine g_iinc (lo2 := [_, _, _, _]) dJ7_fill_53178_14 rfl rfl (Nat.le_of_ble_eq_true rfl) rfl rfl ?_
    refine g_goto (tgt := 5) dJ7_fill_53178_17 (by decide) ?_
    exact g_to (hK_5 _ _) (su_s (su_s (su_s (su_s su_0))))
  · exact w_vret dJ7_fill_53178_20 rfl rfl
theorem lk_jj_fill_5 (F : Nat) (a0 na0 : Nat) (la0 : a0 < gC.1) (ya0 : gC.2 a0 = .inr (0, na0, g_zf)) (v1 : Int32) (v3 : Int32) : ∀ (f : Nat) (v2 : Int32) (μ : g_St) , g_Go gC 0 yJ7_fill_53178 cJ7_fill_53178 4 (none : Option Jvm.ClassFile.FieldType) 5 [some (.ref a0), some (.int v1), some (.int v2), some (.int v3)] [] μ (Option.map o_yv (jj_fill_5 F a0 na0 v1 v3 f v2 μ))
  | 0, v2, μ => g_none
  | f + 1, v2, μ => lk_jj_fill_5_b F a0 na0 la0 ya0 v1 v3 (jj_fill_5 F a0 na0 v1 v3 f) (lk_jj_fill_5 F a0 na0 la0 ya0 v1 v3 f) v2 μ
theorem lk_jj_fill (F : Nat) (a0 na0 : Nat) (la0 : a0 < gC.1) (ya0 : gC.2 a0 = .inr (0, na0, g_zf)) (v1 : Int32) (μ : g_St) : g_Go gC 0 yJ7_fill_53178 cJ7_fill_53178 4 (none : Option Jvm.ClassFile.FieldType) 0 [some (.ref a0), some (.int v1), none, none] [] μ (Option.map o_yv (jj_fill F a0 na0 v1 μ)) := by
  unfold jj_fill
  refine g_iconst dJ7_fill_53178_0 ic_0 ?_
  refine g_istore_n (lo2 := [_, _, _, _]) dJ7_fill_53178_1 rfl (Nat.le_of_ble_eq_true rfl) rfl rfl ?_
  refine g_aload_n dJ7_fill_53178_2 rfl rfl ?_
  refine g_alen dJ7_fill_53178_3 la0 ya0 rfl ?_
  refine g_istore_n (lo2 := [_, _, _, _]) dJ7_fill_53178_4 rfl (Nat.le_of_ble_eq_true rfl) rfl rfl ?_
  exact g_to (lk_jj_fill_5 F a0 na0 la0 ya0 _ _ _ _ _) (su_s (su_s (su_s (su_s su_0))))
theorem co_jj_fill (F : Nat) (a0 na0 : Nat) (la0 : a0 < gC.1) (ya0 : gC.2 a0 = .inr (0, na0, g_zf)) (v1 : Int32) (μ : g_St) : g_Con gC 0 yJ7_fill_53178 cJ7_fill_53178 4 (none : Option Jvm.ClassFile.FieldType) [.ref a0, .int v1] μ (g_yv (jj_fill F a0 na0 v1 μ)) := g_conOf mc_J7_fill_53178.2.2.2.2 (Nat.le_of_ble_eq_true rfl) rfl g_yv_rk (lk_jj_fill F a0 na0 la0 ya0 v1 μ)
theorem dX7_begin_0 : decode cX7_begin 0 = .ok (.aload_n 0, 1) := by decide +kernel
theorem dX7_begin_1 : decode cX7_begin 1 = .ok (.iconst 0, 1) := by decide +kernel
theorem dX7_begin_2 : decode cX7_begin 2 = .ok (.putfield 33, 3) := by decide +kernel
theorem dX7_begin_5 : decode cX7_begin 5 = .ok (.aload_n 0, 1) := by decide +kernel
theorem dX7_begin_6 : decode cX7_begin 6 = .ok (.iconst 0, 1) := by decide +kernel
theorem dX7_begin_7 : decode cX7_begin 7 = .ok (.putfield 37, 3) := by decide +kernel
theorem dX7_begin_10 : decode cX7_begin 10 = .ok (.iconst 0, 1) := by decide +kernel
theorem dX7_begin_11 : decode cX7_begin 11 = .ok (.istore_n 2, 1) := by decide +kernel
theorem dX7_begin_12 : decode cX7_begin 12 = .ok (.iload_n 2, 1) := by decide +kernel
theorem dX7_begin_13 : decode cX7_begin 13 = .ok (.aload_n 1, 1) := by decide +kernel
theorem dX7_begin_14 : decode cX7_begin 14 = .ok (.getfield 40, 3) := by decide +kernel
theorem dX7_begin_17 : decode cX7_begin 17 = .ok (.if_icmp .ge 28, 3) := by decide +kernel
theorem dX7_begin_20 : decode cX7_begin 20 = .ok (.aload_n 0, 1) := by decide +kernel
theorem dX7_begin_21 : decode cX7_begin 21 = .ok (.getfield 27, 3) := by decide +kernel
theorem dX7_begin_24 : decode cX7_begin 24 = .ok (.iload_n 2, 1) := by decide +kernel
theorem dX7_begin_25 : decode cX7_begin 25 = .ok (.iconst 0, 1) := by decide +kernel
theorem dX7_begin_26 : decode cX7_begin 26 = .ok (.iastore, 1) := by decide +kernel
theorem dX7_begin_27 : decode cX7_begin 27 = .ok (.aload_n 0, 1) := by decide +kernel
theorem dX7_begin_28 : decode cX7_begin 28 = .ok (.getfield 30, 3) := by decide +kernel
theorem dX7_begin_31 : decode cX7_begin 31 = .ok (.iload_n 2, 1) := by decide +kernel
theorem dX7_begin_32 : decode cX7_begin 32 = .ok (.aload_n 1, 1) := by decide +kernel
theorem dX7_begin_33 : decode cX7_begin 33 = .ok (.getfield 45, 3) := by decide +kernel
theorem dX7_begin_36 : decode cX7_begin 36 = .ok (.iload_n 2, 1) := by decide +kernel
theorem dX7_begin_37 : decode cX7_begin 37 = .ok (.iaload, 1) := by decide +kernel
theorem dX7_begin_38 : decode cX7_begin 38 = .ok (.iastore, 1) := by decide +kernel
theorem dX7_begin_39 : decode cX7_begin 39 = .ok (.iinc 2 1, 3) := by decide +kernel
theorem dX7_begin_42 : decode cX7_begin 42 = .ok (.goto (-30), 3) := by decide +kernel
theorem dX7_begin_45 : decode cX7_begin 45 = .ok (.return_, 1) := by decide +kernel
theorem lk_ow_begin_12_b (F : Nat) (bw : Nat) (hbw : g_isWeek bw) (bl : Nat) (hbl : g_isLand bl) (K_12 : Int32 → g_St → Option g_St) (hK_12 : ∀ (w2 : Int32) (ν : g_St), g_Go gC 0 yX7_begin cX7_begin 3 (none : Option Jvm.ClassFile.FieldType) 12 [some (.ref bw), some (.ref bl), some (.int w2)] [] ν (Option.map o_yv (K_12 w2 ν))) (v2 : Int32) (μ : g_St) : g_Go gC 0 yX7_begin cX7_begin 3 (none : Option Jvm.ClassFile.FieldType) 12 [some (.ref bw), some (.ref bl), some (.int v2)] [] μ (Option.map o_yv (ow_begin_12_b F bw bl K_12 v2 μ)) := by
  unfold ow_begin_12_b
  refine g_iload_n dX7_begin_12 rfl rfl ?_
  refine g_aload_n dX7_begin_13 rfl rfl ?_
  refine g_getI dX7_begin_14 cf_X1 fl_X7_40 (ly_Land_lt hbl) (ly_Land hbl) rfl (Nat.le_of_ble_eq_true rfl) ?_
  refine w_icmp_ge (tgt := 45) dX7_begin_17 (by decide) ?_ ?_
  · refine g_aload_n dX7_begin_20 rfl rfl ?_
    refine g_getS dX7_begin_21 cf_X7 fl_X7_27 (ly_Week_lt hbw) (ly_Week hbw) rfl (Nat.le_of_ble_eq_true rfl) ?_
    refine g_iload_n dX7_begin_24 rfl rfl ?_
    refine g_iconst dX7_begin_25 ic_0 ?_
    refine w_iast dX7_begin_26 (ly_Week_clock_lt hbw) (ly_Week_clock hbw) (fun μ3 => ?_)
    refine g_aload_n dX7_begin_27 rfl rfl ?_
    refine g_getS dX7_begin_28 cf_X7 fl_X7_30 (ly_Week_lt hbw) (ly_Week hbw) rfl (Nat.le_of_ble_eq_true rfl) ?_
    refine g_iload_n dX7_begin_31 rfl rfl ?_
    refine g_aload_n dX7_begin_32 rfl rfl ?_
    refine g_getS dX7_begin_33 cf_X1 fl_X7_45 (ly_Land_lt hbl) (ly_Land hbl) rfl (Nat.le_of_ble_eq_true rfl) ?_
    refine g_iload_n dX7_begin_36 rfl rfl ?_
    refine w_iald dX7_begin_37 (ly_Land_home_lt hbl) (ly_Land_home hbl) (fun x4 => ?_)
    refine w_iast dX7_begin_38 (ly_Week_place_lt hbw) (ly_Week_place hbw) (fun μ5 => ?_)
    refine g_iinc (lo2 := [_, _, _]) dX7_begin_39 rfl rfl (Nat.le_of_ble_eq_true rfl) rfl rfl ?_
    refine g_goto (tgt := 12) dX7_begin_42 (by decide) ?_
    exact g_to (hK_12 _ _) (su_s (su_s (su_s su_0)))
  · exact w_vret dX7_begin_45 rfl rfl
theorem lk_ow_begin_12 (F : Nat) (bw : Nat) (hbw : g_isWeek bw) (bl : Nat) (hbl : g_isLand bl) : ∀ (f : Nat) (v2 : Int32) (μ : g_St) , g_Go gC 0 yX7_begin cX7_begin 3 (none : Option Jvm.ClassFile.FieldType) 12 [some (.ref bw), some (.ref bl), some (.int v2)] [] μ (Option.map o_yv (ow_begin_12 F bw bl f v2 μ))
  | 0, v2, μ => g_none
  | f + 1, v2, μ => lk_ow_begin_12_b F bw hbw bl hbl (ow_begin_12 F bw bl f) (lk_ow_begin_12 F bw hbw bl hbl f) v2 μ
theorem lk_ow_begin (F : Nat) (bw : Nat) (hbw : g_isWeek bw) (bl : Nat) (hbl : g_isLand bl) (μ : g_St) : g_Go gC 0 yX7_begin cX7_begin 3 (none : Option Jvm.ClassFile.FieldType) 0 [some (.ref bw), some (.ref bl), none] [] μ (Option.map o_yv (ow_begin F bw bl μ)) := by
  unfold ow_begin
  refine g_aload_n dX7_begin_0 rfl rfl ?_
  refine g_iconst dX7_begin_1 ic_0 ?_
  refine w_putI dX7_begin_2 cf_X7 fl_X7_33 (ly_Week_lt hbw) (ly_Week hbw) rfl (Nat.le_of_ble_eq_true rfl) rfl rfl rfl rfl (fun μ1 => ?_)
  refine g_aload_n dX7_begin_5 rfl rfl ?_
  refine g_iconst dX7_begin_6 ic_0 ?_
  refine w_putI dX7_begin_7 cf_X7 fl_X7_37 (ly_Week_lt hbw) (ly_Week hbw) rfl (Nat.le_of_ble_eq_true rfl) rfl rfl rfl rfl (fun μ2 => ?_)
  refine g_iconst dX7_begin_10 ic_0 ?_
  refine g_istore_n (lo2 := [_, _, _]) dX7_begin_11 rfl (Nat.le_of_ble_eq_true rfl) rfl rfl ?_
  exact g_to (lk_ow_begin_12 F bw hbw bl hbl _ _ _) (su_s (su_s (su_s su_0)))
theorem co_ow_begin (F : Nat) (bw : Nat) (hbw : g_isWeek bw) (bl : Nat) (hbl : g_isLand bl) (μ : g_St) : g_Con gC 0 yX7_begin cX7_begin 3 (none : Option Jvm.ClassFile.FieldType) [.ref bw, .ref bl] μ (g_yv (ow_begin F bw bl μ)) := g_conOf mc_X7_begin.2.2.2.2 (Nat.le_of_ble_eq_true rfl) rfl g_yv_rk (lk_ow_begin F bw hbw bl hbl μ)
theorem dX7_copy_0 : decode cX7_copy 0 = .ok (.aload_n 0, 1) := by decide +kernel
theorem dX7_copy_1 : decode cX7_copy 1 = .ok (.aload_n 1, 1) := by decide +kernel
theorem dX7_copy_2 : decode cX7_copy 2 = .ok (.getfield 33, 3) := by decide +kernel
theorem dX7_copy_5 : decode cX7_copy 5 = .ok (.putfield 33, 3) := by decide +kernel
theorem dX7_copy_8 : decode cX7_copy 8 = .ok (.aload_n 0, 1) := by decide +kernel
theorem dX7_copy_9 : decode cX7_copy 9 = .ok (.aload_n 1, 1) := by decide +kernel
theorem dX7_copy_10 : decode cX7_copy 10 = .ok (.getfield 37, 3) := by decide +kernel
theorem dX7_copy_13 : decode cX7_copy 13 = .ok (.putfield 37, 3) := by decide +kernel
theorem dX7_copy_16 : decode cX7_copy 16 = .ok (.aload_n 1, 1) := by decide +kernel
theorem dX7_copy_17 : decode cX7_copy 17 = .ok (.getfield 9, 3) := by decide +kernel
theorem dX7_copy_20 : decode cX7_copy 20 = .ok (.iconst 0, 1) := by decide +kernel
theorem dX7_copy_21 : decode cX7_copy 21 = .ok (.aload_n 0, 1) := by decide +kernel
theorem dX7_copy_22 : decode cX7_copy 22 = .ok (.getfield 9, 3) := by decide +kernel
theorem dX7_copy_25 : decode cX7_copy 25 = .ok (.iconst 0, 1) := by decide +kernel
theorem dX7_copy_26 : decode cX7_copy 26 = .ok (.bipush 40, 2) := by decide +kernel
theorem dX7_copy_28 : decode cX7_copy 28 = .ok (.invokestatic 48, 3) := by decide +kernel
theorem dX7_copy_31 : decode cX7_copy 31 = .ok (.aload_n 1, 1) := by decide +kernel
theorem dX7_copy_32 : decode cX7_copy 32 = .ok (.getfield 15, 3) := by decide +kernel
theorem dX7_copy_35 : decode cX7_copy 35 = .ok (.iconst 0, 1) := by decide +kernel
theorem dX7_copy_36 : decode cX7_copy 36 = .ok (.aload_n 0, 1) := by decide +kernel
theorem dX7_copy_37 : decode cX7_copy 37 = .ok (.getfield 15, 3) := by decide +kernel
theorem dX7_copy_40 : decode cX7_copy 40 = .ok (.iconst 0, 1) := by decide +kernel
theorem dX7_copy_41 : decode cX7_copy 41 = .ok (.bipush 40, 2) := by decide +kernel
theorem dX7_copy_43 : decode cX7_copy 43 = .ok (.invokestatic 48, 3) := by decide +kernel
theorem dX7_copy_46 : decode cX7_copy 46 = .ok (.aload_n 1, 1) := by decide +kernel
theorem dX7_copy_47 : decode cX7_copy 47 = .ok (.getfield 18, 3) := by decide +kernel
theorem dX7_copy_50 : decode cX7_copy 50 = .ok (.iconst 0, 1) := by decide +kernel
theorem dX7_copy_51 : decode cX7_copy 51 = .ok (.aload_n 0, 1) := by decide +kernel
theorem dX7_copy_52 : decode cX7_copy 52 = .ok (.getfield 18, 3) := by decide +kernel
theorem dX7_copy_55 : decode cX7_copy 55 = .ok (.iconst 0, 1) := by decide +kernel
theorem dX7_copy_56 : decode cX7_copy 56 = .ok (.bipush 40, 2) := by decide +kernel
theorem dX7_copy_58 : decode cX7_copy 58 = .ok (.invokestatic 48, 3) := by decide +kernel
theorem dX7_copy_61 : decode cX7_copy 61 = .ok (.aload_n 1, 1) := by decide +kernel
theorem dX7_copy_62 : decode cX7_copy 62 = .ok (.getfield 21, 3) := by decide +kernel
theorem dX7_copy_65 : decode cX7_copy 65 = .ok (.iconst 0, 1) := by decide +kernel
theorem dX7_copy_66 : decode cX7_copy 66 = .ok (.aload_n 0, 1) := by decide +kernel
theorem dX7_copy_67 : decode cX7_copy 67 = .ok (.getfield 21, 3) := by decide +kernel
theorem dX7_copy_70 : decode cX7_copy 70 = .ok (.iconst 0, 1) := by decide +kernel
theorem dX7_copy_71 : decode cX7_copy 71 = .ok (.bipush 40, 2) := by decide +kernel
theorem dX7_copy_73 : decode cX7_copy 73 = .ok (.invokestatic 48, 3) := by decide +kernel
theorem dX7_copy_76 : decode cX7_copy 76 = .ok (.aload_n 1, 1) := by decide +kernel
theorem dX7_copy_77 : decode cX7_copy 77 = .ok (.getfield 24, 3) := by decide +kernel
theorem dX7_copy_80 : decode cX7_copy 80 = .ok (.iconst 0, 1) := by decide +kernel
theorem dX7_copy_81 : decode cX7_copy 81 = .ok (.aload_n 0, 1) := by decide +kernel
theorem dX7_copy_82 : decode cX7_copy 82 = .ok (.getfield 24, 3) := by decide +kernel
theorem dX7_copy_85 : decode cX7_copy 85 = .ok (.iconst 0, 1) := by decide +kernel
theorem dX7_copy_86 : decode cX7_copy 86 = .ok (.bipush 40, 2) := by decide +kernel
theorem dX7_copy_88 : decode cX7_copy 88 = .ok (.invokestatic 48, 3) := by decide +kernel
theorem dX7_copy_91 : decode cX7_copy 91 = .ok (.aload_n 1, 1) := by decide +kernel
theorem dX7_copy_92 : decode cX7_copy 92 = .ok (.getfield 27, 3) := by decide +kernel
theorem dX7_copy_95 : decode cX7_copy 95 = .ok (.iconst 0, 1) := by decide +kernel
theorem dX7_copy_96 : decode cX7_copy 96 = .ok (.aload_n 0, 1) := by decide +kernel
theorem dX7_copy_97 : decode cX7_copy 97 = .ok (.getfield 27, 3) := by decide +kernel
theorem dX7_copy_100 : decode cX7_copy 100 = .ok (.iconst 0, 1) := by decide +kernel
theorem dX7_copy_101 : decode cX7_copy 101 = .ok (.bipush 8, 2) := by decide +kernel
theorem dX7_copy_103 : decode cX7_copy 103 = .ok (.invokestatic 48, 3) := by decide +kernel
theorem dX7_copy_106 : decode cX7_copy 106 = .ok (.aload_n 1, 1) := by decide +kernel
theorem dX7_copy_107 : decode cX7_copy 107 = .ok (.getfield 30, 3) := by decide +kernel
theorem dX7_copy_110 : decode cX7_copy 110 = .ok (.iconst 0, 1) := by decide +kernel
theorem dX7_copy_111 : decode cX7_copy 111 = .ok (.aload_n 0, 1) := by decide +kernel
theorem dX7_copy_112 : decode cX7_copy 112 = .ok (.getfield 30, 3) := by decide +kernel
theorem dX7_copy_115 : decode cX7_copy 115 = .ok (.iconst 0, 1) := by decide +kernel
theorem dX7_copy_116 : decode cX7_copy 116 = .ok (.bipush 8, 2) := by decide +kernel
theorem dX7_copy_118 : decode cX7_copy 118 = .ok (.invokestatic 48, 3) := by decide +kernel
theorem dX7_copy_121 : decode cX7_copy 121 = .ok (.return_, 1) := by decide +kernel
theorem lk_ow_copy (bw : Nat) (hbw : g_isWeek bw) (bw2 : Nat) (hbw2 : g_isWeek bw2) (μ : g_St) : g_Go gC 12 yX7_copy cX7_copy 2 (none : Option Jvm.ClassFile.FieldType) 0 [some (.ref bw), some (.ref bw2)] [] μ (Option.map o_yv (ow_copy bw bw2 μ)) := by
  unfold ow_copy
  refine g_aload_n dX7_copy_0 rfl rfl ?_
  refine g_aload_n dX7_copy_1 rfl rfl ?_
  refine g_getI dX7_copy_2 cf_X7 fl_X7_33 (ly_Week_lt hbw2) (ly_Week hbw2) rfl (Nat.le_of_ble_eq_true rfl) ?_
  refine w_putI dX7_copy_5 cf_X7 fl_X7_33 (ly_Week_lt hbw) (ly_Week hbw) rfl (Nat.le_of_ble_eq_true rfl) rfl rfl rfl rfl (fun μ1 => ?_)
  refine g_aload_n dX7_copy_8 rfl rfl ?_
  refine g_aload_n dX7_copy_9 rfl rfl ?_
  refine g_getI dX7_copy_10 cf_X7 fl_X7_37 (ly_Week_lt hbw2) (ly_Week hbw2) rfl (Nat.le_of_ble_eq_true rfl) ?_
  refine w_putI dX7_copy_13 cf_X7 fl_X7_37 (ly_Week_lt hbw) (ly_Week hbw) rfl (Nat.le_of_ble_eq_true rfl) rfl rfl rfl rfl (fun μ2 => ?_)
  refine g_aload_n dX7_copy_16 rfl rfl ?_
  refine g_getS dX7_copy_17 cf_X7 fl_X7_9 (ly_Week_lt hbw2) (ly_Week hbw2) rfl (Nat.le_of_ble_eq_true rfl) ?_
  refine g_iconst dX7_copy_20 ic_0 ?_
  refine g_aload_n dX7_copy_21 rfl rfl ?_
  refine g_getS dX7_copy_22 cf_X7 fl_X7_9 (ly_Week_lt hbw) (ly_Week hbw) rfl (Nat.le_of_ble_eq_true rfl) ?_
  refine g_iconst dX7_copy_25 ic_0 ?_
  refine g_bipush dX7_copy_26 bp_40 ?_
  refine w_acpy dX7_copy_28 g_acw mcp_X7_48 (ly_Week_good_lt hbw2) (ly_Week_good hbw2) (ly_Week_good_lt hbw) (ly_Week_good hbw) (Nat.le_of_ble_eq_true rfl) (Nat.le_of_ble_eq_true rfl) (by decide) ⟨rfl, rfl⟩ (fun μ3 => ?_)
  refine g_aload_n dX7_copy_31 rfl rfl ?_
  refine g_getS dX7_copy_32 cf_X7 fl_X7_15 (ly_Week_lt hbw2) (ly_Week hbw2) rfl (Nat.le_of_ble_eq_true rfl) ?_
  refine g_iconst dX7_copy_35 ic_0 ?_
  refine g_aload_n dX7_copy_36 rfl rfl ?_
  refine g_getS dX7_copy_37 cf_X7 fl_X7_15 (ly_Week_lt hbw) (ly_Week hbw) rfl (Nat.le_of_ble_eq_true rfl) ?_
  refine g_iconst dX7_copy_40 ic_0 ?_
  refine g_bipush dX7_copy_41 bp_40 ?_
  refine w_acpy dX7_copy_43 g_acw mcp_X7_48 (ly_Week_sort_lt hbw2) (ly_Week_sort hbw2) (ly_Week_sort_lt hbw) (ly_Week_sort hbw) (Nat.le_of_ble_eq_true rfl) (Nat.le_of_ble_eq_true rfl) (by decide) ⟨rfl, rfl⟩ (fun μ4 => ?_)
  refine g_aload_n dX7_copy_46 rfl rfl ?_
  refine g_getS dX7_copy_47 cf_X7 fl_X7_18 (ly_Week_lt hbw2) (ly_Week hbw2) rfl (Nat.le_of_ble_eq_true rfl) ?_
  refine g_iconst dX7_copy_50 ic_0 ?_
  refine g_aload_n dX7_copy_51 rfl rfl ?_
  refine g_getS dX7_copy_52 cf_X7 fl_X7_18 (ly_Week_lt hbw) (ly_Week hbw) rfl (Nat.le_of_ble_eq_true rfl) ?_
  refine g_iconst dX7_copy_55 ic_0 ?_
  refine g_bipush dX7_copy_56 bp_40 ?_
  refine w_acpy dX7_copy_58 g_acw mcp_X7_48 (ly_Week_makers_lt hbw2) (ly_Week_makers hbw2) (ly_Week_makers_lt hbw) (ly_Week_makers hbw) (Nat.le_of_ble_eq_true rfl) (Nat.le_of_ble_eq_true rfl) (by decide) ⟨rfl, rfl⟩ (fun μ5 => ?_)
  refine g_aload_n dX7_copy_61 rfl rfl ?_
  refine g_getS dX7_copy_62 cf_X7 fl_X7_21 (ly_Week_lt hbw2) (ly_Week hbw2) rfl (Nat.le_of_ble_eq_true rfl) ?_
  refine g_iconst dX7_copy_65 ic_0 ?_
  refine g_aload_n dX7_copy_66 rfl rfl ?_
  refine g_getS dX7_copy_67 cf_X7 fl_X7_21 (ly_Week_lt hbw) (ly_Week hbw) rfl (Nat.le_of_ble_eq_true rfl) ?_
  refine g_iconst dX7_copy_70 ic_0 ?_
  refine g_bipush dX7_copy_71 bp_40 ?_
  refine w_acpy dX7_copy_73 g_acw mcp_X7_48 (ly_Week_holder_lt hbw2) (ly_Week_holder hbw2) (ly_Week_holder_lt hbw) (ly_Week_holder hbw) (Nat.le_of_ble_eq_true rfl) (Nat.le_of_ble_eq_true rfl) (by decide) ⟨rfl, rfl⟩ (fun μ6 => ?_)
  refine g_aload_n dX7_copy_76 rfl rfl ?_
  refine g_getS dX7_copy_77 cf_X7 fl_X7_24 (ly_Week_lt hbw2) (ly_Week hbw2) rfl (Nat.le_of_ble_eq_true rfl) ?_
  refine g_iconst dX7_copy_80 ic_0 ?_
  refine g_aload_n dX7_copy_81 rfl rfl ?_
  refine g_getS dX7_copy_82 cf_X7 fl_X7_24 (ly_Week_lt hbw) (ly_Week hbw) rfl (Nat.le_of_ble_eq_true rfl) ?_
  refine g_iconst dX7_copy_85 ic_0 ?_
  refine g_bipush dX7_copy_86 bp_40 ?_
  refine w_acpy dX7_copy_88 g_acw mcp_X7_48 (ly_Week_done_lt hbw2) (ly_Week_done hbw2) (ly_Week_done_lt hbw) (ly_Week_done hbw) (Nat.le_of_ble_eq_true rfl) (Nat.le_of_ble_eq_true rfl) (by decide) ⟨rfl, rfl⟩ (fun μ7 => ?_)
  refine g_aload_n dX7_copy_91 rfl rfl ?_
  refine g_getS dX7_copy_92 cf_X7 fl_X7_27 (ly_Week_lt hbw2) (ly_Week hbw2) rfl (Nat.le_of_ble_eq_true rfl) ?_
  refine g_iconst dX7_copy_95 ic_0 ?_
  refine g_aload_n dX7_copy_96 rfl rfl ?_
  refine g_getS dX7_copy_97 cf_X7 fl_X7_27 (ly_Week_lt hbw) (ly_Week hbw) rfl (Nat.le_of_ble_eq_true rfl) ?_
  refine g_iconst dX7_copy_100 ic_0 ?_
  refine g_bipush dX7_copy_101 bp_8 ?_
  refine w_acpy dX7_copy_103 g_acw mcp_X7_48 (ly_Week_clock_lt hbw2) (ly_Week_clock hbw2) (ly_Week_clock_lt hbw) (ly_Week_clock hbw) (Nat.le_of_ble_eq_true rfl) (Nat.le_of_ble_eq_true rfl) (by decide) ⟨rfl, rfl⟩ (fun μ8 => ?_)
  refine g_aload_n dX7_copy_106 rfl rfl ?_
  refine g_getS dX7_copy_107 cf_X7 fl_X7_30 (ly_Week_lt hbw2) (ly_Week hbw2) rfl (Nat.le_of_ble_eq_true rfl) ?_
  refine g_iconst dX7_copy_110 ic_0 ?_
  refine g_aload_n dX7_copy_111 rfl rfl ?_
  refine g_getS dX7_copy_112 cf_X7 fl_X7_30 (ly_Week_lt hbw) (ly_Week hbw) rfl (Nat.le_of_ble_eq_true rfl) ?_
  refine g_iconst dX7_copy_115 ic_0 ?_
  refine g_bipush dX7_copy_116 bp_8 ?_
  refine w_acpy dX7_copy_118 g_acw mcp_X7_48 (ly_Week_place_lt hbw2) (ly_Week_place hbw2) (ly_Week_place_lt hbw) (ly_Week_place hbw) (Nat.le_of_ble_eq_true rfl) (Nat.le_of_ble_eq_true rfl) (by decide) ⟨rfl, rfl⟩ (fun μ9 => ?_)
  exact w_vret dX7_copy_121 rfl rfl
theorem co_ow_copy (bw : Nat) (hbw : g_isWeek bw) (bw2 : Nat) (hbw2 : g_isWeek bw2) (μ : g_St) : g_Con gC 12 yX7_copy cX7_copy 2 (none : Option Jvm.ClassFile.FieldType) [.ref bw, .ref bw2] μ (g_yv (ow_copy bw bw2 μ)) := g_conOf mc_X7_copy.2.2.2.2 (Nat.le_of_ble_eq_true rfl) rfl g_yv_rk (lk_ow_copy bw hbw bw2 hbw2 μ)
theorem dX7_laterClock_0 : decode cX7_laterClock 0 = .ok (.aload_n 0, 1) := by decide +kernel
theorem dX7_laterClock_1 : decode cX7_laterClock 1 = .ok (.getfield 27, 3) := by decide +kernel
theorem dX7_laterClock_4 : decode cX7_laterClock 4 = .ok (.iload_n 1, 1) := by decide +kernel
theorem dX7_laterClock_5 : decode cX7_laterClock 5 = .ok (.iaload, 1) := by decide +kernel
theorem dX7_laterClock_6 : decode cX7_laterClock 6 = .ok (.aload_n 0, 1) := by decide +kernel
theorem dX7_laterClock_7 : decode cX7_laterClock 7 = .ok (.getfield 27, 3) := by decide +kernel
theorem dX7_laterClock_10 : decode cX7_laterClock 10 = .ok (.iload_n 2, 1) := by decide +kernel
theorem dX7_laterClock_11 : decode cX7_laterClock 11 = .ok (.iaload, 1) := by decide +kernel
theorem dX7_laterClock_12 : decode cX7_laterClock 12 = .ok (.invokestatic 54, 3) := by decide +kernel
theorem dX7_laterClock_15 : decode cX7_laterClock 15 = .ok (.ireturn, 1) := by decide +kernel
theorem lk_ow_laterClock (bw : Nat) (hbw : g_isWeek bw) (μ : g_St) (v1 : Int32) (v2 : Int32) : g_Go gC 1 yX7_laterClock cX7_laterClock 3 (some .int) 0 [some (.ref bw), some (.int v1), some (.int v2)] [] μ (Option.map (o_i μ) (ow_laterClock bw μ v1 v2)) := by
  unfold ow_laterClock
  refine g_aload_n dX7_laterClock_0 rfl rfl ?_
  refine g_getS dX7_laterClock_1 cf_X7 fl_X7_27 (ly_Week_lt hbw) (ly_Week hbw) rfl (Nat.le_of_ble_eq_true rfl) ?_
  refine g_iload_n dX7_laterClock_4 rfl rfl ?_
  refine w_iald dX7_laterClock_5 (ly_Week_clock_lt hbw) (ly_Week_clock hbw) (fun x1 => ?_)
  refine g_aload_n dX7_laterClock_6 rfl rfl ?_
  refine g_getS dX7_laterClock_7 cf_X7 fl_X7_27 (ly_Week_lt hbw) (ly_Week hbw) rfl (Nat.le_of_ble_eq_true rfl) ?_
  refine g_iload_n dX7_laterClock_10 rfl rfl ?_
  refine w_iald dX7_laterClock_11 (ly_Week_clock_lt hbw) (ly_Week_clock hbw) (fun x2 => ?_)
  refine g_mmax g_mm dX7_laterClock_12 mh_X7_54 (Nat.le_of_ble_eq_true rfl) (Nat.le_of_ble_eq_true rfl) ?_
  exact w_iret dX7_laterClock_15 rfl rfl
theorem co_ow_laterClock (bw : Nat) (hbw : g_isWeek bw) (μ : g_St) (v1 : Int32) (v2 : Int32) : g_Con gC 1 yX7_laterClock cX7_laterClock 3 (some .int) [.ref bw, .int v1, .int v2] μ (g_xi μ (ow_laterClock bw μ v1 v2)) := g_conOf mc_X7_laterClock.2.2.2.2 (Nat.le_of_ble_eq_true rfl) rfl (g_xi_rk (Or.inl rfl)) (lk_ow_laterClock bw hbw μ v1 v2)
theorem dX7_setClocks_0 : decode cX7_setClocks 0 = .ok (.aload_n 0, 1) := by decide +kernel
theorem dX7_setClocks_1 : decode cX7_setClocks 1 = .ok (.getfield 27, 3) := by decide +kernel
theorem dX7_setClocks_4 : decode cX7_setClocks 4 = .ok (.iload_n 1, 1) := by decide +kernel
theorem dX7_setClocks_5 : decode cX7_setClocks 5 = .ok (.iload_n 3, 1) := by decide +kernel
theorem dX7_setClocks_6 : decode cX7_setClocks 6 = .ok (.iastore, 1) := by decide +kernel
theorem dX7_setClocks_7 : decode cX7_setClocks 7 = .ok (.aload_n 0, 1) := by decide +kernel
theorem dX7_setClocks_8 : decode cX7_setClocks 8 = .ok (.getfield 27, 3) := by decide +kernel
theorem dX7_setClocks_11 : decode cX7_setClocks 11 = .ok (.iload_n 2, 1) := by decide +kernel
theorem dX7_setClocks_12 : decode cX7_setClocks 12 = .ok (.iload_n 3, 1) := by decide +kernel
theorem dX7_setClocks_13 : decode cX7_setClocks 13 = .ok (.iastore, 1) := by decide +kernel
theorem dX7_setClocks_14 : decode cX7_setClocks 14 = .ok (.return_, 1) := by decide +kernel
theorem lk_ow_setClocks (bw : Nat) (hbw : g_isWeek bw) (v1 : Int32) (v2 : Int32) (v3 : Int32) (μ : g_St) : g_Go gC 0 yX7_setClocks cX7_setClocks 4 (none : Option Jvm.ClassFile.FieldType) 0 [some (.ref bw), some (.int v1), some (.int v2), some (.int v3)] [] μ (Option.map o_yv (ow_setClocks bw v1 v2 v3 μ)) := by
  unfold ow_setClocks
  refine g_aload_n dX7_setClocks_0 rfl rfl ?_
  refine g_getS dX7_setClocks_1 cf_X7 fl_X7_27 (ly_Week_lt hbw) (ly_Week hbw) rfl (Nat.le_of_ble_eq_true rfl) ?_
  refine g_iload_n dX7_setClocks_4 rfl rfl ?_
  refine g_iload_n dX7_setClocks_5 rfl rfl ?_
  refine w_iast dX7_setClocks_6 (ly_Week_clock_lt hbw) (ly_Week_clock hbw) (fun μ1 => ?_)
  refine g_aload_n dX7_setClocks_7 rfl rfl ?_
  refine g_getS dX7_setClocks_8 cf_X7 fl_X7_27 (ly_Week_lt hbw) (ly_Week hbw) rfl (Nat.le_of_ble_eq_true rfl) ?_
  refine g_iload_n dX7_setClocks_11 rfl rfl ?_
  refine g_iload_n dX7_setClocks_12 rfl rfl ?_
  refine w_iast dX7_setClocks_13 (ly_Week_clock_lt hbw) (ly_Week_clock hbw) (fun μ2 => ?_)
  exact w_vret dX7_setClocks_14 rfl rfl
theorem co_ow_setClocks (bw : Nat) (hbw : g_isWeek bw) (v1 : Int32) (v2 : Int32) (v3 : Int32) (μ : g_St) : g_Con gC 0 yX7_setClocks cX7_setClocks 4 (none : Option Jvm.ClassFile.FieldType) [.ref bw, .int v1, .int v2, .int v3] μ (g_yv (ow_setClocks bw v1 v2 v3 μ)) := g_conOf mc_X7_setClocks.2.2.2.2 (Nat.le_of_ble_eq_true rfl) rfl g_yv_rk (lk_ow_setClocks bw hbw v1 v2 v3 μ)
theorem dX7_add_0 : decode cX7_add 0 = .ok (.aload_n 0, 1) := by decide +kernel
theorem dX7_add_1 : decode cX7_add 1 = .ok (.getfield 33, 3) := by decide +kernel
theorem dX7_add_4 : decode cX7_add 4 = .ok (.bipush 40, 2) := by decide +kernel
theorem dX7_add_6 : decode cX7_add 6 = .ok (.if_icmp .ge 65, 3) := by decide +kernel
theorem dX7_add_9 : decode cX7_add 9 = .ok (.aload_n 0, 1) := by decide +kernel
theorem dX7_add_10 : decode cX7_add 10 = .ok (.getfield 9, 3) := by decide +kernel
theorem dX7_add_13 : decode cX7_add 13 = .ok (.aload_n 0, 1) := by decide +kernel
theorem dX7_add_14 : decode cX7_add 14 = .ok (.getfield 33, 3) := by decide +kernel
theorem dX7_add_17 : decode cX7_add 17 = .ok (.iload_n 1, 1) := by decide +kernel
theorem dX7_add_18 : decode cX7_add 18 = .ok (.iastore, 1) := by decide +kernel
theorem dX7_add_19 : decode cX7_add 19 = .ok (.aload_n 0, 1) := by decide +kernel
theorem dX7_add_20 : decode cX7_add 20 = .ok (.getfield 15, 3) := by decide +kernel
theorem dX7_add_23 : decode cX7_add 23 = .ok (.aload_n 0, 1) := by decide +kernel
theorem dX7_add_24 : decode cX7_add 24 = .ok (.getfield 33, 3) := by decide +kernel
theorem dX7_add_27 : decode cX7_add 27 = .ok (.iload_n 2, 1) := by decide +kernel
theorem dX7_add_28 : decode cX7_add 28 = .ok (.iastore, 1) := by decide +kernel
theorem dX7_add_29 : decode cX7_add 29 = .ok (.aload_n 0, 1) := by decide +kernel
theorem dX7_add_30 : decode cX7_add 30 = .ok (.getfield 18, 3) := by decide +kernel
theorem dX7_add_33 : decode cX7_add 33 = .ok (.aload_n 0, 1) := by decide +kernel
theorem dX7_add_34 : decode cX7_add 34 = .ok (.getfield 33, 3) := by decide +kernel
theorem dX7_add_37 : decode cX7_add 37 = .ok (.iload_n 3, 1) := by decide +kernel
theorem dX7_add_38 : decode cX7_add 38 = .ok (.iastore, 1) := by decide +kernel
theorem dX7_add_39 : decode cX7_add 39 = .ok (.aload_n 0, 1) := by decide +kernel
theorem dX7_add_40 : decode cX7_add 40 = .ok (.getfield 21, 3) := by decide +kernel
theorem dX7_add_43 : decode cX7_add 43 = .ok (.aload_n 0, 1) := by decide +kernel
theorem dX7_add_44 : decode cX7_add 44 = .ok (.getfield 33, 3) := by decide +kernel
theorem dX7_add_47 : decode cX7_add 47 = .ok (.iload 4, 2) := by decide +kernel
theorem dX7_add_49 : decode cX7_add 49 = .ok (.iastore, 1) := by decide +kernel
theorem dX7_add_50 : decode cX7_add 50 = .ok (.aload_n 0, 1) := by decide +kernel
theorem dX7_add_51 : decode cX7_add 51 = .ok (.getfield 24, 3) := by decide +kernel
theorem dX7_add_54 : decode cX7_add 54 = .ok (.aload_n 0, 1) := by decide +kernel
theorem dX7_add_55 : decode cX7_add 55 = .ok (.getfield 33, 3) := by decide +kernel
theorem dX7_add_58 : decode cX7_add 58 = .ok (.iload 5, 2) := by decide +kernel
theorem dX7_add_60 : decode cX7_add 60 = .ok (.iastore, 1) := by decide +kernel
theorem dX7_add_61 : decode cX7_add 61 = .ok (.aload_n 0, 1) := by decide +kernel
theorem dX7_add_62 : decode cX7_add 62 = .ok (.dup, 1) := by decide +kernel
theorem dX7_add_63 : decode cX7_add 63 = .ok (.getfield 33, 3) := by decide +kernel
theorem dX7_add_66 : decode cX7_add 66 = .ok (.iconst 1, 1) := by decide +kernel
theorem dX7_add_67 : decode cX7_add 67 = .ok (.iadd, 1) := by decide +kernel
theorem dX7_add_68 : decode cX7_add 68 = .ok (.putfield 33, 3) := by decide +kernel
theorem dX7_add_71 : decode cX7_add 71 = .ok (.return_, 1) := by decide +kernel
theorem lk_ow_add (bw : Nat) (hbw : g_isWeek bw) (v1 : Int32) (v2 : Int32) (v3 : Int32) (v4 : Int32) (v5 : Int32) (μ : g_St) : g_Go gC 0 yX7_add cX7_add 6 (none : Option Jvm.ClassFile.FieldType) 0 [some (.ref bw), some (.int v1), some (.int v2), some (.int v3), some (.int v4), some (.int v5)] [] μ (Option.map o_yv (ow_add bw v1 v2 v3 v4 v5 μ)) := by
  unfold ow_add
  refine g_aload_n dX7_add_0 rfl rfl ?_
  refine g_getI dX7_add_1 cf_X7 fl_X7_33 (ly_Week_lt hbw) (ly_Week hbw) rfl (Nat.le_of_ble_eq_true rfl) ?_
  refine g_bipush dX7_add_4 bp_40 ?_
  refine w_icmp_ge (tgt := 71) dX7_add_6 (by decide) ?_ ?_
  · refine g_aload_n dX7_add_9 rfl rfl ?_
    refine g_getS dX7_add_10 cf_X7 fl_X7_9 (ly_Week_lt hbw) (ly_Week hbw) rfl (Nat.le_of_ble_eq_true rfl) ?_
    refine g_aload_n dX7_add_13 rfl rfl ?_
    refine g_getI dX7_add_14 cf_X7 fl_X7_33 (ly_Week_lt hbw) (ly_Week hbw) rfl (Nat.le_of_ble_eq_true rfl) ?_
    refine g_iload_n dX7_add_17 rfl rfl ?_
    refine w_iast dX7_add_18 (ly_Week_good_lt hbw) (ly_Week_good hbw) (fun μ1 => ?_)
    refine g_aload_n dX7_add_19 rfl rfl ?_
    refine g_getS dX7_add_20 cf_X7 fl_X7_15 (ly_Week_lt hbw) (ly_Week hbw) rfl (Nat.le_of_ble_eq_true rfl) ?_
    refine g_aload_n dX7_add_23 rfl rfl ?_
    refine g_getI dX7_add_24 cf_X7 fl_X7_33 (ly_Week_lt hbw) (ly_Week hbw) rfl (Nat.le_of_ble_eq_true rfl) ?_
    refine g_iload_n dX7_add_27 rfl rfl ?_
    refine w_iast dX7_add_28 (ly_Week_sort_lt hbw) (ly_Week_sort hbw) (fun μ2 => ?_)
    refine g_aload_n dX7_add_29 rfl rfl ?_
    refine g_getS dX7_add_30 cf_X7 fl_X7_18 (ly_Week_lt hbw) (ly_Week hbw) rfl (Nat.le_of_ble_eq_true rfl) ?_
    refine g_aload_n dX7_add_33 rfl rfl ?_
    refine g_getI dX7_add_34 cf_X7 fl_X7_33 (ly_Week_lt hbw) (ly_Week hbw) rfl (Nat.le_of_ble_eq_true rfl) ?_
    refine g_iload_n dX7_add_37 rfl rfl ?_
    refine w_iast dX7_add_38 (ly_Week_makers_lt hbw) (ly_Week_makers hbw) (fun μ3 => ?_)
    refine g_aload_n dX7_add_39 rfl rfl ?_
    refine g_getS dX7_add_40 cf_X7 fl_X7_21 (ly_Week_lt hbw) (ly_Week hbw) rfl (Nat.le_of_ble_eq_true rfl) ?_
    refine g_aload_n dX7_add_43 rfl rfl ?_
    refine g_getI dX7_add_44 cf_X7 fl_X7_33 (ly_Week_lt hbw) (ly_Week hbw) rfl (Nat.le_of_ble_eq_true rfl) ?_
    refine g_iload dX7_add_47 rfl ?_
    refine w_iast dX7_add_49 (ly_Week_holder_lt hbw) (ly_Week_holder hbw) (fun μ4 => ?_)
    refine g_aload_n dX7_add_50 rfl rfl ?_
    refine g_getS dX7_add_51 cf_X7 fl_X7_24 (ly_Week_lt hbw) (ly_Week hbw) rfl (Nat.le_of_ble_eq_true rfl) ?_
    refine g_aload_n dX7_add_54 rfl rfl ?_
    refine g_getI dX7_add_55 cf_X7 fl_X7_33 (ly_Week_lt hbw) (ly_Week hbw) rfl (Nat.le_of_ble_eq_true rfl) ?_
    refine g_iload dX7_add_58 rfl ?_
    refine w_iast dX7_add_60 (ly_Week_done_lt hbw) (ly_Week_done hbw) (fun μ5 => ?_)
    refine g_aload_n dX7_add_61 rfl rfl ?_
    refine g_dupr dX7_add_62 ?_
    refine g_getI dX7_add_63 cf_X7 fl_X7_33 (ly_Week_lt hbw) (ly_Week hbw) rfl (Nat.le_of_ble_eq_true rfl) ?_
    refine g_iconst dX7_add_66 ic_1 ?_
    refine g_iadd dX7_add_67 ?_
    refine w_putI dX7_add_68 cf_X7 fl_X7_33 (ly_Week_lt hbw) (ly_Week hbw) rfl (Nat.le_of_ble_eq_true rfl) rfl rfl rfl rfl (fun μ6 => ?_)
    exact w_vret dX7_add_71 rfl rfl
  · exact w_vret dX7_add_71 rfl rfl
theorem co_ow_add (bw : Nat) (hbw : g_isWeek bw) (v1 : Int32) (v2 : Int32) (v3 : Int32) (v4 : Int32) (v5 : Int32) (μ : g_St) : g_Con gC 0 yX7_add cX7_add 6 (none : Option Jvm.ClassFile.FieldType) [.ref bw, .int v1, .int v2, .int v3, .int v4, .int v5] μ (g_yv (ow_add bw v1 v2 v3 v4 v5 μ)) := g_conOf mc_X7_add.2.2.2.2 (Nat.le_of_ble_eq_true rfl) rfl g_yv_rk (lk_ow_add bw hbw v1 v2 v3 v4 v5 μ)
theorem dX7_firstHeld_0 : decode cX7_firstHeld 0 = .ok (.iconst 0, 1) := by decide +kernel
theorem dX7_firstHeld_1 : decode cX7_firstHeld 1 = .ok (.istore_n 3, 1) := by decide +kernel
theorem dX7_firstHeld_2 : decode cX7_firstHeld 2 = .ok (.iload_n 3, 1) := by decide +kernel
theorem dX7_firstHeld_3 : decode cX7_firstHeld 3 = .ok (.aload_n 0, 1) := by decide +kernel
theorem dX7_firstHeld_4 : decode cX7_firstHeld 4 = .ok (.getfield 33, 3) := by decide +kernel
theorem dX7_firstHeld_7 : decode cX7_firstHeld 7 = .ok (.if_icmp .ge 31, 3) := by decide +kernel
theorem dX7_firstHeld_10 : decode cX7_firstHeld 10 = .ok (.aload_n 0, 1) := by decide +kernel
theorem dX7_firstHeld_11 : decode cX7_firstHeld 11 = .ok (.getfield 21, 3) := by decide +kernel
theorem dX7_firstHeld_14 : decode cX7_firstHeld 14 = .ok (.iload_n 3, 1) := by decide +kernel
theorem dX7_firstHeld_15 : decode cX7_firstHeld 15 = .ok (.iaload, 1) := by decide +kernel
theorem dX7_firstHeld_16 : decode cX7_firstHeld 16 = .ok (.iload_n 1, 1) := by decide +kernel
theorem dX7_firstHeld_17 : decode cX7_firstHeld 17 = .ok (.if_icmp .ne 15, 3) := by decide +kernel
theorem dX7_firstHeld_20 : decode cX7_firstHeld 20 = .ok (.aload_n 0, 1) := by decide +kernel
theorem dX7_firstHeld_21 : decode cX7_firstHeld 21 = .ok (.getfield 9, 3) := by decide +kernel
theorem dX7_firstHeld_24 : decode cX7_firstHeld 24 = .ok (.iload_n 3, 1) := by decide +kernel
theorem dX7_firstHeld_25 : decode cX7_firstHeld 25 = .ok (.iaload, 1) := by decide +kernel
theorem dX7_firstHeld_26 : decode cX7_firstHeld 26 = .ok (.iload_n 2, 1) := by decide +kernel
theorem dX7_firstHeld_27 : decode cX7_firstHeld 27 = .ok (.if_icmp .ne 5, 3) := by decide +kernel
theorem dX7_firstHeld_30 : decode cX7_firstHeld 30 = .ok (.iload_n 3, 1) := by decide +kernel
theorem dX7_firstHeld_31 : decode cX7_firstHeld 31 = .ok (.ireturn, 1) := by decide +kernel
theorem dX7_firstHeld_32 : decode cX7_firstHeld 32 = .ok (.iinc 3 1, 3) := by decide +kernel
theorem dX7_firstHeld_35 : decode cX7_firstHeld 35 = .ok (.goto (-33), 3) := by decide +kernel
theorem dX7_firstHeld_38 : decode cX7_firstHeld 38 = .ok (.iconst (-1), 1) := by decide +kernel
theorem dX7_firstHeld_39 : decode cX7_firstHeld 39 = .ok (.ireturn, 1) := by decide +kernel
theorem lk_ow_firstHeld_2_b (F : Nat) (bw : Nat) (hbw : g_isWeek bw) (μ : g_St) (v1 : Int32) (v2 : Int32) (K_2 : Int32 → Option Int32) (hK_2 : ∀ (w3 : Int32), g_Go gC 0 yX7_firstHeld cX7_firstHeld 4 (some .int) 2 [some (.ref bw), some (.int v1), some (.int v2), some (.int w3)] [] μ (Option.map (o_i μ) (K_2 w3))) (v3 : Int32) : g_Go gC 0 yX7_firstHeld cX7_firstHeld 4 (some .int) 2 [some (.ref bw), some (.int v1), some (.int v2), some (.int v3)] [] μ (Option.map (o_i μ) (ow_firstHeld_2_b F bw μ v1 v2 K_2 v3 )) := by
  unfold ow_firstHeld_2_b
  refine g_iload_n dX7_firstHeld_2 rfl rfl ?_
  refine g_aload_n dX7_firstHeld_3 rfl rfl ?_
  refine g_getI dX7_firstHeld_4 cf_X7 fl_X7_33 (ly_Week_lt hbw) (ly_Week hbw) rfl (Nat.le_of_ble_eq_true rfl) ?_
  refine w_icmp_ge (tgt := 38) dX7_firstHeld_7 (by decide) ?_ ?_
  · refine g_aload_n dX7_firstHeld_10 rfl rfl ?_
    refine g_getS dX7_firstHeld_11 cf_X7 fl_X7_21 (ly_Week_lt hbw) (ly_Week hbw) rfl (Nat.le_of_ble_eq_true rfl) ?_
    refine g_iload_n dX7_firstHeld_14 rfl rfl ?_
    refine w_iald dX7_firstHeld_15 (ly_Week_holder_lt hbw) (ly_Week_holder hbw) (fun x1 => ?_)
    refine g_iload_n dX7_firstHeld_16 rfl rfl ?_
    refine w_icmp_ne (tgt := 32) dX7_firstHeld_17 (by decide) ?_ ?_
    · refine g_aload_n dX7_firstHeld_20 rfl rfl ?_
      refine g_getS dX7_firstHeld_21 cf_X7 fl_X7_9 (ly_Week_lt hbw) (ly_Week hbw) rfl (Nat.le_of_ble_eq_true rfl) ?_
      refine g_iload_n dX7_firstHeld_24 rfl rfl ?_
      refine w_iald dX7_firstHeld_25 (ly_Week_good_lt hbw) (ly_Week_good hbw) (fun x2 => ?_)
      refine g_iload_n dX7_firstHeld_26 rfl rfl ?_
      refine w_icmp_ne (tgt := 32) dX7_firstHeld_27 (by decide) ?_ ?_
      · refine g_iload_n dX7_firstHeld_30 rfl rfl ?_
        exact w_iret dX7_firstHeld_31 rfl rfl
      · refine g_iinc (lo2 := [_, _, _, _]) dX7_firstHeld_32 rfl rfl (Nat.le_of_ble_eq_true rfl) rfl rfl ?_
        refine g_goto (tgt := 2) dX7_firstHeld_35 (by decide) ?_
        exact g_to (hK_2 _) (su_s (su_s (su_s (su_s su_0))))
    · refine g_iinc (lo2 := [_, _, _, _]) dX7_firstHeld_32 rfl rfl (Nat.le_of_ble_eq_true rfl) rfl rfl ?_
      refine g_goto (tgt := 2) dX7_firstHeld_35 (by decide) ?_
      exact g_to (hK_2 _) (su_s (su_s (su_s (su_s su_0))))
  · refine g_iconst dX7_firstHeld_38 ic_m1 ?_
    exact w_iret dX7_firstHeld_39 rfl rfl
theorem lk_ow_firstHeld_2 (F : Nat) (bw : Nat) (hbw : g_isWeek bw) (μ : g_St) (v1 : Int32) (v2 : Int32) : ∀ (f : Nat) (v3 : Int32) , g_Go gC 0 yX7_firstHeld cX7_firstHeld 4 (some .int) 2 [some (.ref bw), some (.int v1), some (.int v2), some (.int v3)] [] μ (Option.map (o_i μ) (ow_firstHeld_2 F bw μ v1 v2 f v3 ))
  | 0, v3 => g_none
  | f + 1, v3 => lk_ow_firstHeld_2_b F bw hbw μ v1 v2 (ow_firstHeld_2 F bw μ v1 v2 f) (lk_ow_firstHeld_2 F bw hbw μ v1 v2 f) v3 
theorem lk_ow_firstHeld (F : Nat) (bw : Nat) (hbw : g_isWeek bw) (μ : g_St) (v1 : Int32) (v2 : Int32) : g_Go gC 0 yX7_firstHeld cX7_firstHeld 4 (some .int) 0 [some (.ref bw), some (.int v1), some (.int v2), none] [] μ (Option.map (o_i μ) (ow_firstHeld F bw μ v1 v2)) := by
  unfold ow_firstHeld
  refine g_iconst dX7_firstHeld_0 ic_0 ?_
  refine g_istore_n (lo2 := [_, _, _, _]) dX7_firstHeld_1 rfl (Nat.le_of_ble_eq_true rfl) rfl rfl ?_
  exact g_to (lk_ow_firstHeld_2 F bw hbw μ _ _ _ _) (su_s (su_s (su_s (su_s su_0))))
theorem co_ow_firstHeld (F : Nat) (bw : Nat) (hbw : g_isWeek bw) (μ : g_St) (v1 : Int32) (v2 : Int32) : g_Con gC 0 yX7_firstHeld cX7_firstHeld 4 (some .int) [.ref bw, .int v1, .int v2] μ (g_xi μ (ow_firstHeld F bw μ v1 v2)) := g_conOf mc_X7_firstHeld.2.2.2.2 (Nat.le_of_ble_eq_true rfl) rfl (g_xi_rk (Or.inl rfl)) (lk_ow_firstHeld F bw hbw μ v1 v2)
theorem dX7_holdsOfEach_0 : decode cX7_holdsOfEach 0 = .ok (.iconst 0, 1) := by decide +kernel
theorem dX7_holdsOfEach_1 : decode cX7_holdsOfEach 1 = .ok (.istore_n 3, 1) := by decide +kernel
theorem dX7_holdsOfEach_2 : decode cX7_holdsOfEach 2 = .ok (.iload_n 3, 1) := by decide +kernel
theorem dX7_holdsOfEach_3 : decode cX7_holdsOfEach 3 = .ok (.bipush 6, 2) := by decide +kernel
theorem dX7_holdsOfEach_5 : decode cX7_holdsOfEach 5 = .ok (.if_icmp .ge 30, 3) := by decide +kernel
theorem dX7_holdsOfEach_8 : decode cX7_holdsOfEach 8 = .ok (.iload_n 2, 1) := by decide +kernel
theorem dX7_holdsOfEach_9 : decode cX7_holdsOfEach 9 = .ok (.iload_n 3, 1) := by decide +kernel
theorem dX7_holdsOfEach_10 : decode cX7_holdsOfEach 10 = .ok (.ishr, 1) := by decide +kernel
theorem dX7_holdsOfEach_11 : decode cX7_holdsOfEach 11 = .ok (.iconst 1, 1) := by decide +kernel
theorem dX7_holdsOfEach_12 : decode cX7_holdsOfEach 12 = .ok (.iand, 1) := by decide +kernel
theorem dX7_holdsOfEach_13 : decode cX7_holdsOfEach 13 = .ok (.iconst 1, 1) := by decide +kernel
theorem dX7_holdsOfEach_14 : decode cX7_holdsOfEach 14 = .ok (.if_icmp .ne 15, 3) := by decide +kernel
theorem dX7_holdsOfEach_17 : decode cX7_holdsOfEach 17 = .ok (.aload_n 0, 1) := by decide +kernel
theorem dX7_holdsOfEach_18 : decode cX7_holdsOfEach 18 = .ok (.iload_n 1, 1) := by decide +kernel
theorem dX7_holdsOfEach_19 : decode cX7_holdsOfEach 19 = .ok (.iload_n 3, 1) := by decide +kernel
theorem dX7_holdsOfEach_20 : decode cX7_holdsOfEach 20 = .ok (.invokevirtual 60, 3) := by decide +kernel
theorem dX7_holdsOfEach_23 : decode cX7_holdsOfEach 23 = .ok (.iconst (-1), 1) := by decide +kernel
theorem dX7_holdsOfEach_24 : decode cX7_holdsOfEach 24 = .ok (.if_icmp .ne 5, 3) := by decide +kernel
theorem dX7_holdsOfEach_27 : decode cX7_holdsOfEach 27 = .ok (.iconst 0, 1) := by decide +kernel
theorem dX7_holdsOfEach_28 : decode cX7_holdsOfEach 28 = .ok (.ireturn, 1) := by decide +kernel
theorem dX7_holdsOfEach_29 : decode cX7_holdsOfEach 29 = .ok (.iinc 3 1, 3) := by decide +kernel
theorem dX7_holdsOfEach_32 : decode cX7_holdsOfEach 32 = .ok (.goto (-30), 3) := by decide +kernel
theorem dX7_holdsOfEach_35 : decode cX7_holdsOfEach 35 = .ok (.iconst 1, 1) := by decide +kernel
theorem dX7_holdsOfEach_36 : decode cX7_holdsOfEach 36 = .ok (.ireturn, 1) := by decide +kernel
theorem lk_ow_holdsOfEach_2_b (F : Nat) (bw : Nat) (hbw : g_isWeek bw) (μ : g_St) (v1 : Int32) (v2 : Int32) (K_2 : Int32 → Option Int32) (hK_2 : ∀ (w3 : Int32), g_Go gC 1 yX7_holdsOfEach cX7_holdsOfEach 4 (some .boolean) 2 [some (.ref bw), some (.int v1), some (.int v2), some (.int w3)] [] μ (Option.map (o_i μ) (K_2 w3))) (v3 : Int32) : g_Go gC 1 yX7_holdsOfEach cX7_holdsOfEach 4 (some .boolean) 2 [some (.ref bw), some (.int v1), some (.int v2), some (.int v3)] [] μ (Option.map (o_i μ) (ow_holdsOfEach_2_b F bw μ v1 v2 K_2 v3 )) := by
  unfold ow_holdsOfEach_2_b
  refine g_iload_n dX7_holdsOfEach_2 rfl rfl ?_
  refine g_bipush dX7_holdsOfEach_3 bp_6 ?_
  refine w_icmp_ge (tgt := 35) dX7_holdsOfEach_5 (by decide) ?_ ?_
  · refine g_iload_n dX7_holdsOfEach_8 rfl rfl ?_
    refine g_iload_n dX7_holdsOfEach_9 rfl rfl ?_
    refine g_ishr dX7_holdsOfEach_10 ?_
    refine g_iconst dX7_holdsOfEach_11 ic_1 ?_
    refine g_iand dX7_holdsOfEach_12 ?_
    refine g_iconst dX7_holdsOfEach_13 ic_1 ?_
    refine w_icmp_ne (tgt := 29) dX7_holdsOfEach_14 (by decide) ?_ ?_
    · refine g_aload_n dX7_holdsOfEach_17 rfl rfl ?_
      refine g_iload_n dX7_holdsOfEach_18 rfl rfl ?_
      refine g_iload_n dX7_holdsOfEach_19 rfl rfl ?_
      refine w_Vxi [.int _, .int _] dX7_holdsOfEach_20 ml_X7_60 mv_X7_firstHeld mc_X7_firstHeld cf_X7 (ly_Week_lt hbw) (ly_Week hbw) rfl (Nat.le_of_ble_eq_true rfl) (Nat.le_of_ble_eq_true rfl) (Nat.le_of_ble_eq_true rfl) rfl (co_ow_firstHeld F _ hbw _ _ _) (fun x1 => ?_)
      refine g_iconst dX7_holdsOfEach_23 ic_m1 ?_
      refine w_icmp_ne (tgt := 29) dX7_holdsOfEach_24 (by decide) ?_ ?_
      · refine g_iconst dX7_holdsOfEach_27 ic_0 ?_
        exact w_iret dX7_holdsOfEach_28 (by decide) rfl
      · refine g_iinc (lo2 := [_, _, _, _]) dX7_holdsOfEach_29 rfl rfl (Nat.le_of_ble_eq_true rfl) rfl rfl ?_
        refine g_goto (tgt := 2) dX7_holdsOfEach_32 (by decide) ?_
        exact g_to (hK_2 _) (su_s (su_s (su_s (su_s su_0))))
    · refine g_iinc (lo2 := [_, _, _, _]) dX7_holdsOfEach_29 rfl rfl (Nat.le_of_ble_eq_true rfl) rfl rfl ?_
      refine g_goto (tgt := 2) dX7_holdsOfEach_32 (by decide) ?_
      exact g_to (hK_2 _) (su_s (su_s (su_s (su_s su_0))))
  · refine g_iconst dX7_holdsOfEach_35 ic_1 ?_
    exact w_iret dX7_holdsOfEach_36 (by decide) rfl
theorem lk_ow_holdsOfEach_2 (F : Nat) (bw : Nat) (hbw : g_isWeek bw) (μ : g_St) (v1 : Int32) (v2 : Int32) : ∀ (f : Nat) (v3 : Int32) , g_Go gC 1 yX7_holdsOfEach cX7_holdsOfEach 4 (some .boolean) 2 [some (.ref bw), some (.int v1), some (.int v2), some (.int v3)] [] μ (Option.map (o_i μ) (ow_holdsOfEach_2 F bw μ v1 v2 f v3 ))
  | 0, v3 => g_none
  | f + 1, v3 => lk_ow_holdsOfEach_2_b F bw hbw μ v1 v2 (ow_holdsOfEach_2 F bw μ v1 v2 f) (lk_ow_holdsOfEach_2 F bw hbw μ v1 v2 f) v3 
theorem lk_ow_holdsOfEach (F : Nat) (bw : Nat) (hbw : g_isWeek bw) (μ : g_St) (v1 : Int32) (v2 : Int32) : g_Go gC 1 yX7_holdsOfEach cX7_holdsOfEach 4 (some .boolean) 0 [some (.ref bw), some (.int v1), some (.int v2), none] [] μ (Option.map (o_i μ) (ow_holdsOfEach F bw μ v1 v2)) := by
  unfold ow_holdsOfEach
  refine g_iconst dX7_holdsOfEach_0 ic_0 ?_
  refine g_istore_n (lo2 := [_, _, _, _]) dX7_holdsOfEach_1 rfl (Nat.le_of_ble_eq_true rfl) rfl rfl ?_
  exact g_to (lk_ow_holdsOfEach_2 F bw hbw μ _ _ _ _) (su_s (su_s (su_s (su_s su_0))))
theorem co_ow_holdsOfEach (F : Nat) (bw : Nat) (hbw : g_isWeek bw) (μ : g_St) (v1 : Int32) (v2 : Int32) : g_Con gC 1 yX7_holdsOfEach cX7_holdsOfEach 4 (some .boolean) [.ref bw, .int v1, .int v2] μ (g_xi μ (ow_holdsOfEach F bw μ v1 v2)) := g_conOf mc_X7_holdsOfEach.2.2.2.2 (Nat.le_of_ble_eq_true rfl) rfl (g_xi_rk (Or.inr (Or.inl rfl))) (lk_ow_holdsOfEach F bw hbw μ v1 v2)
theorem dX7_useUp_0 : decode cX7_useUp 0 = .ok (.iconst 0, 1) := by decide +kernel
theorem dX7_useUp_1 : decode cX7_useUp 1 = .ok (.istore_n 3, 1) := by decide +kernel
theorem dX7_useUp_2 : decode cX7_useUp 2 = .ok (.iload_n 3, 1) := by decide +kernel
theorem dX7_useUp_3 : decode cX7_useUp 3 = .ok (.bipush 6, 2) := by decide +kernel
theorem dX7_useUp_5 : decode cX7_useUp 5 = .ok (.if_icmp .ge 44, 3) := by decide +kernel
theorem dX7_useUp_8 : decode cX7_useUp 8 = .ok (.iload_n 2, 1) := by decide +kernel
theorem dX7_useUp_9 : decode cX7_useUp 9 = .ok (.iload_n 3, 1) := by decide +kernel
theorem dX7_useUp_10 : decode cX7_useUp 10 = .ok (.ishr, 1) := by decide +kernel
theorem dX7_useUp_11 : decode cX7_useUp 11 = .ok (.iconst 1, 1) := by decide +kernel
theorem dX7_useUp_12 : decode cX7_useUp 12 = .ok (.iand, 1) := by decide +kernel
theorem dX7_useUp_13 : decode cX7_useUp 13 = .ok (.iconst 1, 1) := by decide +kernel
theorem dX7_useUp_14 : decode cX7_useUp 14 = .ok (.if_icmp .ne 12, 3) := by decide +kernel
theorem dX7_useUp_17 : decode cX7_useUp 17 = .ok (.aload_n 0, 1) := by decide +kernel
theorem dX7_useUp_18 : decode cX7_useUp 18 = .ok (.iload_n 1, 1) := by decide +kernel
theorem dX7_useUp_19 : decode cX7_useUp 19 = .ok (.iload_n 3, 1) := by decide +kernel
theorem dX7_useUp_20 : decode cX7_useUp 20 = .ok (.invokevirtual 60, 3) := by decide +kernel
theorem dX7_useUp_23 : decode cX7_useUp 23 = .ok (.goto 4, 3) := by decide +kernel
theorem dX7_useUp_26 : decode cX7_useUp 26 = .ok (.iconst (-1), 1) := by decide +kernel
theorem dX7_useUp_27 : decode cX7_useUp 27 = .ok (.istore 4, 2) := by decide +kernel
theorem dX7_useUp_29 : decode cX7_useUp 29 = .ok (.iload 4, 2) := by decide +kernel
theorem dX7_useUp_31 : decode cX7_useUp 31 = .ok (.iconst (-1), 1) := by decide +kernel
theorem dX7_useUp_32 : decode cX7_useUp 32 = .ok (.if_icmp .eq 11, 3) := by decide +kernel
theorem dX7_useUp_35 : decode cX7_useUp 35 = .ok (.aload_n 0, 1) := by decide +kernel
theorem dX7_useUp_36 : decode cX7_useUp 36 = .ok (.getfield 21, 3) := by decide +kernel
theorem dX7_useUp_39 : decode cX7_useUp 39 = .ok (.iload 4, 2) := by decide +kernel
theorem dX7_useUp_41 : decode cX7_useUp 41 = .ok (.iconst (-1), 1) := by decide +kernel
theorem dX7_useUp_42 : decode cX7_useUp 42 = .ok (.iastore, 1) := by decide +kernel
theorem dX7_useUp_43 : decode cX7_useUp 43 = .ok (.iinc 3 1, 3) := by decide +kernel
theorem dX7_useUp_46 : decode cX7_useUp 46 = .ok (.goto (-44), 3) := by decide +kernel
theorem dX7_useUp_49 : decode cX7_useUp 49 = .ok (.return_, 1) := by decide +kernel
theorem lk_ow_useUp_27 (F : Nat) (bw : Nat) (hbw : g_isWeek bw) (v1 : Int32) (v2 : Int32) (v3 : Int32) (s0 : Int32) (K_2 : Int32 → g_St → Option g_St) (hK_2 : ∀ (w3 : Int32) (ν : g_St), g_Go gC 1 yX7_useUp cX7_useUp 5 (none : Option Jvm.ClassFile.FieldType) 2 [some (.ref bw), some (.int v1), some (.int v2), some (.int w3), none] [] ν (Option.map o_yv (K_2 w3 ν))) (μ : g_St) : g_Go gC 1 yX7_useUp cX7_useUp 5 (none : Option Jvm.ClassFile.FieldType) 27 [some (.ref bw), some (.int v1), some (.int v2), some (.int v3), none] [.int s0] μ (Option.map o_yv (ow_useUp_27 F bw K_2 v1 v2 v3 s0 μ)) := by
  unfold ow_useUp_27
  refine g_istore (lo2 := [_, _, _, _, _]) dX7_useUp_27 (Nat.le_of_ble_eq_true rfl) rfl rfl ?_
  refine g_iload dX7_useUp_29 rfl ?_
  refine g_iconst dX7_useUp_31 ic_m1 ?_
  refine w_icmp_eq (tgt := 43) dX7_useUp_32 (by decide) ?_ ?_
  · refine g_iinc (lo2 := [_, _, _, _, _]) dX7_useUp_43 rfl rfl (Nat.le_of_ble_eq_true rfl) rfl rfl ?_
    refine g_goto (tgt := 2) dX7_useUp_46 (by decide) ?_
    exact g_to (hK_2 _ _) (su_s (su_s (su_s (su_s (su_n su_0)))))
  · refine g_aload_n dX7_useUp_35 rfl rfl ?_
    refine g_getS dX7_useUp_36 cf_X7 fl_X7_21 (ly_Week_lt hbw) (ly_Week hbw) rfl (Nat.le_of_ble_eq_true rfl) ?_
    refine g_iload dX7_useUp_39 rfl ?_
    refine g_iconst dX7_useUp_41 ic_m1 ?_
    refine w_iast dX7_useUp_42 (ly_Week_holder_lt hbw) (ly_Week_holder hbw) (fun μ2 => ?_)
    refine g_iinc (lo2 := [_, _, _, _, _]) dX7_useUp_43 rfl rfl (Nat.le_of_ble_eq_true rfl) rfl rfl ?_
    refine g_goto (tgt := 2) dX7_useUp_46 (by decide) ?_
    exact g_to (hK_2 _ _) (su_s (su_s (su_s (su_s (su_n su_0)))))
theorem lk_ow_useUp_2_b (F : Nat) (bw : Nat) (hbw : g_isWeek bw) (v1 : Int32) (v2 : Int32) (K_2 : Int32 → g_St → Option g_St) (hK_2 : ∀ (w3 : Int32) (ν : g_St), g_Go gC 1 yX7_useUp cX7_useUp 5 (none : Option Jvm.ClassFile.FieldType) 2 [some (.ref bw), some (.int v1), some (.int v2), some (.int w3), none] [] ν (Option.map o_yv (K_2 w3 ν))) (v3 : Int32) (μ : g_St) : g_Go gC 1 yX7_useUp cX7_useUp 5 (none : Option Jvm.ClassFile.FieldType) 2 [some (.ref bw), some (.int v1), some (.int v2), some (.int v3), none] [] μ (Option.map o_yv (ow_useUp_2_b F bw v1 v2 K_2 v3 μ)) := by
  unfold ow_useUp_2_b
  refine g_iload_n dX7_useUp_2 rfl rfl ?_
  refine g_bipush dX7_useUp_3 bp_6 ?_
  refine w_icmp_ge (tgt := 49) dX7_useUp_5 (by decide) ?_ ?_
  · refine g_iload_n dX7_useUp_8 rfl rfl ?_
    refine g_iload_n dX7_useUp_9 rfl rfl ?_
    refine g_ishr dX7_useUp_10 ?_
    refine g_iconst dX7_useUp_11 ic_1 ?_
    refine g_iand dX7_useUp_12 ?_
    refine g_iconst dX7_useUp_13 ic_1 ?_
    refine w_icmp_ne (tgt := 26) dX7_useUp_14 (by decide) ?_ ?_
    · refine g_aload_n dX7_useUp_17 rfl rfl ?_
      refine g_iload_n dX7_useUp_18 rfl rfl ?_
      refine g_iload_n dX7_useUp_19 rfl rfl ?_
      refine w_Vxi [.int _, .int _] dX7_useUp_20 ml_X7_60 mv_X7_firstHeld mc_X7_firstHeld cf_X7 (ly_Week_lt hbw) (ly_Week hbw) rfl (Nat.le_of_ble_eq_true rfl) (Nat.le_of_ble_eq_true rfl) (Nat.le_of_ble_eq_true rfl) rfl (co_ow_firstHeld F _ hbw _ _ _) (fun x1 => ?_)
      refine g_goto (tgt := 27) dX7_useUp_23 (by decide) ?_
      exact g_to (lk_ow_useUp_27 F bw hbw _ _ _ _ K_2 hK_2 _) (su_s (su_s (su_s (su_s (su_n su_0)))))
    · refine g_iconst dX7_useUp_26 ic_m1 ?_
      exact g_to (lk_ow_useUp_27 F bw hbw _ _ _ _ K_2 hK_2 _) (su_s (su_s (su_s (su_s (su_n su_0)))))
  · exact w_vret dX7_useUp_49 rfl rfl
theorem lk_ow_useUp_2 (F : Nat) (bw : Nat) (hbw : g_isWeek bw) (v1 : Int32) (v2 : Int32) : ∀ (f : Nat) (v3 : Int32) (μ : g_St) , g_Go gC 1 yX7_useUp cX7_useUp 5 (none : Option Jvm.ClassFile.FieldType) 2 [some (.ref bw), some (.int v1), some (.int v2), some (.int v3), none] [] μ (Option.map o_yv (ow_useUp_2 F bw v1 v2 f v3 μ))
  | 0, v3, μ => g_none
  | f + 1, v3, μ => lk_ow_useUp_2_b F bw hbw v1 v2 (ow_useUp_2 F bw v1 v2 f) (lk_ow_useUp_2 F bw hbw v1 v2 f) v3 μ
theorem lk_ow_useUp (F : Nat) (bw : Nat) (hbw : g_isWeek bw) (v1 : Int32) (v2 : Int32) (μ : g_St) : g_Go gC 1 yX7_useUp cX7_useUp 5 (none : Option Jvm.ClassFile.FieldType) 0 [some (.ref bw), some (.int v1), some (.int v2), none, none] [] μ (Option.map o_yv (ow_useUp F bw v1 v2 μ)) := by
  unfold ow_useUp
  refine g_iconst dX7_useUp_0 ic_0 ?_
  refine g_istore_n (lo2 := [_, _, _, _, _]) dX7_useUp_1 rfl (Nat.le_of_ble_eq_true rfl) rfl rfl ?_
  exact g_to (lk_ow_useUp_2 F bw hbw _ _ _ _ _) (su_s (su_s (su_s (su_s (su_n su_0)))))
theorem co_ow_useUp (F : Nat) (bw : Nat) (hbw : g_isWeek bw) (v1 : Int32) (v2 : Int32) (μ : g_St) : g_Con gC 1 yX7_useUp cX7_useUp 5 (none : Option Jvm.ClassFile.FieldType) [.ref bw, .int v1, .int v2] μ (g_yv (ow_useUp F bw v1 v2 μ)) := g_conOf mc_X7_useUp.2.2.2.2 (Nat.le_of_ble_eq_true rfl) rfl g_yv_rk (lk_ow_useUp F bw hbw v1 v2 μ)
theorem dX7_held_0 : decode cX7_held 0 = .ok (.iconst 0, 1) := by decide +kernel
theorem dX7_held_1 : decode cX7_held 1 = .ok (.istore_n 3, 1) := by decide +kernel
theorem dX7_held_2 : decode cX7_held 2 = .ok (.iconst 0, 1) := by decide +kernel
theorem dX7_held_3 : decode cX7_held 3 = .ok (.istore 4, 2) := by decide +kernel
theorem dX7_held_5 : decode cX7_held 5 = .ok (.iload 4, 2) := by decide +kernel
theorem dX7_held_7 : decode cX7_held 7 = .ok (.aload_n 0, 1) := by decide +kernel
theorem dX7_held_8 : decode cX7_held 8 = .ok (.getfield 33, 3) := by decide +kernel
theorem dX7_held_11 : decode cX7_held 11 = .ok (.if_icmp .ge 39, 3) := by decide +kernel
theorem dX7_held_14 : decode cX7_held 14 = .ok (.iload_n 3, 1) := by decide +kernel
theorem dX7_held_15 : decode cX7_held 15 = .ok (.aload_n 0, 1) := by decide +kernel
theorem dX7_held_16 : decode cX7_held 16 = .ok (.getfield 21, 3) := by decide +kernel
theorem dX7_held_19 : decode cX7_held 19 = .ok (.iload 4, 2) := by decide +kernel
theorem dX7_held_21 : decode cX7_held 21 = .ok (.iaload, 1) := by decide +kernel
theorem dX7_held_22 : decode cX7_held 22 = .ok (.iload_n 1, 1) := by decide +kernel
theorem dX7_held_23 : decode cX7_held 23 = .ok (.if_icmp .ne 18, 3) := by decide +kernel
theorem dX7_held_26 : decode cX7_held 26 = .ok (.aload_n 0, 1) := by decide +kernel
theorem dX7_held_27 : decode cX7_held 27 = .ok (.getfield 9, 3) := by decide +kernel
theorem dX7_held_30 : decode cX7_held 30 = .ok (.iload 4, 2) := by decide +kernel
theorem dX7_held_32 : decode cX7_held 32 = .ok (.iaload, 1) := by decide +kernel
theorem dX7_held_33 : decode cX7_held 33 = .ok (.iload_n 2, 1) := by decide +kernel
theorem dX7_held_34 : decode cX7_held 34 = .ok (.if_icmp .ne 7, 3) := by decide +kernel
theorem dX7_held_37 : decode cX7_held 37 = .ok (.iconst 1, 1) := by decide +kernel
theorem dX7_held_38 : decode cX7_held 38 = .ok (.goto 4, 3) := by decide +kernel
theorem dX7_held_41 : decode cX7_held 41 = .ok (.iconst 0, 1) := by decide +kernel
theorem dX7_held_42 : decode cX7_held 42 = .ok (.iadd, 1) := by decide +kernel
theorem dX7_held_43 : decode cX7_held 43 = .ok (.istore_n 3, 1) := by decide +kernel
theorem dX7_held_44 : decode cX7_held 44 = .ok (.iinc 4 1, 3) := by decide +kernel
theorem dX7_held_47 : decode cX7_held 47 = .ok (.goto (-42), 3) := by decide +kernel
theorem dX7_held_50 : decode cX7_held 50 = .ok (.iload_n 3, 1) := by decide +kernel
theorem dX7_held_51 : decode cX7_held 51 = .ok (.ireturn, 1) := by decide +kernel
theorem lk_ow_held_5_b (F : Nat) (bw : Nat) (hbw : g_isWeek bw) (μ : g_St) (v1 : Int32) (v2 : Int32) (K_5 : Int32 → Int32 → Option Int32) (hK_5 : ∀ (w3 : Int32) (w4 : Int32), g_Go gC 0 yX7_held cX7_held 5 (some .int) 5 [some (.ref bw), some (.int v1), some (.int v2), some (.int w3), some (.int w4)] [] μ (Option.map (o_i μ) (K_5 w3 w4))) (v3 : Int32) (v4 : Int32) : g_Go gC 0 yX7_held cX7_held 5 (some .int) 5 [some (.ref bw), some (.int v1), some (.int v2), some (.int v3), some (.int v4)] [] μ (Option.map (o_i μ) (ow_held_5_b F bw μ v1 v2 K_5 v3 v4 )) := by
  unfold ow_held_5_b
  refine g_iload dX7_held_5 rfl ?_
  refine g_aload_n dX7_held_7 rfl rfl ?_
  refine g_getI dX7_held_8 cf_X7 fl_X7_33 (ly_Week_lt hbw) (ly_Week hbw) rfl (Nat.le_of_ble_eq_true rfl) ?_
  refine w_icmp_ge (tgt := 50) dX7_held_11 (by decide) ?_ ?_
  · refine g_iload_n dX7_held_14 rfl rfl ?_
    refine g_aload_n dX7_held_15 rfl rfl ?_
    refine g_getS dX7_held_16 cf_X7 fl_X7_21 (ly_Week_lt hbw) (ly_Week hbw) rfl (Nat.le_of_ble_eq_true rfl) ?_
    refine g_iload dX7_held_19 rfl ?_
    refine w_iald dX7_held_21 (ly_Week_holder_lt hbw) (ly_Week_holder hbw) (fun x1 => ?_)
    refine g_iload_n dX7_held_22 rfl rfl ?_
    refine w_icmp_ne (tgt := 41) dX7_held_23 (by decide) ?_ ?_
    · refine g_aload_n dX7_held_26 rfl rfl ?_
      refine g_getS dX7_held_27 cf_X7 fl_X7_9 (ly_Week_lt hbw) (ly_Week hbw) rfl (Nat.le_of_ble_eq_true rfl) ?_
      refine g_iload dX7_held_30 rfl ?_
      refine w_iald dX7_held_32 (ly_Week_good_lt hbw) (ly_Week_good hbw) (fun x2 => ?_)
      refine g_iload_n dX7_held_33 rfl rfl ?_
      refine w_icmp_ne (tgt := 41) dX7_held_34 (by decide) ?_ ?_
      · refine g_iconst dX7_held_37 ic_1 ?_
        refine g_goto (tgt := 42) dX7_held_38 (by decide) ?_
        refine g_iadd dX7_held_42 ?_
        refine g_istore_n (lo2 := [_, _, _, _, _]) dX7_held_43 rfl (Nat.le_of_ble_eq_true rfl) rfl rfl ?_
        refine g_iinc (lo2 := [_, _, _, _, _]) dX7_held_44 rfl rfl (Nat.le_of_ble_eq_true rfl) rfl rfl ?_
        refine g_goto (tgt := 5) dX7_held_47 (by decide) ?_
        exact g_to (hK_5 _ _) (su_s (su_s (su_s (su_s (su_s su_0)))))
      · refine g_iconst dX7_held_41 ic_0 ?_
        refine g_iadd dX7_held_42 ?_
        refine g_istore_n (lo2 := [_, _, _, _, _]) dX7_held_43 rfl (Nat.le_of_ble_eq_true rfl) rfl rfl ?_
        refine g_iinc (lo2 := [_, _, _, _, _]) dX7_held_44 rfl rfl (Nat.le_of_ble_eq_true rfl) rfl rfl ?_
        refine g_goto (tgt := 5) dX7_held_47 (by decide) ?_
        exact g_to (hK_5 _ _) (su_s (su_s (su_s (su_s (su_s su_0)))))
    · refine g_iconst dX7_held_41 ic_0 ?_
      refine g_iadd dX7_held_42 ?_
      refine g_istore_n (lo2 := [_, _, _, _, _]) dX7_held_43 rfl (Nat.le_of_ble_eq_true rfl) rfl rfl ?_
      refine g_iinc (lo2 := [_, _, _, _, _]) dX7_held_44 rfl rfl (Nat.le_of_ble_eq_true rfl) rfl rfl ?_
      refine g_goto (tgt := 5) dX7_held_47 (by decide) ?_
      exact g_to (hK_5 _ _) (su_s (su_s (su_s (su_s (su_s su_0)))))
  · refine g_iload_n dX7_held_50 rfl rfl ?_
    exact w_iret dX7_held_51 rfl rfl
theorem lk_ow_held_5 (F : Nat) (bw : Nat) (hbw : g_isWeek bw) (μ : g_St) (v1 : Int32) (v2 : Int32) : ∀ (f : Nat) (v3 : Int32) (v4 : Int32) , g_Go gC 0 yX7_held cX7_held 5 (some .int) 5 [some (.ref bw), some (.int v1), some (.int v2), some (.int v3), some (.int v4)] [] μ (Option.map (o_i μ) (ow_held_5 F bw μ v1 v2 f v3 v4 ))
  | 0, v3, v4 => g_none
  | f + 1, v3, v4 => lk_ow_held_5_b F bw hbw μ v1 v2 (ow_held_5 F bw μ v1 v2 f) (lk_ow_held_5 F bw hbw μ v1 v2 f) v3 v4 
theorem lk_ow_held (F : Nat) (bw : Nat) (hbw : g_isWeek bw) (μ : g_St) (v1 : Int32) (v2 : Int32) : g_Go gC 0 yX7_held cX7_held 5 (some .int) 0 [some (.ref bw), some (.int v1), some (.int v2), none, none] [] μ (Option.map (o_i μ) (ow_held F bw μ v1 v2)) := by
  unfold ow_held
  refine g_iconst dX7_held_0 ic_0 ?_
  refine g_istore_n (lo2 := [_, _, _, _, _]) dX7_held_1 rfl (Nat.le_of_ble_eq_true rfl) rfl rfl ?_
  refine g_iconst dX7_held_2 ic_0 ?_
  refine g_istore (lo2 := [_, _, _, _, _]) dX7_held_3 (Nat.le_of_ble_eq_true rfl) rfl rfl ?_
  exact g_to (lk_ow_held_5 F bw hbw μ _ _ _ _ _) (su_s (su_s (su_s (su_s (su_s su_0)))))
theorem co_ow_held (F : Nat) (bw : Nat) (hbw : g_isWeek bw) (μ : g_St) (v1 : Int32) (v2 : Int32) : g_Con gC 0 yX7_held cX7_held 5 (some .int) [.ref bw, .int v1, .int v2] μ (g_xi μ (ow_held F bw μ v1 v2)) := g_conOf mc_X7_held.2.2.2.2 (Nat.le_of_ble_eq_true rfl) rfl (g_xi_rk (Or.inl rfl)) (lk_ow_held F bw hbw μ v1 v2)
theorem dX7_heldBy_0 : decode cX7_heldBy 0 = .ok (.iconst 0, 1) := by decide +kernel
theorem dX7_heldBy_1 : decode cX7_heldBy 1 = .ok (.istore_n 2, 1) := by decide +kernel
theorem dX7_heldBy_2 : decode cX7_heldBy 2 = .ok (.iconst 0, 1) := by decide +kernel
theorem dX7_heldBy_3 : decode cX7_heldBy 3 = .ok (.istore_n 3, 1) := by decide +kernel
theorem dX7_heldBy_4 : decode cX7_heldBy 4 = .ok (.iload_n 3, 1) := by decide +kernel
theorem dX7_heldBy_5 : decode cX7_heldBy 5 = .ok (.aload_n 0, 1) := by decide +kernel
theorem dX7_heldBy_6 : decode cX7_heldBy 6 = .ok (.getfield 33, 3) := by decide +kernel
theorem dX7_heldBy_9 : decode cX7_heldBy 9 = .ok (.if_icmp .ge 27, 3) := by decide +kernel
theorem dX7_heldBy_12 : decode cX7_heldBy 12 = .ok (.iload_n 2, 1) := by decide +kernel
theorem dX7_heldBy_13 : decode cX7_heldBy 13 = .ok (.aload_n 0, 1) := by decide +kernel
theorem dX7_heldBy_14 : decode cX7_heldBy 14 = .ok (.getfield 21, 3) := by decide +kernel
theorem dX7_heldBy_17 : decode cX7_heldBy 17 = .ok (.iload_n 3, 1) := by decide +kernel
theorem dX7_heldBy_18 : decode cX7_heldBy 18 = .ok (.iaload, 1) := by decide +kernel
theorem dX7_heldBy_19 : decode cX7_heldBy 19 = .ok (.iload_n 1, 1) := by decide +kernel
theorem dX7_heldBy_20 : decode cX7_heldBy 20 = .ok (.if_icmp .ne 7, 3) := by decide +kernel
theorem dX7_heldBy_23 : decode cX7_heldBy 23 = .ok (.iconst 1, 1) := by decide +kernel
theorem dX7_heldBy_24 : decode cX7_heldBy 24 = .ok (.goto 4, 3) := by decide +kernel
theorem dX7_heldBy_27 : decode cX7_heldBy 27 = .ok (.iconst 0, 1) := by decide +kernel
theorem dX7_heldBy_28 : decode cX7_heldBy 28 = .ok (.iadd, 1) := by decide +kernel
theorem dX7_heldBy_29 : decode cX7_heldBy 29 = .ok (.istore_n 2, 1) := by decide +kernel
theorem dX7_heldBy_30 : decode cX7_heldBy 30 = .ok (.iinc 3 1, 3) := by decide +kernel
theorem dX7_heldBy_33 : decode cX7_heldBy 33 = .ok (.goto (-29), 3) := by decide +kernel
theorem dX7_heldBy_36 : decode cX7_heldBy 36 = .ok (.iload_n 2, 1) := by decide +kernel
theorem dX7_heldBy_37 : decode cX7_heldBy 37 = .ok (.ireturn, 1) := by decide +kernel
theorem lk_ow_heldBy_4_b (F : Nat) (bw : Nat) (hbw : g_isWeek bw) (μ : g_St) (v1 : Int32) (K_4 : Int32 → Int32 → Option Int32) (hK_4 : ∀ (w2 : Int32) (w3 : Int32), g_Go gC 0 yX7_heldBy cX7_heldBy 4 (some .int) 4 [some (.ref bw), some (.int v1), some (.int w2), some (.int w3)] [] μ (Option.map (o_i μ) (K_4 w2 w3))) (v2 : Int32) (v3 : Int32) : g_Go gC 0 yX7_heldBy cX7_heldBy 4 (some .int) 4 [some (.ref bw), some (.int v1), some (.int v2), some (.int v3)] [] μ (Option.map (o_i μ) (ow_heldBy_4_b F bw μ v1 K_4 v2 v3 )) := by
  unfold ow_heldBy_4_b
  refine g_iload_n dX7_heldBy_4 rfl rfl ?_
  refine g_aload_n dX7_heldBy_5 rfl rfl ?_
  refine g_getI dX7_heldBy_6 cf_X7 fl_X7_33 (ly_Week_lt hbw) (ly_Week hbw) rfl (Nat.le_of_ble_eq_true rfl) ?_
  refine w_icmp_ge (tgt := 36) dX7_heldBy_9 (by decide) ?_ ?_
  · refine g_iload_n dX7_heldBy_12 rfl rfl ?_
    refine g_aload_n dX7_heldBy_13 rfl rfl ?_
    refine g_getS dX7_heldBy_14 cf_X7 fl_X7_21 (ly_Week_lt hbw) (ly_Week hbw) rfl (Nat.le_of_ble_eq_true rfl) ?_
    refine g_iload_n dX7_heldBy_17 rfl rfl ?_
    refine w_iald dX7_heldBy_18 (ly_Week_holder_lt hbw) (ly_Week_holder hbw) (fun x1 => ?_)
    refine g_iload_n dX7_heldBy_19 rfl rfl ?_
    refine w_icmp_ne (tgt := 27) dX7_heldBy_20 (by decide) ?_ ?_
    · refine g_iconst dX7_heldBy_23 ic_1 ?_
      refine g_goto (tgt := 28) dX7_heldBy_24 (by decide) ?_
      refine g_iadd dX7_heldBy_28 ?_
      refine g_istore_n (lo2 := [_, _, _, _]) dX7_heldBy_29 rfl (Nat.le_of_ble_eq_true rfl) rfl rfl ?_
      refine g_iinc (lo2 := [_, _, _, _]) dX7_heldBy_30 rfl rfl (Nat.le_of_ble_eq_true rfl) rfl rfl ?_
      refine g_goto (tgt := 4) dX7_heldBy_33 (by decide) ?_
      exact g_to (hK_4 _ _) (su_s (su_s (su_s (su_s su_0))))
    · refine g_iconst dX7_heldBy_27 ic_0 ?_
      refine g_iadd dX7_heldBy_28 ?_
      refine g_istore_n (lo2 := [_, _, _, _]) dX7_heldBy_29 rfl (Nat.le_of_ble_eq_true rfl) rfl rfl ?_
      refine g_iinc (lo2 := [_, _, _, _]) dX7_heldBy_30 rfl rfl (Nat.le_of_ble_eq_true rfl) rfl rfl ?_
      refine g_goto (tgt := 4) dX7_heldBy_33 (by decide) ?_
      exact g_to (hK_4 _ _) (su_s (su_s (su_s (su_s su_0))))
  · refine g_iload_n dX7_heldBy_36 rfl rfl ?_
    exact w_iret dX7_heldBy_37 rfl rfl
theorem lk_ow_heldBy_4 (F : Nat) (bw : Nat) (hbw : g_isWeek bw) (μ : g_St) (v1 : Int32) : ∀ (f : Nat) (v2 : Int32) (v3 : Int32) , g_Go gC 0 yX7_heldBy cX7_heldBy 4 (some .int) 4 [some (.ref bw), some (.int v1), some (.int v2), some (.int v3)] [] μ (Option.map (o_i μ) (ow_heldBy_4 F bw μ v1 f v2 v3 ))
  | 0, v2, v3 => g_none
  | f + 1, v2, v3 => lk_ow_heldBy_4_b F bw hbw μ v1 (ow_heldBy_4 F bw μ v1 f) (lk_ow_heldBy_4 F bw hbw μ v1 f) v2 v3 
theorem lk_ow_heldBy (F : Nat) (bw : Nat) (hbw : g_isWeek bw) (μ : g_St) (v1 : Int32) : g_Go gC 0 yX7_heldBy cX7_heldBy 4 (some .int) 0 [some (.ref bw), some (.int v1), none, none] [] μ (Option.map (o_i μ) (ow_heldBy F bw μ v1)) := by
  unfold ow_heldBy
  refine g_iconst dX7_heldBy_0 ic_0 ?_
  refine g_istore_n (lo2 := [_, _, _, _]) dX7_heldBy_1 rfl (Nat.le_of_ble_eq_true rfl) rfl rfl ?_
  refine g_iconst dX7_heldBy_2 ic_0 ?_
  refine g_istore_n (lo2 := [_, _, _, _]) dX7_heldBy_3 rfl (Nat.le_of_ble_eq_true rfl) rfl rfl ?_
  exact g_to (lk_ow_heldBy_4 F bw hbw μ _ _ _ _) (su_s (su_s (su_s (su_s su_0))))
theorem co_ow_heldBy (F : Nat) (bw : Nat) (hbw : g_isWeek bw) (μ : g_St) (v1 : Int32) : g_Con gC 0 yX7_heldBy cX7_heldBy 4 (some .int) [.ref bw, .int v1] μ (g_xi μ (ow_heldBy F bw μ v1)) := g_conOf mc_X7_heldBy.2.2.2.2 (Nat.le_of_ble_eq_true rfl) rfl (g_xi_rk (Or.inl rfl)) (lk_ow_heldBy F bw hbw μ v1)
theorem dX7_heldAtAll_0 : decode cX7_heldAtAll 0 = .ok (.aload_n 0, 1) := by decide +kernel
theorem dX7_heldAtAll_1 : decode cX7_heldAtAll 1 = .ok (.getfield 33, 3) := by decide +kernel
theorem dX7_heldAtAll_4 : decode cX7_heldAtAll 4 = .ok (.aload_n 0, 1) := by decide +kernel
theorem dX7_heldAtAll_5 : decode cX7_heldAtAll 5 = .ok (.iconst (-1), 1) := by decide +kernel
theorem dX7_heldAtAll_6 : decode cX7_heldAtAll 6 = .ok (.invokevirtual 63, 3) := by decide +kernel
theorem dX7_heldAtAll_9 : decode cX7_heldAtAll 9 = .ok (.isub, 1) := by decide +kernel
theorem dX7_heldAtAll_10 : decode cX7_heldAtAll 10 = .ok (.ireturn, 1) := by decide +kernel
theorem lk_ow_heldAtAll (F : Nat) (bw : Nat) (hbw : g_isWeek bw) (μ : g_St) : g_Go gC 1 yX7_heldAtAll cX7_heldAtAll 1 (some .int) 0 [some (.ref bw)] [] μ (Option.map (o_i μ) (ow_heldAtAll F bw μ)) := by
  unfold ow_heldAtAll
  refine g_aload_n dX7_heldAtAll_0 rfl rfl ?_
  refine g_getI dX7_heldAtAll_1 cf_X7 fl_X7_33 (ly_Week_lt hbw) (ly_Week hbw) rfl (Nat.le_of_ble_eq_true rfl) ?_
  refine g_aload_n dX7_heldAtAll_4 rfl rfl ?_
  refine g_iconst dX7_heldAtAll_5 ic_m1 ?_
  refine w_Vxi [.int _] dX7_heldAtAll_6 ml_X7_63 mv_X7_heldBy mc_X7_heldBy cf_X7 (ly_Week_lt hbw) (ly_Week hbw) rfl (Nat.le_of_ble_eq_true rfl) (Nat.le_of_ble_eq_true rfl) (Nat.le_of_ble_eq_true rfl) rfl (co_ow_heldBy F _ hbw _ _) (fun x1 => ?_)
  refine g_isub dX7_heldAtAll_9 ?_
  exact w_iret dX7_heldAtAll_10 rfl rfl
theorem co_ow_heldAtAll (F : Nat) (bw : Nat) (hbw : g_isWeek bw) (μ : g_St) : g_Con gC 1 yX7_heldAtAll cX7_heldAtAll 1 (some .int) [.ref bw] μ (g_xi μ (ow_heldAtAll F bw μ)) := g_conOf mc_X7_heldAtAll.2.2.2.2 (Nat.le_of_ble_eq_true rfl) rfl (g_xi_rk (Or.inl rfl)) (lk_ow_heldAtAll F bw hbw μ)
