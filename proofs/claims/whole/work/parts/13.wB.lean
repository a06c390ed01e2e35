/-! Walks, printed by wip/gen -/
theorem dX6_add_0 : decode cX6_add 0 = .ok (.bipush 56, 2) := by decide +kernel
theorem dX6_add_2 : decode cX6_add 2 = .ok (.istore_n 3, 1) := by decide +kernel
theorem dX6_add_3 : decode cX6_add 3 = .ok (.iload_n 3, 1) := by decide +kernel
theorem dX6_add_4 : decode cX6_add 4 = .ok (.ifCond .lt 86, 3) := by decide +kernel
theorem dX6_add_7 : decode cX6_add 7 = .ok (.lload_n 1, 1) := by decide +kernel
theorem dX6_add_8 : decode cX6_add 8 = .ok (.iload_n 3, 1) := by decide +kernel
theorem dX6_add_9 : decode cX6_add 9 = .ok (.lushr, 1) := by decide +kernel
theorem dX6_add_10 : decode cX6_add 10 = .ok (.l2i, 1) := by decide +kernel
theorem dX6_add_11 : decode cX6_add 11 = .ok (.sipush 255, 3) := by decide +kernel
theorem dX6_add_14 : decode cX6_add 14 = .ok (.iand, 1) := by decide +kernel
theorem dX6_add_15 : decode cX6_add 15 = .ok (.istore 4, 2) := by decide +kernel
theorem dX6_add_17 : decode cX6_add 17 = .ok (.iload 4, 2) := by decide +kernel
theorem dX6_add_19 : decode cX6_add 19 = .ok (.bipush 10, 2) := by decide +kernel
theorem dX6_add_21 : decode cX6_add 21 = .ok (.if_icmp .eq 17, 3) := by decide +kernel
theorem dX6_add_24 : decode cX6_add 24 = .ok (.iload 4, 2) := by decide +kernel
theorem dX6_add_26 : decode cX6_add 26 = .ok (.bipush 32, 2) := by decide +kernel
theorem dX6_add_28 : decode cX6_add 28 = .ok (.if_icmp .lt 14, 3) := by decide +kernel
theorem dX6_add_31 : decode cX6_add 31 = .ok (.iload 4, 2) := by decide +kernel
theorem dX6_add_33 : decode cX6_add 33 = .ok (.bipush 126, 2) := by decide +kernel
theorem dX6_add_35 : decode cX6_add 35 = .ok (.if_icmp .gt 7, 3) := by decide +kernel
theorem dX6_add_38 : decode cX6_add 38 = .ok (.iconst 1, 1) := by decide +kernel
theorem dX6_add_39 : decode cX6_add 39 = .ok (.goto 4, 3) := by decide +kernel
theorem dX6_add_42 : decode cX6_add 42 = .ok (.iconst 0, 1) := by decide +kernel
theorem dX6_add_43 : decode cX6_add 43 = .ok (.istore 5, 2) := by decide +kernel
theorem dX6_add_45 : decode cX6_add 45 = .ok (.iload 5, 2) := by decide +kernel
theorem dX6_add_47 : decode cX6_add 47 = .ok (.ifCond .eq 37, 3) := by decide +kernel
theorem dX6_add_50 : decode cX6_add 50 = .ok (.aload_n 0, 1) := by decide +kernel
theorem dX6_add_51 : decode cX6_add 51 = .ok (.getfield 45, 3) := by decide +kernel
theorem dX6_add_54 : decode cX6_add 54 = .ok (.aload_n 0, 1) := by decide +kernel
theorem dX6_add_55 : decode cX6_add 55 = .ok (.getfield 15, 3) := by decide +kernel
theorem dX6_add_58 : decode cX6_add 58 = .ok (.arraylength, 1) := by decide +kernel
theorem dX6_add_59 : decode cX6_add 59 = .ok (.if_icmp .ge 25, 3) := by decide +kernel
theorem dX6_add_62 : decode cX6_add 62 = .ok (.aload_n 0, 1) := by decide +kernel
theorem dX6_add_63 : decode cX6_add 63 = .ok (.getfield 15, 3) := by decide +kernel
theorem dX6_add_66 : decode cX6_add 66 = .ok (.aload_n 0, 1) := by decide +kernel
theorem dX6_add_67 : decode cX6_add 67 = .ok (.getfield 45, 3) := by decide +kernel
theorem dX6_add_70 : decode cX6_add 70 = .ok (.iload 4, 2) := by decide +kernel
theorem dX6_add_72 : decode cX6_add 72 = .ok (.i2c, 1) := by decide +kernel
theorem dX6_add_73 : decode cX6_add 73 = .ok (.castore, 1) := by decide +kernel
theorem dX6_add_74 : decode cX6_add 74 = .ok (.aload_n 0, 1) := by decide +kernel
theorem dX6_add_75 : decode cX6_add 75 = .ok (.dup, 1) := by decide +kernel
theorem dX6_add_76 : decode cX6_add 76 = .ok (.getfield 45, 3) := by decide +kernel
theorem dX6_add_79 : decode cX6_add 79 = .ok (.iconst 1, 1) := by decide +kernel
theorem dX6_add_80 : decode cX6_add 80 = .ok (.iadd, 1) := by decide +kernel
theorem dX6_add_81 : decode cX6_add 81 = .ok (.putfield 45, 3) := by decide +kernel
theorem dX6_add_84 : decode cX6_add 84 = .ok (.iinc 3 (-8), 3) := by decide +kernel
theorem dX6_add_87 : decode cX6_add 87 = .ok (.goto (-84), 3) := by decide +kernel
theorem dX6_add_90 : decode cX6_add 90 = .ok (.return_, 1) := by decide +kernel
theorem lk_ot_add_43 (F : Nat) (v1 : Int64) (v3 : Int32) (v4 : Int32) (s0 : Int32) (K_3 : Int32 → g_St → Option g_St) (hK_3 : ∀ (w3 : Int32) (ν : g_St), g_Go gC 0 yX6_add cX6_add 6 (none : Option Jvm.ClassFile.FieldType) 3 [some (.ref 1), some (.long v1), none, some (.int w3), none, none] [] ν (Option.map o_yv (K_3 w3 ν))) (μ : g_St) : g_Go gC 0 yX6_add cX6_add 6 (none : Option Jvm.ClassFile.FieldType) 43 [some (.ref 1), some (.long v1), none, some (.int v3), some (.int v4), none] [.int s0] μ (Option.map o_yv (ot_add_43 F K_3 v1 v3 v4 s0 μ)) := by
  unfold ot_add_43
  refine g_istore (lo2 := [_, _, _, _, _, _]) dX6_add_43 (Nat.le_of_ble_eq_true rfl) rfl rfl ?_
  refine g_iload dX6_add_45 rfl ?_
  refine w_if_eq (tgt := 84) dX6_add_47 (by decide) ?_ ?_
  · refine g_iinc (lo2 := [_, _, _, _, _, _]) dX6_add_84 rfl rfl (Nat.le_of_ble_eq_true rfl) rfl rfl ?_
    refine g_goto (tgt := 3) dX6_add_87 (by decide) ?_
    exact g_to (hK_3 _ _) (su_s (su_s (su_n (su_s (su_n (su_n su_0))))))
  · refine g_aload_n dX6_add_50 rfl rfl ?_
    refine g_getI dX6_add_51 cf_X6 fl_X6_45 ly_Tape_lt ly_Tape rfl (Nat.le_of_ble_eq_true rfl) ?_
    refine g_aload_n dX6_add_54 rfl rfl ?_
    refine g_getS dX6_add_55 cf_X6 fl_X6_15 ly_Tape_lt ly_Tape rfl (Nat.le_of_ble_eq_true rfl) ?_
    refine g_alen (v := 1000) dX6_add_58 ly_Tape_signs_lt ly_Tape_signs (by decide) ?_
    refine w_icmp_ge (tgt := 84) dX6_add_59 (by decide) ?_ ?_
    · refine g_aload_n dX6_add_62 rfl rfl ?_
      refine g_getS dX6_add_63 cf_X6 fl_X6_15 ly_Tape_lt ly_Tape rfl (Nat.le_of_ble_eq_true rfl) ?_
      refine g_aload_n dX6_add_66 rfl rfl ?_
      refine g_getI dX6_add_67 cf_X6 fl_X6_45 ly_Tape_lt ly_Tape rfl (Nat.le_of_ble_eq_true rfl) ?_
      refine g_iload dX6_add_70 rfl ?_
      refine g_i2c dX6_add_72 ?_
      refine w_cast dX6_add_73 ly_Tape_signs_lt ly_Tape_signs (fun μ2 => ?_)
      refine g_aload_n dX6_add_74 rfl rfl ?_
      refine g_dupr dX6_add_75 ?_
      refine g_getI dX6_add_76 cf_X6 fl_X6_45 ly_Tape_lt ly_Tape rfl (Nat.le_of_ble_eq_true rfl) ?_
      refine g_iconst dX6_add_79 ic_1 ?_
      refine g_iadd dX6_add_80 ?_
      refine w_putI dX6_add_81 cf_X6 fl_X6_45 ly_Tape_lt ly_Tape rfl (Nat.le_of_ble_eq_true rfl) rfl rfl rfl rfl (fun μ3 => ?_)
      refine g_iinc (lo2 := [_, _, _, _, _, _]) dX6_add_84 rfl rfl (Nat.le_of_ble_eq_true rfl) rfl rfl ?_
      refine g_goto (tgt := 3) dX6_add_87 (by decide) ?_
      exact g_to (hK_3 _ _) (su_s (su_s (su_n (su_s (su_n (su_n su_0))))))
    · refine g_iinc (lo2 := [_, _, _, _, _, _]) dX6_add_84 rfl rfl (Nat.le_of_ble_eq_true rfl) rfl rfl ?_
      refine g_goto (tgt := 3) dX6_add_87 (by decide) ?_
      exact g_to (hK_3 _ _) (su_s (su_s (su_n (su_s (su_n (su_n su_0))))))
theorem lk_ot_add_38 (F : Nat) (v1 : Int64) (v3 : Int32) (v4 : Int32) (K_3 : Int32 → g_St → Option g_St) (hK_3 : ∀ (w3 : Int32) (ν : g_St), g_Go gC 0 yX6_add cX6_add 6 (none : Option Jvm.ClassFile.FieldType) 3 [some (.ref 1), some (.long v1), none, some (.int w3), none, none] [] ν (Option.map o_yv (K_3 w3 ν))) (μ : g_St) : g_Go gC 0 yX6_add cX6_add 6 (none : Option Jvm.ClassFile.FieldType) 38 [some (.ref 1), some (.long v1), none, some (.int v3), some (.int v4), none] [] μ (Option.map o_yv (ot_add_38 F K_3 v1 v3 v4 μ)) := by
  unfold ot_add_38
  refine g_iconst dX6_add_38 ic_1 ?_
  refine g_goto (tgt := 43) dX6_add_39 (by decide) ?_
  exact g_to (lk_ot_add_43 F _ _ _ _ K_3 hK_3 _) (su_s (su_s (su_n (su_s (su_s (su_n su_0))))))
theorem lk_ot_add_42 (F : Nat) (v1 : Int64) (v3 : Int32) (v4 : Int32) (K_3 : Int32 → g_St → Option g_St) (hK_3 : ∀ (w3 : Int32) (ν : g_St), g_Go gC 0 yX6_add cX6_add 6 (none : Option Jvm.ClassFile.FieldType) 3 [some (.ref 1), some (.long v1), none, some (.int w3), none, none] [] ν (Option.map o_yv (K_3 w3 ν))) (μ : g_St) : g_Go gC 0 yX6_add cX6_add 6 (none : Option Jvm.ClassFile.FieldType) 42 [some (.ref 1), some (.long v1), none, some (.int v3), some (.int v4), none] [] μ (Option.map o_yv (ot_add_42 F K_3 v1 v3 v4 μ)) := by
  unfold ot_add_42
  refine g_iconst dX6_add_42 ic_0 ?_
  exact g_to (lk_ot_add_43 F _ _ _ _ K_3 hK_3 _) (su_s (su_s (su_n (su_s (su_s (su_n su_0))))))
theorem lk_ot_add_3_b (F : Nat) (v1 : Int64) (K_3 : Int32 → g_St → Option g_St) (hK_3 : ∀ (w3 : Int32) (ν : g_St), g_Go gC 0 yX6_add cX6_add 6 (none : Option Jvm.ClassFile.FieldType) 3 [some (.ref 1), some (.long v1), none, some (.int w3), none, none] [] ν (Option.map o_yv (K_3 w3 ν))) (v3 : Int32) (μ : g_St) : g_Go gC 0 yX6_add cX6_add 6 (none : Option Jvm.ClassFile.FieldType) 3 [some (.ref 1), some (.long v1), none, some (.int v3), none, none] [] μ (Option.map o_yv (ot_add_3_b F v1 K_3 v3 μ)) := by
  unfold ot_add_3_b
  refine g_iload_n dX6_add_3 rfl rfl ?_
  refine w_if_lt (tgt := 90) dX6_add_4 (by decide) ?_ ?_
  · refine g_lload_n dX6_add_7 rfl rfl ?_
    refine g_iload_n dX6_add_8 rfl rfl ?_
    refine g_lushr dX6_add_9 ?_
    refine g_l2i dX6_add_10 ?_
    refine g_sipush dX6_add_11 sp_255 ?_
    refine g_iand dX6_add_14 ?_
    refine w_istore (lo2 := fun _ => [_, _, _, _, _, _]) dX6_add_15 (Nat.le_of_ble_eq_true rfl) rfl (fun _ => rfl) (fun x1 => ?_)
    refine g_iload dX6_add_17 rfl ?_
    refine g_bipush dX6_add_19 bp_10 ?_
    refine w_icmp_eq (tgt := 38) dX6_add_21 (by decide) ?_ ?_
    · exact g_to (lk_ot_add_38 F _ _ _ K_3 hK_3 _) (su_s (su_s (su_n (su_s (su_s (su_n su_0))))))
    · refine g_iload dX6_add_24 rfl ?_
      refine g_bipush dX6_add_26 bp_32 ?_
      refine w_icmp_lt (tgt := 42) dX6_add_28 (by decide) ?_ ?_
      · refine g_iload dX6_add_31 rfl ?_
        refine g_bipush dX6_add_33 bp_126 ?_
        refine w_icmp_gt (tgt := 42) dX6_add_35 (by decide) ?_ ?_
        · exact g_to (lk_ot_add_38 F _ _ _ K_3 hK_3 _) (su_s (su_s (su_n (su_s (su_s (su_n su_0))))))
        · exact g_to (lk_ot_add_42 F _ _ _ K_3 hK_3 _) (su_s (su_s (su_n (su_s (su_s (su_n su_0))))))
      · exact g_to (lk_ot_add_42 F _ _ _ K_3 hK_3 _) (su_s (su_s (su_n (su_s (su_s (su_n su_0))))))
  · exact w_vret dX6_add_90 rfl rfl
theorem lk_ot_add_3 (F : Nat) (v1 : Int64) : ∀ (f : Nat) (v3 : Int32) (μ : g_St) , g_Go gC 0 yX6_add cX6_add 6 (none : Option Jvm.ClassFile.FieldType) 3 [some (.ref 1), some (.long v1), none, some (.int v3), none, none] [] μ (Option.map o_yv (ot_add_3 F v1 f v3 μ))
  | 0, v3, μ => g_none
  | f + 1, v3, μ => lk_ot_add_3_b F v1 (ot_add_3 F v1 f) (lk_ot_add_3 F v1 f) v3 μ
theorem lk_ot_add (F : Nat) (v1 : Int64) (μ : g_St) : g_Go gC 0 yX6_add cX6_add 6 (none : Option Jvm.ClassFile.FieldType) 0 [some (.ref 1), some (.long v1), none, none, none, none] [] μ (Option.map o_yv (ot_add F v1 μ)) := by
  unfold ot_add
  refine g_bipush dX6_add_0 bp_56 ?_
  refine g_istore_n (lo2 := [_, _, _, _, _, _]) dX6_add_2 rfl (Nat.le_of_ble_eq_true rfl) rfl rfl ?_
  exact g_to (lk_ot_add_3 F _ _ _ _) (su_s (su_s (su_n (su_s (su_n (su_n su_0))))))
theorem co_ot_add (F : Nat) (v1 : Int64) (μ : g_St) : g_Con gC 0 yX6_add cX6_add 6 (none : Option Jvm.ClassFile.FieldType) [.ref 1, .long v1] μ (g_yv (ot_add F v1 μ)) := g_conOf mc_X6_add.2.2.2.2 (Nat.le_of_ble_eq_true rfl) rfl g_yv_rk (lk_ot_add F v1 μ)
theorem dX6_isLetter_0 : decode cX6_isLetter 0 = .ok (.iload_n 0, 1) := by decide +kernel
theorem dX6_isLetter_1 : decode cX6_isLetter 1 = .ok (.bipush 97, 2) := by decide +kernel
theorem dX6_isLetter_3 : decode cX6_isLetter 3 = .ok (.if_icmp .lt 13, 3) := by decide +kernel
theorem dX6_isLetter_6 : decode cX6_isLetter 6 = .ok (.iload_n 0, 1) := by decide +kernel
theorem dX6_isLetter_7 : decode cX6_isLetter 7 = .ok (.bipush 122, 2) := by decide +kernel
theorem dX6_isLetter_9 : decode cX6_isLetter 9 = .ok (.if_icmp .gt 7, 3) := by decide +kernel
theorem dX6_isLetter_12 : decode cX6_isLetter 12 = .ok (.iconst 1, 1) := by decide +kernel
theorem dX6_isLetter_13 : decode cX6_isLetter 13 = .ok (.goto 4, 3) := by decide +kernel
theorem dX6_isLetter_16 : decode cX6_isLetter 16 = .ok (.iconst 0, 1) := by decide +kernel
theorem dX6_isLetter_17 : decode cX6_isLetter 17 = .ok (.ireturn, 1) := by decide +kernel
theorem lk_ot_isLetter (μ : g_St) (v0 : Int32) : g_Go gC 0 yX6_isLetter cX6_isLetter 1 (some .boolean) 0 [some (.int v0)] [] μ (Option.map (o_i μ) (ot_isLetter μ v0)) := by
  unfold ot_isLetter
  refine g_iload_n dX6_isLetter_0 rfl rfl ?_
  refine g_bipush dX6_isLetter_1 bp_97 ?_
  refine w_icmp_lt (tgt := 16) dX6_isLetter_3 (by decide) ?_ ?_
  · refine g_iload_n dX6_isLetter_6 rfl rfl ?_
    refine g_bipush dX6_isLetter_7 bp_122 ?_
    refine w_icmp_gt (tgt := 16) dX6_isLetter_9 (by decide) ?_ ?_
    · refine g_iconst dX6_isLetter_12 ic_1 ?_
      refine g_goto (tgt := 17) dX6_isLetter_13 (by decide) ?_
      exact w_iret dX6_isLetter_17 (by decide) rfl
    · refine g_iconst dX6_isLetter_16 ic_0 ?_
      exact w_iret dX6_isLetter_17 (by decide) rfl
  · refine g_iconst dX6_isLetter_16 ic_0 ?_
    exact w_iret dX6_isLetter_17 (by decide) rfl
theorem co_ot_isLetter (μ : g_St) (v0 : Int32) : g_Con gC 0 yX6_isLetter cX6_isLetter 1 (some .boolean) [.int v0] μ (g_xi μ (ot_isLetter μ v0)) := g_conOf mc_X6_isLetter.2.2.2.2 (Nat.le_of_ble_eq_true rfl) rfl (g_xi_rk (Or.inr (Or.inl rfl))) (lk_ot_isLetter μ v0)
theorem dX6_withLetter_0 : decode cX6_withLetter 0 = .ok (.lload_n 0, 1) := by decide +kernel
theorem dX6_withLetter_1 : decode cX6_withLetter 1 = .ok (.ldc2_w 90, 3) := by decide +kernel
theorem dX6_withLetter_4 : decode cX6_withLetter 4 = .ok (.lmul, 1) := by decide +kernel
theorem dX6_withLetter_5 : decode cX6_withLetter 5 = .ok (.iload_n 2, 1) := by decide +kernel
theorem dX6_withLetter_6 : decode cX6_withLetter 6 = .ok (.bipush 97, 2) := by decide +kernel
theorem dX6_withLetter_8 : decode cX6_withLetter 8 = .ok (.isub, 1) := by decide +kernel
theorem dX6_withLetter_9 : decode cX6_withLetter 9 = .ok (.iconst 1, 1) := by decide +kernel
theorem dX6_withLetter_10 : decode cX6_withLetter 10 = .ok (.iadd, 1) := by decide +kernel
theorem dX6_withLetter_11 : decode cX6_withLetter 11 = .ok (.i2l, 1) := by decide +kernel
theorem dX6_withLetter_12 : decode cX6_withLetter 12 = .ok (.ladd, 1) := by decide +kernel
theorem dX6_withLetter_13 : decode cX6_withLetter 13 = .ok (.lreturn, 1) := by decide +kernel
theorem lk_ot_withLetter (Λ : g_Lay) (μ : g_St) (v0 : Int64) (v2 : Int32) : g_Go Λ 0 yX6_withLetter cX6_withLetter 3 (some .long) 0 [some (.long v0), none, some (.int v2)] [] μ (Option.map (o_l μ) (ot_withLetter μ v0 v2)) := by
  unfold ot_withLetter
  refine g_lload_n dX6_withLetter_0 rfl rfl ?_
  refine g_ldc2 dX6_withLetter_1 kl_X6_90 ?_
  refine g_lmul dX6_withLetter_4 ?_
  refine g_iload_n dX6_withLetter_5 rfl rfl ?_
  refine g_bipush dX6_withLetter_6 bp_97 ?_
  refine g_isub dX6_withLetter_8 ?_
  refine g_iconst dX6_withLetter_9 ic_1 ?_
  refine g_iadd dX6_withLetter_10 ?_
  refine g_i2l dX6_withLetter_11 ?_
  refine g_ladd dX6_withLetter_12 ?_
  exact w_lret dX6_withLetter_13 rfl rfl
theorem co_ot_withLetter (Λ : g_Lay) (μ : g_St) (v0 : Int64) (v2 : Int32) : g_Con Λ 0 yX6_withLetter cX6_withLetter 3 (some .long) [.long v0, .int v2] μ (g_xl μ (ot_withLetter μ v0 v2)) := g_conOf mc_X6_withLetter.2.2.2.2 (Nat.le_of_ble_eq_true rfl) rfl g_xl_rk (lk_ot_withLetter Λ μ v0 v2)
theorem dX6_keep_0 : decode cX6_keep 0 = .ok (.aload_n 0, 1) := by decide +kernel
theorem dX6_keep_1 : decode cX6_keep 1 = .ok (.getfield 48, 3) := by decide +kernel
theorem dX6_keep_4 : decode cX6_keep 4 = .ok (.aload_n 0, 1) := by decide +kernel
theorem dX6_keep_5 : decode cX6_keep 5 = .ok (.getfield 19, 3) := by decide +kernel
theorem dX6_keep_8 : decode cX6_keep 8 = .ok (.arraylength, 1) := by decide +kernel
theorem dX6_keep_9 : decode cX6_keep 9 = .ok (.if_icmp .ge 43, 3) := by decide +kernel
theorem dX6_keep_12 : decode cX6_keep 12 = .ok (.aload_n 0, 1) := by decide +kernel
theorem dX6_keep_13 : decode cX6_keep 13 = .ok (.getfield 19, 3) := by decide +kernel
theorem dX6_keep_16 : decode cX6_keep 16 = .ok (.aload_n 0, 1) := by decide +kernel
theorem dX6_keep_17 : decode cX6_keep 17 = .ok (.getfield 48, 3) := by decide +kernel
theorem dX6_keep_20 : decode cX6_keep 20 = .ok (.iload_n 1, 1) := by decide +kernel
theorem dX6_keep_21 : decode cX6_keep 21 = .ok (.iastore, 1) := by decide +kernel
theorem dX6_keep_22 : decode cX6_keep 22 = .ok (.aload_n 0, 1) := by decide +kernel
theorem dX6_keep_23 : decode cX6_keep 23 = .ok (.getfield 23, 3) := by decide +kernel
theorem dX6_keep_26 : decode cX6_keep 26 = .ok (.aload_n 0, 1) := by decide +kernel
theorem dX6_keep_27 : decode cX6_keep 27 = .ok (.getfield 48, 3) := by decide +kernel
theorem dX6_keep_30 : decode cX6_keep 30 = .ok (.iload_n 2, 1) := by decide +kernel
theorem dX6_keep_31 : decode cX6_keep 31 = .ok (.iastore, 1) := by decide +kernel
theorem dX6_keep_32 : decode cX6_keep 32 = .ok (.aload_n 0, 1) := by decide +kernel
theorem dX6_keep_33 : decode cX6_keep 33 = .ok (.getfield 26, 3) := by decide +kernel
theorem dX6_keep_36 : decode cX6_keep 36 = .ok (.aload_n 0, 1) := by decide +kernel
theorem dX6_keep_37 : decode cX6_keep 37 = .ok (.getfield 48, 3) := by decide +kernel
theorem dX6_keep_40 : decode cX6_keep 40 = .ok (.lload_n 3, 1) := by decide +kernel
theorem dX6_keep_41 : decode cX6_keep 41 = .ok (.lastore, 1) := by decide +kernel
theorem dX6_keep_42 : decode cX6_keep 42 = .ok (.aload_n 0, 1) := by decide +kernel
theorem dX6_keep_43 : decode cX6_keep 43 = .ok (.dup, 1) := by decide +kernel
theorem dX6_keep_44 : decode cX6_keep 44 = .ok (.getfield 48, 3) := by decide +kernel
theorem dX6_keep_47 : decode cX6_keep 47 = .ok (.iconst 1, 1) := by decide +kernel
theorem dX6_keep_48 : decode cX6_keep 48 = .ok (.iadd, 1) := by decide +kernel
theorem dX6_keep_49 : decode cX6_keep 49 = .ok (.putfield 48, 3) := by decide +kernel
theorem dX6_keep_52 : decode cX6_keep 52 = .ok (.return_, 1) := by decide +kernel
theorem lk_ot_keep (v1 : Int32) (v2 : Int32) (v3 : Int64) (μ : g_St) : g_Go gC 0 yX6_keep cX6_keep 5 (none : Option Jvm.ClassFile.FieldType) 0 [some (.ref 1), some (.int v1), some (.int v2), some (.long v3), none] [] μ (Option.map o_yv (ot_keep v1 v2 v3 μ)) := by
  unfold ot_keep
  refine g_aload_n dX6_keep_0 rfl rfl ?_
  refine g_getI dX6_keep_1 cf_X6 fl_X6_48 ly_Tape_lt ly_Tape rfl (Nat.le_of_ble_eq_true rfl) ?_
  refine g_aload_n dX6_keep_4 rfl rfl ?_
  refine g_getS dX6_keep_5 cf_X6 fl_X6_19 ly_Tape_lt ly_Tape rfl (Nat.le_of_ble_eq_true rfl) ?_
  refine g_alen (v := 1001) dX6_keep_8 ly_Tape_kinds_lt ly_Tape_kinds (by decide) ?_
  refine w_icmp_ge (tgt := 52) dX6_keep_9 (by decide) ?_ ?_
  · refine g_aload_n dX6_keep_12 rfl rfl ?_
    refine g_getS dX6_keep_13 cf_X6 fl_X6_19 ly_Tape_lt ly_Tape rfl (Nat.le_of_ble_eq_true rfl) ?_
    refine g_aload_n dX6_keep_16 rfl rfl ?_
    refine g_getI dX6_keep_17 cf_X6 fl_X6_48 ly_Tape_lt ly_Tape rfl (Nat.le_of_ble_eq_true rfl) ?_
    refine g_iload_n dX6_keep_20 rfl rfl ?_
    refine w_iast dX6_keep_21 ly_Tape_kinds_lt ly_Tape_kinds (fun μ1 => ?_)
    refine g_aload_n dX6_keep_22 rfl rfl ?_
    refine g_getS dX6_keep_23 cf_X6 fl_X6_23 ly_Tape_lt ly_Tape rfl (Nat.le_of_ble_eq_true rfl) ?_
    refine g_aload_n dX6_keep_26 rfl rfl ?_
    refine g_getI dX6_keep_27 cf_X6 fl_X6_48 ly_Tape_lt ly_Tape rfl (Nat.le_of_ble_eq_true rfl) ?_
    refine g_iload_n dX6_keep_30 rfl rfl ?_
    refine w_iast dX6_keep_31 ly_Tape_starts_lt ly_Tape_starts (fun μ2 => ?_)
    refine g_aload_n dX6_keep_32 rfl rfl ?_
    refine g_getS dX6_keep_33 cf_X6 fl_X6_26 ly_Tape_lt ly_Tape rfl (Nat.le_of_ble_eq_true rfl) ?_
    refine g_aload_n dX6_keep_36 rfl rfl ?_
    refine g_getI dX6_keep_37 cf_X6 fl_X6_48 ly_Tape_lt ly_Tape rfl (Nat.le_of_ble_eq_true rfl) ?_
    refine g_lload_n dX6_keep_40 rfl rfl ?_
    refine w_last dX6_keep_41 ly_Tape_values_lt ly_Tape_values (fun μ3 => ?_)
    refine g_aload_n dX6_keep_42 rfl rfl ?_
    refine g_dupr dX6_keep_43 ?_
    refine g_getI dX6_keep_44 cf_X6 fl_X6_48 ly_Tape_lt ly_Tape rfl (Nat.le_of_ble_eq_true rfl) ?_
    refine g_iconst dX6_keep_47 ic_1 ?_
    refine g_iadd dX6_keep_48 ?_
    refine w_putI dX6_keep_49 cf_X6 fl_X6_48 ly_Tape_lt ly_Tape rfl (Nat.le_of_ble_eq_true rfl) rfl rfl rfl rfl (fun μ4 => ?_)
    exact w_vret dX6_keep_52 rfl rfl
  · exact w_vret dX6_keep_52 rfl rfl
theorem co_ot_keep (v1 : Int32) (v2 : Int32) (v3 : Int64) (μ : g_St) : g_Con gC 0 yX6_keep cX6_keep 5 (none : Option Jvm.ClassFile.FieldType) [.ref 1, .int v1, .int v2, .long v3] μ (g_yv (ot_keep v1 v2 v3 μ)) := g_conOf mc_X6_keep.2.2.2.2 (Nat.le_of_ble_eq_true rfl) rfl g_yv_rk (lk_ot_keep v1 v2 v3 μ)
theorem dX8_indexIn_0 : decode cX8_indexIn 0 = .ok (.iconst 0, 1) := by decide +kernel
theorem dX8_indexIn_1 : decode cX8_indexIn 1 = .ok (.istore 4, 2) := by decide +kernel
theorem dX8_indexIn_3 : decode cX8_indexIn 3 = .ok (.iload 4, 2) := by decide +kernel
theorem dX8_indexIn_5 : decode cX8_indexIn 5 = .ok (.iload_n 1, 1) := by decide +kernel
theorem dX8_indexIn_6 : decode cX8_indexIn 6 = .ok (.if_icmp .ge 28, 3) := by decide +kernel
theorem dX8_indexIn_9 : decode cX8_indexIn 9 = .ok (.iload 4, 2) := by decide +kernel
theorem dX8_indexIn_11 : decode cX8_indexIn 11 = .ok (.aload_n 0, 1) := by decide +kernel
theorem dX8_indexIn_12 : decode cX8_indexIn 12 = .ok (.arraylength, 1) := by decide +kernel
theorem dX8_indexIn_13 : decode cX8_indexIn 13 = .ok (.if_icmp .ge 21, 3) := by decide +kernel
theorem dX8_indexIn_16 : decode cX8_indexIn 16 = .ok (.aload_n 0, 1) := by decide +kernel
theorem dX8_indexIn_17 : decode cX8_indexIn 17 = .ok (.iload 4, 2) := by decide +kernel
theorem dX8_indexIn_19 : decode cX8_indexIn 19 = .ok (.laload, 1) := by decide +kernel
theorem dX8_indexIn_20 : decode cX8_indexIn 20 = .ok (.lload_n 2, 1) := by decide +kernel
theorem dX8_indexIn_21 : decode cX8_indexIn 21 = .ok (.lcmp, 1) := by decide +kernel
theorem dX8_indexIn_22 : decode cX8_indexIn 22 = .ok (.ifCond .ne 6, 3) := by decide +kernel
theorem dX8_indexIn_25 : decode cX8_indexIn 25 = .ok (.iload 4, 2) := by decide +kernel
theorem dX8_indexIn_27 : decode cX8_indexIn 27 = .ok (.ireturn, 1) := by decide +kernel
theorem dX8_indexIn_28 : decode cX8_indexIn 28 = .ok (.iinc 4 1, 3) := by decide +kernel
theorem dX8_indexIn_31 : decode cX8_indexIn 31 = .ok (.goto (-28), 3) := by decide +kernel
theorem dX8_indexIn_34 : decode cX8_indexIn 34 = .ok (.iconst (-1), 1) := by decide +kernel
theorem dX8_indexIn_35 : decode cX8_indexIn 35 = .ok (.ireturn, 1) := by decide +kernel
theorem lk_oo_indexIn_3_b (F : Nat) (a0 na0 : Nat) (la0 : a0 < gC.1) (ya0 : gC.2 a0 = .inr (1, na0, g_zf)) (μ : g_St) (v1 : Int32) (v2 : Int64) (K_3 : Int32 → Option Int32) (hK_3 : ∀ (w4 : Int32), g_Go gC 0 yX8_indexIn cX8_indexIn 5 (some .int) 3 [some (.ref a0), some (.int v1), some (.long v2), none, some (.int w4)] [] μ (Option.map (o_i μ) (K_3 w4))) (v4 : Int32) : g_Go gC 0 yX8_indexIn cX8_indexIn 5 (some .int) 3 [some (.ref a0), some (.int v1), some (.long v2), none, some (.int v4)] [] μ (Option.map (o_i μ) (oo_indexIn_3_b F a0 na0 μ v1 v2 K_3 v4 )) := by
  unfold oo_indexIn_3_b
  refine g_iload dX8_indexIn_3 rfl ?_
  refine g_iload_n dX8_indexIn_5 rfl rfl ?_
  refine w_icmp_ge (tgt := 34) dX8_indexIn_6 (by decide) ?_ ?_
  · refine g_iload dX8_indexIn_9 rfl ?_
    refine g_aload_n dX8_indexIn_11 rfl rfl ?_
    refine g_alen dX8_indexIn_12 la0 ya0 rfl ?_
    refine w_icmp_ge (tgt := 34) dX8_indexIn_13 (by decide) ?_ ?_
    · refine g_aload_n dX8_indexIn_16 rfl rfl ?_
      refine g_iload dX8_indexIn_17 rfl ?_
      refine w_lald dX8_indexIn_19 la0 ya0 (fun x1 => ?_)
      refine g_lload_n dX8_indexIn_20 rfl rfl ?_
      refine g_lcmp dX8_indexIn_21 ?_
      refine w_if_ne (tgt := 28) dX8_indexIn_22 (by decide) ?_ ?_
      · refine g_iload dX8_indexIn_25 rfl ?_
        exact w_iret dX8_indexIn_27 rfl rfl
      · refine g_iinc (lo2 := [_, _, _, _, _]) dX8_indexIn_28 rfl rfl (Nat.le_of_ble_eq_true rfl) rfl rfl ?_
        refine g_goto (tgt := 3) dX8_indexIn_31 (by decide) ?_
        exact g_to (hK_3 _) (su_s (su_s (su_s (su_n (su_s su_0)))))
    · refine g_iconst dX8_indexIn_34 ic_m1 ?_
      exact w_iret dX8_indexIn_35 rfl rfl
  · refine g_iconst dX8_indexIn_34 ic_m1 ?_
    exact w_iret dX8_indexIn_35 rfl rfl
theorem lk_oo_indexIn_3 (F : Nat) (a0 na0 : Nat) (la0 : a0 < gC.1) (ya0 : gC.2 a0 = .inr (1, na0, g_zf)) (μ : g_St) (v1 : Int32) (v2 : Int64) : ∀ (f : Nat) (v4 : Int32) , g_Go gC 0 yX8_indexIn cX8_indexIn 5 (some .int) 3 [some (.ref a0), some (.int v1), some (.long v2), none, some (.int v4)] [] μ (Option.map (o_i μ) (oo_indexIn_3 F a0 na0 μ v1 v2 f v4 ))
  | 0, v4 => g_none
  | f + 1, v4 => lk_oo_indexIn_3_b F a0 na0 la0 ya0 μ v1 v2 (oo_indexIn_3 F a0 na0 μ v1 v2 f) (lk_oo_indexIn_3 F a0 na0 la0 ya0 μ v1 v2 f) v4 
theorem lk_oo_indexIn (F : Nat) (a0 na0 : Nat) (la0 : a0 < gC.1) (ya0 : gC.2 a0 = .inr (1, na0, g_zf)) (μ : g_St) (v1 : Int32) (v2 : Int64) : g_Go gC 0 yX8_indexIn cX8_indexIn 5 (some .int) 0 [some (.ref a0), some (.int v1), some (.long v2), none, none] [] μ (Option.map (o_i μ) (oo_indexIn F a0 na0 μ v1 v2)) := by
  unfold oo_indexIn
  refine g_iconst dX8_indexIn_0 ic_0 ?_
  refine g_istore (lo2 := [_, _, _, _, _]) dX8_indexIn_1 (Nat.le_of_ble_eq_true rfl) rfl rfl ?_
  exact g_to (lk_oo_indexIn_3 F a0 na0 la0 ya0 μ _ _ _ _) (su_s (su_s (su_s (su_n (su_s su_0)))))
theorem co_oo_indexIn (F : Nat) (a0 na0 : Nat) (la0 : a0 < gC.1) (ya0 : gC.2 a0 = .inr (1, na0, g_zf)) (μ : g_St) (v1 : Int32) (v2 : Int64) : g_Con gC 0 yX8_indexIn cX8_indexIn 5 (some .int) [.ref a0, .int v1, .long v2] μ (g_xi μ (oo_indexIn F a0 na0 μ v1 v2)) := g_conOf mc_X8_indexIn.2.2.2.2 (Nat.le_of_ble_eq_true rfl) rfl (g_xi_rk (Or.inl rfl)) (lk_oo_indexIn F a0 na0 la0 ya0 μ v1 v2)
theorem dX6_readWord_0 : decode cX6_readWord 0 = .ok (.lconst 0, 1) := by decide +kernel
theorem dX6_readWord_1 : decode cX6_readWord 1 = .ok (.lstore_n 2, 1) := by decide +kernel
theorem dX6_readWord_2 : decode cX6_readWord 2 = .ok (.iload_n 1, 1) := by decide +kernel
theorem dX6_readWord_3 : decode cX6_readWord 3 = .ok (.istore 4, 2) := by decide +kernel
theorem dX6_readWord_5 : decode cX6_readWord 5 = .ok (.iload 4, 2) := by decide +kernel
theorem dX6_readWord_7 : decode cX6_readWord 7 = .ok (.aload_n 0, 1) := by decide +kernel
theorem dX6_readWord_8 : decode cX6_readWord 8 = .ok (.getfield 45, 3) := by decide +kernel
theorem dX6_readWord_11 : decode cX6_readWord 11 = .ok (.if_icmp .ge 34, 3) := by decide +kernel
theorem dX6_readWord_14 : decode cX6_readWord 14 = .ok (.aload_n 0, 1) := by decide +kernel
theorem dX6_readWord_15 : decode cX6_readWord 15 = .ok (.getfield 15, 3) := by decide +kernel
theorem dX6_readWord_18 : decode cX6_readWord 18 = .ok (.iload 4, 2) := by decide +kernel
theorem dX6_readWord_20 : decode cX6_readWord 20 = .ok (.caload, 1) := by decide +kernel
theorem dX6_readWord_21 : decode cX6_readWord 21 = .ok (.invokestatic 68, 3) := by decide +kernel
theorem dX6_readWord_24 : decode cX6_readWord 24 = .ok (.ifCond .eq 21, 3) := by decide +kernel
theorem dX6_readWord_27 : decode cX6_readWord 27 = .ok (.lload_n 2, 1) := by decide +kernel
theorem dX6_readWord_28 : decode cX6_readWord 28 = .ok (.aload_n 0, 1) := by decide +kernel
theorem dX6_readWord_29 : decode cX6_readWord 29 = .ok (.getfield 15, 3) := by decide +kernel
theorem dX6_readWord_32 : decode cX6_readWord 32 = .ok (.iload 4, 2) := by decide +kernel
theorem dX6_readWord_34 : decode cX6_readWord 34 = .ok (.caload, 1) := by decide +kernel
theorem dX6_readWord_35 : decode cX6_readWord 35 = .ok (.invokestatic 41, 3) := by decide +kernel
theorem dX6_readWord_38 : decode cX6_readWord 38 = .ok (.lstore_n 2, 1) := by decide +kernel
theorem dX6_readWord_39 : decode cX6_readWord 39 = .ok (.iinc 4 1, 3) := by decide +kernel
theorem dX6_readWord_42 : decode cX6_readWord 42 = .ok (.goto (-37), 3) := by decide +kernel
theorem dX6_readWord_45 : decode cX6_readWord 45 = .ok (.aload_n 0, 1) := by decide +kernel
theorem dX6_readWord_46 : decode cX6_readWord 46 = .ok (.getfield 9, 3) := by decide +kernel
theorem dX6_readWord_49 : decode cX6_readWord 49 = .ok (.aload_n 0, 1) := by decide +kernel
theorem dX6_readWord_50 : decode cX6_readWord 50 = .ok (.getfield 9, 3) := by decide +kernel
theorem dX6_readWord_53 : decode cX6_readWord 53 = .ok (.arraylength, 1) := by decide +kernel
theorem dX6_readWord_54 : decode cX6_readWord 54 = .ok (.lload_n 2, 1) := by decide +kernel
theorem dX6_readWord_55 : decode cX6_readWord 55 = .ok (.invokestatic 86, 3) := by decide +kernel
theorem dX6_readWord_58 : decode cX6_readWord 58 = .ok (.istore 5, 2) := by decide +kernel
theorem dX6_readWord_60 : decode cX6_readWord 60 = .ok (.iload 4, 2) := by decide +kernel
theorem dX6_readWord_62 : decode cX6_readWord 62 = .ok (.iload_n 1, 1) := by decide +kernel
theorem dX6_readWord_63 : decode cX6_readWord 63 = .ok (.isub, 1) := by decide +kernel
theorem dX6_readWord_64 : decode cX6_readWord 64 = .ok (.bipush 8, 2) := by decide +kernel
theorem dX6_readWord_66 : decode cX6_readWord 66 = .ok (.if_icmp .le 15, 3) := by decide +kernel
theorem dX6_readWord_69 : decode cX6_readWord 69 = .ok (.aload_n 0, 1) := by decide +kernel
theorem dX6_readWord_70 : decode cX6_readWord 70 = .ok (.sipush 203, 3) := by decide +kernel
theorem dX6_readWord_73 : decode cX6_readWord 73 = .ok (.iload_n 1, 1) := by decide +kernel
theorem dX6_readWord_74 : decode cX6_readWord 74 = .ok (.lconst 0, 1) := by decide +kernel
theorem dX6_readWord_75 : decode cX6_readWord 75 = .ok (.invokevirtual 58, 3) := by decide +kernel
theorem dX6_readWord_78 : decode cX6_readWord 78 = .ok (.goto 23, 3) := by decide +kernel
theorem dX6_readWord_81 : decode cX6_readWord 81 = .ok (.aload_n 0, 1) := by decide +kernel
theorem dX6_readWord_82 : decode cX6_readWord 82 = .ok (.iload 5, 2) := by decide +kernel
theorem dX6_readWord_84 : decode cX6_readWord 84 = .ok (.iconst (-1), 1) := by decide +kernel
theorem dX6_readWord_85 : decode cX6_readWord 85 = .ok (.if_icmp .ne 9, 3) := by decide +kernel
theorem dX6_readWord_88 : decode cX6_readWord 88 = .ok (.sipush 200, 3) := by decide +kernel
theorem dX6_readWord_91 : decode cX6_readWord 91 = .ok (.goto 5, 3) := by decide +kernel
theorem dX6_readWord_94 : decode cX6_readWord 94 = .ok (.iload 5, 2) := by decide +kernel
theorem dX6_readWord_96 : decode cX6_readWord 96 = .ok (.iload_n 1, 1) := by decide +kernel
theorem dX6_readWord_97 : decode cX6_readWord 97 = .ok (.lload_n 2, 1) := by decide +kernel
theorem dX6_readWord_98 : decode cX6_readWord 98 = .ok (.invokevirtual 58, 3) := by decide +kernel
theorem dX6_readWord_101 : decode cX6_readWord 101 = .ok (.iload 4, 2) := by decide +kernel
theorem dX6_readWord_103 : decode cX6_readWord 103 = .ok (.ireturn, 1) := by decide +kernel
theorem lk_ot_readWord_96 (F : Nat) (v1 : Int32) (v2 : Int64) (v4 : Int32) (s0 : Int32) (μ : g_St) : g_Go gC 1 yX6_readWord cX6_readWord 6 (some .int) 96 [none, some (.int v1), some (.long v2), none, some (.int v4), none] [.int s0, .ref 1] μ (Option.map o_yi (ot_readWord_96 F v1 v2 v4 s0 μ)) := by
  unfold ot_readWord_96
  refine g_iload_n dX6_readWord_96 rfl rfl ?_
  refine g_lload_n dX6_readWord_97 rfl rfl ?_
  refine w_Vyv [.int _, .int _, .long _] dX6_readWord_98 ml_X6_58 mv_X6_keep mc_X6_keep cf_X6 ly_Tape_lt ly_Tape rfl (Nat.le_of_ble_eq_true rfl) (Nat.le_of_ble_eq_true rfl) (Nat.le_of_ble_eq_true rfl) rfl (co_ot_keep _ _ _ _) (fun μ7 => ?_)
  refine g_iload dX6_readWord_101 rfl ?_
  exact w_iret dX6_readWord_103 rfl rfl
theorem lk_ot_readWord_45 (F : Nat) (v1 : Int32) (v2 : Int64) (v4 : Int32) (μ : g_St) : g_Go gC 1 yX6_readWord cX6_readWord 6 (some .int) 45 [some (.ref 1), some (.int v1), some (.long v2), none, some (.int v4), none] [] μ (Option.map o_yi (ot_readWord_45 F v1 v2 v4 μ)) := by
  unfold ot_readWord_45
  refine g_aload_n dX6_readWord_45 rfl rfl ?_
  refine g_getS dX6_readWord_46 cf_X6 fl_X6_9 ly_Tape_lt ly_Tape rfl (Nat.le_of_ble_eq_true rfl) ?_
  refine g_aload_n dX6_readWord_49 rfl rfl ?_
  refine g_getS dX6_readWord_50 cf_X6 fl_X6_9 ly_Tape_lt ly_Tape rfl (Nat.le_of_ble_eq_true rfl) ?_
  refine g_alen (v := 20) dX6_readWord_53 ly_Tape_words_lt ly_Tape_words (by decide) ?_
  refine g_lload_n dX6_readWord_54 rfl rfl ?_
  refine w_Sxi [.ref _, .int _, .long _] dX6_readWord_55 ml_X6_86 ms_X8_indexIn mc_X8_indexIn rfl (Nat.le_of_ble_eq_true rfl) (Nat.le_of_ble_eq_true rfl) (Nat.le_of_ble_eq_true rfl) rfl (co_oo_indexIn F _ _ ly_Tape_words_lt ly_Tape_words _ _ _) (fun x5 => ?_)
  refine g_istore (lo2 := [_, _, _, _, _, _]) dX6_readWord_58 (Nat.le_of_ble_eq_true rfl) rfl rfl ?_
  refine g_iload dX6_readWord_60 rfl ?_
  refine g_iload_n dX6_readWord_62 rfl rfl ?_
  refine g_isub dX6_readWord_63 ?_
  refine g_bipush dX6_readWord_64 bp_8 ?_
  refine w_icmp_le (tgt := 81) dX6_readWord_66 (by decide) ?_ ?_
  · refine g_aload_n dX6_readWord_69 rfl rfl ?_
    refine g_sipush dX6_readWord_70 sp_203 ?_
    refine g_iload_n dX6_readWord_73 rfl rfl ?_
    refine g_lconst dX6_readWord_74 rfl ?_
    refine w_Vyv [.int _, .int _, .long _] dX6_readWord_75 ml_X6_58 mv_X6_keep mc_X6_keep cf_X6 ly_Tape_lt ly_Tape rfl (Nat.le_of_ble_eq_true rfl) (Nat.le_of_ble_eq_true rfl) (Nat.le_of_ble_eq_true rfl) rfl (co_ot_keep _ _ _ _) (fun μ6 => ?_)
    refine g_goto (tgt := 101) dX6_readWord_78 (by decide) ?_
    refine g_iload dX6_readWord_101 rfl ?_
    exact w_iret dX6_readWord_103 rfl rfl
  · refine g_aload_n dX6_readWord_81 rfl rfl ?_
    refine g_iload dX6_readWord_82 rfl ?_
    refine g_iconst dX6_readWord_84 ic_m1 ?_
    refine w_icmp_ne (tgt := 94) dX6_readWord_85 (by decide) ?_ ?_
    · refine g_sipush dX6_readWord_88 sp_200 ?_
      refine g_goto (tgt := 96) dX6_readWord_91 (by decide) ?_
      exact g_to (lk_ot_readWord_96 F _ _ _ _ _) (su_n (su_s (su_s (su_n (su_s (su_n su_0))))))
    · refine g_iload dX6_readWord_94 rfl ?_
      exact g_to (lk_ot_readWord_96 F _ _ _ _ _) (su_n (su_s (su_s (su_n (su_s (su_n su_0))))))
theorem lk_ot_readWord_5_b (F : Nat) (v1 : Int32) (K_5 : Int64 → Int32 → g_St → Option (Int32 × g_St)) (hK_5 : ∀ (w2 : Int64) (w4 : Int32) (ν : g_St), g_Go gC 1 yX6_readWord cX6_readWord 6 (some .int) 5 [some (.ref 1), some (.int v1), some (.long w2), none, some (.int w4), none] [] ν (Option.map o_yi (K_5 w2 w4 ν))) (v2 : Int64) (v4 : Int32) (μ : g_St) : g_Go gC 1 yX6_readWord cX6_readWord 6 (some .int) 5 [some (.ref 1), some (.int v1), some (.long v2), none, some (.int v4), none] [] μ (Option.map o_yi (ot_readWord_5_b F v1 K_5 v2 v4 μ)) := by
  unfold ot_readWord_5_b
  refine g_iload dX6_readWord_5 rfl ?_
  refine g_aload_n dX6_readWord_7 rfl rfl ?_
  refine g_getI dX6_readWord_8 cf_X6 fl_X6_45 ly_Tape_lt ly_Tape rfl (Nat.le_of_ble_eq_true rfl) ?_
  refine w_icmp_ge (tgt := 45) dX6_readWord_11 (by decide) ?_ ?_
  · refine g_aload_n dX6_readWord_14 rfl rfl ?_
    refine g_getS dX6_readWord_15 cf_X6 fl_X6_15 ly_Tape_lt ly_Tape rfl (Nat.le_of_ble_eq_true rfl) ?_
    refine g_iload dX6_readWord_18 rfl ?_
    refine w_cald dX6_readWord_20 ly_Tape_signs_lt ly_Tape_signs (fun x1 => ?_)
    refine w_Sxi [.int _] dX6_readWord_21 ml_X6_68 ms_X6_isLetter mc_X6_isLetter rfl (Nat.le_of_ble_eq_true rfl) (Nat.le_of_ble_eq_true rfl) (Nat.le_of_ble_eq_true rfl) rfl (co_ot_isLetter _ _) (fun x2 => ?_)
    refine w_if_eq (tgt := 45) dX6_readWord_24 (by decide) ?_ ?_
    · exact g_to (lk_ot_readWord_45 F _ _ _ _) (su_s (su_s (su_s (su_n (su_s (su_n su_0))))))
    · refine g_lload_n dX6_readWord_27 rfl rfl ?_
      refine g_aload_n dX6_readWord_28 rfl rfl ?_
      refine g_getS dX6_readWord_29 cf_X6 fl_X6_15 ly_Tape_lt ly_Tape rfl (Nat.le_of_ble_eq_true rfl) ?_
      refine g_iload dX6_readWord_32 rfl ?_
      refine w_cald dX6_readWord_34 ly_Tape_signs_lt ly_Tape_signs (fun x3 => ?_)
      refine w_Sxl [.long _, .int _] dX6_readWord_35 ml_X6_41 ms_X6_withLetter mc_X6_withLetter rfl (Nat.le_of_ble_eq_true rfl) (Nat.le_of_ble_eq_true rfl) (Nat.le_of_ble_eq_true rfl) rfl (co_ot_withLetter gC _ _ _) (fun x4 => ?_)
      refine g_lstore_n (lo2 := [_, _, _, _, _, _]) dX6_readWord_38 rfl (Nat.le_of_ble_eq_true rfl) rfl rfl ?_
      refine g_iinc (lo2 := [_, _, _, _, _, _]) dX6_readWord_39 rfl rfl (Nat.le_of_ble_eq_true rfl) rfl rfl ?_
      refine g_goto (tgt := 5) dX6_readWord_42 (by decide) ?_
      exact g_to (hK_5 _ _ _) (su_s (su_s (su_s (su_n (su_s (su_n su_0))))))
  · exact g_to (lk_ot_readWord_45 F _ _ _ _) (su_s (su_s (su_s (su_n (su_s (su_n su_0))))))
theorem lk_ot_readWord_5 (F : Nat) (v1 : Int32) : ∀ (f : Nat) (v2 : Int64) (v4 : Int32) (μ : g_St) , g_Go gC 1 yX6_readWord cX6_readWord 6 (some .int) 5 [some (.ref 1), some (.int v1), some (.long v2), none, some (.int v4), none] [] μ (Option.map o_yi (ot_readWord_5 F v1 f v2 v4 μ))
  | 0, v2, v4, μ => g_none
  | f + 1, v2, v4, μ => lk_ot_readWord_5_b F v1 (ot_readWord_5 F v1 f) (lk_ot_readWord_5 F v1 f) v2 v4 μ
theorem lk_ot_readWord (F : Nat) (v1 : Int32) (μ : g_St) : g_Go gC 1 yX6_readWord cX6_readWord 6 (some .int) 0 [some (.ref 1), some (.int v1), none, none, none, none] [] μ (Option.map o_yi (ot_readWord F v1 μ)) := by
  unfold ot_readWord
  refine g_lconst dX6_readWord_0 rfl ?_
  refine g_lstore_n (lo2 := [_, _, _, _, _, _]) dX6_readWord_1 rfl (Nat.le_of_ble_eq_true rfl) rfl rfl ?_
  refine g_iload_n dX6_readWord_2 rfl rfl ?_
  refine g_istore (lo2 := [_, _, _, _, _, _]) dX6_readWord_3 (Nat.le_of_ble_eq_true rfl) rfl rfl ?_
  exact g_to (lk_ot_readWord_5 F _ _ _ _ _) (su_s (su_s (su_s (su_n (su_s (su_n su_0))))))
theorem co_ot_readWord (F : Nat) (v1 : Int32) (μ : g_St) : g_Con gC 1 yX6_readWord cX6_readWord 6 (some .int) [.ref 1, .int v1] μ (g_yi (ot_readWord F v1 μ)) := g_conOf mc_X6_readWord.2.2.2.2 (Nat.le_of_ble_eq_true rfl) rfl (g_yi_rk (Or.inl rfl)) (lk_ot_readWord F v1 μ)
theorem dX6_isDigit_0 : decode cX6_isDigit 0 = .ok (.iload_n 0, 1) := by decide +kernel
theorem dX6_isDigit_1 : decode cX6_isDigit 1 = .ok (.bipush 48, 2) := by decide +kernel
theorem dX6_isDigit_3 : decode cX6_isDigit 3 = .ok (.if_icmp .lt 13, 3) := by decide +kernel
theorem dX6_isDigit_6 : decode cX6_isDigit 6 = .ok (.iload_n 0, 1) := by decide +kernel
theorem dX6_isDigit_7 : decode cX6_isDigit 7 = .ok (.bipush 57, 2) := by decide +kernel
theorem dX6_isDigit_9 : decode cX6_isDigit 9 = .ok (.if_icmp .gt 7, 3) := by decide +kernel
theorem dX6_isDigit_12 : decode cX6_isDigit 12 = .ok (.iconst 1, 1) := by decide +kernel
theorem dX6_isDigit_13 : decode cX6_isDigit 13 = .ok (.goto 4, 3) := by decide +kernel
theorem dX6_isDigit_16 : decode cX6_isDigit 16 = .ok (.iconst 0, 1) := by decide +kernel
theorem dX6_isDigit_17 : decode cX6_isDigit 17 = .ok (.ireturn, 1) := by decide +kernel
theorem lk_ot_isDigit (μ : g_St) (v0 : Int32) : g_Go gC 0 yX6_isDigit cX6_isDigit 1 (some .boolean) 0 [some (.int v0)] [] μ (Option.map (o_i μ) (ot_isDigit μ v0)) := by
  unfold ot_isDigit
  refine g_iload_n dX6_isDigit_0 rfl rfl ?_
  refine g_bipush dX6_isDigit_1 bp_48 ?_
  refine w_icmp_lt (tgt := 16) dX6_isDigit_3 (by decide) ?_ ?_
  · refine g_iload_n dX6_isDigit_6 rfl rfl ?_
    refine g_bipush dX6_isDigit_7 bp_57 ?_
    refine w_icmp_gt (tgt := 16) dX6_isDigit_9 (by decide) ?_ ?_
    · refine g_iconst dX6_isDigit_12 ic_1 ?_
      refine g_goto (tgt := 17) dX6_isDigit_13 (by decide) ?_
      exact w_iret dX6_isDigit_17 (by decide) rfl
    · refine g_iconst dX6_isDigit_16 ic_0 ?_
      exact w_iret dX6_isDigit_17 (by decide) rfl
  · refine g_iconst dX6_isDigit_16 ic_0 ?_
    exact w_iret dX6_isDigit_17 (by decide) rfl
theorem co_ot_isDigit (μ : g_St) (v0 : Int32) : g_Con gC 0 yX6_isDigit cX6_isDigit 1 (some .boolean) [.int v0] μ (g_xi μ (ot_isDigit μ v0)) := g_conOf mc_X6_isDigit.2.2.2.2 (Nat.le_of_ble_eq_true rfl) rfl (g_xi_rk (Or.inr (Or.inl rfl))) (lk_ot_isDigit μ v0)
theorem dX6_readNumber_0 : decode cX6_readNumber 0 = .ok (.iconst 0, 1) := by decide +kernel
theorem dX6_readNumber_1 : decode cX6_readNumber 1 = .ok (.istore_n 2, 1) := by decide +kernel
theorem dX6_readNumber_2 : decode cX6_readNumber 2 = .ok (.iload_n 1, 1) := by decide +kernel
theorem dX6_readNumber_3 : decode cX6_readNumber 3 = .ok (.istore_n 3, 1) := by decide +kernel
theorem dX6_readNumber_4 : decode cX6_readNumber 4 = .ok (.iload_n 3, 1) := by decide +kernel
theorem dX6_readNumber_5 : decode cX6_readNumber 5 = .ok (.aload_n 0, 1) := by decide +kernel
theorem dX6_readNumber_6 : decode cX6_readNumber 6 = .ok (.getfield 45, 3) := by decide +kernel
theorem dX6_readNumber_9 : decode cX6_readNumber 9 = .ok (.if_icmp .ge 36, 3) := by decide +kernel
theorem dX6_readNumber_12 : decode cX6_readNumber 12 = .ok (.aload_n 0, 1) := by decide +kernel
theorem dX6_readNumber_13 : decode cX6_readNumber 13 = .ok (.getfield 15, 3) := by decide +kernel
theorem dX6_readNumber_16 : decode cX6_readNumber 16 = .ok (.iload_n 3, 1) := by decide +kernel
theorem dX6_readNumber_17 : decode cX6_readNumber 17 = .ok (.caload, 1) := by decide +kernel
theorem dX6_readNumber_18 : decode cX6_readNumber 18 = .ok (.invokestatic 75, 3) := by decide +kernel
theorem dX6_readNumber_21 : decode cX6_readNumber 21 = .ok (.ifCond .eq 24, 3) := by decide +kernel
theorem dX6_readNumber_24 : decode cX6_readNumber 24 = .ok (.iload_n 2, 1) := by decide +kernel
theorem dX6_readNumber_25 : decode cX6_readNumber 25 = .ok (.bipush 10, 2) := by decide +kernel
theorem dX6_readNumber_27 : decode cX6_readNumber 27 = .ok (.imul, 1) := by decide +kernel
theorem dX6_readNumber_28 : decode cX6_readNumber 28 = .ok (.aload_n 0, 1) := by decide +kernel
theorem dX6_readNumber_29 : decode cX6_readNumber 29 = .ok (.getfield 15, 3) := by decide +kernel
theorem dX6_readNumber_32 : decode cX6_readNumber 32 = .ok (.iload_n 3, 1) := by decide +kernel
theorem dX6_readNumber_33 : decode cX6_readNumber 33 = .ok (.caload, 1) := by decide +kernel
theorem dX6_readNumber_34 : decode cX6_readNumber 34 = .ok (.bipush 48, 2) := by decide +kernel
theorem dX6_readNumber_36 : decode cX6_readNumber 36 = .ok (.isub, 1) := by decide +kernel
theorem dX6_readNumber_37 : decode cX6_readNumber 37 = .ok (.iadd, 1) := by decide +kernel
theorem dX6_readNumber_38 : decode cX6_readNumber 38 = .ok (.istore_n 2, 1) := by decide +kernel
theorem dX6_readNumber_39 : decode cX6_readNumber 39 = .ok (.iinc 3 1, 3) := by decide +kernel
theorem dX6_readNumber_42 : decode cX6_readNumber 42 = .ok (.goto (-38), 3) := by decide +kernel
theorem dX6_readNumber_45 : decode cX6_readNumber 45 = .ok (.aload_n 0, 1) := by decide +kernel
theorem dX6_readNumber_46 : decode cX6_readNumber 46 = .ok (.iload_n 3, 1) := by decide +kernel
theorem dX6_readNumber_47 : decode cX6_readNumber 47 = .ok (.iload_n 1, 1) := by decide +kernel
theorem dX6_readNumber_48 : decode cX6_readNumber 48 = .ok (.isub, 1) := by decide +kernel
theorem dX6_readNumber_49 : decode cX6_readNumber 49 = .ok (.iconst 4, 1) := by decide +kernel
theorem dX6_readNumber_50 : decode cX6_readNumber 50 = .ok (.if_icmp .le 9, 3) := by decide +kernel
theorem dX6_readNumber_53 : decode cX6_readNumber 53 = .ok (.sipush 203, 3) := by decide +kernel
theorem dX6_readNumber_56 : decode cX6_readNumber 56 = .ok (.goto 6, 3) := by decide +kernel
theorem dX6_readNumber_59 : decode cX6_readNumber 59 = .ok (.sipush 201, 3) := by decide +kernel
theorem dX6_readNumber_62 : decode cX6_readNumber 62 = .ok (.iload_n 1, 1) := by decide +kernel
theorem dX6_readNumber_63 : decode cX6_readNumber 63 = .ok (.iload_n 2, 1) := by decide +kernel
theorem dX6_readNumber_64 : decode cX6_readNumber 64 = .ok (.i2l, 1) := by decide +kernel
theorem dX6_readNumber_65 : decode cX6_readNumber 65 = .ok (.invokevirtual 58, 3) := by decide +kernel
theorem dX6_readNumber_68 : decode cX6_readNumber 68 = .ok (.iload_n 3, 1) := by decide +kernel
theorem dX6_readNumber_69 : decode cX6_readNumber 69 = .ok (.ireturn, 1) := by decide +kernel
theorem lk_ot_readNumber_62 (F : Nat) (v1 : Int32) (v2 : Int32) (v3 : Int32) (s0 : Int32) (μ : g_St) : g_Go gC 1 yX6_readNumber cX6_readNumber 4 (some .int) 62 [none, some (.int v1), some (.int v2), some (.int v3)] [.int s0, .ref 1] μ (Option.map o_yi (ot_readNumber_62 F v1 v2 v3 s0 μ)) := by
  unfold ot_readNumber_62
  refine g_iload_n dX6_readNumber_62 rfl rfl ?_
  refine g_iload_n dX6_readNumber_63 rfl rfl ?_
  refine g_i2l dX6_readNumber_64 ?_
  refine w_Vyv [.int _, .int _, .long _] dX6_readNumber_65 ml_X6_58 mv_X6_keep mc_X6_keep cf_X6 ly_Tape_lt ly_Tape rfl (Nat.le_of_ble_eq_true rfl) (Nat.le_of_ble_eq_true rfl) (Nat.le_of_ble_eq_true rfl) rfl (co_ot_keep _ _ _ _) (fun μ5 => ?_)
  refine g_iload_n dX6_readNumber_68 rfl rfl ?_
  exact w_iret dX6_readNumber_69 rfl rfl
theorem lk_ot_readNumber_45 (F : Nat) (v1 : Int32) (v2 : Int32) (v3 : Int32) (μ : g_St) : g_Go gC 1 yX6_readNumber cX6_readNumber 4 (some .int) 45 [some (.ref 1), some (.int v1), some (.int v2), some (.int v3)] [] μ (Option.map o_yi (ot_readNumber_45 F v1 v2 v3 μ)) := by
  unfold ot_readNumber_45
  refine g_aload_n dX6_readNumber_45 rfl rfl ?_
  refine g_iload_n dX6_readNumber_46 rfl rfl ?_
  refine g_iload_n dX6_readNumber_47 rfl rfl ?_
  refine g_isub dX6_readNumber_48 ?_
  refine g_iconst dX6_readNumber_49 ic_4 ?_
  refine w_icmp_le (tgt := 59) dX6_readNumber_50 (by decide) ?_ ?_
  · refine g_sipush dX6_readNumber_53 sp_203 ?_
    refine g_goto (tgt := 62) dX6_readNumber_56 (by decide) ?_
    exact g_to (lk_ot_readNumber_62 F _ _ _ _ _) (su_n (su_s (su_s (su_s su_0))))
  · refine g_sipush dX6_readNumber_59 sp_201 ?_
    exact g_to (lk_ot_readNumber_62 F _ _ _ _ _) (su_n (su_s (su_s (su_s su_0))))
theorem lk_ot_readNumber_4_b (F : Nat) (v1 : Int32) (K_4 : Int32 → Int32 → g_St → Option (Int32 × g_St)) (hK_4 : ∀ (w2 : Int32) (w3 : Int32) (ν : g_St), g_Go gC 1 yX6_readNumber cX6_readNumber 4 (some .int) 4 [some (.ref 1), some (.int v1), some (.int w2), some (.int w3)] [] ν (Option.map o_yi (K_4 w2 w3 ν))) (v2 : Int32) (v3 : Int32) (μ : g_St) : g_Go gC 1 yX6_readNumber cX6_readNumber 4 (some .int) 4 [some (.ref 1), some (.int v1), some (.int v2), some (.int v3)] [] μ (Option.map o_yi (ot_readNumber_4_b F v1 K_4 v2 v3 μ)) := by
  unfold ot_readNumber_4_b
  refine g_iload_n dX6_readNumber_4 rfl rfl ?_
  refine g_aload_n dX6_readNumber_5 rfl rfl ?_
  refine g_getI dX6_readNumber_6 cf_X6 fl_X6_45 ly_Tape_lt ly_Tape rfl (Nat.le_of_ble_eq_true rfl) ?_
  refine w_icmp_ge (tgt := 45) dX6_readNumber_9 (by decide) ?_ ?_
  · refine g_aload_n dX6_readNumber_12 rfl rfl ?_
    refine g_getS dX6_readNumber_13 cf_X6 fl_X6_15 ly_Tape_lt ly_Tape rfl (Nat.le_of_ble_eq_true rfl) ?_
    refine g_iload_n dX6_readNumber_16 rfl rfl ?_
    refine w_cald dX6_readNumber_17 ly_Tape_signs_lt ly_Tape_signs (fun x1 => ?_)
    refine w_Sxi [.int _] dX6_readNumber_18 ml_X6_75 ms_X6_isDigit mc_X6_isDigit rfl (Nat.le_of_ble_eq_true rfl) (Nat.le_of_ble_eq_true rfl) (Nat.le_of_ble_eq_true rfl) rfl (co_ot_isDigit _ _) (fun x2 => ?_)
    refine w_if_eq (tgt := 45) dX6_readNumber_21 (by decide) ?_ ?_
    · exact g_to (lk_ot_readNumber_45 F _ _ _ _) (su_s (su_s (su_s (su_s su_0))))
    · refine g_iload_n dX6_readNumber_24 rfl rfl ?_
      refine g_bipush dX6_readNumber_25 bp_10 ?_
      refine g_imul dX6_readNumber_27 ?_
      refine g_aload_n dX6_readNumber_28 rfl rfl ?_
      refine g_getS dX6_readNumber_29 cf_X6 fl_X6_15 ly_Tape_lt ly_Tape rfl (Nat.le_of_ble_eq_true rfl) ?_
      refine g_iload_n dX6_readNumber_32 rfl rfl ?_
      refine w_cald dX6_readNumber_33 ly_Tape_signs_lt ly_Tape_signs (fun x3 => ?_)
      refine g_bipush dX6_readNumber_34 bp_48 ?_
      refine g_isub dX6_readNumber_36 ?_
      refine g_iadd dX6_readNumber_37 ?_
      refine w_istore_n (lo2 := fun _ => [_, _, _, _]) dX6_readNumber_38 rfl (Nat.le_of_ble_eq_true rfl) rfl (fun _ => rfl) (fun x4 => ?_)
      refine g_iinc (lo2 := [_, _, _, _]) dX6_readNumber_39 rfl rfl (Nat.le_of_ble_eq_true rfl) rfl rfl ?_
      refine g_goto (tgt := 4) dX6_readNumber_42 (by decide) ?_
      exact g_to (hK_4 _ _ _) (su_s (su_s (su_s (su_s su_0))))
  · exact g_to (lk_ot_readNumber_45 F _ _ _ _) (su_s (su_s (su_s (su_s su_0))))
theorem lk_ot_readNumber_4 (F : Nat) (v1 : Int32) : ∀ (f : Nat) (v2 : Int32) (v3 : Int32) (μ : g_St) , g_Go gC 1 yX6_readNumber cX6_readNumber 4 (some .int) 4 [some (.ref 1), some (.int v1), some (.int v2), some (.int v3)] [] μ (Option.map o_yi (ot_readNumber_4 F v1 f v2 v3 μ))
  | 0, v2, v3, μ => g_none
  | f + 1, v2, v3, μ => lk_ot_readNumber_4_b F v1 (ot_readNumber_4 F v1 f) (lk_ot_readNumber_4 F v1 f) v2 v3 μ
theorem lk_ot_readNumber (F : Nat) (v1 : Int32) (μ : g_St) : g_Go gC 1 yX6_readNumber cX6_readNumber 4 (some .int) 0 [some (.ref 1), some (.int v1), none, none] [] μ (Option.map o_yi (ot_readNumber F v1 μ)) := by
  unfold ot_readNumber
  refine g_iconst dX6_readNumber_0 ic_0 ?_
  refine g_istore_n (lo2 := [_, _, _, _]) dX6_readNumber_1 rfl (Nat.le_of_ble_eq_true rfl) rfl rfl ?_
  refine g_iload_n dX6_readNumber_2 rfl rfl ?_
  refine g_istore_n (lo2 := [_, _, _, _]) dX6_readNumber_3 rfl (Nat.le_of_ble_eq_true rfl) rfl rfl ?_
  exact g_to (lk_ot_readNumber_4 F _ _ _ _ _) (su_s (su_s (su_s (su_s su_0))))
theorem co_ot_readNumber (F : Nat) (v1 : Int32) (μ : g_St) : g_Con gC 1 yX6_readNumber cX6_readNumber 4 (some .int) [.ref 1, .int v1] μ (g_yi (ot_readNumber F v1 μ)) := g_conOf mc_X6_readNumber.2.2.2.2 (Nat.le_of_ble_eq_true rfl) rfl (g_yi_rk (Or.inl rfl)) (lk_ot_readNumber F v1 μ)
theorem dX6_readToken_0 : decode cX6_readToken 0 = .ok (.aload_n 0, 1) := by decide +kernel
theorem dX6_readToken_1 : decode cX6_readToken 1 = .ok (.getfield 15, 3) := by decide +kernel
theorem dX6_readToken_4 : decode cX6_readToken 4 = .ok (.iload_n 1, 1) := by decide +kernel
theorem dX6_readToken_5 : decode cX6_readToken 5 = .ok (.caload, 1) := by decide +kernel
theorem dX6_readToken_6 : decode cX6_readToken 6 = .ok (.istore_n 2, 1) := by decide +kernel
theorem dX6_readToken_7 : decode cX6_readToken 7 = .ok (.iload_n 2, 1) := by decide +kernel
theorem dX6_readToken_8 : decode cX6_readToken 8 = .ok (.invokestatic 68, 3) := by decide +kernel
theorem dX6_readToken_11 : decode cX6_readToken 11 = .ok (.ifCond .eq 9, 3) := by decide +kernel
theorem dX6_readToken_14 : decode cX6_readToken 14 = .ok (.aload_n 0, 1) := by decide +kernel
theorem dX6_readToken_15 : decode cX6_readToken 15 = .ok (.iload_n 1, 1) := by decide +kernel
theorem dX6_readToken_16 : decode cX6_readToken 16 = .ok (.invokevirtual 72, 3) := by decide +kernel
theorem dX6_readToken_19 : decode cX6_readToken 19 = .ok (.ireturn, 1) := by decide +kernel
theorem dX6_readToken_20 : decode cX6_readToken 20 = .ok (.iload_n 2, 1) := by decide +kernel
theorem dX6_readToken_21 : decode cX6_readToken 21 = .ok (.invokestatic 75, 3) := by decide +kernel
theorem dX6_readToken_24 : decode cX6_readToken 24 = .ok (.ifCond .eq 9, 3) := by decide +kernel
theorem dX6_readToken_27 : decode cX6_readToken 27 = .ok (.aload_n 0, 1) := by decide +kernel
theorem dX6_readToken_28 : decode cX6_readToken 28 = .ok (.iload_n 1, 1) := by decide +kernel
theorem dX6_readToken_29 : decode cX6_readToken 29 = .ok (.invokevirtual 78, 3) := by decide +kernel
theorem dX6_readToken_32 : decode cX6_readToken 32 = .ok (.ireturn, 1) := by decide +kernel
theorem dX6_readToken_33 : decode cX6_readToken 33 = .ok (.iload_n 2, 1) := by decide +kernel
theorem dX6_readToken_34 : decode cX6_readToken 34 = .ok (.bipush 32, 2) := by decide +kernel
theorem dX6_readToken_36 : decode cX6_readToken 36 = .ok (.if_icmp .eq 31, 3) := by decide +kernel
theorem dX6_readToken_39 : decode cX6_readToken 39 = .ok (.iload_n 2, 1) := by decide +kernel
theorem dX6_readToken_40 : decode cX6_readToken 40 = .ok (.bipush 10, 2) := by decide +kernel
theorem dX6_readToken_42 : decode cX6_readToken 42 = .ok (.if_icmp .eq 25, 3) := by decide +kernel
theorem dX6_readToken_45 : decode cX6_readToken 45 = .ok (.aload_n 0, 1) := by decide +kernel
theorem dX6_readToken_46 : decode cX6_readToken 46 = .ok (.ldc 81, 2) := by decide +kernel
theorem dX6_readToken_48 : decode cX6_readToken 48 = .ok (.iload_n 2, 1) := by decide +kernel
theorem dX6_readToken_49 : decode cX6_readToken 49 = .ok (.invokevirtual 83, 3) := by decide +kernel
theorem dX6_readToken_52 : decode cX6_readToken 52 = .ok (.ifCond .lt 7, 3) := by decide +kernel
theorem dX6_readToken_55 : decode cX6_readToken 55 = .ok (.iload_n 2, 1) := by decide +kernel
theorem dX6_readToken_56 : decode cX6_readToken 56 = .ok (.goto 6, 3) := by decide +kernel
theorem dX6_readToken_59 : decode cX6_readToken 59 = .ok (.sipush 203, 3) := by decide +kernel
theorem dX6_readToken_62 : decode cX6_readToken 62 = .ok (.iload_n 1, 1) := by decide +kernel
theorem dX6_readToken_63 : decode cX6_readToken 63 = .ok (.lconst 0, 1) := by decide +kernel
theorem dX6_readToken_64 : decode cX6_readToken 64 = .ok (.invokevirtual 58, 3) := by decide +kernel
theorem dX6_readToken_67 : decode cX6_readToken 67 = .ok (.iload_n 1, 1) := by decide +kernel
theorem dX6_readToken_68 : decode cX6_readToken 68 = .ok (.iconst 1, 1) := by decide +kernel
theorem dX6_readToken_69 : decode cX6_readToken 69 = .ok (.iadd, 1) := by decide +kernel
theorem dX6_readToken_70 : decode cX6_readToken 70 = .ok (.ireturn, 1) := by decide +kernel
theorem lk_ot_readToken_62 (F : Nat) (v1 : Int32) (s0 : Int32) (μ : g_St) : g_Go gC 4 yX6_readToken cX6_readToken 3 (some .int) 62 [none, some (.int v1), none] [.int s0, .ref 1] μ (Option.map o_yi (ot_readToken_62 F v1 s0 μ)) := by
  unfold ot_readToken_62
  refine g_iload_n dX6_readToken_62 rfl rfl ?_
  refine g_lconst dX6_readToken_63 rfl ?_
  refine w_Vyv [.int _, .int _, .long _] dX6_readToken_64 ml_X6_58 mv_X6_keep mc_X6_keep cf_X6 ly_Tape_lt ly_Tape rfl (Nat.le_of_ble_eq_true rfl) (Nat.le_of_ble_eq_true rfl) (Nat.le_of_ble_eq_true rfl) rfl (co_ot_keep _ _ _ _) (fun μ7 => ?_)
  refine g_iload_n dX6_readToken_67 rfl rfl ?_
  refine g_iconst dX6_readToken_68 ic_1 ?_
  refine g_iadd dX6_readToken_69 ?_
  exact w_iret dX6_readToken_70 rfl rfl
theorem lk_ot_readToken (F : Nat) (v1 : Int32) (μ : g_St) : g_Go gC 4 yX6_readToken cX6_readToken 3 (some .int) 0 [some (.ref 1), some (.int v1), none] [] μ (Option.map o_yi (ot_readToken F v1 μ)) := by
  unfold ot_readToken
  refine g_aload_n dX6_readToken_0 rfl rfl ?_
  refine g_getS dX6_readToken_1 cf_X6 fl_X6_15 ly_Tape_lt ly_Tape rfl (Nat.le_of_ble_eq_true rfl) ?_
  refine g_iload_n dX6_readToken_4 rfl rfl ?_
  refine w_cald dX6_readToken_5 ly_Tape_signs_lt ly_Tape_signs (fun x1 => ?_)
  refine g_istore_n (lo2 := [_, _, _]) dX6_readToken_6 rfl (Nat.le_of_ble_eq_true rfl) rfl rfl ?_
  refine g_iload_n dX6_readToken_7 rfl rfl ?_
  refine w_Sxi [.int _] dX6_readToken_8 ml_X6_68 ms_X6_isLetter mc_X6_isLetter rfl (Nat.le_of_ble_eq_true rfl) (Nat.le_of_ble_eq_true rfl) (Nat.le_of_ble_eq_true rfl) rfl (co_ot_isLetter _ _) (fun x2 => ?_)
  refine w_if_eq (tgt := 20) dX6_readToken_11 (by decide) ?_ ?_
  · refine g_iload_n dX6_readToken_20 rfl rfl ?_
    refine w_Sxi [.int _] dX6_readToken_21 ml_X6_75 ms_X6_isDigit mc_X6_isDigit rfl (Nat.le_of_ble_eq_true rfl) (Nat.le_of_ble_eq_true rfl) (Nat.le_of_ble_eq_true rfl) rfl (co_ot_isDigit _ _) (fun x4 => ?_)
    refine w_if_eq (tgt := 33) dX6_readToken_24 (by decide) ?_ ?_
    · refine g_iload_n dX6_readToken_33 rfl rfl ?_
      refine g_bipush dX6_readToken_34 bp_32 ?_
      refine w_icmp_eq (tgt := 67) dX6_readToken_36 (by decide) ?_ ?_
      · refine g_iload_n dX6_readToken_67 rfl rfl ?_
        refine g_iconst dX6_readToken_68 ic_1 ?_
        refine g_iadd dX6_readToken_69 ?_
        exact w_iret dX6_readToken_70 rfl rfl
      · refine g_iload_n dX6_readToken_39 rfl rfl ?_
        refine g_bipush dX6_readToken_40 bp_10 ?_
        refine w_icmp_eq (tgt := 67) dX6_readToken_42 (by decide) ?_ ?_
        · refine g_iload_n dX6_readToken_67 rfl rfl ?_
          refine g_iconst dX6_readToken_68 ic_1 ?_
          refine g_iadd dX6_readToken_69 ?_
          exact w_iret dX6_readToken_70 rfl rfl
        · refine g_aload_n dX6_readToken_45 rfl rfl ?_
          refine g_ldcS0 dX6_readToken_46 rfl ?_
          refine g_iload_n dX6_readToken_48 rfl rfl ?_
          refine w_Vsxi [.int _] (i := 0) (by decide) rfl dX6_readToken_49 mq_X6_83 mv_J0_indexOf_0f7a4 mc_J0_indexOf_0f7a4 rfl (Nat.le_of_ble_eq_true rfl) (Nat.le_of_ble_eq_true rfl) (Nat.le_of_ble_eq_true rfl) rfl (co_js_indexOf gC F 0 (by decide) _ _) (fun x6 => ?_)
          refine w_if_lt (tgt := 59) dX6_readToken_52 (by decide) ?_ ?_
          · refine g_iload_n dX6_readToken_55 rfl rfl ?_
            refine g_goto (tgt := 62) dX6_readToken_56 (by decide) ?_
            exact g_to (lk_ot_readToken_62 F _ _ _) (su_n (su_s (su_n su_0)))
          · refine g_sipush dX6_readToken_59 sp_203 ?_
            exact g_to (lk_ot_readToken_62 F _ _ _) (su_n (su_s (su_n su_0)))
    · refine g_aload_n dX6_readToken_27 rfl rfl ?_
      refine g_iload_n dX6_readToken_28 rfl rfl ?_
      refine w_Vyi [.int _] dX6_readToken_29 ml_X6_78 mv_X6_readNumber mc_X6_readNumber cf_X6 ly_Tape_lt ly_Tape rfl (Nat.le_of_ble_eq_true rfl) (Nat.le_of_ble_eq_true rfl) (Nat.le_of_ble_eq_true rfl) rfl (co_ot_readNumber F _ _) (fun q5 => ?_)
      exact w_iret dX6_readToken_32 rfl rfl
  · refine g_aload_n dX6_readToken_14 rfl rfl ?_
    refine g_iload_n dX6_readToken_15 rfl rfl ?_
    refine w_Vyi [.int _] dX6_readToken_16 ml_X6_72 mv_X6_readWord mc_X6_readWord cf_X6 ly_Tape_lt ly_Tape rfl (Nat.le_of_ble_eq_true rfl) (Nat.le_of_ble_eq_true rfl) (Nat.le_of_ble_eq_true rfl) rfl (co_ot_readWord F _ _) (fun q3 => ?_)
    exact w_iret dX6_readToken_19 rfl rfl
theorem co_ot_readToken (F : Nat) (v1 : Int32) (μ : g_St) : g_Con gC 4 yX6_readToken cX6_readToken 3 (some .int) [.ref 1, .int v1] μ (g_yi (ot_readToken F v1 μ)) := g_conOf mc_X6_readToken.2.2.2.2 (Nat.le_of_ble_eq_true rfl) rfl (g_yi_rk (Or.inl rfl)) (lk_ot_readToken F v1 μ)
theorem dX6_advance_0 : decode cX6_advance 0 = .ok (.aload_n 0, 1) := by decide +kernel
theorem dX6_advance_1 : decode cX6_advance 1 = .ok (.getfield 62, 3) := by decide +kernel
theorem dX6_advance_4 : decode cX6_advance 4 = .ok (.iconst 1, 1) := by decide +kernel
theorem dX6_advance_5 : decode cX6_advance 5 = .ok (.iadd, 1) := by decide +kernel
theorem dX6_advance_6 : decode cX6_advance 6 = .ok (.aload_n 0, 1) := by decide +kernel
theorem dX6_advance_7 : decode cX6_advance 7 = .ok (.getfield 48, 3) := by decide +kernel
theorem dX6_advance_10 : decode cX6_advance 10 = .ok (.if_icmp .ge 39, 3) := by decide +kernel
theorem dX6_advance_13 : decode cX6_advance 13 = .ok (.aload_n 0, 1) := by decide +kernel
theorem dX6_advance_14 : decode cX6_advance 14 = .ok (.dup, 1) := by decide +kernel
theorem dX6_advance_15 : decode cX6_advance 15 = .ok (.getfield 62, 3) := by decide +kernel
theorem dX6_advance_18 : decode cX6_advance 18 = .ok (.iconst 1, 1) := by decide +kernel
theorem dX6_advance_19 : decode cX6_advance 19 = .ok (.iadd, 1) := by decide +kernel
theorem dX6_advance_20 : decode cX6_advance 20 = .ok (.putfield 62, 3) := by decide +kernel
theorem dX6_advance_23 : decode cX6_advance 23 = .ok (.aload_n 0, 1) := by decide +kernel
theorem dX6_advance_24 : decode cX6_advance 24 = .ok (.aload_n 0, 1) := by decide +kernel
theorem dX6_advance_25 : decode cX6_advance 25 = .ok (.getfield 19, 3) := by decide +kernel
theorem dX6_advance_28 : decode cX6_advance 28 = .ok (.aload_n 0, 1) := by decide +kernel
theorem dX6_advance_29 : decode cX6_advance 29 = .ok (.getfield 62, 3) := by decide +kernel
theorem dX6_advance_32 : decode cX6_advance 32 = .ok (.iaload, 1) := by decide +kernel
theorem dX6_advance_33 : decode cX6_advance 33 = .ok (.putfield 92, 3) := by decide +kernel
theorem dX6_advance_36 : decode cX6_advance 36 = .ok (.aload_n 0, 1) := by decide +kernel
theorem dX6_advance_37 : decode cX6_advance 37 = .ok (.aload_n 0, 1) := by decide +kernel
theorem dX6_advance_38 : decode cX6_advance 38 = .ok (.getfield 26, 3) := by decide +kernel
theorem dX6_advance_41 : decode cX6_advance 41 = .ok (.aload_n 0, 1) := by decide +kernel
theorem dX6_advance_42 : decode cX6_advance 42 = .ok (.getfield 62, 3) := by decide +kernel
theorem dX6_advance_45 : decode cX6_advance 45 = .ok (.laload, 1) := by decide +kernel
theorem dX6_advance_46 : decode cX6_advance 46 = .ok (.putfield 95, 3) := by decide +kernel
theorem dX6_advance_49 : decode cX6_advance 49 = .ok (.return_, 1) := by decide +kernel
theorem lk_ot_advance (μ : g_St) : g_Go gC 0 yX6_advance cX6_advance 1 (none : Option Jvm.ClassFile.FieldType) 0 [some (.ref 1)] [] μ (Option.map o_yv (ot_advance μ)) := by
  unfold ot_advance
  refine g_aload_n dX6_advance_0 rfl rfl ?_
  refine g_getI dX6_advance_1 cf_X6 fl_X6_62 ly_Tape_lt ly_Tape rfl (Nat.le_of_ble_eq_true rfl) ?_
  refine g_iconst dX6_advance_4 ic_1 ?_
  refine g_iadd dX6_advance_5 ?_
  refine g_aload_n dX6_advance_6 rfl rfl ?_
  refine g_getI dX6_advance_7 cf_X6 fl_X6_48 ly_Tape_lt ly_Tape rfl (Nat.le_of_ble_eq_true rfl) ?_
  refine w_icmp_ge (tgt := 49) dX6_advance_10 (by decide) ?_ ?_
  · refine g_aload_n dX6_advance_13 rfl rfl ?_
    refine g_dupr dX6_advance_14 ?_
    refine g_getI dX6_advance_15 cf_X6 fl_X6_62 ly_Tape_lt ly_Tape rfl (Nat.le_of_ble_eq_true rfl) ?_
    refine g_iconst dX6_advance_18 ic_1 ?_
    refine g_iadd dX6_advance_19 ?_
    refine w_putI dX6_advance_20 cf_X6 fl_X6_62 ly_Tape_lt ly_Tape rfl (Nat.le_of_ble_eq_true rfl) rfl rfl rfl rfl (fun μ1 => ?_)
    refine g_aload_n dX6_advance_23 rfl rfl ?_
    refine g_aload_n dX6_advance_24 rfl rfl ?_
    refine g_getS dX6_advance_25 cf_X6 fl_X6_19 ly_Tape_lt ly_Tape rfl (Nat.le_of_ble_eq_true rfl) ?_
    refine g_aload_n dX6_advance_28 rfl rfl ?_
    refine g_getI dX6_advance_29 cf_X6 fl_X6_62 ly_Tape_lt ly_Tape rfl (Nat.le_of_ble_eq_true rfl) ?_
    refine w_iald dX6_advance_32 ly_Tape_kinds_lt ly_Tape_kinds (fun x2 => ?_)
    refine w_putI dX6_advance_33 cf_X6 fl_X6_92 ly_Tape_lt ly_Tape rfl (Nat.le_of_ble_eq_true rfl) rfl rfl rfl rfl (fun μ3 => ?_)
    refine g_aload_n dX6_advance_36 rfl rfl ?_
    refine g_aload_n dX6_advance_37 rfl rfl ?_
    refine g_getS dX6_advance_38 cf_X6 fl_X6_26 ly_Tape_lt ly_Tape rfl (Nat.le_of_ble_eq_true rfl) ?_
    refine g_aload_n dX6_advance_41 rfl rfl ?_
    refine g_getI dX6_advance_42 cf_X6 fl_X6_62 ly_Tape_lt ly_Tape rfl (Nat.le_of_ble_eq_true rfl) ?_
    refine w_lald dX6_advance_45 ly_Tape_values_lt ly_Tape_values (fun x4 => ?_)
    refine w_putL dX6_advance_46 cf_X6 fl_X6_95 ly_Tape_lt ly_Tape rfl (Nat.le_of_ble_eq_true rfl) rfl rfl (fun μ5 => ?_)
    exact w_vret dX6_advance_49 rfl rfl
  · exact w_vret dX6_advance_49 rfl rfl
theorem co_ot_advance (μ : g_St) : g_Con gC 0 yX6_advance cX6_advance 1 (none : Option Jvm.ClassFile.FieldType) [.ref 1] μ (g_yv (ot_advance μ)) := g_conOf mc_X6_advance.2.2.2.2 (Nat.le_of_ble_eq_true rfl) rfl g_yv_rk (lk_ot_advance μ)
theorem dX6_open_0 : decode cX6_open 0 = .ok (.aload_n 0, 1) := by decide +kernel
theorem dX6_open_1 : decode cX6_open 1 = .ok (.iconst 0, 1) := by decide +kernel
theorem dX6_open_2 : decode cX6_open 2 = .ok (.putfield 48, 3) := by decide +kernel
theorem dX6_open_5 : decode cX6_open 5 = .ok (.aload_n 0, 1) := by decide +kernel
theorem dX6_open_6 : decode cX6_open 6 = .ok (.iconst 0, 1) := by decide +kernel
theorem dX6_open_7 : decode cX6_open 7 = .ok (.putfield 51, 3) := by decide +kernel
theorem dX6_open_10 : decode cX6_open 10 = .ok (.iconst 0, 1) := by decide +kernel
theorem dX6_open_11 : decode cX6_open 11 = .ok (.istore_n 1, 1) := by decide +kernel
theorem dX6_open_12 : decode cX6_open 12 = .ok (.iconst 0, 1) := by decide +kernel
theorem dX6_open_13 : decode cX6_open 13 = .ok (.istore_n 2, 1) := by decide +kernel
theorem dX6_open_14 : decode cX6_open 14 = .ok (.iload_n 2, 1) := by decide +kernel
theorem dX6_open_15 : decode cX6_open 15 = .ok (.sipush 1000, 3) := by decide +kernel
theorem dX6_open_18 : decode cX6_open 18 = .ok (.if_icmp .ge 23, 3) := by decide +kernel
theorem dX6_open_21 : decode cX6_open 21 = .ok (.iload_n 1, 1) := by decide +kernel
theorem dX6_open_22 : decode cX6_open 22 = .ok (.aload_n 0, 1) := by decide +kernel
theorem dX6_open_23 : decode cX6_open 23 = .ok (.getfield 45, 3) := by decide +kernel
theorem dX6_open_26 : decode cX6_open 26 = .ok (.if_icmp .ge 15, 3) := by decide +kernel
theorem dX6_open_29 : decode cX6_open 29 = .ok (.aload_n 0, 1) := by decide +kernel
theorem dX6_open_30 : decode cX6_open 30 = .ok (.iload_n 1, 1) := by decide +kernel
theorem dX6_open_31 : decode cX6_open 31 = .ok (.invokevirtual 54, 3) := by decide +kernel
theorem dX6_open_34 : decode cX6_open 34 = .ok (.istore_n 1, 1) := by decide +kernel
theorem dX6_open_35 : decode cX6_open 35 = .ok (.iinc 2 1, 3) := by decide +kernel
theorem dX6_open_38 : decode cX6_open 38 = .ok (.goto (-24), 3) := by decide +kernel
theorem dX6_open_41 : decode cX6_open 41 = .ok (.aload_n 0, 1) := by decide +kernel
theorem dX6_open_42 : decode cX6_open 42 = .ok (.sipush 202, 3) := by decide +kernel
theorem dX6_open_45 : decode cX6_open 45 = .ok (.aload_n 0, 1) := by decide +kernel
theorem dX6_open_46 : decode cX6_open 46 = .ok (.getfield 45, 3) := by decide +kernel
theorem dX6_open_49 : decode cX6_open 49 = .ok (.lconst 0, 1) := by decide +kernel
theorem dX6_open_50 : decode cX6_open 50 = .ok (.invokevirtual 58, 3) := by decide +kernel
theorem dX6_open_53 : decode cX6_open 53 = .ok (.aload_n 0, 1) := by decide +kernel
theorem dX6_open_54 : decode cX6_open 54 = .ok (.iconst (-1), 1) := by decide +kernel
theorem dX6_open_55 : decode cX6_open 55 = .ok (.putfield 62, 3) := by decide +kernel
theorem dX6_open_58 : decode cX6_open 58 = .ok (.aload_n 0, 1) := by decide +kernel
theorem dX6_open_59 : decode cX6_open 59 = .ok (.invokevirtual 65, 3) := by decide +kernel
theorem dX6_open_62 : decode cX6_open 62 = .ok (.return_, 1) := by decide +kernel
theorem lk_ot_open_41 (F : Nat) (μ : g_St) : g_Go gC 5 yX6_open cX6_open 3 (none : Option Jvm.ClassFile.FieldType) 41 [some (.ref 1), none, none] [] μ (Option.map o_yv (ot_open_41 F μ)) := by
  unfold ot_open_41
  refine g_aload_n dX6_open_41 rfl rfl ?_
  refine g_sipush dX6_open_42 sp_202 ?_
  refine g_aload_n dX6_open_45 rfl rfl ?_
  refine g_getI dX6_open_46 cf_X6 fl_X6_45 ly_Tape_lt ly_Tape rfl (Nat.le_of_ble_eq_true rfl) ?_
  refine g_lconst dX6_open_49 rfl ?_
  refine w_Vyv [.int _, .int _, .long _] dX6_open_50 ml_X6_58 mv_X6_keep mc_X6_keep cf_X6 ly_Tape_lt ly_Tape rfl (Nat.le_of_ble_eq_true rfl) (Nat.le_of_ble_eq_true rfl) (Nat.le_of_ble_eq_true rfl) rfl (co_ot_keep _ _ _ _) (fun μ4 => ?_)
  refine g_aload_n dX6_open_53 rfl rfl ?_
  refine g_iconst dX6_open_54 ic_m1 ?_
  refine w_putI dX6_open_55 cf_X6 fl_X6_62 ly_Tape_lt ly_Tape rfl (Nat.le_of_ble_eq_true rfl) rfl rfl rfl rfl (fun μ5 => ?_)
  refine g_aload_n dX6_open_58 rfl rfl ?_
  refine w_Vyv [] dX6_open_59 ml_X6_65 mv_X6_advance mc_X6_advance cf_X6 ly_Tape_lt ly_Tape rfl (Nat.le_of_ble_eq_true rfl) (Nat.le_of_ble_eq_true rfl) (Nat.le_of_ble_eq_true rfl) rfl (co_ot_advance _) (fun μ6 => ?_)
  exact w_vret dX6_open_62 rfl rfl
theorem lk_ot_open_14_b (F : Nat) (K_14 : Int32 → Int32 → g_St → Option g_St) (hK_14 : ∀ (w1 : Int32) (w2 : Int32) (ν : g_St), g_Go gC 5 yX6_open cX6_open 3 (none : Option Jvm.ClassFile.FieldType) 14 [some (.ref 1), some (.int w1), some (.int w2)] [] ν (Option.map o_yv (K_14 w1 w2 ν))) (v1 : Int32) (v2 : Int32) (μ : g_St) : g_Go gC 5 yX6_open cX6_open 3 (none : Option Jvm.ClassFile.FieldType) 14 [some (.ref 1), some (.int v1), some (.int v2)] [] μ (Option.map o_yv (ot_open_14_b F K_14 v1 v2 μ)) := by
  unfold ot_open_14_b
  refine g_iload_n dX6_open_14 rfl rfl ?_
  refine g_sipush dX6_open_15 sp_1000 ?_
  refine w_icmp_ge (tgt := 41) dX6_open_18 (by decide) ?_ ?_
  · refine g_iload_n dX6_open_21 rfl rfl ?_
    refine g_aload_n dX6_open_22 rfl rfl ?_
    refine g_getI dX6_open_23 cf_X6 fl_X6_45 ly_Tape_lt ly_Tape rfl (Nat.le_of_ble_eq_true rfl) ?_
    refine w_icmp_ge (tgt := 41) dX6_open_26 (by decide) ?_ ?_
    · refine g_aload_n dX6_open_29 rfl rfl ?_
      refine g_iload_n dX6_open_30 rfl rfl ?_
      refine w_Vyi [.int _] dX6_open_31 ml_X6_54 mv_X6_readToken mc_X6_readToken cf_X6 ly_Tape_lt ly_Tape rfl (Nat.le_of_ble_eq_true rfl) (Nat.le_of_ble_eq_true rfl) (Nat.le_of_ble_eq_true rfl) rfl (co_ot_readToken F _ _) (fun q3 => ?_)
      refine g_istore_n (lo2 := [_, _, _]) dX6_open_34 rfl (Nat.le_of_ble_eq_true rfl) rfl rfl ?_
      refine g_iinc (lo2 := [_, _, _]) dX6_open_35 rfl rfl (Nat.le_of_ble_eq_true rfl) rfl rfl ?_
      refine g_goto (tgt := 14) dX6_open_38 (by decide) ?_
      exact g_to (hK_14 _ _ _) (su_s (su_s (su_s su_0)))
    · exact g_to (lk_ot_open_41 F _) (su_s (su_n (su_n su_0)))
  · exact g_to (lk_ot_open_41 F _) (su_s (su_n (su_n su_0)))
theorem lk_ot_open_14 (F : Nat) : ∀ (f : Nat) (v1 : Int32) (v2 : Int32) (μ : g_St) , g_Go gC 5 yX6_open cX6_open 3 (none : Option Jvm.ClassFile.FieldType) 14 [some (.ref 1), some (.int v1), some (.int v2)] [] μ (Option.map o_yv (ot_open_14 F f v1 v2 μ))
  | 0, v1, v2, μ => g_none
  | f + 1, v1, v2, μ => lk_ot_open_14_b F (ot_open_14 F f) (lk_ot_open_14 F f) v1 v2 μ
theorem lk_ot_open (F : Nat) (μ : g_St) : g_Go gC 5 yX6_open cX6_open 3 (none : Option Jvm.ClassFile.FieldType) 0 [some (.ref 1), none, none] [] μ (Option.map o_yv (ot_open F μ)) := by
  unfold ot_open
  refine g_aload_n dX6_open_0 rfl rfl ?_
  refine g_iconst dX6_open_1 ic_0 ?_
  refine w_putI dX6_open_2 cf_X6 fl_X6_48 ly_Tape_lt ly_Tape rfl (Nat.le_of_ble_eq_true rfl) rfl rfl rfl rfl (fun μ1 => ?_)
  refine g_aload_n dX6_open_5 rfl rfl ?_
  refine g_iconst dX6_open_6 ic_0 ?_
  refine w_putI dX6_open_7 cf_X6 fl_X6_51 ly_Tape_lt ly_Tape rfl (Nat.le_of_ble_eq_true rfl) rfl rfl rfl rfl (fun μ2 => ?_)
  refine g_iconst dX6_open_10 ic_0 ?_
  refine g_istore_n (lo2 := [_, _, _]) dX6_open_11 rfl (Nat.le_of_ble_eq_true rfl) rfl rfl ?_
  refine g_iconst dX6_open_12 ic_0 ?_
  refine g_istore_n (lo2 := [_, _, _]) dX6_open_13 rfl (Nat.le_of_ble_eq_true rfl) rfl rfl ?_
  exact g_to (lk_ot_open_14 F _ _ _ _) (su_s (su_s (su_s su_0)))
theorem co_ot_open (F : Nat) (μ : g_St) : g_Con gC 5 yX6_open cX6_open 3 (none : Option Jvm.ClassFile.FieldType) [.ref 1] μ (g_yv (ot_open F μ)) := g_conOf mc_X6_open.2.2.2.2 (Nat.le_of_ble_eq_true rfl) rfl g_yv_rk (lk_ot_open F μ)
theorem dX6_close_0 : decode cX6_close 0 = .ok (.aload_n 0, 1) := by decide +kernel
theorem dX6_close_1 : decode cX6_close 1 = .ok (.iconst 0, 1) := by decide +kernel
theorem dX6_close_2 : decode cX6_close 2 = .ok (.putfield 45, 3) := by decide +kernel
theorem dX6_close_5 : decode cX6_close 5 = .ok (.aload_n 0, 1) := by decide +kernel
theorem dX6_close_6 : decode cX6_close 6 = .ok (.getfield 51, 3) := by decide +kernel
theorem dX6_close_9 : decode cX6_close 9 = .ok (.ireturn, 1) := by decide +kernel
theorem lk_ot_close (μ : g_St) : g_Go gC 0 yX6_close cX6_close 1 (some .int) 0 [some (.ref 1)] [] μ (Option.map o_yi (ot_close μ)) := by
  unfold ot_close
  refine g_aload_n dX6_close_0 rfl rfl ?_
  refine g_iconst dX6_close_1 ic_0 ?_
  refine w_putI dX6_close_2 cf_X6 fl_X6_45 ly_Tape_lt ly_Tape rfl (Nat.le_of_ble_eq_true rfl) rfl rfl rfl rfl (fun μ1 => ?_)
  refine g_aload_n dX6_close_5 rfl rfl ?_
  refine g_getI dX6_close_6 cf_X6 fl_X6_51 ly_Tape_lt ly_Tape rfl (Nat.le_of_ble_eq_true rfl) ?_
  exact w_iret dX6_close_9 rfl rfl
theorem co_ot_close (μ : g_St) : g_Con gC 0 yX6_close cX6_close 1 (some .int) [.ref 1] μ (g_yi (ot_close μ)) := g_conOf mc_X6_close.2.2.2.2 (Nat.le_of_ble_eq_true rfl) rfl (g_yi_rk (Or.inl rfl)) (lk_ot_close μ)
theorem dX6_isName_0 : decode cX6_isName 0 = .ok (.aload_n 0, 1) := by decide +kernel
theorem dX6_isName_1 : decode cX6_isName 1 = .ok (.getfield 92, 3) := by decide +kernel
theorem dX6_isName_4 : decode cX6_isName 4 = .ok (.sipush 200, 3) := by decide +kernel
theorem dX6_isName_7 : decode cX6_isName 7 = .ok (.if_icmp .eq 21, 3) := by decide +kernel
theorem dX6_isName_10 : decode cX6_isName 10 = .ok (.aload_n 0, 1) := by decide +kernel
theorem dX6_isName_11 : decode cX6_isName 11 = .ok (.getfield 92, 3) := by decide +kernel
theorem dX6_isName_14 : decode cX6_isName 14 = .ok (.bipush 8, 2) := by decide +kernel
theorem dX6_isName_16 : decode cX6_isName 16 = .ok (.if_icmp .le 16, 3) := by decide +kernel
theorem dX6_isName_19 : decode cX6_isName 19 = .ok (.aload_n 0, 1) := by decide +kernel
theorem dX6_isName_20 : decode cX6_isName 20 = .ok (.getfield 92, 3) := by decide +kernel
theorem dX6_isName_23 : decode cX6_isName 23 = .ok (.bipush 20, 2) := by decide +kernel
theorem dX6_isName_25 : decode cX6_isName 25 = .ok (.if_icmp .ge 7, 3) := by decide +kernel
theorem dX6_isName_28 : decode cX6_isName 28 = .ok (.iconst 1, 1) := by decide +kernel
theorem dX6_isName_29 : decode cX6_isName 29 = .ok (.goto 4, 3) := by decide +kernel
theorem dX6_isName_32 : decode cX6_isName 32 = .ok (.iconst 0, 1) := by decide +kernel
theorem dX6_isName_33 : decode cX6_isName 33 = .ok (.ireturn, 1) := by decide +kernel
theorem lk_ot_isName (μ : g_St) : g_Go gC 0 yX6_isName cX6_isName 1 (some .boolean) 0 [some (.ref 1)] [] μ (Option.map (o_i μ) (ot_isName μ)) := by
  unfold ot_isName
  refine g_aload_n dX6_isName_0 rfl rfl ?_
  refine g_getI dX6_isName_1 cf_X6 fl_X6_92 ly_Tape_lt ly_Tape rfl (Nat.le_of_ble_eq_true rfl) ?_
  refine g_sipush dX6_isName_4 sp_200 ?_
  refine w_icmp_eq (tgt := 28) dX6_isName_7 (by decide) ?_ ?_
  · refine g_iconst dX6_isName_28 ic_1 ?_
    refine g_goto (tgt := 33) dX6_isName_29 (by decide) ?_
    exact w_iret dX6_isName_33 (by decide) rfl
  · refine g_aload_n dX6_isName_10 rfl rfl ?_
    refine g_getI dX6_isName_11 cf_X6 fl_X6_92 ly_Tape_lt ly_Tape rfl (Nat.le_of_ble_eq_true rfl) ?_
    refine g_bipush dX6_isName_14 bp_8 ?_
    refine w_icmp_le (tgt := 32) dX6_isName_16 (by decide) ?_ ?_
    · refine g_aload_n dX6_isName_19 rfl rfl ?_
      refine g_getI dX6_isName_20 cf_X6 fl_X6_92 ly_Tape_lt ly_Tape rfl (Nat.le_of_ble_eq_true rfl) ?_
      refine g_bipush dX6_isName_23 bp_20 ?_
      refine w_icmp_ge (tgt := 32) dX6_isName_25 (by decide) ?_ ?_
      · refine g_iconst dX6_isName_28 ic_1 ?_
        refine g_goto (tgt := 33) dX6_isName_29 (by decide) ?_
        exact w_iret dX6_isName_33 (by decide) rfl
      · refine g_iconst dX6_isName_32 ic_0 ?_
        exact w_iret dX6_isName_33 (by decide) rfl
    · refine g_iconst dX6_isName_32 ic_0 ?_
      exact w_iret dX6_isName_33 (by decide) rfl
theorem co_ot_isName (μ : g_St) : g_Con gC 0 yX6_isName cX6_isName 1 (some .boolean) [.ref 1] μ (g_xi μ (ot_isName μ)) := g_conOf mc_X6_isName.2.2.2.2 (Nat.le_of_ble_eq_true rfl) rfl (g_xi_rk (Or.inr (Or.inl rfl))) (lk_ot_isName μ)
theorem dX6_wrong_0 : decode cX6_wrong 0 = .ok (.aload_n 0, 1) := by decide +kernel
theorem dX6_wrong_1 : decode cX6_wrong 1 = .ok (.iload_n 1, 1) := by decide +kernel
theorem dX6_wrong_2 : decode cX6_wrong 2 = .ok (.bipush 16, 2) := by decide +kernel
theorem dX6_wrong_4 : decode cX6_wrong 4 = .ok (.aload_n 0, 1) := by decide +kernel
theorem dX6_wrong_5 : decode cX6_wrong 5 = .ok (.getfield 23, 3) := by decide +kernel
theorem dX6_wrong_8 : decode cX6_wrong 8 = .ok (.aload_n 0, 1) := by decide +kernel
theorem dX6_wrong_9 : decode cX6_wrong 9 = .ok (.getfield 62, 3) := by decide +kernel
theorem dX6_wrong_12 : decode cX6_wrong 12 = .ok (.iaload, 1) := by decide +kernel
theorem dX6_wrong_13 : decode cX6_wrong 13 = .ok (.imul, 1) := by decide +kernel
theorem dX6_wrong_14 : decode cX6_wrong 14 = .ok (.iadd, 1) := by decide +kernel
theorem dX6_wrong_15 : decode cX6_wrong 15 = .ok (.putfield 51, 3) := by decide +kernel
theorem dX6_wrong_18 : decode cX6_wrong 18 = .ok (.iconst 0, 1) := by decide +kernel
theorem dX6_wrong_19 : decode cX6_wrong 19 = .ok (.ireturn, 1) := by decide +kernel
theorem lk_ot_wrong (v1 : Int32) (μ : g_St) : g_Go gC 0 yX6_wrong cX6_wrong 2 (some .boolean) 0 [some (.ref 1), some (.int v1)] [] μ (Option.map o_yi (ot_wrong v1 μ)) := by
  unfold ot_wrong
  refine g_aload_n dX6_wrong_0 rfl rfl ?_
  refine g_iload_n dX6_wrong_1 rfl rfl ?_
  refine g_bipush dX6_wrong_2 bp_16 ?_
  refine g_aload_n dX6_wrong_4 rfl rfl ?_
  refine g_getS dX6_wrong_5 cf_X6 fl_X6_23 ly_Tape_lt ly_Tape rfl (Nat.le_of_ble_eq_true rfl) ?_
  refine g_aload_n dX6_wrong_8 rfl rfl ?_
  refine g_getI dX6_wrong_9 cf_X6 fl_X6_62 ly_Tape_lt ly_Tape rfl (Nat.le_of_ble_eq_true rfl) ?_
  refine w_iald dX6_wrong_12 ly_Tape_starts_lt ly_Tape_starts (fun x1 => ?_)
  refine g_imul dX6_wrong_13 ?_
  refine g_iadd dX6_wrong_14 ?_
  refine w_putI dX6_wrong_15 cf_X6 fl_X6_51 ly_Tape_lt ly_Tape rfl (Nat.le_of_ble_eq_true rfl) rfl rfl rfl rfl (fun μ2 => ?_)
  refine g_iconst dX6_wrong_18 ic_0 ?_
  exact w_iret dX6_wrong_19 (by decide) rfl
theorem co_ot_wrong (v1 : Int32) (μ : g_St) : g_Con gC 0 yX6_wrong cX6_wrong 2 (some .boolean) [.ref 1, .int v1] μ (g_yi (ot_wrong v1 μ)) := g_conOf mc_X6_wrong.2.2.2.2 (Nat.le_of_ble_eq_true rfl) rfl (g_yi_rk (Or.inr (Or.inl rfl))) (lk_ot_wrong v1 μ)
theorem dX6_take_0 : decode cX6_take 0 = .ok (.aload_n 0, 1) := by decide +kernel
theorem dX6_take_1 : decode cX6_take 1 = .ok (.getfield 92, 3) := by decide +kernel
theorem dX6_take_4 : decode cX6_take 4 = .ok (.iload_n 1, 1) := by decide +kernel
theorem dX6_take_5 : decode cX6_take 5 = .ok (.if_icmp .eq 9, 3) := by decide +kernel
theorem dX6_take_8 : decode cX6_take 8 = .ok (.aload_n 0, 1) := by decide +kernel
theorem dX6_take_9 : decode cX6_take 9 = .ok (.iconst 1, 1) := by decide +kernel
theorem dX6_take_10 : decode cX6_take 10 = .ok (.invokevirtual 99, 3) := by decide +kernel
theorem dX6_take_13 : decode cX6_take 13 = .ok (.ireturn, 1) := by decide +kernel
theorem dX6_take_14 : decode cX6_take 14 = .ok (.aload_n 0, 1) := by decide +kernel
theorem dX6_take_15 : decode cX6_take 15 = .ok (.invokevirtual 65, 3) := by decide +kernel
theorem dX6_take_18 : decode cX6_take 18 = .ok (.iconst 1, 1) := by decide +kernel
theorem dX6_take_19 : decode cX6_take 19 = .ok (.ireturn, 1) := by decide +kernel
theorem lk_ot_take (v1 : Int32) (μ : g_St) : g_Go gC 1 yX6_take cX6_take 2 (some .boolean) 0 [some (.ref 1), some (.int v1)] [] μ (Option.map o_yi (ot_take v1 μ)) := by
  unfold ot_take
  refine g_aload_n dX6_take_0 rfl rfl ?_
  refine g_getI dX6_take_1 cf_X6 fl_X6_92 ly_Tape_lt ly_Tape rfl (Nat.le_of_ble_eq_true rfl) ?_
  refine g_iload_n dX6_take_4 rfl rfl ?_
  refine w_icmp_eq (tgt := 14) dX6_take_5 (by decide) ?_ ?_
  · refine g_aload_n dX6_take_14 rfl rfl ?_
    refine w_Vyv [] dX6_take_15 ml_X6_65 mv_X6_advance mc_X6_advance cf_X6 ly_Tape_lt ly_Tape rfl (Nat.le_of_ble_eq_true rfl) (Nat.le_of_ble_eq_true rfl) (Nat.le_of_ble_eq_true rfl) rfl (co_ot_advance _) (fun μ2 => ?_)
    refine g_iconst dX6_take_18 ic_1 ?_
    exact w_iret dX6_take_19 (by decide) rfl
  · refine g_aload_n dX6_take_8 rfl rfl ?_
    refine g_iconst dX6_take_9 ic_1 ?_
    refine w_Vyi [.int _] dX6_take_10 ml_X6_99 mv_X6_wrong mc_X6_wrong cf_X6 ly_Tape_lt ly_Tape rfl (Nat.le_of_ble_eq_true rfl) (Nat.le_of_ble_eq_true rfl) (Nat.le_of_ble_eq_true rfl) rfl (co_ot_wrong _ _) (fun q1 => ?_)
    exact w_zret dX6_take_13 rfl rfl
theorem co_ot_take (v1 : Int32) (μ : g_St) : g_Con gC 1 yX6_take cX6_take 2 (some .boolean) [.ref 1, .int v1] μ (g_yi (ot_take v1 μ)) := g_conOf mc_X6_take.2.2.2.2 (Nat.le_of_ble_eq_true rfl) rfl (g_yi_rk (Or.inr (Or.inl rfl))) (lk_ot_take v1 μ)
theorem dX6_takeNumber_0 : decode cX6_takeNumber 0 = .ok (.aload_n 0, 1) := by decide +kernel
theorem dX6_takeNumber_1 : decode cX6_takeNumber 1 = .ok (.getfield 92, 3) := by decide +kernel
theorem dX6_takeNumber_4 : decode cX6_takeNumber 4 = .ok (.sipush 201, 3) := by decide +kernel
theorem dX6_takeNumber_7 : decode cX6_takeNumber 7 = .ok (.if_icmp .ne 23, 3) := by decide +kernel
theorem dX6_takeNumber_10 : decode cX6_takeNumber 10 = .ok (.aload_n 0, 1) := by decide +kernel
theorem dX6_takeNumber_11 : decode cX6_takeNumber 11 = .ok (.getfield 95, 3) := by decide +kernel
theorem dX6_takeNumber_14 : decode cX6_takeNumber 14 = .ok (.iload_n 1, 1) := by decide +kernel
theorem dX6_takeNumber_15 : decode cX6_takeNumber 15 = .ok (.i2l, 1) := by decide +kernel
theorem dX6_takeNumber_16 : decode cX6_takeNumber 16 = .ok (.lcmp, 1) := by decide +kernel
theorem dX6_takeNumber_17 : decode cX6_takeNumber 17 = .ok (.ifCond .lt 13, 3) := by decide +kernel
theorem dX6_takeNumber_20 : decode cX6_takeNumber 20 = .ok (.aload_n 0, 1) := by decide +kernel
theorem dX6_takeNumber_21 : decode cX6_takeNumber 21 = .ok (.getfield 95, 3) := by decide +kernel
theorem dX6_takeNumber_24 : decode cX6_takeNumber 24 = .ok (.iload_n 2, 1) := by decide +kernel
theorem dX6_takeNumber_25 : decode cX6_takeNumber 25 = .ok (.i2l, 1) := by decide +kernel
theorem dX6_takeNumber_26 : decode cX6_takeNumber 26 = .ok (.lcmp, 1) := by decide +kernel
theorem dX6_takeNumber_27 : decode cX6_takeNumber 27 = .ok (.ifCond .le 25, 3) := by decide +kernel
theorem dX6_takeNumber_30 : decode cX6_takeNumber 30 = .ok (.aload_n 0, 1) := by decide +kernel
theorem dX6_takeNumber_31 : decode cX6_takeNumber 31 = .ok (.aload_n 0, 1) := by decide +kernel
theorem dX6_takeNumber_32 : decode cX6_takeNumber 32 = .ok (.getfield 92, 3) := by decide +kernel
theorem dX6_takeNumber_35 : decode cX6_takeNumber 35 = .ok (.sipush 201, 3) := by decide +kernel
theorem dX6_takeNumber_38 : decode cX6_takeNumber 38 = .ok (.if_icmp .ne 7, 3) := by decide +kernel
theorem dX6_takeNumber_41 : decode cX6_takeNumber 41 = .ok (.iconst 4, 1) := by decide +kernel
theorem dX6_takeNumber_42 : decode cX6_takeNumber 42 = .ok (.goto 4, 3) := by decide +kernel
theorem dX6_takeNumber_45 : decode cX6_takeNumber 45 = .ok (.iconst 1, 1) := by decide +kernel
theorem dX6_takeNumber_46 : decode cX6_takeNumber 46 = .ok (.invokevirtual 99, 3) := by decide +kernel
theorem dX6_takeNumber_49 : decode cX6_takeNumber 49 = .ok (.pop, 1) := by decide +kernel
theorem dX6_takeNumber_50 : decode cX6_takeNumber 50 = .ok (.iconst (-1), 1) := by decide +kernel
theorem dX6_takeNumber_51 : decode cX6_takeNumber 51 = .ok (.ireturn, 1) := by decide +kernel
theorem dX6_takeNumber_52 : decode cX6_takeNumber 52 = .ok (.aload_n 0, 1) := by decide +kernel
theorem dX6_takeNumber_53 : decode cX6_takeNumber 53 = .ok (.getfield 95, 3) := by decide +kernel
theorem dX6_takeNumber_56 : decode cX6_takeNumber 56 = .ok (.l2i, 1) := by decide +kernel
theorem dX6_takeNumber_57 : decode cX6_takeNumber 57 = .ok (.istore_n 3, 1) := by decide +kernel
theorem dX6_takeNumber_58 : decode cX6_takeNumber 58 = .ok (.aload_n 0, 1) := by decide +kernel
theorem dX6_takeNumber_59 : decode cX6_takeNumber 59 = .ok (.invokevirtual 65, 3) := by decide +kernel
theorem dX6_takeNumber_62 : decode cX6_takeNumber 62 = .ok (.iload_n 3, 1) := by decide +kernel
theorem dX6_takeNumber_63 : decode cX6_takeNumber 63 = .ok (.ireturn, 1) := by decide +kernel
theorem lk_ot_takeNumber_46 (s0 : Int32) (μ : g_St) : g_Go gC 1 yX6_takeNumber cX6_takeNumber 4 (some .int) 46 [none, none, none, none] [.int s0, .ref 1] μ (Option.map o_yi (ot_takeNumber_46 s0 μ)) := by
  unfold ot_takeNumber_46
  refine w_Vyi [.int _] dX6_takeNumber_46 ml_X6_99 mv_X6_wrong mc_X6_wrong cf_X6 ly_Tape_lt ly_Tape rfl (Nat.le_of_ble_eq_true rfl) (Nat.le_of_ble_eq_true rfl) (Nat.le_of_ble_eq_true rfl) rfl (co_ot_wrong _ _) (fun q1 => ?_)
  refine g_popi dX6_takeNumber_49 ?_
  refine g_iconst dX6_takeNumber_50 ic_m1 ?_
  exact w_iret dX6_takeNumber_51 rfl rfl
theorem lk_ot_takeNumber_30 (μ : g_St) : g_Go gC 1 yX6_takeNumber cX6_takeNumber 4 (some .int) 30 [some (.ref 1), none, none, none] [] μ (Option.map o_yi (ot_takeNumber_30 μ)) := by
  unfold ot_takeNumber_30
  refine g_aload_n dX6_takeNumber_30 rfl rfl ?_
  refine g_aload_n dX6_takeNumber_31 rfl rfl ?_
  refine g_getI dX6_takeNumber_32 cf_X6 fl_X6_92 ly_Tape_lt ly_Tape rfl (Nat.le_of_ble_eq_true rfl) ?_
  refine g_sipush dX6_takeNumber_35 sp_201 ?_
  refine w_icmp_ne (tgt := 45) dX6_takeNumber_38 (by decide) ?_ ?_
  · refine g_iconst dX6_takeNumber_41 ic_4 ?_
    refine g_goto (tgt := 46) dX6_takeNumber_42 (by decide) ?_
    exact g_to (lk_ot_takeNumber_46 _ _) (su_n (su_n (su_n (su_n su_0))))
  · refine g_iconst dX6_takeNumber_45 ic_1 ?_
    exact g_to (lk_ot_takeNumber_46 _ _) (su_n (su_n (su_n (su_n su_0))))
theorem lk_ot_takeNumber (v1 : Int32) (v2 : Int32) (μ : g_St) : g_Go gC 1 yX6_takeNumber cX6_takeNumber 4 (some .int) 0 [some (.ref 1), some (.int v1), some (.int v2), none] [] μ (Option.map o_yi (ot_takeNumber v1 v2 μ)) := by
  unfold ot_takeNumber
  refine g_aload_n dX6_takeNumber_0 rfl rfl ?_
  refine g_getI dX6_takeNumber_1 cf_X6 fl_X6_92 ly_Tape_lt ly_Tape rfl (Nat.le_of_ble_eq_true rfl) ?_
  refine g_sipush dX6_takeNumber_4 sp_201 ?_
  refine w_icmp_ne (tgt := 30) dX6_takeNumber_7 (by decide) ?_ ?_
  · refine g_aload_n dX6_takeNumber_10 rfl rfl ?_
    refine g_getL dX6_takeNumber_11 cf_X6 fl_X6_95 ly_Tape_lt ly_Tape rfl (Nat.le_of_ble_eq_true rfl) ?_
    refine g_iload_n dX6_takeNumber_14 rfl rfl ?_
    refine g_i2l dX6_takeNumber_15 ?_
    refine g_lcmp dX6_takeNumber_16 ?_
    refine w_if_lt (tgt := 30) dX6_takeNumber_17 (by decide) ?_ ?_
    · refine g_aload_n dX6_takeNumber_20 rfl rfl ?_
      refine g_getL dX6_takeNumber_21 cf_X6 fl_X6_95 ly_Tape_lt ly_Tape rfl (Nat.le_of_ble_eq_true rfl) ?_
      refine g_iload_n dX6_takeNumber_24 rfl rfl ?_
      refine g_i2l dX6_takeNumber_25 ?_
      refine g_lcmp dX6_takeNumber_26 ?_
      refine w_if_le (tgt := 52) dX6_takeNumber_27 (by decide) ?_ ?_
      · exact g_to (lk_ot_takeNumber_30 _) (su_s (su_n (su_n (su_n su_0))))
      · refine g_aload_n dX6_takeNumber_52 rfl rfl ?_
        refine g_getL dX6_takeNumber_53 cf_X6 fl_X6_95 ly_Tape_lt ly_Tape rfl (Nat.le_of_ble_eq_true rfl) ?_
        refine g_l2i dX6_takeNumber_56 ?_
        refine g_istore_n (lo2 := [_, _, _, _]) dX6_takeNumber_57 rfl (Nat.le_of_ble_eq_true rfl) rfl rfl ?_
        refine g_aload_n dX6_takeNumber_58 rfl rfl ?_
        refine w_Vyv [] dX6_takeNumber_59 ml_X6_65 mv_X6_advance mc_X6_advance cf_X6 ly_Tape_lt ly_Tape rfl (Nat.le_of_ble_eq_true rfl) (Nat.le_of_ble_eq_true rfl) (Nat.le_of_ble_eq_true rfl) rfl (co_ot_advance _) (fun μ2 => ?_)
        refine g_iload_n dX6_takeNumber_62 rfl rfl ?_
        exact w_iret dX6_takeNumber_63 rfl rfl
    · exact g_to (lk_ot_takeNumber_30 _) (su_s (su_n (su_n (su_n su_0))))
  · exact g_to (lk_ot_takeNumber_30 _) (su_s (su_n (su_n (su_n su_0))))
theorem co_ot_takeNumber (v1 : Int32) (v2 : Int32) (μ : g_St) : g_Con gC 1 yX6_takeNumber cX6_takeNumber 4 (some .int) [.ref 1, .int v1, .int v2] μ (g_yi (ot_takeNumber v1 v2 μ)) := g_conOf mc_X6_takeNumber.2.2.2.2 (Nat.le_of_ble_eq_true rfl) rfl (g_yi_rk (Or.inl rfl)) (lk_ot_takeNumber v1 v2 μ)
