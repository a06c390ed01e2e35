/-! Tape's constructor: its rows, then the 20 words out of the text -/
theorem dX6_init_0 : decode cX6_init 0 = .ok (.aload_n 0, 1) := by decide +kernel
theorem dX6_init_1 : decode cX6_init 1 = .ok (.invokespecial 3, 3) := by decide +kernel
theorem dX6_init_4 : decode cX6_init 4 = .ok (.aload_n 0, 1) := by decide +kernel
theorem dX6_init_5 : decode cX6_init 5 = .ok (.bipush 20, 2) := by decide +kernel
theorem dX6_init_7 : decode cX6_init 7 = .ok (.newarray .long, 2) := by decide +kernel
theorem dX6_init_9 : decode cX6_init 9 = .ok (.putfield 9, 3) := by decide +kernel
theorem dX6_init_12 : decode cX6_init 12 = .ok (.aload_n 0, 1) := by decide +kernel
theorem dX6_init_13 : decode cX6_init 13 = .ok (.sipush 1000, 3) := by decide +kernel
theorem dX6_init_16 : decode cX6_init 16 = .ok (.newarray .char, 2) := by decide +kernel
theorem dX6_init_18 : decode cX6_init 18 = .ok (.putfield 15, 3) := by decide +kernel
theorem dX6_init_21 : decode cX6_init 21 = .ok (.aload_n 0, 1) := by decide +kernel
theorem dX6_init_22 : decode cX6_init 22 = .ok (.sipush 1001, 3) := by decide +kernel
theorem dX6_init_25 : decode cX6_init 25 = .ok (.newarray .int, 2) := by decide +kernel
theorem dX6_init_27 : decode cX6_init 27 = .ok (.putfield 19, 3) := by decide +kernel
theorem dX6_init_30 : decode cX6_init 30 = .ok (.aload_n 0, 1) := by decide +kernel
theorem dX6_init_31 : decode cX6_init 31 = .ok (.sipush 1001, 3) := by decide +kernel
theorem dX6_init_34 : decode cX6_init 34 = .ok (.newarray .int, 2) := by decide +kernel
theorem dX6_init_36 : decode cX6_init 36 = .ok (.putfield 23, 3) := by decide +kernel
theorem dX6_init_39 : decode cX6_init 39 = .ok (.aload_n 0, 1) := by decide +kernel
theorem dX6_init_40 : decode cX6_init 40 = .ok (.sipush 1001, 3) := by decide +kernel
theorem dX6_init_43 : decode cX6_init 43 = .ok (.newarray .long, 2) := by decide +kernel
theorem dX6_init_45 : decode cX6_init 45 = .ok (.putfield 26, 3) := by decide +kernel
theorem dX6_init_48 : decode cX6_init 48 = .ok (.iconst 0, 1) := by decide +kernel
theorem dX6_init_49 : decode cX6_init 49 = .ok (.istore_n 1, 1) := by decide +kernel
theorem dX6_init_50 : decode cX6_init 50 = .ok (.iconst 0, 1) := by decide +kernel
theorem dX6_init_51 : decode cX6_init 51 = .ok (.istore_n 2, 1) := by decide +kernel
theorem dX6_init_52 : decode cX6_init 52 = .ok (.iload_n 2, 1) := by decide +kernel
theorem dX6_init_53 : decode cX6_init 53 = .ok (.ldc 29, 2) := by decide +kernel
theorem dX6_init_55 : decode cX6_init 55 = .ok (.invokevirtual 31, 3) := by decide +kernel
theorem dX6_init_58 : decode cX6_init 58 = .ok (.if_icmp .ge 56, 3) := by decide +kernel
theorem dX6_init_61 : decode cX6_init 61 = .ok (.ldc 29, 2) := by decide +kernel
theorem dX6_init_63 : decode cX6_init 63 = .ok (.iload_n 2, 1) := by decide +kernel
theorem dX6_init_64 : decode cX6_init 64 = .ok (.invokevirtual 37, 3) := by decide +kernel
theorem dX6_init_67 : decode cX6_init 67 = .ok (.bipush 32, 2) := by decide +kernel
theorem dX6_init_69 : decode cX6_init 69 = .ok (.if_icmp .ne 9, 3) := by decide +kernel
theorem dX6_init_72 : decode cX6_init 72 = .ok (.iinc 1 1, 3) := by decide +kernel
theorem dX6_init_75 : decode cX6_init 75 = .ok (.goto 33, 3) := by decide +kernel
theorem dX6_init_78 : decode cX6_init 78 = .ok (.iload_n 1, 1) := by decide +kernel
theorem dX6_init_79 : decode cX6_init 79 = .ok (.aload_n 0, 1) := by decide +kernel
theorem dX6_init_80 : decode cX6_init 80 = .ok (.getfield 9, 3) := by decide +kernel
theorem dX6_init_83 : decode cX6_init 83 = .ok (.arraylength, 1) := by decide +kernel
theorem dX6_init_84 : decode cX6_init 84 = .ok (.if_icmp .ge 24, 3) := by decide +kernel
theorem dX6_init_87 : decode cX6_init 87 = .ok (.aload_n 0, 1) := by decide +kernel
theorem dX6_init_88 : decode cX6_init 88 = .ok (.getfield 9, 3) := by decide +kernel
theorem dX6_init_91 : decode cX6_init 91 = .ok (.iload_n 1, 1) := by decide +kernel
theorem dX6_init_92 : decode cX6_init 92 = .ok (.aload_n 0, 1) := by decide +kernel
theorem dX6_init_93 : decode cX6_init 93 = .ok (.getfield 9, 3) := by decide +kernel
theorem dX6_init_96 : decode cX6_init 96 = .ok (.iload_n 1, 1) := by decide +kernel
theorem dX6_init_97 : decode cX6_init 97 = .ok (.laload, 1) := by decide +kernel
theorem dX6_init_98 : decode cX6_init 98 = .ok (.ldc 29, 2) := by decide +kernel
theorem dX6_init_100 : decode cX6_init 100 = .ok (.iload_n 2, 1) := by decide +kernel
theorem dX6_init_101 : decode cX6_init 101 = .ok (.invokevirtual 37, 3) := by decide +kernel
theorem dX6_init_104 : decode cX6_init 104 = .ok (.invokestatic 41, 3) := by decide +kernel
theorem dX6_init_107 : decode cX6_init 107 = .ok (.lastore, 1) := by decide +kernel
theorem dX6_init_108 : decode cX6_init 108 = .ok (.iinc 2 1, 3) := by decide +kernel
theorem dX6_init_111 : decode cX6_init 111 = .ok (.goto (-59), 3) := by decide +kernel
theorem dX6_init_114 : decode cX6_init 114 = .ok (.return_, 1) := by decide +kernel
def g_FTape : List (Nat × Nat) := [(2, 1), (2, 2), (0, 0), (2, 3), (2, 4), (2, 5), (0, 0), (0, 0), (0, 0), (1, 0), (0, 0)]
def g_LTape : g_Lay := (6, fun id => [(.inl (4, g_FTape)), (.inr (1, 20, g_zf)), (.inr (2, 1000, g_zf)), (.inr (0, 1001, g_zf)), (.inr (0, 1001, g_zf)), (.inr (1, 1001, g_zf))].getD id (.inl (0, [])))
def ct_lp : Nat → Int32 → Int32 → g_St → Option g_St
  | 0, _, _, _ => none
  | f + 1, c, i, μ => (js_length 1 μ).bind fun n => if i < n then ((js_at 1 μ i).bind fun ch => if ch = 32 then ct_lp f (c + 1) (i + 1) μ else (if c < 20 then ((g_rl μ 1 20 c).bind fun w => (js_at 1 μ i).bind fun c2 => (ot_withLetter μ w c2).bind fun w2 => (g_wl μ 1 20 c w2).bind fun μ2 => ct_lp f c (i + 1) μ2) else ct_lp f c (i + 1) μ)) else some μ
abbrev o_yv0 : g_St → Option Value × g_St := fun q => (none, q)
theorem lk_tp : ∀ (f : Nat) (c i : Int32) (μ : g_St), g_Go g_LTape 4 yX6_init cX6_init 3 (none : Option Jvm.ClassFile.FieldType) 52 [some (.ref 0), some (.int c), some (.int i)] [] μ (Option.map o_yv0 (ct_lp f c i μ))
  | 0, _, _, _ => g_none
  | f + 1, c, i, μ => by
    unfold ct_lp
    refine g_iload_n dX6_init_52 rfl rfl ?_
    refine g_ldcS1 dX6_init_53 rfl ?_
    refine w_Vsxi [] (i := 1) (Nat.le_of_ble_eq_true rfl) rfl dX6_init_55 mq_X6_31 mv_J0_length_8abf5 mc_J0_length_8abf5 rfl (Nat.le_of_ble_eq_true rfl) (Nat.le_of_ble_eq_true rfl) (Nat.le_of_ble_eq_true rfl) rfl (co_js_length g_LTape 1 (Nat.le_of_ble_eq_true rfl) _) (fun n => ?_)
    refine w_icmp_ge (tgt := 114) dX6_init_58 (by decide) ?_ ?_
    · refine g_ldcS1 dX6_init_61 rfl ?_
      refine g_iload_n dX6_init_63 rfl rfl ?_
      refine w_Vsxi [.int _] (i := 1) (Nat.le_of_ble_eq_true rfl) rfl dX6_init_64 mq_X6_37 mv_J0_charAt_5068e mc_J0_charAt_5068e rfl (Nat.le_of_ble_eq_true rfl) (Nat.le_of_ble_eq_true rfl) (Nat.le_of_ble_eq_true rfl) rfl (co_js_at g_LTape 1 (Nat.le_of_ble_eq_true rfl) _ _) (fun ch => ?_)
      refine g_bipush (v := 32) dX6_init_67 (by decide) ?_
      have next : ∀ (c : Int32) (μ : g_St), g_Go g_LTape 4 yX6_init cX6_init 3 (none : Option Jvm.ClassFile.FieldType) 108 [some (.ref 0), some (.int c), some (.int i)] [] μ (Option.map o_yv0 (ct_lp f c (i + 1) μ)) := fun c μ => by
        refine g_iinc (lo2 := [_, _, _]) dX6_init_108 rfl rfl (Nat.le_of_ble_eq_true rfl) rfl rfl ?_
        refine g_goto (tgt := 52) dX6_init_111 (by decide) ?_
        exact lk_tp f c (i + 1) μ
      refine w_icmp_ne (tgt := 78) dX6_init_69 (by decide) ?_ ?_
      · refine g_iinc (lo2 := [_, _, _]) dX6_init_72 rfl rfl (Nat.le_of_ble_eq_true rfl) rfl rfl ?_
        refine g_goto (tgt := 108) dX6_init_75 (by decide) ?_
        exact next (c + 1) μ
      · refine g_iload_n dX6_init_78 rfl rfl ?_
        refine g_aload_n dX6_init_79 rfl rfl ?_
        refine g_getS dX6_init_80 cf_X6 fl_X6_9 (Nat.le_of_ble_eq_true rfl) (rfl : g_LTape.2 0 = .inl (4, g_FTape)) rfl (Nat.le_of_ble_eq_true rfl) ?_
        refine g_alen dX6_init_83 (Nat.le_of_ble_eq_true rfl) (rfl : g_LTape.2 1 = .inr (1, 20, g_zf)) rfl ?_
        refine w_icmp_ge (tgt := 108) dX6_init_84 (by decide) ?_ (next c μ)
        refine g_aload_n dX6_init_87 rfl rfl ?_
        refine g_getS dX6_init_88 cf_X6 fl_X6_9 (Nat.le_of_ble_eq_true rfl) (rfl : g_LTape.2 0 = .inl (4, g_FTape)) rfl (Nat.le_of_ble_eq_true rfl) ?_
        refine g_iload_n dX6_init_91 rfl rfl ?_
        refine g_aload_n dX6_init_92 rfl rfl ?_
        refine g_getS dX6_init_93 cf_X6 fl_X6_9 (Nat.le_of_ble_eq_true rfl) (rfl : g_LTape.2 0 = .inl (4, g_FTape)) rfl (Nat.le_of_ble_eq_true rfl) ?_
        refine g_iload_n dX6_init_96 rfl rfl ?_
        refine w_lald dX6_init_97 (Nat.le_of_ble_eq_true rfl) (rfl : g_LTape.2 1 = .inr (1, 20, g_zf)) (fun w => ?_)
        refine g_ldcS1 dX6_init_98 rfl ?_
        refine g_iload_n dX6_init_100 rfl rfl ?_
        refine w_Vsxi [.int _] (i := 1) (Nat.le_of_ble_eq_true rfl) rfl dX6_init_101 mq_X6_37 mv_J0_charAt_5068e mc_J0_charAt_5068e rfl (Nat.le_of_ble_eq_true rfl) (Nat.le_of_ble_eq_true rfl) (Nat.le_of_ble_eq_true rfl) rfl (co_js_at g_LTape 1 (Nat.le_of_ble_eq_true rfl) _ _) (fun c2 => ?_)
        refine w_Sxl [.long _, .int _] dX6_init_104 ml_X6_41 ms_X6_withLetter mc_X6_withLetter rfl (Nat.le_of_ble_eq_true rfl) (Nat.le_of_ble_eq_true rfl) (Nat.le_of_ble_eq_true rfl) rfl (co_ot_withLetter g_LTape _ _ _) (fun w2 => ?_)
        refine w_last dX6_init_107 (Nat.le_of_ble_eq_true rfl) (rfl : g_LTape.2 1 = .inr (1, 20, g_zf)) (fun μ2 => ?_)
        exact next c μ2
    · exact w_vret dX6_init_114 rfl rfl
/-- the words alone are written -/
theorem ct_lp_o : ∀ (f : Nat) (c i : Int32) (μ μ' : g_St), ct_lp f c i μ = some μ' → μ'.1 = μ.1 ∧ μ'.2.2 = μ.2.2 ∧ ∀ id, id ≠ 1 → μ'.2.1 id = μ.2.1 id
  | 0, _, _, _, _, h => by cases h
  | f + 1, c, i, μ, μ', h => by
    unfold ct_lp at h
    obtain ⟨n, -, h⟩ := Option.bind_eq_some_iff.mp h
    split at h
    · obtain ⟨ch, -, h⟩ := Option.bind_eq_some_iff.mp h
      split at h
      · exact ct_lp_o f _ _ _ _ h
      · split at h
        · obtain ⟨w, -, h⟩ := Option.bind_eq_some_iff.mp h
          obtain ⟨c2, -, h⟩ := Option.bind_eq_some_iff.mp h
          obtain ⟨w2, -, h⟩ := Option.bind_eq_some_iff.mp h
          obtain ⟨μ2, h2, h⟩ := Option.bind_eq_some_iff.mp h
          obtain ⟨h3, h4, h5⟩ := ct_lp_o f _ _ _ _ h
          unfold g_wl at h2
          split at h2
          · cases h2
          · cases h2
            exact ⟨h3, h4, fun id hid => (h5 id hid).trans (if_neg hid)⟩
        · exact ct_lp_o f _ _ _ _ h
    · cases h
      exact ⟨rfl, rfl, fun _ _ => rfl⟩
theorem ct_lp_v : (ct_lp 100 0 0 g_mu0).map (fun μ => (List.range 20).map (μ.2.1 1)) = some ((List.range 20).map zt_wd) := by decide +kernel
