/-! The law's cases thing, fair, lie -/
theorem dK_664 : decode cL_law 664 = .ok (.aload_n 1, 1) := by decide +kernel
theorem dK_665 : decode cL_law 665 = .ok (.aload_n 0, 1) := by decide +kernel
theorem dK_666 : decode cL_law 666 = .ok (.iload 4, 2) := by decide +kernel
theorem dK_668 : decode cL_law 668 = .ok (.iconst 1, 1) := by decide +kernel
theorem dK_669 : decode cL_law 669 = .ok (.iadd, 1) := by decide +kernel
theorem dK_670 : decode cL_law 670 = .ok (.iaload, 1) := by decide +kernel
theorem dK_671 : decode cL_law 671 = .ok (.aload_n 0, 1) := by decide +kernel
theorem dK_672 : decode cL_law 672 = .ok (.iload 4, 2) := by decide +kernel
theorem dK_674 : decode cL_law 674 = .ok (.iconst 2, 1) := by decide +kernel
theorem dK_675 : decode cL_law 675 = .ok (.iadd, 1) := by decide +kernel
theorem dK_676 : decode cL_law 676 = .ok (.iaload, 1) := by decide +kernel
theorem dK_677 : decode cL_law 677 = .ok (.aload_n 3, 1) := by decide +kernel
theorem dK_678 : decode cL_law 678 = .ok (.invokestatic 72, 3) := by decide +kernel
theorem dK_681 : decode cL_law 681 = .ok (.istore 5, 2) := by decide +kernel
theorem dK_683 : decode cL_law 683 = .ok (.aload_n 2, 1) := by decide +kernel
theorem dK_684 : decode cL_law 684 = .ok (.aload_n 0, 1) := by decide +kernel
theorem dK_685 : decode cL_law 685 = .ok (.iload 4, 2) := by decide +kernel
theorem dK_687 : decode cL_law 687 = .ok (.iconst 1, 1) := by decide +kernel
theorem dK_688 : decode cL_law 688 = .ok (.iadd, 1) := by decide +kernel
theorem dK_689 : decode cL_law 689 = .ok (.iaload, 1) := by decide +kernel
theorem dK_690 : decode cL_law 690 = .ok (.aload_n 0, 1) := by decide +kernel
theorem dK_691 : decode cL_law 691 = .ok (.iload 4, 2) := by decide +kernel
theorem dK_693 : decode cL_law 693 = .ok (.iconst 2, 1) := by decide +kernel
theorem dK_694 : decode cL_law 694 = .ok (.iadd, 1) := by decide +kernel
theorem dK_695 : decode cL_law 695 = .ok (.iaload, 1) := by decide +kernel
theorem dK_696 : decode cL_law 696 = .ok (.invokevirtual 77, 3) := by decide +kernel
theorem dK_699 : decode cL_law 699 = .ok (.istore 6, 2) := by decide +kernel
theorem dK_701 : decode cL_law 701 = .ok (.aload_n 2, 1) := by decide +kernel
theorem dK_702 : decode cL_law 702 = .ok (.invokevirtual 78, 3) := by decide +kernel
theorem dK_705 : decode cL_law 705 = .ok (.iload 5, 2) := by decide +kernel
theorem dK_707 : decode cL_law 707 = .ok (.if_icmp .eq 5, 3) := by decide +kernel
theorem dK_712 : decode cL_law 712 = .ok (.iload 5, 2) := by decide +kernel
theorem dK_714 : decode cL_law 714 = .ok (.ifCond .ne 15, 3) := by decide +kernel
theorem dK_729 : decode cL_law 729 = .ok (.goto 888, 3) := by decide +kernel
theorem dK_717 : decode cL_law 717 = .ok (.aload_n 3, 1) := by decide +kernel
theorem dK_718 : decode cL_law 718 = .ok (.iconst 0, 1) := by decide +kernel
theorem dK_719 : decode cL_law 719 = .ok (.laload, 1) := by decide +kernel
theorem dK_720 : decode cL_law 720 = .ok (.iload 6, 2) := by decide +kernel
theorem dK_722 : decode cL_law 722 = .ok (.i2l, 1) := by decide +kernel
theorem dK_723 : decode cL_law 723 = .ok (.lcmp, 1) := by decide +kernel
theorem dK_724 : decode cL_law 724 = .ok (.ifCond .eq 5, 3) := by decide +kernel
theorem dK_1066 : decode cL_law 1066 = .ok (.aload_n 1, 1) := by decide +kernel
theorem dK_1067 : decode cL_law 1067 = .ok (.aload_n 0, 1) := by decide +kernel
theorem dK_1068 : decode cL_law 1068 = .ok (.iload 4, 2) := by decide +kernel
theorem dK_1070 : decode cL_law 1070 = .ok (.iconst 1, 1) := by decide +kernel
theorem dK_1071 : decode cL_law 1071 = .ok (.iadd, 1) := by decide +kernel
theorem dK_1072 : decode cL_law 1072 = .ok (.iaload, 1) := by decide +kernel
theorem dK_1073 : decode cL_law 1073 = .ok (.aload_n 0, 1) := by decide +kernel
theorem dK_1074 : decode cL_law 1074 = .ok (.iload 4, 2) := by decide +kernel
theorem dK_1076 : decode cL_law 1076 = .ok (.iconst 2, 1) := by decide +kernel
theorem dK_1077 : decode cL_law 1077 = .ok (.iadd, 1) := by decide +kernel
theorem dK_1078 : decode cL_law 1078 = .ok (.iaload, 1) := by decide +kernel
theorem dK_1079 : decode cL_law 1079 = .ok (.aload_n 0, 1) := by decide +kernel
theorem dK_1080 : decode cL_law 1080 = .ok (.iload 4, 2) := by decide +kernel
theorem dK_1082 : decode cL_law 1082 = .ok (.iconst 3, 1) := by decide +kernel
theorem dK_1083 : decode cL_law 1083 = .ok (.iadd, 1) := by decide +kernel
theorem dK_1084 : decode cL_law 1084 = .ok (.iaload, 1) := by decide +kernel
theorem dK_1085 : decode cL_law 1085 = .ok (.aload_n 0, 1) := by decide +kernel
theorem dK_1086 : decode cL_law 1086 = .ok (.iload 4, 2) := by decide +kernel
theorem dK_1088 : decode cL_law 1088 = .ok (.iconst 4, 1) := by decide +kernel
theorem dK_1089 : decode cL_law 1089 = .ok (.iadd, 1) := by decide +kernel
theorem dK_1090 : decode cL_law 1090 = .ok (.iaload, 1) := by decide +kernel
theorem dK_1091 : decode cL_law 1091 = .ok (.aload_n 3, 1) := by decide +kernel
theorem dK_1092 : decode cL_law 1092 = .ok (.invokestatic 122, 3) := by decide +kernel
theorem dK_1095 : decode cL_law 1095 = .ok (.istore 5, 2) := by decide +kernel
theorem dK_1097 : decode cL_law 1097 = .ok (.aload_n 2, 1) := by decide +kernel
theorem dK_1098 : decode cL_law 1098 = .ok (.aload_n 0, 1) := by decide +kernel
theorem dK_1099 : decode cL_law 1099 = .ok (.iload 4, 2) := by decide +kernel
theorem dK_1101 : decode cL_law 1101 = .ok (.iconst 1, 1) := by decide +kernel
theorem dK_1102 : decode cL_law 1102 = .ok (.iadd, 1) := by decide +kernel
theorem dK_1103 : decode cL_law 1103 = .ok (.iaload, 1) := by decide +kernel
theorem dK_1104 : decode cL_law 1104 = .ok (.aload_n 0, 1) := by decide +kernel
theorem dK_1105 : decode cL_law 1105 = .ok (.iload 4, 2) := by decide +kernel
theorem dK_1107 : decode cL_law 1107 = .ok (.iconst 2, 1) := by decide +kernel
theorem dK_1108 : decode cL_law 1108 = .ok (.iadd, 1) := by decide +kernel
theorem dK_1109 : decode cL_law 1109 = .ok (.iaload, 1) := by decide +kernel
theorem dK_1110 : decode cL_law 1110 = .ok (.aload_n 0, 1) := by decide +kernel
theorem dK_1111 : decode cL_law 1111 = .ok (.iload 4, 2) := by decide +kernel
theorem dK_1113 : decode cL_law 1113 = .ok (.iconst 3, 1) := by decide +kernel
theorem dK_1114 : decode cL_law 1114 = .ok (.iadd, 1) := by decide +kernel
theorem dK_1115 : decode cL_law 1115 = .ok (.iaload, 1) := by decide +kernel
theorem dK_1116 : decode cL_law 1116 = .ok (.aload_n 0, 1) := by decide +kernel
theorem dK_1117 : decode cL_law 1117 = .ok (.iload 4, 2) := by decide +kernel
theorem dK_1119 : decode cL_law 1119 = .ok (.iconst 4, 1) := by decide +kernel
theorem dK_1120 : decode cL_law 1120 = .ok (.iadd, 1) := by decide +kernel
theorem dK_1121 : decode cL_law 1121 = .ok (.iaload, 1) := by decide +kernel
theorem dK_1122 : decode cL_law 1122 = .ok (.invokevirtual 125, 3) := by decide +kernel
theorem dK_1125 : decode cL_law 1125 = .ok (.istore 6, 2) := by decide +kernel
theorem dK_1127 : decode cL_law 1127 = .ok (.aload_n 2, 1) := by decide +kernel
theorem dK_1128 : decode cL_law 1128 = .ok (.invokevirtual 78, 3) := by decide +kernel
theorem dK_1131 : decode cL_law 1131 = .ok (.iload 5, 2) := by decide +kernel
theorem dK_1133 : decode cL_law 1133 = .ok (.if_icmp .eq 5, 3) := by decide +kernel
theorem dK_1138 : decode cL_law 1138 = .ok (.iload 5, 2) := by decide +kernel
theorem dK_1140 : decode cL_law 1140 = .ok (.ifCond .ne 15, 3) := by decide +kernel
theorem dK_1155 : decode cL_law 1155 = .ok (.goto 462, 3) := by decide +kernel
theorem dK_1143 : decode cL_law 1143 = .ok (.aload_n 3, 1) := by decide +kernel
theorem dK_1144 : decode cL_law 1144 = .ok (.iconst 0, 1) := by decide +kernel
theorem dK_1145 : decode cL_law 1145 = .ok (.laload, 1) := by decide +kernel
theorem dK_1146 : decode cL_law 1146 = .ok (.iload 6, 2) := by decide +kernel
theorem dK_1148 : decode cL_law 1148 = .ok (.i2l, 1) := by decide +kernel
theorem dK_1149 : decode cL_law 1149 = .ok (.lcmp, 1) := by decide +kernel
theorem dK_1150 : decode cL_law 1150 = .ok (.ifCond .eq 5, 3) := by decide +kernel
theorem dK_1359 : decode cL_law 1359 = .ok (.aload_n 1, 1) := by decide +kernel
theorem dK_1360 : decode cL_law 1360 = .ok (.aload_n 0, 1) := by decide +kernel
theorem dK_1361 : decode cL_law 1361 = .ok (.iload 4, 2) := by decide +kernel
theorem dK_1363 : decode cL_law 1363 = .ok (.iconst 1, 1) := by decide +kernel
theorem dK_1364 : decode cL_law 1364 = .ok (.iadd, 1) := by decide +kernel
theorem dK_1365 : decode cL_law 1365 = .ok (.iaload, 1) := by decide +kernel
theorem dK_1366 : decode cL_law 1366 = .ok (.aload_n 0, 1) := by decide +kernel
theorem dK_1367 : decode cL_law 1367 = .ok (.iload 4, 2) := by decide +kernel
theorem dK_1369 : decode cL_law 1369 = .ok (.iconst 2, 1) := by decide +kernel
theorem dK_1370 : decode cL_law 1370 = .ok (.iadd, 1) := by decide +kernel
theorem dK_1371 : decode cL_law 1371 = .ok (.iaload, 1) := by decide +kernel
theorem dK_1372 : decode cL_law 1372 = .ok (.aload_n 0, 1) := by decide +kernel
theorem dK_1373 : decode cL_law 1373 = .ok (.iload 4, 2) := by decide +kernel
theorem dK_1375 : decode cL_law 1375 = .ok (.iconst 3, 1) := by decide +kernel
theorem dK_1376 : decode cL_law 1376 = .ok (.iadd, 1) := by decide +kernel
theorem dK_1377 : decode cL_law 1377 = .ok (.iaload, 1) := by decide +kernel
theorem dK_1378 : decode cL_law 1378 = .ok (.aload_n 0, 1) := by decide +kernel
theorem dK_1379 : decode cL_law 1379 = .ok (.iload 4, 2) := by decide +kernel
theorem dK_1381 : decode cL_law 1381 = .ok (.iconst 4, 1) := by decide +kernel
theorem dK_1382 : decode cL_law 1382 = .ok (.iadd, 1) := by decide +kernel
theorem dK_1383 : decode cL_law 1383 = .ok (.iaload, 1) := by decide +kernel
theorem dK_1384 : decode cL_law 1384 = .ok (.aload_n 0, 1) := by decide +kernel
theorem dK_1385 : decode cL_law 1385 = .ok (.iload 4, 2) := by decide +kernel
theorem dK_1387 : decode cL_law 1387 = .ok (.iconst 5, 1) := by decide +kernel
theorem dK_1388 : decode cL_law 1388 = .ok (.iadd, 1) := by decide +kernel
theorem dK_1389 : decode cL_law 1389 = .ok (.iaload, 1) := by decide +kernel
theorem dK_1390 : decode cL_law 1390 = .ok (.aload_n 0, 1) := by decide +kernel
theorem dK_1391 : decode cL_law 1391 = .ok (.iload 4, 2) := by decide +kernel
theorem dK_1393 : decode cL_law 1393 = .ok (.bipush 6, 2) := by decide +kernel
theorem dK_1395 : decode cL_law 1395 = .ok (.iadd, 1) := by decide +kernel
theorem dK_1396 : decode cL_law 1396 = .ok (.iaload, 1) := by decide +kernel
theorem dK_1397 : decode cL_law 1397 = .ok (.aload_n 3, 1) := by decide +kernel
theorem dK_1398 : decode cL_law 1398 = .ok (.invokestatic 147, 3) := by decide +kernel
theorem dK_1401 : decode cL_law 1401 = .ok (.istore 5, 2) := by decide +kernel
theorem dK_1403 : decode cL_law 1403 = .ok (.aload_n 2, 1) := by decide +kernel
theorem dK_1404 : decode cL_law 1404 = .ok (.aload_n 0, 1) := by decide +kernel
theorem dK_1405 : decode cL_law 1405 = .ok (.iload 4, 2) := by decide +kernel
theorem dK_1407 : decode cL_law 1407 = .ok (.iconst 1, 1) := by decide +kernel
theorem dK_1408 : decode cL_law 1408 = .ok (.iadd, 1) := by decide +kernel
theorem dK_1409 : decode cL_law 1409 = .ok (.iaload, 1) := by decide +kernel
theorem dK_1410 : decode cL_law 1410 = .ok (.aload_n 0, 1) := by decide +kernel
theorem dK_1411 : decode cL_law 1411 = .ok (.iload 4, 2) := by decide +kernel
theorem dK_1413 : decode cL_law 1413 = .ok (.iconst 2, 1) := by decide +kernel
theorem dK_1414 : decode cL_law 1414 = .ok (.iadd, 1) := by decide +kernel
theorem dK_1415 : decode cL_law 1415 = .ok (.iaload, 1) := by decide +kernel
theorem dK_1416 : decode cL_law 1416 = .ok (.aload_n 0, 1) := by decide +kernel
theorem dK_1417 : decode cL_law 1417 = .ok (.iload 4, 2) := by decide +kernel
theorem dK_1419 : decode cL_law 1419 = .ok (.iconst 3, 1) := by decide +kernel
theorem dK_1420 : decode cL_law 1420 = .ok (.iadd, 1) := by decide +kernel
theorem dK_1421 : decode cL_law 1421 = .ok (.iaload, 1) := by decide +kernel
theorem dK_1422 : decode cL_law 1422 = .ok (.aload_n 0, 1) := by decide +kernel
theorem dK_1423 : decode cL_law 1423 = .ok (.iload 4, 2) := by decide +kernel
theorem dK_1425 : decode cL_law 1425 = .ok (.iconst 4, 1) := by decide +kernel
theorem dK_1426 : decode cL_law 1426 = .ok (.iadd, 1) := by decide +kernel
theorem dK_1427 : decode cL_law 1427 = .ok (.iaload, 1) := by decide +kernel
theorem dK_1428 : decode cL_law 1428 = .ok (.aload_n 0, 1) := by decide +kernel
theorem dK_1429 : decode cL_law 1429 = .ok (.iload 4, 2) := by decide +kernel
theorem dK_1431 : decode cL_law 1431 = .ok (.iconst 5, 1) := by decide +kernel
theorem dK_1432 : decode cL_law 1432 = .ok (.iadd, 1) := by decide +kernel
theorem dK_1433 : decode cL_law 1433 = .ok (.iaload, 1) := by decide +kernel
theorem dK_1434 : decode cL_law 1434 = .ok (.aload_n 0, 1) := by decide +kernel
theorem dK_1435 : decode cL_law 1435 = .ok (.iload 4, 2) := by decide +kernel
theorem dK_1437 : decode cL_law 1437 = .ok (.bipush 6, 2) := by decide +kernel
theorem dK_1439 : decode cL_law 1439 = .ok (.iadd, 1) := by decide +kernel
theorem dK_1440 : decode cL_law 1440 = .ok (.iaload, 1) := by decide +kernel
theorem dK_1441 : decode cL_law 1441 = .ok (.invokevirtual 150, 3) := by decide +kernel
theorem dK_1444 : decode cL_law 1444 = .ok (.istore 6, 2) := by decide +kernel
theorem dK_1446 : decode cL_law 1446 = .ok (.aload_n 2, 1) := by decide +kernel
theorem dK_1447 : decode cL_law 1447 = .ok (.invokevirtual 78, 3) := by decide +kernel
theorem dK_1450 : decode cL_law 1450 = .ok (.iload 5, 2) := by decide +kernel
theorem dK_1452 : decode cL_law 1452 = .ok (.if_icmp .eq 5, 3) := by decide +kernel
theorem dK_1457 : decode cL_law 1457 = .ok (.iload 5, 2) := by decide +kernel
theorem dK_1459 : decode cL_law 1459 = .ok (.ifCond .ne 15, 3) := by decide +kernel
theorem dK_1474 : decode cL_law 1474 = .ok (.goto 143, 3) := by decide +kernel
theorem dK_1462 : decode cL_law 1462 = .ok (.aload_n 3, 1) := by decide +kernel
theorem dK_1463 : decode cL_law 1463 = .ok (.iconst 0, 1) := by decide +kernel
theorem dK_1464 : decode cL_law 1464 = .ok (.laload, 1) := by decide +kernel
theorem dK_1465 : decode cL_law 1465 = .ok (.iload 6, 2) := by decide +kernel
theorem dK_1467 : decode cL_law 1467 = .ok (.i2l, 1) := by decide +kernel
theorem dK_1468 : decode cL_law 1468 = .ok (.lcmp, 1) := by decide +kernel
theorem dK_1469 : decode cL_law 1469 = .ok (.ifCond .eq 5, 3) := by decide +kernel
section LjThk
variable {p : Program} {l : Launch} {e : Env} {s : State} {m : MethodId} {below : List Frame} {meth : Method} {c : Code} {H : Heap} {locs : List Loc} {cells slots : Nat} {Q : State → Prop} {b : Nat}
variable {ls : Array Slot} {D : va_G} {tys : List (ClassId × FieldType)} {caC adC caR adR : Nat → Nat} {co ao L : Nat} {xs : Nat → Int32} {μ r0 : g_St}
theorem lj_ar {d : String} {k : Nat} {sig : MethodDescriptor} (h : (parseMethodDescriptor d).map (fun d => d.parameters.length) = some k) (h2 : parseMethodDescriptor d = some sig) : k = sig.parameters.length := by
  rw [h2] at h
  exact (Option.some.inj h).symm
theorem lj_k_thing {i : Int32} (hl0 : l.stackTraces = false) (hx : p.tables.exec = Jvm.exec) (hb : c.code = cL_law) (hX : lj_X s b L xs) (C : lj_C p s m b c D tys caC adC caR adR co) (hce : cells + 1 ≤ 601024) (hsl : slots + 6 ≤ 7293034) (hi : ∀ k : Int32, 0 ≤ k → k ≤ 6 → vp_in (i + k) L) (hl : lv_has ls 7 [(4, .int i), (3, .ref ao), (2, .ref (adR 0)), (1, .ref (adC 0)), (0, .ref b)]) {o : Nat → Int64} (hR : g_Rp gC D caC adC ((ao, g_oE co o) :: g_wW adR caR gR r0) (lj_A s) s.heap μ H locs) (hz : zi μ r0)
    (kk : ∀ (c1 r1 : g_St) (o1 : Nat → Int64) (ls1 : Array Slot) (H1 : Heap) (locs1 : List Loc), zi c1 r1 → lv_has ls1 7 [(4, .int i), (3, .ref ao), (2, .ref (adR 0)), (1, .ref (adC 0)), (0, .ref b)] → g_Rp gC D caC adC ((ao, g_oE co o1) :: g_wW adR caR gR r1) (lj_A s) s.heap c1 H1 locs1 → W p l e room_1 s m #[Value.ref b] below meth c H1 locs1 (cells + 1) (slots + 6) Q (F0 m 1617 ls1 [])) :
    W p l e room_1 s m #[Value.ref b] below meth c H locs cells slots Q (F0 m 664 ls []) := by
  obtain ⟨x, c2, r2, hm, hf, hz2⟩ := zo_thingq hz (xs (i + 1).toNatClampNeg) (xs (i + 2).toNatClampNeg)
  obtain ⟨q, hX2, hq⟩ : ∃ q, oo_thing (xs (i + 1).toNatClampNeg) (xs (i + 2).toNatClampNeg) μ = some (q, c2) ∧ ((q = .inl x ∧ r2.1 0 0 = 0) ∨ ∃ t, q = .inr t ∧ r2.1 0 0 = 1) := by
    rcases hf with ⟨h1, h2⟩ | ⟨t, h1, h2⟩
    · exact ⟨_, h1, .inl ⟨rfl, h2⟩⟩
    · exact ⟨_, h1, .inr ⟨t, rfl, h2⟩⟩
  refine lv_aload_n hx hb dK_664 rfl (lv_at hl 3 rfl) ?_
  refine lj_arg (k := 1) (nk := 1) hx hb hX hR.2.2 4 0 hl rfl rfl (fun st k => lv_iconst (v := 1) hx hb dK_668 (by decide) k) (hi 1 (by decide) (by decide)) dK_665 dK_666 dK_669 dK_670 ?_
  refine lj_arg (k := 2) (nk := 1) hx hb hX hR.2.2 4 0 hl rfl rfl (fun st k => lv_iconst (v := 2) hx hb dK_674 (by decide) k) (hi 2 (by decide) (by decide)) dK_671 dK_672 dK_675 dK_676 ?_
  refine lv_aload_n hx hb dK_677 rfl (lv_at hl 1 rfl) ?_
  refine lj_cW (as := [.ref 0, .int _, .int _]) hl0 C hce hsl hl.1 hR dK_678 (g_in5 (List.mem_of_getElem? (i := 29) rfl) rfl) (g_in5 (List.mem_of_getElem? (i := 30) rfl) rfl) cw_L_thing (g_in1 (List.mem_of_getElem? (i := 0) rfl) rfl) (by decide +kernel) (fun sig h => lj_ar (k := 4) (by decide +kernel) h) (Nat.le_of_ble_eq_true rfl) (wc_thing _ _ _) hX2 rfl (fun r o' H locs hw hR => ?_)
  refine lv_istore (lv' := [(5, .int r), (4, .int i), (3, .ref ao), (2, .ref (adR 0)), (1, .ref (adC 0)), (0, .ref b)]) hx hb dK_681 hl (by decide) rfl (fun ls hl => ?_)
  refine lv_aload_n hx hb dK_683 rfl (lv_at hl 3 rfl) ?_
  refine lj_arg (k := 1) (nk := 1) hx hb hX hR.2.2 5 1 hl rfl rfl (fun st k => lv_iconst (v := 1) hx hb dK_687 (by decide) k) (hi 1 (by decide) (by decide)) dK_684 dK_685 dK_688 dK_689 ?_
  refine lj_arg (k := 2) (nk := 1) hx hb hX hR.2.2 5 1 hl rfl rfl (fun st k => lv_iconst (v := 2) hx hb dK_693 (by decide) k) (hi 2 (by decide) (by decide)) dK_690 dK_691 dK_694 dK_695 ?_
  refine lj_cR (as := [.int _, .int _]) (st := []) (x := x) C hce hsl hl.1 hR dK_696 (g_in7 (List.mem_of_getElem? (i := 67) rfl) rfl) mv_X9_thing mc_X9_thing rfl rfl (Nat.le_of_ble_eq_true rfl) (Nat.le_of_ble_eq_true rfl) (Nat.le_of_ble_eq_true rfl) (co_mm_thing _ _ _) hm rfl rfl (fun H locs hR => ?_)
  refine lv_istore (lv' := [(6, .int x), (5, .int r), (4, .int i), (3, .ref ao), (2, .ref (adR 0)), (1, .ref (adC 0)), (0, .ref b)]) hx hb dK_699 hl (by decide) rfl (fun ls hl => ?_)
  refine lv_aload_n hx hb dK_701 rfl (lv_at hl 4 rfl) ?_
  refine lj_cR (as := []) (st := []) (f := some (r2.1 0 0, r2)) (x := r2.1 0 0) C hce hsl hl.1 hR dK_702 (g_in6 (List.mem_of_getElem? (i := 79) rfl) rfl) mv_X9_thrown mc_X9_thrown rfl rfl (Nat.le_of_ble_eq_true rfl) (Nat.le_of_ble_eq_true rfl) (Nat.le_of_ble_eq_true rfl) (co_mm_thrown r2) rfl rfl rfl (fun H locs hR => ?_)
  have hr : r2.1 0 0 = r := by
    rcases hq with ⟨rfl, h9⟩ | ⟨t, rfl, h9⟩
    · rw [h9]; exact hw.1.symm
    · rw [h9]; exact hw.1.symm
  refine lv_iload hx hb dK_705 (lv_at hl 1 rfl) ?_
  refine lv_icmp_eq (tgt := 712) hx hb dK_707 (by decide) (fun _ => ?_) (fun h => absurd hr h)
  refine lv_iload hx hb dK_712 (lv_at hl 1 rfl) ?_
  refine lv_if_ne (tgt := 729) hx hb dK_714 (by decide) (fun _ => lv_goto (tgt := 1617) hx hb dK_729 (by decide) (by exact kk _ _ _ ls H locs hz2 (lv_sub hl [2, 3, 4, 5, 6] rfl) hR)) (fun h => ?_)
  have h0 : r = 0 := by first | exact h | exact Decidable.not_not.mp h
  refine lv_aload_n hx hb dK_717 rfl (lv_at hl 3 rfl) ?_
  refine lv_iconst (v := 0) hx hb dK_718 (by decide) ?_
  obtain ⟨t0, ht0⟩ := C.2.1
  refine va_lald hx hb (C.1 (cells + 1) (slots + 6) hce hsl).1.2.2.2.2.2.2.1 hR.1 gC.1 t0 (g_outAt (Λ := gC)) ht0 (fun h => absurd h (by decide)) dK_719 ?_
  refine lv_iload hx hb dK_720 (lv_at hl 0 rfl) ?_
  refine lv_i2l hx hb dK_722 rfl ?_
  refine W.lcmp hx hb dK_723 ?_
  have ho : o' (0 : Int32).toNatClampNeg = x.toInt64 := by
    rcases hq with ⟨rfl, h9⟩ | ⟨t, rfl, h9⟩
    · rw [hw.2]; rfl
    · exact absurd (hw.1.symm.trans h0) (by decide)
  rw [ho]
  have hcm : lg_cmp x.toInt64 x.toInt64 = 0 := by simp [lg_cmp]
  refine lv_if_eq (tgt := 729) hx hb dK_724 (by decide) (fun _ => ?_) (fun h => absurd hcm h)
  refine lv_goto (tgt := 1617) hx hb dK_729 (by decide) ?_
  exact kk _ _ _ ls H locs hz2 (lv_sub hl [2, 3, 4, 5, 6] rfl) hR
theorem lj_k_fair {i : Int32} (hl0 : l.stackTraces = false) (hx : p.tables.exec = Jvm.exec) (hb : c.code = cL_law) (hX : lj_X s b L xs) (C : lj_C p s m b c D tys caC adC caR adR co) (hce : cells + 1 ≤ 601024) (hsl : slots + 6 ≤ 7293034) (hi : ∀ k : Int32, 0 ≤ k → k ≤ 6 → vp_in (i + k) L) (hl : lv_has ls 7 [(4, .int i), (3, .ref ao), (2, .ref (adR 0)), (1, .ref (adC 0)), (0, .ref b)]) {o : Nat → Int64} (hR : g_Rp gC D caC adC ((ao, g_oE co o) :: g_wW adR caR gR r0) (lj_A s) s.heap μ H locs) (hz : zi μ r0)
    (kk : ∀ (c1 r1 : g_St) (o1 : Nat → Int64) (ls1 : Array Slot) (H1 : Heap) (locs1 : List Loc), zi c1 r1 → lv_has ls1 7 [(4, .int i), (3, .ref ao), (2, .ref (adR 0)), (1, .ref (adC 0)), (0, .ref b)] → g_Rp gC D caC adC ((ao, g_oE co o1) :: g_wW adR caR gR r1) (lj_A s) s.heap c1 H1 locs1 → W p l e room_1 s m #[Value.ref b] below meth c H1 locs1 (cells + 1) (slots + 6) Q (F0 m 1617 ls1 [])) :
    W p l e room_1 s m #[Value.ref b] below meth c H locs cells slots Q (F0 m 1066 ls []) := by
  obtain ⟨x, c2, r2, hm, hf, hz2⟩ := zo_fair (F := 5000) (by decide) hz (xs (i + 1).toNatClampNeg) (xs (i + 2).toNatClampNeg) (xs (i + 3).toNatClampNeg) (xs (i + 4).toNatClampNeg)
  obtain ⟨q, hX2, hq⟩ : ∃ q, oo_fair 5000 (xs (i + 1).toNatClampNeg) (xs (i + 2).toNatClampNeg) (xs (i + 3).toNatClampNeg) (xs (i + 4).toNatClampNeg) μ = some (q, c2) ∧ ((q = .inl x ∧ r2.1 0 0 = 0) ∨ ∃ t, q = .inr t ∧ r2.1 0 0 = 1) := by
    rcases hf with ⟨h1, h2⟩ | ⟨t, h1, h2⟩
    · exact ⟨_, h1, .inl ⟨rfl, h2⟩⟩
    · exact ⟨_, h1, .inr ⟨t, rfl, h2⟩⟩
  refine lv_aload_n hx hb dK_1066 rfl (lv_at hl 3 rfl) ?_
  refine lj_arg (k := 1) (nk := 1) hx hb hX hR.2.2 4 0 hl rfl rfl (fun st k => lv_iconst (v := 1) hx hb dK_1070 (by decide) k) (hi 1 (by decide) (by decide)) dK_1067 dK_1068 dK_1071 dK_1072 ?_
  refine lj_arg (k := 2) (nk := 1) hx hb hX hR.2.2 4 0 hl rfl rfl (fun st k => lv_iconst (v := 2) hx hb dK_1076 (by decide) k) (hi 2 (by decide) (by decide)) dK_1073 dK_1074 dK_1077 dK_1078 ?_
  refine lj_arg (k := 3) (nk := 1) hx hb hX hR.2.2 4 0 hl rfl rfl (fun st k => lv_iconst (v := 3) hx hb dK_1082 (by decide) k) (hi 3 (by decide) (by decide)) dK_1079 dK_1080 dK_1083 dK_1084 ?_
  refine lj_arg (k := 4) (nk := 1) hx hb hX hR.2.2 4 0 hl rfl rfl (fun st k => lv_iconst (v := 4) hx hb dK_1088 (by decide) k) (hi 4 (by decide) (by decide)) dK_1085 dK_1086 dK_1089 dK_1090 ?_
  refine lv_aload_n hx hb dK_1091 rfl (lv_at hl 1 rfl) ?_
  refine lj_cW (as := [.ref 0, .int _, .int _, .int _, .int _]) hl0 C hce hsl hl.1 hR dK_1092 (g_in5 (List.mem_of_getElem? (i := 103) rfl) rfl) (g_in5 (List.mem_of_getElem? (i := 104) rfl) rfl) cw_L_fair (g_in1 (List.mem_of_getElem? (i := 0) rfl) rfl) (by decide +kernel) (fun sig h => lj_ar (k := 6) (by decide +kernel) h) (Nat.le_of_ble_eq_true rfl) (wc_fair 5000 _ _ _ _ _) hX2 rfl (fun r o' H locs hw hR => ?_)
  refine lv_istore (lv' := [(5, .int r), (4, .int i), (3, .ref ao), (2, .ref (adR 0)), (1, .ref (adC 0)), (0, .ref b)]) hx hb dK_1095 hl (by decide) rfl (fun ls hl => ?_)
  refine lv_aload_n hx hb dK_1097 rfl (lv_at hl 3 rfl) ?_
  refine lj_arg (k := 1) (nk := 1) hx hb hX hR.2.2 5 1 hl rfl rfl (fun st k => lv_iconst (v := 1) hx hb dK_1101 (by decide) k) (hi 1 (by decide) (by decide)) dK_1098 dK_1099 dK_1102 dK_1103 ?_
  refine lj_arg (k := 2) (nk := 1) hx hb hX hR.2.2 5 1 hl rfl rfl (fun st k => lv_iconst (v := 2) hx hb dK_1107 (by decide) k) (hi 2 (by decide) (by decide)) dK_1104 dK_1105 dK_1108 dK_1109 ?_
  refine lj_arg (k := 3) (nk := 1) hx hb hX hR.2.2 5 1 hl rfl rfl (fun st k => lv_iconst (v := 3) hx hb dK_1113 (by decide) k) (hi 3 (by decide) (by decide)) dK_1110 dK_1111 dK_1114 dK_1115 ?_
  refine lj_arg (k := 4) (nk := 1) hx hb hX hR.2.2 5 1 hl rfl rfl (fun st k => lv_iconst (v := 4) hx hb dK_1119 (by decide) k) (hi 4 (by decide) (by decide)) dK_1116 dK_1117 dK_1120 dK_1121 ?_
  refine lj_cR (as := [.int _, .int _, .int _, .int _]) (st := []) (x := x) C hce hsl hl.1 hR dK_1122 (g_in7 (List.mem_of_getElem? (i := 198) rfl) rfl) mv_X9_fair mc_X9_fair rfl rfl (Nat.le_of_ble_eq_true rfl) (Nat.le_of_ble_eq_true rfl) (Nat.le_of_ble_eq_true rfl) (co_mm_fair 5000 _ _ _ _ _) hm rfl rfl (fun H locs hR => ?_)
  refine lv_istore (lv' := [(6, .int x), (5, .int r), (4, .int i), (3, .ref ao), (2, .ref (adR 0)), (1, .ref (adC 0)), (0, .ref b)]) hx hb dK_1125 hl (by decide) rfl (fun ls hl => ?_)
  refine lv_aload_n hx hb dK_1127 rfl (lv_at hl 4 rfl) ?_
  refine lj_cR (as := []) (st := []) (f := some (r2.1 0 0, r2)) (x := r2.1 0 0) C hce hsl hl.1 hR dK_1128 (g_in6 (List.mem_of_getElem? (i := 79) rfl) rfl) mv_X9_thrown mc_X9_thrown rfl rfl (Nat.le_of_ble_eq_true rfl) (Nat.le_of_ble_eq_true rfl) (Nat.le_of_ble_eq_true rfl) (co_mm_thrown r2) rfl rfl rfl (fun H locs hR => ?_)
  have hr : r2.1 0 0 = r := by
    rcases hq with ⟨rfl, h9⟩ | ⟨t, rfl, h9⟩
    · rw [h9]; exact hw.1.symm
    · rw [h9]; exact hw.1.symm
  refine lv_iload hx hb dK_1131 (lv_at hl 1 rfl) ?_
  refine lv_icmp_eq (tgt := 1138) hx hb dK_1133 (by decide) (fun _ => ?_) (fun h => absurd hr h)
  refine lv_iload hx hb dK_1138 (lv_at hl 1 rfl) ?_
  refine lv_if_ne (tgt := 1155) hx hb dK_1140 (by decide) (fun _ => lv_goto (tgt := 1617) hx hb dK_1155 (by decide) (by exact kk _ _ _ ls H locs hz2 (lv_sub hl [2, 3, 4, 5, 6] rfl) hR)) (fun h => ?_)
  have h0 : r = 0 := by first | exact h | exact Decidable.not_not.mp h
  refine lv_aload_n hx hb dK_1143 rfl (lv_at hl 3 rfl) ?_
  refine lv_iconst (v := 0) hx hb dK_1144 (by decide) ?_
  obtain ⟨t0, ht0⟩ := C.2.1
  refine va_lald hx hb (C.1 (cells + 1) (slots + 6) hce hsl).1.2.2.2.2.2.2.1 hR.1 gC.1 t0 (g_outAt (Λ := gC)) ht0 (fun h => absurd h (by decide)) dK_1145 ?_
  refine lv_iload hx hb dK_1146 (lv_at hl 0 rfl) ?_
  refine lv_i2l hx hb dK_1148 rfl ?_
  refine W.lcmp hx hb dK_1149 ?_
  have ho : o' (0 : Int32).toNatClampNeg = x.toInt64 := by
    rcases hq with ⟨rfl, h9⟩ | ⟨t, rfl, h9⟩
    · rw [hw.2]; rfl
    · exact absurd (hw.1.symm.trans h0) (by decide)
  rw [ho]
  have hcm : lg_cmp x.toInt64 x.toInt64 = 0 := by simp [lg_cmp]
  refine lv_if_eq (tgt := 1155) hx hb dK_1150 (by decide) (fun _ => ?_) (fun h => absurd hcm h)
  refine lv_goto (tgt := 1617) hx hb dK_1155 (by decide) ?_
  exact kk _ _ _ ls H locs hz2 (lv_sub hl [2, 3, 4, 5, 6] rfl) hR
theorem lj_k_lie {i : Int32} (hl0 : l.stackTraces = false) (hx : p.tables.exec = Jvm.exec) (hb : c.code = cL_law) (hX : lj_X s b L xs) (C : lj_C p s m b c D tys caC adC caR adR co) (hce : cells + 1 ≤ 601024) (hsl : slots + 6 ≤ 7293034) (hi : ∀ k : Int32, 0 ≤ k → k ≤ 6 → vp_in (i + k) L) (hl : lv_has ls 7 [(4, .int i), (3, .ref ao), (2, .ref (adR 0)), (1, .ref (adC 0)), (0, .ref b)]) {o : Nat → Int64} (hR : g_Rp gC D caC adC ((ao, g_oE co o) :: g_wW adR caR gR r0) (lj_A s) s.heap μ H locs) (hz : zi μ r0)
    (kk : ∀ (c1 r1 : g_St) (o1 : Nat → Int64) (ls1 : Array Slot) (H1 : Heap) (locs1 : List Loc), zi c1 r1 → lv_has ls1 7 [(4, .int i), (3, .ref ao), (2, .ref (adR 0)), (1, .ref (adC 0)), (0, .ref b)] → g_Rp gC D caC adC ((ao, g_oE co o1) :: g_wW adR caR gR r1) (lj_A s) s.heap c1 H1 locs1 → W p l e room_1 s m #[Value.ref b] below meth c H1 locs1 (cells + 1) (slots + 6) Q (F0 m 1617 ls1 [])) :
    W p l e room_1 s m #[Value.ref b] below meth c H locs cells slots Q (F0 m 1359 ls []) := by
  obtain ⟨x, c2, r2, hm, hf, hz2⟩ := zo_lie (F := 5000) (by decide) hz (xs (i + 1).toNatClampNeg) (xs (i + 2).toNatClampNeg) (xs (i + 3).toNatClampNeg) (xs (i + 4).toNatClampNeg) (xs (i + 5).toNatClampNeg) (xs (i + 6).toNatClampNeg)
  obtain ⟨q, hX2, hq⟩ : ∃ q, oo_lie 5000 (xs (i + 1).toNatClampNeg) (xs (i + 2).toNatClampNeg) (xs (i + 3).toNatClampNeg) (xs (i + 4).toNatClampNeg) (xs (i + 5).toNatClampNeg) (xs (i + 6).toNatClampNeg) μ = some (q, c2) ∧ ((q = .inl x ∧ r2.1 0 0 = 0) ∨ ∃ t, q = .inr t ∧ r2.1 0 0 = 1) := by
    rcases hf with ⟨h1, h2⟩ | ⟨t, h1, h2⟩
    · exact ⟨_, h1, .inl ⟨rfl, h2⟩⟩
    · exact ⟨_, h1, .inr ⟨t, rfl, h2⟩⟩
  refine lv_aload_n hx hb dK_1359 rfl (lv_at hl 3 rfl) ?_
  refine lj_arg (k := 1) (nk := 1) hx hb hX hR.2.2 4 0 hl rfl rfl (fun st k => lv_iconst (v := 1) hx hb dK_1363 (by decide) k) (hi 1 (by decide) (by decide)) dK_1360 dK_1361 dK_1364 dK_1365 ?_
  refine lj_arg (k := 2) (nk := 1) hx hb hX hR.2.2 4 0 hl rfl rfl (fun st k => lv_iconst (v := 2) hx hb dK_1369 (by decide) k) (hi 2 (by decide) (by decide)) dK_1366 dK_1367 dK_1370 dK_1371 ?_
  refine lj_arg (k := 3) (nk := 1) hx hb hX hR.2.2 4 0 hl rfl rfl (fun st k => lv_iconst (v := 3) hx hb dK_1375 (by decide) k) (hi 3 (by decide) (by decide)) dK_1372 dK_1373 dK_1376 dK_1377 ?_
  refine lj_arg (k := 4) (nk := 1) hx hb hX hR.2.2 4 0 hl rfl rfl (fun st k => lv_iconst (v := 4) hx hb dK_1381 (by decide) k) (hi 4 (by decide) (by decide)) dK_1378 dK_1379 dK_1382 dK_1383 ?_
  refine lj_arg (k := 5) (nk := 1) hx hb hX hR.2.2 4 0 hl rfl rfl (fun st k => lv_iconst (v := 5) hx hb dK_1387 (by decide) k) (hi 5 (by decide) (by decide)) dK_1384 dK_1385 dK_1388 dK_1389 ?_
  refine lj_arg (k := 6) (nk := 2) hx hb hX hR.2.2 4 0 hl rfl rfl (fun st k => lv_bipush (v := 6) hx hb dK_1393 (by decide) k) (hi 6 (by decide) (by decide)) dK_1390 dK_1391 dK_1395 dK_1396 ?_
  refine lv_aload_n hx hb dK_1397 rfl (lv_at hl 1 rfl) ?_
  refine lj_cW (as := [.ref 0, .int _, .int _, .int _, .int _, .int _, .int _]) hl0 C hce hsl hl.1 hR dK_1398 (g_in5 (List.mem_of_getElem? (i := 111) rfl) rfl) (g_in5 (List.mem_of_getElem? (i := 112) rfl) rfl) cw_L_lie (g_in1 (List.mem_of_getElem? (i := 0) rfl) rfl) (by decide +kernel) (fun sig h => lj_ar (k := 8) (by decide +kernel) h) (Nat.le_of_ble_eq_true rfl) (wc_lie 5000 _ _ _ _ _ _ _) hX2 rfl (fun r o' H locs hw hR => ?_)
  refine lv_istore (lv' := [(5, .int r), (4, .int i), (3, .ref ao), (2, .ref (adR 0)), (1, .ref (adC 0)), (0, .ref b)]) hx hb dK_1401 hl (by decide) rfl (fun ls hl => ?_)
  refine lv_aload_n hx hb dK_1403 rfl (lv_at hl 3 rfl) ?_
  refine lj_arg (k := 1) (nk := 1) hx hb hX hR.2.2 5 1 hl rfl rfl (fun st k => lv_iconst (v := 1) hx hb dK_1407 (by decide) k) (hi 1 (by decide) (by decide)) dK_1404 dK_1405 dK_1408 dK_1409 ?_
  refine lj_arg (k := 2) (nk := 1) hx hb hX hR.2.2 5 1 hl rfl rfl (fun st k => lv_iconst (v := 2) hx hb dK_1413 (by decide) k) (hi 2 (by decide) (by decide)) dK_1410 dK_1411 dK_1414 dK_1415 ?_
  refine lj_arg (k := 3) (nk := 1) hx hb hX hR.2.2 5 1 hl rfl rfl (fun st k => lv_iconst (v := 3) hx hb dK_1419 (by decide) k) (hi 3 (by decide) (by decide)) dK_1416 dK_1417 dK_1420 dK_1421 ?_
  refine lj_arg (k := 4) (nk := 1) hx hb hX hR.2.2 5 1 hl rfl rfl (fun st k => lv_iconst (v := 4) hx hb dK_1425 (by decide) k) (hi 4 (by decide) (by decide)) dK_1422 dK_1423 dK_1426 dK_1427 ?_
  refine lj_arg (k := 5) (nk := 1) hx hb hX hR.2.2 5 1 hl rfl rfl (fun st k => lv_iconst (v := 5) hx hb dK_1431 (by decide) k) (hi 5 (by decide) (by decide)) dK_1428 dK_1429 dK_1432 dK_1433 ?_
  refine lj_arg (k := 6) (nk := 2) hx hb hX hR.2.2 5 1 hl rfl rfl (fun st k => lv_bipush (v := 6) hx hb dK_1437 (by decide) k) (hi 6 (by decide) (by decide)) dK_1434 dK_1435 dK_1439 dK_1440 ?_
  refine lj_cR (as := [.int _, .int _, .int _, .int _, .int _, .int _]) (st := []) (x := x) C hce hsl hl.1 hR dK_1441 (g_in7 (List.mem_of_getElem? (i := 230) rfl) rfl) mv_X9_lie mc_X9_lie rfl rfl (Nat.le_of_ble_eq_true rfl) (Nat.le_of_ble_eq_true rfl) (Nat.le_of_ble_eq_true rfl) (co_mm_lie 5000 _ _ _ _ _ _ _) hm rfl rfl (fun H locs hR => ?_)
  refine lv_istore (lv' := [(6, .int x), (5, .int r), (4, .int i), (3, .ref ao), (2, .ref (adR 0)), (1, .ref (adC 0)), (0, .ref b)]) hx hb dK_1444 hl (by decide) rfl (fun ls hl => ?_)
  refine lv_aload_n hx hb dK_1446 rfl (lv_at hl 4 rfl) ?_
  refine lj_cR (as := []) (st := []) (f := some (r2.1 0 0, r2)) (x := r2.1 0 0) C hce hsl hl.1 hR dK_1447 (g_in6 (List.mem_of_getElem? (i := 79) rfl) rfl) mv_X9_thrown mc_X9_thrown rfl rfl (Nat.le_of_ble_eq_true rfl) (Nat.le_of_ble_eq_true rfl) (Nat.le_of_ble_eq_true rfl) (co_mm_thrown r2) rfl rfl rfl (fun H locs hR => ?_)
  have hr : r2.1 0 0 = r := by
    rcases hq with ⟨rfl, h9⟩ | ⟨t, rfl, h9⟩
    · rw [h9]; exact hw.1.symm
    · rw [h9]; exact hw.1.symm
  refine lv_iload hx hb dK_1450 (lv_at hl 1 rfl) ?_
  refine lv_icmp_eq (tgt := 1457) hx hb dK_1452 (by decide) (fun _ => ?_) (fun h => absurd hr h)
  refine lv_iload hx hb dK_1457 (lv_at hl 1 rfl) ?_
  refine lv_if_ne (tgt := 1474) hx hb dK_1459 (by decide) (fun _ => lv_goto (tgt := 1617) hx hb dK_1474 (by decide) (by exact kk _ _ _ ls H locs hz2 (lv_sub hl [2, 3, 4, 5, 6] rfl) hR)) (fun h => ?_)
  have h0 : r = 0 := by first | exact h | exact Decidable.not_not.mp h
  refine lv_aload_n hx hb dK_1462 rfl (lv_at hl 3 rfl) ?_
  refine lv_iconst (v := 0) hx hb dK_1463 (by decide) ?_
  obtain ⟨t0, ht0⟩ := C.2.1
  refine va_lald hx hb (C.1 (cells + 1) (slots + 6) hce hsl).1.2.2.2.2.2.2.1 hR.1 gC.1 t0 (g_outAt (Λ := gC)) ht0 (fun h => absurd h (by decide)) dK_1464 ?_
  refine lv_iload hx hb dK_1465 (lv_at hl 0 rfl) ?_
  refine lv_i2l hx hb dK_1467 rfl ?_
  refine W.lcmp hx hb dK_1468 ?_
  have ho : o' (0 : Int32).toNatClampNeg = x.toInt64 := by
    rcases hq with ⟨rfl, h9⟩ | ⟨t, rfl, h9⟩
    · rw [hw.2]; rfl
    · exact absurd (hw.1.symm.trans h0) (by decide)
  rw [ho]
  have hcm : lg_cmp x.toInt64 x.toInt64 = 0 := by simp [lg_cmp]
  refine lv_if_eq (tgt := 1474) hx hb dK_1469 (by decide) (fun _ => ?_) (fun h => absurd hcm h)
  refine lv_goto (tgt := 1617) hx hb dK_1474 (by decide) ?_
  exact kk _ _ _ ls H locs hz2 (lv_sub hl [2, 3, 4, 5, 6] rfl) hR
end LjThk
