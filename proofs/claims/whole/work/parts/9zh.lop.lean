/-! The law's loop -/
theorem dM_23 : decode cL_law 23 = .ok (.iload 4, 2) := by decide +kernel
theorem dM_25 : decode cL_law 25 = .ok (.aload_n 0, 1) := by decide +kernel
theorem dM_26 : decode cL_law 26 = .ok (.arraylength, 1) := by decide +kernel
theorem dM_27 : decode cL_law 27 = .ok (.bipush 7, 2) := by decide +kernel
theorem dM_29 : decode cL_law 29 = .ok (.isub, 1) := by decide +kernel
theorem dM_30 : decode cL_law 30 = .ok (.if_icmp .gt 1593, 3) := by decide +kernel
theorem dM_33 : decode cL_law 33 = .ok (.aload_n 0, 1) := by decide +kernel
theorem dM_34 : decode cL_law 34 = .ok (.iload 4, 2) := by decide +kernel
theorem dM_36 : decode cL_law 36 = .ok (.iaload, 1) := by decide +kernel
theorem dM_37 : decode cL_law 37 = .ok (.bipush 31, 2) := by decide +kernel
theorem dM_39 : decode cL_law 39 = .ok (.iand, 1) := by decide +kernel
def lj_tbl : Array Int := #[144, 291, 304, 317, 354, 391, 440, 477, 538, 575, 624, 692, 741, 766, 803, 828, 853, 890, 939, 964, 989, 1026, 1118, 1155, 1216, 1241, 1294, 1319, 1437, 1486, 1499, 1552]
theorem dM_40 : decode cL_law 40 = .ok (.tableswitch 1577 0 31 lj_tbl, 144) := by decide +kernel
theorem dM_1617 : decode cL_law 1617 = .ok (.iinc 4 7, 3) := by decide +kernel
theorem dM_1620 : decode cL_law 1620 = .ok (.goto (-1597), 3) := by decide +kernel
theorem dM_1623 : decode cL_law 1623 = .ok (.iconst 1, 1) := by decide +kernel
theorem dM_1624 : decode cL_law 1624 = .ok (.ireturn, 1) := by decide +kernel
theorem lj_m31 (y : Int32) : ∃ k : Nat, k < 32 ∧ y &&& 31 = nI k := by
  refine ⟨(y &&& 31).toBitVec.toNat, ?_, ?_⟩
  · have h : (y &&& 31).toBitVec.toNat = y.toBitVec.toNat &&& 31 := by
      rw [Int32.toBitVec_and, BitVec.toNat_and]; rfl
    rw [h]
    exact Nat.lt_of_le_of_lt Nat.and_le_right (by omega)
  · apply Int32.toBitVec_inj.mp
    show (y &&& 31).toBitVec = BitVec.ofNat 32 (y &&& 31).toBitVec.toNat
    simp
theorem lj_in {t L : Nat} (h : 7 * t + 7 ≤ L) (hL : L ≤ 3584) (k : Int32) (h0 : 0 ≤ k) (h6 : k ≤ 6) : vp_in (nI (7 * t) + k) L := by
  obtain ⟨j, hj, rfl⟩ := nI_of2 (M := 6) (n := 6) rfl (Int32.not_lt.mpr h0) h6
  rw [nI_add]
  exact nI_in (by omega) (by omega)
section LjLop
variable {p : Program} {l : Launch} {e : Env} {s : State} {m : MethodId} {below : List Frame} {meth : Method} {c : Code} {H : Heap} {locs : List Loc} {cells slots : Nat} {Q : State → Prop} {b : Nat}
variable {ls : Array Slot} {D : va_G} {tys : List (ClassId × FieldType)} {caC adC caR adR : Nat → Nat} {co ao L : Nat} {xs : Nat → Int32} {μ r0 : g_St} {o : Nat → Int64}
set_option maxHeartbeats 2000000 in
theorem lj_sw {i y : Int32} (hl0 : l.stackTraces = false) (hx : p.tables.exec = Jvm.exec) (hb : c.code = cL_law) (hX : lj_X s b L xs) (C : lj_C p s m b c D tys caC adC caR adR co) (hce : cells + 1 ≤ 601024) (hsl : slots + 6 ≤ 7293034) (hi : ∀ k : Int32, 0 ≤ k → k ≤ 6 → vp_in (i + k) L) (hl : lv_has ls 7 [(4, .int i), (3, .ref ao), (2, .ref (adR 0)), (1, .ref (adC 0)), (0, .ref b)]) (hR : g_Rp gC D caC adC ((ao, g_oE co o) :: g_wW adR caR gR r0) (lj_A s) s.heap μ H locs) (hz : zi μ r0)
    (kk : ∀ (c1 r1 : g_St) (o1 : Nat → Int64) (ls1 : Array Slot) (H1 : Heap) (locs1 : List Loc), zi c1 r1 → lv_has ls1 7 [(4, .int i), (3, .ref ao), (2, .ref (adR 0)), (1, .ref (adC 0)), (0, .ref b)] → g_Rp gC D caC adC ((ao, g_oE co o1) :: g_wW adR caR gR r1) (lj_A s) s.heap c1 H1 locs1 → W p l e room_1 s m #[Value.ref b] below meth c H1 locs1 (cells + 1) (slots + 6) Q (F0 m 1617 ls1 [])) :
    W p l e room_1 s m #[Value.ref b] below meth c H locs cells slots Q (F0 m 40 ls [.int (y &&& 31)]) := by
  obtain ⟨k, hk, hy⟩ := lj_m31 y
  rw [hy]
  have hce0 : cells ≤ 601024 := by omega
  have hsl0 : slots ≤ 7293034 := by omega
  have kj : ∀ (c1 r1 : g_St) (H1 : Heap) (locs1 : List Loc), zi c1 r1 → g_Rp gC D caC adC ((ao, g_oE co o) :: g_wW adR caR gR r1) (lj_A s) s.heap c1 H1 locs1 → W p l e room_1 s m #[Value.ref b] below meth c H1 locs1 cells slots Q (F0 m 1617 ls []) := fun c1 r1 H1 locs1 hz1 hR1 => W.widen (by omega) (by omega) (kk c1 r1 o ls H1 locs1 hz1 hl hR1)
  match k, hk with
  | 0, _ => exact lv_tableIn (off := 144) (tgt := 184) hx hb dM_40 (by decide) (by decide) (by decide +kernel) (by decide) (lj_k_feed hx hb hX C hce0 hsl0 hi hl hR hz kj)
  | 1, _ => exact lv_tableIn (off := 291) (tgt := 331) hx hb dM_40 (by decide) (by decide) (by decide +kernel) (by decide) (lj_k_land hx hb hX C hce0 hsl0 hi hl hR hz kj)
  | 2, _ => exact lv_tableIn (off := 304) (tgt := 344) hx hb dM_40 (by decide) (by decide) (by decide +kernel) (by decide) (lj_k_rule hx hb hX C hce0 hsl0 hi hl hR hz kj)
  | 3, _ => exact lv_tableIn (off := 317) (tgt := 357) hx hb dM_40 (by decide) (by decide) (by decide +kernel) (by decide) (lj_k_way hx hb hX C hce0 hsl0 hi hl hR hz kj)
  | 4, _ => exact lv_tableIn (off := 354) (tgt := 394) hx hb dM_40 (by decide) (by decide) (by decide +kernel) (by decide) (lj_k_good hx hb hX C hce0 hsl0 hi hl hR hz kj)
  | 5, _ => exact lv_tableIn (off := 391) (tgt := 431) hx hb dM_40 (by decide) (by decide) (by decide +kernel) (by decide) (lj_k_worth hx hb hX C hce0 hsl0 hi hl hR hz kj)
  | 6, _ => exact lv_tableIn (off := 440) (tgt := 480) hx hb dM_40 (by decide) (by decide) (by decide +kernel) (by decide) (lj_k_person hx hb hX C hce0 hsl0 hi hl hR hz kj)
  | 7, _ => exact lv_tableIn (off := 477) (tgt := 517) hx hb dM_40 (by decide) (by decide) (by decide +kernel) (by decide) (lj_k_make hx hb hX C hce0 hsl0 hi hl hR hz kj)
  | 8, _ => exact lv_tableIn (off := 538) (tgt := 578) hx hb dM_40 (by decide) (by decide) (by decide +kernel) (by decide) (lj_k_go hx hb hX C hce0 hsl0 hi hl hR hz kj)
  | 9, _ => exact lv_tableIn (off := 575) (tgt := 615) hx hb dM_40 (by decide) (by decide) (by decide +kernel) (by decide) (lj_k_give hx hb hX C hce0 hsl0 hi hl hR hz kj)
  | 10, _ => exact lv_tableIn (off := 624) (tgt := 664) hx hb dM_40 (by decide) (by decide) (by decide +kernel) (by decide) (lj_k_thing hl0 hx hb hX C hce hsl hi hl hR hz kk)
  | 11, _ => exact lv_tableIn (off := 692) (tgt := 732) hx hb dM_40 (by decide) (by decide) (by decide +kernel) (by decide) (lj_k_lawful hx hb hX C hce0 hsl0 hi hl hR hz kj)
  | 12, _ => exact lv_tableIn (off := 741) (tgt := 781) hx hb dM_40 (by decide) (by decide) (by decide +kernel) (by decide) (lj_k_round hx hb hX C hce0 hsl0 hi hl hR hz kj)
  | 13, _ => exact lv_tableIn (off := 766) (tgt := 806) hx hb dM_40 (by decide) (by decide) (by decide +kernel) (by decide) (lj_k_most hx hb hX C hce0 hsl0 hi hl hR hz kj)
  | 14, _ => exact lv_tableIn (off := 803) (tgt := 843) hx hb dM_40 (by decide) (by decide) (by decide +kernel) (by decide) (lj_k_at hx hb hX C hce0 hsl0 hi hl hR hz kj)
  | 15, _ => exact lv_tableIn (off := 828) (tgt := 868) hx hb dM_40 (by decide) (by decide) (by decide +kernel) (by decide) (lj_k_length hx hb hX C hce0 hsl0 hi hl hR hz kj)
  | 16, _ => exact lv_tableIn (off := 853) (tgt := 893) hx hb dM_40 (by decide) (by decide) (by decide +kernel) (by decide) (lj_k_live hx hb hX C hce0 hsl0 hi hl hR hz kj)
  | 17, _ => exact lv_tableIn (off := 890) (tgt := 930) hx hb dM_40 (by decide) (by decide) (by decide +kernel) (by decide) (lj_k_beside hx hb hX C hce0 hsl0 hi hl hR hz kj)
  | 18, _ => exact lv_tableIn (off := 939) (tgt := 979) hx hb dM_40 (by decide) (by decide) (by decide +kernel) (by decide) (lj_k_had hx hb hX C hce0 hsl0 hi hl hR hz kj)
  | 19, _ => exact lv_tableIn (off := 964) (tgt := 1004) hx hb dM_40 (by decide) (by decide) (by decide +kernel) (by decide) (lj_k_never hx hb hX C hce0 hsl0 hi hl hR hz kj)
  | 20, _ => exact lv_tableIn (off := 989) (tgt := 1029) hx hb dM_40 (by decide) (by decide) (by decide +kernel) (by decide) (lj_k_fewest hx hb hX C hce0 hsl0 hi hl hR hz kj)
  | 21, _ => exact lv_tableIn (off := 1026) (tgt := 1066) hx hb dM_40 (by decide) (by decide) (by decide +kernel) (by decide) (lj_k_fair hl0 hx hb hX C hce hsl hi hl hR hz kk)
  | 22, _ => exact lv_tableIn (off := 1118) (tgt := 1158) hx hb dM_40 (by decide) (by decide) (by decide +kernel) (by decide) (lj_k_fairest hx hb hX C hce0 hsl0 hi hl hR hz kj)
  | 23, _ => exact lv_tableIn (off := 1155) (tgt := 1195) hx hb dM_40 (by decide) (by decide) (by decide +kernel) (by decide) (lj_k_far hx hb hX C hce0 hsl0 hi hl hR hz kj)
  | 24, _ => exact lv_tableIn (off := 1216) (tgt := 1256) hx hb dM_40 (by decide) (by decide) (by decide +kernel) (by decide) (lj_k_coin hx hb hX C hce0 hsl0 hi hl hR hz kj)
  | 25, _ => exact lv_tableIn (off := 1241) (tgt := 1281) hx hb dM_40 (by decide) (by decide) (by decide +kernel) (by decide) (lj_k_lifted hx hb hX C hce0 hsl0 hi hl hR hz kj)
  | 26, _ => exact lv_tableIn (off := 1294) (tgt := 1334) hx hb dM_40 (by decide) (by decide) (by decide +kernel) (by decide) (lj_k_lift hx hb hX C hce0 hsl0 hi hl hR hz kj)
  | 27, _ => exact lv_tableIn (off := 1319) (tgt := 1359) hx hb dM_40 (by decide) (by decide) (by decide +kernel) (by decide) (lj_k_lie hl0 hx hb hX C hce hsl hi hl hR hz kk)
  | 28, _ => exact lv_tableIn (off := 1437) (tgt := 1477) hx hb dM_40 (by decide) (by decide) (by decide +kernel) (by decide) (lj_k_years hx hb hX C hce0 hsl0 hi hl hR hz kj)
  | 29, _ => exact lv_tableIn (off := 1486) (tgt := 1526) hx hb dM_40 (by decide) (by decide) (by decide +kernel) (by decide) (lj_k_visited hx hb hX C hce0 hsl0 hi hl hR hz kj)
  | 30, _ => exact lv_tableIn (off := 1499) (tgt := 1539) hx hb dM_40 (by decide) (by decide) (by decide +kernel) (by decide) (lj_k_mark hx hb hX C hce0 hsl0 hi hl hR hz kj)
  | 31, _ => exact lv_tableIn (off := 1552) (tgt := 1592) hx hb dM_40 (by decide) (by decide) (by decide +kernel) (by decide) (lj_k_count hx hb hX C hce0 hsl0 hi hl hR hz kj)
  | k + 32, h => exact absurd h (by omega)
theorem lj_loop (hl0 : l.stackTraces = false) (hx : p.tables.exec = Jvm.exec) (hb : c.code = cL_law) (hX : lj_X s b L xs) (hL : L ≤ 3584) (C : lj_C p s m b c D tys caC adC caR adR co)
    (ke : ∀ (ls1 : Array Slot) (H1 : Heap), W p l e room_1 s m #[Value.ref b] below meth c H1 [] 601024 7293034 Q (F0 m 1624 ls1 [.int 1])) :
    ∀ (n t : Nat) (ls : Array Slot) (μ r0 : g_St) (o : Nat → Int64) (H : Heap) (locs : List Loc), L < 7 * t + n → 7 * t ≤ L → lv_has ls 7 [(4, .int (nI (7 * t))), (3, .ref ao), (2, .ref (adR 0)), (1, .ref (adC 0)), (0, .ref b)] → g_Rp gC D caC adC ((ao, g_oE co o) :: g_wW adR caR gR r0) (lj_A s) s.heap μ H locs → zi μ r0 →
      W p l e room_1 s m #[Value.ref b] below meth c H locs (183 + t) (20033 + 6 * t) Q (F0 m 23 ls []) := by
  have hbA : ¬ lj_A s b := fun z => by have z : s.heap.size ≤ b := z; have := hX.2; omega
  intro n
  induction n with
  | zero => intro t ls μ r0 o H locs h1 h2; exact absurd h1 (by omega)
  | succ n ih =>
    intro t ls μ r0 o H locs h1 h2 hl hR hz
    refine lv_iload hx hb dM_23 (lv_at hl 0 rfl) ?_
    refine lv_aload_n hx hb dM_25 rfl (lv_at hl 4 rfl) ?_
    refine va_slen hx hb hX.1 hX.2 hbA hR.2.2 dM_26 ?_
    refine lv_bipush (v := nI 7) hx hb dM_27 (by decide) ?_
    refine lv_isub hx hb dM_29 ?_
    have hLt : (Int32.ofNat L - nI 7).toInt = (L : Int) - 7 := by
      rw [Int32.toInt_sub, show (Int32.ofNat L).toInt = (L : Int) from nI_toInt (by omega), show (nI 7).toInt = 7 from rfl]
      exact Int.bmod_eq_of_le (by omega) (by omega)
    refine lv_icmp_gt (tgt := 1623) hx hb dM_30 (by decide) (fun _ => ?_) (fun h => ?_)
    · refine lv_iconst (v := 1) hx hb dM_1623 (by decide) ?_
      refine va_forget hR.2.2.2.2 ?_
      exact W.widen (by omega) (by omega) (ke ls H)
    · have h3 : 7 * t + 7 ≤ L := by
        have h : ¬ ((Int32.ofNat L - nI 7).toInt < (nI (7 * t)).toInt) := fun z => h (Int32.lt_iff_toInt_lt.mpr z)
        rw [hLt, nI_toInt (by omega)] at h
        omega
      refine lv_aload_n hx hb dM_33 rfl (lv_at hl 4 rfl) ?_
      refine lv_iload hx hb dM_34 (lv_at hl 0 rfl) ?_
      have h00 : vp_in (nI (7 * t)) L := nI_in (by omega) (by omega)
      refine va_sld hx hb hX.1 hX.2 hbA hR.2.2 h00 dM_36 ?_
      refine lv_bipush (v := 31) hx hb dM_37 (by decide) ?_
      refine lv_iand hx hb dM_39 ?_
      refine lj_sw hl0 hx hb hX C (by omega) (by omega) (lj_in h3 hL) hl hR hz (fun c1 r1 o1 ls1 H1 locs1 hz1 hl1 hR1 => ?_)
      refine lv_iinc (v := nI (7 * (t + 1))) (lv' := [(4, .int (nI (7 * (t + 1)))), (3, .ref ao), (2, .ref (adR 0)), (1, .ref (adC 0)), (0, .ref b)]) hx hb dM_1617 hl1 (k := 0) rfl ?_ (by decide) rfl (fun ls2 hl2 => ?_)
      · show nI (7 * t) + Int32.ofInt 7 = nI (7 * (t + 1))
        rw [show Int32.ofInt 7 = nI 7 from rfl, nI_add]
        rfl
      refine lv_goto (tgt := 23) hx hb dM_1620 (by decide) ?_
      exact ih (t + 1) ls2 c1 r1 o1 H1 locs1 (by omega) (by omega) hl2 hR1 hz1
end LjLop
