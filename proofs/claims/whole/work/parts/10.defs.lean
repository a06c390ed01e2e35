/-! The shallow functions of both programs, printed by wip/gen out of the claim's bytecode -/
def g_ixo (x : Int32) : Int32 := if x = 40 then 0 else if x = 41 then 1 else if x = 60 then 2 else if x = 61 then 3 else if x = 43 then 4 else if x = 45 then 5 else if x = 42 then 6 else if x = 59 then 7 else -1
def g_cp (μ : g_St) (a b n : Nat) : g_St := (fun id => if id = b then va_cpy (μ.1 a) (μ.1 b) 0 0 n else μ.1 id, μ.2)
def jj_numberOfTrailingZeros_62 (μ : g_St) (v0 : Int32) (v1 : Int32) : Option Int32 :=
  (if (4 : Int32) < v0 then
  (some ((v0.toUInt32 >>> ((2 : Int32).toUInt32 &&& Int32.toUInt32 31)).toInt32)).bind fun x5 =>
  (some ((v1 + 2) + ((x5.toUInt32 >>> ((1 : Int32).toUInt32 &&& Int32.toUInt32 31)).toInt32)))
  else
  (some (v1 + ((v0.toUInt32 >>> ((1 : Int32).toUInt32 &&& Int32.toUInt32 31)).toInt32))))
def jj_numberOfTrailingZeros_49 (μ : g_St) (v0 : Int32) (v1 : Int32) : Option Int32 :=
  (if (16 : Int32) < v0 then
  (some ((v0.toUInt32 >>> ((4 : Int32).toUInt32 &&& Int32.toUInt32 31)).toInt32)).bind fun x4 =>
  (jj_numberOfTrailingZeros_62 μ x4 (v1 + 4))
  else
  (jj_numberOfTrailingZeros_62 μ v0 v1))
def jj_numberOfTrailingZeros_34 (μ : g_St) (v0 : Int32) (v1 : Int32) : Option Int32 :=
  (if (256 : Int32) < v0 then
  (some ((v0.toUInt32 >>> ((8 : Int32).toUInt32 &&& Int32.toUInt32 31)).toInt32)).bind fun x3 =>
  (jj_numberOfTrailingZeros_49 μ x3 (v1 + 8))
  else
  (jj_numberOfTrailingZeros_49 μ v0 v1))
def jj_numberOfTrailingZeros (μ : g_St) (v0 : Int32) : Option Int32 :=
  (some ((v0 ^^^ (-1 : Int32)) &&& (v0 - (1 : Int32)))).bind fun x1 =>
  (if x1 ≤ 0 then
  (some (x1 &&& (32 : Int32)))
  else
  (if (65536 : Int32) < x1 then
  (some ((x1.toUInt32 >>> ((16 : Int32).toUInt32 &&& Int32.toUInt32 31)).toInt32)).bind fun x2 =>
  (jj_numberOfTrailingZeros_34 μ x2 ((1 : Int32) + 16))
  else
  (jj_numberOfTrailingZeros_34 μ x1 (1 : Int32))))
def jj_bitCount (μ : g_St) (v0 : Int32) : Option Int32 :=
  (some (v0 - (((v0.toUInt32 >>> ((1 : Int32).toUInt32 &&& Int32.toUInt32 31)).toInt32) &&& (1431655765 : Int32)))).bind fun x1 =>
  (some ((x1 &&& (858993459 : Int32)) + (((x1.toUInt32 >>> ((2 : Int32).toUInt32 &&& Int32.toUInt32 31)).toInt32) &&& (858993459 : Int32)))).bind fun x2 =>
  (some ((x2 + ((x2.toUInt32 >>> ((4 : Int32).toUInt32 &&& Int32.toUInt32 31)).toInt32)) &&& (252645135 : Int32))).bind fun x3 =>
  (some (x3 + ((x3.toUInt32 >>> ((8 : Int32).toUInt32 &&& Int32.toUInt32 31)).toInt32))).bind fun x4 =>
  (some (x4 + ((x4.toUInt32 >>> ((16 : Int32).toUInt32 &&& Int32.toUInt32 31)).toInt32))).bind fun x5 =>
  (some (x5 &&& (63 : Int32)))
def jl_canEncode (μ : g_St) (v0 : Int32) : Option Int32 :=
  (if 0 ≤ v0 then
  (if v0 ≤ (255 : Int32) then
  (some (1 : Int32))
  else
  (some (0 : Int32)))
  else
  (some (0 : Int32)))
def jl_indexOfChar_7_b (F : Nat) (i : Nat) (μ : g_St) (v3 : Int32) (v4 : Int32) (K_7 : Int32 → Option Int32) (v5 : Int32) : Option Int32 :=
  (if v5 < v3 then
  (g_sbr i v5).bind fun x1 =>
  (if x1 = v4 then
  (some v5)
  else
  (K_7 (v5 + 1)))
  else
  (some (-1 : Int32)))
def jl_indexOfChar_7 (F : Nat) (i : Nat) (μ : g_St) (v3 : Int32) (v4 : Int32) : Nat → Int32 → Option Int32
  | 0, _ => none
  | f + 1, v5 => jl_indexOfChar_7_b F i μ v3 v4 (jl_indexOfChar_7 F i μ v3 v4 f) v5 
def jl_indexOfChar (F : Nat) (i : Nat) (μ : g_St) (v1 : Int32) (v2 : Int32) (v3 : Int32) : Option Int32 :=
  (jl_indexOfChar_7 F i μ v3 (g_nb v1) F v2)
def jl_indexOf (F : Nat) (i : Nat) (μ : g_St) (v1 : Int32) (v2 : Int32) (v3 : Int32) : Option Int32 :=
  (jl_canEncode μ v1).bind fun x1 =>
  (if x1 = 0 then
  (some (-1 : Int32))
  else
  (if (g_min v3 (Int32.ofNat (g_sl i))) ≤ (g_max v2 (0 : Int32)) then
  (some (-1 : Int32))
  else
  (jl_indexOfChar F i μ v1 (g_max v2 (0 : Int32)) (g_min v3 (Int32.ofNat (g_sl i)))).bind fun x2 =>
  (some x2)))
def js_coder (i : Nat) (μ : g_St) : Option Int32 :=
  (if (1 : Int32) = 0 then
  (some (1 : Int32))
  else
  (some (0 : Int32)))
def js_length (i : Nat) (μ : g_St) : Option Int32 :=
  (js_coder i μ).bind fun x1 =>
  (some ((Int32.ofNat (g_sl i)) >>> (x1 &&& 31)))
def js_isLatin1 (i : Nat) (μ : g_St) : Option Int32 :=
  (if (1 : Int32) = 0 then
  (some (0 : Int32))
  else
  (if (0 : Int32) = 0 then
  (some (1 : Int32))
  else
  (some (0 : Int32))))
def js_indexOf2 (F : Nat) (i : Nat) (μ : g_St) (v1 : Int32) (v2 : Int32) : Option Int32 :=
  (js_isLatin1 i μ).bind fun x1 =>
  (if x1 = 0 then
  (js_length i μ).bind fun x4 =>
  none
  else
  (js_length i μ).bind fun x2 =>
  (jl_indexOf F i μ v1 v2 x2).bind fun x3 =>
  (some x3))
def js_indexOf (F : Nat) (i : Nat) (μ : g_St) (v1 : Int32) : Option Int32 :=
  (js_indexOf2 F i μ v1 (0 : Int32)).bind fun x1 =>
  (some x1)
def jj_fill_5_b (F : Nat) (a0 na0 : Nat) (v1 : Int32) (v3 : Int32) (K_5 : Int32 → g_St → Option g_St) (v2 : Int32) (μ : g_St) : Option g_St :=
  (if v2 < v3 then
  (g_wr μ a0 na0 v2 v1).bind fun μ1 =>
  (K_5 (v2 + 1) μ1)
  else
  (some μ))
def jj_fill_5 (F : Nat) (a0 na0 : Nat) (v1 : Int32) (v3 : Int32) : Nat → Int32 → g_St → Option g_St
  | 0, _, _ => none
  | f + 1, v2, μ => jj_fill_5_b F a0 na0 v1 v3 (jj_fill_5 F a0 na0 v1 v3 f) v2 μ
def jj_fill (F : Nat) (a0 na0 : Nat) (v1 : Int32) (μ : g_St) : Option g_St :=
  (jj_fill_5 F a0 na0 v1 (Int32.ofNat na0) F (0 : Int32) μ)
def ow_begin_12_b (F : Nat) (bw : Nat) (bl : Nat) (K_12 : Int32 → g_St → Option g_St) (v2 : Int32) (μ : g_St) : Option g_St :=
  (if v2 < (μ.1 bl 2) then
  (g_wr μ (bw + 6) 8 v2 (0 : Int32)).bind fun μ3 =>
  (g_rd μ3 (bl + 12) 8 v2).bind fun x4 =>
  (g_wr μ3 (bw + 7) 8 v2 x4).bind fun μ5 =>
  (K_12 (v2 + 1) μ5)
  else
  (some μ))
def ow_begin_12 (F : Nat) (bw : Nat) (bl : Nat) : Nat → Int32 → g_St → Option g_St
  | 0, _, _ => none
  | f + 1, v2, μ => ow_begin_12_b F bw bl (ow_begin_12 F bw bl f) v2 μ
def ow_begin (F : Nat) (bw : Nat) (bl : Nat) (μ : g_St) : Option g_St :=
  (some (g_sI μ bw 0 (0 : Int32))).bind fun μ1 =>
  (some (g_sI μ1 bw 1 (0 : Int32))).bind fun μ2 =>
  (ow_begin_12 F bw bl F (0 : Int32) μ2)
def ow_copy (bw : Nat) (bw2 : Nat) (μ : g_St) : Option g_St :=
  (some (g_sI μ bw 0 (μ.1 bw2 0))).bind fun μ1 =>
  (some (g_sI μ1 bw 1 (μ1.1 bw2 1))).bind fun μ2 =>
  (some (g_cp μ2 (bw2 + 1) (bw + 1) 40)).bind fun μ3 =>
  (some (g_cp μ3 (bw2 + 2) (bw + 2) 40)).bind fun μ4 =>
  (some (g_cp μ4 (bw2 + 3) (bw + 3) 40)).bind fun μ5 =>
  (some (g_cp μ5 (bw2 + 4) (bw + 4) 40)).bind fun μ6 =>
  (some (g_cp μ6 (bw2 + 5) (bw + 5) 40)).bind fun μ7 =>
  (some (g_cp μ7 (bw2 + 6) (bw + 6) 8)).bind fun μ8 =>
  (some (g_cp μ8 (bw2 + 7) (bw + 7) 8)).bind fun μ9 =>
  (some μ9)
def ow_laterClock (bw : Nat) (μ : g_St) (v1 : Int32) (v2 : Int32) : Option Int32 :=
  (g_rd μ (bw + 6) 8 v1).bind fun x1 =>
  (g_rd μ (bw + 6) 8 v2).bind fun x2 =>
  (some (g_max x1 x2))
def ow_setClocks (bw : Nat) (v1 : Int32) (v2 : Int32) (v3 : Int32) (μ : g_St) : Option g_St :=
  (g_wr μ (bw + 6) 8 v1 v3).bind fun μ1 =>
  (g_wr μ1 (bw + 6) 8 v2 v3).bind fun μ2 =>
  (some μ2)
def ow_add (bw : Nat) (v1 : Int32) (v2 : Int32) (v3 : Int32) (v4 : Int32) (v5 : Int32) (μ : g_St) : Option g_St :=
  (if (μ.1 bw 0) < (40 : Int32) then
  (g_wr μ (bw + 1) 40 (μ.1 bw 0) v1).bind fun μ1 =>
  (g_wr μ1 (bw + 2) 40 (μ1.1 bw 0) v2).bind fun μ2 =>
  (g_wr μ2 (bw + 3) 40 (μ2.1 bw 0) v3).bind fun μ3 =>
  (g_wr μ3 (bw + 4) 40 (μ3.1 bw 0) v4).bind fun μ4 =>
  (g_wr μ4 (bw + 5) 40 (μ4.1 bw 0) v5).bind fun μ5 =>
  (some (g_sI μ5 bw 0 ((μ5.1 bw 0) + (1 : Int32)))).bind fun μ6 =>
  (some μ6)
  else
  (some μ))
def ow_firstHeld_2_b (F : Nat) (bw : Nat) (μ : g_St) (v1 : Int32) (v2 : Int32) (K_2 : Int32 → Option Int32) (v3 : Int32) : Option Int32 :=
  (if v3 < (μ.1 bw 0) then
  (g_rd μ (bw + 4) 40 v3).bind fun x1 =>
  (if x1 = v1 then
  (g_rd μ (bw + 1) 40 v3).bind fun x2 =>
  (if x2 = v2 then
  (some v3)
  else
  (K_2 (v3 + 1)))
  else
  (K_2 (v3 + 1)))
  else
  (some (-1 : Int32)))
def ow_firstHeld_2 (F : Nat) (bw : Nat) (μ : g_St) (v1 : Int32) (v2 : Int32) : Nat → Int32 → Option Int32
  | 0, _ => none
  | f + 1, v3 => ow_firstHeld_2_b F bw μ v1 v2 (ow_firstHeld_2 F bw μ v1 v2 f) v3 
def ow_firstHeld (F : Nat) (bw : Nat) (μ : g_St) (v1 : Int32) (v2 : Int32) : Option Int32 :=
  (ow_firstHeld_2 F bw μ v1 v2 F (0 : Int32))
def ow_holdsOfEach_2_b (F : Nat) (bw : Nat) (μ : g_St) (v1 : Int32) (v2 : Int32) (K_2 : Int32 → Option Int32) (v3 : Int32) : Option Int32 :=
  (if v3 < (6 : Int32) then
  (if ((v2 >>> (v3 &&& 31)) &&& (1 : Int32)) = (1 : Int32) then
  (ow_firstHeld F bw μ v1 v3).bind fun x1 =>
  (if x1 = (-1 : Int32) then
  (some (0 : Int32))
  else
  (K_2 (v3 + 1)))
  else
  (K_2 (v3 + 1)))
  else
  (some (1 : Int32)))
def ow_holdsOfEach_2 (F : Nat) (bw : Nat) (μ : g_St) (v1 : Int32) (v2 : Int32) : Nat → Int32 → Option Int32
  | 0, _ => none
  | f + 1, v3 => ow_holdsOfEach_2_b F bw μ v1 v2 (ow_holdsOfEach_2 F bw μ v1 v2 f) v3 
def ow_holdsOfEach (F : Nat) (bw : Nat) (μ : g_St) (v1 : Int32) (v2 : Int32) : Option Int32 :=
  (ow_holdsOfEach_2 F bw μ v1 v2 F (0 : Int32))
def ow_useUp_27 (F : Nat) (bw : Nat) (K_2 : Int32 → g_St → Option g_St) (v1 : Int32) (v2 : Int32) (v3 : Int32) (s0 : Int32) (μ : g_St) : Option g_St :=
  (if s0 = (-1 : Int32) then
  (K_2 (v3 + 1) μ)
  else
  (g_wr μ (bw + 4) 40 s0 (-1 : Int32)).bind fun μ2 =>
  (K_2 (v3 + 1) μ2))
def ow_useUp_2_b (F : Nat) (bw : Nat) (v1 : Int32) (v2 : Int32) (K_2 : Int32 → g_St → Option g_St) (v3 : Int32) (μ : g_St) : Option g_St :=
  (if v3 < (6 : Int32) then
  (if ((v2 >>> (v3 &&& 31)) &&& (1 : Int32)) = (1 : Int32) then
  (ow_firstHeld F bw μ v1 v3).bind fun x1 =>
  (ow_useUp_27 F bw K_2 v1 v2 v3 x1 μ)
  else
  (ow_useUp_27 F bw K_2 v1 v2 v3 (-1 : Int32) μ))
  else
  (some μ))
def ow_useUp_2 (F : Nat) (bw : Nat) (v1 : Int32) (v2 : Int32) : Nat → Int32 → g_St → Option g_St
  | 0, _, _ => none
  | f + 1, v3, μ => ow_useUp_2_b F bw v1 v2 (ow_useUp_2 F bw v1 v2 f) v3 μ
def ow_useUp (F : Nat) (bw : Nat) (v1 : Int32) (v2 : Int32) (μ : g_St) : Option g_St :=
  (ow_useUp_2 F bw v1 v2 F (0 : Int32) μ)
def ow_held_5_b (F : Nat) (bw : Nat) (μ : g_St) (v1 : Int32) (v2 : Int32) (K_5 : Int32 → Int32 → Option Int32) (v3 : Int32) (v4 : Int32) : Option Int32 :=
  (if v4 < (μ.1 bw 0) then
  (g_rd μ (bw + 4) 40 v4).bind fun x1 =>
  (if x1 = v1 then
  (g_rd μ (bw + 1) 40 v4).bind fun x2 =>
  (if x2 = v2 then
  (K_5 (v3 + (1 : Int32)) (v4 + 1))
  else
  (K_5 (v3 + (0 : Int32)) (v4 + 1)))
  else
  (K_5 (v3 + (0 : Int32)) (v4 + 1)))
  else
  (some v3))
def ow_held_5 (F : Nat) (bw : Nat) (μ : g_St) (v1 : Int32) (v2 : Int32) : Nat → Int32 → Int32 → Option Int32
  | 0, _, _ => none
  | f + 1, v3, v4 => ow_held_5_b F bw μ v1 v2 (ow_held_5 F bw μ v1 v2 f) v3 v4 
def ow_held (F : Nat) (bw : Nat) (μ : g_St) (v1 : Int32) (v2 : Int32) : Option Int32 :=
  (ow_held_5 F bw μ v1 v2 F (0 : Int32) (0 : Int32))
def ow_heldBy_4_b (F : Nat) (bw : Nat) (μ : g_St) (v1 : Int32) (K_4 : Int32 → Int32 → Option Int32) (v2 : Int32) (v3 : Int32) : Option Int32 :=
  (if v3 < (μ.1 bw 0) then
  (g_rd μ (bw + 4) 40 v3).bind fun x1 =>
  (if x1 = v1 then
  (K_4 (v2 + (1 : Int32)) (v3 + 1))
  else
  (K_4 (v2 + (0 : Int32)) (v3 + 1)))
  else
  (some v2))
def ow_heldBy_4 (F : Nat) (bw : Nat) (μ : g_St) (v1 : Int32) : Nat → Int32 → Int32 → Option Int32
  | 0, _, _ => none
  | f + 1, v2, v3 => ow_heldBy_4_b F bw μ v1 (ow_heldBy_4 F bw μ v1 f) v2 v3 
def ow_heldBy (F : Nat) (bw : Nat) (μ : g_St) (v1 : Int32) : Option Int32 :=
  (ow_heldBy_4 F bw μ v1 F (0 : Int32) (0 : Int32))
def ow_heldAtAll (F : Nat) (bw : Nat) (μ : g_St) : Option Int32 :=
  (ow_heldBy F bw μ (-1 : Int32)).bind fun x1 =>
  (some ((μ.1 bw 0) - x1))
def ot_add_43 (F : Nat) (K_3 : Int32 → g_St → Option g_St) (v1 : Int64) (v3 : Int32) (v4 : Int32) (s0 : Int32) (μ : g_St) : Option g_St :=
  (if s0 = 0 then
  (K_3 (v3 + (-8)) μ)
  else
  (if (μ.1 1 2) < (1000 : Int32) then
  (g_wr μ 3 1000 (μ.1 1 2) (g_nh (g_nc v4))).bind fun μ2 =>
  (some (g_sI μ2 1 2 ((μ2.1 1 2) + (1 : Int32)))).bind fun μ3 =>
  (K_3 (v3 + (-8)) μ3)
  else
  (K_3 (v3 + (-8)) μ)))
def ot_add_38 (F : Nat) (K_3 : Int32 → g_St → Option g_St) (v1 : Int64) (v3 : Int32) (v4 : Int32) (μ : g_St) : Option g_St :=
  (ot_add_43 F K_3 v1 v3 v4 (1 : Int32) μ)
def ot_add_42 (F : Nat) (K_3 : Int32 → g_St → Option g_St) (v1 : Int64) (v3 : Int32) (v4 : Int32) (μ : g_St) : Option g_St :=
  (ot_add_43 F K_3 v1 v3 v4 (0 : Int32) μ)
def ot_add_3_b (F : Nat) (v1 : Int64) (K_3 : Int32 → g_St → Option g_St) (v3 : Int32) (μ : g_St) : Option g_St :=
  (if 0 ≤ v3 then
  (some ((((v1.toUInt64 >>> (v3.toInt64.toUInt64 &&& Int64.toUInt64 63)).toInt64).toInt32) &&& (255 : Int32))).bind fun x1 =>
  (if x1 = (10 : Int32) then
  (ot_add_38 F K_3 v1 v3 x1 μ)
  else
  (if (32 : Int32) ≤ x1 then
  (if x1 ≤ (126 : Int32) then
  (ot_add_38 F K_3 v1 v3 x1 μ)
  else
  (ot_add_42 F K_3 v1 v3 x1 μ))
  else
  (ot_add_42 F K_3 v1 v3 x1 μ)))
  else
  (some μ))
def ot_add_3 (F : Nat) (v1 : Int64) : Nat → Int32 → g_St → Option g_St
  | 0, _, _ => none
  | f + 1, v3, μ => ot_add_3_b F v1 (ot_add_3 F v1 f) v3 μ
def ot_add (F : Nat) (v1 : Int64) (μ : g_St) : Option g_St :=
  (ot_add_3 F v1 F (56 : Int32) μ)
def ot_isLetter (μ : g_St) (v0 : Int32) : Option Int32 :=
  (if (97 : Int32) ≤ v0 then
  (if v0 ≤ (122 : Int32) then
  (some (1 : Int32))
  else
  (some (0 : Int32)))
  else
  (some (0 : Int32)))
def ot_withLetter (μ : g_St) (v0 : Int64) (v2 : Int32) : Option Int64 :=
  (some ((v0 * (32 : Int64)) + (((v2 - (97 : Int32)) + (1 : Int32)).toInt64)))
def ot_keep (v1 : Int32) (v2 : Int32) (v3 : Int64) (μ : g_St) : Option g_St :=
  (if (μ.1 1 6) < (1001 : Int32) then
  (g_wr μ 4 1001 (μ.1 1 6) v1).bind fun μ1 =>
  (g_wr μ1 5 1001 (μ1.1 1 6) v2).bind fun μ2 =>
  (g_wl μ2 6 1001 (μ2.1 1 6) v3).bind fun μ3 =>
  (some (g_sI μ3 1 6 ((μ3.1 1 6) + (1 : Int32)))).bind fun μ4 =>
  (some μ4)
  else
  (some μ))
def oo_indexIn_3_b (F : Nat) (a0 na0 : Nat) (μ : g_St) (v1 : Int32) (v2 : Int64) (K_3 : Int32 → Option Int32) (v4 : Int32) : Option Int32 :=
  (if v4 < v1 then
  (if v4 < (Int32.ofNat na0) then
  (g_rl μ a0 na0 v4).bind fun x1 =>
  (if (lg_cmp x1 v2) = 0 then
  (some v4)
  else
  (K_3 (v4 + 1)))
  else
  (some (-1 : Int32)))
  else
  (some (-1 : Int32)))
def oo_indexIn_3 (F : Nat) (a0 na0 : Nat) (μ : g_St) (v1 : Int32) (v2 : Int64) : Nat → Int32 → Option Int32
  | 0, _ => none
  | f + 1, v4 => oo_indexIn_3_b F a0 na0 μ v1 v2 (oo_indexIn_3 F a0 na0 μ v1 v2 f) v4 
def oo_indexIn (F : Nat) (a0 na0 : Nat) (μ : g_St) (v1 : Int32) (v2 : Int64) : Option Int32 :=
  (oo_indexIn_3 F a0 na0 μ v1 v2 F (0 : Int32))
def ot_readWord_96 (F : Nat) (v1 : Int32) (v2 : Int64) (v4 : Int32) (s0 : Int32) (μ : g_St) : Option (Int32 × g_St) :=
  (ot_keep s0 v1 v2 μ).bind fun μ7 =>
  (some (v4, μ7))
def ot_readWord_45 (F : Nat) (v1 : Int32) (v2 : Int64) (v4 : Int32) (μ : g_St) : Option (Int32 × g_St) :=
  (oo_indexIn F 2 20 μ (20 : Int32) v2).bind fun x5 =>
  (if (8 : Int32) < (v4 - v1) then
  (ot_keep (203 : Int32) v1 (0 : Int64) μ).bind fun μ6 =>
  (some (v4, μ6))
  else
  (if x5 = (-1 : Int32) then
  (ot_readWord_96 F v1 v2 v4 (200 : Int32) μ)
  else
  (ot_readWord_96 F v1 v2 v4 x5 μ)))
def ot_readWord_5_b (F : Nat) (v1 : Int32) (K_5 : Int64 → Int32 → g_St → Option (Int32 × g_St)) (v2 : Int64) (v4 : Int32) (μ : g_St) : Option (Int32 × g_St) :=
  (if v4 < (μ.1 1 2) then
  (g_rd μ 3 1000 v4).bind fun x1 =>
  (ot_isLetter μ x1).bind fun x2 =>
  (if x2 = 0 then
  (ot_readWord_45 F v1 v2 v4 μ)
  else
  (g_rd μ 3 1000 v4).bind fun x3 =>
  (ot_withLetter μ v2 x3).bind fun x4 =>
  (K_5 x4 (v4 + 1) μ))
  else
  (ot_readWord_45 F v1 v2 v4 μ))
def ot_readWord_5 (F : Nat) (v1 : Int32) : Nat → Int64 → Int32 → g_St → Option (Int32 × g_St)
  | 0, _, _, _ => none
  | f + 1, v2, v4, μ => ot_readWord_5_b F v1 (ot_readWord_5 F v1 f) v2 v4 μ
def ot_readWord (F : Nat) (v1 : Int32) (μ : g_St) : Option (Int32 × g_St) :=
  (ot_readWord_5 F v1 F (0 : Int64) v1 μ)
def ot_isDigit (μ : g_St) (v0 : Int32) : Option Int32 :=
  (if (48 : Int32) ≤ v0 then
  (if v0 ≤ (57 : Int32) then
  (some (1 : Int32))
  else
  (some (0 : Int32)))
  else
  (some (0 : Int32)))
def ot_readNumber_62 (F : Nat) (v1 : Int32) (v2 : Int32) (v3 : Int32) (s0 : Int32) (μ : g_St) : Option (Int32 × g_St) :=
  (ot_keep s0 v1 (v2.toInt64) μ).bind fun μ5 =>
  (some (v3, μ5))
def ot_readNumber_45 (F : Nat) (v1 : Int32) (v2 : Int32) (v3 : Int32) (μ : g_St) : Option (Int32 × g_St) :=
  (if (4 : Int32) < (v3 - v1) then
  (ot_readNumber_62 F v1 v2 v3 (203 : Int32) μ)
  else
  (ot_readNumber_62 F v1 v2 v3 (201 : Int32) μ))
def ot_readNumber_4_b (F : Nat) (v1 : Int32) (K_4 : Int32 → Int32 → g_St → Option (Int32 × g_St)) (v2 : Int32) (v3 : Int32) (μ : g_St) : Option (Int32 × g_St) :=
  (if v3 < (μ.1 1 2) then
  (g_rd μ 3 1000 v3).bind fun x1 =>
  (ot_isDigit μ x1).bind fun x2 =>
  (if x2 = 0 then
  (ot_readNumber_45 F v1 v2 v3 μ)
  else
  (g_rd μ 3 1000 v3).bind fun x3 =>
  (some ((v2 * (10 : Int32)) + (x3 - (48 : Int32)))).bind fun x4 =>
  (K_4 x4 (v3 + 1) μ))
  else
  (ot_readNumber_45 F v1 v2 v3 μ))
def ot_readNumber_4 (F : Nat) (v1 : Int32) : Nat → Int32 → Int32 → g_St → Option (Int32 × g_St)
  | 0, _, _, _ => none
  | f + 1, v2, v3, μ => ot_readNumber_4_b F v1 (ot_readNumber_4 F v1 f) v2 v3 μ
def ot_readNumber (F : Nat) (v1 : Int32) (μ : g_St) : Option (Int32 × g_St) :=
  (ot_readNumber_4 F v1 F (0 : Int32) v1 μ)
def ot_readToken_62 (F : Nat) (v1 : Int32) (s0 : Int32) (μ : g_St) : Option (Int32 × g_St) :=
  (ot_keep s0 v1 (0 : Int64) μ).bind fun μ7 =>
  (some ((v1 + (1 : Int32)), μ7))
def ot_readToken (F : Nat) (v1 : Int32) (μ : g_St) : Option (Int32 × g_St) :=
  (g_rd μ 3 1000 v1).bind fun x1 =>
  (ot_isLetter μ x1).bind fun x2 =>
  (if x2 = 0 then
  (ot_isDigit μ x1).bind fun x4 =>
  (if x4 = 0 then
  (if x1 = (32 : Int32) then
  (some ((v1 + (1 : Int32)), μ))
  else
  (if x1 = (10 : Int32) then
  (some ((v1 + (1 : Int32)), μ))
  else
  (js_indexOf F 0 μ x1).bind fun x6 =>
  (if 0 ≤ x6 then
  (ot_readToken_62 F v1 x1 μ)
  else
  (ot_readToken_62 F v1 (203 : Int32) μ))))
  else
  (ot_readNumber F v1 μ).bind fun q5 =>
  (some (q5.1, q5.2)))
  else
  (ot_readWord F v1 μ).bind fun q3 =>
  (some (q3.1, q3.2)))
def ot_advance (μ : g_St) : Option g_St :=
  (if ((μ.1 1 7) + (1 : Int32)) < (μ.1 1 6) then
  (some (g_sI μ 1 7 ((μ.1 1 7) + (1 : Int32)))).bind fun μ1 =>
  (g_rd μ1 4 1001 (μ1.1 1 7)).bind fun x2 =>
  (some (g_sI μ1 1 8 x2)).bind fun μ3 =>
  (g_rl μ3 6 1001 (μ3.1 1 7)).bind fun x4 =>
  (some (g_sL μ3 1 9 x4)).bind fun μ5 =>
  (some μ5)
  else
  (some μ))
def ot_open_41 (F : Nat) (μ : g_St) : Option g_St :=
  (ot_keep (202 : Int32) (μ.1 1 2) (0 : Int64) μ).bind fun μ4 =>
  (some (g_sI μ4 1 7 (-1 : Int32))).bind fun μ5 =>
  (ot_advance μ5).bind fun μ6 =>
  (some μ6)
def ot_open_14_b (F : Nat) (K_14 : Int32 → Int32 → g_St → Option g_St) (v1 : Int32) (v2 : Int32) (μ : g_St) : Option g_St :=
  (if v2 < (1000 : Int32) then
  (if v1 < (μ.1 1 2) then
  (ot_readToken F v1 μ).bind fun q3 =>
  (K_14 q3.1 (v2 + 1) q3.2)
  else
  (ot_open_41 F μ))
  else
  (ot_open_41 F μ))
def ot_open_14 (F : Nat) : Nat → Int32 → Int32 → g_St → Option g_St
  | 0, _, _, _ => none
  | f + 1, v1, v2, μ => ot_open_14_b F (ot_open_14 F f) v1 v2 μ
def ot_open (F : Nat) (μ : g_St) : Option g_St :=
  (some (g_sI μ 1 6 (0 : Int32))).bind fun μ1 =>
  (some (g_sI μ1 1 10 (0 : Int32))).bind fun μ2 =>
  (ot_open_14 F F (0 : Int32) (0 : Int32) μ2)
def ot_close (μ : g_St) : Option (Int32 × g_St) :=
  (some (g_sI μ 1 2 (0 : Int32))).bind fun μ1 =>
  (some ((μ1.1 1 10), μ1))
def ot_isName (μ : g_St) : Option Int32 :=
  (if (μ.1 1 8) = (200 : Int32) then
  (some (1 : Int32))
  else
  (if (8 : Int32) < (μ.1 1 8) then
  (if (μ.1 1 8) < (20 : Int32) then
  (some (1 : Int32))
  else
  (some (0 : Int32)))
  else
  (some (0 : Int32))))
def ot_wrong (v1 : Int32) (μ : g_St) : Option (Int32 × g_St) :=
  (g_rd μ 5 1001 (μ.1 1 7)).bind fun x1 =>
  (some (g_sI μ 1 10 (v1 + ((16 : Int32) * x1)))).bind fun μ2 =>
  (some ((0 : Int32), μ2))
def ot_take (v1 : Int32) (μ : g_St) : Option (Int32 × g_St) :=
  (if (μ.1 1 8) = v1 then
  (ot_advance μ).bind fun μ2 =>
  (some ((1 : Int32), μ2))
  else
  (ot_wrong (1 : Int32) μ).bind fun q1 =>
  (some ((q1.1 &&& 1), q1.2)))
def ot_takeNumber_46 (s0 : Int32) (μ : g_St) : Option (Int32 × g_St) :=
  (ot_wrong s0 μ).bind fun q1 =>
  (some ((-1 : Int32), q1.2))
def ot_takeNumber_30 (μ : g_St) : Option (Int32 × g_St) :=
  (if (μ.1 1 8) = (201 : Int32) then
  (ot_takeNumber_46 (4 : Int32) μ)
  else
  (ot_takeNumber_46 (1 : Int32) μ))
def ot_takeNumber (v1 : Int32) (v2 : Int32) (μ : g_St) : Option (Int32 × g_St) :=
  (if (μ.1 1 8) = (201 : Int32) then
  (if 0 ≤ (lg_cmp (μ.2.1 1 9) (v1.toInt64)) then
  (if 0 < (lg_cmp (μ.2.1 1 9) (v2.toInt64)) then
  (ot_takeNumber_30 μ)
  else
  (ot_advance μ).bind fun μ2 =>
  (some (((μ.2.1 1 9).toInt32), μ2)))
  else
  (ot_takeNumber_30 μ))
  else
  (ot_takeNumber_30 μ))
def ol_clear_51_b (F : Nat) (bl : Nat) (K_51 : Int32 → g_St → Option g_St) (v1 : Int32) (μ : g_St) : Option g_St :=
  (if v1 < (8 : Int32) then
  (g_rr (fun j => bl + 15 + j) 8 v1).bind fun r10 =>
  (jj_fill F r10 18 (0 : Int32) μ).bind fun μ12 =>
  (K_51 (v1 + 1) μ12)
  else
  (some μ))
def ol_clear_51 (F : Nat) (bl : Nat) : Nat → Int32 → g_St → Option g_St
  | 0, _, _ => none
  | f + 1, v1, μ => ol_clear_51_b F bl (ol_clear_51 F bl f) v1 μ
def ol_clear_17_b (F : Nat) (bl : Nat) (K_17 : Int32 → g_St → Option g_St) (v1 : Int32) (μ : g_St) : Option g_St :=
  (if v1 < (5 : Int32) then
  (g_rr (fun j => bl + 5 + j) 5 v1).bind fun r4 =>
  (jj_fill F r4 5 (999 : Int32) μ).bind fun μ6 =>
  (g_rr (fun j => bl + 5 + j) 5 v1).bind fun r7 =>
  (g_wr μ6 r7 5 v1 (0 : Int32)).bind fun μ9 =>
  (K_17 (v1 + 1) μ9)
  else
  (ol_clear_51 F bl F (0 : Int32) μ))
def ol_clear_17 (F : Nat) (bl : Nat) : Nat → Int32 → g_St → Option g_St
  | 0, _, _ => none
  | f + 1, v1, μ => ol_clear_17_b F bl (ol_clear_17 F bl f) v1 μ
def ol_clear (F : Nat) (bl : Nat) (μ : g_St) : Option g_St :=
  (some (g_sI μ bl 0 (0 : Int32))).bind fun μ1 =>
  (some (g_sI μ1 bl 1 (0 : Int32))).bind fun μ2 =>
  (some (g_sI μ2 bl 2 (0 : Int32))).bind fun μ3 =>
  (ol_clear_17 F bl F (0 : Int32) μ3)
def ol_isTold (F : Nat) (bl : Nat) (μ : g_St) (v1 : Int64) : Option Int32 :=
  (oo_indexIn F (bl + 1) 5 μ (μ.1 bl 0) v1).bind fun x1 =>
  (if x1 = (-1 : Int32) then
  (oo_indexIn F (bl + 2) 6 μ (μ.1 bl 1) v1).bind fun x2 =>
  (if x2 = (-1 : Int32) then
  (oo_indexIn F (bl + 3) 8 μ (μ.1 bl 2) v1).bind fun x3 =>
  (if x3 = (-1 : Int32) then
  (some (0 : Int32))
  else
  (some (1 : Int32)))
  else
  (some (1 : Int32)))
  else
  (some (1 : Int32)))
def ol_shortenWays_22_b (F : Nat) (bl : Nat) (v1 : Int32) (v2 : Int32) (K_2 : Int32 → g_St → Option g_St) (K_12 : Int32 → g_St → Option g_St) (K_22 : Int32 → g_St → Option g_St) (v3 : Int32) (μ : g_St) : Option g_St :=
  (if v3 < (μ.1 bl 0) then
  (g_rr (fun j => bl + 5 + j) 5 v2).bind fun r1 =>
  (g_rr (fun j => bl + 5 + j) 5 v2).bind fun r3 =>
  (g_rd μ r3 5 v3).bind fun x5 =>
  (g_rr (fun j => bl + 5 + j) 5 v2).bind fun r6 =>
  (g_rd μ r6 5 v1).bind fun x8 =>
  (g_rr (fun j => bl + 5 + j) 5 v1).bind fun r9 =>
  (g_rd μ r9 5 v3).bind fun x11 =>
  (g_wr μ r1 5 v3 (g_min x5 (x8 + x11))).bind fun μ12 =>
  (K_22 (v3 + 1) μ12)
  else
  (K_12 (v2 + 1) μ))
def ol_shortenWays_22 (F : Nat) (bl : Nat) (v1 : Int32) (v2 : Int32) (K_2 : Int32 → g_St → Option g_St) (K_12 : Int32 → g_St → Option g_St) : Nat → Int32 → g_St → Option g_St
  | 0, _, _ => none
  | f + 1, v3, μ => ol_shortenWays_22_b F bl v1 v2 K_2 K_12 (ol_shortenWays_22 F bl v1 v2 K_2 K_12 f) v3 μ
def ol_shortenWays_12_b (F : Nat) (bl : Nat) (v1 : Int32) (K_2 : Int32 → g_St → Option g_St) (K_12 : Int32 → g_St → Option g_St) (v2 : Int32) (μ : g_St) : Option g_St :=
  (if v2 < (μ.1 bl 0) then
  (ol_shortenWays_22 F bl v1 v2 K_2 K_12 F (0 : Int32) μ)
  else
  (K_2 (v1 + 1) μ))
def ol_shortenWays_12 (F : Nat) (bl : Nat) (v1 : Int32) (K_2 : Int32 → g_St → Option g_St) : Nat → Int32 → g_St → Option g_St
  | 0, _, _ => none
  | f + 1, v2, μ => ol_shortenWays_12_b F bl v1 K_2 (ol_shortenWays_12 F bl v1 K_2 f) v2 μ
def ol_shortenWays_2_b (F : Nat) (bl : Nat) (K_2 : Int32 → g_St → Option g_St) (v1 : Int32) (μ : g_St) : Option g_St :=
  (if v1 < (μ.1 bl 0) then
  (ol_shortenWays_12 F bl v1 K_2 F (0 : Int32) μ)
  else
  (some μ))
def ol_shortenWays_2 (F : Nat) (bl : Nat) : Nat → Int32 → g_St → Option g_St
  | 0, _, _ => none
  | f + 1, v1, μ => ol_shortenWays_2_b F bl (ol_shortenWays_2 F bl f) v1 μ
def ol_shortenWays (F : Nat) (bl : Nat) (μ : g_St) : Option g_St :=
  (ol_shortenWays_2 F bl F (0 : Int32) μ)
def ol_away (bl : Nat) (μ : g_St) (v1 : Int32) (v2 : Int32) : Option Int32 :=
  (g_rd μ (bl + 12) 8 v1).bind fun x1 =>
  (g_rr (fun j => bl + 5 + j) 5 x1).bind fun r2 =>
  (g_rd μ (bl + 12) 8 v2).bind fun x4 =>
  (g_rd μ r2 5 x4).bind fun x5 =>
  (some x5)
def ol_makersOf_4_b (F : Nat) (bl : Nat) (μ : g_St) (v1 : Int32) (K_4 : Int32 → Int32 → Option Int32) (v2 : Int32) (v3 : Int32) : Option Int32 :=
  (if v3 < (μ.1 bl 2) then
  (g_rd μ (bl + 13) 8 v3).bind fun x1 =>
  (some (v2 ||| (((x1 >>> (v1 &&& 31)) &&& (1 : Int32)) <<< (v3 &&& 31)))).bind fun x2 =>
  (K_4 x2 (v3 + 1))
  else
  (some v2))
def ol_makersOf_4 (F : Nat) (bl : Nat) (μ : g_St) (v1 : Int32) : Nat → Int32 → Int32 → Option Int32
  | 0, _, _ => none
  | f + 1, v2, v3 => ol_makersOf_4_b F bl μ v1 (ol_makersOf_4 F bl μ v1 f) v2 v3 
def ol_makersOf (F : Nat) (bl : Nat) (μ : g_St) (v1 : Int32) : Option Int32 :=
  (ol_makersOf_4 F bl μ v1 F (0 : Int32) (0 : Int32))
def ol_isWithin (μ : g_St) (v0 : Int32) (v1 : Int32) : Option Int32 :=
  (if v0 < (999 : Int32) then
  (if ((2 : Int32) * v0) ≤ v1 then
  (some (1 : Int32))
  else
  (some (0 : Int32)))
  else
  (some (0 : Int32)))
def ol_makersWithin_41 (F : Nat) (bl : Nat) (μ : g_St) (K_6 : Int32 → Int32 → Option Int32) (v1 : Int32) (v2 : Int32) (v3 : Int32) (v4 : Int32) (v5 : Int32) (s0 : Int32) : Option Int32 :=
  (if s0 = 0 then
  (K_6 v4 (v5 + 1))
  else
  (ol_away bl μ v1 v5).bind fun x2 =>
  (ol_isWithin μ x2 v3).bind fun x3 =>
  (if x3 = 0 then
  (K_6 v4 (v5 + 1))
  else
  (K_6 (v4 + 1) (v5 + 1))))
def ol_makersWithin_40 (F : Nat) (bl : Nat) (μ : g_St) (K_6 : Int32 → Int32 → Option Int32) (v1 : Int32) (v2 : Int32) (v3 : Int32) (v4 : Int32) (v5 : Int32) : Option Int32 :=
  (ol_makersWithin_41 F bl μ K_6 v1 v2 v3 v4 v5 (0 : Int32))
def ol_makersWithin_6_b (F : Nat) (bl : Nat) (μ : g_St) (v1 : Int32) (v2 : Int32) (v3 : Int32) (K_6 : Int32 → Int32 → Option Int32) (v4 : Int32) (v5 : Int32) : Option Int32 :=
  (if v5 < (μ.1 bl 2) then
  (if v5 = v1 then
  (ol_makersWithin_40 F bl μ K_6 v1 v2 v3 v4 v5)
  else
  (g_rd μ (bl + 13) 8 v5).bind fun x1 =>
  (if ((x1 >>> (v2 &&& 31)) &&& (1 : Int32)) = (1 : Int32) then
  (ol_makersWithin_41 F bl μ K_6 v1 v2 v3 v4 v5 (1 : Int32))
  else
  (ol_makersWithin_40 F bl μ K_6 v1 v2 v3 v4 v5)))
  else
  (some v4))
def ol_makersWithin_6 (F : Nat) (bl : Nat) (μ : g_St) (v1 : Int32) (v2 : Int32) (v3 : Int32) : Nat → Int32 → Int32 → Option Int32
  | 0, _, _ => none
  | f + 1, v4, v5 => ol_makersWithin_6_b F bl μ v1 v2 v3 (ol_makersWithin_6 F bl μ v1 v2 v3 f) v4 v5 
def ol_makersWithin (F : Nat) (bl : Nat) (μ : g_St) (v1 : Int32) (v2 : Int32) (v3 : Int32) : Option Int32 :=
  (ol_makersWithin_6 F bl μ v1 v2 v3 F (0 : Int32) (0 : Int32))
def ol_worthOf (bl : Nat) (μ : g_St) (v1 : Int32) (v2 : Int32) (v3 : Int32) : Option Int32 :=
  (if 0 ≤ v3 then
  (if v3 < (3 : Int32) then
  (g_rr (fun j => bl + 15 + j) 8 v1).bind fun r1 =>
  (g_rd μ r1 18 ((v2 * (3 : Int32)) + v3)).bind fun x3 =>
  (some x3)
  else
  (some (0 : Int32)))
  else
  (some (0 : Int32)))
def ol_worthOfSome_6_b (F : Nat) (bl : Nat) (μ : g_St) (v1 : Int32) (v2 : Int32) (v3 : Int32) (K_6 : Int32 → Int32 → Option Int32) (v4 : Int32) (v5 : Int32) : Option Int32 :=
  (if v5 < v3 then
  (if v5 < (3 : Int32) then
  (ol_worthOf bl μ v1 v2 v5).bind fun x1 =>
  (K_6 (v4 + x1) (v5 + 1))
  else
  (some v4))
  else
  (some v4))
def ol_worthOfSome_6 (F : Nat) (bl : Nat) (μ : g_St) (v1 : Int32) (v2 : Int32) (v3 : Int32) : Nat → Int32 → Int32 → Option Int32
  | 0, _, _ => none
  | f + 1, v4, v5 => ol_worthOfSome_6_b F bl μ v1 v2 v3 (ol_worthOfSome_6 F bl μ v1 v2 v3 f) v4 v5 
def ol_worthOfSome (F : Nat) (bl : Nat) (μ : g_St) (v1 : Int32) (v2 : Int32) (v3 : Int32) : Option Int32 :=
  (ol_worthOfSome_6 F bl μ v1 v2 v3 F (0 : Int32) (0 : Int32))
def ol_hadIn_4_b (F : Nat) (bl : Nat) (μ : g_St) (v1 : Int32) (K_4 : Int32 → Int32 → Option Int32) (v2 : Int32) (v3 : Int32) : Option Int32 :=
  (if v3 < (μ.1 bl 1) then
  (ol_makersOf F bl μ v3).bind fun x1 =>
  (if (x1 &&& v1) = 0 then
  (K_4 v2 (v3 + 1))
  else
  (g_rd μ (bl + 11) 6 v3).bind fun x2 =>
  (if (x2 &&& (v2 ^^^ (-1 : Int32))) = 0 then
  (some (v2 ||| ((1 : Int32) <<< (v3 &&& 31)))).bind fun x3 =>
  (K_4 x3 (v3 + 1))
  else
  (K_4 v2 (v3 + 1))))
  else
  (some v2))
def ol_hadIn_4 (F : Nat) (bl : Nat) (μ : g_St) (v1 : Int32) : Nat → Int32 → Int32 → Option Int32
  | 0, _, _ => none
  | f + 1, v2, v3 => ol_hadIn_4_b F bl μ v1 (ol_hadIn_4 F bl μ v1 f) v2 v3 
def ol_hadIn (F : Nat) (bl : Nat) (μ : g_St) (v1 : Int32) : Option Int32 :=
  (ol_hadIn_4 F bl μ v1 F (0 : Int32) (0 : Int32))
def ol_lackedIn_15_b (F : Nat) (bl : Nat) (μ : g_St) (v1 : Int32) (v3 : Int32) (K_4 : Int32 → Int32 → Option Int32) (K_15 : Int32 → Int32 → Option Int32) (v2 : Int32) (v4 : Int32) : Option Int32 :=
  (if v4 < (μ.1 bl 1) then
  (if ((v1 >>> (v3 &&& 31)) &&& (1 : Int32)) = (1 : Int32) then
  (ol_worthOf bl μ v3 v4 (0 : Int32)).bind fun x1 =>
  (if 0 < x1 then
  (some (v2 ||| ((1 : Int32) <<< (v4 &&& 31)))).bind fun x2 =>
  (K_15 x2 (v4 + 1))
  else
  (K_15 (v2 ||| (0 : Int32)) (v4 + 1)))
  else
  (K_4 v2 (v3 + 1)))
  else
  (K_4 v2 (v3 + 1)))
def ol_lackedIn_15 (F : Nat) (bl : Nat) (μ : g_St) (v1 : Int32) (v3 : Int32) (K_4 : Int32 → Int32 → Option Int32) : Nat → Int32 → Int32 → Option Int32
  | 0, _, _ => none
  | f + 1, v2, v4 => ol_lackedIn_15_b F bl μ v1 v3 K_4 (ol_lackedIn_15 F bl μ v1 v3 K_4 f) v2 v4 
def ol_lackedIn_4_b (F : Nat) (bl : Nat) (μ : g_St) (v1 : Int32) (K_4 : Int32 → Int32 → Option Int32) (v2 : Int32) (v3 : Int32) : Option Int32 :=
  (if v3 < (μ.1 bl 2) then
  (ol_lackedIn_15 F bl μ v1 v3 K_4 F v2 (0 : Int32))
  else
  (ol_hadIn F bl μ v1).bind fun x3 =>
  (some (v2 &&& (x3 ^^^ (-1 : Int32)))))
def ol_lackedIn_4 (F : Nat) (bl : Nat) (μ : g_St) (v1 : Int32) : Nat → Int32 → Int32 → Option Int32
  | 0, _, _ => none
  | f + 1, v2, v3 => ol_lackedIn_4_b F bl μ v1 (ol_lackedIn_4 F bl μ v1 f) v2 v3 
def ol_lackedIn (F : Nat) (bl : Nat) (μ : g_St) (v1 : Int32) : Option Int32 :=
  (ol_lackedIn_4 F bl μ v1 F (0 : Int32) (0 : Int32))
def ol_comersTo_5_b (F : Nat) (bl : Nat) (μ : g_St) (v1 : Int32) (v2 : Int32) (K_5 : Int32 → Int32 → Option Int32) (v3 : Int32) (v4 : Int32) : Option Int32 :=
  (if v4 < (μ.1 bl 2) then
  (g_rd μ (bl + 12) 8 v4).bind fun x1 =>
  (g_rr (fun j => bl + 5 + j) 5 x1).bind fun r2 =>
  (g_rd μ r2 5 v1).bind fun x4 =>
  (ol_isWithin μ x4 v2).bind fun x5 =>
  (if x5 = 0 then
  (K_5 (v3 ||| (0 : Int32)) (v4 + 1))
  else
  (some (v3 ||| ((1 : Int32) <<< (v4 &&& 31)))).bind fun x6 =>
  (K_5 x6 (v4 + 1)))
  else
  (some v3))
def ol_comersTo_5 (F : Nat) (bl : Nat) (μ : g_St) (v1 : Int32) (v2 : Int32) : Nat → Int32 → Int32 → Option Int32
  | 0, _, _ => none
  | f + 1, v3, v4 => ol_comersTo_5_b F bl μ v1 v2 (ol_comersTo_5 F bl μ v1 v2 f) v3 v4 
def ol_comersTo (F : Nat) (bl : Nat) (μ : g_St) (v1 : Int32) (v2 : Int32) : Option Int32 :=
  (ol_comersTo_5 F bl μ v1 v2 F (0 : Int32) (0 : Int32))
def ol_hoursTo_5_b (F : Nat) (bl : Nat) (μ : g_St) (v1 : Int32) (v2 : Int32) (K_5 : Int32 → Int32 → Option Int32) (v3 : Int32) (v4 : Int32) : Option Int32 :=
  (if v4 < (μ.1 bl 2) then
  (if ((v2 >>> (v4 &&& 31)) &&& (1 : Int32)) = (1 : Int32) then
  (g_rd μ (bl + 12) 8 v4).bind fun x1 =>
  (g_rr (fun j => bl + 5 + j) 5 x1).bind fun r2 =>
  (g_rd μ r2 5 v1).bind fun x4 =>
  (K_5 (v3 + ((2 : Int32) * x4)) (v4 + 1))
  else
  (K_5 (v3 + (0 : Int32)) (v4 + 1)))
  else
  (some v3))
def ol_hoursTo_5 (F : Nat) (bl : Nat) (μ : g_St) (v1 : Int32) (v2 : Int32) : Nat → Int32 → Int32 → Option Int32
  | 0, _, _ => none
  | f + 1, v3, v4 => ol_hoursTo_5_b F bl μ v1 v2 (ol_hoursTo_5 F bl μ v1 v2 f) v3 v4 
def ol_hoursTo (F : Nat) (bl : Nat) (μ : g_St) (v1 : Int32) (v2 : Int32) : Option Int32 :=
  (ol_hoursTo_5 F bl μ v1 v2 F (0 : Int32) (0 : Int32))
def ou_clear (bu : Nat) (μ : g_St) : Option g_St :=
  (some (g_sI μ bu 2 (0 : Int32))).bind fun μ1 =>
  (some (g_sI μ1 bu 3 (0 : Int32))).bind fun μ2 =>
  (some μ2)
def ou_put (bu : Nat) (v1 : Int32) (μ : g_St) : Option g_St :=
  (if (μ.1 bu 2) < (1000 : Int32) then
  (g_wr μ (bu + 1) 1000 (μ.1 bu 2) v1).bind fun μ1 =>
  (some (g_sI μ1 bu 2 ((μ1.1 bu 2) + (1 : Int32)))).bind fun μ2 =>
  (some μ2)
  else
  (some μ))
def ou_endLine (bu : Nat) (μ : g_St) : Option g_St :=
  (if (μ.1 bu 3) < (6 : Int32) then
  (g_wr μ (bu + 2) 6 (μ.1 bu 3) (μ.1 bu 2)).bind fun μ1 =>
  (some (g_sI μ1 bu 3 ((μ1.1 bu 3) + (1 : Int32)))).bind fun μ2 =>
  (some μ2)
  else
  (some μ))
def ou_joined (μ : g_St) (v0 : Int32) (v1 : Int32) (v2 : Int32) : Option Int32 :=
  (if v0 = (11 : Int32) then
  (if v1 = 0 then
  (some (0 : Int32))
  else
  (if v2 = 0 then
  (some (0 : Int32))
  else
  (some (1 : Int32))))
  else
  (if v0 = (12 : Int32) then
  (if v1 = 0 then
  (if v2 = 0 then
  (some (0 : Int32))
  else
  (some (1 : Int32)))
  else
  (some (1 : Int32)))
  else
  (if v0 = (43 : Int32) then
  (some (v1 + v2))
  else
  (if v0 = (45 : Int32) then
  (some (v1 - v2))
  else
  (if v0 = (60 : Int32) then
  (if v1 < v2 then
  (some (1 : Int32))
  else
  (some (0 : Int32)))
  else
  (if v0 = (61 : Int32) then
  (if v1 = v2 then
  (some (1 : Int32))
  else
  (some (0 : Int32)))
  else
  (some (v1 * v2))))))))
def ou_valueOf_115 (F : Nat) (bu : Nat) (K_6 : Int32 → Int32 → g_St → Option (Int32 × g_St)) (v2 : Int32) (v4 : Int32) (v5 : Int32) (v6 : Int32) (μ : g_St) : Option (Int32 × g_St) :=
  (if (1 : Int32) < v4 then
  (g_rd μ (bu + 3) 32 ((v4 + (-1)) - (1 : Int32))).bind fun x8 =>
  (g_rd μ (bu + 3) 32 (v4 + (-1))).bind fun x9 =>
  (ou_joined μ (v6 - (20000 : Int32)) x8 x9).bind fun x10 =>
  (g_wr μ (bu + 3) 32 ((v4 + (-1)) - (1 : Int32)) x10).bind fun μ11 =>
  (K_6 (v4 + (-1)) (v5 + 1) μ11)
  else
  (K_6 v4 (v5 + 1) μ))
def ou_valueOf_73 (F : Nat) (bu : Nat) (K_6 : Int32 → Int32 → g_St → Option (Int32 × g_St)) (v2 : Int32) (v4 : Int32) (v5 : Int32) (v6 : Int32) (μ : g_St) : Option (Int32 × g_St) :=
  (if v6 = (20013 : Int32) then
  (if 0 < v4 then
  (g_rd μ (bu + 3) 32 (v4 - (1 : Int32))).bind fun x5 =>
  (if x5 = 0 then
  (g_wr μ (bu + 3) 32 (v4 - (1 : Int32)) (1 : Int32)).bind fun μ6 =>
  (K_6 v4 (v5 + 1) μ6)
  else
  (g_wr μ (bu + 3) 32 (v4 - (1 : Int32)) (0 : Int32)).bind fun μ7 =>
  (K_6 v4 (v5 + 1) μ7))
  else
  (ou_valueOf_115 F bu K_6 v2 v4 v5 v6 μ))
  else
  (ou_valueOf_115 F bu K_6 v2 v4 v5 v6 μ))
def ou_valueOf_6_b (F : Nat) (bu : Nat) (v2 : Int32) (K_6 : Int32 → Int32 → g_St → Option (Int32 × g_St)) (v4 : Int32) (v5 : Int32) (μ : g_St) : Option (Int32 × g_St) :=
  (if v5 < v2 then
  (g_rd μ (bu + 1) 1000 v5).bind fun x1 =>
  (if x1 < (20000 : Int32) then
  (if v4 < (32 : Int32) then
  (if x1 < (10000 : Int32) then
  (g_wr μ (bu + 3) 32 v4 x1).bind fun μ2 =>
  (K_6 (v4 + 1) (v5 + 1) μ2)
  else
  (g_rd μ 70 20 (x1 - (10000 : Int32))).bind fun x3 =>
  (g_wr μ (bu + 3) 32 v4 x3).bind fun μ4 =>
  (K_6 (v4 + 1) (v5 + 1) μ4))
  else
  (ou_valueOf_73 F bu K_6 v2 v4 v5 x1 μ))
  else
  (ou_valueOf_73 F bu K_6 v2 v4 v5 x1 μ))
  else
  (g_rd μ (bu + 3) 32 (0 : Int32)).bind fun x12 =>
  (some (x12, μ)))
def ou_valueOf_6 (F : Nat) (bu : Nat) (v2 : Int32) : Nat → Int32 → Int32 → g_St → Option (Int32 × g_St)
  | 0, _, _, _ => none
  | f + 1, v4, v5, μ => ou_valueOf_6_b F bu v2 (ou_valueOf_6 F bu v2 f) v4 v5 μ
def ou_valueOf (F : Nat) (bu : Nat) (v1 : Int32) (v2 : Int32) (μ : g_St) : Option (Int32 × g_St) :=
  (ou_valueOf_6 F bu v2 F (0 : Int32) v1 μ)
def ou_allows_33_b (F : Nat) (bu : Nat) (K_33 : Int32 → Int32 → g_St → Option (Int32 × g_St)) (v2 : Int32) (v3 : Int32) (μ : g_St) : Option (Int32 × g_St) :=
  (if v3 < (μ.1 bu 3) then
  (g_rd μ (bu + 2) 6 v3).bind fun x3 =>
  (ou_valueOf F bu v2 x3 μ).bind fun q4 =>
  (if q4.1 = 0 then
  (g_rd q4.2 (bu + 2) 6 v3).bind fun x5 =>
  (K_33 x5 (v3 + 1) q4.2)
  else
  (some ((1 : Int32), q4.2)))
  else
  (some ((0 : Int32), μ)))
def ou_allows_33 (F : Nat) (bu : Nat) : Nat → Int32 → Int32 → g_St → Option (Int32 × g_St)
  | 0, _, _, _ => none
  | f + 1, v2, v3, μ => ou_allows_33_b F bu (ou_allows_33 F bu f) v2 v3 μ
def ou_allows (F : Nat) (bu : Nat) (μ : g_St) : Option (Int32 × g_St) :=
  (if (μ.1 bu 3) = 0 then
  (g_rd μ 70 20 (14 : Int32)).bind fun x1 =>
  (if x1 = (1 : Int32) then
  (some ((1 : Int32), μ))
  else
  (g_rd μ 70 20 (19 : Int32)).bind fun x2 =>
  (if x2 = (1 : Int32) then
  (some ((1 : Int32), μ))
  else
  (some ((0 : Int32), μ))))
  else
  (ou_allows_33 F bu F (0 : Int32) (0 : Int32) μ))
def og_clear (F : Nat) (br : Nat) (μ : g_St) : Option g_St :=
  (jj_fill F (br + 1) 64 (0 : Int32) μ).bind fun μ1 =>
  (jj_fill F (br + 2) 48 (0 : Int32) μ1).bind fun μ2 =>
  (jj_fill F (br + 6) 256 (-1 : Int32) μ2).bind fun μ3 =>
  (jj_fill F (br + 7) 256 (0 : Int32) μ3).bind fun μ4 =>
  (jj_fill F (br + 8) 256 (0 : Int32) μ4).bind fun μ5 =>
  (jj_fill F (br + 9) 256 (0 : Int32) μ5).bind fun μ6 =>
  (some μ6)
def og_hold (br : Nat) (v1 : Int32) (v2 : Int32) (μ : g_St) : Option g_St :=
  (g_rd μ (br + 2) 48 ((v1 * (6 : Int32)) + v2)).bind fun x1 =>
  (g_wr μ (br + 2) 48 ((v1 * (6 : Int32)) + v2) (x1 + (1 : Int32))).bind fun μ2 =>
  (some μ2)
def og_allow (br : Nat) (v1 : Int32) (v2 : Int32) (v3 : Int32) (μ : g_St) : Option g_St :=
  (g_rd μ (br + 1) 64 ((v1 * (8 : Int32)) + v2)).bind fun x1 =>
  (g_wr μ (br + 1) 64 ((v1 * (8 : Int32)) + v2) (x1 ||| v3)).bind fun μ2 =>
  (some μ2)
def og_mayGive (br : Nat) (μ : g_St) (v1 : Int32) (v2 : Int32) (v3 : Int32) : Option Int32 :=
  (g_rd μ (br + 1) 64 ((v1 * (8 : Int32)) + v2)).bind fun x1 =>
  (if ((x1 >>> (v3 &&& 31)) &&& (1 : Int32)) = (1 : Int32) then
  (some (1 : Int32))
  else
  (some (0 : Int32)))
def og_weigh_135 (F : Nat) (br : Nat) (bl : Nat) (K_78 : Int32 → g_St → Option g_St) (K_93 : Int32 → Int32 → g_St → Option g_St) (v3 : Int32) (v4 : Int32) (v5 : Int32) (v6 : Int32) (s0 : Int32) (μ : g_St) : Option g_St :=
  (if s0 = 0 then
  (K_93 (v5 ||| (0 : Int32)) (v6 + 1) μ)
  else
  (some (v5 ||| ((1 : Int32) <<< (v6 &&& 31)))).bind fun x9 =>
  (K_93 x9 (v6 + 1) μ))
def og_weigh_134 (F : Nat) (br : Nat) (bl : Nat) (K_78 : Int32 → g_St → Option g_St) (K_93 : Int32 → Int32 → g_St → Option g_St) (v3 : Int32) (v4 : Int32) (v5 : Int32) (v6 : Int32) (μ : g_St) : Option g_St :=
  (og_weigh_135 F br bl K_78 K_93 v3 v4 v5 v6 (0 : Int32) μ)
def og_weigh_93_b (F : Nat) (br : Nat) (bl : Nat) (v3 : Int32) (v4 : Int32) (K_78 : Int32 → g_St → Option g_St) (K_93 : Int32 → Int32 → g_St → Option g_St) (v5 : Int32) (v6 : Int32) (μ : g_St) : Option g_St :=
  (if v6 < (μ.1 bl 1) then
  (if v6 = v4 then
  (og_weigh_134 F br bl K_78 K_93 v3 v4 v5 v6 μ)
  else
  (g_rd μ (br + 3) 48 (v3 + v4)).bind fun x7 =>
  (g_rd μ (br + 4) 48 (v3 + v6)).bind fun x8 =>
  (if x8 < x7 then
  (og_weigh_135 F br bl K_78 K_93 v3 v4 v5 v6 (1 : Int32) μ)
  else
  (og_weigh_134 F br bl K_78 K_93 v3 v4 v5 v6 μ)))
  else
  (g_wr μ (br + 5) 48 (v3 + v4) v5).bind fun μ10 =>
  (K_78 (v4 + 1) μ10))
def og_weigh_93 (F : Nat) (br : Nat) (bl : Nat) (v3 : Int32) (v4 : Int32) (K_78 : Int32 → g_St → Option g_St) : Nat → Int32 → Int32 → g_St → Option g_St
  | 0, _, _, _ => none
  | f + 1, v5, v6, μ => og_weigh_93_b F br bl v3 v4 K_78 (og_weigh_93 F br bl v3 v4 K_78 f) v5 v6 μ
def og_weigh_78_b (F : Nat) (br : Nat) (bl : Nat) (v3 : Int32) (K_78 : Int32 → g_St → Option g_St) (v4 : Int32) (μ : g_St) : Option g_St :=
  (if v4 < (μ.1 bl 1) then
  (og_weigh_93 F br bl v3 v4 K_78 F (0 : Int32) (0 : Int32) μ)
  else
  (some μ))
def og_weigh_78 (F : Nat) (br : Nat) (bl : Nat) (v3 : Int32) : Nat → Int32 → g_St → Option g_St
  | 0, _, _ => none
  | f + 1, v4, μ => og_weigh_78_b F br bl v3 (og_weigh_78 F br bl v3 f) v4 μ
def og_weigh_8_b (F : Nat) (br : Nat) (bl : Nat) (v2 : Int32) (v3 : Int32) (K_8 : Int32 → g_St → Option g_St) (v4 : Int32) (μ : g_St) : Option g_St :=
  (if v4 < (μ.1 bl 1) then
  (g_rd μ (br + 2) 48 (v3 + v4)).bind fun x1 =>
  (ol_worthOf bl μ v2 v4 x1).bind fun x2 =>
  (g_wr μ (br + 3) 48 (v3 + v4) x2).bind fun μ3 =>
  (g_rd μ3 (br + 2) 48 (v3 + v4)).bind fun x4 =>
  (ol_worthOf bl μ3 v2 v4 (x4 - (1 : Int32))).bind fun x5 =>
  (g_wr μ3 (br + 4) 48 (v3 + v4) x5).bind fun μ6 =>
  (K_8 (v4 + 1) μ6)
  else
  (og_weigh_78 F br bl v3 F (0 : Int32) μ))
def og_weigh_8 (F : Nat) (br : Nat) (bl : Nat) (v2 : Int32) (v3 : Int32) : Nat → Int32 → g_St → Option g_St
  | 0, _, _ => none
  | f + 1, v4, μ => og_weigh_8_b F br bl v2 v3 (og_weigh_8 F br bl v2 v3 f) v4 μ
def og_weigh (F : Nat) (br : Nat) (bl : Nat) (v2 : Int32) (μ : g_St) : Option g_St :=
  (og_weigh_8 F br bl v2 (v2 * (6 : Int32)) F (0 : Int32) μ)
def og_closeRing_12_b (F : Nat) (br : Nat) (v1 : Int32) (v3 : Int32) (v4 : Int32) (v5 : Int32) (v6 : Int32) (v8 : Int32) (K_12 : Int32 → Int32 → g_St → Option (Int32 × g_St)) (v7 : Int32) (v9 : Int32) (μ : g_St) : Option (Int32 × g_St) :=
  (if v9 < (6 : Int32) then
  (if (v4 >>> (v9 &&& 31)) = 0 then
  (some ((v7 &&& 1), μ))
  else
  (if ((v4 >>> (v9 &&& 31)) &&& (1 : Int32)) = (1 : Int32) then
  (g_rd μ (br + 5) 48 (v8 + v9)).bind fun x1 =>
  (if ((x1 >>> (v3 &&& 31)) &&& (1 : Int32)) = (1 : Int32) then
  (g_rd μ (br + 3) 48 (v8 + v9)).bind fun x2 =>
  (g_rd μ (br + 4) 48 (v8 + v3)).bind fun x3 =>
  (g_rd μ (br + 6) 256 v1).bind fun x4 =>
  (g_rd μ (br + 4) 48 ((v5 * (6 : Int32)) + v9)).bind fun x5 =>
  (g_wr μ (br + 6) 256 v1 (g_max x4 ((v6 - x5) + (x2 - x3)))).bind fun μ6 =>
  (K_12 (1 : Int32) (v9 + 1) μ6)
  else
  (K_12 v7 (v9 + 1) μ))
  else
  (K_12 v7 (v9 + 1) μ)))
  else
  (some ((v7 &&& 1), μ)))
def og_closeRing_12 (F : Nat) (br : Nat) (v1 : Int32) (v3 : Int32) (v4 : Int32) (v5 : Int32) (v6 : Int32) (v8 : Int32) : Nat → Int32 → Int32 → g_St → Option (Int32 × g_St)
  | 0, _, _, _ => none
  | f + 1, v7, v9, μ => og_closeRing_12_b F br v1 v3 v4 v5 v6 v8 (og_closeRing_12 F br v1 v3 v4 v5 v6 v8 f) v7 v9 μ
def og_closeRing (F : Nat) (br : Nat) (v1 : Int32) (v2 : Int32) (v3 : Int32) (v4 : Int32) (v5 : Int32) (v6 : Int32) (μ : g_St) : Option (Int32 × g_St) :=
  (og_closeRing_12 F br v1 v3 v4 v5 v6 (v2 * (6 : Int32)) F (0 : Int32) (0 : Int32) μ)
def og_goOn_119_b (F : Nat) (br : Nat) (rec : Int32 → Int32 → Int32 → Int32 → Int32 → Int32 → g_St → Option (Int32 × g_St)) (v1 : Int32) (v2 : Int32) (v3 : Int32) (v4 : Int32) (v7 : Int32) (v8 : Int32) (v10 : Int32) (v11 : Int32) (K_77 : Int32 → Int32 → g_St → Option (Int32 × g_St)) (K_119 : Int32 → Int32 → g_St → Option (Int32 × g_St)) (v9 : Int32) (v12 : Int32) (μ : g_St) : Option (Int32 × g_St) :=
  (if v12 < (6 : Int32) then
  (if (v11 >>> (v12 &&& 31)) = 0 then
  (K_77 v9 (v10 + 1) μ)
  else
  (if ((v11 >>> (v12 &&& 31)) &&& (1 : Int32)) = (1 : Int32) then
  (g_rd μ (br + 4) 48 ((v4 * (6 : Int32)) + v12)).bind fun x6 =>
  (rec (v1 ||| ((1 : Int32) <<< (v10 &&& 31))) v2 v3 v10 v12 (v8 - x6) μ).bind fun q7 =>
  (K_119 (v9 ||| q7.1) (v12 + 1) q7.2)
  else
  (K_119 v9 (v12 + 1) μ)))
  else
  (K_77 v9 (v10 + 1) μ))
def og_goOn_119 (F : Nat) (br : Nat) (rec : Int32 → Int32 → Int32 → Int32 → Int32 → Int32 → g_St → Option (Int32 × g_St)) (v1 : Int32) (v2 : Int32) (v3 : Int32) (v4 : Int32) (v7 : Int32) (v8 : Int32) (v10 : Int32) (v11 : Int32) (K_77 : Int32 → Int32 → g_St → Option (Int32 × g_St)) : Nat → Int32 → Int32 → g_St → Option (Int32 × g_St)
  | 0, _, _, _ => none
  | f + 1, v9, v12, μ => og_goOn_119_b F br rec v1 v2 v3 v4 v7 v8 v10 v11 K_77 (og_goOn_119 F br rec v1 v2 v3 v4 v7 v8 v10 v11 K_77 f) v9 v12 μ
def og_goOn_77_b (F : Nat) (br : Nat) (rec : Int32 → Int32 → Int32 → Int32 → Int32 → Int32 → g_St → Option (Int32 × g_St)) (v1 : Int32) (v2 : Int32) (v3 : Int32) (v4 : Int32) (v7 : Int32) (v8 : Int32) (K_77 : Int32 → Int32 → g_St → Option (Int32 × g_St)) (v9 : Int32) (v10 : Int32) (μ : g_St) : Option (Int32 × g_St) :=
  (if v10 < (8 : Int32) then
  (if ((v1 >>> (v10 &&& 31)) &&& (1 : Int32)) = (1 : Int32) then
  (og_goOn_119 F br rec v1 v2 v3 v4 v7 v8 v10 (0 : Int32) K_77 F v9 (0 : Int32) μ)
  else
  (g_rd μ (br + 1) 64 ((v4 * (8 : Int32)) + v10)).bind fun x8 =>
  (og_goOn_119 F br rec v1 v2 v3 v4 v7 v8 v10 (v7 &&& x8) K_77 F v9 (0 : Int32) μ))
  else
  (some ((v9 &&& 1), μ)))
def og_goOn_77 (F : Nat) (br : Nat) (rec : Int32 → Int32 → Int32 → Int32 → Int32 → Int32 → g_St → Option (Int32 × g_St)) (v1 : Int32) (v2 : Int32) (v3 : Int32) (v4 : Int32) (v7 : Int32) (v8 : Int32) : Nat → Int32 → Int32 → g_St → Option (Int32 × g_St)
  | 0, _, _, _ => none
  | f + 1, v9, v10, μ => og_goOn_77_b F br rec v1 v2 v3 v4 v7 v8 (og_goOn_77 F br rec v1 v2 v3 v4 v7 v8 f) v9 v10 μ
def og_goOn_b (F : Nat) (br : Nat) (rec : Int32 → Int32 → Int32 → Int32 → Int32 → Int32 → g_St → Option (Int32 × g_St)) (v1 : Int32) (v2 : Int32) (v3 : Int32) (v4 : Int32) (v5 : Int32) (v6 : Int32) (μ : g_St) : Option (Int32 × g_St) :=
  (g_rd μ (br + 5) 48 ((v4 * (6 : Int32)) + v5)).bind fun x1 =>
  (g_rd μ (br + 3) 48 ((v4 * (6 : Int32)) + v5)).bind fun x2 =>
  (g_rd μ (br + 1) 64 ((v4 * (8 : Int32)) + v2)).bind fun x3 =>
  (og_closeRing F br v1 v2 v3 (x1 &&& x3) v4 (v6 + x2) μ).bind fun q4 =>
  (jj_bitCount q4.2 v1).bind fun x5 =>
  (if (5 : Int32) ≤ x5 then
  (some ((q4.1 &&& 1), q4.2))
  else
  (og_goOn_77 F br rec v1 v2 v3 v4 x1 (v6 + x2) F q4.1 (v2 + (1 : Int32)) q4.2))
def og_goOn (F : Nat) (br : Nat) : Nat → Int32 → Int32 → Int32 → Int32 → Int32 → Int32 → g_St → Option (Int32 × g_St)
  | 0, _, _, _, _, _, _, _ => none
  | D + 1, v1, v2, v3, v4, v5, v6, μ => og_goOn_b F br (og_goOn F br D) v1 v2 v3 v4 v5 v6 μ
def og_startRings_28_b (F : Nat) (br : Nat) (v1 : Int32) (v3 : Int32) (v4 : Int32) (K_6 : Int32 → Int32 → g_St → Option (Int32 × g_St)) (K_28 : Int32 → Int32 → g_St → Option (Int32 × g_St)) (v2 : Int32) (v5 : Int32) (μ : g_St) : Option (Int32 × g_St) :=
  (if v5 < (6 : Int32) then
  (if (v4 >>> (v5 &&& 31)) = 0 then
  (K_6 v2 (v3 + 1) μ)
  else
  (if ((v4 >>> (v5 &&& 31)) &&& (1 : Int32)) = (1 : Int32) then
  (og_goOn F br 9 (((1 : Int32) <<< (v1 &&& 31)) ||| ((1 : Int32) <<< (v3 &&& 31))) v1 v5 v3 v5 (0 : Int32) μ).bind fun q2 =>
  (K_28 (v2 ||| q2.1) (v5 + 1) q2.2)
  else
  (K_28 v2 (v5 + 1) μ)))
  else
  (K_6 v2 (v3 + 1) μ))
def og_startRings_28 (F : Nat) (br : Nat) (v1 : Int32) (v3 : Int32) (v4 : Int32) (K_6 : Int32 → Int32 → g_St → Option (Int32 × g_St)) : Nat → Int32 → Int32 → g_St → Option (Int32 × g_St)
  | 0, _, _, _ => none
  | f + 1, v2, v5, μ => og_startRings_28_b F br v1 v3 v4 K_6 (og_startRings_28 F br v1 v3 v4 K_6 f) v2 v5 μ
def og_startRings_6_b (F : Nat) (br : Nat) (v1 : Int32) (K_6 : Int32 → Int32 → g_St → Option (Int32 × g_St)) (v2 : Int32) (v3 : Int32) (μ : g_St) : Option (Int32 × g_St) :=
  (if v3 < (8 : Int32) then
  (g_rd μ (br + 1) 64 ((v1 * (8 : Int32)) + v3)).bind fun x1 =>
  (og_startRings_28 F br v1 v3 x1 K_6 F v2 (0 : Int32) μ)
  else
  (some ((v2 &&& 1), μ)))
def og_startRings_6 (F : Nat) (br : Nat) (v1 : Int32) : Nat → Int32 → Int32 → g_St → Option (Int32 × g_St)
  | 0, _, _, _ => none
  | f + 1, v2, v3, μ => og_startRings_6_b F br v1 (og_startRings_6 F br v1 f) v2 v3 μ
def og_startRings (F : Nat) (br : Nat) (v1 : Int32) (μ : g_St) : Option (Int32 × g_St) :=
  (og_startRings_6 F br v1 F (0 : Int32) (v1 + (1 : Int32)) μ)
def og_offerRound_108 (br : Nat) (v1 : Int32) (v3 : Int32) (v4 : Int32) (v5 : Int32) (μ : g_St) : Option g_St :=
  (g_wr μ (br + 7) 256 v1 v3).bind fun μ11 =>
  (g_wr μ11 (br + 8) 256 v1 v4).bind fun μ12 =>
  (g_wr μ12 (br + 9) 256 v1 v5).bind fun μ13 =>
  (some μ13)
def og_offerRound_81 (br : Nat) (v1 : Int32) (v3 : Int32) (v4 : Int32) (v5 : Int32) (s0 : Int32) (μ : g_St) : Option g_St :=
  (g_rd μ (br + 7) 256 v1).bind fun x9 =>
  (if v3 ≤ x9 then
  (g_rd μ (br + 7) 256 v1).bind fun x10 =>
  (if v3 = x10 then
  (if s0 = 0 then
  (some μ)
  else
  (og_offerRound_108 br v1 v3 v4 v5 μ))
  else
  (some μ))
  else
  (og_offerRound_108 br v1 v3 v4 v5 μ))
def og_offerRound_76 (br : Nat) (v1 : Int32) (v3 : Int32) (v4 : Int32) (v5 : Int32) (μ : g_St) : Option g_St :=
  (og_offerRound_81 br v1 v3 v4 v5 (1 : Int32) μ)
def og_offerRound_80 (br : Nat) (v1 : Int32) (v3 : Int32) (v4 : Int32) (v5 : Int32) (μ : g_St) : Option g_St :=
  (og_offerRound_81 br v1 v3 v4 v5 (0 : Int32) μ)
def og_offerRound (br : Nat) (v1 : Int32) (v2 : Int32) (μ : g_St) : Option g_St :=
  (g_rd μ (br + 6) 256 v2).bind fun x1 =>
  (g_rd μ (br + 7) 256 (v1 ^^^ v2)).bind fun x2 =>
  (g_rd μ (br + 8) 256 (v1 ^^^ v2)).bind fun x3 =>
  (jj_bitCount μ v2).bind fun x4 =>
  (g_rd μ (br + 9) 256 (v1 ^^^ v2)).bind fun x5 =>
  (g_rd μ (br + 8) 256 v1).bind fun x6 =>
  (if x6 ≤ ((1 : Int32) + x3) then
  (g_rd μ (br + 8) 256 v1).bind fun x7 =>
  (if ((1 : Int32) + x3) = x7 then
  (g_rd μ (br + 9) 256 v1).bind fun x8 =>
  (if (x4 + x5) < x8 then
  (og_offerRound_76 br v1 (x1 + x2) ((1 : Int32) + x3) (x4 + x5) μ)
  else
  (og_offerRound_80 br v1 (x1 + x2) ((1 : Int32) + x3) (x4 + x5) μ))
  else
  (og_offerRound_80 br v1 (x1 + x2) ((1 : Int32) + x3) (x4 + x5) μ))
  else
  (og_offerRound_76 br v1 (x1 + x2) ((1 : Int32) + x3) (x4 + x5) μ))
def og_findMost_48_b (F : Nat) (br : Nat) (v1 : Int32) (v2 : Int32) (v3 : Int32) (K_48 : Int32 → g_St → Option g_St) (v4 : Int32) (μ : g_St) : Option g_St :=
  (if 0 < v4 then
  (g_rd μ (br + 6) 256 (v4 ||| v2)).bind fun x7 =>
  (if x7 = (-1 : Int32) then
  (K_48 ((v4 - (1 : Int32)) &&& v3) μ)
  else
  (og_offerRound br v1 (v4 ||| v2) μ).bind fun μ8 =>
  (K_48 ((v4 - (1 : Int32)) &&& v3) μ8))
  else
  (some μ))
def og_findMost_48 (F : Nat) (br : Nat) (v1 : Int32) (v2 : Int32) (v3 : Int32) : Nat → Int32 → g_St → Option g_St
  | 0, _, _ => none
  | f + 1, v4, μ => og_findMost_48_b F br v1 v2 v3 (og_findMost_48 F br v1 v2 v3 f) v4 μ
def og_findMost (F : Nat) (br : Nat) (v1 : Int32) (μ : g_St) : Option g_St :=
  (g_rd μ (br + 7) 256 (v1 ^^^ (v1 &&& (-v1)))).bind fun x1 =>
  (g_wr μ (br + 7) 256 v1 x1).bind fun μ2 =>
  (g_rd μ2 (br + 8) 256 (v1 ^^^ (v1 &&& (-v1)))).bind fun x3 =>
  (g_wr μ2 (br + 8) 256 v1 x3).bind fun μ4 =>
  (g_rd μ4 (br + 9) 256 (v1 ^^^ (v1 &&& (-v1)))).bind fun x5 =>
  (g_wr μ4 (br + 9) 256 v1 x5).bind fun μ6 =>
  (og_findMost_48 F br v1 (v1 &&& (-v1)) (v1 ^^^ (v1 &&& (-v1))) F (v1 ^^^ (v1 &&& (-v1))) μ6)
def og_find_72_b (F : Nat) (br : Nat) (bl : Nat) (v2 : Int32) (v3 : Int32) (K_72 : Int32 → g_St → Option g_St) (v4 : Int32) (μ : g_St) : Option g_St :=
  (if v3 = 0 then
  (some μ)
  else
  (if v4 ≤ v2 then
  (if (v4 &&& (v2 ^^^ (-1 : Int32))) = 0 then
  (og_findMost F br v4 μ).bind fun μ3 =>
  (K_72 (v4 + 1) μ3)
  else
  (K_72 (v4 + 1) μ))
  else
  (some μ)))
def og_find_72 (F : Nat) (br : Nat) (bl : Nat) (v2 : Int32) (v3 : Int32) : Nat → Int32 → g_St → Option g_St
  | 0, _, _ => none
  | f + 1, v4, μ => og_find_72_b F br bl v2 v3 (og_find_72 F br bl v2 v3 f) v4 μ
def og_find_27_b (F : Nat) (br : Nat) (bl : Nat) (v2 : Int32) (K_27 : Int32 → Int32 → g_St → Option g_St) (v3 : Int32) (v4 : Int32) (μ : g_St) : Option g_St :=
  (if v4 < (μ.1 bl 2) then
  (if ((v2 >>> (v4 &&& 31)) &&& (1 : Int32)) = (1 : Int32) then
  (og_startRings F br v4 μ).bind fun q2 =>
  (if q2.1 = 0 then
  (K_27 (v3 ||| (0 : Int32)) (v4 + 1) q2.2)
  else
  (K_27 (v3 ||| (1 : Int32)) (v4 + 1) q2.2))
  else
  (K_27 (v3 ||| (0 : Int32)) (v4 + 1) μ))
  else
  (og_find_72 F br bl v2 v3 F (1 : Int32) μ))
def og_find_27 (F : Nat) (br : Nat) (bl : Nat) (v2 : Int32) : Nat → Int32 → Int32 → g_St → Option g_St
  | 0, _, _, _ => none
  | f + 1, v3, v4, μ => og_find_27_b F br bl v2 (og_find_27 F br bl v2 f) v3 v4 μ
def og_find_2_b (F : Nat) (br : Nat) (bl : Nat) (v2 : Int32) (K_2 : Int32 → g_St → Option g_St) (v3 : Int32) (μ : g_St) : Option g_St :=
  (if v3 < (μ.1 bl 2) then
  (og_weigh F br bl v3 μ).bind fun μ1 =>
  (K_2 (v3 + 1) μ1)
  else
  (og_find_27 F br bl v2 F (0 : Int32) (0 : Int32) μ))
def og_find_2 (F : Nat) (br : Nat) (bl : Nat) (v2 : Int32) : Nat → Int32 → g_St → Option g_St
  | 0, _, _ => none
  | f + 1, v3, μ => og_find_2_b F br bl v2 (og_find_2 F br bl v2 f) v3 μ
def og_find (F : Nat) (br : Nat) (bl : Nat) (v2 : Int32) (μ : g_St) : Option g_St :=
  (og_find_2 F br bl v2 F (0 : Int32) μ)
def og_shortestIn_4_b (F : Nat) (br : Nat) (μ : g_St) (v1 : Int32) (K_4 : Int32 → Int32 → Option Int32) (v2 : Int32) (v3 : Int32) : Option Int32 :=
  (if 0 < v3 then
  (jj_bitCount μ v3).bind fun x1 =>
  (g_rd μ (br + 6) 256 v3).bind fun x2 =>
  (if x2 = (-1 : Int32) then
  (K_4 v2 ((v3 - (1 : Int32)) &&& v1))
  else
  (if v2 = (-1 : Int32) then
  (K_4 x1 ((v3 - (1 : Int32)) &&& v1))
  else
  (if x1 < v2 then
  (K_4 x1 ((v3 - (1 : Int32)) &&& v1))
  else
  (K_4 v2 ((v3 - (1 : Int32)) &&& v1)))))
  else
  (some v2))
def og_shortestIn_4 (F : Nat) (br : Nat) (μ : g_St) (v1 : Int32) : Nat → Int32 → Int32 → Option Int32
  | 0, _, _ => none
  | f + 1, v2, v3 => og_shortestIn_4_b F br μ v1 (og_shortestIn_4 F br μ v1 f) v2 v3 
def og_shortestIn (F : Nat) (br : Nat) (μ : g_St) (v1 : Int32) : Option Int32 :=
  (og_shortestIn_4 F br μ v1 F (-1 : Int32) v1)
def og_pairsOf_4_b (F : Nat) (br : Nat) (μ : g_St) (v1 : Int32) (K_4 : Int32 → Int32 → Option Int32) (v2 : Int32) (v3 : Int32) : Option Int32 :=
  (if v3 < (8 : Int32) then
  (if v3 = v1 then
  (K_4 (v2 + (0 : Int32)) (v3 + 1))
  else
  (g_rd μ (br + 6) 256 (((1 : Int32) <<< (v1 &&& 31)) ||| ((1 : Int32) <<< (v3 &&& 31)))).bind fun x1 =>
  (if x1 = (-1 : Int32) then
  (K_4 (v2 + (0 : Int32)) (v3 + 1))
  else
  (K_4 (v2 + (1 : Int32)) (v3 + 1))))
  else
  (some v2))
def og_pairsOf_4 (F : Nat) (br : Nat) (μ : g_St) (v1 : Int32) : Nat → Int32 → Int32 → Option Int32
  | 0, _, _ => none
  | f + 1, v2, v3 => og_pairsOf_4_b F br μ v1 (og_pairsOf_4 F br μ v1 f) v2 v3 
def og_pairsOf (F : Nat) (br : Nat) (μ : g_St) (v1 : Int32) : Option Int32 :=
  (og_pairsOf_4 F br μ v1 F (0 : Int32) (0 : Int32))
def oh_withGroup (μ : g_St) (v2 : Int32) (v3 : Int32) (v4 : Int32) : Option Int32 :=
  (g_rr (fun j => 93 + j) 6 (v2 - (1 : Int32))).bind fun r1 =>
  (g_rd μ r1 256 (v3 ^^^ v4)).bind fun x3 =>
  (jj_bitCount μ v4).bind fun x4 =>
  (if x4 ≤ (μ.1 91 2) then
  (if x3 = (-1 : Int32) then
  (some (-1 : Int32))
  else
  (g_rd μ 78 256 v4).bind fun x5 =>
  (some (x3 + x5)))
  else
  (some (-1 : Int32)))
def oh_bestSplit_19_b (F : Nat) (μ : g_St) (v2 : Int32) (v3 : Int32) (v5 : Int32) (v6 : Int32) (K_19 : Int32 → Int32 → Option Int32) (v4 : Int32) (v7 : Int32) : Option Int32 :=
  (if 0 ≤ v7 then
  (oh_withGroup μ v2 v3 (v7 ||| v5)).bind fun x1 =>
  (if v7 = 0 then
  (K_19 (g_max v4 x1) (-1 : Int32))
  else
  (K_19 (g_max v4 x1) ((v7 - (1 : Int32)) &&& v6)))
  else
  (some v4))
def oh_bestSplit_19 (F : Nat) (μ : g_St) (v2 : Int32) (v3 : Int32) (v5 : Int32) (v6 : Int32) : Nat → Int32 → Int32 → Option Int32
  | 0, _, _ => none
  | f + 1, v4, v7 => oh_bestSplit_19_b F μ v2 v3 v5 v6 (oh_bestSplit_19 F μ v2 v3 v5 v6 f) v4 v7 
def oh_bestSplit (F : Nat) (μ : g_St) (v2 : Int32) (v3 : Int32) : Option Int32 :=
  (oh_bestSplit_19 F μ v2 v3 (v3 &&& (-v3)) (v3 ^^^ (v3 &&& (-v3))) F (-1 : Int32) (v3 ^^^ (v3 &&& (-v3))))
def oh_fill_70_b (F : Nat) (v5 : Int32) (K_48 : Int32 → g_St → Option g_St) (K_70 : Int32 → g_St → Option g_St) (v6 : Int32) (μ : g_St) : Option g_St :=
  (if v6 ≤ (μ.1 91 1) then
  (g_rr (fun j => 93 + j) 6 v5).bind fun r15 =>
  (oh_bestSplit F μ v5 v6).bind fun x17 =>
  (g_wr μ r15 256 v6 x17).bind fun μ18 =>
  (K_70 (v6 + 1) μ18)
  else
  (g_rr (fun j => 93 + j) 6 v5).bind fun r19 =>
  (g_rd μ r19 256 (μ.1 91 1)).bind fun x21 =>
  (if (μ.1 91 4) < x21 then
  (g_rr (fun j => 93 + j) 6 v5).bind fun r22 =>
  (g_rd μ r22 256 (μ.1 91 1)).bind fun x24 =>
  (some (g_sI μ 91 4 x24)).bind fun μ25 =>
  (some (g_sI μ25 91 5 v5)).bind fun μ26 =>
  (K_48 (v5 + 1) μ26)
  else
  (K_48 (v5 + 1) μ)))
def oh_fill_70 (F : Nat) (v5 : Int32) (K_48 : Int32 → g_St → Option g_St) : Nat → Int32 → g_St → Option g_St
  | 0, _, _ => none
  | f + 1, v6, μ => oh_fill_70_b F v5 K_48 (oh_fill_70 F v5 K_48 f) v6 μ
def oh_fill_48_b (F : Nat) (K_48 : Int32 → g_St → Option g_St) (v5 : Int32) (μ : g_St) : Option g_St :=
  (if v5 ≤ (μ.1 91 3) then
  (g_rr (fun j => 93 + j) 6 v5).bind fun r12 =>
  (g_wr μ r12 256 (0 : Int32) (-1 : Int32)).bind fun μ14 =>
  (oh_fill_70 F v5 K_48 F (1 : Int32) μ14)
  else
  (some μ))
def oh_fill_48 (F : Nat) : Nat → Int32 → g_St → Option g_St
  | 0, _, _ => none
  | f + 1, v5, μ => oh_fill_48_b F (oh_fill_48 F f) v5 μ
def oh_fill (F : Nat) (v2 : Int32) (v3 : Int32) (v4 : Int32) (μ : g_St) : Option g_St :=
  (some (g_sI μ 91 1 v2)).bind fun μ1 =>
  (some (g_sI μ1 91 2 v3)).bind fun μ2 =>
  (some (g_sI μ2 91 3 v4)).bind fun μ3 =>
  (some (g_sI μ3 91 4 (-1 : Int32))).bind fun μ4 =>
  (some (g_sI μ4 91 5 (-1 : Int32))).bind fun μ5 =>
  (g_rr (fun j => 93 + j) 6 (0 : Int32)).bind fun r6 =>
  (jj_fill F r6 256 (-1 : Int32) μ5).bind fun μ8 =>
  (g_rr (fun j => 93 + j) 6 (0 : Int32)).bind fun r9 =>
  (g_wr μ8 r9 256 (0 : Int32) (0 : Int32)).bind fun μ11 =>
  (oh_fill_48 F F (1 : Int32) μ11)
def oh_together_18_b (F : Nat) (μ : g_St) (v2 : Int32) (v3 : Int32) (v4 : Int32) (K_10 : Int32 → Option Int32) (K_18 : Int32 → Option Int32) (v5 : Int32) : Option Int32 :=
  (if v5 ≤ (μ.1 91 3) then
  (oh_withGroup μ v5 (μ.1 91 1) (v4 ||| v2)).bind fun x1 =>
  (if x1 = (μ.1 91 4) then
  (some (1 : Int32))
  else
  (K_18 (v5 + 1)))
  else
  (if v4 = 0 then
  (K_10 (-1 : Int32))
  else
  (K_10 ((v4 - (1 : Int32)) &&& v3))))
def oh_together_18 (F : Nat) (μ : g_St) (v2 : Int32) (v3 : Int32) (v4 : Int32) (K_10 : Int32 → Option Int32) : Nat → Int32 → Option Int32
  | 0, _ => none
  | f + 1, v5 => oh_together_18_b F μ v2 v3 v4 K_10 (oh_together_18 F μ v2 v3 v4 K_10 f) v5 
def oh_together_10_b (F : Nat) (μ : g_St) (v2 : Int32) (v3 : Int32) (K_10 : Int32 → Option Int32) (v4 : Int32) : Option Int32 :=
  (if 0 ≤ v4 then
  (oh_together_18 F μ v2 v3 v4 K_10 F (1 : Int32))
  else
  (some (0 : Int32)))
def oh_together_10 (F : Nat) (μ : g_St) (v2 : Int32) (v3 : Int32) : Nat → Int32 → Option Int32
  | 0, _ => none
  | f + 1, v4 => oh_together_10_b F μ v2 v3 (oh_together_10 F μ v2 v3 f) v4 
def oh_together (F : Nat) (μ : g_St) (v2 : Int32) : Option Int32 :=
  (oh_together_10 F μ v2 ((μ.1 91 1) ^^^ v2) F ((μ.1 91 1) ^^^ v2))
def od_takeNewName_30 (F : Nat) (bl : Nat) (a2 na2 : Nat) (μ : g_St) : Option (Int32 × g_St) :=
  (ot_wrong (3 : Int32) μ).bind fun q4 =>
  (some ((q4.1 &&& 1), q4.2))
def od_takeNewName (F : Nat) (bl : Nat) (a2 na2 : Nat) (v3 : Int32) (μ : g_St) : Option (Int32 × g_St) :=
  (ot_isName μ).bind fun x1 =>
  (if x1 = 0 then
  (ot_wrong (1 : Int32) μ).bind fun q2 =>
  (some ((q2.1 &&& 1), q2.2))
  else
  (ol_isTold F bl μ (μ.2.1 1 9)).bind fun x3 =>
  (if x3 = 0 then
  (if (Int32.ofNat na2) ≤ v3 then
  (od_takeNewName_30 F bl a2 na2 μ)
  else
  (g_wl μ a2 na2 v3 (μ.2.1 1 9)).bind fun μ5 =>
  (ot_advance μ5).bind fun μ6 =>
  (some ((1 : Int32), μ6)))
  else
  (od_takeNewName_30 F bl a2 na2 μ)))
def od_readPlace (F : Nat) (bl : Nat) (μ : g_St) : Option (Int32 × g_St) :=
  (ot_advance μ).bind fun μ1 =>
  (od_takeNewName F bl (bl + 1) 5 (μ1.1 bl 0) μ1).bind fun q2 =>
  (if q2.1 = 0 then
  (some ((0 : Int32), q2.2))
  else
  (some (g_sI q2.2 bl 0 ((q2.2.1 bl 0) + (1 : Int32)))).bind fun μ3 =>
  (ot_take (59 : Int32) μ3).bind fun q4 =>
  (some ((q4.1 &&& 1), q4.2)))
def od_takeTold_41 (F : Nat) (a1 na1 : Nat) (s0 : Int32) (μ : g_St) : Option (Int32 × g_St) :=
  (ot_wrong s0 μ).bind fun q4 =>
  (some ((-1 : Int32), q4.2))
def od_takeTold_20 (F : Nat) (a1 na1 : Nat) (v3 : Int32) (s0 : Int32) (μ : g_St) : Option (Int32 × g_St) :=
  (if s0 = (-1 : Int32) then
  (ot_isName μ).bind fun x3 =>
  (if x3 = 0 then
  (od_takeTold_41 F a1 na1 (1 : Int32) μ)
  else
  (od_takeTold_41 F a1 na1 (2 : Int32) μ))
  else
  (if ((v3 >>> (s0 &&& 31)) &&& (1 : Int32)) = (1 : Int32) then
  (ot_wrong (3 : Int32) μ).bind fun q5 =>
  (some ((-1 : Int32), q5.2))
  else
  (ot_advance μ).bind fun μ6 =>
  (some (s0, μ6))))
def od_takeTold (F : Nat) (a1 na1 : Nat) (v2 : Int32) (v3 : Int32) (μ : g_St) : Option (Int32 × g_St) :=
  (ot_isName μ).bind fun x1 =>
  (if x1 = 0 then
  (od_takeTold_20 F a1 na1 v3 (-1 : Int32) μ)
  else
  (oo_indexIn F a1 na1 μ v2 (μ.2.1 1 9)).bind fun x2 =>
  (od_takeTold_20 F a1 na1 v3 x2 μ))
def od_readWay (F : Nat) (bl : Nat) (μ : g_St) : Option (Int32 × g_St) :=
  (ot_advance μ).bind fun μ1 =>
  (od_takeTold F (bl + 1) 5 (μ1.1 bl 0) (0 : Int32) μ1).bind fun q2 =>
  (if q2.1 = (-1 : Int32) then
  (some ((0 : Int32), q2.2))
  else
  (od_takeTold F (bl + 1) 5 (q2.2.1 bl 0) ((1 : Int32) <<< (q2.1 &&& 31)) q2.2).bind fun q3 =>
  (if q3.1 = (-1 : Int32) then
  (some ((0 : Int32), q3.2))
  else
  (ot_takeNumber (1 : Int32) (24 : Int32) q3.2).bind fun q4 =>
  (if q4.1 = (-1 : Int32) then
  (some ((0 : Int32), q4.2))
  else
  (g_rr (fun j => bl + 5 + j) 5 q2.1).bind fun r5 =>
  (g_wr q4.2 r5 5 q3.1 q4.1).bind fun μ7 =>
  (g_rr (fun j => bl + 5 + j) 5 q3.1).bind fun r8 =>
  (g_wr μ7 r8 5 q2.1 q4.1).bind fun μ10 =>
  (ot_take (59 : Int32) μ10).bind fun q11 =>
  (some ((q11.1 &&& 1), q11.2)))))
def od_takeGoods_4_b (F : Nat) (bl : Nat) (K_4 : Int32 → Int32 → g_St → Option (Int32 × g_St)) (v2 : Int32) (v3 : Int32) (μ : g_St) : Option (Int32 × g_St) :=
  (if v3 ≤ (6 : Int32) then
  (ot_isName μ).bind fun x1 =>
  (if x1 = 0 then
  (some (v2, μ))
  else
  (od_takeTold F (bl + 2) 6 (μ.1 bl 1) v2 μ).bind fun q2 =>
  (if q2.1 = (-1 : Int32) then
  (some ((-1 : Int32), q2.2))
  else
  (some (v2 ||| ((1 : Int32) <<< (q2.1 &&& 31)))).bind fun x3 =>
  (K_4 x3 (v3 + 1) q2.2)))
  else
  (some (v2, μ)))
def od_takeGoods_4 (F : Nat) (bl : Nat) : Nat → Int32 → Int32 → g_St → Option (Int32 × g_St)
  | 0, _, _, _ => none
  | f + 1, v2, v3, μ => od_takeGoods_4_b F bl (od_takeGoods_4 F bl f) v2 v3 μ
def od_takeGoods (F : Nat) (bl : Nat) (μ : g_St) : Option (Int32 × g_St) :=
  (od_takeGoods_4 F bl F (0 : Int32) (0 : Int32) μ)
def od_readGood_80 (F : Nat) (bl : Nat) (v2 : Int32) (v3 : Int32) (v4 : Int32) (μ : g_St) : Option (Int32 × g_St) :=
  (if v4 = (-1 : Int32) then
  (some ((0 : Int32), μ))
  else
  (ot_take (59 : Int32) μ).bind fun q8 =>
  (if q8.1 = 0 then
  (some ((0 : Int32), q8.2))
  else
  (g_wr q8.2 (bl + 10) 6 v2 v3).bind fun μ9 =>
  (g_wr μ9 (bl + 11) 6 v2 v4).bind fun μ10 =>
  (some (g_sI μ10 bl 1 ((μ10.1 bl 1) + (1 : Int32)))).bind fun μ11 =>
  (some ((1 : Int32), μ11))))
def od_readGood (F : Nat) (bl : Nat) (μ : g_St) : Option (Int32 × g_St) :=
  (ot_advance μ).bind fun μ1 =>
  (od_takeNewName F bl (bl + 2) 6 (μ.1 bl 1) μ1).bind fun q2 =>
  (if q2.1 = 0 then
  (some ((0 : Int32), q2.2))
  else
  (ot_take (3 : Int32) q2.2).bind fun q3 =>
  (if q3.1 = 0 then
  (some ((0 : Int32), q3.2))
  else
  (ot_takeNumber (1 : Int32) (24 : Int32) q3.2).bind fun q4 =>
  (if q4.1 = (-1 : Int32) then
  (some ((0 : Int32), q4.2))
  else
  (if (q4.2.1 1 8) = (4 : Int32) then
  (ot_advance q4.2).bind fun μ5 =>
  (od_takeGoods F bl μ5).bind fun q6 =>
  (if q6.1 = 0 then
  (ot_wrong (1 : Int32) q6.2).bind fun q7 =>
  (some ((q7.1 &&& 1), q7.2))
  else
  (od_readGood_80 F bl (μ.1 bl 1) q4.1 q6.1 q6.2))
  else
  (od_readGood_80 F bl (μ.1 bl 1) q4.1 (0 : Int32) q4.2)))))
def od_readWant_65 (F : Nat) (bl : Nat) (v4 : Nat) (K_44 : Int32 → Int32 → g_St → Option (Int32 × g_St)) (v3 : Int32) (v5 : Int32) (v6 : Int32) (μ : g_St) : Option (Int32 × g_St) :=
  (ot_takeNumber (0 : Int32) v5 μ).bind fun q5 =>
  (if q5.1 = (-1 : Int32) then
  (some ((-1 : Int32), q5.2))
  else
  (g_wr q5.2 v4 18 ((v3 * (3 : Int32)) + v6) q5.1).bind fun μ6 =>
  (K_44 q5.1 (v6 + 1) μ6))
def od_readWant_44_b (F : Nat) (bl : Nat) (v4 : Nat) (v3 : Int32) (K_44 : Int32 → Int32 → g_St → Option (Int32 × g_St)) (v5 : Int32) (v6 : Int32) (μ : g_St) : Option (Int32 × g_St) :=
  (if v6 < (3 : Int32) then
  (if v6 = 0 then
  (od_readWant_65 F bl v4 K_44 v3 v5 v6 μ)
  else
  (if (μ.1 1 8) = (201 : Int32) then
  (od_readWant_65 F bl v4 K_44 v3 v5 v6 μ)
  else
  (some (v3, μ))))
  else
  (some (v3, μ)))
def od_readWant_44 (F : Nat) (bl : Nat) (v4 : Nat) (v3 : Int32) : Nat → Int32 → Int32 → g_St → Option (Int32 × g_St)
  | 0, _, _, _ => none
  | f + 1, v5, v6, μ => od_readWant_44_b F bl v4 v3 (od_readWant_44 F bl v4 v3 f) v5 v6 μ
def od_readWant (F : Nat) (bl : Nat) (v2 : Int32) (μ : g_St) : Option (Int32 × g_St) :=
  (ot_advance μ).bind fun μ1 =>
  (od_takeTold F (bl + 2) 6 (μ1.1 bl 1) v2 μ1).bind fun q2 =>
  (if q2.1 = (-1 : Int32) then
  (some ((-1 : Int32), q2.2))
  else
  (g_rr (fun j => bl + 15 + j) 8 (q2.2.1 bl 2)).bind fun r3 =>
  (od_readWant_44 F bl r3 q2.1 F (999 : Int32) (0 : Int32) q2.2))
def od_readPerson_132 (F : Nat) (bl : Nat) (v2 : Int32) (v3 : Int32) (v4 : Int32) (μ : g_St) : Option (Int32 × g_St) :=
  (ot_take (59 : Int32) μ).bind fun q9 =>
  (if q9.1 = 0 then
  (some ((0 : Int32), q9.2))
  else
  (g_wr q9.2 (bl + 12) 8 v2 v3).bind fun μ10 =>
  (g_wr μ10 (bl + 13) 8 v2 v4).bind fun μ11 =>
  (some (g_sI μ11 bl 2 ((μ11.1 bl 2) + (1 : Int32)))).bind fun μ12 =>
  (some ((1 : Int32), μ12)))
def od_readPerson_84_b (F : Nat) (bl : Nat) (v2 : Int32) (v3 : Int32) (v4 : Int32) (K_84 : Int32 → Int32 → g_St → Option (Int32 × g_St)) (v5 : Int32) (v6 : Int32) (μ : g_St) : Option (Int32 × g_St) :=
  (if v6 ≤ (6 : Int32) then
  (if (μ.1 1 8) = (8 : Int32) then
  (od_readWant F bl v5 μ).bind fun q7 =>
  (if q7.1 = (-1 : Int32) then
  (some ((0 : Int32), q7.2))
  else
  (some (v5 ||| ((1 : Int32) <<< (q7.1 &&& 31)))).bind fun x8 =>
  (K_84 x8 (v6 + 1) q7.2))
  else
  (od_readPerson_132 F bl v2 v3 v4 μ))
  else
  (od_readPerson_132 F bl v2 v3 v4 μ))
def od_readPerson_84 (F : Nat) (bl : Nat) (v2 : Int32) (v3 : Int32) (v4 : Int32) : Nat → Int32 → Int32 → g_St → Option (Int32 × g_St)
  | 0, _, _, _ => none
  | f + 1, v5, v6, μ => od_readPerson_84_b F bl v2 v3 v4 (od_readPerson_84 F bl v2 v3 v4 f) v5 v6 μ
def od_readPerson (F : Nat) (bl : Nat) (μ : g_St) : Option (Int32 × g_St) :=
  (ot_advance μ).bind fun μ1 =>
  (od_takeNewName F bl (bl + 3) 8 (μ.1 bl 2) μ1).bind fun q2 =>
  (if q2.1 = 0 then
  (some ((0 : Int32), q2.2))
  else
  (ot_take (6 : Int32) q2.2).bind fun q3 =>
  (if q3.1 = 0 then
  (some ((0 : Int32), q3.2))
  else
  (od_takeTold F (bl + 1) 5 (q3.2.1 bl 0) (0 : Int32) q3.2).bind fun q4 =>
  (if q4.1 = (-1 : Int32) then
  (some ((0 : Int32), q4.2))
  else
  (ot_take (7 : Int32) q4.2).bind fun q5 =>
  (if q5.1 = 0 then
  (some ((0 : Int32), q5.2))
  else
  (od_takeGoods F bl q5.2).bind fun q6 =>
  (if q6.1 = (-1 : Int32) then
  (some ((0 : Int32), q6.2))
  else
  (od_readPerson_84 F bl (μ.1 bl 2) q4.1 q6.1 F (0 : Int32) (0 : Int32) q6.2))))))
def od_readLine (F : Nat) (bl : Nat) (μ : g_St) : Option (Int32 × g_St) :=
  (if (μ.1 1 8) = (0 : Int32) then
  (if (μ.1 bl 0) < (5 : Int32) then
  (od_readPlace F bl μ).bind fun q1 =>
  (some ((q1.1 &&& 1), q1.2))
  else
  (ot_wrong (5 : Int32) μ).bind fun q2 =>
  (some ((q2.1 &&& 1), q2.2)))
  else
  (if (μ.1 1 8) = (1 : Int32) then
  (od_readWay F bl μ).bind fun q4 =>
  (some ((q4.1 &&& 1), q4.2))
  else
  (if (μ.1 1 8) = (2 : Int32) then
  (if (μ.1 bl 1) < (6 : Int32) then
  (od_readGood F bl μ).bind fun q6 =>
  (some ((q6.1 &&& 1), q6.2))
  else
  (ot_wrong (5 : Int32) μ).bind fun q7 =>
  (some ((q7.1 &&& 1), q7.2)))
  else
  (if (μ.1 1 8) = (3 : Int32) then
  (ot_wrong (1 : Int32) μ).bind fun q9 =>
  (some ((q9.1 &&& 1), q9.2))
  else
  (if (μ.1 1 8) = (4 : Int32) then
  (ot_wrong (1 : Int32) μ).bind fun q11 =>
  (some ((q11.1 &&& 1), q11.2))
  else
  (if (μ.1 1 8) = (5 : Int32) then
  (if (μ.1 bl 2) < (8 : Int32) then
  (od_readPerson F bl μ).bind fun q13 =>
  (some ((q13.1 &&& 1), q13.2))
  else
  (ot_wrong (5 : Int32) μ).bind fun q14 =>
  (some ((q14.1 &&& 1), q14.2)))
  else
  (ot_wrong (1 : Int32) μ).bind fun q16 =>
  (some ((q16.1 &&& 1), q16.2))))))))
def od_read_44 (F : Nat) (bl : Nat) (μ : g_St) : Option (Int32 × g_St) :=
  (ol_shortenWays F bl μ).bind fun μ4 =>
  (ot_close μ4).bind fun q5 =>
  (some (q5.1, q5.2))
def od_read_10_b (F : Nat) (bl : Nat) (K_10 : Int32 → g_St → Option (Int32 × g_St)) (v2 : Int32) (μ : g_St) : Option (Int32 × g_St) :=
  (if v2 < (1000 : Int32) then
  (if (μ.1 1 8) = (202 : Int32) then
  (od_read_44 F bl μ)
  else
  (od_readLine F bl μ).bind fun q3 =>
  (if q3.1 = 0 then
  (od_read_44 F bl q3.2)
  else
  (K_10 (v2 + 1) q3.2)))
  else
  (od_read_44 F bl μ))
def od_read_10 (F : Nat) (bl : Nat) : Nat → Int32 → g_St → Option (Int32 × g_St)
  | 0, _, _ => none
  | f + 1, v2, μ => od_read_10_b F bl (od_read_10 F bl f) v2 μ
def od_read (F : Nat) (bl : Nat) (μ : g_St) : Option (Int32 × g_St) :=
  (ol_clear F bl μ).bind fun μ1 =>
  (ot_open F μ1).bind fun μ2 =>
  (od_read_10 F bl F (0 : Int32) μ2)
def oe_isFact (μ : g_St) (v0 : Int32) : Option Int32 :=
  (if v0 = (2 : Int32) then
  (some (1 : Int32))
  else
  (if v0 = (3 : Int32) then
  (some (1 : Int32))
  else
  (if (14 : Int32) ≤ v0 then
  (if v0 < (20 : Int32) then
  (some (1 : Int32))
  else
  (some (0 : Int32)))
  else
  (some (0 : Int32)))))
def oe_joins (μ : g_St) (v0 : Int32) (v1 : Int32) : Option Int32 :=
  (if v1 = (0 : Int32) then
  (if v0 = (11 : Int32) then
  (some (1 : Int32))
  else
  (if v0 = (12 : Int32) then
  (some (1 : Int32))
  else
  (some (0 : Int32))))
  else
  (if v1 = (1 : Int32) then
  (if v0 = (60 : Int32) then
  (some (1 : Int32))
  else
  (if v0 = (61 : Int32) then
  (some (1 : Int32))
  else
  (some (0 : Int32))))
  else
  (if v1 = (2 : Int32) then
  (if v0 = (43 : Int32) then
  (some (1 : Int32))
  else
  (if v0 = (45 : Int32) then
  (some (1 : Int32))
  else
  (some (0 : Int32))))
  else
  (if v0 = (42 : Int32) then
  (some (1 : Int32))
  else
  (some (0 : Int32))))))
def oe_readJoined_43_b (F : Nat) (bu : Nat) (rec : Bool → Int32 → Int32 → g_St → Option (Int32 × g_St)) (v2 : Int32) (v3 : Int32) (v4 : Int32) (K_43 : Int32 → g_St → Option (Int32 × g_St)) (v5 : Int32) (μ : g_St) : Option (Int32 × g_St) :=
  (if v5 < v4 then
  (oe_joins μ (μ.1 1 8) v2).bind fun x3 =>
  (if x3 = 0 then
  (some ((1 : Int32), μ))
  else
  (ot_advance μ).bind fun μ4 =>
  (rec true (v2 + (1 : Int32)) v3 μ4).bind fun q5 =>
  (if q5.1 = 0 then
  (some ((0 : Int32), q5.2))
  else
  (ou_put bu ((20000 : Int32) + (μ.1 1 8)) q5.2).bind fun μ6 =>
  (K_43 (v5 + 1) μ6)))
  else
  (some ((1 : Int32), μ)))
def oe_readJoined_43 (F : Nat) (bu : Nat) (rec : Bool → Int32 → Int32 → g_St → Option (Int32 × g_St)) (v2 : Int32) (v3 : Int32) (v4 : Int32) : Nat → Int32 → g_St → Option (Int32 × g_St)
  | 0, _, _ => none
  | f + 1, v5, μ => oe_readJoined_43_b F bu rec v2 v3 v4 (oe_readJoined_43 F bu rec v2 v3 v4 f) v5 μ
def oe_readJoined_b (F : Nat) (bu : Nat) (rec : Bool → Int32 → Int32 → g_St → Option (Int32 × g_St)) (v2 : Int32) (v3 : Int32) (μ : g_St) : Option (Int32 × g_St) :=
  (if (3 : Int32) < v2 then
  (rec false (0 : Int32) v3 μ).bind fun q1 =>
  (some ((q1.1 &&& 1), q1.2))
  else
  (rec true (v2 + (1 : Int32)) v3 μ).bind fun q2 =>
  (if q2.1 = 0 then
  (some ((0 : Int32), q2.2))
  else
  (if v2 = (1 : Int32) then
  (oe_readJoined_43 F bu rec v2 v3 (1 : Int32) F (0 : Int32) q2.2)
  else
  (oe_readJoined_43 F bu rec v2 v3 (1000 : Int32) F (0 : Int32) q2.2))))
def oe_readPart_141 (F : Nat) (bu : Nat) (rec : Bool → Int32 → Int32 → g_St → Option (Int32 × g_St)) (v5 : Int32) (μ : g_St) : Option (Int32 × g_St) :=
  (ou_put bu v5 μ).bind fun μ8 =>
  (some ((1 : Int32), μ8))
def oe_readPart_78 (F : Nat) (bu : Nat) (rec : Bool → Int32 → Int32 → g_St → Option (Int32 × g_St)) (v2 : Int32) (v3 : Int32) (s0 : Int32) (μ : g_St) : Option (Int32 × g_St) :=
  (ot_advance μ).bind fun μ4 =>
  (if v3 = (40 : Int32) then
  (rec true (0 : Int32) (v2 + (1 : Int32)) μ4).bind fun q5 =>
  (if q5.1 = 0 then
  (some ((0 : Int32), q5.2))
  else
  (ot_take (41 : Int32) q5.2).bind fun q6 =>
  (if q6.1 = 0 then
  (some ((0 : Int32), q6.2))
  else
  (some ((1 : Int32), q6.2))))
  else
  (if v3 = (13 : Int32) then
  (rec false (0 : Int32) (v2 + (1 : Int32)) μ4).bind fun q7 =>
  (if q7.1 = 0 then
  (some ((0 : Int32), q7.2))
  else
  (oe_readPart_141 F bu rec (20013 : Int32) q7.2))
  else
  (oe_readPart_141 F bu rec s0 μ4)))
def oe_readPart_49 (F : Nat) (bu : Nat) (rec : Bool → Int32 → Int32 → g_St → Option (Int32 × g_St)) (v2 : Int32) (v3 : Int32) (v4 : Int32) (μ : g_St) : Option (Int32 × g_St) :=
  (if (5 : Int32) ≤ v2 then
  (ot_wrong (5 : Int32) μ).bind fun q3 =>
  (some ((q3.1 &&& 1), q3.2))
  else
  (if v4 = 0 then
  (oe_readPart_78 F bu rec v2 v3 ((10000 : Int32) + v3) μ)
  else
  (oe_readPart_78 F bu rec v2 v3 ((μ.2.1 1 9).toInt32) μ)))
def oe_readPart_17 (F : Nat) (bu : Nat) (rec : Bool → Int32 → Int32 → g_St → Option (Int32 × g_St)) (v2 : Int32) (v3 : Int32) (s0 : Int32) (μ : g_St) : Option (Int32 × g_St) :=
  (if s0 = 0 then
  (oe_isFact μ v3).bind fun x1 =>
  (if x1 = 0 then
  (if v3 = (13 : Int32) then
  (oe_readPart_49 F bu rec v2 v3 s0 μ)
  else
  (if v3 = (40 : Int32) then
  (oe_readPart_49 F bu rec v2 v3 s0 μ)
  else
  (ot_wrong (1 : Int32) μ).bind fun q2 =>
  (some ((q2.1 &&& 1), q2.2))))
  else
  (oe_readPart_49 F bu rec v2 v3 s0 μ))
  else
  (oe_readPart_49 F bu rec v2 v3 s0 μ))
def oe_readPart_b (F : Nat) (bu : Nat) (rec : Bool → Int32 → Int32 → g_St → Option (Int32 × g_St)) (v2 : Int32) (μ : g_St) : Option (Int32 × g_St) :=
  (if (μ.1 1 8) = (201 : Int32) then
  (oe_readPart_17 F bu rec v2 (μ.1 1 8) (1 : Int32) μ)
  else
  (oe_readPart_17 F bu rec v2 (μ.1 1 8) (0 : Int32) μ))
def oe_rp (F : Nat) (bu : Nat) : Nat → Bool → Int32 → Int32 → g_St → Option (Int32 × g_St)
  | 0, _, _, _, _ => none
  | D + 1, true, u, v, μ => oe_readJoined_b F bu (oe_rp F bu D) u v μ
  | D + 1, false, _, v, μ => oe_readPart_b F bu (oe_rp F bu D) v μ
def oe_readLine_24 (F : Nat) (bu : Nat) (μ : g_St) : Option (Int32 × g_St) :=
  (ot_take (9 : Int32) μ).bind fun q2 =>
  (if q2.1 = 0 then
  (some ((0 : Int32), q2.2))
  else
  (ot_take (10 : Int32) q2.2).bind fun q3 =>
  (if q3.1 = 0 then
  (some ((0 : Int32), q3.2))
  else
  (oe_rp F bu 45 true (0 : Int32) (0 : Int32) q3.2).bind fun q4 =>
  (if q4.1 = 0 then
  (some ((0 : Int32), q4.2))
  else
  (ot_take (59 : Int32) q4.2).bind fun q5 =>
  (if q5.1 = 0 then
  (some ((0 : Int32), q5.2))
  else
  (ou_endLine bu q5.2).bind fun μ6 =>
  (some ((1 : Int32), μ6))))))
def oe_readLine (F : Nat) (bu : Nat) (μ : g_St) : Option (Int32 × g_St) :=
  (if (μ.1 1 8) = (9 : Int32) then
  (if (6 : Int32) ≤ (μ.1 bu 3) then
  (ot_wrong (5 : Int32) μ).bind fun q1 =>
  (some ((q1.1 &&& 1), q1.2))
  else
  (oe_readLine_24 F bu μ))
  else
  (oe_readLine_24 F bu μ))
def oe_read_44 (F : Nat) (bu : Nat) (μ : g_St) : Option (Int32 × g_St) :=
  (ot_close μ).bind fun q4 =>
  (some (q4.1, q4.2))
def oe_read_10_b (F : Nat) (bu : Nat) (K_10 : Int32 → g_St → Option (Int32 × g_St)) (v2 : Int32) (μ : g_St) : Option (Int32 × g_St) :=
  (if v2 < (1000 : Int32) then
  (if (μ.1 1 8) = (202 : Int32) then
  (oe_read_44 F bu μ)
  else
  (oe_readLine F bu μ).bind fun q3 =>
  (if q3.1 = 0 then
  (oe_read_44 F bu q3.2)
  else
  (K_10 (v2 + 1) q3.2)))
  else
  (oe_read_44 F bu μ))
def oe_read_10 (F : Nat) (bu : Nat) : Nat → Int32 → g_St → Option (Int32 × g_St)
  | 0, _, _ => none
  | f + 1, v2, μ => oe_read_10_b F bu (oe_read_10 F bu f) v2 μ
def oe_read (F : Nat) (bu : Nat) (μ : g_St) : Option (Int32 × g_St) :=
  (ou_clear bu μ).bind fun μ1 =>
  (ot_open F μ1).bind fun μ2 =>
  (oe_read_10 F bu F (0 : Int32) μ2)
def oo_feed (F : Nat) (v1 : Int64) (v3 : Int64) (v5 : Int64) (μ : g_St) : Option (Int32 × g_St) :=
  (ot_add F v1 μ).bind fun μ1 =>
  (ot_add F v3 μ1).bind fun μ2 =>
  (ot_add F v5 μ2).bind fun μ3 =>
  (some ((μ3.1 1 2), μ3))
def oo_land (F : Nat) (μ : g_St) : Option (Int32 × g_St) :=
  (g_ql μ 1).bind fun b1 =>
  (od_read F b1 μ).bind fun q2 =>
  (if q2.1 = 0 then
  (g_ql q2.2 1).bind fun b3 =>
  (g_ql q2.2 0).bind fun b4 =>
  (some (g_sQ q2.2 1 b4)).bind fun μ5 =>
  (some (g_sQ μ5 0 b3)).bind fun μ6 =>
  (g_ql μ6 0).bind fun b7 =>
  (ow_begin F 61 b7 μ6).bind fun μ8 =>
  (some (g_sI μ8 0 7 (0 : Int32))).bind fun μ9 =>
  (some (g_sI μ9 0 14 (0 : Int32))).bind fun μ10 =>
  (some ((0 : Int32), μ10))
  else
  (some (q2.1, q2.2)))
def oo_rule (F : Nat) (μ : g_St) : Option (Int32 × g_St) :=
  (g_qr μ 3).bind fun b1 =>
  (oe_read F b1 μ).bind fun q2 =>
  (if q2.1 = 0 then
  (g_qr q2.2 3).bind fun b3 =>
  (g_qr q2.2 2).bind fun b4 =>
  (some (g_sQ q2.2 3 b4)).bind fun μ5 =>
  (some (g_sQ μ5 2 b3)).bind fun μ6 =>
  (some (g_sI μ6 0 14 (0 : Int32))).bind fun μ7 =>
  (some ((0 : Int32), μ7))
  else
  (some (q2.1, q2.2)))
def oo_isPlace (μ : g_St) (v1 : Int32) : Option Int32 :=
  (if 0 ≤ v1 then
  (g_ql μ 0).bind fun b1 =>
  (if v1 < (μ.1 b1 0) then
  (some (1 : Int32))
  else
  (some (0 : Int32)))
  else
  (some (0 : Int32)))
def oo_way (μ : g_St) (v1 : Int32) (v2 : Int32) : Option Int32 :=
  (oo_isPlace μ v1).bind fun x1 =>
  (if x1 = 0 then
  (some (-1 : Int32))
  else
  (oo_isPlace μ v2).bind fun x2 =>
  (if x2 = 0 then
  (some (-1 : Int32))
  else
  (g_ql μ 0).bind fun b3 =>
  (g_rr (fun j => b3 + 5 + j) 5 v1).bind fun r4 =>
  (g_rd μ r4 5 v2).bind fun x6 =>
  (if (999 : Int32) ≤ x6 then
  (some (-1 : Int32))
  else
  (g_ql μ 0).bind fun b7 =>
  (g_rr (fun j => b7 + 5 + j) 5 v1).bind fun r8 =>
  (g_rd μ r8 5 v2).bind fun x10 =>
  (some x10))))
def oo_isGood (μ : g_St) (v1 : Int32) : Option Int32 :=
  (if 0 ≤ v1 then
  (g_ql μ 0).bind fun b1 =>
  (if v1 < (μ.1 b1 1) then
  (some (1 : Int32))
  else
  (some (0 : Int32)))
  else
  (some (0 : Int32)))
def oo_good (F : Nat) (μ : g_St) (v1 : Int32) (v2 : Int32) : Option Int32 :=
  (oo_isGood μ v1).bind fun x1 =>
  (if x1 = 0 then
  (some (-1 : Int32))
  else
  (if v2 = (0 : Int32) then
  (g_ql μ 0).bind fun b2 =>
  (g_rd μ (b2 + 10) 6 v1).bind fun x3 =>
  (some x3)
  else
  (if v2 = (1 : Int32) then
  (g_ql μ 0).bind fun b5 =>
  (g_rd μ (b5 + 11) 6 v1).bind fun x6 =>
  (some x6)
  else
  (if v2 = (2 : Int32) then
  (g_ql μ 0).bind fun b8 =>
  (ol_makersOf F b8 μ v1).bind fun x9 =>
  (some x9)
  else
  (some (-1 : Int32))))))
def oo_isPerson (μ : g_St) (v1 : Int32) : Option Int32 :=
  (if 0 ≤ v1 then
  (g_ql μ 0).bind fun b1 =>
  (if v1 < (μ.1 b1 2) then
  (some (1 : Int32))
  else
  (some (0 : Int32)))
  else
  (some (0 : Int32)))
def oo_worth (μ : g_St) (v1 : Int32) (v2 : Int32) (v3 : Int32) : Option Int32 :=
  (oo_isPerson μ v1).bind fun x1 =>
  (if x1 = 0 then
  (some (-1 : Int32))
  else
  (oo_isGood μ v2).bind fun x2 =>
  (if x2 = 0 then
  (some (-1 : Int32))
  else
  (if 0 ≤ v3 then
  (if (3 : Int32) ≤ v3 then
  (some (-1 : Int32))
  else
  (g_ql μ 0).bind fun b3 =>
  (ol_worthOf b3 μ v1 v2 v3).bind fun x4 =>
  (some x4))
  else
  (some (-1 : Int32)))))
def oo_happyOf_4_b (F : Nat) (μ : g_St) (v1 : Int32) (K_4 : Int32 → Int32 → Option Int32) (v2 : Int32) (v3 : Int32) : Option Int32 :=
  (g_ql μ 0).bind fun b1 =>
  (if v3 < (μ.1 b1 1) then
  (g_ql μ 0).bind fun b2 =>
  (ow_held F 61 μ v1 v3).bind fun x3 =>
  (ol_worthOfSome F b2 μ v1 v3 x3).bind fun x4 =>
  (K_4 (v2 + x4) (v3 + 1))
  else
  (some v2))
def oo_happyOf_4 (F : Nat) (μ : g_St) (v1 : Int32) : Nat → Int32 → Int32 → Option Int32
  | 0, _, _ => none
  | f + 1, v2, v3 => oo_happyOf_4_b F μ v1 (oo_happyOf_4 F μ v1 f) v2 v3 
def oo_happyOf (F : Nat) (μ : g_St) (v1 : Int32) : Option Int32 :=
  (oo_happyOf_4 F μ v1 F (0 : Int32) (0 : Int32))
def oo_person (F : Nat) (μ : g_St) (v1 : Int32) (v2 : Int32) : Option Int32 :=
  (oo_isPerson μ v1).bind fun x1 =>
  (if x1 = 0 then
  (some (-1 : Int32))
  else
  (if v2 = (0 : Int32) then
  (g_ql μ 0).bind fun b2 =>
  (g_rd μ (b2 + 12) 8 v1).bind fun x3 =>
  (some x3)
  else
  (if v2 = (1 : Int32) then
  (g_rd μ 68 8 v1).bind fun x5 =>
  (some x5)
  else
  (if v2 = (2 : Int32) then
  (g_rd μ 67 8 v1).bind fun x7 =>
  (some x7)
  else
  (if v2 = (3 : Int32) then
  (oo_happyOf F μ v1).bind fun x9 =>
  (some x9)
  else
  (if v2 = (4 : Int32) then
  (ow_heldBy F 61 μ v1).bind fun x11 =>
  (some x11)
  else
  (if v2 = (5 : Int32) then
  (g_ql μ 0).bind fun b13 =>
  (g_rd μ (b13 + 13) 8 v1).bind fun x14 =>
  (some x14)
  else
  (some (-1 : Int32)))))))))
def oo_make_71 (F : Nat) (v1 : Int32) (v3 : Int32) (v4 : Int32) (s0 : Int32) (μ : g_St) : Option (Int32 × g_St) :=
  (some (((1 : Int32) <<< (v1 &&& 31)) ||| ((1 : Int32) <<< (s0 &&& 31)))).bind fun x4 =>
  (ow_laterClock 61 μ v1 s0).bind fun x5 =>
  (g_ql μ 0).bind fun b6 =>
  (g_rd μ (b6 + 10) 6 v3).bind fun x7 =>
  (if (168 : Int32) < (x5 + x7) then
  (some ((2 : Int32), μ))
  else
  (g_ql μ 0).bind fun b8 =>
  (ol_makersOf F b8 μ v3).bind fun x9 =>
  (if (x9 &&& x4) = 0 then
  (some ((3 : Int32), μ))
  else
  (g_ql μ 0).bind fun b10 =>
  (g_rd μ (b10 + 11) 6 v3).bind fun x11 =>
  (ow_holdsOfEach F 61 μ v1 x11).bind fun x12 =>
  (if x12 = 0 then
  (some ((3 : Int32), μ))
  else
  (g_rd μ 68 8 v1).bind fun x13 =>
  (g_rd μ 68 8 s0).bind fun x14 =>
  (if x13 = x14 then
  (if (40 : Int32) ≤ (μ.1 61 0) then
  (some ((7 : Int32), μ))
  else
  (g_ql μ 0).bind fun b15 =>
  (g_rd μ (b15 + 11) 6 v3).bind fun x16 =>
  (ow_useUp F 61 v1 x16 μ).bind fun μ17 =>
  (ow_add 61 v3 v4 x4 v1 (x5 + x7) μ17).bind fun μ18 =>
  (ow_setClocks 61 v1 s0 (x5 + x7) μ18).bind fun μ19 =>
  (some (g_sI μ19 0 14 (0 : Int32))).bind fun μ20 =>
  (some ((0 : Int32), μ20)))
  else
  (some ((4 : Int32), μ))))))
def oo_make_40 (F : Nat) (v1 : Int32) (v2 : Int32) (v3 : Int32) (v4 : Int32) (v5 : Int32) (μ : g_St) : Option (Int32 × g_St) :=
  (oo_isGood μ v3).bind fun x3 =>
  (if x3 = 0 then
  (some ((1 : Int32), μ))
  else
  (if 0 ≤ v4 then
  (if (3 : Int32) < v4 then
  (some ((1 : Int32), μ))
  else
  (if v5 = 0 then
  (oo_make_71 F v1 v3 v4 v2 μ)
  else
  (oo_make_71 F v1 v3 v4 v1 μ)))
  else
  (some ((1 : Int32), μ))))
def oo_make_10 (F : Nat) (v1 : Int32) (v2 : Int32) (v3 : Int32) (v4 : Int32) (s0 : Int32) (μ : g_St) : Option (Int32 × g_St) :=
  (oo_isPerson μ v1).bind fun x1 =>
  (if x1 = 0 then
  (some ((1 : Int32), μ))
  else
  (if s0 = 0 then
  (oo_isPerson μ v2).bind fun x2 =>
  (if x2 = 0 then
  (some ((1 : Int32), μ))
  else
  (if v2 = v1 then
  (some ((1 : Int32), μ))
  else
  (oo_make_40 F v1 v2 v3 v4 s0 μ)))
  else
  (oo_make_40 F v1 v2 v3 v4 s0 μ)))
def oo_make (F : Nat) (v1 : Int32) (v2 : Int32) (v3 : Int32) (v4 : Int32) (μ : g_St) : Option (Int32 × g_St) :=
  (if v2 = (-1 : Int32) then
  (oo_make_10 F v1 v2 v3 v4 (1 : Int32) μ)
  else
  (oo_make_10 F v1 v2 v3 v4 (0 : Int32) μ))
def oo_go (v1 : Int32) (v2 : Int32) (μ : g_St) : Option (Int32 × g_St) :=
  (oo_isPerson μ v1).bind fun x1 =>
  (if x1 = 0 then
  (some ((1 : Int32), μ))
  else
  (oo_isPlace μ v2).bind fun x2 =>
  (if x2 = 0 then
  (some ((1 : Int32), μ))
  else
  (g_ql μ 0).bind fun b3 =>
  (g_rd μ 68 8 v1).bind fun x4 =>
  (g_rr (fun j => b3 + 5 + j) 5 x4).bind fun r5 =>
  (g_rd μ r5 5 v2).bind fun x7 =>
  (if x7 < (999 : Int32) then
  (g_rd μ 67 8 v1).bind fun x8 =>
  (if (168 : Int32) < (x8 + x7) then
  (some ((2 : Int32), μ))
  else
  (g_rd μ 67 8 v1).bind fun x9 =>
  (g_wr μ 67 8 v1 (x9 + x7)).bind fun μ10 =>
  (g_wr μ10 68 8 v1 v2).bind fun μ11 =>
  (some ((0 : Int32), μ11)))
  else
  (some ((2 : Int32), μ)))))
def oo_areTwo (μ : g_St) (v1 : Int32) (v2 : Int32) : Option Int32 :=
  (oo_isPerson μ v1).bind fun x1 =>
  (if x1 = 0 then
  (some (0 : Int32))
  else
  (oo_isPerson μ v2).bind fun x2 =>
  (if x2 = 0 then
  (some (0 : Int32))
  else
  (if v1 = v2 then
  (some (0 : Int32))
  else
  (some (1 : Int32)))))
def oo_isThing (μ : g_St) (v1 : Int32) : Option Int32 :=
  (if 0 ≤ v1 then
  (if v1 < (μ.1 61 0) then
  (some (1 : Int32))
  else
  (some (0 : Int32)))
  else
  (some (0 : Int32)))
def oo_fillFacts (v1 : Int32) (v2 : Int32) (v3 : Int32) (v4 : Int32) (v5 : Int32) (μ : g_St) : Option g_St :=
  (g_wr μ 70 20 (14 : Int32) (1 : Int32)).bind fun μ1 =>
  (g_wr μ1 70 20 (15 : Int32) (1 : Int32)).bind fun μ2 =>
  (g_wr μ2 70 20 (16 : Int32) (0 : Int32)).bind fun μ3 =>
  (g_wr μ3 70 20 (17 : Int32) ((v4 >>> (v1 &&& 31)) &&& (1 : Int32))).bind fun μ4 =>
  (g_ql μ4 0).bind fun b5 =>
  (g_rd μ4 (b5 + 10) 6 v3).bind fun x6 =>
  (g_wr μ4 70 20 (3 : Int32) x6).bind fun μ7 =>
  (g_ql μ7 0).bind fun b8 =>
  (ol_away b8 μ7 v1 v2).bind fun x9 =>
  (g_wr μ7 70 20 (18 : Int32) x9).bind fun μ10 =>
  (g_wr μ10 70 20 (2 : Int32) v3).bind fun μ11 =>
  (g_wr μ11 70 20 (19 : Int32) ((v5 >>> (v3 &&& 31)) &&& (1 : Int32))).bind fun μ12 =>
  (some μ12)
def oo_isLawful_53 (F : Nat) (v1 : Int32) (v3 : Int32) (v7 : Int32) (s0 : Int32) (s1 : Int32) (μ : g_St) : Option (Int32 × g_St) :=
  (g_wr μ 70 20 s1 s0).bind fun μ4 =>
  (g_wr μ4 70 20 (15 : Int32) ((v7 >>> (v1 &&& 31)) &&& (1 : Int32))).bind fun μ5 =>
  (g_rd μ5 63 40 v3).bind fun x6 =>
  (g_wr μ5 70 20 (16 : Int32) x6).bind fun μ7 =>
  (g_qr μ7 2).bind fun b8 =>
  (ou_allows F b8 μ7).bind fun q9 =>
  (some ((q9.1 &&& 1), q9.2))
def oo_isLawful (F : Nat) (v1 : Int32) (v2 : Int32) (v3 : Int32) (v4 : Int32) (v5 : Int32) (μ : g_St) : Option (Int32 × g_St) :=
  (g_rd μ 62 40 v3).bind fun x1 =>
  (oo_fillFacts v1 v2 x1 v4 v5 μ).bind fun μ2 =>
  (g_rd μ2 64 40 v3).bind fun x3 =>
  (if x3 = ((1 : Int32) <<< (v1 &&& 31)) then
  (oo_isLawful_53 F v1 v3 x3 (1 : Int32) (14 : Int32) μ2)
  else
  (oo_isLawful_53 F v1 v3 x3 (0 : Int32) (14 : Int32) μ2))
def oo_isLawfulNow_28 (F : Nat) (v1 : Int32) (v2 : Int32) (v3 : Int32) (s0 : Int32) (μ : g_St) : Option (Int32 × g_St) :=
  (oo_isLawful F v1 v2 v3 s0 (μ.1 61 1) μ).bind fun q4 =>
  (some ((q4.1 &&& 1), q4.2))
def oo_isLawfulNow (F : Nat) (v1 : Int32) (v2 : Int32) (v3 : Int32) (μ : g_St) : Option (Int32 × g_St) :=
  (g_rd μ 68 8 v1).bind fun x1 =>
  (g_ql μ 0).bind fun b2 =>
  (g_rd μ (b2 + 12) 8 v1).bind fun x3 =>
  (if x1 = x3 then
  (oo_isLawfulNow_28 F v1 v2 v3 ((1 : Int32) <<< (v1 &&& 31)) μ)
  else
  (oo_isLawfulNow_28 F v1 v2 v3 (0 : Int32) μ))
def oo_give (F : Nat) (v1 : Int32) (v2 : Int32) (v3 : Int32) (μ : g_St) : Option (Int32 × g_St) :=
  (oo_areTwo μ v1 v2).bind fun x1 =>
  (if x1 = 0 then
  (some ((1 : Int32), μ))
  else
  (oo_isThing μ v3).bind fun x2 =>
  (if x2 = 0 then
  (some ((1 : Int32), μ))
  else
  (g_rd μ 68 8 v1).bind fun x3 =>
  (g_rd μ 68 8 v2).bind fun x4 =>
  (if x3 = x4 then
  (g_rd μ 65 40 v3).bind fun x5 =>
  (if x5 = v1 then
  (oo_isLawfulNow F v1 v2 v3 μ).bind fun q6 =>
  (if q6.1 = 0 then
  (some ((6 : Int32), q6.2))
  else
  (ow_laterClock 61 q6.2 v1 v2).bind fun x7 =>
  (ow_setClocks 61 v1 v2 x7 q6.2).bind fun μ8 =>
  (g_wr μ8 65 40 v3 v2).bind fun μ9 =>
  (some (g_sI μ9 0 14 (0 : Int32))).bind fun μ10 =>
  (some ((0 : Int32), μ10)))
  else
  (some ((5 : Int32), μ)))
  else
  (some ((4 : Int32), μ)))))
def oo_thing (v1 : Int32) (v2 : Int32) (μ : g_St) : Option ((Int32 ⊕ Nat) × g_St) :=
  (oo_isThing μ v1).bind fun x1 =>
  (if x1 = 0 then
  (some (.inr 8, μ))
  else
  (if v2 = (0 : Int32) then
  (g_rd μ 62 40 v1).bind fun x2 =>
  (some (.inl x2, μ))
  else
  (if v2 = (1 : Int32) then
  (g_rd μ 63 40 v1).bind fun x4 =>
  (some (.inl x4, μ))
  else
  (if v2 = (2 : Int32) then
  (g_rd μ 64 40 v1).bind fun x6 =>
  (some (.inl x6, μ))
  else
  (if v2 = (3 : Int32) then
  (g_rd μ 65 40 v1).bind fun x8 =>
  (some (.inl x8, μ))
  else
  (if v2 = (4 : Int32) then
  (g_rd μ 66 40 v1).bind fun x10 =>
  (some (.inl x10, μ))
  else
  (some (.inr 102, μ))))))))
def oo_isHeldBy (μ : g_St) (v1 : Int32) (v2 : Int32) (v3 : Int32) : Option Int32 :=
  (oo_areTwo μ v1 v2).bind fun x1 =>
  (if x1 = 0 then
  (some (0 : Int32))
  else
  (oo_isThing μ v3).bind fun x2 =>
  (if x2 = 0 then
  (some (0 : Int32))
  else
  (g_rd μ 65 40 v3).bind fun x3 =>
  (if x3 = v1 then
  (some (1 : Int32))
  else
  (some (0 : Int32)))))
def oo_lawful (F : Nat) (v1 : Int32) (v2 : Int32) (v3 : Int32) (μ : g_St) : Option (Int32 × g_St) :=
  (oo_isHeldBy μ v1 v2 v3).bind fun x1 =>
  (if x1 = 0 then
  (some ((-1 : Int32), μ))
  else
  (oo_isLawfulNow F v1 v2 v3 μ).bind fun q2 =>
  (if q2.1 = 0 then
  (some ((0 : Int32), q2.2))
  else
  (some ((1 : Int32), q2.2))))
def oo_everybody (μ : g_St) : Option Int32 :=
  (g_ql μ 0).bind fun b1 =>
  (some (((1 : Int32) <<< ((μ.1 b1 2) &&& 31)) - (1 : Int32)))
def oo_isSet (μ : g_St) (v1 : Int32) : Option Int32 :=
  (if 0 ≤ v1 then
  (oo_everybody μ).bind fun x1 =>
  (if v1 ≤ x1 then
  (some (1 : Int32))
  else
  (some (0 : Int32)))
  else
  (some (0 : Int32)))
def oo_findRounds_119 (F : Nat) (br : Nat) (K_7 : Int32 → g_St → Option g_St) (K_72 : Int32 → g_St → Option g_St) (v2 : Int32) (v3 : Int32) (v4 : Int32) (v5 : Int32) (v6 : Int32) (v7 : Int32) (v8 : Int32) (s0 : Int32) (μ : g_St) : Option g_St :=
  (if s0 = 0 then
  (K_72 (v8 + 1) μ)
  else
  (oo_isLawful F v6 v8 v5 v3 v4 μ).bind fun q7 =>
  (if q7.1 = 0 then
  (K_72 (v8 + 1) q7.2)
  else
  (og_allow br v6 v8 ((1 : Int32) <<< (v7 &&& 31)) q7.2).bind fun μ8 =>
  (K_72 (v8 + 1) μ8)))
def oo_findRounds_118 (F : Nat) (br : Nat) (K_7 : Int32 → g_St → Option g_St) (K_72 : Int32 → g_St → Option g_St) (v2 : Int32) (v3 : Int32) (v4 : Int32) (v5 : Int32) (v6 : Int32) (v7 : Int32) (v8 : Int32) (μ : g_St) : Option g_St :=
  (oo_findRounds_119 F br K_7 K_72 v2 v3 v4 v5 v6 v7 v8 (0 : Int32) μ)
def oo_findRounds_72_b (F : Nat) (br : Nat) (v2 : Int32) (v3 : Int32) (v4 : Int32) (v5 : Int32) (v6 : Int32) (v7 : Int32) (K_7 : Int32 → g_St → Option g_St) (K_72 : Int32 → g_St → Option g_St) (v8 : Int32) (μ : g_St) : Option g_St :=
  (g_ql μ 0).bind fun b5 =>
  (if v8 < (μ.1 b5 2) then
  (if v8 = v6 then
  (oo_findRounds_118 F br K_7 K_72 v2 v3 v4 v5 v6 v7 v8 μ)
  else
  (if ((v2 >>> (v8 &&& 31)) &&& (1 : Int32)) = (1 : Int32) then
  (og_mayGive br μ v6 v8 v7).bind fun x6 =>
  (if x6 = 0 then
  (oo_findRounds_119 F br K_7 K_72 v2 v3 v4 v5 v6 v7 v8 (1 : Int32) μ)
  else
  (oo_findRounds_118 F br K_7 K_72 v2 v3 v4 v5 v6 v7 v8 μ))
  else
  (oo_findRounds_118 F br K_7 K_72 v2 v3 v4 v5 v6 v7 v8 μ)))
  else
  (K_7 (v5 + 1) μ))
def oo_findRounds_72 (F : Nat) (br : Nat) (v2 : Int32) (v3 : Int32) (v4 : Int32) (v5 : Int32) (v6 : Int32) (v7 : Int32) (K_7 : Int32 → g_St → Option g_St) : Nat → Int32 → g_St → Option g_St
  | 0, _, _ => none
  | f + 1, v8, μ => oo_findRounds_72_b F br v2 v3 v4 v5 v6 v7 K_7 (oo_findRounds_72 F br v2 v3 v4 v5 v6 v7 K_7 f) v8 μ
def oo_findRounds_7_b (F : Nat) (br : Nat) (v2 : Int32) (v3 : Int32) (v4 : Int32) (K_7 : Int32 → g_St → Option g_St) (v5 : Int32) (μ : g_St) : Option g_St :=
  (if v5 < (μ.1 61 0) then
  (g_rd μ 65 40 v5).bind fun x2 =>
  (if x2 = (-1 : Int32) then
  (K_7 (v5 + 1) μ)
  else
  (if ((v2 >>> (x2 &&& 31)) &&& (1 : Int32)) = 0 then
  (K_7 (v5 + 1) μ)
  else
  (g_rd μ 62 40 v5).bind fun x3 =>
  (og_hold br x2 x3 μ).bind fun μ4 =>
  (oo_findRounds_72 F br v2 v3 v4 v5 x2 x3 K_7 F (0 : Int32) μ4)))
  else
  (g_ql μ 0).bind fun b9 =>
  (og_find F br b9 v2 μ).bind fun μ10 =>
  (some μ10))
def oo_findRounds_7 (F : Nat) (br : Nat) (v2 : Int32) (v3 : Int32) (v4 : Int32) : Nat → Int32 → g_St → Option g_St
  | 0, _, _ => none
  | f + 1, v5, μ => oo_findRounds_7_b F br v2 v3 v4 (oo_findRounds_7 F br v2 v3 v4 f) v5 μ
def oo_findRounds (F : Nat) (br : Nat) (v2 : Int32) (v3 : Int32) (v4 : Int32) (μ : g_St) : Option g_St :=
  (og_clear F br μ).bind fun μ1 =>
  (oo_findRounds_7 F br v2 v3 v4 F (0 : Int32) μ1)
def oo_anywhere (F : Nat) (μ : g_St) : Option g_St :=
  (if (μ.1 0 14) = 0 then
  (oo_everybody μ).bind fun x1 =>
  (oo_findRounds F 71 x1 (0 : Int32) (μ.1 61 1) μ).bind fun μ2 =>
  (some (g_sI μ2 0 14 (1 : Int32))).bind fun μ3 =>
  (some μ3)
  else
  (some μ))
def oo_round (F : Nat) (v1 : Int32) (μ : g_St) : Option (Int32 × g_St) :=
  (oo_isSet μ v1).bind fun x1 =>
  (if x1 = 0 then
  (some ((-1 : Int32), μ))
  else
  (oo_anywhere F μ).bind fun μ2 =>
  (g_rd μ2 77 256 v1).bind fun x3 =>
  (some (x3, μ2)))
def oo_most (F : Nat) (v1 : Int32) (v2 : Int32) (μ : g_St) : Option (Int32 × g_St) :=
  (oo_isSet μ v1).bind fun x1 =>
  (if x1 = 0 then
  (some ((-1 : Int32), μ))
  else
  (if 0 ≤ v2 then
  (if (2 : Int32) < v2 then
  (some ((-1 : Int32), μ))
  else
  (oo_anywhere F μ).bind fun μ2 =>
  (if v2 = 0 then
  (g_rd μ2 78 256 v1).bind fun x3 =>
  (some (x3, μ2))
  else
  (if v2 = (1 : Int32) then
  (g_rd μ2 79 256 v1).bind fun x4 =>
  (some (x4, μ2))
  else
  (g_rd μ2 80 256 v1).bind fun x5 =>
  (some (x5, μ2)))))
  else
  (some ((-1 : Int32), μ))))
def oo_at_50 (F : Nat) (K_17 : Int32 → Int32 → Int32 → g_St → Option (Int32 × g_St)) (v1 : Int32) (v2 : Int32) (v3 : Int32) (v4 : Int32) (μ : g_St) : Option (Int32 × g_St) :=
  (g_ql μ 0).bind fun b5 =>
  (g_rd μ (b5 + 12) 8 v4).bind fun x6 =>
  (if x6 = v1 then
  (some (v3 ||| ((1 : Int32) <<< (v4 &&& 31)))).bind fun x7 =>
  (K_17 v2 x7 (v4 + 1) μ)
  else
  (K_17 v2 v3 (v4 + 1) μ))
def oo_at_17_b (F : Nat) (v1 : Int32) (K_17 : Int32 → Int32 → Int32 → g_St → Option (Int32 × g_St)) (v2 : Int32) (v3 : Int32) (v4 : Int32) (μ : g_St) : Option (Int32 × g_St) :=
  (g_ql μ 0).bind fun b2 =>
  (if v4 < (μ.1 b2 2) then
  (g_rd μ 68 8 v4).bind fun x3 =>
  (if x3 = v1 then
  (some (v2 ||| ((1 : Int32) <<< (v4 &&& 31)))).bind fun x4 =>
  (oo_at_50 F K_17 v1 x4 v3 v4 μ)
  else
  (oo_at_50 F K_17 v1 v2 v3 v4 μ))
  else
  (oo_findRounds F 81 v2 v3 (μ.1 61 1) μ).bind fun μ8 =>
  (g_rd μ8 88 256 v2).bind fun x9 =>
  (some (x9, μ8)))
def oo_at_17 (F : Nat) (v1 : Int32) : Nat → Int32 → Int32 → Int32 → g_St → Option (Int32 × g_St)
  | 0, _, _, _, _ => none
  | f + 1, v2, v3, v4, μ => oo_at_17_b F v1 (oo_at_17 F v1 f) v2 v3 v4 μ
def oo_at (F : Nat) (v1 : Int32) (μ : g_St) : Option (Int32 × g_St) :=
  (oo_isPlace μ v1).bind fun x1 =>
  (if x1 = 0 then
  (some ((-1 : Int32), μ))
  else
  (oo_at_17 F v1 F (0 : Int32) (0 : Int32) (0 : Int32) μ))
def oo_length (F : Nat) (v1 : Int32) (μ : g_St) : Option (Int32 × g_St) :=
  (oo_isSet μ v1).bind fun x1 =>
  (if x1 = 0 then
  (some ((-1 : Int32), μ))
  else
  (oo_anywhere F μ).bind fun μ2 =>
  (og_shortestIn F 71 μ2 v1).bind fun x3 =>
  (some (x3, μ2)))
def oo_canLive (μ : g_St) (v1 : Int32) : Option Int32 :=
  (if (1 : Int32) ≤ v1 then
  (if v1 ≤ (8 : Int32) then
  (g_ql μ 0).bind fun b1 =>
  (if 0 < (μ.1 b1 2) then
  (g_ql μ 0).bind fun b2 =>
  (g_ql μ 0).bind fun b3 =>
  (if (μ.1 b2 2) ≤ (v1 * (μ.1 b3 0)) then
  (some (1 : Int32))
  else
  (some (0 : Int32)))
  else
  (some (0 : Int32)))
  else
  (some (0 : Int32)))
  else
  (some (0 : Int32)))
def oo_live (F : Nat) (v1 : Int32) (v2 : Int32) (μ : g_St) : Option (Int32 × g_St) :=
  (oo_canLive μ v1).bind fun x1 =>
  (if x1 = 0 then
  (some ((-1 : Int32), μ))
  else
  (if 0 ≤ v2 then
  (if (1 : Int32) < v2 then
  (some ((-1 : Int32), μ))
  else
  (oo_anywhere F μ).bind fun μ2 =>
  (oo_everybody μ2).bind fun x3 =>
  (g_ql μ2 0).bind fun b4 =>
  (oh_fill F x3 v1 (μ2.1 b4 0) μ2).bind fun μ5 =>
  (if v2 = 0 then
  (some ((μ5.1 91 4), μ5))
  else
  (some ((μ5.1 91 5), μ5))))
  else
  (some ((-1 : Int32), μ))))
def oo_beside (F : Nat) (v1 : Int32) (v2 : Int32) (v3 : Int32) (μ : g_St) : Option (Int32 × g_St) :=
  (oo_canLive μ v1).bind fun x1 =>
  (if x1 = 0 then
  (some ((-1 : Int32), μ))
  else
  (oo_areTwo μ v2 v3).bind fun x2 =>
  (if x2 = 0 then
  (some ((-1 : Int32), μ))
  else
  (oo_anywhere F μ).bind fun μ3 =>
  (oo_everybody μ3).bind fun x4 =>
  (g_ql μ3 0).bind fun b5 =>
  (oh_fill F x4 v1 (μ3.1 b5 0) μ3).bind fun μ6 =>
  (oh_together F μ6 (((1 : Int32) <<< (v2 &&& 31)) ||| ((1 : Int32) <<< (v3 &&& 31)))).bind fun x7 =>
  (if x7 = 0 then
  (some ((0 : Int32), μ6))
  else
  (some ((1 : Int32), μ6)))))
def oo_had (F : Nat) (μ : g_St) (v1 : Int32) : Option Int32 :=
  (oo_isSet μ v1).bind fun x1 =>
  (if x1 = 0 then
  (some (-1 : Int32))
  else
  (g_ql μ 0).bind fun b2 =>
  (ol_hadIn F b2 μ v1).bind fun x3 =>
  (some x3))
def oo_never (F : Nat) (μ : g_St) (v1 : Int32) : Option Int32 :=
  (oo_isSet μ v1).bind fun x1 =>
  (if x1 = 0 then
  (some (-1 : Int32))
  else
  (g_ql μ 0).bind fun b2 =>
  (ol_lackedIn F b2 μ v1).bind fun x3 =>
  (some x3))
def oo_fewest_84 (F : Nat) (μ : g_St) (K_27 : Int32 → Int32 → Int32 → Option Int32) (v1 : Int32) (v2 : Int32) (v5 : Int32) : Option Int32 :=
  (jj_bitCount μ v5).bind fun x6 =>
  (K_27 x6 v5 (v5 + 1))
def oo_fewest_63 (F : Nat) (μ : g_St) (K_27 : Int32 → Int32 → Int32 → Option Int32) (v1 : Int32) (v2 : Int32) (v3 : Int32) (v4 : Int32) (v5 : Int32) (s0 : Int32) : Option Int32 :=
  (if s0 = 0 then
  (K_27 v3 v4 (v5 + 1))
  else
  (if v3 = (-1 : Int32) then
  (oo_fewest_84 F μ K_27 v1 v2 v5)
  else
  (jj_bitCount μ v5).bind fun x5 =>
  (if x5 < v3 then
  (oo_fewest_84 F μ K_27 v1 v2 v5)
  else
  (K_27 v3 v4 (v5 + 1)))))
def oo_fewest_62 (F : Nat) (μ : g_St) (K_27 : Int32 → Int32 → Int32 → Option Int32) (v1 : Int32) (v2 : Int32) (v3 : Int32) (v4 : Int32) (v5 : Int32) : Option Int32 :=
  (oo_fewest_63 F μ K_27 v1 v2 v3 v4 v5 (0 : Int32))
def oo_fewest_27_b (F : Nat) (μ : g_St) (v1 : Int32) (v2 : Int32) (K_27 : Int32 → Int32 → Int32 → Option Int32) (v3 : Int32) (v4 : Int32) (v5 : Int32) : Option Int32 :=
  (oo_everybody μ).bind fun x2 =>
  (if v5 ≤ x2 then
  (if ((v5 >>> (v1 &&& 31)) &&& (1 : Int32)) = (1 : Int32) then
  (g_ql μ 0).bind fun b3 =>
  (ol_lackedIn F b3 μ v5).bind fun x4 =>
  (if x4 = 0 then
  (oo_fewest_63 F μ K_27 v1 v2 v3 v4 v5 (1 : Int32))
  else
  (oo_fewest_62 F μ K_27 v1 v2 v3 v4 v5))
  else
  (oo_fewest_62 F μ K_27 v1 v2 v3 v4 v5))
  else
  (if v2 = 0 then
  (some v3)
  else
  (some v4)))
def oo_fewest_27 (F : Nat) (μ : g_St) (v1 : Int32) (v2 : Int32) : Nat → Int32 → Int32 → Int32 → Option Int32
  | 0, _, _, _ => none
  | f + 1, v3, v4, v5 => oo_fewest_27_b F μ v1 v2 (oo_fewest_27 F μ v1 v2 f) v3 v4 v5 
def oo_fewest (F : Nat) (μ : g_St) (v1 : Int32) (v2 : Int32) : Option Int32 :=
  (oo_isPerson μ v1).bind fun x1 =>
  (if x1 = 0 then
  (some (-1 : Int32))
  else
  (if 0 ≤ v2 then
  (if (1 : Int32) < v2 then
  (some (-1 : Int32))
  else
  (oo_fewest_27 F μ v1 v2 F (-1 : Int32) (-1 : Int32) (1 : Int32)))
  else
  (some (-1 : Int32))))
def oo_isFair (μ : g_St) (v1 : Int32) (v2 : Int32) : Option Int32 :=
  (if 0 ≤ v1 then
  (if v1 ≤ (168 : Int32) then
  (if 0 ≤ v2 then
  (if v2 ≤ (99 : Int32) then
  (some (1 : Int32))
  else
  (some (0 : Int32)))
  else
  (some (0 : Int32)))
  else
  (some (0 : Int32)))
  else
  (some (0 : Int32)))
def oo_fairWorth (F : Nat) (br : Nat) (μ : g_St) (v2 : Int32) (v3 : Int32) (v4 : Int32) : Option Int32 :=
  (g_ql μ 0).bind fun b1 =>
  (ol_comersTo F b1 μ v2 v3).bind fun x2 =>
  (g_rd μ (br + 7) 256 x2).bind fun x3 =>
  (g_ql μ 0).bind fun b4 =>
  (ol_hoursTo F b4 μ v2 x2).bind fun x5 =>
  (some (x3 - (v4 * x5)))
def oo_fair (F : Nat) (v1 : Int32) (v2 : Int32) (v3 : Int32) (v4 : Int32) (μ : g_St) : Option ((Int32 ⊕ Nat) × g_St) :=
  (oo_isPlace μ v1).bind fun x1 =>
  (if x1 = 0 then
  (some (.inr 28, μ))
  else
  (oo_isFair μ v2 v3).bind fun x2 =>
  (if x2 = 0 then
  (some (.inr 28, μ))
  else
  (if 0 ≤ v4 then
  (if (1 : Int32) < v4 then
  (some (.inr 28, μ))
  else
  (if v4 = 0 then
  (oo_anywhere F μ).bind fun μ3 =>
  (oo_fairWorth F 71 μ3 v1 v2 v3).bind fun x4 =>
  (some (.inl x4, μ3))
  else
  (g_ql μ 0).bind fun b5 =>
  (ol_comersTo F b5 μ v1 v2).bind fun x6 =>
  (some (.inl x6, μ))))
  else
  (some (.inr 28, μ)))))
def oo_fairest_19_b (F : Nat) (v1 : Int32) (v2 : Int32) (K_19 : Int32 → Int32 → Int32 → g_St → Option (Int32 × g_St)) (v3 : Int32) (v4 : Int32) (v5 : Int32) (μ : g_St) : Option (Int32 × g_St) :=
  (g_ql μ 0).bind fun b2 =>
  (if v5 < (μ.1 b2 0) then
  (oo_anywhere F μ).bind fun μ3 =>
  (oo_fairWorth F 71 μ3 v5 v1 v2).bind fun x4 =>
  (if v3 = (-1 : Int32) then
  (K_19 v5 x4 (v5 + 1) μ3)
  else
  (if v4 < x4 then
  (K_19 v5 x4 (v5 + 1) μ3)
  else
  (K_19 v3 v4 (v5 + 1) μ3)))
  else
  (some (v3, μ)))
def oo_fairest_19 (F : Nat) (v1 : Int32) (v2 : Int32) : Nat → Int32 → Int32 → Int32 → g_St → Option (Int32 × g_St)
  | 0, _, _, _, _ => none
  | f + 1, v3, v4, v5, μ => oo_fairest_19_b F v1 v2 (oo_fairest_19 F v1 v2 f) v3 v4 v5 μ
def oo_fairest (F : Nat) (v1 : Int32) (v2 : Int32) (μ : g_St) : Option (Int32 × g_St) :=
  (oo_isFair μ v1 v2).bind fun x1 =>
  (if x1 = 0 then
  (some ((-1 : Int32), μ))
  else
  (oo_fairest_19 F v1 v2 F (-1 : Int32) (0 : Int32) (0 : Int32) μ))
def oo_far (F : Nat) (μ : g_St) (v1 : Int32) (v2 : Int32) (v3 : Int32) (v4 : Int32) : Option Int32 :=
  (oo_isPerson μ v1).bind fun x1 =>
  (if x1 = 0 then
  (some (-1 : Int32))
  else
  (oo_isGood μ v2).bind fun x2 =>
  (if x2 = 0 then
  (some (-1 : Int32))
  else
  (if (1 : Int32) ≤ v3 then
  (if v3 ≤ (99 : Int32) then
  (if 0 ≤ v4 then
  (if (1 : Int32) < v4 then
  (some (-1 : Int32))
  else
  (g_ql μ 0).bind fun b3 =>
  (ol_worthOf b3 μ v1 v2 (0 : Int32)).bind fun x4 =>
  (g_dv x4 v3).bind fun x5 =>
  (if v4 = 0 then
  (some (g_min x5 (999 : Int32)))
  else
  (g_ql μ 0).bind fun b6 =>
  (ol_makersWithin F b6 μ v1 v2 (g_min x5 (999 : Int32))).bind fun x7 =>
  (some x7)))
  else
  (some (-1 : Int32)))
  else
  (some (-1 : Int32)))
  else
  (some (-1 : Int32)))))
def oo_bestShared_25_b (F : Nat) (v1 : Int32) (v2 : Int32) (v3 : Int32) (v4 : Int32) (K_13 : Int32 → Int32 → g_St → Option (Int32 × g_St)) (K_25 : Int32 → Int32 → g_St → Option (Int32 × g_St)) (v5 : Int32) (v6 : Int32) (μ : g_St) : Option (Int32 × g_St) :=
  (g_ql μ 0).bind fun b2 =>
  (if v6 < (μ.1 b2 2) then
  (g_ql μ 0).bind fun b3 =>
  (g_rd μ 99 8 v6).bind fun x4 =>
  (ol_worthOf b3 μ v6 v1 x4).bind fun x5 =>
  (g_ql μ 0).bind fun b6 =>
  (g_rd μ 99 8 v5).bind fun x7 =>
  (ol_worthOf b6 μ v5 v1 x7).bind fun x8 =>
  (if x8 < x5 then
  (K_25 v6 (v6 + 1) μ)
  else
  (K_25 v5 (v6 + 1) μ))
  else
  (g_ql μ 0).bind fun b9 =>
  (g_rd μ 99 8 v5).bind fun x10 =>
  (ol_worthOf b9 μ v5 v1 x10).bind fun x11 =>
  (g_rd μ 99 8 v5).bind fun x12 =>
  (g_wr μ 99 8 v5 (x12 + (1 : Int32))).bind fun μ13 =>
  (K_13 (v3 + x11) (v4 + 1) μ13))
def oo_bestShared_25 (F : Nat) (v1 : Int32) (v2 : Int32) (v3 : Int32) (v4 : Int32) (K_13 : Int32 → Int32 → g_St → Option (Int32 × g_St)) : Nat → Int32 → Int32 → g_St → Option (Int32 × g_St)
  | 0, _, _, _ => none
  | f + 1, v5, v6, μ => oo_bestShared_25_b F v1 v2 v3 v4 K_13 (oo_bestShared_25 F v1 v2 v3 v4 K_13 f) v5 v6 μ
def oo_bestShared_13_b (F : Nat) (v1 : Int32) (v2 : Int32) (K_13 : Int32 → Int32 → g_St → Option (Int32 × g_St)) (v3 : Int32) (v4 : Int32) (μ : g_St) : Option (Int32 × g_St) :=
  (if v4 < v2 then
  (oo_bestShared_25 F v1 v2 v3 v4 K_13 F (0 : Int32) (1 : Int32) μ)
  else
  (some (v3, μ)))
def oo_bestShared_13 (F : Nat) (v1 : Int32) (v2 : Int32) : Nat → Int32 → Int32 → g_St → Option (Int32 × g_St)
  | 0, _, _, _ => none
  | f + 1, v3, v4, μ => oo_bestShared_13_b F v1 v2 (oo_bestShared_13 F v1 v2 f) v3 v4 μ
def oo_bestShared (F : Nat) (v1 : Int32) (v2 : Int32) (μ : g_St) : Option (Int32 × g_St) :=
  (jj_fill F 99 8 (0 : Int32) μ).bind fun μ1 =>
  (oo_bestShared_13 F v1 v2 F (0 : Int32) (0 : Int32) μ1)
def oo_coinFor_7_b (F : Nat) (v1 : Int32) (K_7 : Int32 → Int32 → Int32 → g_St → Option (Int32 × g_St)) (v2 : Int32) (v3 : Int32) (v4 : Int32) (μ : g_St) : Option (Int32 × g_St) :=
  (g_ql μ 0).bind fun b1 =>
  (if v4 < (μ.1 b1 2) then
  (ow_held F 61 μ v4 v1).bind fun x2 =>
  (g_ql μ 0).bind fun b3 =>
  (ol_worthOfSome F b3 μ v4 v1 x2).bind fun x4 =>
  (K_7 (v2 + x2) (v3 + x4) (v4 + 1) μ)
  else
  (oo_bestShared F v1 v2 μ).bind fun q5 =>
  (some ((q5.1 - v3), q5.2)))
def oo_coinFor_7 (F : Nat) (v1 : Int32) : Nat → Int32 → Int32 → Int32 → g_St → Option (Int32 × g_St)
  | 0, _, _, _, _ => none
  | f + 1, v2, v3, v4, μ => oo_coinFor_7_b F v1 (oo_coinFor_7 F v1 f) v2 v3 v4 μ
def oo_coinFor (F : Nat) (v1 : Int32) (μ : g_St) : Option (Int32 × g_St) :=
  (oo_coinFor_7 F v1 F (0 : Int32) (0 : Int32) (0 : Int32) μ)
def oo_coin_27_b (F : Nat) (K_27 : Int32 → Int32 → g_St → Option (Int32 × g_St)) (v2 : Int32) (v3 : Int32) (μ : g_St) : Option (Int32 × g_St) :=
  (g_ql μ 0).bind fun b3 =>
  (if v3 < (μ.1 b3 1) then
  (oo_coinFor F v3 μ).bind fun q4 =>
  (K_27 (v2 + q4.1) (v3 + 1) q4.2)
  else
  (some (v2, μ)))
def oo_coin_27 (F : Nat) : Nat → Int32 → Int32 → g_St → Option (Int32 × g_St)
  | 0, _, _, _ => none
  | f + 1, v2, v3, μ => oo_coin_27_b F (oo_coin_27 F f) v2 v3 μ
def oo_coin (F : Nat) (v1 : Int32) (μ : g_St) : Option (Int32 × g_St) :=
  (if v1 = (-1 : Int32) then
  (oo_coin_27 F F (0 : Int32) (0 : Int32) μ)
  else
  (oo_isGood μ v1).bind fun x1 =>
  (if x1 = 0 then
  (some ((-1 : Int32), μ))
  else
  (oo_coinFor F v1 μ).bind fun q2 =>
  (some (q2.1, q2.2))))
def oo_lifted (v1 : Int32) (v2 : Int32) (μ : g_St) : Option (Int32 × g_St) :=
  (oo_isGood μ v1).bind fun x1 =>
  (if x1 = 0 then
  (some ((0 : Int32), μ))
  else
  (if v2 = 0 then
  (some (g_sI μ 61 1 ((μ.1 61 1) &&& (((1 : Int32) <<< (v1 &&& 31)) ^^^ (-1 : Int32))))).bind fun μ4 =>
  (some (g_sI μ4 0 14 (0 : Int32))).bind fun μ5 =>
  (some ((1 : Int32), μ5))
  else
  (some (g_sI μ 61 1 ((μ.1 61 1) ||| ((1 : Int32) <<< (v1 &&& 31))))).bind fun μ2 =>
  (some (g_sI μ2 0 14 (0 : Int32))).bind fun μ3 =>
  (some ((1 : Int32), μ3))))
def oo_mostWith_31 (F : Nat) (v1 : Int32) (μ : g_St) : Option (Int32 × g_St) :=
  (oo_everybody μ).bind fun x3 =>
  (oo_findRounds F 81 x3 (0 : Int32) v1 μ).bind fun μ4 =>
  (oo_everybody μ4).bind fun x5 =>
  (g_rd μ4 88 256 x5).bind fun x6 =>
  (some (x6, μ4))
def oo_mostWith (F : Nat) (v1 : Int32) (μ : g_St) : Option (Int32 × g_St) :=
  (if (μ.1 0 14) = 0 then
  (oo_mostWith_31 F v1 μ)
  else
  (if v1 = (μ.1 61 1) then
  (oo_everybody μ).bind fun x1 =>
  (g_rd μ 78 256 x1).bind fun x2 =>
  (some (x2, μ))
  else
  (oo_mostWith_31 F v1 μ)))
def oo_lift (F : Nat) (v1 : Int32) (μ : g_St) : Option (Int32 × g_St) :=
  (oo_isGood μ v1).bind fun x1 =>
  (if x1 = 0 then
  (some ((-1 : Int32), μ))
  else
  (oo_mostWith F ((μ.1 61 1) ||| ((1 : Int32) <<< (v1 &&& 31))) μ).bind fun q2 =>
  (oo_mostWith F ((q2.2.1 61 1) &&& (((1 : Int32) <<< (v1 &&& 31)) ^^^ (-1 : Int32))) q2.2).bind fun q3 =>
  (some ((q2.1 - q3.1), q3.2)))
def oo_leastFine (μ : g_St) (v0 : Int32) (v1 : Int32) : Option Int32 :=
  (if v0 ≤ 0 then
  (some (0 : Int32))
  else
  (if v1 ≤ 0 then
  (some (-1 : Int32))
  else
  (g_dv ((v0 + v1) - (1 : Int32)) v1).bind fun x1 =>
  (if x1 ≤ (9999 : Int32) then
  (some x1)
  else
  (some (-1 : Int32)))))
def oo_partOfTen_33 (μ : g_St) (v1 : Int32) (v2 : Int32) (v3 : Int32) : Option Int32 :=
  (if v1 = 0 then
  (some v2)
  else
  (some v3))
def oo_partOfTen_19 (μ : g_St) (v1 : Int32) (v2 : Int32) (v3 : Int32) : Option Int32 :=
  (g_rm v2 (5 : Int32)).bind fun x4 =>
  (if x4 = 0 then
  (g_dv v2 (5 : Int32)).bind fun x5 =>
  (g_dv v3 (5 : Int32)).bind fun x6 =>
  (oo_partOfTen_33 μ v1 x5 x6)
  else
  (oo_partOfTen_33 μ v1 v2 v3))
def oo_partOfTen (μ : g_St) (v0 : Int32) (v1 : Int32) : Option Int32 :=
  (g_rm v0 (2 : Int32)).bind fun x1 =>
  (if x1 = 0 then
  (g_dv v0 (2 : Int32)).bind fun x2 =>
  (g_dv (10 : Int32) (2 : Int32)).bind fun x3 =>
  (oo_partOfTen_19 μ v1 x2 x3)
  else
  (oo_partOfTen_19 μ v1 v0 (10 : Int32)))
def oo_lie_41 (F : Nat) (v1 : Int32) (v2 : Int32) (v3 : Int32) (v4 : Int32) (v5 : Int32) (v6 : Int32) (s0 : Int32) (μ : g_St) : Option ((Int32 ⊕ Nat) × g_St) :=
  (if s0 = 0 then
  (some (.inr 68, μ))
  else
  (oo_isHeldBy μ v1 v2 v3).bind fun x1 =>
  (if x1 = 0 then
  (some (.inr 68, μ))
  else
  (oo_isLawfulNow F v1 v2 v3 μ).bind fun q2 =>
  (if q2.1 = 0 then
  (g_rd q2.2 62 40 v3).bind fun x3 =>
  (g_ql q2.2 0).bind fun b4 =>
  (ow_held F 61 q2.2 v2 x3).bind fun x5 =>
  (ol_worthOf b4 q2.2 v2 x3 x5).bind fun x6 =>
  (g_ql q2.2 0).bind fun b7 =>
  (ow_held F 61 q2.2 v1 x3).bind fun x8 =>
  (ol_worthOf b7 q2.2 v1 x3 (x8 - (1 : Int32))).bind fun x9 =>
  (if v6 = (2 : Int32) then
  (oo_leastFine q2.2 (((10 : Int32) - v4) * (x6 - x9)) v4).bind fun x10 =>
  (some (.inl x10, q2.2))
  else
  (oo_partOfTen q2.2 ((((10 : Int32) - v4) * (x6 - x9)) - (v4 * v5)) v6).bind fun x11 =>
  (some (.inl x11, q2.2)))
  else
  (some (.inr 68, q2.2)))))
def oo_lie_40 (F : Nat) (v1 : Int32) (v2 : Int32) (v3 : Int32) (v4 : Int32) (v5 : Int32) (v6 : Int32) (μ : g_St) : Option ((Int32 ⊕ Nat) × g_St) :=
  (oo_lie_41 F v1 v2 v3 v4 v5 v6 (0 : Int32) μ)
def oo_lie (F : Nat) (v1 : Int32) (v2 : Int32) (v3 : Int32) (v4 : Int32) (v5 : Int32) (v6 : Int32) (μ : g_St) : Option ((Int32 ⊕ Nat) × g_St) :=
  (if 0 ≤ v4 then
  (if v4 ≤ (10 : Int32) then
  (if 0 ≤ v5 then
  (if v5 ≤ (9999 : Int32) then
  (if 0 ≤ v6 then
  (if v6 ≤ (2 : Int32) then
  (oo_lie_41 F v1 v2 v3 v4 v5 v6 (1 : Int32) μ)
  else
  (oo_lie_40 F v1 v2 v3 v4 v5 v6 μ))
  else
  (oo_lie_40 F v1 v2 v3 v4 v5 v6 μ))
  else
  (oo_lie_40 F v1 v2 v3 v4 v5 v6 μ))
  else
  (oo_lie_40 F v1 v2 v3 v4 v5 v6 μ))
  else
  (oo_lie_40 F v1 v2 v3 v4 v5 v6 μ))
  else
  (oo_lie_40 F v1 v2 v3 v4 v5 v6 μ))
def oo_findWares_109 (F : Nat) (K_2 : Int32 → g_St → Option g_St) (K_15 : Int32 → g_St → Option g_St) (v1 : Int32) (v2 : Int32) (v3 : Int32) (μ : g_St) : Option g_St :=
  (g_wr μ 100 64 ((v1 * (8 : Int32)) + v2) v3).bind fun μ10 =>
  (K_15 (v2 + 1) μ10)
def oo_findWares_31_b (F : Nat) (v1 : Int32) (v2 : Int32) (K_2 : Int32 → g_St → Option g_St) (K_15 : Int32 → g_St → Option g_St) (K_31 : Int32 → Int32 → g_St → Option g_St) (v3 : Int32) (v4 : Int32) (μ : g_St) : Option g_St :=
  (g_ql μ 0).bind fun b3 =>
  (if v4 < (μ.1 b3 1) then
  (if v1 = v2 then
  (oo_findWares_109 F K_2 K_15 v1 v2 v3 μ)
  else
  (oo_fillFacts v1 v2 v4 (0 : Int32) (μ.1 61 1) μ).bind fun μ4 =>
  (g_ql μ4 0).bind fun b5 =>
  (g_rd μ4 (b5 + 13) 8 v1).bind fun x6 =>
  (if ((x6 >>> (v4 &&& 31)) &&& (1 : Int32)) = (1 : Int32) then
  (g_qr μ4 2).bind fun b7 =>
  (ou_allows F b7 μ4).bind fun q8 =>
  (if q8.1 = 0 then
  (K_31 v3 (v4 + 1) q8.2)
  else
  (some (v3 ||| ((1 : Int32) <<< (v4 &&& 31)))).bind fun x9 =>
  (K_31 x9 (v4 + 1) q8.2))
  else
  (K_31 v3 (v4 + 1) μ4)))
  else
  (oo_findWares_109 F K_2 K_15 v1 v2 v3 μ))
def oo_findWares_31 (F : Nat) (v1 : Int32) (v2 : Int32) (K_2 : Int32 → g_St → Option g_St) (K_15 : Int32 → g_St → Option g_St) : Nat → Int32 → Int32 → g_St → Option g_St
  | 0, _, _, _ => none
  | f + 1, v3, v4, μ => oo_findWares_31_b F v1 v2 K_2 K_15 (oo_findWares_31 F v1 v2 K_2 K_15 f) v3 v4 μ
def oo_findWares_15_b (F : Nat) (v1 : Int32) (K_2 : Int32 → g_St → Option g_St) (K_15 : Int32 → g_St → Option g_St) (v2 : Int32) (μ : g_St) : Option g_St :=
  (g_ql μ 0).bind fun b2 =>
  (if v2 < (μ.1 b2 2) then
  (oo_findWares_31 F v1 v2 K_2 K_15 F (0 : Int32) (0 : Int32) μ)
  else
  (K_2 (v1 + 1) μ))
def oo_findWares_15 (F : Nat) (v1 : Int32) (K_2 : Int32 → g_St → Option g_St) : Nat → Int32 → g_St → Option g_St
  | 0, _, _ => none
  | f + 1, v2, μ => oo_findWares_15_b F v1 K_2 (oo_findWares_15 F v1 K_2 f) v2 μ
def oo_findWares_2_b (F : Nat) (K_2 : Int32 → g_St → Option g_St) (v1 : Int32) (μ : g_St) : Option g_St :=
  (g_ql μ 0).bind fun b1 =>
  (if v1 < (μ.1 b1 2) then
  (oo_findWares_15 F v1 K_2 F (0 : Int32) μ)
  else
  (some μ))
def oo_findWares_2 (F : Nat) : Nat → Int32 → g_St → Option g_St
  | 0, _, _ => none
  | f + 1, v1, μ => oo_findWares_2_b F (oo_findWares_2 F f) v1 μ
def oo_findWares (F : Nat) (μ : g_St) : Option g_St :=
  (oo_findWares_2 F F (0 : Int32) μ)
def oo_nthBit_4_b (F : Nat) (μ : g_St) (v1 : Int32) (K_4 : Int32 → Int32 → Option Int32) (v2 : Int32) (v3 : Int32) : Option Int32 :=
  (if v3 < v1 then
  (K_4 (v2 &&& (v2 - (1 : Int32))) (v3 + 1))
  else
  (jj_numberOfTrailingZeros μ v2).bind fun x1 =>
  (some x1))
def oo_nthBit_4 (F : Nat) (μ : g_St) (v1 : Int32) : Nat → Int32 → Int32 → Option Int32
  | 0, _, _ => none
  | f + 1, v2, v3 => oo_nthBit_4_b F μ v1 (oo_nthBit_4 F μ v1 f) v2 v3 
def oo_nthBit (F : Nat) (μ : g_St) (v0 : Int32) (v1 : Int32) : Option Int32 :=
  (oo_nthBit_4 F μ v1 F v0 (0 : Int32))
def oo_drawWeek_97_b (F : Nat) (v3 : Int64) (v5 : Int32) (v7 : Int32) (K_12 : Int64 → Int32 → g_St → Option (Int64 × g_St)) (K_97 : Int32 → g_St → Option (Int64 × g_St)) (v8 : Int32) (μ : g_St) : Option (Int64 × g_St) :=
  (g_ql μ 0).bind fun b13 =>
  (if v8 < (μ.1 b13 2) then
  (g_rd μ 100 64 ((v5 * (8 : Int32)) + v8)).bind fun x14 =>
  (og_allow 81 v5 v8 (x14 &&& ((1 : Int32) <<< (v7 &&& 31))) μ).bind fun μ15 =>
  (K_97 (v8 + 1) μ15)
  else
  (K_12 v3 (v5 + 1) μ))
def oo_drawWeek_97 (F : Nat) (v3 : Int64) (v5 : Int32) (v7 : Int32) (K_12 : Int64 → Int32 → g_St → Option (Int64 × g_St)) : Nat → Int32 → g_St → Option (Int64 × g_St)
  | 0, _, _ => none
  | f + 1, v8, μ => oo_drawWeek_97_b F v3 v5 v7 K_12 (oo_drawWeek_97 F v3 v5 v7 K_12 f) v8 μ
def oo_drawWeek_12_b (F : Nat) (K_12 : Int64 → Int32 → g_St → Option (Int64 × g_St)) (v3 : Int64) (v5 : Int32) (μ : g_St) : Option (Int64 × g_St) :=
  (g_ql μ 0).bind fun b2 =>
  (if v5 < (μ.1 b2 2) then
  (g_ql μ 0).bind fun b3 =>
  (g_rd μ (b3 + 13) 8 v5).bind fun x4 =>
  (jj_bitCount μ x4).bind fun x5 =>
  (if 0 < x5 then
  (g_rmL ((v3 * (1103515245 : Int64)) + (12345 : Int64)) (2147483648 : Int64)).bind fun x6 =>
  (g_ql μ 0).bind fun b7 =>
  (g_rd μ (b7 + 13) 8 v5).bind fun x8 =>
  (g_dvL x6 (65536 : Int64)).bind fun x9 =>
  (g_rmL x9 (x5.toInt64)).bind fun x10 =>
  (oo_nthBit F μ x8 (x10.toInt32)).bind fun x11 =>
  (og_hold 81 v5 x11 μ).bind fun μ12 =>
  (oo_drawWeek_97 F x6 v5 x11 K_12 F (0 : Int32) μ12)
  else
  (K_12 v3 (v5 + 1) μ))
  else
  (g_ql μ 0).bind fun b16 =>
  (oo_everybody μ).bind fun x17 =>
  (og_find F 81 b16 x17 μ).bind fun μ18 =>
  (some (v3, μ18)))
def oo_drawWeek_12 (F : Nat) : Nat → Int64 → Int32 → g_St → Option (Int64 × g_St)
  | 0, _, _, _ => none
  | f + 1, v3, v5, μ => oo_drawWeek_12_b F (oo_drawWeek_12 F f) v3 v5 μ
def oo_drawWeek (F : Nat) (v1 : Int64) (μ : g_St) : Option (Int64 × g_St) :=
  (og_clear F 81 μ).bind fun μ1 =>
  (oo_drawWeek_12 F F v1 (0 : Int32) μ1)
def oo_years_50_b (F : Nat) (v2 : Int32) (v3 : Int32) (K_50 : Int32 → Int32 → Int64 → Int32 → g_St → Option (Int32 × g_St)) (v4 : Int32) (v5 : Int32) (v6 : Int64) (v8 : Int32) (μ : g_St) : Option (Int32 × g_St) :=
  (if v8 < v2 then
  (oo_drawWeek F v6 μ).bind fun q2 =>
  (oo_everybody q2.2).bind fun x3 =>
  (g_rd q2.2 88 256 x3).bind fun x4 =>
  (if x4 = 0 then
  (K_50 (v4 + x4) (v5 + (1 : Int32)) q2.1 (v8 + 1) q2.2)
  else
  (K_50 (v4 + x4) (v5 + (0 : Int32)) q2.1 (v8 + 1) q2.2))
  else
  (if v3 = 0 then
  (some (v4, μ))
  else
  (some (v5, μ))))
def oo_years_50 (F : Nat) (v2 : Int32) (v3 : Int32) : Nat → Int32 → Int32 → Int64 → Int32 → g_St → Option (Int32 × g_St)
  | 0, _, _, _, _, _ => none
  | f + 1, v4, v5, v6, v8, μ => oo_years_50_b F v2 v3 (oo_years_50 F v2 v3 f) v4 v5 v6 v8 μ
def oo_years (F : Nat) (v1 : Int32) (v2 : Int32) (v3 : Int32) (μ : g_St) : Option (Int32 × g_St) :=
  (if 0 ≤ v1 then
  (if v1 ≤ (9999 : Int32) then
  (if (1 : Int32) ≤ v2 then
  (if v2 ≤ (52 : Int32) then
  (if 0 ≤ v3 then
  (if (1 : Int32) < v3 then
  (some ((-1 : Int32), μ))
  else
  (oo_findWares F μ).bind fun μ1 =>
  (oo_years_50 F v2 v3 F (0 : Int32) (0 : Int32) (v1.toInt64) (0 : Int32) μ1))
  else
  (some ((-1 : Int32), μ)))
  else
  (some ((-1 : Int32), μ)))
  else
  (some ((-1 : Int32), μ)))
  else
  (some ((-1 : Int32), μ)))
  else
  (some ((-1 : Int32), μ)))
def oo_visited_6_b (F : Nat) (K_6 : Int32 → Int32 → Int32 → g_St → Option (Int32 × g_St)) (v1 : Int32) (v2 : Int32) (v3 : Int32) (μ : g_St) : Option (Int32 × g_St) :=
  (g_ql μ 0).bind fun b1 =>
  (if v3 < (μ.1 b1 2) then
  (oo_anywhere F μ).bind fun μ2 =>
  (og_pairsOf F 71 μ2 v3).bind fun x3 =>
  (if v1 = (-1 : Int32) then
  (K_6 v3 x3 (v3 + 1) μ2)
  else
  (if v2 < x3 then
  (K_6 v3 x3 (v3 + 1) μ2)
  else
  (K_6 v1 v2 (v3 + 1) μ2)))
  else
  (some (v1, μ)))
def oo_visited_6 (F : Nat) : Nat → Int32 → Int32 → Int32 → g_St → Option (Int32 × g_St)
  | 0, _, _, _, _ => none
  | f + 1, v1, v2, v3, μ => oo_visited_6_b F (oo_visited_6 F f) v1 v2 v3 μ
def oo_visited (F : Nat) (μ : g_St) : Option (Int32 × g_St) :=
  (oo_visited_6 F F (-1 : Int32) (0 : Int32) (0 : Int32) μ)
def oo_mark_26 (v1 : Int32) (v2 : Int32) (μ : g_St) : Option (Int32 × g_St) :=
  (if v2 = 0 then
  (g_rr (fun j => 101 + 8 * j) 4 v1).bind fun r5 =>
  (ow_copy r5 61 μ).bind fun μ7 =>
  (some (g_sI μ7 0 7 ((μ7.1 0 7) ||| ((1 : Int32) <<< (v1 &&& 31))))).bind fun μ8 =>
  (some ((1 : Int32), μ8))
  else
  (g_rr (fun j => 101 + 8 * j) 4 v1).bind fun r1 =>
  (ow_copy 61 r1 μ).bind fun μ3 =>
  (some (g_sI μ3 0 14 (0 : Int32))).bind fun μ4 =>
  (some ((1 : Int32), μ4)))
def oo_mark (v1 : Int32) (v2 : Int32) (μ : g_St) : Option (Int32 × g_St) :=
  (if 0 ≤ v1 then
  (if v1 < (4 : Int32) then
  (if v2 = 0 then
  (oo_mark_26 v1 v2 μ)
  else
  (if (((μ.1 0 7) >>> (v1 &&& 31)) &&& (1 : Int32)) = 0 then
  (some ((0 : Int32), μ))
  else
  (oo_mark_26 v1 v2 μ)))
  else
  (some ((0 : Int32), μ)))
  else
  (some ((0 : Int32), μ)))
def oo_happyOfAll_4_b (F : Nat) (μ : g_St) (K_4 : Int32 → Int32 → Option Int32) (v1 : Int32) (v2 : Int32) : Option Int32 :=
  (g_ql μ 0).bind fun b1 =>
  (if v2 < (μ.1 b1 2) then
  (oo_happyOf F μ v2).bind fun x2 =>
  (K_4 (v1 + x2) (v2 + 1))
  else
  (some v1))
def oo_happyOfAll_4 (F : Nat) (μ : g_St) : Nat → Int32 → Int32 → Option Int32
  | 0, _, _ => none
  | f + 1, v1, v2 => oo_happyOfAll_4_b F μ (oo_happyOfAll_4 F μ f) v1 v2 
def oo_happyOfAll (F : Nat) (μ : g_St) : Option Int32 :=
  (oo_happyOfAll_4 F μ F (0 : Int32) (0 : Int32))
def oo_count (F : Nat) (μ : g_St) (v1 : Int32) : Option Int32 :=
  (if v1 = (0 : Int32) then
  (g_ql μ 0).bind fun b1 =>
  (some (μ.1 b1 0))
  else
  (if v1 = (1 : Int32) then
  (g_ql μ 0).bind fun b3 =>
  (some (μ.1 b3 1))
  else
  (if v1 = (2 : Int32) then
  (g_ql μ 0).bind fun b5 =>
  (some (μ.1 b5 2))
  else
  (if v1 = (3 : Int32) then
  (some (μ.1 61 0))
  else
  (if v1 = (4 : Int32) then
  (ow_heldAtAll F 61 μ).bind fun x8 =>
  (some x8)
  else
  (if v1 = (5 : Int32) then
  (g_qr μ 2).bind fun b10 =>
  (some (μ.1 b10 3))
  else
  (if v1 = (6 : Int32) then
  (some (μ.1 1 2))
  else
  (if v1 = (7 : Int32) then
  (oo_happyOfAll F μ).bind fun x13 =>
  (some x13)
  else
  (some (-1 : Int32))))))))))
def mm_thrown (μ : g_St) : Option Int32 :=
  (some (μ.1 0 0))
def mm_within (μ : g_St) (v0 : Int32) (v1 : Int32) (v2 : Int32) : Option Int32 :=
  (if v1 ≤ v0 then
  (if v0 ≤ v2 then
  (some (1 : Int32))
  else
  (some (0 : Int32)))
  else
  (some (0 : Int32)))
def mm_bits_4_b (F : Nat) (μ : g_St) (v0 : Int32) (K_4 : Int32 → Int32 → Option Int32) (v1 : Int32) (v2 : Int32) : Option Int32 :=
  (if v2 < (8 : Int32) then
  (some (v1 + ((v0 >>> (v2 &&& 31)) &&& (1 : Int32)))).bind fun x1 =>
  (K_4 x1 (v2 + 1))
  else
  (some v1))
def mm_bits_4 (F : Nat) (μ : g_St) (v0 : Int32) : Nat → Int32 → Int32 → Option Int32
  | 0, _, _ => none
  | f + 1, v1, v2 => mm_bits_4_b F μ v0 (mm_bits_4 F μ v0 f) v1 v2 
def mm_bits (F : Nat) (μ : g_St) (v0 : Int32) : Option Int32 :=
  (mm_bits_4 F μ v0 F (0 : Int32) (0 : Int32))
def mm_feed_93 (F : Nat) (K_8 : Int32 → g_St → Option (Int32 × g_St)) (v1 : Int64) (v3 : Int64) (v5 : Int64) (v7 : Int32) (v10 : Int32) (μ : g_St) : Option (Int32 × g_St) :=
  (g_wr μ 1 1000 (μ.1 0 1) v10).bind fun μ3 =>
  (some (g_sI μ3 0 1 ((μ3.1 0 1) + (1 : Int32)))).bind fun μ4 =>
  (K_8 (v7 + 1) μ4)
def mm_feed_39 (F : Nat) (K_8 : Int32 → g_St → Option (Int32 × g_St)) (v1 : Int64) (v3 : Int64) (v5 : Int64) (v7 : Int32) (s0 : Int64) (μ : g_St) : Option (Int32 × g_St) :=
  (some ((((s0.toUInt64 >>> (((56 : Int32) - ((8 : Int32) * (v7 &&& (7 : Int32)))).toInt64.toUInt64 &&& Int64.toUInt64 63)).toInt64) &&& (255 : Int64)).toInt32)).bind fun x2 =>
  (if (μ.1 0 1) < (1000 : Int32) then
  (if x2 = (10 : Int32) then
  (mm_feed_93 F K_8 v1 v3 v5 v7 x2 μ)
  else
  (if (32 : Int32) ≤ x2 then
  (if x2 ≤ (126 : Int32) then
  (mm_feed_93 F K_8 v1 v3 v5 v7 x2 μ)
  else
  (K_8 (v7 + 1) μ))
  else
  (K_8 (v7 + 1) μ)))
  else
  (K_8 (v7 + 1) μ))
def mm_feed_8_b (F : Nat) (v1 : Int64) (v3 : Int64) (v5 : Int64) (K_8 : Int32 → g_St → Option (Int32 × g_St)) (v7 : Int32) (μ : g_St) : Option (Int32 × g_St) :=
  (if v7 < (24 : Int32) then
  (if v7 < (8 : Int32) then
  (mm_feed_39 F K_8 v1 v3 v5 v7 v1 μ)
  else
  (if v7 < (16 : Int32) then
  (mm_feed_39 F K_8 v1 v3 v5 v7 v3 μ)
  else
  (mm_feed_39 F K_8 v1 v3 v5 v7 v5 μ)))
  else
  (some ((μ.1 0 1), μ)))
def mm_feed_8 (F : Nat) (v1 : Int64) (v3 : Int64) (v5 : Int64) : Nat → Int32 → g_St → Option (Int32 × g_St)
  | 0, _, _ => none
  | f + 1, v7, μ => mm_feed_8_b F v1 v3 v5 (mm_feed_8 F v1 v3 v5 f) v7 μ
def mm_feed (F : Nat) (v1 : Int64) (v3 : Int64) (v5 : Int64) (μ : g_St) : Option (Int32 × g_St) :=
  (some (g_sI μ 0 0 (0 : Int32))).bind fun μ1 =>
  (mm_feed_8 F v1 v3 v5 F (0 : Int32) μ1)
def mm_signAt (μ : g_St) (v1 : Int32) : Option Int32 :=
  (if v1 < (μ.1 0 3) then
  (g_rd μ 1 1000 v1).bind fun x1 =>
  (some x1)
  else
  (some (0 : Int32)))
def mm_nextToken_188 (F : Nat) (μ : g_St) : Option g_St :=
  (if (8 : Int32) < ((μ.1 0 4) - (μ.1 0 5)) then
  (some (g_sI μ 0 6 (4 : Int32))).bind fun μ15 =>
  (some μ15)
  else
  (some (g_sI μ 0 6 (1 : Int32))).bind fun μ16 =>
  (some μ16))
def mm_nextToken_109_b (F : Nat) (K_109 : g_St → Option g_St) (μ : g_St) : Option g_St :=
  (mm_signAt μ (μ.1 0 4)).bind fun x9 =>
  (if (97 : Int32) ≤ x9 then
  (mm_signAt μ (μ.1 0 4)).bind fun x10 =>
  (if x10 ≤ (122 : Int32) then
  (if ((μ.1 0 4) - (μ.1 0 5)) < (8 : Int32) then
  (mm_signAt μ (μ.1 0 4)).bind fun x11 =>
  (some (g_sL μ 0 7 ((((μ.2.1 0 7) * (27 : Int64)) + (x11.toInt64)) - (96 : Int64)))).bind fun μ12 =>
  (some (g_sI μ12 0 4 ((μ12.1 0 4) + (1 : Int32)))).bind fun μ13 =>
  (K_109 μ13)
  else
  (some (g_sI μ 0 4 ((μ.1 0 4) + (1 : Int32)))).bind fun μ14 =>
  (K_109 μ14))
  else
  (mm_nextToken_188 F μ))
  else
  (mm_nextToken_188 F μ))
def mm_nextToken_109 (F : Nat) : Nat → g_St → Option g_St
  | 0, _ => none
  | f + 1, μ => mm_nextToken_109_b F (mm_nextToken_109 F f) μ
def mm_nextToken_299 (F : Nat) (μ : g_St) : Option g_St :=
  (if (4 : Int32) < ((μ.1 0 4) - (μ.1 0 5)) then
  (some (g_sI μ 0 6 (4 : Int32))).bind fun μ23 =>
  (some μ23)
  else
  (some (g_sI μ 0 6 (2 : Int32))).bind fun μ24 =>
  (some μ24))
def mm_nextToken_224_b (F : Nat) (K_224 : g_St → Option g_St) (μ : g_St) : Option g_St :=
  (mm_signAt μ (μ.1 0 4)).bind fun x17 =>
  (if (48 : Int32) ≤ x17 then
  (mm_signAt μ (μ.1 0 4)).bind fun x18 =>
  (if x18 ≤ (57 : Int32) then
  (if ((μ.1 0 4) - (μ.1 0 5)) < (4 : Int32) then
  (mm_signAt μ (μ.1 0 4)).bind fun x19 =>
  (some (g_sI μ 0 8 ((((μ.1 0 8) * (10 : Int32)) + x19) - (48 : Int32)))).bind fun μ20 =>
  (some (g_sI μ20 0 4 ((μ20.1 0 4) + (1 : Int32)))).bind fun μ21 =>
  (K_224 μ21)
  else
  (some (g_sI μ 0 4 ((μ.1 0 4) + (1 : Int32)))).bind fun μ22 =>
  (K_224 μ22))
  else
  (mm_nextToken_299 F μ))
  else
  (mm_nextToken_299 F μ))
def mm_nextToken_224 (F : Nat) : Nat → g_St → Option g_St
  | 0, _ => none
  | f + 1, μ => mm_nextToken_224_b F (mm_nextToken_224 F f) μ
def mm_nextToken_345 (F : Nat) (v1 : Int32) (μ : g_St) : Option g_St :=
  (if v1 = (45 : Int32) then
  (some (g_sI μ 0 6 (3 : Int32))).bind fun μ29 =>
  (some μ29)
  else
  (if (59 : Int32) ≤ v1 then
  (if v1 ≤ (61 : Int32) then
  (some (g_sI μ 0 6 (3 : Int32))).bind fun μ26 =>
  (some μ26)
  else
  (some (g_sI μ 0 6 (4 : Int32))).bind fun μ27 =>
  (some μ27))
  else
  (some (g_sI μ 0 6 (4 : Int32))).bind fun μ28 =>
  (some μ28)))
def mm_nextToken_322 (F : Nat) (v1 : Int32) (μ : g_St) : Option g_St :=
  (some (g_sI μ 0 4 ((μ.1 0 4) + (1 : Int32)))).bind fun μ25 =>
  (if (40 : Int32) ≤ v1 then
  (if (43 : Int32) < v1 then
  (mm_nextToken_345 F v1 μ25)
  else
  (some (g_sI μ25 0 6 (3 : Int32))).bind fun μ30 =>
  (some μ30))
  else
  (mm_nextToken_345 F v1 μ25))
def mm_nextToken_212 (F : Nat) (v1 : Int32) (μ : g_St) : Option g_St :=
  (if (48 : Int32) ≤ v1 then
  (if v1 ≤ (57 : Int32) then
  (mm_nextToken_224 F F μ)
  else
  (mm_nextToken_322 F v1 μ))
  else
  (mm_nextToken_322 F v1 μ))
def mm_nextToken_52 (F : Nat) (μ : g_St) : Option g_St :=
  (some (g_sI μ 0 5 (μ.1 0 4))).bind fun μ4 =>
  (some (g_sL μ4 0 7 (0 : Int64))).bind fun μ5 =>
  (some (g_sI μ5 0 8 (0 : Int32))).bind fun μ6 =>
  (if (μ6.1 0 4) = (μ6.1 0 3) then
  (some (g_sI μ6 0 6 (0 : Int32))).bind fun μ7 =>
  (some μ7)
  else
  (g_rd μ6 1 1000 (μ6.1 0 4)).bind fun x8 =>
  (if (97 : Int32) ≤ x8 then
  (if x8 ≤ (122 : Int32) then
  (mm_nextToken_109 F F μ6)
  else
  (mm_nextToken_212 F x8 μ6))
  else
  (mm_nextToken_212 F x8 μ6)))
def mm_nextToken_0_b (F : Nat) (K_0 : g_St → Option g_St) (μ : g_St) : Option g_St :=
  (if (μ.1 0 4) < (μ.1 0 3) then
  (g_rd μ 1 1000 (μ.1 0 4)).bind fun x1 =>
  (if x1 = (32 : Int32) then
  (some (g_sI μ 0 4 ((μ.1 0 4) + (1 : Int32)))).bind fun μ31 =>
  (K_0 μ31)
  else
  (g_rd μ 1 1000 (μ.1 0 4)).bind fun x2 =>
  (if x2 = (10 : Int32) then
  (some (g_sI μ 0 4 ((μ.1 0 4) + (1 : Int32)))).bind fun μ3 =>
  (K_0 μ3)
  else
  (mm_nextToken_52 F μ)))
  else
  (mm_nextToken_52 F μ))
def mm_nextToken_0 (F : Nat) : Nat → g_St → Option g_St
  | 0, _ => none
  | f + 1, μ => mm_nextToken_0_b F (mm_nextToken_0 F f) μ
def mm_nextToken (F : Nat) (μ : g_St) : Option g_St :=
  (mm_nextToken_0 F F μ)
def mm_isWord (μ : g_St) (v1 : Int64) : Option Int32 :=
  (if (μ.1 0 6) = (1 : Int32) then
  (if (lg_cmp (μ.2.1 0 7) v1) = 0 then
  (some (1 : Int32))
  else
  (some (0 : Int32)))
  else
  (some (0 : Int32)))
def mm_isSign (μ : g_St) (v1 : Int32) : Option Int32 :=
  (if (μ.1 0 6) = (3 : Int32) then
  (g_rd μ 1 1000 (μ.1 0 5)).bind fun x1 =>
  (if x1 = v1 then
  (some (1 : Int32))
  else
  (some (0 : Int32)))
  else
  (some (0 : Int32)))
def mm_fails (v1 : Int32) (μ : g_St) : Option (Int32 × g_St) :=
  (some (g_sI μ 0 9 (v1 + ((16 : Int32) * (μ.1 0 5))))).bind fun μ1 =>
  (some ((0 : Int32), μ1))
def mm_starts (F : Nat) (μ : g_St) : Option g_St :=
  (some (g_sI μ 0 3 (μ.1 0 1))).bind fun μ1 =>
  (some (g_sI μ1 0 1 (0 : Int32))).bind fun μ2 =>
  (some (g_sI μ2 0 4 (0 : Int32))).bind fun μ3 =>
  (mm_nextToken F μ3).bind fun μ4 =>
  (some μ4)
def mm_isKept (μ : g_St) : Option Int32 :=
  (if (μ.1 0 6) = (1 : Int32) then
  (if (lg_cmp (μ.2.1 0 7) (8740067 : Int64)) = 0 then
  (some (1 : Int32))
  else
  (if (lg_cmp (μ.2.1 0 7) (16819 : Int64)) = 0 then
  (some (1 : Int32))
  else
  (if (lg_cmp (μ.2.1 0 7) (149125 : Int64)) = 0 then
  (some (1 : Int32))
  else
  (if (lg_cmp (μ.2.1 0 7) (4562587 : Int64)) = 0 then
  (some (1 : Int32))
  else
  (if (lg_cmp (μ.2.1 0 7) (131638 : Int64)) = 0 then
  (some (1 : Int32))
  else
  (if (lg_cmp (μ.2.1 0 7) (232608281 : Int64)) = 0 then
  (some (1 : Int32))
  else
  (if (lg_cmp (μ.2.1 0 7) (47 : Int64)) = 0 then
  (some (1 : Int32))
  else
  (if (lg_cmp (μ.2.1 0 7) (6936589 : Int64)) = 0 then
  (some (1 : Int32))
  else
  (if (lg_cmp (μ.2.1 0 7) (12253591 : Int64)) = 0 then
  (some (1 : Int32))
  else
  (some (0 : Int32)))))))))))
  else
  (some (1 : Int32)))
def mm_placeOf_2_b (F : Nat) (μ : g_St) (K_2 : Int32 → Option Int32) (v1 : Int32) : Option Int32 :=
  (g_rd μ 2 2 (1 : Int32)).bind fun x1 =>
  (if v1 < x1 then
  (g_rl μ 5 10 ((5 : Int32) + v1)).bind fun x2 =>
  (if (lg_cmp x2 (μ.2.1 0 7)) = 0 then
  (some v1)
  else
  (K_2 (v1 + 1)))
  else
  (some (-1 : Int32)))
def mm_placeOf_2 (F : Nat) (μ : g_St) : Nat → Int32 → Option Int32
  | 0, _ => none
  | f + 1, v1 => mm_placeOf_2_b F μ (mm_placeOf_2 F μ f) v1 
def mm_placeOf (F : Nat) (μ : g_St) : Option Int32 :=
  (mm_placeOf_2 F μ F (0 : Int32))
def mm_goodOf_2_b (F : Nat) (μ : g_St) (K_2 : Int32 → Option Int32) (v1 : Int32) : Option Int32 :=
  (g_rd μ 3 2 (1 : Int32)).bind fun x1 =>
  (if v1 < x1 then
  (g_rl μ 6 12 ((6 : Int32) + v1)).bind fun x2 =>
  (if (lg_cmp x2 (μ.2.1 0 7)) = 0 then
  (some v1)
  else
  (K_2 (v1 + 1)))
  else
  (some (-1 : Int32)))
def mm_goodOf_2 (F : Nat) (μ : g_St) : Nat → Int32 → Option Int32
  | 0, _ => none
  | f + 1, v1 => mm_goodOf_2_b F μ (mm_goodOf_2 F μ f) v1 
def mm_goodOf (F : Nat) (μ : g_St) : Option Int32 :=
  (mm_goodOf_2 F μ F (0 : Int32))
def mm_isNew_2_b (F : Nat) (μ : g_St) (K_2 : Int32 → Option Int32) (v1 : Int32) : Option Int32 :=
  (g_rd μ 4 2 (1 : Int32)).bind fun x1 =>
  (if v1 < x1 then
  (g_rl μ 7 16 ((8 : Int32) + v1)).bind fun x2 =>
  (if (lg_cmp x2 (μ.2.1 0 7)) = 0 then
  (some (0 : Int32))
  else
  (K_2 (v1 + 1)))
  else
  (mm_placeOf F μ).bind fun x3 =>
  (if x3 < 0 then
  (mm_goodOf F μ).bind fun x4 =>
  (if x4 < 0 then
  (some (1 : Int32))
  else
  (some (0 : Int32)))
  else
  (some (0 : Int32))))
def mm_isNew_2 (F : Nat) (μ : g_St) : Nat → Int32 → Option Int32
  | 0, _ => none
  | f + 1, v1 => mm_isNew_2_b F μ (mm_isNew_2 F μ f) v1 
def mm_isNew (F : Nat) (μ : g_St) : Option Int32 :=
  (mm_isNew_2 F μ F (0 : Int32))
def mm_ends (F : Nat) (μ : g_St) : Option (Int32 × g_St) :=
  (mm_isSign μ (59 : Int32)).bind fun x1 =>
  (if x1 = 0 then
  (mm_fails (1 : Int32) μ).bind fun q2 =>
  (some ((q2.1 &&& 1), q2.2))
  else
  (mm_nextToken F μ).bind fun μ3 =>
  (some ((1 : Int32), μ3)))
def mm_needsNew (F : Nat) (μ : g_St) : Option (Int32 × g_St) :=
  (mm_isKept μ).bind fun x1 =>
  (if x1 = 0 then
  (mm_isNew F μ).bind fun x3 =>
  (if x3 = 0 then
  (mm_fails (3 : Int32) μ).bind fun q4 =>
  (if q4.1 = 0 then
  (some ((0 : Int32), q4.2))
  else
  (some ((1 : Int32), q4.2)))
  else
  (some ((1 : Int32), μ)))
  else
  (mm_fails (1 : Int32) μ).bind fun q2 =>
  (some ((q2.1 &&& 1), q2.2)))
def mm_needsPlace (F : Nat) (μ : g_St) : Option (Int32 × g_St) :=
  (mm_isKept μ).bind fun x1 =>
  (if x1 = 0 then
  (mm_placeOf F μ).bind fun x3 =>
  (if x3 < 0 then
  (mm_fails (2 : Int32) μ).bind fun q4 =>
  (if q4.1 = 0 then
  (some ((0 : Int32), q4.2))
  else
  (some ((1 : Int32), q4.2)))
  else
  (some ((1 : Int32), μ)))
  else
  (mm_fails (1 : Int32) μ).bind fun q2 =>
  (some ((q2.1 &&& 1), q2.2)))
def mm_needsGood (F : Nat) (μ : g_St) : Option (Int32 × g_St) :=
  (mm_isKept μ).bind fun x1 =>
  (if x1 = 0 then
  (mm_goodOf F μ).bind fun x3 =>
  (if x3 < 0 then
  (mm_fails (2 : Int32) μ).bind fun q4 =>
  (if q4.1 = 0 then
  (some ((0 : Int32), q4.2))
  else
  (some ((1 : Int32), q4.2)))
  else
  (some ((1 : Int32), μ)))
  else
  (mm_fails (1 : Int32) μ).bind fun q2 =>
  (some ((q2.1 &&& 1), q2.2)))
def mm_needsNumber (v1 : Int32) (v2 : Int32) (μ : g_St) : Option (Int32 × g_St) :=
  (if (μ.1 0 6) = (2 : Int32) then
  (mm_within μ (μ.1 0 8) v1 v2).bind fun x2 =>
  (if x2 = 0 then
  (mm_fails (4 : Int32) μ).bind fun q3 =>
  (if q3.1 = 0 then
  (some ((0 : Int32), q3.2))
  else
  (some ((1 : Int32), q3.2)))
  else
  (some ((1 : Int32), μ)))
  else
  (mm_fails (1 : Int32) μ).bind fun q1 =>
  (some ((q1.1 &&& 1), q1.2)))
def mm_needsWord (F : Nat) (v1 : Int64) (μ : g_St) : Option (Int32 × g_St) :=
  (mm_isWord μ v1).bind fun x1 =>
  (if x1 = 0 then
  (mm_fails (1 : Int32) μ).bind fun q2 =>
  (some ((q2.1 &&& 1), q2.2))
  else
  (mm_nextToken F μ).bind fun μ3 =>
  (some ((1 : Int32), μ3)))
def mm_readsPlace (F : Nat) (μ : g_St) : Option (Int32 × g_St) :=
  (g_rd μ 2 2 (1 : Int32)).bind fun x1 =>
  (if x1 = (5 : Int32) then
  (mm_fails (5 : Int32) μ).bind fun q2 =>
  (some ((q2.1 &&& 1), q2.2))
  else
  (mm_nextToken F μ).bind fun μ3 =>
  (mm_needsNew F μ3).bind fun q4 =>
  (if q4.1 = 0 then
  (some ((0 : Int32), q4.2))
  else
  (g_rd q4.2 2 2 (1 : Int32)).bind fun x5 =>
  (g_wl q4.2 5 10 ((5 : Int32) + x5) (q4.2.2.1 0 7)).bind fun μ6 =>
  (g_rd μ6 2 2 (1 : Int32)).bind fun x7 =>
  (g_wr μ6 2 2 (1 : Int32) (x7 + (1 : Int32))).bind fun μ8 =>
  (mm_nextToken F μ8).bind fun μ9 =>
  (mm_ends F μ9).bind fun q10 =>
  (some ((q10.1 &&& 1), q10.2))))
def mm_readsWay (F : Nat) (μ : g_St) : Option (Int32 × g_St) :=
  (mm_nextToken F μ).bind fun μ1 =>
  (mm_needsPlace F μ1).bind fun q2 =>
  (if q2.1 = 0 then
  (some ((0 : Int32), q2.2))
  else
  (mm_placeOf F q2.2).bind fun x3 =>
  (mm_nextToken F q2.2).bind fun μ4 =>
  (mm_needsPlace F μ4).bind fun q5 =>
  (if q5.1 = 0 then
  (some ((0 : Int32), q5.2))
  else
  (mm_placeOf F q5.2).bind fun x6 =>
  (if x3 = x6 then
  (mm_fails (3 : Int32) q5.2).bind fun q7 =>
  (some ((q7.1 &&& 1), q7.2))
  else
  (mm_nextToken F q5.2).bind fun μ8 =>
  (mm_needsNumber (1 : Int32) (24 : Int32) μ8).bind fun q9 =>
  (if q9.1 = 0 then
  (some ((0 : Int32), q9.2))
  else
  (g_wr q9.2 8 50 (((25 : Int32) + ((5 : Int32) * x3)) + x6) (q9.2.1 0 8)).bind fun μ10 =>
  (g_wr μ10 8 50 (((25 : Int32) + ((5 : Int32) * x6)) + x3) (μ10.1 0 8)).bind fun μ11 =>
  (mm_nextToken F μ11).bind fun μ12 =>
  (mm_ends F μ12).bind fun q13 =>
  (some ((q13.1 &&& 1), q13.2))))))
def mm_readsGoods_2_b (F : Nat) (K_2 : Int32 → g_St → Option (Int32 × g_St)) (v1 : Int32) (μ : g_St) : Option (Int32 × g_St) :=
  (if (μ.1 0 6) = (1 : Int32) then
  (mm_isKept μ).bind fun x1 =>
  (if x1 = 0 then
  (mm_needsGood F μ).bind fun q2 =>
  (if q2.1 = 0 then
  (some ((-1 : Int32), q2.2))
  else
  (mm_goodOf F q2.2).bind fun x3 =>
  (if 0 < (v1 &&& ((1 : Int32) <<< (x3 &&& 31))) then
  (mm_fails (3 : Int32) q2.2).bind fun q4 =>
  (if q4.1 = 0 then
  (some ((-1 : Int32), q4.2))
  else
  (some ((0 : Int32), q4.2)))
  else
  (some (v1 ||| ((1 : Int32) <<< (x3 &&& 31)))).bind fun x5 =>
  (mm_nextToken F q2.2).bind fun μ6 =>
  (K_2 x5 μ6)))
  else
  (some (v1, μ)))
  else
  (some (v1, μ)))
def mm_readsGoods_2 (F : Nat) : Nat → Int32 → g_St → Option (Int32 × g_St)
  | 0, _, _ => none
  | f + 1, v1, μ => mm_readsGoods_2_b F (mm_readsGoods_2 F f) v1 μ
def mm_readsGoods (F : Nat) (μ : g_St) : Option (Int32 × g_St) :=
  (mm_readsGoods_2 F F (0 : Int32) μ)
def mm_readsGood_138 (F : Nat) (v1 : Int32) (v2 : Int64) (μ : g_St) : Option (Int32 × g_St) :=
  (g_wl μ 6 12 v1 v2).bind fun μ17 =>
  (g_rd μ17 3 2 (1 : Int32)).bind fun x18 =>
  (g_wr μ17 3 2 (1 : Int32) (x18 + (1 : Int32))).bind fun μ19 =>
  (mm_ends F μ19).bind fun q20 =>
  (some ((q20.1 &&& 1), q20.2))
def mm_readsGood (F : Nat) (μ : g_St) : Option (Int32 × g_St) :=
  (g_rd μ 3 2 (1 : Int32)).bind fun x1 =>
  (if x1 = (6 : Int32) then
  (mm_fails (5 : Int32) μ).bind fun q2 =>
  (some ((q2.1 &&& 1), q2.2))
  else
  (mm_nextToken F μ).bind fun μ3 =>
  (mm_needsNew F μ3).bind fun q4 =>
  (if q4.1 = 0 then
  (some ((0 : Int32), q4.2))
  else
  (g_rd q4.2 3 2 (1 : Int32)).bind fun x5 =>
  (mm_nextToken F q4.2).bind fun μ6 =>
  (mm_needsWord F (4562587 : Int64) μ6).bind fun q7 =>
  (if q7.1 = 0 then
  (some ((0 : Int32), q7.2))
  else
  (mm_needsNumber (1 : Int32) (24 : Int32) q7.2).bind fun q8 =>
  (if q8.1 = 0 then
  (some ((0 : Int32), q8.2))
  else
  (g_wr q8.2 9 12 ((6 : Int32) + x5) (q8.2.1 0 8)).bind fun μ9 =>
  (g_wr μ9 10 12 ((6 : Int32) + x5) (0 : Int32)).bind fun μ10 =>
  (mm_nextToken F μ10).bind fun μ11 =>
  (mm_isWord μ11 (131638 : Int64)).bind fun x12 =>
  (if x12 = 0 then
  (mm_readsGood_138 F ((6 : Int32) + x5) (q4.2.2.1 0 7) μ11)
  else
  (mm_nextToken F μ11).bind fun μ13 =>
  (mm_readsGoods F μ13).bind fun q14 =>
  (if q14.1 < 0 then
  (some ((0 : Int32), q14.2))
  else
  (if q14.1 = 0 then
  (mm_fails (1 : Int32) q14.2).bind fun q15 =>
  (some ((q15.1 &&& 1), q15.2))
  else
  (g_wr q14.2 10 12 ((6 : Int32) + x5) q14.1).bind fun μ16 =>
  (mm_readsGood_138 F ((6 : Int32) + x5) (q4.2.2.1 0 7) μ16))))))))
def mm_readsWants_82 (F : Nat) (K_2 : Int32 → g_St → Option (Int32 × g_St)) (K_63 : Int32 → Int32 → g_St → Option (Int32 × g_St)) (v1 : Int32) (v2 : Int32) (v3 : Int32) (v4 : Int32) (v5 : Int32) (μ : g_St) : Option (Int32 × g_St) :=
  (mm_needsNumber (0 : Int32) v4 μ).bind fun q8 =>
  (if q8.1 = 0 then
  (some ((0 : Int32), q8.2))
  else
  (g_wr q8.2 13 288 ((((18 : Int32) * v1) + ((3 : Int32) * v3)) + v5) (q8.2.1 0 8)).bind fun μ9 =>
  (mm_nextToken F μ9).bind fun μ10 =>
  (K_63 (q8.2.1 0 8) (v5 + 1) μ10))
def mm_readsWants_63_b (F : Nat) (v1 : Int32) (v2 : Int32) (v3 : Int32) (K_2 : Int32 → g_St → Option (Int32 × g_St)) (K_63 : Int32 → Int32 → g_St → Option (Int32 × g_St)) (v4 : Int32) (v5 : Int32) (μ : g_St) : Option (Int32 × g_St) :=
  (if v5 < (3 : Int32) then
  (if v5 = 0 then
  (mm_readsWants_82 F K_2 K_63 v1 v2 v3 v4 v5 μ)
  else
  (if (μ.1 0 6) = (2 : Int32) then
  (mm_readsWants_82 F K_2 K_63 v1 v2 v3 v4 v5 μ)
  else
  (K_2 v2 μ)))
  else
  (K_2 v2 μ))
def mm_readsWants_63 (F : Nat) (v1 : Int32) (v2 : Int32) (v3 : Int32) (K_2 : Int32 → g_St → Option (Int32 × g_St)) : Nat → Int32 → Int32 → g_St → Option (Int32 × g_St)
  | 0, _, _, _ => none
  | f + 1, v4, v5, μ => mm_readsWants_63_b F v1 v2 v3 K_2 (mm_readsWants_63 F v1 v2 v3 K_2 f) v4 v5 μ
def mm_readsWants_2_b (F : Nat) (v1 : Int32) (K_2 : Int32 → g_St → Option (Int32 × g_St)) (v2 : Int32) (μ : g_St) : Option (Int32 × g_St) :=
  (mm_isWord μ (12253591 : Int64)).bind fun x1 =>
  (if x1 = 0 then
  (some ((1 : Int32), μ))
  else
  (mm_nextToken F μ).bind fun μ2 =>
  (mm_needsGood F μ2).bind fun q3 =>
  (if q3.1 = 0 then
  (some ((0 : Int32), q3.2))
  else
  (mm_goodOf F q3.2).bind fun x4 =>
  (if ((v2 >>> (x4 &&& 31)) &&& (1 : Int32)) = (1 : Int32) then
  (mm_fails (3 : Int32) q3.2).bind fun q5 =>
  (some ((q5.1 &&& 1), q5.2))
  else
  (some (v2 ||| ((1 : Int32) <<< (x4 &&& 31)))).bind fun x6 =>
  (mm_nextToken F q3.2).bind fun μ7 =>
  (mm_readsWants_63 F v1 x6 x4 K_2 F (999 : Int32) (0 : Int32) μ7))))
def mm_readsWants_2 (F : Nat) (v1 : Int32) : Nat → Int32 → g_St → Option (Int32 × g_St)
  | 0, _, _ => none
  | f + 1, v2, μ => mm_readsWants_2_b F v1 (mm_readsWants_2 F v1 f) v2 μ
def mm_readsWants (F : Nat) (v1 : Int32) (μ : g_St) : Option (Int32 × g_St) :=
  (mm_readsWants_2 F v1 F (0 : Int32) μ)
def mm_readsPerson_48_b (F : Nat) (v1 : Int32) (v2 : Int64) (K_48 : Int32 → g_St → Option (Int32 × g_St)) (v4 : Int32) (μ : g_St) : Option (Int32 × g_St) :=
  (if v4 < (18 : Int32) then
  (g_wr μ 13 288 (((18 : Int32) * v1) + v4) (0 : Int32)).bind fun μ6 =>
  (K_48 (v4 + 1) μ6)
  else
  (mm_nextToken F μ).bind fun μ7 =>
  (mm_needsWord F (47 : Int64) μ7).bind fun q8 =>
  (if q8.1 = 0 then
  (some ((0 : Int32), q8.2))
  else
  (mm_needsPlace F q8.2).bind fun q9 =>
  (if q9.1 = 0 then
  (some ((0 : Int32), q9.2))
  else
  (mm_placeOf F q9.2).bind fun x10 =>
  (g_wr q9.2 11 16 v1 x10).bind fun μ11 =>
  (mm_nextToken F μ11).bind fun μ12 =>
  (mm_needsWord F (6936589 : Int64) μ12).bind fun q13 =>
  (if q13.1 = 0 then
  (some ((0 : Int32), q13.2))
  else
  (mm_readsGoods F q13.2).bind fun q14 =>
  (g_wr q14.2 12 16 v1 q14.1).bind fun μ15 =>
  (g_rd μ15 12 16 v1).bind fun x16 =>
  (if 0 ≤ x16 then
  (mm_readsWants F v1 μ15).bind fun q17 =>
  (if q17.1 = 0 then
  (some ((0 : Int32), q17.2))
  else
  (g_wl q17.2 7 16 v1 v2).bind fun μ18 =>
  (g_rd μ18 4 2 (1 : Int32)).bind fun x19 =>
  (g_wr μ18 4 2 (1 : Int32) (x19 + (1 : Int32))).bind fun μ20 =>
  (mm_ends F μ20).bind fun q21 =>
  (some ((q21.1 &&& 1), q21.2)))
  else
  (some ((0 : Int32), μ15)))))))
def mm_readsPerson_48 (F : Nat) (v1 : Int32) (v2 : Int64) : Nat → Int32 → g_St → Option (Int32 × g_St)
  | 0, _, _ => none
  | f + 1, v4, μ => mm_readsPerson_48_b F v1 v2 (mm_readsPerson_48 F v1 v2 f) v4 μ
def mm_readsPerson (F : Nat) (μ : g_St) : Option (Int32 × g_St) :=
  (g_rd μ 4 2 (1 : Int32)).bind fun x1 =>
  (if x1 = (8 : Int32) then
  (mm_fails (5 : Int32) μ).bind fun q2 =>
  (some ((q2.1 &&& 1), q2.2))
  else
  (mm_nextToken F μ).bind fun μ3 =>
  (mm_needsNew F μ3).bind fun q4 =>
  (if q4.1 = 0 then
  (some ((0 : Int32), q4.2))
  else
  (g_rd q4.2 4 2 (1 : Int32)).bind fun x5 =>
  (mm_readsPerson_48 F ((8 : Int32) + x5) (q4.2.2.1 0 7) F (0 : Int32) q4.2)))
def mm_readsLand_144 (F : Nat) (K_64 : g_St → Option (Int32 × g_St)) (s0 : Int32) (μ : g_St) : Option (Int32 × g_St) :=
  (if s0 = 0 then
  (some ((0 : Int32), μ))
  else
  (K_64 μ))
def mm_readsLand_64_b (F : Nat) (K_64 : g_St → Option (Int32 × g_St)) (μ : g_St) : Option (Int32 × g_St) :=
  (if (μ.1 0 6) = 0 then
  (some ((1 : Int32), μ))
  else
  (mm_isWord μ (8740067 : Int64)).bind fun x8 =>
  (if x8 = 0 then
  (mm_isWord μ (16819 : Int64)).bind fun x10 =>
  (if x10 = 0 then
  (mm_isWord μ (149125 : Int64)).bind fun x12 =>
  (if x12 = 0 then
  (mm_isWord μ (232608281 : Int64)).bind fun x14 =>
  (if x14 = 0 then
  (mm_fails (1 : Int32) μ).bind fun q16 =>
  (mm_readsLand_144 F K_64 q16.1 q16.2)
  else
  (mm_readsPerson F μ).bind fun q15 =>
  (mm_readsLand_144 F K_64 q15.1 q15.2))
  else
  (mm_readsGood F μ).bind fun q13 =>
  (mm_readsLand_144 F K_64 q13.1 q13.2))
  else
  (mm_readsWay F μ).bind fun q11 =>
  (mm_readsLand_144 F K_64 q11.1 q11.2))
  else
  (mm_readsPlace F μ).bind fun q9 =>
  (mm_readsLand_144 F K_64 q9.1 q9.2)))
def mm_readsLand_64 (F : Nat) : Nat → g_St → Option (Int32 × g_St)
  | 0, _ => none
  | f + 1, μ => mm_readsLand_64_b F (mm_readsLand_64 F f) μ
def mm_readsLand_24_b (F : Nat) (K_24 : Int32 → g_St → Option (Int32 × g_St)) (v1 : Int32) (μ : g_St) : Option (Int32 × g_St) :=
  (if v1 < (50 : Int32) then
  (g_dv (v1 - (25 : Int32)) (5 : Int32)).bind fun x4 =>
  (g_rm (v1 - (25 : Int32)) (5 : Int32)).bind fun x5 =>
  (if x4 = x5 then
  (g_wr μ 8 50 v1 (0 : Int32)).bind fun μ6 =>
  (K_24 (v1 + 1) μ6)
  else
  (g_wr μ 8 50 v1 (999 : Int32)).bind fun μ7 =>
  (K_24 (v1 + 1) μ7))
  else
  (mm_readsLand_64 F F μ))
def mm_readsLand_24 (F : Nat) : Nat → Int32 → g_St → Option (Int32 × g_St)
  | 0, _, _ => none
  | f + 1, v1, μ => mm_readsLand_24_b F (mm_readsLand_24 F f) v1 μ
def mm_readsLand (F : Nat) (μ : g_St) : Option (Int32 × g_St) :=
  (g_wr μ 2 2 (1 : Int32) (0 : Int32)).bind fun μ1 =>
  (g_wr μ1 3 2 (1 : Int32) (0 : Int32)).bind fun μ2 =>
  (g_wr μ2 4 2 (1 : Int32) (0 : Int32)).bind fun μ3 =>
  (mm_readsLand_24 F F (25 : Int32) μ3)
def mm_land_102_b (F : Nat) (v1 : Int32) (v2 : Int32) (K_88 : Int32 → g_St → Option (Int32 × g_St)) (K_95 : Int32 → g_St → Option (Int32 × g_St)) (K_102 : Int32 → g_St → Option (Int32 × g_St)) (v3 : Int32) (μ : g_St) : Option (Int32 × g_St) :=
  (if v3 < (5 : Int32) then
  (g_rd μ 8 50 (((5 : Int32) * v2) + v3)).bind fun x12 =>
  (g_rd μ 8 50 (((5 : Int32) * v2) + v1)).bind fun x13 =>
  (g_rd μ 8 50 (((5 : Int32) * v1) + v3)).bind fun x14 =>
  (g_wr μ 8 50 (((5 : Int32) * v2) + v3) (g_min x12 (x13 + x14))).bind fun μ15 =>
  (K_102 (v3 + 1) μ15)
  else
  (K_95 (v2 + 1) μ))
def mm_land_102 (F : Nat) (v1 : Int32) (v2 : Int32) (K_88 : Int32 → g_St → Option (Int32 × g_St)) (K_95 : Int32 → g_St → Option (Int32 × g_St)) : Nat → Int32 → g_St → Option (Int32 × g_St)
  | 0, _, _ => none
  | f + 1, v3, μ => mm_land_102_b F v1 v2 K_88 K_95 (mm_land_102 F v1 v2 K_88 K_95 f) v3 μ
def mm_land_95_b (F : Nat) (v1 : Int32) (K_88 : Int32 → g_St → Option (Int32 × g_St)) (K_95 : Int32 → g_St → Option (Int32 × g_St)) (v2 : Int32) (μ : g_St) : Option (Int32 × g_St) :=
  (if v2 < (5 : Int32) then
  (mm_land_102 F v1 v2 K_88 K_95 F (0 : Int32) μ)
  else
  (K_88 (v1 + 1) μ))
def mm_land_95 (F : Nat) (v1 : Int32) (K_88 : Int32 → g_St → Option (Int32 × g_St)) : Nat → Int32 → g_St → Option (Int32 × g_St)
  | 0, _, _ => none
  | f + 1, v2, μ => mm_land_95_b F v1 K_88 (mm_land_95 F v1 K_88 f) v2 μ
def mm_land_321_b (F : Nat) (K_321 : Int32 → g_St → Option (Int32 × g_St)) (v1 : Int32) (μ : g_St) : Option (Int32 × g_St) :=
  (if v1 < (4 : Int32) then
  (g_wr μ 47 4 v1 (g_nz (0 : Int32))).bind fun μ31 =>
  (K_321 (v1 + 1) μ31)
  else
  (some ((0 : Int32), μ)))
def mm_land_321 (F : Nat) : Nat → Int32 → g_St → Option (Int32 × g_St)
  | 0, _, _ => none
  | f + 1, v1, μ => mm_land_321_b F (mm_land_321 F f) v1 μ
def mm_land_285_b (F : Nat) (K_285 : Int32 → g_St → Option (Int32 × g_St)) (v1 : Int32) (μ : g_St) : Option (Int32 × g_St) :=
  (if v1 < (144 : Int32) then
  (g_rd μ 13 288 ((144 : Int32) + v1)).bind fun x28 =>
  (g_wr μ 13 288 v1 x28).bind fun μ29 =>
  (K_285 (v1 + 1) μ29)
  else
  (some (g_sI μ 0 39 (0 : Int32))).bind fun μ30 =>
  (mm_land_321 F F (0 : Int32) μ30))
def mm_land_285 (F : Nat) : Nat → Int32 → g_St → Option (Int32 × g_St)
  | 0, _, _ => none
  | f + 1, v1, μ => mm_land_285_b F (mm_land_285 F f) v1 μ
def mm_land_222_b (F : Nat) (K_222 : Int32 → g_St → Option (Int32 × g_St)) (v1 : Int32) (μ : g_St) : Option (Int32 × g_St) :=
  (if v1 < (8 : Int32) then
  (g_rd μ 11 16 ((8 : Int32) + v1)).bind fun x21 =>
  (g_wr μ 11 16 v1 x21).bind fun μ22 =>
  (g_rd μ22 12 16 ((8 : Int32) + v1)).bind fun x23 =>
  (g_wr μ22 12 16 v1 x23).bind fun μ24 =>
  (g_rd μ24 11 16 v1).bind fun x25 =>
  (g_wr μ24 34 8 v1 x25).bind fun μ26 =>
  (g_wr μ26 35 8 v1 (0 : Int32)).bind fun μ27 =>
  (K_222 (v1 + 1) μ27)
  else
  (mm_land_285 F F (0 : Int32) μ))
def mm_land_222 (F : Nat) : Nat → Int32 → g_St → Option (Int32 × g_St)
  | 0, _, _ => none
  | f + 1, v1, μ => mm_land_222_b F (mm_land_222 F f) v1 μ
def mm_land_171_b (F : Nat) (K_171 : Int32 → g_St → Option (Int32 × g_St)) (v1 : Int32) (μ : g_St) : Option (Int32 × g_St) :=
  (if v1 < (6 : Int32) then
  (g_rd μ 9 12 ((6 : Int32) + v1)).bind fun x16 =>
  (g_wr μ 9 12 v1 x16).bind fun μ17 =>
  (g_rd μ17 10 12 ((6 : Int32) + v1)).bind fun x18 =>
  (g_wr μ17 10 12 v1 x18).bind fun μ19 =>
  (g_wr μ19 36 6 v1 (g_nz (0 : Int32))).bind fun μ20 =>
  (K_171 (v1 + 1) μ20)
  else
  (mm_land_222 F F (0 : Int32) μ))
def mm_land_171 (F : Nat) : Nat → Int32 → g_St → Option (Int32 × g_St)
  | 0, _, _ => none
  | f + 1, v1, μ => mm_land_171_b F (mm_land_171 F f) v1 μ
def mm_land_88_b (F : Nat) (K_88 : Int32 → g_St → Option (Int32 × g_St)) (v1 : Int32) (μ : g_St) : Option (Int32 × g_St) :=
  (if v1 < (5 : Int32) then
  (mm_land_95 F v1 K_88 F (0 : Int32) μ)
  else
  (mm_land_171 F F (0 : Int32) μ))
def mm_land_88 (F : Nat) : Nat → Int32 → g_St → Option (Int32 × g_St)
  | 0, _, _ => none
  | f + 1, v1, μ => mm_land_88_b F (mm_land_88 F f) v1 μ
def mm_land_59_b (F : Nat) (K_59 : Int32 → g_St → Option (Int32 × g_St)) (v1 : Int32) (μ : g_St) : Option (Int32 × g_St) :=
  (if v1 < (25 : Int32) then
  (g_rd μ 8 50 ((25 : Int32) + v1)).bind fun x10 =>
  (g_wr μ 8 50 v1 x10).bind fun μ11 =>
  (K_59 (v1 + 1) μ11)
  else
  (mm_land_88 F F (0 : Int32) μ))
def mm_land_59 (F : Nat) : Nat → Int32 → g_St → Option (Int32 × g_St)
  | 0, _, _ => none
  | f + 1, v1, μ => mm_land_59_b F (mm_land_59 F f) v1 μ
def mm_land (F : Nat) (μ : g_St) : Option (Int32 × g_St) :=
  (some (g_sI μ 0 0 (0 : Int32))).bind fun μ1 =>
  (mm_starts F μ1).bind fun μ2 =>
  (mm_readsLand F μ2).bind fun q3 =>
  (if q3.1 = 0 then
  (some ((q3.2.1 0 9), q3.2))
  else
  (g_rd q3.2 2 2 (1 : Int32)).bind fun x4 =>
  (g_wr q3.2 2 2 (0 : Int32) x4).bind fun μ5 =>
  (g_rd μ5 3 2 (1 : Int32)).bind fun x6 =>
  (g_wr μ5 3 2 (0 : Int32) x6).bind fun μ7 =>
  (g_rd μ7 4 2 (1 : Int32)).bind fun x8 =>
  (g_wr μ7 4 2 (0 : Int32) x8).bind fun μ9 =>
  (mm_land_59 F F (0 : Int32) μ9))
def mm_isPlace (μ : g_St) (v1 : Int32) : Option Int32 :=
  (if 0 ≤ v1 then
  (g_rd μ 2 2 (0 : Int32)).bind fun x1 =>
  (if v1 < x1 then
  (some (1 : Int32))
  else
  (some (0 : Int32)))
  else
  (some (0 : Int32)))
def mm_isGood (μ : g_St) (v1 : Int32) : Option Int32 :=
  (if 0 ≤ v1 then
  (g_rd μ 3 2 (0 : Int32)).bind fun x1 =>
  (if v1 < x1 then
  (some (1 : Int32))
  else
  (some (0 : Int32)))
  else
  (some (0 : Int32)))
def mm_isPerson (μ : g_St) (v1 : Int32) : Option Int32 :=
  (if 0 ≤ v1 then
  (g_rd μ 4 2 (0 : Int32)).bind fun x1 =>
  (if v1 < x1 then
  (some (1 : Int32))
  else
  (some (0 : Int32)))
  else
  (some (0 : Int32)))
def mm_areThem (μ : g_St) (v1 : Int32) : Option Int32 :=
  (if 0 ≤ v1 then
  (g_rd μ 4 2 (0 : Int32)).bind fun x1 =>
  (if v1 < ((1 : Int32) <<< (x1 &&& 31)) then
  (some (1 : Int32))
  else
  (some (0 : Int32)))
  else
  (some (0 : Int32)))
def mm_isWay (μ : g_St) (v1 : Int32) (v2 : Int32) : Option Int32 :=
  (g_rd μ 8 50 (((5 : Int32) * v1) + v2)).bind fun x1 =>
  (if x1 < (999 : Int32) then
  (some (1 : Int32))
  else
  (some (0 : Int32)))
def mm_way (v1 : Int32) (v2 : Int32) (μ : g_St) : Option (Int32 × g_St) :=
  (some (g_sI μ 0 0 (0 : Int32))).bind fun μ1 =>
  (mm_isPlace μ1 v1).bind fun x2 =>
  (if x2 = 0 then
  (some ((-1 : Int32), μ1))
  else
  (mm_isPlace μ1 v2).bind fun x3 =>
  (if x3 = 0 then
  (some ((-1 : Int32), μ1))
  else
  (mm_isWay μ1 v1 v2).bind fun x4 =>
  (if x4 = 0 then
  (some ((-1 : Int32), μ1))
  else
  (g_rd μ1 8 50 (((5 : Int32) * v1) + v2)).bind fun x5 =>
  (some (x5, μ1)))))
def mm_makersOf_4_b (F : Nat) (μ : g_St) (v1 : Int32) (K_4 : Int32 → Int32 → Option Int32) (v2 : Int32) (v3 : Int32) : Option Int32 :=
  (g_rd μ 4 2 (0 : Int32)).bind fun x1 =>
  (if v3 < x1 then
  (g_rd μ 12 16 v3).bind fun x2 =>
  (some (v2 ||| (((x2 >>> (v1 &&& 31)) &&& (1 : Int32)) <<< (v3 &&& 31)))).bind fun x3 =>
  (K_4 x3 (v3 + 1))
  else
  (some v2))
def mm_makersOf_4 (F : Nat) (μ : g_St) (v1 : Int32) : Nat → Int32 → Int32 → Option Int32
  | 0, _, _ => none
  | f + 1, v2, v3 => mm_makersOf_4_b F μ v1 (mm_makersOf_4 F μ v1 f) v2 v3 
def mm_makersOf (F : Nat) (μ : g_St) (v1 : Int32) : Option Int32 :=
  (mm_makersOf_4 F μ v1 F (0 : Int32) (0 : Int32))
def mm_good (F : Nat) (v1 : Int32) (v2 : Int32) (μ : g_St) : Option (Int32 × g_St) :=
  (some (g_sI μ 0 0 (0 : Int32))).bind fun μ1 =>
  (mm_isGood μ1 v1).bind fun x2 =>
  (if x2 = 0 then
  (some ((-1 : Int32), μ1))
  else
  (mm_within μ1 v2 (0 : Int32) (2 : Int32)).bind fun x3 =>
  (if x3 = 0 then
  (some ((-1 : Int32), μ1))
  else
  (if v2 = 0 then
  (g_rd μ1 9 12 v1).bind fun x4 =>
  (some (x4, μ1))
  else
  (if v2 = (1 : Int32) then
  (g_rd μ1 10 12 v1).bind fun x5 =>
  (some (x5, μ1))
  else
  (mm_makersOf F μ1 v1).bind fun x6 =>
  (some (x6, μ1))))))
def mm_worth (v1 : Int32) (v2 : Int32) (v3 : Int32) (μ : g_St) : Option (Int32 × g_St) :=
  (some (g_sI μ 0 0 (0 : Int32))).bind fun μ1 =>
  (mm_isPerson μ1 v1).bind fun x2 =>
  (if x2 = 0 then
  (some ((-1 : Int32), μ1))
  else
  (mm_isGood μ1 v2).bind fun x3 =>
  (if x3 = 0 then
  (some ((-1 : Int32), μ1))
  else
  (mm_within μ1 v3 (0 : Int32) (2 : Int32)).bind fun x4 =>
  (if x4 = 0 then
  (some ((-1 : Int32), μ1))
  else
  (g_rd μ1 13 288 ((((18 : Int32) * v1) + ((3 : Int32) * v2)) + v3)).bind fun x5 =>
  (some (x5, μ1)))))
def mm_puts (v1 : Int32) (μ : g_St) : Option g_St :=
  (g_wr μ 16 2000 (μ.1 0 26) v1).bind fun μ1 =>
  (some (g_sI μ1 0 26 ((μ1.1 0 26) + (1 : Int32)))).bind fun μ2 =>
  (some μ2)
def mm_fact (μ : g_St) : Option Int32 :=
  (if (μ.1 0 6) = (1 : Int32) then
  (if (lg_cmp (μ.2.1 0 7) (11570 : Int64)) = 0 then
  (some (1 : Int32))
  else
  (if (lg_cmp (μ.2.1 0 7) (316163 : Int64)) = 0 then
  (some (2 : Int32))
  else
  (if (lg_cmp (μ.2.1 0 7) (385418 : Int64)) = 0 then
  (some (3 : Int32))
  else
  (if (lg_cmp (μ.2.1 0 7) (90090 : Int64)) = 0 then
  (some (4 : Int32))
  else
  (if (lg_cmp (μ.2.1 0 7) (4562587 : Int64)) = 0 then
  (some (5 : Int32))
  else
  (if (lg_cmp (μ.2.1 0 7) (36502 : Int64)) = 0 then
  (some (6 : Int32))
  else
  (if (lg_cmp (μ.2.1 0 7) (149125 : Int64)) = 0 then
  (some (7 : Int32))
  else
  (if (lg_cmp (μ.2.1 0 7) (131360 : Int64)) = 0 then
  (some (8 : Int32))
  else
  (some (0 : Int32))))))))))
  else
  (some (0 : Int32)))
def mm_reads_172 (F : Nat) (K_11 : Int32 → Int32 → g_St → Option (Int32 × g_St)) (v1 : Int32) (v2 : Int32) (μ : g_St) : Option (Int32 × g_St) :=
  (mm_nextToken F μ).bind fun μ10 =>
  (K_11 v1 v2 μ10)
def mm_reads_120 (F : Nat) (K_11 : Int32 → Int32 → g_St → Option (Int32 × g_St)) (v1 : Int32) (v2 : Int32) (s0 : Int32) (s1 : Int32) (μ : g_St) : Option (Int32 × g_St) :=
  (g_wr μ 17 7 s1 s0).bind fun μ8 =>
  (g_wr μ8 18 7 v1 (g_nz (0 : Int32))).bind fun μ9 =>
  (mm_reads_172 F K_11 v1 v2 μ9)
def mm_reads_99 (F : Nat) (K_11 : Int32 → Int32 → g_St → Option (Int32 × g_St)) (v1 : Int32) (v2 : Int32) (v4 : Int32) (s0 : Int32) (μ : g_St) : Option (Int32 × g_St) :=
  (mm_puts s0 μ).bind fun μ7 =>
  (if v4 = 0 then
  (mm_reads_120 F K_11 (v1 + 1) v2 (2 : Int32) (v1 + 1) μ7)
  else
  (mm_reads_120 F K_11 (v1 + 1) v2 (1 : Int32) (v1 + 1) μ7))
def mm_reads_86 (F : Nat) (K_11 : Int32 → Int32 → g_St → Option (Int32 × g_St)) (v1 : Int32) (v2 : Int32) (v4 : Int32) (μ : g_St) : Option (Int32 × g_St) :=
  (if v4 = 0 then
  (mm_reads_99 F K_11 v1 v2 v4 (28 : Int32) μ)
  else
  (mm_reads_99 F K_11 v1 v2 v4 (30 : Int32) μ))
def mm_reads_152_b (F : Nat) (v2 : Int32) (K_11 : Int32 → Int32 → g_St → Option (Int32 × g_St)) (K_152 : Int32 → g_St → Option (Int32 × g_St)) (v1 : Int32) (μ : g_St) : Option (Int32 × g_St) :=
  (if 0 < v1 then
  (g_rd μ 17 7 v1).bind fun x12 =>
  (if x12 = (1 : Int32) then
  (K_152 (v1 + (-1)) μ)
  else
  (mm_reads_172 F K_11 v1 v2 μ))
  else
  (mm_reads_172 F K_11 v1 v2 μ))
def mm_reads_152 (F : Nat) (v2 : Int32) (K_11 : Int32 → Int32 → g_St → Option (Int32 × g_St)) : Nat → Int32 → g_St → Option (Int32 × g_St)
  | 0, _, _ => none
  | f + 1, v1, μ => mm_reads_152_b F v2 K_11 (mm_reads_152 F v2 K_11 f) v1 μ
def mm_reads_147 (F : Nat) (K_11 : Int32 → Int32 → g_St → Option (Int32 × g_St)) (v1 : Int32) (s0 : Int32) (μ : g_St) : Option (Int32 × g_St) :=
  (mm_puts s0 μ).bind fun μ11 =>
  (mm_reads_152 F (0 : Int32) K_11 F v1 μ11)
def mm_reads_65 (F : Nat) (K_11 : Int32 → Int32 → g_St → Option (Int32 × g_St)) (v1 : Int32) (v2 : Int32) (v3 : Int32) (v4 : Int32) (v5 : Int32) (μ : g_St) : Option (Int32 × g_St) :=
  (if v1 = (5 : Int32) then
  (mm_fails (5 : Int32) μ).bind fun q6 =>
  (some ((q6.1 &&& 1), q6.2))
  else
  (if v4 = 0 then
  (if v5 = 0 then
  (if 0 < v3 then
  (mm_reads_147 F K_11 v1 v3 μ)
  else
  (mm_reads_147 F K_11 v1 ((100 : Int32) + (μ.1 0 8)) μ))
  else
  (mm_reads_86 F K_11 v1 v2 v4 μ))
  else
  (mm_reads_86 F K_11 v1 v2 v4 μ)))
def mm_reads_424 (F : Nat) (K_11 : Int32 → Int32 → g_St → Option (Int32 × g_St)) (v1 : Int32) (v2 : Int32) (μ : g_St) : Option (Int32 × g_St) :=
  (mm_nextToken F μ).bind fun μ18 =>
  (K_11 v1 v2 μ18)
def mm_reads_237 (F : Nat) (K_11 : Int32 → Int32 → g_St → Option (Int32 × g_St)) (v1 : Int32) (s0 : Int32) (μ : g_St) : Option (Int32 × g_St) :=
  (mm_puts s0 μ).bind fun μ17 =>
  (mm_reads_424 F K_11 v1 (1 : Int32) μ17)
def mm_reads_206 (F : Nat) (K_11 : Int32 → Int32 → g_St → Option (Int32 × g_St)) (v1 : Int32) (μ : g_St) : Option (Int32 × g_St) :=
  (mm_isSign μ (43 : Int32)).bind fun x16 =>
  (if x16 = 0 then
  (mm_isSign μ (45 : Int32)).bind fun x19 =>
  (if x19 = 0 then
  (mm_reads_237 F K_11 v1 (22 : Int32) μ)
  else
  (mm_reads_237 F K_11 v1 (21 : Int32) μ))
  else
  (mm_reads_237 F K_11 v1 (20 : Int32) μ))
def mm_reads_289 (F : Nat) (K_11 : Int32 → Int32 → g_St → Option (Int32 × g_St)) (v1 : Int32) (s0 : Int32) (μ : g_St) : Option (Int32 × g_St) :=
  (mm_puts s0 μ).bind fun μ24 =>
  (g_wr μ24 18 7 v1 (g_nz (1 : Int32))).bind fun μ25 =>
  (mm_reads_424 F K_11 v1 (1 : Int32) μ25)
def mm_reads_342 (F : Nat) (K_11 : Int32 → Int32 → g_St → Option (Int32 × g_St)) (v1 : Int32) (s0 : Int32) (μ : g_St) : Option (Int32 × g_St) :=
  (mm_puts s0 μ).bind fun μ29 =>
  (g_wr μ29 18 7 v1 (g_nz (0 : Int32))).bind fun μ30 =>
  (mm_reads_424 F K_11 v1 (1 : Int32) μ30)
def mm_reads_324 (F : Nat) (K_11 : Int32 → Int32 → g_St → Option (Int32 × g_St)) (v1 : Int32) (μ : g_St) : Option (Int32 × g_St) :=
  (mm_isWord μ (1111 : Int64)).bind fun x28 =>
  (if x28 = 0 then
  (mm_reads_342 F K_11 v1 (27 : Int32) μ)
  else
  (mm_reads_342 F K_11 v1 (26 : Int32) μ))
def mm_reads_379_b (F : Nat) (v2 : Int32) (K_11 : Int32 → Int32 → g_St → Option (Int32 × g_St)) (K_379 : Int32 → g_St → Option (Int32 × g_St)) (v1 : Int32) (μ : g_St) : Option (Int32 × g_St) :=
  (if 0 < v1 then
  (g_rd μ 17 7 v1).bind fun x33 =>
  (if x33 = (1 : Int32) then
  (K_379 (v1 + (-1)) μ)
  else
  (mm_reads_424 F K_11 v1 v2 μ))
  else
  (mm_reads_424 F K_11 v1 v2 μ))
def mm_reads_379 (F : Nat) (v2 : Int32) (K_11 : Int32 → Int32 → g_St → Option (Int32 × g_St)) : Nat → Int32 → g_St → Option (Int32 × g_St)
  | 0, _, _ => none
  | f + 1, v1, μ => mm_reads_379_b F v2 K_11 (mm_reads_379 F v2 K_11 f) v1 μ
def mm_reads_418 (F : Nat) (μ : g_St) : Option (Int32 × g_St) :=
  (mm_fails (1 : Int32) μ).bind fun q36 =>
  (some ((q36.1 &&& 1), q36.2))
def mm_reads_399 (F : Nat) (v1 : Int32) (μ : g_St) : Option (Int32 × g_St) :=
  (if v1 = 0 then
  (mm_isSign μ (59 : Int32)).bind fun x34 =>
  (if x34 = 0 then
  (mm_reads_418 F μ)
  else
  (mm_nextToken F μ).bind fun μ35 =>
  (some ((1 : Int32), μ35)))
  else
  (mm_reads_418 F μ))
def mm_reads_304 (F : Nat) (K_11 : Int32 → Int32 → g_St → Option (Int32 × g_St)) (v1 : Int32) (v2 : Int32) (μ : g_St) : Option (Int32 × g_St) :=
  (mm_isWord μ (1111 : Int64)).bind fun x26 =>
  (if x26 = 0 then
  (mm_isWord μ (423 : Int64)).bind fun x27 =>
  (if x27 = 0 then
  (mm_isSign μ (41 : Int32)).bind fun x31 =>
  (if x31 = 0 then
  (mm_reads_399 F v1 μ)
  else
  (if 0 < v1 then
  (mm_puts (29 : Int32) μ).bind fun μ32 =>
  (mm_reads_379 F v2 K_11 F (v1 + (-1)) μ32)
  else
  (mm_reads_399 F v1 μ)))
  else
  (mm_reads_324 F K_11 v1 μ))
  else
  (mm_reads_324 F K_11 v1 μ))
def mm_reads_263 (F : Nat) (K_11 : Int32 → Int32 → g_St → Option (Int32 × g_St)) (v1 : Int32) (v2 : Int32) (μ : g_St) : Option (Int32 × g_St) :=
  (g_rd μ 18 7 v1).bind fun x22 =>
  (if x22 = 0 then
  (mm_isSign μ (60 : Int32)).bind fun x23 =>
  (if x23 = 0 then
  (mm_reads_289 F K_11 v1 (25 : Int32) μ)
  else
  (mm_reads_289 F K_11 v1 (24 : Int32) μ))
  else
  (mm_reads_304 F K_11 v1 v2 μ))
def mm_reads_11_b (F : Nat) (K_11 : Int32 → Int32 → g_St → Option (Int32 × g_St)) (v1 : Int32) (v2 : Int32) (μ : g_St) : Option (Int32 × g_St) :=
  (if v2 = 0 then
  (mm_isSign μ (43 : Int32)).bind fun x13 =>
  (if x13 = 0 then
  (mm_isSign μ (45 : Int32)).bind fun x14 =>
  (if x14 = 0 then
  (mm_isSign μ (42 : Int32)).bind fun x15 =>
  (if x15 = 0 then
  (mm_isSign μ (60 : Int32)).bind fun x20 =>
  (if x20 = 0 then
  (mm_isSign μ (61 : Int32)).bind fun x21 =>
  (if x21 = 0 then
  (mm_reads_304 F K_11 v1 v2 μ)
  else
  (mm_reads_263 F K_11 v1 v2 μ))
  else
  (mm_reads_263 F K_11 v1 v2 μ))
  else
  (mm_reads_206 F K_11 v1 μ))
  else
  (mm_reads_206 F K_11 v1 μ))
  else
  (mm_reads_206 F K_11 v1 μ))
  else
  (mm_fact μ).bind fun x2 =>
  (mm_isWord μ (10631 : Int64)).bind fun x3 =>
  (mm_isSign μ (40 : Int32)).bind fun x4 =>
  (if x2 = 0 then
  (if x3 = 0 then
  (if x4 = 0 then
  (if (μ.1 0 6) = (2 : Int32) then
  (mm_reads_65 F K_11 v1 v2 x2 x3 x4 μ)
  else
  (mm_fails (1 : Int32) μ).bind fun q5 =>
  (some ((q5.1 &&& 1), q5.2)))
  else
  (mm_reads_65 F K_11 v1 v2 x2 x3 x4 μ))
  else
  (mm_reads_65 F K_11 v1 v2 x2 x3 x4 μ))
  else
  (mm_reads_65 F K_11 v1 v2 x2 x3 x4 μ)))
def mm_reads_11 (F : Nat) : Nat → Int32 → Int32 → g_St → Option (Int32 × g_St)
  | 0, _, _, _ => none
  | f + 1, v1, v2, μ => mm_reads_11_b F (mm_reads_11 F f) v1 v2 μ
def mm_reads (F : Nat) (μ : g_St) : Option (Int32 × g_St) :=
  (g_wr μ 18 7 (0 : Int32) (g_nz (0 : Int32))).bind fun μ1 =>
  (mm_reads_11 F F (0 : Int32) (1 : Int32) μ1)
def mm_rule_64 (F : Nat) (K_18 : Int32 → g_St → Option (Int32 × g_St)) (v1 : Int32) (s0 : Int32) (μ : g_St) : Option (Int32 × g_St) :=
  (if s0 = 0 then
  (some ((μ.1 0 9), μ))
  else
  (mm_nextToken F μ).bind fun μ6 =>
  (mm_needsWord F (458690 : Int64) μ6).bind fun q7 =>
  (if q7.1 = 0 then
  (some ((q7.2.1 0 9), q7.2))
  else
  (g_wr q7.2 14 12 ((6 : Int32) + v1) (q7.2.1 0 26)).bind fun μ8 =>
  (mm_reads F μ8).bind fun q9 =>
  (if q9.1 = 0 then
  (some ((q9.2.1 0 9), q9.2))
  else
  (g_wr q9.2 15 12 ((6 : Int32) + v1) (q9.2.1 0 26)).bind fun μ10 =>
  (K_18 (v1 + 1) μ10))))
def mm_rule_51 (F : Nat) (K_18 : Int32 → g_St → Option (Int32 × g_St)) (v1 : Int32) (μ : g_St) : Option (Int32 × g_St) :=
  (mm_rule_64 F K_18 v1 (1 : Int32) μ)
def mm_rule_196_b (F : Nat) (K_196 : Int32 → g_St → Option (Int32 × g_St)) (v2 : Int32) (μ : g_St) : Option (Int32 × g_St) :=
  (if v2 < (1000 : Int32) then
  (g_rd μ 16 2000 ((1000 : Int32) + v2)).bind fun x17 =>
  (g_wr μ 16 2000 v2 x17).bind fun μ18 =>
  (K_196 (v2 + 1) μ18)
  else
  (some ((0 : Int32), μ)))
def mm_rule_196 (F : Nat) : Nat → Int32 → g_St → Option (Int32 × g_St)
  | 0, _, _ => none
  | f + 1, v2, μ => mm_rule_196_b F (mm_rule_196 F f) v2 μ
def mm_rule_144_b (F : Nat) (K_144 : Int32 → g_St → Option (Int32 × g_St)) (v2 : Int32) (μ : g_St) : Option (Int32 × g_St) :=
  (if v2 < (6 : Int32) then
  (g_rd μ 14 12 ((6 : Int32) + v2)).bind fun x13 =>
  (g_wr μ 14 12 v2 (x13 - (1000 : Int32))).bind fun μ14 =>
  (g_rd μ14 15 12 ((6 : Int32) + v2)).bind fun x15 =>
  (g_wr μ14 15 12 v2 (x15 - (1000 : Int32))).bind fun μ16 =>
  (K_144 (v2 + 1) μ16)
  else
  (mm_rule_196 F F (0 : Int32) μ))
def mm_rule_144 (F : Nat) : Nat → Int32 → g_St → Option (Int32 × g_St)
  | 0, _, _ => none
  | f + 1, v2, μ => mm_rule_144_b F (mm_rule_144 F f) v2 μ
def mm_rule_18_b (F : Nat) (K_18 : Int32 → g_St → Option (Int32 × g_St)) (v1 : Int32) (μ : g_St) : Option (Int32 × g_St) :=
  (if (μ.1 0 6) = 0 then
  (some (g_sI μ 0 22 v1)).bind fun μ12 =>
  (mm_rule_144 F F (0 : Int32) μ12)
  else
  (mm_isWord μ (173175987 : Int64)).bind fun x4 =>
  (if x4 = 0 then
  (mm_fails (1 : Int32) μ).bind fun q11 =>
  (mm_rule_64 F K_18 v1 q11.1 q11.2)
  else
  (if (6 : Int32) ≤ v1 then
  (mm_fails (5 : Int32) μ).bind fun q5 =>
  (if q5.1 = 0 then
  (mm_rule_64 F K_18 v1 (0 : Int32) q5.2)
  else
  (mm_rule_51 F K_18 v1 q5.2))
  else
  (mm_rule_51 F K_18 v1 μ))))
def mm_rule_18 (F : Nat) : Nat → Int32 → g_St → Option (Int32 × g_St)
  | 0, _, _ => none
  | f + 1, v1, μ => mm_rule_18_b F (mm_rule_18 F f) v1 μ
def mm_rule (F : Nat) (μ : g_St) : Option (Int32 × g_St) :=
  (some (g_sI μ 0 0 (0 : Int32))).bind fun μ1 =>
  (mm_starts F μ1).bind fun μ2 =>
  (some (g_sI μ2 0 26 (1000 : Int32))).bind fun μ3 =>
  (mm_rule_18 F F (0 : Int32) μ3)
def mm_opens (v1 : Int32) (μ : g_St) : Option g_St :=
  (g_wr μ 20 7 v1 (0 : Int32)).bind fun μ1 =>
  (g_wr μ1 22 7 v1 (0 : Int32)).bind fun μ2 =>
  (g_wr μ2 23 7 v1 (0 : Int32)).bind fun μ3 =>
  (g_wr μ3 24 7 v1 (20 : Int32)).bind fun μ4 =>
  (g_wr μ4 26 7 v1 (0 : Int32)).bind fun μ5 =>
  (some μ5)
def mm_sums (v1 : Int32) (μ : g_St) : Option g_St :=
  (g_rd μ 24 7 v1).bind fun x1 =>
  (if x1 = (21 : Int32) then
  (g_rd μ 23 7 v1).bind fun x2 =>
  (g_rd μ 25 7 v1).bind fun x3 =>
  (g_wr μ 23 7 v1 (x2 - x3)).bind fun μ4 =>
  (g_wr μ4 26 7 v1 (0 : Int32)).bind fun μ5 =>
  (some μ5)
  else
  (g_rd μ 23 7 v1).bind fun x6 =>
  (g_rd μ 25 7 v1).bind fun x7 =>
  (g_wr μ 23 7 v1 (x6 + x7)).bind fun μ8 =>
  (g_wr μ8 26 7 v1 (0 : Int32)).bind fun μ9 =>
  (some μ9))
def mm_tests_136 (v1 : Int32) (v2 : Int32) (μ : g_St) : Option g_St :=
  (g_wr μ 19 7 v1 v2).bind fun μ13 =>
  (g_wr μ13 22 7 v1 (0 : Int32)).bind fun μ14 =>
  (g_wr μ14 23 7 v1 (0 : Int32)).bind fun μ15 =>
  (g_wr μ15 24 7 v1 (20 : Int32)).bind fun μ16 =>
  (some μ16)
def mm_tests_135 (v1 : Int32) (s0 : Int32) (μ : g_St) : Option g_St :=
  (mm_tests_136 v1 s0 μ)
def mm_tests_130 (v1 : Int32) (μ : g_St) : Option g_St :=
  (mm_tests_135 v1 (1 : Int32) μ)
def mm_tests_106 (v1 : Int32) (v2 : Int32) (μ : g_St) : Option g_St :=
  (g_rd μ 20 7 v1).bind fun x11 =>
  (if x11 = (27 : Int32) then
  (g_rd μ 19 7 v1).bind fun x12 =>
  (if x12 = 0 then
  (if v2 = 0 then
  (mm_tests_135 v1 (0 : Int32) μ)
  else
  (mm_tests_130 v1 μ))
  else
  (mm_tests_130 v1 μ))
  else
  (mm_tests_136 v1 v2 μ))
def mm_tests_105 (v1 : Int32) (s0 : Int32) (μ : g_St) : Option g_St :=
  (mm_tests_106 v1 s0 μ)
def mm_tests_104 (v1 : Int32) (μ : g_St) : Option g_St :=
  (mm_tests_105 v1 (0 : Int32) μ)
def mm_tests_76 (v1 : Int32) (v2 : Int32) (μ : g_St) : Option g_St :=
  (g_rd μ 20 7 v1).bind fun x9 =>
  (if x9 = (26 : Int32) then
  (g_rd μ 19 7 v1).bind fun x10 =>
  (if x10 = 0 then
  (mm_tests_104 v1 μ)
  else
  (if v2 = 0 then
  (mm_tests_104 v1 μ)
  else
  (mm_tests_105 v1 (1 : Int32) μ)))
  else
  (mm_tests_106 v1 v2 μ))
def mm_tests_75 (v1 : Int32) (s0 : Int32) (μ : g_St) : Option g_St :=
  (mm_tests_76 v1 s0 μ)
def mm_tests_44 (v1 : Int32) (v2 : Int32) (μ : g_St) : Option g_St :=
  (g_rd μ 22 7 v1).bind fun x6 =>
  (if x6 = (25 : Int32) then
  (g_rd μ 21 7 v1).bind fun x7 =>
  (g_rd μ 23 7 v1).bind fun x8 =>
  (if x7 = x8 then
  (mm_tests_75 v1 (1 : Int32) μ)
  else
  (mm_tests_75 v1 (0 : Int32) μ))
  else
  (mm_tests_76 v1 v2 μ))
def mm_tests_43 (v1 : Int32) (s0 : Int32) (μ : g_St) : Option g_St :=
  (mm_tests_44 v1 s0 μ)
def mm_tests (v1 : Int32) (μ : g_St) : Option g_St :=
  (mm_sums v1 μ).bind fun μ1 =>
  (g_rd μ1 23 7 v1).bind fun x2 =>
  (g_rd μ1 22 7 v1).bind fun x3 =>
  (if x3 = (24 : Int32) then
  (g_rd μ1 21 7 v1).bind fun x4 =>
  (g_rd μ1 23 7 v1).bind fun x5 =>
  (if x4 < x5 then
  (mm_tests_43 v1 (1 : Int32) μ1)
  else
  (mm_tests_43 v1 (0 : Int32) μ1))
  else
  (mm_tests_44 v1 x2 μ1))
def mm_worked_66 (F : Nat) (K_14 : Int32 → Int32 → g_St → Option (Int32 × g_St)) (v1 : Int32) (v2 : Int32) (v3 : Int32) (s0 : Int32) (s1 : Int32) (μ : g_St) : Option (Int32 × g_St) :=
  (g_wr μ 27 7 s1 s0).bind fun μ5 =>
  (mm_opens v2 μ5).bind fun μ6 =>
  (K_14 v2 (v3 + 1) μ6)
def mm_worked_46 (F : Nat) (K_14 : Int32 → Int32 → g_St → Option (Int32 × g_St)) (v1 : Int32) (v2 : Int32) (v3 : Int32) (v4 : Int32) (μ : g_St) : Option (Int32 × g_St) :=
  (if v4 = (30 : Int32) then
  (mm_worked_66 F K_14 v1 (v2 + 1) v3 (1 : Int32) (v2 + 1) μ)
  else
  (mm_worked_66 F K_14 v1 (v2 + 1) v3 (0 : Int32) (v2 + 1) μ))
def mm_worked_89 (F : Nat) (K_14 : Int32 → Int32 → g_St → Option (Int32 × g_St)) (v1 : Int32) (v2 : Int32) (v3 : Int32) (v4 : Int32) (μ : g_St) : Option (Int32 × g_St) :=
  (mm_sums v2 μ).bind fun μ7 =>
  (g_wr μ7 24 7 v2 v4).bind fun μ8 =>
  (K_14 v2 (v3 + 1) μ8)
def mm_worked_137 (F : Nat) (K_14 : Int32 → Int32 → g_St → Option (Int32 × g_St)) (v1 : Int32) (v2 : Int32) (v3 : Int32) (v4 : Int32) (μ : g_St) : Option (Int32 × g_St) :=
  (mm_sums v2 μ).bind fun μ10 =>
  (g_rd μ10 23 7 v2).bind fun x11 =>
  (g_wr μ10 21 7 v2 x11).bind fun μ12 =>
  (g_wr μ12 22 7 v2 v4).bind fun μ13 =>
  (g_wr μ13 23 7 v2 (0 : Int32)).bind fun μ14 =>
  (g_wr μ14 24 7 v2 (20 : Int32)).bind fun μ15 =>
  (K_14 v2 (v3 + 1) μ15)
def mm_worked_194 (F : Nat) (K_14 : Int32 → Int32 → g_St → Option (Int32 × g_St)) (v1 : Int32) (v2 : Int32) (v3 : Int32) (v4 : Int32) (μ : g_St) : Option (Int32 × g_St) :=
  (mm_tests v2 μ).bind fun μ16 =>
  (g_wr μ16 20 7 v2 v4).bind fun μ17 =>
  (K_14 v2 (v3 + 1) μ17)
def mm_worked_300 (F : Nat) (K_14 : Int32 → Int32 → g_St → Option (Int32 × g_St)) (v1 : Int32) (v2 : Int32) (v3 : Int32) (v5 : Int32) (μ : g_St) : Option (Int32 × g_St) :=
  (g_rd μ 26 7 v2).bind fun x21 =>
  (if x21 = 0 then
  (g_wr μ 25 7 v2 v5).bind fun μ22 =>
  (K_14 v2 (v3 + 1) μ22)
  else
  (g_rd μ 25 7 v2).bind fun x23 =>
  (g_wr μ 25 7 v2 (x23 * v5)).bind fun μ24 =>
  (K_14 v2 (v3 + 1) μ24))
def mm_worked_268_b (F : Nat) (v1 : Int32) (v3 : Int32) (K_14 : Int32 → Int32 → g_St → Option (Int32 × g_St)) (K_268 : Int32 → Int32 → g_St → Option (Int32 × g_St)) (v2 : Int32) (v5 : Int32) (μ : g_St) : Option (Int32 × g_St) :=
  (if 0 < v2 then
  (g_rd μ 27 7 v2).bind fun x20 =>
  (if x20 = (1 : Int32) then
  (if v5 = 0 then
  (K_268 (v2 + (-1)) (1 : Int32) μ)
  else
  (K_268 (v2 + (-1)) (0 : Int32) μ))
  else
  (mm_worked_300 F K_14 v1 v2 v3 v5 μ))
  else
  (mm_worked_300 F K_14 v1 v2 v3 v5 μ))
def mm_worked_268 (F : Nat) (v1 : Int32) (v3 : Int32) (K_14 : Int32 → Int32 → g_St → Option (Int32 × g_St)) : Nat → Int32 → Int32 → g_St → Option (Int32 × g_St)
  | 0, _, _, _ => none
  | f + 1, v2, v5, μ => mm_worked_268_b F v1 v3 K_14 (mm_worked_268 F v1 v3 K_14 f) v2 v5 μ
def mm_worked_243 (F : Nat) (K_14 : Int32 → Int32 → g_St → Option (Int32 × g_St)) (v1 : Int32) (v2 : Int32) (v3 : Int32) (v4 : Int32) (s0 : Int32) (μ : g_St) : Option (Int32 × g_St) :=
  (if v4 = (29 : Int32) then
  (mm_tests v2 μ).bind fun μ18 =>
  (g_rd μ18 19 7 v2).bind fun x19 =>
  (mm_worked_268 F v1 v3 K_14 F (v2 + (-1)) x19 μ18)
  else
  (mm_worked_268 F v1 v3 K_14 F v2 s0 μ))
def mm_worked_14_b (F : Nat) (v1 : Int32) (K_14 : Int32 → Int32 → g_St → Option (Int32 × g_St)) (v2 : Int32) (v3 : Int32) (μ : g_St) : Option (Int32 × g_St) :=
  (g_rd μ 15 12 v1).bind fun x3 =>
  (if v3 < x3 then
  (g_rd μ 16 2000 v3).bind fun x4 =>
  (if x4 = (28 : Int32) then
  (mm_worked_46 F K_14 v1 v2 v3 x4 μ)
  else
  (if x4 = (30 : Int32) then
  (mm_worked_46 F K_14 v1 v2 v3 x4 μ)
  else
  (if x4 = (20 : Int32) then
  (mm_worked_89 F K_14 v1 v2 v3 x4 μ)
  else
  (if x4 = (21 : Int32) then
  (mm_worked_89 F K_14 v1 v2 v3 x4 μ)
  else
  (if x4 = (22 : Int32) then
  (g_wr μ 26 7 v2 x4).bind fun μ9 =>
  (K_14 v2 (v3 + 1) μ9)
  else
  (if x4 = (24 : Int32) then
  (mm_worked_137 F K_14 v1 v2 v3 x4 μ)
  else
  (if x4 = (25 : Int32) then
  (mm_worked_137 F K_14 v1 v2 v3 x4 μ)
  else
  (if x4 = (26 : Int32) then
  (mm_worked_194 F K_14 v1 v2 v3 x4 μ)
  else
  (if x4 = (27 : Int32) then
  (mm_worked_194 F K_14 v1 v2 v3 x4 μ)
  else
  (if (100 : Int32) ≤ x4 then
  (mm_worked_243 F K_14 v1 v2 v3 x4 (x4 - (100 : Int32)) μ)
  else
  (if x4 < (20 : Int32) then
  (g_rd μ 28 20 x4).bind fun x25 =>
  (mm_worked_243 F K_14 v1 v2 v3 x4 x25 μ)
  else
  (mm_worked_243 F K_14 v1 v2 v3 x4 (0 : Int32) μ))))))))))))
  else
  (mm_tests (0 : Int32) μ).bind fun μ26 =>
  (g_rd μ26 19 7 (0 : Int32)).bind fun x27 =>
  (some (x27, μ26)))
def mm_worked_14 (F : Nat) (v1 : Int32) : Nat → Int32 → Int32 → g_St → Option (Int32 × g_St)
  | 0, _, _, _ => none
  | f + 1, v2, v3, μ => mm_worked_14_b F v1 (mm_worked_14 F v1 f) v2 v3 μ
def mm_worked (F : Nat) (v1 : Int32) (μ : g_St) : Option (Int32 × g_St) :=
  (mm_opens (0 : Int32) μ).bind fun μ1 =>
  (g_rd μ1 14 12 v1).bind fun x2 =>
  (mm_worked_14 F v1 F (0 : Int32) x2 μ1)
def mm_isLawful_188_b (F : Nat) (K_188 : Int32 → g_St → Option (Int32 × g_St)) (v7 : Int32) (μ : g_St) : Option (Int32 × g_St) :=
  (if v7 < (μ.1 0 22) then
  (mm_worked F v7 μ).bind fun q19 =>
  (if q19.1 = 0 then
  (K_188 (v7 + 1) q19.2)
  else
  (some ((1 : Int32), q19.2)))
  else
  (some ((0 : Int32), μ)))
def mm_isLawful_188 (F : Nat) : Nat → Int32 → g_St → Option (Int32 × g_St)
  | 0, _, _ => none
  | f + 1, v7, μ => mm_isLawful_188_b F (mm_isLawful_188 F f) v7 μ
def mm_isLawful_154 (F : Nat) (s0 : Int32) (s1 : Int32) (μ : g_St) : Option (Int32 × g_St) :=
  (g_wr μ 28 20 s1 s0).bind fun μ16 =>
  (if (μ16.1 0 22) = 0 then
  (g_rd μ16 28 20 (1 : Int32)).bind fun x17 =>
  (g_rd μ16 28 20 (8 : Int32)).bind fun x18 =>
  (if 0 < (x17 + x18) then
  (some ((1 : Int32), μ16))
  else
  (some ((0 : Int32), μ16)))
  else
  (mm_isLawful_188 F F (0 : Int32) μ16))
def mm_isLawful_125 (F : Nat) (v3 : Int32) (s0 : Int32) (s1 : Int32) (μ : g_St) : Option (Int32 × g_St) :=
  (g_wr μ 28 20 s1 s0).bind fun μ13 =>
  (g_wr μ13 28 20 (7 : Int32) v3).bind fun μ14 =>
  (g_rd μ14 36 6 v3).bind fun x15 =>
  (if x15 = 0 then
  (mm_isLawful_154 F (0 : Int32) (8 : Int32) μ14)
  else
  (mm_isLawful_154 F (1 : Int32) (8 : Int32) μ14))
def mm_isLawful_54 (F : Nat) (v1 : Int32) (v2 : Int32) (v3 : Int32) (s0 : Int32) (s1 : Int32) (μ : g_St) : Option (Int32 × g_St) :=
  (g_wr μ 28 20 s1 s0).bind fun μ4 =>
  (g_rd μ4 9 12 v3).bind fun x5 =>
  (g_wr μ4 28 20 (5 : Int32) x5).bind fun μ6 =>
  (g_rd μ6 11 16 v1).bind fun x7 =>
  (g_rd μ6 11 16 v2).bind fun x8 =>
  (g_rd μ6 8 50 (((5 : Int32) * x7) + x8)).bind fun x9 =>
  (if x9 < (999 : Int32) then
  (g_rd μ6 11 16 v1).bind fun x10 =>
  (g_rd μ6 11 16 v2).bind fun x11 =>
  (g_rd μ6 8 50 (((5 : Int32) * x10) + x11)).bind fun x12 =>
  (mm_isLawful_125 F v3 x12 (6 : Int32) μ6)
  else
  (mm_isLawful_125 F v3 (999 : Int32) (6 : Int32) μ6))
def mm_isLawful_18 (F : Nat) (v1 : Int32) (v2 : Int32) (v3 : Int32) (v4 : Int32) (v5 : Int32) (v6 : Int32) (s0 : Int32) (s1 : Int32) (μ : g_St) : Option (Int32 × g_St) :=
  (g_wr μ 28 20 s1 s0).bind fun μ1 =>
  (g_wr μ1 28 20 (2 : Int32) ((v5 >>> (v1 &&& 31)) &&& (1 : Int32))).bind fun μ2 =>
  (g_wr μ2 28 20 (3 : Int32) v4).bind fun μ3 =>
  (if v6 = 0 then
  (mm_isLawful_54 F v1 v2 v3 (0 : Int32) (4 : Int32) μ3)
  else
  (mm_isLawful_54 F v1 v2 v3 (1 : Int32) (4 : Int32) μ3))
def mm_isLawful (F : Nat) (v1 : Int32) (v2 : Int32) (v3 : Int32) (v4 : Int32) (v5 : Int32) (v6 : Int32) (μ : g_St) : Option (Int32 × g_St) :=
  (if v5 = ((1 : Int32) <<< (v1 &&& 31)) then
  (mm_isLawful_18 F v1 v2 v3 v4 v5 v6 (1 : Int32) (1 : Int32) μ)
  else
  (mm_isLawful_18 F v1 v2 v3 v4 v5 v6 (0 : Int32) (1 : Int32) μ))
def mm_isLawfulNow_41 (F : Nat) (s0 : Int32) (s1 : Int32) (s2 : Int32) (s3 : Int32) (s4 : Int32) (s5 : Int32) (μ : g_St) : Option (Int32 × g_St) :=
  (mm_isLawful F s5 s4 s3 s2 s1 s0 μ).bind fun q6 =>
  (some ((q6.1 &&& 1), q6.2))
def mm_isLawfulNow (F : Nat) (v1 : Int32) (v2 : Int32) (v3 : Int32) (μ : g_St) : Option (Int32 × g_St) :=
  (g_rd μ 29 40 v3).bind fun x1 =>
  (g_rd μ 30 40 v3).bind fun x2 =>
  (g_rd μ 31 40 v3).bind fun x3 =>
  (g_rd μ 34 8 v1).bind fun x4 =>
  (g_rd μ 11 16 v1).bind fun x5 =>
  (if x4 = x5 then
  (mm_isLawfulNow_41 F (1 : Int32) x3 x2 x1 v2 v1 μ)
  else
  (mm_isLawfulNow_41 F (0 : Int32) x3 x2 x1 v2 v1 μ))
def mm_heldOf_2_b (F : Nat) (μ : g_St) (v1 : Int32) (v2 : Int32) (K_2 : Int32 → Option Int32) (v3 : Int32) : Option Int32 :=
  (if v3 < (μ.1 0 39) then
  (g_rd μ 32 40 v3).bind fun x1 =>
  (if x1 = v1 then
  (g_rd μ 29 40 v3).bind fun x2 =>
  (if x2 = v2 then
  (some v3)
  else
  (K_2 (v3 + 1)))
  else
  (K_2 (v3 + 1)))
  else
  (some (-1 : Int32)))
def mm_heldOf_2 (F : Nat) (μ : g_St) (v1 : Int32) (v2 : Int32) : Nat → Int32 → Option Int32
  | 0, _ => none
  | f + 1, v3 => mm_heldOf_2_b F μ v1 v2 (mm_heldOf_2 F μ v1 v2 f) v3 
def mm_heldOf (F : Nat) (μ : g_St) (v1 : Int32) (v2 : Int32) : Option Int32 :=
  (mm_heldOf_2 F μ v1 v2 F (0 : Int32))
def mm_hasAll_2_b (F : Nat) (μ : g_St) (v1 : Int32) (v2 : Int32) (K_2 : Int32 → Option Int32) (v3 : Int32) : Option Int32 :=
  (if v3 < (6 : Int32) then
  (if ((v2 >>> (v3 &&& 31)) &&& (1 : Int32)) = (1 : Int32) then
  (mm_heldOf F μ v1 v3).bind fun x1 =>
  (if x1 < 0 then
  (some (0 : Int32))
  else
  (K_2 (v3 + 1)))
  else
  (K_2 (v3 + 1)))
  else
  (some (1 : Int32)))
def mm_hasAll_2 (F : Nat) (μ : g_St) (v1 : Int32) (v2 : Int32) : Nat → Int32 → Option Int32
  | 0, _ => none
  | f + 1, v3 => mm_hasAll_2_b F μ v1 v2 (mm_hasAll_2 F μ v1 v2 f) v3 
def mm_hasAll (F : Nat) (μ : g_St) (v1 : Int32) (v2 : Int32) : Option Int32 :=
  (mm_hasAll_2 F μ v1 v2 F (0 : Int32))
def mm_whyNotMake_165 (F : Nat) (μ : g_St) : Option Int32 :=
  (if (μ.1 0 39) = (40 : Int32) then
  (some (7 : Int32))
  else
  (some (0 : Int32)))
def mm_whyNotMake_115 (F : Nat) (μ : g_St) (v1 : Int32) (v2 : Int32) (v3 : Int32) (s0 : Int32) (s1 : Int32) : Option Int32 :=
  (if (((s1 ||| s0) >>> (v3 &&& 31)) &&& (1 : Int32)) = 0 then
  (some (3 : Int32))
  else
  (g_rd μ 10 12 v3).bind fun x8 =>
  (mm_hasAll F μ v1 x8).bind fun x9 =>
  (if x9 = 0 then
  (some (3 : Int32))
  else
  (if v2 = (-1 : Int32) then
  (mm_whyNotMake_165 F μ)
  else
  (g_rd μ 34 8 v2).bind fun x10 =>
  (g_rd μ 34 8 v1).bind fun x11 =>
  (if x10 = x11 then
  (mm_whyNotMake_165 F μ)
  else
  (some (4 : Int32))))))
def mm_whyNotMake_75 (F : Nat) (μ : g_St) (v1 : Int32) (v2 : Int32) (v3 : Int32) (s0 : Int32) : Option Int32 :=
  (g_rd μ 9 12 v3).bind fun x6 =>
  (if (168 : Int32) < (s0 + x6) then
  (some (2 : Int32))
  else
  (g_rd μ 12 16 v1).bind fun x7 =>
  (if v2 = (-1 : Int32) then
  (mm_whyNotMake_115 F μ v1 v2 v3 (0 : Int32) x7)
  else
  (g_rd μ 12 16 v2).bind fun x12 =>
  (mm_whyNotMake_115 F μ v1 v2 v3 x12 x7)))
def mm_whyNotMake_26 (F : Nat) (μ : g_St) (v1 : Int32) (v2 : Int32) (v3 : Int32) (v4 : Int32) : Option Int32 :=
  (mm_isGood μ v3).bind fun x3 =>
  (if x3 = 0 then
  (some (1 : Int32))
  else
  (mm_within μ v4 (0 : Int32) (3 : Int32)).bind fun x4 =>
  (if x4 = 0 then
  (some (1 : Int32))
  else
  (if v2 = (-1 : Int32) then
  (g_rd μ 35 8 v1).bind fun x5 =>
  (mm_whyNotMake_75 F μ v1 v2 v3 x5)
  else
  (g_rd μ 35 8 v1).bind fun x13 =>
  (g_rd μ 35 8 v2).bind fun x14 =>
  (mm_whyNotMake_75 F μ v1 v2 v3 (g_max x13 x14)))))
def mm_whyNotMake (F : Nat) (μ : g_St) (v1 : Int32) (v2 : Int32) (v3 : Int32) (v4 : Int32) : Option Int32 :=
  (mm_isPerson μ v1).bind fun x1 =>
  (if x1 = 0 then
  (some (1 : Int32))
  else
  (if v2 = (-1 : Int32) then
  (mm_whyNotMake_26 F μ v1 v2 v3 v4)
  else
  (mm_isPerson μ v2).bind fun x2 =>
  (if x2 = 0 then
  (some (1 : Int32))
  else
  (if v2 = v1 then
  (some (1 : Int32))
  else
  (mm_whyNotMake_26 F μ v1 v2 v3 v4)))))
def mm_make_171 (F : Nat) (v1 : Int32) (v6 : Int32) (s0 : Int32) (s1 : Int32) (s2 : Int32) (μ : g_St) : Option (Int32 × g_St) :=
  (g_wr μ 31 40 s2 (s1 ||| s0)).bind fun μ12 =>
  (g_wr μ12 32 40 (μ12.1 0 39) v1).bind fun μ13 =>
  (g_wr μ13 33 40 (μ13.1 0 39) v6).bind fun μ14 =>
  (some (g_sI μ14 0 39 ((μ14.1 0 39) + (1 : Int32)))).bind fun μ15 =>
  (some ((0 : Int32), μ15))
def mm_make_127 (F : Nat) (v1 : Int32) (v2 : Int32) (v3 : Int32) (v4 : Int32) (v6 : Int32) (μ : g_St) : Option (Int32 × g_St) :=
  (g_wr μ 29 40 (μ.1 0 39) v3).bind fun μ10 =>
  (g_wr μ10 30 40 (μ10.1 0 39) v4).bind fun μ11 =>
  (if v2 = (-1 : Int32) then
  (mm_make_171 F v1 v6 (0 : Int32) ((1 : Int32) <<< (v1 &&& 31)) (μ11.1 0 39) μ11)
  else
  (mm_make_171 F v1 v6 ((1 : Int32) <<< (v2 &&& 31)) ((1 : Int32) <<< (v1 &&& 31)) (μ11.1 0 39) μ11))
def mm_make_97 (F : Nat) (v1 : Int32) (v2 : Int32) (v3 : Int32) (v4 : Int32) (s0 : Int32) (μ : g_St) : Option (Int32 × g_St) :=
  (g_rd μ 9 12 v3).bind fun x7 =>
  (g_wr μ 35 8 v1 (s0 + x7)).bind fun μ8 =>
  (if v2 = (-1 : Int32) then
  (mm_make_127 F v1 v2 v3 v4 (s0 + x7) μ8)
  else
  (g_wr μ8 35 8 v2 (s0 + x7)).bind fun μ9 =>
  (mm_make_127 F v1 v2 v3 v4 (s0 + x7) μ9))
def mm_make_27_b (F : Nat) (v1 : Int32) (v2 : Int32) (v3 : Int32) (v4 : Int32) (K_27 : Int32 → g_St → Option (Int32 × g_St)) (v6 : Int32) (μ : g_St) : Option (Int32 × g_St) :=
  (if v6 < (6 : Int32) then
  (g_rd μ 10 12 v3).bind fun x3 =>
  (if ((x3 >>> (v6 &&& 31)) &&& (1 : Int32)) = (1 : Int32) then
  (mm_heldOf F μ v1 v6).bind fun x4 =>
  (g_wr μ 32 40 x4 (-1 : Int32)).bind fun μ5 =>
  (K_27 (v6 + 1) μ5)
  else
  (K_27 (v6 + 1) μ))
  else
  (if v2 = (-1 : Int32) then
  (g_rd μ 35 8 v1).bind fun x6 =>
  (mm_make_97 F v1 v2 v3 v4 x6 μ)
  else
  (g_rd μ 35 8 v1).bind fun x16 =>
  (g_rd μ 35 8 v2).bind fun x17 =>
  (mm_make_97 F v1 v2 v3 v4 (g_max x16 x17) μ)))
def mm_make_27 (F : Nat) (v1 : Int32) (v2 : Int32) (v3 : Int32) (v4 : Int32) : Nat → Int32 → g_St → Option (Int32 × g_St)
  | 0, _, _ => none
  | f + 1, v6, μ => mm_make_27_b F v1 v2 v3 v4 (mm_make_27 F v1 v2 v3 v4 f) v6 μ
def mm_make (F : Nat) (v1 : Int32) (v2 : Int32) (v3 : Int32) (v4 : Int32) (μ : g_St) : Option (Int32 × g_St) :=
  (some (g_sI μ 0 0 (0 : Int32))).bind fun μ1 =>
  (mm_whyNotMake F μ1 v1 v2 v3 v4).bind fun x2 =>
  (if 0 < x2 then
  (some (x2, μ1))
  else
  (mm_make_27 F v1 v2 v3 v4 F (0 : Int32) μ1))
def mm_go (v1 : Int32) (v2 : Int32) (μ : g_St) : Option (Int32 × g_St) :=
  (some (g_sI μ 0 0 (0 : Int32))).bind fun μ1 =>
  (mm_isPerson μ1 v1).bind fun x2 =>
  (if x2 = 0 then
  (some ((1 : Int32), μ1))
  else
  (mm_isPlace μ1 v2).bind fun x3 =>
  (if x3 = 0 then
  (some ((1 : Int32), μ1))
  else
  (g_rd μ1 34 8 v1).bind fun x4 =>
  (mm_isWay μ1 x4 v2).bind fun x5 =>
  (if x5 = 0 then
  (some ((2 : Int32), μ1))
  else
  (g_rd μ1 35 8 v1).bind fun x6 =>
  (g_rd μ1 34 8 v1).bind fun x7 =>
  (g_rd μ1 8 50 (((5 : Int32) * x7) + v2)).bind fun x8 =>
  (if (168 : Int32) < (x6 + x8) then
  (some ((2 : Int32), μ1))
  else
  (g_rd μ1 35 8 v1).bind fun x9 =>
  (g_rd μ1 34 8 v1).bind fun x10 =>
  (g_rd μ1 8 50 (((5 : Int32) * x10) + v2)).bind fun x11 =>
  (g_wr μ1 35 8 v1 (x9 + x11)).bind fun μ12 =>
  (g_wr μ12 34 8 v1 v2).bind fun μ13 =>
  (some ((0 : Int32), μ13))))))
def mm_give (F : Nat) (v1 : Int32) (v2 : Int32) (v3 : Int32) (μ : g_St) : Option (Int32 × g_St) :=
  (some (g_sI μ 0 0 (0 : Int32))).bind fun μ1 =>
  (mm_isPerson μ1 v1).bind fun x2 =>
  (if x2 = 0 then
  (some ((1 : Int32), μ1))
  else
  (mm_isPerson μ1 v2).bind fun x3 =>
  (if x3 = 0 then
  (some ((1 : Int32), μ1))
  else
  (if v1 = v2 then
  (some ((1 : Int32), μ1))
  else
  (if 0 ≤ v3 then
  (if (μ1.1 0 39) ≤ v3 then
  (some ((1 : Int32), μ1))
  else
  (g_rd μ1 34 8 v1).bind fun x4 =>
  (g_rd μ1 34 8 v2).bind fun x5 =>
  (if x4 = x5 then
  (g_rd μ1 32 40 v3).bind fun x6 =>
  (if x6 = v1 then
  (mm_isLawfulNow F v1 v2 v3 μ1).bind fun q7 =>
  (if q7.1 = 0 then
  (some ((6 : Int32), q7.2))
  else
  (g_wr q7.2 32 40 v3 v2).bind fun μ8 =>
  (g_rd μ8 35 8 v1).bind fun x9 =>
  (g_rd μ8 35 8 v2).bind fun x10 =>
  (g_wr μ8 35 8 v1 (g_max x9 x10)).bind fun μ11 =>
  (g_rd μ11 35 8 v1).bind fun x12 =>
  (g_wr μ11 35 8 v2 x12).bind fun μ13 =>
  (some ((0 : Int32), μ13)))
  else
  (some ((5 : Int32), μ1)))
  else
  (some ((4 : Int32), μ1))))
  else
  (some ((1 : Int32), μ1))))))
def mm_thing_27 (v1 : Int32) (v2 : Int32) (s0 : Int32) (μ : g_St) : Option (Int32 × g_St) :=
  (some (g_sI μ 0 0 s0)).bind fun μ2 =>
  (if (μ2.1 0 0) = (1 : Int32) then
  (some ((0 : Int32), μ2))
  else
  (if v2 = 0 then
  (g_rd μ2 29 40 v1).bind fun x3 =>
  (some (x3, μ2))
  else
  (if v2 = (1 : Int32) then
  (g_rd μ2 30 40 v1).bind fun x4 =>
  (some (x4, μ2))
  else
  (if v2 = (2 : Int32) then
  (g_rd μ2 31 40 v1).bind fun x5 =>
  (some (x5, μ2))
  else
  (if v2 = (3 : Int32) then
  (g_rd μ2 32 40 v1).bind fun x6 =>
  (some (x6, μ2))
  else
  (g_rd μ2 33 40 v1).bind fun x7 =>
  (some (x7, μ2)))))))
def mm_thing_26 (v1 : Int32) (v2 : Int32) (μ : g_St) : Option (Int32 × g_St) :=
  (mm_thing_27 v1 v2 (1 : Int32) μ)
def mm_thing (v1 : Int32) (v2 : Int32) (μ : g_St) : Option (Int32 × g_St) :=
  (if 0 ≤ v1 then
  (if v1 < (μ.1 0 39) then
  (mm_within μ v2 (0 : Int32) (4 : Int32)).bind fun x1 =>
  (if x1 = 0 then
  (mm_thing_26 v1 v2 μ)
  else
  (mm_thing_27 v1 v2 (0 : Int32) μ))
  else
  (mm_thing_26 v1 v2 μ))
  else
  (mm_thing_26 v1 v2 μ))
def mm_areGift (μ : g_St) (v1 : Int32) (v2 : Int32) (v3 : Int32) : Option Int32 :=
  (mm_isPerson μ v1).bind fun x1 =>
  (if x1 = 0 then
  (some (0 : Int32))
  else
  (mm_isPerson μ v2).bind fun x2 =>
  (if x2 = 0 then
  (some (0 : Int32))
  else
  (if v1 = v2 then
  (some (0 : Int32))
  else
  (if 0 ≤ v3 then
  (if v3 < (μ.1 0 39) then
  (g_rd μ 32 40 v3).bind fun x3 =>
  (if x3 = v1 then
  (some (1 : Int32))
  else
  (some (0 : Int32)))
  else
  (some (0 : Int32)))
  else
  (some (0 : Int32))))))
def mm_lawful (F : Nat) (v1 : Int32) (v2 : Int32) (v3 : Int32) (μ : g_St) : Option (Int32 × g_St) :=
  (some (g_sI μ 0 0 (0 : Int32))).bind fun μ1 =>
  (mm_areGift μ1 v1 v2 v3).bind fun x2 =>
  (if x2 = 0 then
  (some ((-1 : Int32), μ1))
  else
  (mm_isLawfulNow F v1 v2 v3 μ1).bind fun q3 =>
  (if q3.1 = 0 then
  (some ((0 : Int32), q3.2))
  else
  (some ((1 : Int32), q3.2))))
def mm_counts_23_b (F : Nat) (K_23 : Int32 → g_St → Option g_St) (v1 : Int32) (μ : g_St) : Option g_St :=
  (if v1 < (μ.1 0 39) then
  (g_rd μ 32 40 v1).bind fun x2 =>
  (if 0 ≤ x2 then
  (g_rd μ 32 40 v1).bind fun x3 =>
  (g_rd μ 29 40 v1).bind fun x4 =>
  (g_rd μ 37 48 (((6 : Int32) * x3) + x4)).bind fun x5 =>
  (g_wr μ 37 48 (((6 : Int32) * x3) + x4) (x5 + (1 : Int32))).bind fun μ6 =>
  (K_23 (v1 + 1) μ6)
  else
  (K_23 (v1 + 1) μ))
  else
  (some μ))
def mm_counts_23 (F : Nat) : Nat → Int32 → g_St → Option g_St
  | 0, _, _ => none
  | f + 1, v1, μ => mm_counts_23_b F (mm_counts_23 F f) v1 μ
def mm_counts_2_b (F : Nat) (K_2 : Int32 → g_St → Option g_St) (v1 : Int32) (μ : g_St) : Option g_St :=
  (if v1 < (48 : Int32) then
  (g_wr μ 37 48 v1 (0 : Int32)).bind fun μ1 =>
  (K_2 (v1 + 1) μ1)
  else
  (mm_counts_23 F F (0 : Int32) μ))
def mm_counts_2 (F : Nat) : Nat → Int32 → g_St → Option g_St
  | 0, _, _ => none
  | f + 1, v1, μ => mm_counts_2_b F (mm_counts_2 F f) v1 μ
def mm_counts (F : Nat) (μ : g_St) : Option g_St :=
  (mm_counts_2 F F (0 : Int32) μ)
def mm_more (μ : g_St) (v1 : Int32) (v2 : Int32) (v3 : Int32) : Option Int32 :=
  (if 0 ≤ v3 then
  (if v3 < (3 : Int32) then
  (g_rd μ 13 288 ((((18 : Int32) * v1) + ((3 : Int32) * v2)) + v3)).bind fun x1 =>
  (some x1)
  else
  (some (0 : Int32)))
  else
  (some (0 : Int32)))
def mm_happy_13_b (F : Nat) (μ : g_St) (v1 : Int32) (v3 : Int32) (K_4 : Int32 → Int32 → Option Int32) (K_13 : Int32 → Int32 → Option Int32) (v2 : Int32) (v4 : Int32) : Option Int32 :=
  (g_rd μ 37 48 (((6 : Int32) * v1) + v3)).bind fun x1 =>
  (if v4 < x1 then
  (mm_more μ v1 v3 v4).bind fun x2 =>
  (K_13 (v2 + x2) (v4 + 1))
  else
  (K_4 v2 (v3 + 1)))
def mm_happy_13 (F : Nat) (μ : g_St) (v1 : Int32) (v3 : Int32) (K_4 : Int32 → Int32 → Option Int32) : Nat → Int32 → Int32 → Option Int32
  | 0, _, _ => none
  | f + 1, v2, v4 => mm_happy_13_b F μ v1 v3 K_4 (mm_happy_13 F μ v1 v3 K_4 f) v2 v4 
def mm_happy_4_b (F : Nat) (μ : g_St) (v1 : Int32) (K_4 : Int32 → Int32 → Option Int32) (v2 : Int32) (v3 : Int32) : Option Int32 :=
  (if v3 < (6 : Int32) then
  (mm_happy_13 F μ v1 v3 K_4 F v2 (0 : Int32))
  else
  (some v2))
def mm_happy_4 (F : Nat) (μ : g_St) (v1 : Int32) : Nat → Int32 → Int32 → Option Int32
  | 0, _, _ => none
  | f + 1, v2, v3 => mm_happy_4_b F μ v1 (mm_happy_4 F μ v1 f) v2 v3 
def mm_happy (F : Nat) (μ : g_St) (v1 : Int32) : Option Int32 :=
  (mm_happy_4 F μ v1 F (0 : Int32) (0 : Int32))
def mm_heldBy_4_b (F : Nat) (μ : g_St) (v1 : Int32) (K_4 : Int32 → Int32 → Option Int32) (v2 : Int32) (v3 : Int32) : Option Int32 :=
  (if v3 < (6 : Int32) then
  (g_rd μ 37 48 (((6 : Int32) * v1) + v3)).bind fun x1 =>
  (K_4 (v2 + x1) (v3 + 1))
  else
  (some v2))
def mm_heldBy_4 (F : Nat) (μ : g_St) (v1 : Int32) : Nat → Int32 → Int32 → Option Int32
  | 0, _, _ => none
  | f + 1, v2, v3 => mm_heldBy_4_b F μ v1 (mm_heldBy_4 F μ v1 f) v2 v3 
def mm_heldBy (F : Nat) (μ : g_St) (v1 : Int32) : Option Int32 :=
  (mm_heldBy_4 F μ v1 F (0 : Int32) (0 : Int32))
def mm_person (F : Nat) (v1 : Int32) (v2 : Int32) (μ : g_St) : Option (Int32 × g_St) :=
  (some (g_sI μ 0 0 (0 : Int32))).bind fun μ1 =>
  (mm_isPerson μ1 v1).bind fun x2 =>
  (if x2 = 0 then
  (some ((-1 : Int32), μ1))
  else
  (mm_within μ1 v2 (0 : Int32) (5 : Int32)).bind fun x3 =>
  (if x3 = 0 then
  (some ((-1 : Int32), μ1))
  else
  (mm_counts F μ1).bind fun μ4 =>
  (if v2 = 0 then
  (g_rd μ4 11 16 v1).bind fun x5 =>
  (some (x5, μ4))
  else
  (if v2 = (1 : Int32) then
  (g_rd μ4 34 8 v1).bind fun x6 =>
  (some (x6, μ4))
  else
  (if v2 = (2 : Int32) then
  (g_rd μ4 35 8 v1).bind fun x7 =>
  (some (x7, μ4))
  else
  (if v2 = (3 : Int32) then
  (mm_happy F μ4 v1).bind fun x8 =>
  (some (x8, μ4))
  else
  (if v2 = (4 : Int32) then
  (mm_heldBy F μ4 v1).bind fun x9 =>
  (some (x9, μ4))
  else
  (g_rd μ4 12 16 v1).bind fun x10 =>
  (some (x10, μ4)))))))))
def mm_gains (μ : g_St) (v1 : Int32) (v2 : Int32) (v3 : Int32) : Option Int32 :=
  (if v2 = v3 then
  (some (0 : Int32))
  else
  (g_rd μ 37 48 (((6 : Int32) * v1) + v2)).bind fun x1 =>
  (mm_more μ v1 v2 x1).bind fun x2 =>
  (g_rd μ 37 48 (((6 : Int32) * v1) + v3)).bind fun x3 =>
  (mm_more μ v1 v3 (x3 - (1 : Int32))).bind fun x4 =>
  (some (x2 - x4)))
def mm_laysOut_103 (F : Nat) (K_28 : Int32 → g_St → Option g_St) (K_46 : Int32 → g_St → Option g_St) (v1 : Int32) (v2 : Int32) (v3 : Int32) (v4 : Int32) (s0 : Int32) (s1 : Int32) (s2 : Int32) (s3 : Int32) (s4 : Int32) (s5 : Int32) (μ : g_St) : Option g_St :=
  (mm_isLawful F s5 s4 s3 s2 s1 s0 μ).bind fun q8 =>
  (if q8.1 = 0 then
  (K_46 (v4 + 1) q8.2)
  else
  (g_rd q8.2 29 40 v2).bind fun x9 =>
  (g_wr q8.2 38 384 ((((48 : Int32) * v3) + ((6 : Int32) * v4)) + x9) (g_nz (1 : Int32))).bind fun μ10 =>
  (K_46 (v4 + 1) μ10))
def mm_laysOut_46_b (F : Nat) (v1 : Int32) (v2 : Int32) (v3 : Int32) (K_28 : Int32 → g_St → Option g_St) (K_46 : Int32 → g_St → Option g_St) (v4 : Int32) (μ : g_St) : Option g_St :=
  (g_rd μ 4 2 (0 : Int32)).bind fun x4 =>
  (if v4 < x4 then
  (if 0 ≤ v3 then
  (if v4 = v3 then
  (K_46 (v4 + 1) μ)
  else
  (g_rd μ 29 40 v2).bind fun x5 =>
  (g_rd μ 30 40 v2).bind fun x6 =>
  (g_rd μ 31 40 v2).bind fun x7 =>
  (if ((v1 >>> (v3 &&& 31)) &&& (1 : Int32)) = (1 : Int32) then
  (mm_laysOut_103 F K_28 K_46 v1 v2 v3 v4 (1 : Int32) x7 x6 x5 v4 v3 μ)
  else
  (mm_laysOut_103 F K_28 K_46 v1 v2 v3 v4 (0 : Int32) x7 x6 x5 v4 v3 μ)))
  else
  (K_28 (v2 + 1) μ))
  else
  (K_28 (v2 + 1) μ))
def mm_laysOut_46 (F : Nat) (v1 : Int32) (v2 : Int32) (v3 : Int32) (K_28 : Int32 → g_St → Option g_St) : Nat → Int32 → g_St → Option g_St
  | 0, _, _ => none
  | f + 1, v4, μ => mm_laysOut_46_b F v1 v2 v3 K_28 (mm_laysOut_46 F v1 v2 v3 K_28 f) v4 μ
def mm_laysOut_28_b (F : Nat) (v1 : Int32) (K_28 : Int32 → g_St → Option g_St) (v2 : Int32) (μ : g_St) : Option g_St :=
  (if v2 < (μ.1 0 39) then
  (g_rd μ 32 40 v2).bind fun x3 =>
  (mm_laysOut_46 F v1 v2 x3 K_28 F (0 : Int32) μ)
  else
  (some μ))
def mm_laysOut_28 (F : Nat) (v1 : Int32) : Nat → Int32 → g_St → Option g_St
  | 0, _, _ => none
  | f + 1, v2, μ => mm_laysOut_28_b F v1 (mm_laysOut_28 F v1 f) v2 μ
def mm_laysOut_6_b (F : Nat) (v1 : Int32) (K_6 : Int32 → g_St → Option g_St) (v2 : Int32) (μ : g_St) : Option g_St :=
  (if v2 < (384 : Int32) then
  (g_wr μ 38 384 v2 (g_nz (0 : Int32))).bind fun μ2 =>
  (K_6 (v2 + 1) μ2)
  else
  (mm_laysOut_28 F v1 F (0 : Int32) μ))
def mm_laysOut_6 (F : Nat) (v1 : Int32) : Nat → Int32 → g_St → Option g_St
  | 0, _, _ => none
  | f + 1, v2, μ => mm_laysOut_6_b F v1 (mm_laysOut_6 F v1 f) v2 μ
def mm_laysOut (F : Nat) (v1 : Int32) (μ : g_St) : Option g_St :=
  (mm_counts F μ).bind fun μ1 =>
  (mm_laysOut_6 F v1 F (0 : Int32) μ1)
def mm_closes_58_b (F : Nat) (v1 : Int32) (v2 : Int32) (v3 : Int32) (v4 : Int32) (v5 : Int32) (v6 : Int32) (v7 : Int32) (K_18 : Int32 → g_St → Option g_St) (K_28 : Int32 → g_St → Option g_St) (K_58 : Int32 → g_St → Option g_St) (v8 : Int32) (μ : g_St) : Option g_St :=
  (if v8 < (6 : Int32) then
  (if 0 ≤ v7 then
  (g_rd μ 38 384 ((((48 : Int32) * v4) + ((6 : Int32) * v3)) + v8)).bind fun x4 =>
  (if x4 = 0 then
  (K_58 (v8 + 1) μ)
  else
  (mm_gains μ v4 v6 v8).bind fun x5 =>
  (mm_gains μ v3 v8 v5).bind fun x6 =>
  (if 0 < x5 then
  (if 0 < x6 then
  (g_rd μ 39 256 v2).bind fun x7 =>
  (g_wr μ 39 256 v2 (g_max x7 ((v7 + x5) + x6))).bind fun μ8 =>
  (K_58 (v8 + 1) μ8)
  else
  (K_58 (v8 + 1) μ))
  else
  (K_58 (v8 + 1) μ)))
  else
  (K_28 (v6 + 1) μ))
  else
  (K_28 (v6 + 1) μ))
def mm_closes_58 (F : Nat) (v1 : Int32) (v2 : Int32) (v3 : Int32) (v4 : Int32) (v5 : Int32) (v6 : Int32) (v7 : Int32) (K_18 : Int32 → g_St → Option g_St) (K_28 : Int32 → g_St → Option g_St) : Nat → Int32 → g_St → Option g_St
  | 0, _, _ => none
  | f + 1, v8, μ => mm_closes_58_b F v1 v2 v3 v4 v5 v6 v7 K_18 K_28 (mm_closes_58 F v1 v2 v3 v4 v5 v6 v7 K_18 K_28 f) v8 μ
def mm_closes_28_b (F : Nat) (v1 : Int32) (v2 : Int32) (v3 : Int32) (v4 : Int32) (v5 : Int32) (K_18 : Int32 → g_St → Option g_St) (K_28 : Int32 → g_St → Option g_St) (v6 : Int32) (μ : g_St) : Option g_St :=
  (if v6 < (6 : Int32) then
  (g_rd μ 41 216 ((((36 : Int32) * v1) + ((6 : Int32) * v5)) + v6)).bind fun x3 =>
  (mm_closes_58 F v1 v2 v3 v4 v5 v6 x3 K_18 K_28 F (0 : Int32) μ)
  else
  (K_18 (v5 + 1) μ))
def mm_closes_28 (F : Nat) (v1 : Int32) (v2 : Int32) (v3 : Int32) (v4 : Int32) (v5 : Int32) (K_18 : Int32 → g_St → Option g_St) : Nat → Int32 → g_St → Option g_St
  | 0, _, _ => none
  | f + 1, v6, μ => mm_closes_28_b F v1 v2 v3 v4 v5 K_18 (mm_closes_28 F v1 v2 v3 v4 v5 K_18 f) v6 μ
def mm_closes_18_b (F : Nat) (v1 : Int32) (v2 : Int32) (v3 : Int32) (v4 : Int32) (K_18 : Int32 → g_St → Option g_St) (v5 : Int32) (μ : g_St) : Option g_St :=
  (if v5 < (6 : Int32) then
  (mm_closes_28 F v1 v2 v3 v4 v5 K_18 F (0 : Int32) μ)
  else
  (some μ))
def mm_closes_18 (F : Nat) (v1 : Int32) (v2 : Int32) (v3 : Int32) (v4 : Int32) : Nat → Int32 → g_St → Option g_St
  | 0, _, _ => none
  | f + 1, v5, μ => mm_closes_18_b F v1 v2 v3 v4 (mm_closes_18 F v1 v2 v3 v4 f) v5 μ
def mm_closes (F : Nat) (v1 : Int32) (v2 : Int32) (μ : g_St) : Option g_St :=
  (g_rd μ 40 5 (0 : Int32)).bind fun x1 =>
  (g_rd μ 40 5 v1).bind fun x2 =>
  (mm_closes_18 F v1 v2 x1 x2 F (0 : Int32) μ)
def mm_lengthens_126 (F : Nat) (K_41 : Int32 → g_St → Option g_St) (K_51 : Int32 → g_St → Option g_St) (K_81 : Int32 → g_St → Option g_St) (v1 : Int32) (v2 : Int32) (v3 : Int32) (v4 : Int32) (v5 : Int32) (v6 : Int32) (v7 : Int32) (s0 : Int32) (μ : g_St) : Option g_St :=
  (some ((((36 : Int32) * (v1 + (1 : Int32))) + ((6 : Int32) * v4)) + v7)).bind fun x6 =>
  (if 0 < s0 then
  (g_rd μ 41 216 x6).bind fun x7 =>
  (g_wr μ 41 216 x6 (g_max x7 (v6 + s0))).bind fun μ8 =>
  (K_81 (v7 + 1) μ8)
  else
  (K_81 (v7 + 1) μ))
def mm_lengthens_81_b (F : Nat) (v1 : Int32) (v2 : Int32) (v3 : Int32) (v4 : Int32) (v5 : Int32) (v6 : Int32) (K_41 : Int32 → g_St → Option g_St) (K_51 : Int32 → g_St → Option g_St) (K_81 : Int32 → g_St → Option g_St) (v7 : Int32) (μ : g_St) : Option g_St :=
  (if v7 < (6 : Int32) then
  (if 0 ≤ v6 then
  (g_rd μ 38 384 ((((48 : Int32) * v3) + ((6 : Int32) * v2)) + v7)).bind fun x4 =>
  (if x4 = 0 then
  (mm_lengthens_126 F K_41 K_51 K_81 v1 v2 v3 v4 v5 v6 v7 (0 : Int32) μ)
  else
  (mm_gains μ v3 v5 v7).bind fun x5 =>
  (mm_lengthens_126 F K_41 K_51 K_81 v1 v2 v3 v4 v5 v6 v7 x5 μ))
  else
  (K_51 (v5 + 1) μ))
  else
  (K_51 (v5 + 1) μ))
def mm_lengthens_81 (F : Nat) (v1 : Int32) (v2 : Int32) (v3 : Int32) (v4 : Int32) (v5 : Int32) (v6 : Int32) (K_41 : Int32 → g_St → Option g_St) (K_51 : Int32 → g_St → Option g_St) : Nat → Int32 → g_St → Option g_St
  | 0, _, _ => none
  | f + 1, v7, μ => mm_lengthens_81_b F v1 v2 v3 v4 v5 v6 K_41 K_51 (mm_lengthens_81 F v1 v2 v3 v4 v5 v6 K_41 K_51 f) v7 μ
def mm_lengthens_51_b (F : Nat) (v1 : Int32) (v2 : Int32) (v3 : Int32) (v4 : Int32) (K_41 : Int32 → g_St → Option g_St) (K_51 : Int32 → g_St → Option g_St) (v5 : Int32) (μ : g_St) : Option g_St :=
  (if v5 < (6 : Int32) then
  (g_rd μ 41 216 ((((36 : Int32) * v1) + ((6 : Int32) * v4)) + v5)).bind fun x3 =>
  (mm_lengthens_81 F v1 v2 v3 v4 v5 x3 K_41 K_51 F (0 : Int32) μ)
  else
  (K_41 (v4 + 1) μ))
def mm_lengthens_51 (F : Nat) (v1 : Int32) (v2 : Int32) (v3 : Int32) (v4 : Int32) (K_41 : Int32 → g_St → Option g_St) : Nat → Int32 → g_St → Option g_St
  | 0, _, _ => none
  | f + 1, v5, μ => mm_lengthens_51_b F v1 v2 v3 v4 K_41 (mm_lengthens_51 F v1 v2 v3 v4 K_41 f) v5 μ
def mm_lengthens_41_b (F : Nat) (v1 : Int32) (v2 : Int32) (v3 : Int32) (K_41 : Int32 → g_St → Option g_St) (v4 : Int32) (μ : g_St) : Option g_St :=
  (if v4 < (6 : Int32) then
  (mm_lengthens_51 F v1 v2 v3 v4 K_41 F (0 : Int32) μ)
  else
  (some μ))
def mm_lengthens_41 (F : Nat) (v1 : Int32) (v2 : Int32) (v3 : Int32) : Nat → Int32 → g_St → Option g_St
  | 0, _, _ => none
  | f + 1, v4, μ => mm_lengthens_41_b F v1 v2 v3 (mm_lengthens_41 F v1 v2 v3 f) v4 μ
def mm_lengthens_10_b (F : Nat) (v1 : Int32) (v2 : Int32) (v3 : Int32) (K_10 : Int32 → g_St → Option g_St) (v4 : Int32) (μ : g_St) : Option g_St :=
  (if v4 < (36 : Int32) then
  (g_wr μ 41 216 (((36 : Int32) * (v1 + (1 : Int32))) + v4) (-1 : Int32)).bind fun μ2 =>
  (K_10 (v4 + 1) μ2)
  else
  (mm_lengthens_41 F v1 v2 v3 F (0 : Int32) μ))
def mm_lengthens_10 (F : Nat) (v1 : Int32) (v2 : Int32) (v3 : Int32) : Nat → Int32 → g_St → Option g_St
  | 0, _, _ => none
  | f + 1, v4, μ => mm_lengthens_10_b F v1 v2 v3 (mm_lengthens_10 F v1 v2 v3 f) v4 μ
def mm_lengthens (F : Nat) (v1 : Int32) (v2 : Int32) (μ : g_St) : Option g_St :=
  (g_rd μ 40 5 v1).bind fun x1 =>
  (mm_lengthens_10 F v1 v2 x1 F (0 : Int32) μ)
def mm_isAlive_5_b (F : Nat) (μ : g_St) (v1 : Int32) (K_5 : Int32 → Option Int32) (v2 : Int32) : Option Int32 :=
  (if v2 < (((36 : Int32) * v1) + (36 : Int32)) then
  (g_rd μ 41 216 v2).bind fun x1 =>
  (if 0 ≤ x1 then
  (some (1 : Int32))
  else
  (K_5 (v2 + 1)))
  else
  (some (0 : Int32)))
def mm_isAlive_5 (F : Nat) (μ : g_St) (v1 : Int32) : Nat → Int32 → Option Int32
  | 0, _ => none
  | f + 1, v2 => mm_isAlive_5_b F μ v1 (mm_isAlive_5 F μ v1 f) v2 
def mm_isAlive (F : Nat) (μ : g_St) (v1 : Int32) : Option Int32 :=
  (mm_isAlive_5 F μ v1 F ((36 : Int32) * v1))
def mm_goesOn_139 (F : Nat) (rec : Int32 → Int32 → g_St → Option g_St) (K_19 : Int32 → g_St → Option g_St) (v1 : Int32) (v2 : Int32) (v3 : Int32) (μ : g_St) : Option g_St :=
  (mm_isAlive F μ (v1 + (1 : Int32))).bind fun x8 =>
  (if x8 = 0 then
  (K_19 (v3 + 1) μ)
  else
  (g_wr μ 40 5 (v1 + (1 : Int32)) v3).bind fun μ9 =>
  (rec (v1 + (1 : Int32)) (v2 ||| ((1 : Int32) <<< (v3 &&& 31))) μ9).bind fun μ10 =>
  (K_19 (v3 + 1) μ10))
def mm_goesOn_78_b (F : Nat) (rec : Int32 → Int32 → g_St → Option g_St) (v1 : Int32) (v2 : Int32) (v3 : Int32) (K_19 : Int32 → g_St → Option g_St) (K_78 : Int32 → g_St → Option g_St) (v4 : Int32) (μ : g_St) : Option g_St :=
  (if v4 < (6 : Int32) then
  (g_rd μ 40 5 (0 : Int32)).bind fun x5 =>
  (g_rd μ 38 384 ((((48 : Int32) * x5) + ((6 : Int32) * v3)) + v4)).bind fun x6 =>
  (if x6 = 0 then
  (K_78 (v4 + 1) μ)
  else
  (g_wr μ 41 216 ((36 : Int32) + ((7 : Int32) * v4)) (0 : Int32)).bind fun μ7 =>
  (K_78 (v4 + 1) μ7))
  else
  (mm_goesOn_139 F rec K_19 v1 v2 v3 μ))
def mm_goesOn_78 (F : Nat) (rec : Int32 → Int32 → g_St → Option g_St) (v1 : Int32) (v2 : Int32) (v3 : Int32) (K_19 : Int32 → g_St → Option g_St) : Nat → Int32 → g_St → Option g_St
  | 0, _, _ => none
  | f + 1, v4, μ => mm_goesOn_78_b F rec v1 v2 v3 K_19 (mm_goesOn_78 F rec v1 v2 v3 K_19 f) v4 μ
def mm_goesOn_54_b (F : Nat) (rec : Int32 → Int32 → g_St → Option g_St) (v1 : Int32) (v2 : Int32) (v3 : Int32) (K_19 : Int32 → g_St → Option g_St) (K_54 : Int32 → g_St → Option g_St) (v4 : Int32) (μ : g_St) : Option g_St :=
  (if v4 < (72 : Int32) then
  (g_wr μ 41 216 v4 (-1 : Int32)).bind fun μ4 =>
  (K_54 (v4 + 1) μ4)
  else
  (mm_goesOn_78 F rec v1 v2 v3 K_19 F (0 : Int32) μ))
def mm_goesOn_54 (F : Nat) (rec : Int32 → Int32 → g_St → Option g_St) (v1 : Int32) (v2 : Int32) (v3 : Int32) (K_19 : Int32 → g_St → Option g_St) : Nat → Int32 → g_St → Option g_St
  | 0, _, _ => none
  | f + 1, v4, μ => mm_goesOn_54_b F rec v1 v2 v3 K_19 (mm_goesOn_54 F rec v1 v2 v3 K_19 f) v4 μ
def mm_goesOn_19_b (F : Nat) (rec : Int32 → Int32 → g_St → Option g_St) (v1 : Int32) (v2 : Int32) (K_19 : Int32 → g_St → Option g_St) (v3 : Int32) (μ : g_St) : Option g_St :=
  (g_rd μ 4 2 (0 : Int32)).bind fun x3 =>
  (if v3 < x3 then
  (if v1 < (4 : Int32) then
  (if ((v2 >>> (v3 &&& 31)) &&& (1 : Int32)) = (1 : Int32) then
  (K_19 (v3 + 1) μ)
  else
  (if v1 = 0 then
  (mm_goesOn_54 F rec v1 v2 v3 K_19 F (36 : Int32) μ)
  else
  (mm_lengthens F v1 v3 μ).bind fun μ11 =>
  (mm_goesOn_139 F rec K_19 v1 v2 v3 μ11)))
  else
  (some μ))
  else
  (some μ))
def mm_goesOn_19 (F : Nat) (rec : Int32 → Int32 → g_St → Option g_St) (v1 : Int32) (v2 : Int32) : Nat → Int32 → g_St → Option g_St
  | 0, _, _ => none
  | f + 1, v3, μ => mm_goesOn_19_b F rec v1 v2 (mm_goesOn_19 F rec v1 v2 f) v3 μ
def mm_goesOn_b (F : Nat) (rec : Int32 → Int32 → g_St → Option g_St) (v1 : Int32) (v2 : Int32) (μ : g_St) : Option g_St :=
  (if 0 < v1 then
  (mm_closes F v1 v2 μ).bind fun μ1 =>
  (g_rd μ1 40 5 (0 : Int32)).bind fun x2 =>
  (mm_goesOn_19 F rec v1 v2 F (x2 + (1 : Int32)) μ1)
  else
  (g_rd μ 40 5 (0 : Int32)).bind fun x12 =>
  (mm_goesOn_19 F rec v1 v2 F (x12 + (1 : Int32)) μ))
def mm_goesOn (F : Nat) : Nat → Int32 → Int32 → g_St → Option g_St
  | 0, _, _, _ => none
  | D + 1, v1, v2, μ => mm_goesOn_b F (mm_goesOn F D) v1 v2 μ
def mm_rings_24_b (F : Nat) (K_24 : Int32 → g_St → Option g_St) (v1 : Int32) (μ : g_St) : Option g_St :=
  (g_rd μ 4 2 (0 : Int32)).bind fun x2 =>
  (if v1 < x2 then
  (g_wr μ 40 5 (0 : Int32) v1).bind fun μ3 =>
  (mm_goesOn F 9 (0 : Int32) ((1 : Int32) <<< (v1 &&& 31)) μ3).bind fun μ4 =>
  (K_24 (v1 + 1) μ4)
  else
  (some μ))
def mm_rings_24 (F : Nat) : Nat → Int32 → g_St → Option g_St
  | 0, _, _ => none
  | f + 1, v1, μ => mm_rings_24_b F (mm_rings_24 F f) v1 μ
def mm_rings_2_b (F : Nat) (K_2 : Int32 → g_St → Option g_St) (v1 : Int32) (μ : g_St) : Option g_St :=
  (if v1 < (256 : Int32) then
  (g_wr μ 39 256 v1 (-1 : Int32)).bind fun μ1 =>
  (K_2 (v1 + 1) μ1)
  else
  (mm_rings_24 F F (0 : Int32) μ))
def mm_rings_2 (F : Nat) : Nat → Int32 → g_St → Option g_St
  | 0, _, _ => none
  | f + 1, v1, μ => mm_rings_2_b F (mm_rings_2 F f) v1 μ
def mm_rings (F : Nat) (μ : g_St) : Option g_St :=
  (mm_rings_2 F F (0 : Int32) μ)
def mm_round (F : Nat) (v1 : Int32) (μ : g_St) : Option (Int32 × g_St) :=
  (some (g_sI μ 0 0 (0 : Int32))).bind fun μ1 =>
  (mm_areThem μ1 v1).bind fun x2 =>
  (if x2 = 0 then
  (some ((-1 : Int32), μ1))
  else
  (mm_laysOut F (0 : Int32) μ1).bind fun μ3 =>
  (mm_rings F μ3).bind fun μ4 =>
  (g_rd μ4 39 256 v1).bind fun x5 =>
  (some (x5, μ4)))
def mm_isBetter (μ : g_St) (v1 : Int32) (v2 : Int32) (v3 : Int32) (v4 : Int32) : Option Int32 :=
  (g_rd μ 42 256 v1).bind fun x1 =>
  (if v2 = x1 then
  (g_rd μ 43 256 v1).bind fun x3 =>
  (if x3 ≤ v3 then
  (g_rd μ 43 256 v1).bind fun x4 =>
  (if v3 = x4 then
  (g_rd μ 44 256 v1).bind fun x5 =>
  (if v4 < x5 then
  (some (1 : Int32))
  else
  (some (0 : Int32)))
  else
  (some (0 : Int32)))
  else
  (some (1 : Int32)))
  else
  (g_rd μ 42 256 v1).bind fun x2 =>
  (if x2 < v2 then
  (some (1 : Int32))
  else
  (some (0 : Int32))))
def mm_mosts_91_b (F : Nat) (v1 : Int32) (v2 : Int32) (K_2 : Int32 → g_St → Option g_St) (K_91 : Int32 → g_St → Option g_St) (v3 : Int32) (μ : g_St) : Option g_St :=
  (if 0 < v3 then
  (if (v3 &&& v2) = 0 then
  (K_91 ((v3 - (1 : Int32)) &&& v1) μ)
  else
  (g_rd μ 39 256 v3).bind fun x11 =>
  (if x11 < 0 then
  (K_91 ((v3 - (1 : Int32)) &&& v1) μ)
  else
  (g_rd μ 42 256 (v1 &&& (v3 ^^^ (-1 : Int32)))).bind fun x12 =>
  (g_rd μ 39 256 v3).bind fun x13 =>
  (g_rd μ 43 256 (v1 &&& (v3 ^^^ (-1 : Int32)))).bind fun x14 =>
  (g_rd μ 44 256 (v1 &&& (v3 ^^^ (-1 : Int32)))).bind fun x15 =>
  (mm_bits F μ v3).bind fun x16 =>
  (mm_isBetter μ v1 (x12 + x13) (x14 + (1 : Int32)) (x15 + x16)).bind fun x17 =>
  (if x17 = 0 then
  (K_91 ((v3 - (1 : Int32)) &&& v1) μ)
  else
  (g_wr μ 42 256 v1 (x12 + x13)).bind fun μ18 =>
  (g_wr μ18 43 256 v1 (x14 + (1 : Int32))).bind fun μ19 =>
  (g_wr μ19 44 256 v1 (x15 + x16)).bind fun μ20 =>
  (K_91 ((v3 - (1 : Int32)) &&& v1) μ20))))
  else
  (K_2 (v1 + 1) μ))
def mm_mosts_91 (F : Nat) (v1 : Int32) (v2 : Int32) (K_2 : Int32 → g_St → Option g_St) : Nat → Int32 → g_St → Option g_St
  | 0, _, _ => none
  | f + 1, v3, μ => mm_mosts_91_b F v1 v2 K_2 (mm_mosts_91 F v1 v2 K_2 f) v3 μ
def mm_mosts_2_b (F : Nat) (K_2 : Int32 → g_St → Option g_St) (v1 : Int32) (μ : g_St) : Option g_St :=
  (g_rd μ 4 2 (0 : Int32)).bind fun x1 =>
  (if v1 < ((1 : Int32) <<< (x1 &&& 31)) then
  (g_wr μ 42 256 v1 (0 : Int32)).bind fun μ2 =>
  (g_wr μ2 43 256 v1 (0 : Int32)).bind fun μ3 =>
  (g_wr μ3 44 256 v1 (0 : Int32)).bind fun μ4 =>
  (if v1 = 0 then
  (K_2 (v1 + 1) μ4)
  else
  (g_rd μ4 42 256 (v1 - (v1 &&& (-v1)))).bind fun x5 =>
  (g_wr μ4 42 256 v1 x5).bind fun μ6 =>
  (g_rd μ6 43 256 (v1 - (v1 &&& (-v1)))).bind fun x7 =>
  (g_wr μ6 43 256 v1 x7).bind fun μ8 =>
  (g_rd μ8 44 256 (v1 - (v1 &&& (-v1)))).bind fun x9 =>
  (g_wr μ8 44 256 v1 x9).bind fun μ10 =>
  (mm_mosts_91 F v1 (v1 &&& (-v1)) K_2 F v1 μ10))
  else
  (some μ))
def mm_mosts_2 (F : Nat) : Nat → Int32 → g_St → Option g_St
  | 0, _, _ => none
  | f + 1, v1, μ => mm_mosts_2_b F (mm_mosts_2 F f) v1 μ
def mm_mosts (F : Nat) (μ : g_St) : Option g_St :=
  (mm_mosts_2 F F (0 : Int32) μ)
def mm_works (F : Nat) (v1 : Int32) (μ : g_St) : Option g_St :=
  (mm_laysOut F v1 μ).bind fun μ1 =>
  (mm_rings F μ1).bind fun μ2 =>
  (mm_mosts F μ2).bind fun μ3 =>
  (some μ3)
def mm_most (F : Nat) (v1 : Int32) (v2 : Int32) (μ : g_St) : Option (Int32 × g_St) :=
  (some (g_sI μ 0 0 (0 : Int32))).bind fun μ1 =>
  (mm_areThem μ1 v1).bind fun x2 =>
  (if x2 = 0 then
  (some ((-1 : Int32), μ1))
  else
  (mm_within μ1 v2 (0 : Int32) (2 : Int32)).bind fun x3 =>
  (if x3 = 0 then
  (some ((-1 : Int32), μ1))
  else
  (mm_works F (0 : Int32) μ1).bind fun μ4 =>
  (if v2 = 0 then
  (g_rd μ4 42 256 v1).bind fun x5 =>
  (some (x5, μ4))
  else
  (if v2 = (1 : Int32) then
  (g_rd μ4 43 256 v1).bind fun x6 =>
  (some (x6, μ4))
  else
  (g_rd μ4 44 256 v1).bind fun x7 =>
  (some (x7, μ4))))))
def mm_at_53 (F : Nat) (K_22 : Int32 → Int32 → Int32 → g_St → Option (Int32 × g_St)) (v1 : Int32) (v3 : Int32) (v4 : Int32) (s0 : Int32) (s1 : Int32) (μ : g_St) : Option (Int32 × g_St) :=
  (g_rd μ 34 8 v4).bind fun x5 =>
  (if x5 = v1 then
  (some (v3 ||| ((1 : Int32) <<< (v4 &&& 31)))).bind fun x6 =>
  (K_22 (s1 ||| s0) x6 (v4 + 1) μ)
  else
  (K_22 (s1 ||| s0) (v3 ||| (0 : Int32)) (v4 + 1) μ))
def mm_at_22_b (F : Nat) (v1 : Int32) (K_22 : Int32 → Int32 → Int32 → g_St → Option (Int32 × g_St)) (v2 : Int32) (v3 : Int32) (v4 : Int32) (μ : g_St) : Option (Int32 × g_St) :=
  (g_rd μ 4 2 (0 : Int32)).bind fun x3 =>
  (if v4 < x3 then
  (g_rd μ 11 16 v4).bind fun x4 =>
  (if x4 = v1 then
  (mm_at_53 F K_22 v1 v3 v4 ((1 : Int32) <<< (v4 &&& 31)) v2 μ)
  else
  (mm_at_53 F K_22 v1 v3 v4 (0 : Int32) v2 μ))
  else
  (mm_works F v2 μ).bind fun μ7 =>
  (g_rd μ7 42 256 v3).bind fun x8 =>
  (some (x8, μ7)))
def mm_at_22 (F : Nat) (v1 : Int32) : Nat → Int32 → Int32 → Int32 → g_St → Option (Int32 × g_St)
  | 0, _, _, _, _ => none
  | f + 1, v2, v3, v4, μ => mm_at_22_b F v1 (mm_at_22 F v1 f) v2 v3 v4 μ
def mm_at (F : Nat) (v1 : Int32) (μ : g_St) : Option (Int32 × g_St) :=
  (some (g_sI μ 0 0 (0 : Int32))).bind fun μ1 =>
  (mm_isPlace μ1 v1).bind fun x2 =>
  (if x2 = 0 then
  (some ((-1 : Int32), μ1))
  else
  (mm_at_22 F v1 F (0 : Int32) (0 : Int32) (0 : Int32) μ1))
def mm_length_53 (F : Nat) (K_28 : Int32 → Int32 → g_St → Option (Int32 × g_St)) (v1 : Int32) (v3 : Int32) (μ : g_St) : Option (Int32 × g_St) :=
  (mm_bits F μ v3).bind fun x7 =>
  (K_28 x7 ((v3 - (1 : Int32)) &&& v1) μ)
def mm_length_28_b (F : Nat) (v1 : Int32) (K_28 : Int32 → Int32 → g_St → Option (Int32 × g_St)) (v2 : Int32) (v3 : Int32) (μ : g_St) : Option (Int32 × g_St) :=
  (if 0 < v3 then
  (g_rd μ 39 256 v3).bind fun x5 =>
  (if 0 ≤ x5 then
  (if 0 ≤ v2 then
  (mm_bits F μ v3).bind fun x6 =>
  (if x6 < v2 then
  (mm_length_53 F K_28 v1 v3 μ)
  else
  (K_28 v2 ((v3 - (1 : Int32)) &&& v1) μ))
  else
  (mm_length_53 F K_28 v1 v3 μ))
  else
  (K_28 v2 ((v3 - (1 : Int32)) &&& v1) μ))
  else
  (some (v2, μ)))
def mm_length_28 (F : Nat) (v1 : Int32) : Nat → Int32 → Int32 → g_St → Option (Int32 × g_St)
  | 0, _, _, _ => none
  | f + 1, v2, v3, μ => mm_length_28_b F v1 (mm_length_28 F v1 f) v2 v3 μ
def mm_length (F : Nat) (v1 : Int32) (μ : g_St) : Option (Int32 × g_St) :=
  (some (g_sI μ 0 0 (0 : Int32))).bind fun μ1 =>
  (mm_areThem μ1 v1).bind fun x2 =>
  (if x2 = 0 then
  (some ((-1 : Int32), μ1))
  else
  (mm_laysOut F (0 : Int32) μ1).bind fun μ3 =>
  (mm_rings F μ3).bind fun μ4 =>
  (mm_length_28 F v1 F (-1 : Int32) v1 μ4))
def mm_livesOut_143 (F : Nat) (K_7 : Int32 → g_St → Option (Int32 × g_St)) (K_15 : Int32 → g_St → Option (Int32 × g_St)) (v1 : Int32) (v2 : Int32) (v3 : Int32) (v4 : Int32) (μ : g_St) : Option (Int32 × g_St) :=
  (g_wr μ 45 1536 (((256 : Int32) * v2) + v3) v4).bind fun μ7 =>
  (K_15 (v3 + 1) μ7)
def mm_livesOut_47_b (F : Nat) (v1 : Int32) (v2 : Int32) (v3 : Int32) (v5 : Int32) (K_7 : Int32 → g_St → Option (Int32 × g_St)) (K_15 : Int32 → g_St → Option (Int32 × g_St)) (K_47 : Int32 → Int32 → g_St → Option (Int32 × g_St)) (v4 : Int32) (v6 : Int32) (μ : g_St) : Option (Int32 × g_St) :=
  (if 0 < v6 then
  (if 0 < v2 then
  (if (v6 &&& v5) = 0 then
  (K_47 v4 ((v6 - (1 : Int32)) &&& v3) μ)
  else
  (mm_bits F μ v6).bind fun x3 =>
  (if x3 ≤ v1 then
  (g_rd μ 45 1536 (((256 : Int32) * (v2 - (1 : Int32))) + (v3 &&& (v6 ^^^ (-1 : Int32))))).bind fun x4 =>
  (if x4 < 0 then
  (K_47 v4 ((v6 - (1 : Int32)) &&& v3) μ)
  else
  (g_rd μ 42 256 v6).bind fun x5 =>
  (g_rd μ 45 1536 (((256 : Int32) * (v2 - (1 : Int32))) + (v3 &&& (v6 ^^^ (-1 : Int32))))).bind fun x6 =>
  (K_47 (g_max v4 (x5 + x6)) ((v6 - (1 : Int32)) &&& v3) μ))
  else
  (K_47 v4 ((v6 - (1 : Int32)) &&& v3) μ)))
  else
  (mm_livesOut_143 F K_7 K_15 v1 v2 v3 v4 μ))
  else
  (mm_livesOut_143 F K_7 K_15 v1 v2 v3 v4 μ))
def mm_livesOut_47 (F : Nat) (v1 : Int32) (v2 : Int32) (v3 : Int32) (v5 : Int32) (K_7 : Int32 → g_St → Option (Int32 × g_St)) (K_15 : Int32 → g_St → Option (Int32 × g_St)) : Nat → Int32 → Int32 → g_St → Option (Int32 × g_St)
  | 0, _, _, _ => none
  | f + 1, v4, v6, μ => mm_livesOut_47_b F v1 v2 v3 v5 K_7 K_15 (mm_livesOut_47 F v1 v2 v3 v5 K_7 K_15 f) v4 v6 μ
def mm_livesOut_15_b (F : Nat) (v1 : Int32) (v2 : Int32) (K_7 : Int32 → g_St → Option (Int32 × g_St)) (K_15 : Int32 → g_St → Option (Int32 × g_St)) (v3 : Int32) (μ : g_St) : Option (Int32 × g_St) :=
  (g_rd μ 4 2 (0 : Int32)).bind fun x2 =>
  (if v3 < ((1 : Int32) <<< (x2 &&& 31)) then
  (if v3 = 0 then
  (mm_livesOut_47 F v1 v2 v3 (v3 &&& (-v3)) K_7 K_15 F (0 : Int32) v3 μ)
  else
  (mm_livesOut_47 F v1 v2 v3 (v3 &&& (-v3)) K_7 K_15 F (-1 : Int32) v3 μ))
  else
  (K_7 (v2 + 1) μ))
def mm_livesOut_15 (F : Nat) (v1 : Int32) (v2 : Int32) (K_7 : Int32 → g_St → Option (Int32 × g_St)) : Nat → Int32 → g_St → Option (Int32 × g_St)
  | 0, _, _ => none
  | f + 1, v3, μ => mm_livesOut_15_b F v1 v2 K_7 (mm_livesOut_15 F v1 v2 K_7 f) v3 μ
def mm_livesOut_7_b (F : Nat) (v1 : Int32) (K_7 : Int32 → g_St → Option (Int32 × g_St)) (v2 : Int32) (μ : g_St) : Option (Int32 × g_St) :=
  (if v2 < (6 : Int32) then
  (mm_livesOut_15 F v1 v2 K_7 F (0 : Int32) μ)
  else
  (g_rd μ 2 2 (0 : Int32)).bind fun x8 =>
  (g_rd μ 4 2 (0 : Int32)).bind fun x9 =>
  (g_rd μ 45 1536 ((((256 : Int32) * x8) + ((1 : Int32) <<< (x9 &&& 31))) - (1 : Int32))).bind fun x10 =>
  (if 0 ≤ x10 then
  (some ((1 : Int32), μ))
  else
  (some ((0 : Int32), μ))))
def mm_livesOut_7 (F : Nat) (v1 : Int32) : Nat → Int32 → g_St → Option (Int32 × g_St)
  | 0, _, _ => none
  | f + 1, v2, μ => mm_livesOut_7_b F v1 (mm_livesOut_7 F v1 f) v2 μ
def mm_livesOut (F : Nat) (v1 : Int32) (μ : g_St) : Option (Int32 × g_St) :=
  (mm_works F (0 : Int32) μ).bind fun μ1 =>
  (mm_livesOut_7 F v1 F (0 : Int32) μ1)
def mm_isLiving (F : Nat) (v1 : Int32) (μ : g_St) : Option (Int32 × g_St) :=
  (g_rd μ 4 2 (0 : Int32)).bind fun x1 =>
  (if 0 < x1 then
  (mm_within μ v1 (1 : Int32) (8 : Int32)).bind fun x2 =>
  (if x2 = 0 then
  (some ((0 : Int32), μ))
  else
  (mm_livesOut F v1 μ).bind fun q3 =>
  (if q3.1 = 0 then
  (some ((0 : Int32), q3.2))
  else
  (some ((1 : Int32), q3.2))))
  else
  (some ((0 : Int32), μ)))
def mm_live_64_b (F : Nat) (v3 : Int32) (v4 : Int32) (K_64 : Int32 → g_St → Option (Int32 × g_St)) (v5 : Int32) (μ : g_St) : Option (Int32 × g_St) :=
  (g_rd μ 45 1536 (((256 : Int32) * v5) + v3)).bind fun x8 =>
  (if x8 = v4 then
  (some (v5, μ))
  else
  (K_64 (v5 + 1) μ))
def mm_live_64 (F : Nat) (v3 : Int32) (v4 : Int32) : Nat → Int32 → g_St → Option (Int32 × g_St)
  | 0, _, _ => none
  | f + 1, v5, μ => mm_live_64_b F v3 v4 (mm_live_64 F v3 v4 f) v5 μ
def mm_live (F : Nat) (v1 : Int32) (v2 : Int32) (μ : g_St) : Option (Int32 × g_St) :=
  (some (g_sI μ 0 0 (0 : Int32))).bind fun μ1 =>
  (mm_within μ1 v2 (0 : Int32) (1 : Int32)).bind fun x2 =>
  (if x2 = 0 then
  (some ((-1 : Int32), μ1))
  else
  (mm_isLiving F v1 μ1).bind fun q3 =>
  (if q3.1 = 0 then
  (some ((-1 : Int32), q3.2))
  else
  (g_rd q3.2 4 2 (0 : Int32)).bind fun x4 =>
  (some (((1 : Int32) <<< (x4 &&& 31)) - (1 : Int32))).bind fun x5 =>
  (g_rd q3.2 2 2 (0 : Int32)).bind fun x6 =>
  (g_rd q3.2 45 1536 (((256 : Int32) * x6) + x5)).bind fun x7 =>
  (if v2 = 0 then
  (some (x7, q3.2))
  else
  (mm_live_64 F x5 x7 F (0 : Int32) q3.2))))
def mm_beside_61_b (F : Nat) (v1 : Int32) (v4 : Int32) (v5 : Int32) (K_61 : Int32 → g_St → Option (Int32 × g_St)) (v6 : Int32) (μ : g_St) : Option (Int32 × g_St) :=
  (if 0 < v6 then
  (if (v6 &&& v5) = v5 then
  (mm_bits F μ v6).bind fun x8 =>
  (if v1 < x8 then
  (K_61 ((v6 - (1 : Int32)) &&& v4) μ)
  else
  (g_rd μ 2 2 (0 : Int32)).bind fun x9 =>
  (g_rd μ 45 1536 (((256 : Int32) * (x9 - (1 : Int32))) + (v4 &&& (v6 ^^^ (-1 : Int32))))).bind fun x10 =>
  (if 0 ≤ x10 then
  (g_rd μ 42 256 v6).bind fun x11 =>
  (g_rd μ 2 2 (0 : Int32)).bind fun x12 =>
  (g_rd μ 45 1536 (((256 : Int32) * x12) + v4)).bind fun x13 =>
  (if (x10 + x11) = x13 then
  (some ((1 : Int32), μ))
  else
  (K_61 ((v6 - (1 : Int32)) &&& v4) μ))
  else
  (K_61 ((v6 - (1 : Int32)) &&& v4) μ)))
  else
  (K_61 ((v6 - (1 : Int32)) &&& v4) μ))
  else
  (some ((0 : Int32), μ)))
def mm_beside_61 (F : Nat) (v1 : Int32) (v4 : Int32) (v5 : Int32) : Nat → Int32 → g_St → Option (Int32 × g_St)
  | 0, _, _ => none
  | f + 1, v6, μ => mm_beside_61_b F v1 v4 v5 (mm_beside_61 F v1 v4 v5 f) v6 μ
def mm_beside (F : Nat) (v1 : Int32) (v2 : Int32) (v3 : Int32) (μ : g_St) : Option (Int32 × g_St) :=
  (some (g_sI μ 0 0 (0 : Int32))).bind fun μ1 =>
  (mm_isPerson μ1 v2).bind fun x2 =>
  (if x2 = 0 then
  (some ((-1 : Int32), μ1))
  else
  (mm_isPerson μ1 v3).bind fun x3 =>
  (if x3 = 0 then
  (some ((-1 : Int32), μ1))
  else
  (if v2 = v3 then
  (some ((-1 : Int32), μ1))
  else
  (mm_isLiving F v1 μ1).bind fun q4 =>
  (if q4.1 = 0 then
  (some ((-1 : Int32), q4.2))
  else
  (g_rd q4.2 4 2 (0 : Int32)).bind fun x5 =>
  (some (((1 : Int32) <<< (x5 &&& 31)) - (1 : Int32))).bind fun x6 =>
  (some (((1 : Int32) <<< (v2 &&& 31)) ||| ((1 : Int32) <<< (v3 &&& 31)))).bind fun x7 =>
  (mm_beside_61 F v1 x6 x7 F x6 q4.2)))))
def mm_hadBy_13_b (F : Nat) (μ : g_St) (v1 : Int32) (v3 : Int32) (K_4 : Int32 → Int32 → Option Int32) (K_13 : Int32 → Int32 → Option Int32) (v2 : Int32) (v4 : Int32) : Option Int32 :=
  (g_rd μ 3 2 (0 : Int32)).bind fun x1 =>
  (if v4 < x1 then
  (mm_makersOf F μ v4).bind fun x2 =>
  (if 0 < (x2 &&& v1) then
  (g_rd μ 10 12 v4).bind fun x3 =>
  (if (x3 &&& (v2 ^^^ (-1 : Int32))) = 0 then
  (some (v2 ||| ((1 : Int32) <<< (v4 &&& 31)))).bind fun x4 =>
  (K_13 x4 (v4 + 1))
  else
  (K_13 v2 (v4 + 1)))
  else
  (K_13 v2 (v4 + 1)))
  else
  (K_4 v2 (v3 + 1)))
def mm_hadBy_13 (F : Nat) (μ : g_St) (v1 : Int32) (v3 : Int32) (K_4 : Int32 → Int32 → Option Int32) : Nat → Int32 → Int32 → Option Int32
  | 0, _, _ => none
  | f + 1, v2, v4 => mm_hadBy_13_b F μ v1 v3 K_4 (mm_hadBy_13 F μ v1 v3 K_4 f) v2 v4 
def mm_hadBy_4_b (F : Nat) (μ : g_St) (v1 : Int32) (K_4 : Int32 → Int32 → Option Int32) (v2 : Int32) (v3 : Int32) : Option Int32 :=
  (if v3 < (6 : Int32) then
  (mm_hadBy_13 F μ v1 v3 K_4 F v2 (0 : Int32))
  else
  (some v2))
def mm_hadBy_4 (F : Nat) (μ : g_St) (v1 : Int32) : Nat → Int32 → Int32 → Option Int32
  | 0, _, _ => none
  | f + 1, v2, v3 => mm_hadBy_4_b F μ v1 (mm_hadBy_4 F μ v1 f) v2 v3 
def mm_hadBy (F : Nat) (μ : g_St) (v1 : Int32) : Option Int32 :=
  (mm_hadBy_4 F μ v1 F (0 : Int32) (0 : Int32))
def mm_neverBy_17_b (F : Nat) (μ : g_St) (v1 : Int32) (v3 : Int32) (K_4 : Int32 → Int32 → Option Int32) (K_17 : Int32 → Int32 → Option Int32) (v2 : Int32) (v4 : Int32) : Option Int32 :=
  (g_rd μ 3 2 (0 : Int32)).bind fun x2 =>
  (if v4 < x2 then
  (if ((v1 >>> (v3 &&& 31)) &&& (1 : Int32)) = (1 : Int32) then
  (g_rd μ 13 288 (((18 : Int32) * v3) + ((3 : Int32) * v4))).bind fun x3 =>
  (if 0 < x3 then
  (some (v2 ||| ((1 : Int32) <<< (v4 &&& 31)))).bind fun x4 =>
  (K_17 x4 (v4 + 1))
  else
  (K_17 (v2 ||| (0 : Int32)) (v4 + 1)))
  else
  (K_17 (v2 ||| (0 : Int32)) (v4 + 1)))
  else
  (K_4 v2 (v3 + 1)))
def mm_neverBy_17 (F : Nat) (μ : g_St) (v1 : Int32) (v3 : Int32) (K_4 : Int32 → Int32 → Option Int32) : Nat → Int32 → Int32 → Option Int32
  | 0, _, _ => none
  | f + 1, v2, v4 => mm_neverBy_17_b F μ v1 v3 K_4 (mm_neverBy_17 F μ v1 v3 K_4 f) v2 v4 
def mm_neverBy_4_b (F : Nat) (μ : g_St) (v1 : Int32) (K_4 : Int32 → Int32 → Option Int32) (v2 : Int32) (v3 : Int32) : Option Int32 :=
  (g_rd μ 4 2 (0 : Int32)).bind fun x1 =>
  (if v3 < x1 then
  (mm_neverBy_17 F μ v1 v3 K_4 F v2 (0 : Int32))
  else
  (mm_hadBy F μ v1).bind fun x5 =>
  (some (v2 &&& (x5 ^^^ (-1 : Int32)))))
def mm_neverBy_4 (F : Nat) (μ : g_St) (v1 : Int32) : Nat → Int32 → Int32 → Option Int32
  | 0, _, _ => none
  | f + 1, v2, v3 => mm_neverBy_4_b F μ v1 (mm_neverBy_4 F μ v1 f) v2 v3 
def mm_neverBy (F : Nat) (μ : g_St) (v1 : Int32) : Option Int32 :=
  (mm_neverBy_4 F μ v1 F (0 : Int32) (0 : Int32))
def mm_had (F : Nat) (v1 : Int32) (μ : g_St) : Option (Int32 × g_St) :=
  (some (g_sI μ 0 0 (0 : Int32))).bind fun μ1 =>
  (mm_areThem μ1 v1).bind fun x2 =>
  (if x2 = 0 then
  (some ((-1 : Int32), μ1))
  else
  (mm_hadBy F μ1 v1).bind fun x3 =>
  (some (x3, μ1)))
def mm_never (F : Nat) (v1 : Int32) (μ : g_St) : Option (Int32 × g_St) :=
  (some (g_sI μ 0 0 (0 : Int32))).bind fun μ1 =>
  (mm_areThem μ1 v1).bind fun x2 =>
  (if x2 = 0 then
  (some ((-1 : Int32), μ1))
  else
  (mm_neverBy F μ1 v1).bind fun x3 =>
  (some (x3, μ1)))
def mm_fewest_29_b (F : Nat) (v1 : Int32) (v2 : Int32) (K_29 : Int32 → Int32 → g_St → Option (Int32 × g_St)) (v3 : Int32) (v4 : Int32) (μ : g_St) : Option (Int32 × g_St) :=
  (g_rd μ 4 2 (0 : Int32)).bind fun x4 =>
  (if v4 < ((1 : Int32) <<< (x4 &&& 31)) then
  (if ((v4 >>> (v1 &&& 31)) &&& (1 : Int32)) = (1 : Int32) then
  (mm_neverBy F μ v4).bind fun x5 =>
  (if x5 = 0 then
  (if 0 ≤ v3 then
  (mm_bits F μ v4).bind fun x6 =>
  (mm_bits F μ v3).bind fun x7 =>
  (if x6 < x7 then
  (K_29 v4 (v4 + 1) μ)
  else
  (K_29 v3 (v4 + 1) μ))
  else
  (K_29 v4 (v4 + 1) μ))
  else
  (K_29 v3 (v4 + 1) μ))
  else
  (K_29 v3 (v4 + 1) μ))
  else
  (if v3 < 0 then
  (some ((-1 : Int32), μ))
  else
  (if v2 = 0 then
  (mm_bits F μ v3).bind fun x8 =>
  (some (x8, μ))
  else
  (some (v3, μ)))))
def mm_fewest_29 (F : Nat) (v1 : Int32) (v2 : Int32) : Nat → Int32 → Int32 → g_St → Option (Int32 × g_St)
  | 0, _, _, _ => none
  | f + 1, v3, v4, μ => mm_fewest_29_b F v1 v2 (mm_fewest_29 F v1 v2 f) v3 v4 μ
def mm_fewest (F : Nat) (v1 : Int32) (v2 : Int32) (μ : g_St) : Option (Int32 × g_St) :=
  (some (g_sI μ 0 0 (0 : Int32))).bind fun μ1 =>
  (mm_isPerson μ1 v1).bind fun x2 =>
  (if x2 = 0 then
  (some ((-1 : Int32), μ1))
  else
  (mm_within μ1 v2 (0 : Int32) (1 : Int32)).bind fun x3 =>
  (if x3 = 0 then
  (some ((-1 : Int32), μ1))
  else
  (mm_fewest_29 F v1 v2 F (-1 : Int32) (1 : Int32) μ1)))
def mm_fairAt_11_b (F : Nat) (v1 : Int32) (v2 : Int32) (v3 : Int32) (K_11 : Int32 → Int32 → g_St → Option (Int32 × g_St)) (v4 : Int32) (v5 : Int32) (μ : g_St) : Option (Int32 × g_St) :=
  (g_rd μ 4 2 (0 : Int32)).bind fun x2 =>
  (if v5 < x2 then
  (g_rd μ 11 16 v5).bind fun x3 =>
  (mm_isWay μ x3 v1).bind fun x4 =>
  (if x4 = 0 then
  (K_11 v4 (v5 + 1) μ)
  else
  (g_rd μ 11 16 v5).bind fun x5 =>
  (g_rd μ 8 50 (((5 : Int32) * x5) + v1)).bind fun x6 =>
  (if v2 < ((2 : Int32) * x6) then
  (K_11 v4 (v5 + 1) μ)
  else
  (some (g_sI μ 0 57 ((μ.1 0 57) ||| ((1 : Int32) <<< (v5 &&& 31))))).bind fun μ7 =>
  (g_rd μ7 11 16 v5).bind fun x8 =>
  (g_rd μ7 8 50 (((5 : Int32) * x8) + v1)).bind fun x9 =>
  (K_11 (v4 + ((2 : Int32) * x9)) (v5 + 1) μ7)))
  else
  (g_rd μ 42 256 (μ.1 0 57)).bind fun x10 =>
  (some ((x10 - (v3 * v4)), μ)))
def mm_fairAt_11 (F : Nat) (v1 : Int32) (v2 : Int32) (v3 : Int32) : Nat → Int32 → Int32 → g_St → Option (Int32 × g_St)
  | 0, _, _, _ => none
  | f + 1, v4, v5, μ => mm_fairAt_11_b F v1 v2 v3 (mm_fairAt_11 F v1 v2 v3 f) v4 v5 μ
def mm_fairAt (F : Nat) (v1 : Int32) (v2 : Int32) (v3 : Int32) (μ : g_St) : Option (Int32 × g_St) :=
  (some (g_sI μ 0 57 (0 : Int32))).bind fun μ1 =>
  (mm_fairAt_11 F v1 v2 v3 F (0 : Int32) (0 : Int32) μ1)
def mm_fair_45 (F : Nat) (v1 : Int32) (v2 : Int32) (v3 : Int32) (v4 : Int32) (s0 : Int32) (μ : g_St) : Option (Int32 × g_St) :=
  (some (g_sI μ 0 0 s0)).bind fun μ5 =>
  (if (μ5.1 0 0) = (1 : Int32) then
  (some ((0 : Int32), μ5))
  else
  (mm_works F (0 : Int32) μ5).bind fun μ6 =>
  (mm_fairAt F v1 v2 v3 μ6).bind fun q7 =>
  (if v4 = 0 then
  (some (q7.1, q7.2))
  else
  (some ((q7.2.1 0 57), q7.2))))
def mm_fair_44 (F : Nat) (v1 : Int32) (v2 : Int32) (v3 : Int32) (v4 : Int32) (μ : g_St) : Option (Int32 × g_St) :=
  (mm_fair_45 F v1 v2 v3 v4 (1 : Int32) μ)
def mm_fair (F : Nat) (v1 : Int32) (v2 : Int32) (v3 : Int32) (v4 : Int32) (μ : g_St) : Option (Int32 × g_St) :=
  (mm_isPlace μ v1).bind fun x1 =>
  (if x1 = 0 then
  (mm_fair_44 F v1 v2 v3 v4 μ)
  else
  (mm_within μ v2 (0 : Int32) (168 : Int32)).bind fun x2 =>
  (if x2 = 0 then
  (mm_fair_44 F v1 v2 v3 v4 μ)
  else
  (mm_within μ v3 (0 : Int32) (99 : Int32)).bind fun x3 =>
  (if x3 = 0 then
  (mm_fair_44 F v1 v2 v3 v4 μ)
  else
  (mm_within μ v4 (0 : Int32) (1 : Int32)).bind fun x4 =>
  (if x4 = 0 then
  (mm_fair_44 F v1 v2 v3 v4 μ)
  else
  (mm_fair_45 F v1 v2 v3 v4 (0 : Int32) μ)))))
def mm_fairest_47_b (F : Nat) (v1 : Int32) (v2 : Int32) (K_47 : Int32 → Int32 → g_St → Option (Int32 × g_St)) (v3 : Int32) (v4 : Int32) (μ : g_St) : Option (Int32 × g_St) :=
  (g_rd μ 2 2 (0 : Int32)).bind fun x6 =>
  (if v4 < x6 then
  (mm_fairAt F v4 v1 v2 μ).bind fun q7 =>
  (mm_fairAt F v3 v1 v2 q7.2).bind fun q8 =>
  (if q8.1 < q7.1 then
  (K_47 v4 (v4 + 1) q8.2)
  else
  (K_47 v3 (v4 + 1) q8.2))
  else
  (some (v3, μ)))
def mm_fairest_47 (F : Nat) (v1 : Int32) (v2 : Int32) : Nat → Int32 → Int32 → g_St → Option (Int32 × g_St)
  | 0, _, _, _ => none
  | f + 1, v3, v4, μ => mm_fairest_47_b F v1 v2 (mm_fairest_47 F v1 v2 f) v3 v4 μ
def mm_fairest (F : Nat) (v1 : Int32) (v2 : Int32) (μ : g_St) : Option (Int32 × g_St) :=
  (some (g_sI μ 0 0 (0 : Int32))).bind fun μ1 =>
  (g_rd μ1 2 2 (0 : Int32)).bind fun x2 =>
  (if x2 = 0 then
  (some ((-1 : Int32), μ1))
  else
  (mm_within μ1 v1 (0 : Int32) (168 : Int32)).bind fun x3 =>
  (if x3 = 0 then
  (some ((-1 : Int32), μ1))
  else
  (mm_within μ1 v2 (0 : Int32) (99 : Int32)).bind fun x4 =>
  (if x4 = 0 then
  (some ((-1 : Int32), μ1))
  else
  (mm_works F (0 : Int32) μ1).bind fun μ5 =>
  (mm_fairest_47 F v1 v2 F (0 : Int32) (1 : Int32) μ5))))
def mm_far_72_b (F : Nat) (v1 : Int32) (v2 : Int32) (v4 : Int32) (v5 : Int32) (K_72 : Int32 → Int32 → g_St → Option (Int32 × g_St)) (v6 : Int32) (v7 : Int32) (μ : g_St) : Option (Int32 × g_St) :=
  (g_rd μ 4 2 (0 : Int32)).bind fun x8 =>
  (if v7 < x8 then
  (if v7 = v1 then
  (K_72 (v6 + (0 : Int32)) (v7 + 1) μ)
  else
  (g_rd μ 12 16 v7).bind fun x9 =>
  (if ((x9 >>> (v2 &&& 31)) &&& (1 : Int32)) = (1 : Int32) then
  (g_rd μ 11 16 v1).bind fun x10 =>
  (g_rd μ 11 16 v7).bind fun x11 =>
  (mm_isWay μ x10 x11).bind fun x12 =>
  (if x12 = 0 then
  (K_72 (v6 + (0 : Int32)) (v7 + 1) μ)
  else
  (g_rd μ 11 16 v1).bind fun x13 =>
  (g_rd μ 11 16 v7).bind fun x14 =>
  (g_rd μ 8 50 (((5 : Int32) * x13) + x14)).bind fun x15 =>
  (if ((2 : Int32) * x15) ≤ v5 then
  (K_72 (v6 + (1 : Int32)) (v7 + 1) μ)
  else
  (K_72 (v6 + (0 : Int32)) (v7 + 1) μ)))
  else
  (K_72 (v6 + (0 : Int32)) (v7 + 1) μ)))
  else
  (if v4 = 0 then
  (some (v5, μ))
  else
  (some (v6, μ))))
def mm_far_72 (F : Nat) (v1 : Int32) (v2 : Int32) (v4 : Int32) (v5 : Int32) : Nat → Int32 → Int32 → g_St → Option (Int32 × g_St)
  | 0, _, _, _ => none
  | f + 1, v6, v7, μ => mm_far_72_b F v1 v2 v4 v5 (mm_far_72 F v1 v2 v4 v5 f) v6 v7 μ
def mm_far (F : Nat) (v1 : Int32) (v2 : Int32) (v3 : Int32) (v4 : Int32) (μ : g_St) : Option (Int32 × g_St) :=
  (some (g_sI μ 0 0 (0 : Int32))).bind fun μ1 =>
  (mm_isPerson μ1 v1).bind fun x2 =>
  (if x2 = 0 then
  (some ((-1 : Int32), μ1))
  else
  (mm_isGood μ1 v2).bind fun x3 =>
  (if x3 = 0 then
  (some ((-1 : Int32), μ1))
  else
  (mm_within μ1 v3 (1 : Int32) (99 : Int32)).bind fun x4 =>
  (if x4 = 0 then
  (some ((-1 : Int32), μ1))
  else
  (mm_within μ1 v4 (0 : Int32) (1 : Int32)).bind fun x5 =>
  (if x5 = 0 then
  (some ((-1 : Int32), μ1))
  else
  (g_rd μ1 13 288 (((18 : Int32) * v1) + ((3 : Int32) * v2))).bind fun x6 =>
  (g_dv x6 v3).bind fun x7 =>
  (mm_far_72 F v1 v2 v4 (g_min (999 : Int32) x7) F (0 : Int32) (0 : Int32) μ1)))))
def mm_coinOf_29_b (F : Nat) (v1 : Int32) (v2 : Int32) (v4 : Int32) (K_7 : Int32 → Int32 → Int32 → g_St → Option (Int32 × g_St)) (K_29 : Int32 → Int32 → g_St → Option (Int32 × g_St)) (v3 : Int32) (v5 : Int32) (μ : g_St) : Option (Int32 × g_St) :=
  (g_rd μ 37 48 (((6 : Int32) * v4) + v1)).bind fun x3 =>
  (if v5 < x3 then
  (mm_more μ v4 v1 v5).bind fun x4 =>
  (K_29 (v3 + x4) (v5 + 1) μ)
  else
  (g_rd μ 37 48 (((6 : Int32) * v4) + v1)).bind fun x5 =>
  (K_7 (v2 + x5) v3 (v4 + 1) μ))
def mm_coinOf_29 (F : Nat) (v1 : Int32) (v2 : Int32) (v4 : Int32) (K_7 : Int32 → Int32 → Int32 → g_St → Option (Int32 × g_St)) : Nat → Int32 → Int32 → g_St → Option (Int32 × g_St)
  | 0, _, _, _ => none
  | f + 1, v3, v5, μ => mm_coinOf_29_b F v1 v2 v4 K_7 (mm_coinOf_29 F v1 v2 v4 K_7 f) v3 v5 μ
def mm_coinOf_98_b (F : Nat) (v1 : Int32) (v2 : Int32) (v3 : Int32) (v4 : Int32) (K_88 : Int32 → Int32 → g_St → Option (Int32 × g_St)) (K_98 : Int32 → Int32 → g_St → Option (Int32 × g_St)) (v5 : Int32) (v6 : Int32) (μ : g_St) : Option (Int32 × g_St) :=
  (g_rd μ 4 2 (0 : Int32)).bind fun x6 =>
  (if v6 < x6 then
  (g_rd μ 46 8 v6).bind fun x7 =>
  (mm_more μ v6 v1 x7).bind fun x8 =>
  (g_rd μ 46 8 v5).bind fun x9 =>
  (mm_more μ v5 v1 x9).bind fun x10 =>
  (if x10 < x8 then
  (K_98 v6 (v6 + 1) μ)
  else
  (K_98 v5 (v6 + 1) μ))
  else
  (g_rd μ 46 8 v5).bind fun x11 =>
  (mm_more μ v5 v1 x11).bind fun x12 =>
  (g_rd μ 46 8 v5).bind fun x13 =>
  (g_wr μ 46 8 v5 (x13 + (1 : Int32))).bind fun μ14 =>
  (K_88 (v2 + (-1)) (v4 + x12) μ14))
def mm_coinOf_98 (F : Nat) (v1 : Int32) (v2 : Int32) (v3 : Int32) (v4 : Int32) (K_88 : Int32 → Int32 → g_St → Option (Int32 × g_St)) : Nat → Int32 → Int32 → g_St → Option (Int32 × g_St)
  | 0, _, _, _ => none
  | f + 1, v5, v6, μ => mm_coinOf_98_b F v1 v2 v3 v4 K_88 (mm_coinOf_98 F v1 v2 v3 v4 K_88 f) v5 v6 μ
def mm_coinOf_88_b (F : Nat) (v1 : Int32) (v3 : Int32) (K_88 : Int32 → Int32 → g_St → Option (Int32 × g_St)) (v2 : Int32) (v4 : Int32) (μ : g_St) : Option (Int32 × g_St) :=
  (if 0 < v2 then
  (mm_coinOf_98 F v1 v2 v3 v4 K_88 F (0 : Int32) (1 : Int32) μ)
  else
  (some ((v4 - v3), μ)))
def mm_coinOf_88 (F : Nat) (v1 : Int32) (v3 : Int32) : Nat → Int32 → Int32 → g_St → Option (Int32 × g_St)
  | 0, _, _, _ => none
  | f + 1, v2, v4, μ => mm_coinOf_88_b F v1 v3 (mm_coinOf_88 F v1 v3 f) v2 v4 μ
def mm_coinOf_7_b (F : Nat) (v1 : Int32) (K_7 : Int32 → Int32 → Int32 → g_St → Option (Int32 × g_St)) (v2 : Int32) (v3 : Int32) (v4 : Int32) (μ : g_St) : Option (Int32 × g_St) :=
  (g_rd μ 4 2 (0 : Int32)).bind fun x1 =>
  (if v4 < x1 then
  (g_wr μ 46 8 v4 (0 : Int32)).bind fun μ2 =>
  (mm_coinOf_29 F v1 v2 v4 K_7 F v3 (0 : Int32) μ2)
  else
  (mm_coinOf_88 F v1 v3 F v2 (0 : Int32) μ))
def mm_coinOf_7 (F : Nat) (v1 : Int32) : Nat → Int32 → Int32 → Int32 → g_St → Option (Int32 × g_St)
  | 0, _, _, _, _ => none
  | f + 1, v2, v3, v4, μ => mm_coinOf_7_b F v1 (mm_coinOf_7 F v1 f) v2 v3 v4 μ
def mm_coinOf (F : Nat) (v1 : Int32) (μ : g_St) : Option (Int32 × g_St) :=
  (mm_coinOf_7 F v1 F (0 : Int32) (0 : Int32) (0 : Int32) μ)
def mm_coin_39_b (F : Nat) (K_39 : Int32 → Int32 → g_St → Option (Int32 × g_St)) (v2 : Int32) (v3 : Int32) (μ : g_St) : Option (Int32 × g_St) :=
  (g_rd μ 3 2 (0 : Int32)).bind fun x5 =>
  (if v3 < x5 then
  (mm_coinOf F v3 μ).bind fun q6 =>
  (K_39 (v2 + q6.1) (v3 + 1) q6.2)
  else
  (some (v2, μ)))
def mm_coin_39 (F : Nat) : Nat → Int32 → Int32 → g_St → Option (Int32 × g_St)
  | 0, _, _, _ => none
  | f + 1, v2, v3, μ => mm_coin_39_b F (mm_coin_39 F f) v2 v3 μ
def mm_coin_20 (F : Nat) (v1 : Int32) (μ : g_St) : Option (Int32 × g_St) :=
  (mm_counts F μ).bind fun μ3 =>
  (if v1 = (-1 : Int32) then
  (mm_coin_39 F F (0 : Int32) (0 : Int32) μ3)
  else
  (mm_coinOf F v1 μ3).bind fun q4 =>
  (some (q4.1, q4.2)))
def mm_coin (F : Nat) (v1 : Int32) (μ : g_St) : Option (Int32 × g_St) :=
  (some (g_sI μ 0 0 (0 : Int32))).bind fun μ1 =>
  (if v1 = (-1 : Int32) then
  (mm_coin_20 F v1 μ1)
  else
  (mm_isGood μ1 v1).bind fun x2 =>
  (if x2 = 0 then
  (some ((-1 : Int32), μ1))
  else
  (mm_coin_20 F v1 μ1)))
def mm_lifted (v1 : Int32) (v2 : Int32) (μ : g_St) : Option (Int32 × g_St) :=
  (some (g_sI μ 0 0 (0 : Int32))).bind fun μ1 =>
  (mm_isGood μ1 v1).bind fun x2 =>
  (if x2 = 0 then
  (some ((0 : Int32), μ1))
  else
  (g_wr μ1 36 6 v1 (g_nz v2)).bind fun μ3 =>
  (some ((1 : Int32), μ3)))
def mm_lift (F : Nat) (v1 : Int32) (μ : g_St) : Option (Int32 × g_St) :=
  (some (g_sI μ 0 0 (0 : Int32))).bind fun μ1 =>
  (mm_isGood μ1 v1).bind fun x2 =>
  (if x2 = 0 then
  (some ((-1 : Int32), μ1))
  else
  (g_rd μ1 36 6 v1).bind fun x3 =>
  (g_rd μ1 4 2 (0 : Int32)).bind fun x4 =>
  (some (((1 : Int32) <<< (x4 &&& 31)) - (1 : Int32))).bind fun x5 =>
  (g_wr μ1 36 6 v1 (g_nz (1 : Int32))).bind fun μ6 =>
  (mm_works F (0 : Int32) μ6).bind fun μ7 =>
  (g_rd μ7 42 256 x5).bind fun x8 =>
  (g_wr μ7 36 6 v1 (g_nz (0 : Int32))).bind fun μ9 =>
  (mm_works F (0 : Int32) μ9).bind fun μ10 =>
  (g_wr μ10 36 6 v1 (g_nz x3)).bind fun μ11 =>
  (g_rd μ11 42 256 x5).bind fun x12 =>
  (some ((x8 - x12), μ11)))
def mm_lowest_17_b (F : Nat) (μ : g_St) (v0 : Int64) (v2 : Int64) (v4 : Int32) (K_17 : Int64 → Int64 → Option Int64) (v5 : Int64) (v7 : Int64) : Option Int64 :=
  (if (lg_cmp v7 (0 : Int64)) = 0 then
  (if v4 = 0 then
  (g_dvL v0 v5).bind fun x2 =>
  (some x2)
  else
  (g_dvL v2 v5).bind fun x3 =>
  (some x3))
  else
  (g_rmL v5 v7).bind fun x1 =>
  (K_17 v7 x1))
def mm_lowest_17 (F : Nat) (μ : g_St) (v0 : Int64) (v2 : Int64) (v4 : Int32) : Nat → Int64 → Int64 → Option Int64
  | 0, _, _ => none
  | f + 1, v5, v7 => mm_lowest_17_b F μ v0 v2 v4 (mm_lowest_17 F μ v0 v2 v4 f) v5 v7 
def mm_lowest (F : Nat) (μ : g_St) (v0 : Int64) (v2 : Int64) (v4 : Int32) : Option Int64 :=
  (if (lg_cmp v0 (0 : Int64)) < 0 then
  (mm_lowest_17 F μ v0 v2 v4 F (-v0) v2)
  else
  (mm_lowest_17 F μ v0 v2 v4 F v0 v2))
def mm_lie_74 (F : Nat) (v1 : Int32) (v2 : Int32) (v3 : Int32) (v4 : Int32) (v5 : Int32) (v6 : Int32) (μ : g_St) : Option (Int32 × g_St) :=
  (if (μ.1 0 0) = (1 : Int32) then
  (some ((0 : Int32), μ))
  else
  (mm_counts F μ).bind fun μ8 =>
  (g_rd μ8 29 40 v3).bind fun x9 =>
  (g_rd μ8 37 48 (((6 : Int32) * v2) + x9)).bind fun x10 =>
  (mm_more μ8 v2 x9 x10).bind fun x11 =>
  (g_rd μ8 37 48 (((6 : Int32) * v1) + x9)).bind fun x12 =>
  (mm_more μ8 v1 x9 (x12 - (1 : Int32))).bind fun x13 =>
  (some (((10 : Int32) - v4) * (x11 - x13))).bind fun x14 =>
  (if v6 < (2 : Int32) then
  (mm_lowest F μ8 ((x14 - (v4 * v5)).toInt64) (10 : Int64) v6).bind fun x15 =>
  (some ((x15.toInt32), μ8))
  else
  (if x14 ≤ 0 then
  (some ((0 : Int32), μ8))
  else
  (if v4 = 0 then
  (some ((-1 : Int32), μ8))
  else
  (g_dv ((x14 + v4) - (1 : Int32)) v4).bind fun x16 =>
  (if (9999 : Int32) < x16 then
  (some ((-1 : Int32), μ8))
  else
  (some (x16, μ8)))))))
def mm_lie_49 (F : Nat) (v1 : Int32) (v2 : Int32) (v3 : Int32) (v4 : Int32) (v5 : Int32) (v6 : Int32) (s0 : Int32) (μ : g_St) : Option (Int32 × g_St) :=
  (some (g_sI μ 0 0 s0)).bind fun μ5 =>
  (if (μ5.1 0 0) = 0 then
  (mm_isLawfulNow F v1 v2 v3 μ5).bind fun q6 =>
  (if q6.1 = 0 then
  (mm_lie_74 F v1 v2 v3 v4 v5 v6 q6.2)
  else
  (some (g_sI q6.2 0 0 (1 : Int32))).bind fun μ7 =>
  (mm_lie_74 F v1 v2 v3 v4 v5 v6 μ7))
  else
  (mm_lie_74 F v1 v2 v3 v4 v5 v6 μ5))
def mm_lie_48 (F : Nat) (v1 : Int32) (v2 : Int32) (v3 : Int32) (v4 : Int32) (v5 : Int32) (v6 : Int32) (μ : g_St) : Option (Int32 × g_St) :=
  (mm_lie_49 F v1 v2 v3 v4 v5 v6 (1 : Int32) μ)
def mm_lie (F : Nat) (v1 : Int32) (v2 : Int32) (v3 : Int32) (v4 : Int32) (v5 : Int32) (v6 : Int32) (μ : g_St) : Option (Int32 × g_St) :=
  (mm_areGift μ v1 v2 v3).bind fun x1 =>
  (if x1 = 0 then
  (mm_lie_48 F v1 v2 v3 v4 v5 v6 μ)
  else
  (mm_within μ v4 (0 : Int32) (10 : Int32)).bind fun x2 =>
  (if x2 = 0 then
  (mm_lie_48 F v1 v2 v3 v4 v5 v6 μ)
  else
  (mm_within μ v5 (0 : Int32) (9999 : Int32)).bind fun x3 =>
  (if x3 = 0 then
  (mm_lie_48 F v1 v2 v3 v4 v5 v6 μ)
  else
  (mm_within μ v6 (0 : Int32) (2 : Int32)).bind fun x4 =>
  (if x4 = 0 then
  (mm_lie_48 F v1 v2 v3 v4 v5 v6 μ)
  else
  (mm_lie_49 F v1 v2 v3 v4 v5 v6 (0 : Int32) μ)))))
def mm_draws (v1 : Int32) (μ : g_St) : Option (Int32 × g_St) :=
  (g_rmL (((μ.2.1 0 59) * (1103515245 : Int64)) + (12345 : Int64)) (2147483648 : Int64)).bind fun x1 =>
  (some (g_sL μ 0 59 x1)).bind fun μ2 =>
  (g_dvL (μ2.2.1 0 59) (65536 : Int64)).bind fun x3 =>
  (g_rmL x3 (v1.toInt64)).bind fun x4 =>
  (some ((x4.toInt32), μ2))
def mm_week_100 (F : Nat) (K_45 : Int32 → g_St → Option g_St) (K_83 : Int32 → Int32 → g_St → Option g_St) (v1 : Int32) (v2 : Int32) (v3 : Int32) (μ : g_St) : Option g_St :=
  (g_rd μ 12 16 v1).bind fun x9 =>
  (some (v2 - ((x9 >>> (v3 &&& 31)) &&& (1 : Int32)))).bind fun x10 =>
  (K_83 x10 (v3 + 1) μ)
def mm_week_134_b (F : Nat) (v1 : Int32) (v3 : Int32) (K_45 : Int32 → g_St → Option g_St) (K_134 : Int32 → g_St → Option g_St) (v4 : Int32) (μ : g_St) : Option g_St :=
  (g_rd μ 4 2 (0 : Int32)).bind fun x12 =>
  (if v4 < x12 then
  (if v4 = v1 then
  (K_134 (v4 + 1) μ)
  else
  (mm_isLawful F v1 v4 v3 (0 : Int32) ((1 : Int32) <<< (v1 &&& 31)) (0 : Int32) μ).bind fun q13 =>
  (g_wr q13.2 38 384 ((((48 : Int32) * v1) + ((6 : Int32) * v4)) + v3) (g_nz q13.1)).bind fun μ14 =>
  (K_134 (v4 + 1) μ14))
  else
  (K_45 (v1 + 1) μ))
def mm_week_134 (F : Nat) (v1 : Int32) (v3 : Int32) (K_45 : Int32 → g_St → Option g_St) : Nat → Int32 → g_St → Option g_St
  | 0, _, _ => none
  | f + 1, v4, μ => mm_week_134_b F v1 v3 K_45 (mm_week_134 F v1 v3 K_45 f) v4 μ
def mm_week_83_b (F : Nat) (v1 : Int32) (K_45 : Int32 → g_St → Option g_St) (K_83 : Int32 → Int32 → g_St → Option g_St) (v2 : Int32) (v3 : Int32) (μ : g_St) : Option g_St :=
  (g_rd μ 12 16 v1).bind fun x8 =>
  (if ((x8 >>> (v3 &&& 31)) &&& (1 : Int32)) = 0 then
  (mm_week_100 F K_45 K_83 v1 v2 v3 μ)
  else
  (if 0 < v2 then
  (mm_week_100 F K_45 K_83 v1 v2 v3 μ)
  else
  (g_wr μ 37 48 (((6 : Int32) * v1) + v3) (1 : Int32)).bind fun μ11 =>
  (mm_week_134 F v1 v3 K_45 F (0 : Int32) μ11)))
def mm_week_83 (F : Nat) (v1 : Int32) (K_45 : Int32 → g_St → Option g_St) : Nat → Int32 → Int32 → g_St → Option g_St
  | 0, _, _, _ => none
  | f + 1, v2, v3, μ => mm_week_83_b F v1 K_45 (mm_week_83 F v1 K_45 f) v2 v3 μ
def mm_week_45_b (F : Nat) (K_45 : Int32 → g_St → Option g_St) (v1 : Int32) (μ : g_St) : Option g_St :=
  (g_rd μ 4 2 (0 : Int32)).bind fun x3 =>
  (if v1 < x3 then
  (g_rd μ 12 16 v1).bind fun x4 =>
  (if x4 = 0 then
  (K_45 (v1 + 1) μ)
  else
  (g_rd μ 12 16 v1).bind fun x5 =>
  (mm_bits F μ x5).bind fun x6 =>
  (mm_draws x6 μ).bind fun q7 =>
  (mm_week_83 F v1 K_45 F q7.1 (0 : Int32) q7.2))
  else
  (mm_rings F μ).bind fun μ15 =>
  (mm_mosts F μ15).bind fun μ16 =>
  (some μ16))
def mm_week_45 (F : Nat) : Nat → Int32 → g_St → Option g_St
  | 0, _, _ => none
  | f + 1, v1, μ => mm_week_45_b F (mm_week_45 F f) v1 μ
def mm_week_23_b (F : Nat) (K_23 : Int32 → g_St → Option g_St) (v1 : Int32) (μ : g_St) : Option g_St :=
  (if v1 < (384 : Int32) then
  (g_wr μ 38 384 v1 (g_nz (0 : Int32))).bind fun μ2 =>
  (K_23 (v1 + 1) μ2)
  else
  (mm_week_45 F F (0 : Int32) μ))
def mm_week_23 (F : Nat) : Nat → Int32 → g_St → Option g_St
  | 0, _, _ => none
  | f + 1, v1, μ => mm_week_23_b F (mm_week_23 F f) v1 μ
def mm_week_2_b (F : Nat) (K_2 : Int32 → g_St → Option g_St) (v1 : Int32) (μ : g_St) : Option g_St :=
  (if v1 < (48 : Int32) then
  (g_wr μ 37 48 v1 (0 : Int32)).bind fun μ1 =>
  (K_2 (v1 + 1) μ1)
  else
  (mm_week_23 F F (0 : Int32) μ))
def mm_week_2 (F : Nat) : Nat → Int32 → g_St → Option g_St
  | 0, _, _ => none
  | f + 1, v1, μ => mm_week_2_b F (mm_week_2 F f) v1 μ
def mm_week (F : Nat) (μ : g_St) : Option g_St :=
  (mm_week_2 F F (0 : Int32) μ)
def mm_years_52_b (F : Nat) (v2 : Int32) (v3 : Int32) (K_52 : Int32 → Int32 → Int32 → g_St → Option (Int32 × g_St)) (v4 : Int32) (v5 : Int32) (v6 : Int32) (μ : g_St) : Option (Int32 × g_St) :=
  (if v6 < v2 then
  (mm_week F μ).bind fun μ6 =>
  (g_rd μ6 4 2 (0 : Int32)).bind fun x7 =>
  (g_rd μ6 42 256 (((1 : Int32) <<< (x7 &&& 31)) - (1 : Int32))).bind fun x8 =>
  (g_rd μ6 4 2 (0 : Int32)).bind fun x9 =>
  (g_rd μ6 42 256 (((1 : Int32) <<< (x9 &&& 31)) - (1 : Int32))).bind fun x10 =>
  (if x10 = 0 then
  (K_52 (v4 + x8) (v5 + (1 : Int32)) (v6 + 1) μ6)
  else
  (K_52 (v4 + x8) (v5 + (0 : Int32)) (v6 + 1) μ6))
  else
  (if v3 = 0 then
  (some (v4, μ))
  else
  (some (v5, μ))))
def mm_years_52 (F : Nat) (v2 : Int32) (v3 : Int32) : Nat → Int32 → Int32 → Int32 → g_St → Option (Int32 × g_St)
  | 0, _, _, _, _ => none
  | f + 1, v4, v5, v6, μ => mm_years_52_b F v2 v3 (mm_years_52 F v2 v3 f) v4 v5 v6 μ
def mm_years (F : Nat) (v1 : Int32) (v2 : Int32) (v3 : Int32) (μ : g_St) : Option (Int32 × g_St) :=
  (some (g_sI μ 0 0 (0 : Int32))).bind fun μ1 =>
  (mm_within μ1 v1 (0 : Int32) (9999 : Int32)).bind fun x2 =>
  (if x2 = 0 then
  (some ((-1 : Int32), μ1))
  else
  (mm_within μ1 v2 (1 : Int32) (52 : Int32)).bind fun x3 =>
  (if x3 = 0 then
  (some ((-1 : Int32), μ1))
  else
  (mm_within μ1 v3 (0 : Int32) (1 : Int32)).bind fun x4 =>
  (if x4 = 0 then
  (some ((-1 : Int32), μ1))
  else
  (some (g_sL μ1 0 59 (v1.toInt64))).bind fun μ5 =>
  (mm_years_52 F v2 v3 F (0 : Int32) (0 : Int32) (0 : Int32) μ5))))
def mm_visited_36_b (F : Nat) (v1 : Int32) (v2 : Int32) (v3 : Int32) (K_20 : Int32 → Int32 → Int32 → g_St → Option (Int32 × g_St)) (K_36 : Int32 → Int32 → g_St → Option (Int32 × g_St)) (v4 : Int32) (v5 : Int32) (μ : g_St) : Option (Int32 × g_St) :=
  (g_rd μ 4 2 (0 : Int32)).bind fun x5 =>
  (if v5 < x5 then
  (if v5 = v3 then
  (K_36 (v4 + (0 : Int32)) (v5 + 1) μ)
  else
  (g_rd μ 39 256 (((1 : Int32) <<< (v3 &&& 31)) ||| ((1 : Int32) <<< (v5 &&& 31)))).bind fun x6 =>
  (if 0 ≤ x6 then
  (K_36 (v4 + (1 : Int32)) (v5 + 1) μ)
  else
  (K_36 (v4 + (0 : Int32)) (v5 + 1) μ)))
  else
  (if 0 ≤ v1 then
  (if v4 ≤ v2 then
  (K_20 v1 v2 (v3 + 1) μ)
  else
  (K_20 v3 v4 (v3 + 1) μ))
  else
  (K_20 v3 v4 (v3 + 1) μ)))
def mm_visited_36 (F : Nat) (v1 : Int32) (v2 : Int32) (v3 : Int32) (K_20 : Int32 → Int32 → Int32 → g_St → Option (Int32 × g_St)) : Nat → Int32 → Int32 → g_St → Option (Int32 × g_St)
  | 0, _, _, _ => none
  | f + 1, v4, v5, μ => mm_visited_36_b F v1 v2 v3 K_20 (mm_visited_36 F v1 v2 v3 K_20 f) v4 v5 μ
def mm_visited_20_b (F : Nat) (K_20 : Int32 → Int32 → Int32 → g_St → Option (Int32 × g_St)) (v1 : Int32) (v2 : Int32) (v3 : Int32) (μ : g_St) : Option (Int32 × g_St) :=
  (g_rd μ 4 2 (0 : Int32)).bind fun x4 =>
  (if v3 < x4 then
  (mm_visited_36 F v1 v2 v3 K_20 F (0 : Int32) (0 : Int32) μ)
  else
  (some (v1, μ)))
def mm_visited_20 (F : Nat) : Nat → Int32 → Int32 → Int32 → g_St → Option (Int32 × g_St)
  | 0, _, _, _, _ => none
  | f + 1, v1, v2, v3, μ => mm_visited_20_b F (mm_visited_20 F f) v1 v2 v3 μ
def mm_visited (F : Nat) (μ : g_St) : Option (Int32 × g_St) :=
  (some (g_sI μ 0 0 (0 : Int32))).bind fun μ1 =>
  (mm_laysOut F (0 : Int32) μ1).bind fun μ2 =>
  (mm_rings F μ2).bind fun μ3 =>
  (mm_visited_20 F F (-1 : Int32) (0 : Int32) (0 : Int32) μ3)
def mm_keeps (v1 : Int32) (v2 : Int32) (v3 : Int32) (μ : g_St) : Option (Int32 × g_St) :=
  (if v3 = 0 then
  (g_wr μ 48 1000 v1 v2).bind fun μ2 =>
  (some (v2, μ2))
  else
  (g_rd μ 48 1000 v1).bind fun x1 =>
  (some (x1, μ)))
def mm_mark_312 (F : Nat) (K_275 : Int32 → g_St → Option (Int32 × g_St)) (v2 : Int32) (v3 : Int32) (v4 : Int32) (s0 : Int32) (s1 : Int32) (s3 : Int32) (μ : g_St) : Option (Int32 × g_St) :=
  (mm_keeps s1 s0 v2 μ).bind fun q29 =>
  (if q29.1 = (1 : Int32) then
  (g_wr q29.2 36 6 s3 (g_nz (1 : Int32))).bind fun μ30 =>
  (K_275 (v4 + 1) μ30)
  else
  (g_wr q29.2 36 6 s3 (g_nz (0 : Int32))).bind fun μ31 =>
  (K_275 (v4 + 1) μ31))
def mm_mark_275_b (F : Nat) (v2 : Int32) (v3 : Int32) (K_275 : Int32 → g_St → Option (Int32 × g_St)) (v4 : Int32) (μ : g_St) : Option (Int32 × g_St) :=
  (if v4 < (6 : Int32) then
  (g_rd μ 36 6 v4).bind fun x28 =>
  (if x28 = 0 then
  (mm_mark_312 F K_275 v2 v3 v4 (0 : Int32) ((v3 + (217 : Int32)) + v4) v4 μ)
  else
  (mm_mark_312 F K_275 v2 v3 v4 (1 : Int32) ((v3 + (217 : Int32)) + v4) v4 μ))
  else
  (some ((1 : Int32), μ)))
def mm_mark_275 (F : Nat) (v2 : Int32) (v3 : Int32) : Nat → Int32 → g_St → Option (Int32 × g_St)
  | 0, _, _ => none
  | f + 1, v4, μ => mm_mark_275_b F v2 v3 (mm_mark_275 F v2 v3 f) v4 μ
def mm_mark_205_b (F : Nat) (v2 : Int32) (v3 : Int32) (K_205 : Int32 → g_St → Option (Int32 × g_St)) (v4 : Int32) (μ : g_St) : Option (Int32 × g_St) :=
  (if v4 < (8 : Int32) then
  (g_rd μ 34 8 v4).bind fun x22 =>
  (mm_keeps ((v3 + (201 : Int32)) + v4) x22 v2 μ).bind fun q23 =>
  (g_wr q23.2 34 8 v4 q23.1).bind fun μ24 =>
  (g_rd μ24 35 8 v4).bind fun x25 =>
  (mm_keeps ((v3 + (209 : Int32)) + v4) x25 v2 μ24).bind fun q26 =>
  (g_wr q26.2 35 8 v4 q26.1).bind fun μ27 =>
  (K_205 (v4 + 1) μ27)
  else
  (mm_mark_275 F v2 v3 F (0 : Int32) μ))
def mm_mark_205 (F : Nat) (v2 : Int32) (v3 : Int32) : Nat → Int32 → g_St → Option (Int32 × g_St)
  | 0, _, _ => none
  | f + 1, v4, μ => mm_mark_205_b F v2 v3 (mm_mark_205 F v2 v3 f) v4 μ
def mm_mark_59_b (F : Nat) (v2 : Int32) (v3 : Int32) (K_59 : Int32 → g_St → Option (Int32 × g_St)) (v4 : Int32) (μ : g_St) : Option (Int32 × g_St) :=
  (if v4 < (40 : Int32) then
  (g_rd μ 29 40 v4).bind fun x7 =>
  (mm_keeps ((v3 + (1 : Int32)) + v4) x7 v2 μ).bind fun q8 =>
  (g_wr q8.2 29 40 v4 q8.1).bind fun μ9 =>
  (g_rd μ9 30 40 v4).bind fun x10 =>
  (mm_keeps ((v3 + (41 : Int32)) + v4) x10 v2 μ9).bind fun q11 =>
  (g_wr q11.2 30 40 v4 q11.1).bind fun μ12 =>
  (g_rd μ12 31 40 v4).bind fun x13 =>
  (mm_keeps ((v3 + (81 : Int32)) + v4) x13 v2 μ12).bind fun q14 =>
  (g_wr q14.2 31 40 v4 q14.1).bind fun μ15 =>
  (g_rd μ15 32 40 v4).bind fun x16 =>
  (mm_keeps ((v3 + (121 : Int32)) + v4) x16 v2 μ15).bind fun q17 =>
  (g_wr q17.2 32 40 v4 q17.1).bind fun μ18 =>
  (g_rd μ18 33 40 v4).bind fun x19 =>
  (mm_keeps ((v3 + (161 : Int32)) + v4) x19 v2 μ18).bind fun q20 =>
  (g_wr q20.2 33 40 v4 q20.1).bind fun μ21 =>
  (K_59 (v4 + 1) μ21)
  else
  (mm_mark_205 F v2 v3 F (0 : Int32) μ))
def mm_mark_59 (F : Nat) (v2 : Int32) (v3 : Int32) : Nat → Int32 → g_St → Option (Int32 × g_St)
  | 0, _, _ => none
  | f + 1, v4, μ => mm_mark_59_b F v2 v3 (mm_mark_59 F v2 v3 f) v4 μ
def mm_mark_29 (F : Nat) (v1 : Int32) (v2 : Int32) (μ : g_St) : Option (Int32 × g_St) :=
  (g_wr μ 47 4 v1 (g_nz (1 : Int32))).bind fun μ4 =>
  (mm_keeps ((250 : Int32) * v1) (μ4.1 0 39) v2 μ4).bind fun q5 =>
  (some (g_sI q5.2 0 39 q5.1)).bind fun μ6 =>
  (mm_mark_59 F v2 ((250 : Int32) * v1) F (0 : Int32) μ6)
def mm_mark (F : Nat) (v1 : Int32) (v2 : Int32) (μ : g_St) : Option (Int32 × g_St) :=
  (some (g_sI μ 0 0 (0 : Int32))).bind fun μ1 =>
  (mm_within μ1 v1 (0 : Int32) (3 : Int32)).bind fun x2 =>
  (if x2 = 0 then
  (some ((0 : Int32), μ1))
  else
  (if v2 = 0 then
  (mm_mark_29 F v1 v2 μ1)
  else
  (g_rd μ1 47 4 v1).bind fun x3 =>
  (if x3 = 0 then
  (some ((0 : Int32), μ1))
  else
  (mm_mark_29 F v1 v2 μ1))))
def mm_count_28_b (F : Nat) (v1 : Int32) (K_28 : Int32 → Int32 → Int32 → g_St → Option (Int32 × g_St)) (v2 : Int32) (v3 : Int32) (v4 : Int32) (μ : g_St) : Option (Int32 × g_St) :=
  (g_rd μ 4 2 (0 : Int32)).bind fun x4 =>
  (if v4 < x4 then
  (mm_heldBy F μ v4).bind fun x5 =>
  (mm_happy F μ v4).bind fun x6 =>
  (K_28 (v2 + x5) (v3 + x6) (v4 + 1) μ)
  else
  (if v1 = 0 then
  (g_rd μ 2 2 (0 : Int32)).bind fun x7 =>
  (some (x7, μ))
  else
  (if v1 = (1 : Int32) then
  (g_rd μ 3 2 (0 : Int32)).bind fun x8 =>
  (some (x8, μ))
  else
  (if v1 = (2 : Int32) then
  (g_rd μ 4 2 (0 : Int32)).bind fun x9 =>
  (some (x9, μ))
  else
  (if v1 = (3 : Int32) then
  (some ((μ.1 0 39), μ))
  else
  (if v1 = (4 : Int32) then
  (some (v2, μ))
  else
  (if v1 = (5 : Int32) then
  (some ((μ.1 0 22), μ))
  else
  (if v1 = (6 : Int32) then
  (some ((μ.1 0 1), μ))
  else
  (some (v3, μ))))))))))
def mm_count_28 (F : Nat) (v1 : Int32) : Nat → Int32 → Int32 → Int32 → g_St → Option (Int32 × g_St)
  | 0, _, _, _, _ => none
  | f + 1, v2, v3, v4, μ => mm_count_28_b F v1 (mm_count_28 F v1 f) v2 v3 v4 μ
def mm_count (F : Nat) (v1 : Int32) (μ : g_St) : Option (Int32 × g_St) :=
  (some (g_sI μ 0 0 (0 : Int32))).bind fun μ1 =>
  (mm_within μ1 v1 (0 : Int32) (7 : Int32)).bind fun x2 =>
  (if x2 = 0 then
  (some ((-1 : Int32), μ1))
  else
  (mm_counts F μ1).bind fun μ3 =>
  (mm_count_28 F v1 F (0 : Int32) (0 : Int32) (0 : Int32) μ3))
