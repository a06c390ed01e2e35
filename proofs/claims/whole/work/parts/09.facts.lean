def g_zf : Nat → Nat := fun _ => 0
def g_fHomes : List (Nat × Nat) := [(2, 92), (0, 0), (0, 0), (0, 0), (0, 0), (0, 0)]
def g_fTape : List (Nat × Nat) := [(2, 2), (2, 3), (0, 0), (2, 4), (2, 5), (2, 6), (0, 0), (0, 0), (0, 0), (1, 0), (0, 0)]
def g_fLand (b : Nat) : List (Nat × Nat) := [(0, 0), (0, 0), (0, 0), (2, b + 1), (2, b + 2), (2, b + 3), (2, b + 4), (2, b + 10), (2, b + 11), (2, b + 12), (2, b + 13), (2, b + 14)]
def g_fRounds (b : Nat) : List (Nat × Nat) := [(2, b + 1), (2, b + 2), (2, b + 3), (2, b + 4), (2, b + 5), (2, b + 6), (2, b + 7), (2, b + 8), (2, b + 9)]
def g_fRule (b : Nat) : List (Nat × Nat) := [(2, b + 1), (2, b + 2), (0, 0), (0, 0), (2, b + 3)]
def g_fWeek (b : Nat) : List (Nat × Nat) := [(0, 0), (0, 0), (2, b + 1), (2, b + 2), (2, b + 3), (2, b + 4), (2, b + 5), (2, b + 6), (2, b + 7)]
def g_fOwn : List (Nat × Nat) := [(2, 1), (3, 0), (3, 1), (3, 2), (3, 3), (2, 61), (2, 69), (0, 0), (2, 70), (2, 71), (2, 81), (2, 91), (2, 99), (2, 100), (0, 0)]
def g_fModel : List (Nat × Nat) := [(0, 0), (0, 0), (2, 1), (0, 0), (0, 0), (0, 0), (0, 0), (1, 0), (0, 0), (0, 0), (2, 2), (2, 3), (2, 4), (2, 5), (2, 6), (2, 7), (2, 8), (2, 9), (2, 10), (2, 11), (2, 12), (2, 13), (0, 0), (2, 14), (2, 15), (2, 16), (0, 0), (2, 17), (2, 18), (2, 19), (2, 20), (2, 21), (2, 22), (2, 23), (2, 24), (2, 25), (2, 26), (2, 27), (2, 28), (0, 0), (2, 29), (2, 30), (2, 31), (2, 32), (2, 33), (2, 34), (2, 35), (2, 36), (2, 37), (2, 38), (2, 39), (2, 40), (2, 41), (2, 42), (2, 43), (2, 44), (2, 45), (0, 0), (2, 46), (1, 0), (2, 47), (2, 48)]
def g_cL : List g_Shp := [(.inl (6, g_fOwn)), (.inl (4, g_fTape)), (.inr (1, 20, g_zf)), (.inr (2, 1000, g_zf)), (.inr (0, 1001, g_zf)), (.inr (0, 1001, g_zf)), (.inr (1, 1001, g_zf)), (.inl (1, g_fLand 7)), (.inr (1, 5, g_zf)), (.inr (1, 6, g_zf)), (.inr (1, 8, g_zf)), (.inr (4, 5, fun j => 12 + j)), (.inr (0, 5, g_zf)), (.inr (0, 5, g_zf)), (.inr (0, 5, g_zf)), (.inr (0, 5, g_zf)), (.inr (0, 5, g_zf)), (.inr (0, 6, g_zf)), (.inr (0, 6, g_zf)), (.inr (0, 8, g_zf)), (.inr (0, 8, g_zf)), (.inr (4, 8, fun j => 22 + j)), (.inr (0, 18, g_zf)), (.inr (0, 18, g_zf)), (.inr (0, 18, g_zf)), (.inr (0, 18, g_zf)), (.inr (0, 18, g_zf)), (.inr (0, 18, g_zf)), (.inr (0, 18, g_zf)), (.inr (0, 18, g_zf)), (.inl (1, g_fLand 30)), (.inr (1, 5, g_zf)), (.inr (1, 6, g_zf)), (.inr (1, 8, g_zf)), (.inr (4, 5, fun j => 35 + j)), (.inr (0, 5, g_zf)), (.inr (0, 5, g_zf)), (.inr (0, 5, g_zf)), (.inr (0, 5, g_zf)), (.inr (0, 5, g_zf)), (.inr (0, 6, g_zf)), (.inr (0, 6, g_zf)), (.inr (0, 8, g_zf)), (.inr (0, 8, g_zf)), (.inr (4, 8, fun j => 45 + j)), (.inr (0, 18, g_zf)), (.inr (0, 18, g_zf)), (.inr (0, 18, g_zf)), (.inr (0, 18, g_zf)), (.inr (0, 18, g_zf)), (.inr (0, 18, g_zf)), (.inr (0, 18, g_zf)), (.inr (0, 18, g_zf)), (.inl (3, g_fRule 53)), (.inr (0, 1000, g_zf)), (.inr (0, 6, g_zf)), (.inr (0, 32, g_zf)), (.inl (3, g_fRule 57)), (.inr (0, 1000, g_zf)), (.inr (0, 6, g_zf)), (.inr (0, 32, g_zf)), (.inl (5, g_fWeek 61)), (.inr (0, 40, g_zf)), (.inr (0, 40, g_zf)), (.inr (0, 40, g_zf)), (.inr (0, 40, g_zf)), (.inr (0, 40, g_zf)), (.inr (0, 8, g_zf)), (.inr (0, 8, g_zf)), (.inr (5, 4, fun j => 101 + 8 * j)), (.inr (0, 20, g_zf)), (.inl (2, g_fRounds 71)), (.inr (0, 64, g_zf)), (.inr (0, 48, g_zf)), (.inr (0, 48, g_zf)), (.inr (0, 48, g_zf)), (.inr (0, 48, g_zf)), (.inr (0, 256, g_zf)), (.inr (0, 256, g_zf)), (.inr (0, 256, g_zf)), (.inr (0, 256, g_zf)), (.inl (2, g_fRounds 81)), (.inr (0, 64, g_zf)), (.inr (0, 48, g_zf)), (.inr (0, 48, g_zf)), (.inr (0, 48, g_zf)), (.inr (0, 48, g_zf)), (.inr (0, 256, g_zf)), (.inr (0, 256, g_zf)), (.inr (0, 256, g_zf)), (.inr (0, 256, g_zf)), (.inl (0, g_fHomes)), (.inr (4, 6, fun j => 93 + j)), (.inr (0, 256, g_zf)), (.inr (0, 256, g_zf)), (.inr (0, 256, g_zf)), (.inr (0, 256, g_zf)), (.inr (0, 256, g_zf)), (.inr (0, 256, g_zf)), (.inr (0, 8, g_zf)), (.inr (0, 64, g_zf)), (.inl (5, g_fWeek 101)), (.inr (0, 40, g_zf)), (.inr (0, 40, g_zf)), (.inr (0, 40, g_zf)), (.inr (0, 40, g_zf)), (.inr (0, 40, g_zf)), (.inr (0, 8, g_zf)), (.inr (0, 8, g_zf)), (.inl (5, g_fWeek 109)), (.inr (0, 40, g_zf)), (.inr (0, 40, g_zf)), (.inr (0, 40, g_zf)), (.inr (0, 40, g_zf)), (.inr (0, 40, g_zf)), (.inr (0, 8, g_zf)), (.inr (0, 8, g_zf)), (.inl (5, g_fWeek 117)), (.inr (0, 40, g_zf)), (.inr (0, 40, g_zf)), (.inr (0, 40, g_zf)), (.inr (0, 40, g_zf)), (.inr (0, 40, g_zf)), (.inr (0, 8, g_zf)), (.inr (0, 8, g_zf)), (.inl (5, g_fWeek 125)), (.inr (0, 40, g_zf)), (.inr (0, 40, g_zf)), (.inr (0, 40, g_zf)), (.inr (0, 40, g_zf)), (.inr (0, 40, g_zf)), (.inr (0, 8, g_zf)), (.inr (0, 8, g_zf))]
def g_rL : List g_Shp := [(.inl (7, g_fModel)), (.inr (0, 1000, g_zf)), (.inr (0, 2, g_zf)), (.inr (0, 2, g_zf)), (.inr (0, 2, g_zf)), (.inr (1, 10, g_zf)), (.inr (1, 12, g_zf)), (.inr (1, 16, g_zf)), (.inr (0, 50, g_zf)), (.inr (0, 12, g_zf)), (.inr (0, 12, g_zf)), (.inr (0, 16, g_zf)), (.inr (0, 16, g_zf)), (.inr (0, 288, g_zf)), (.inr (0, 12, g_zf)), (.inr (0, 12, g_zf)), (.inr (0, 2000, g_zf)), (.inr (0, 7, g_zf)), (.inr (3, 7, g_zf)), (.inr (0, 7, g_zf)), (.inr (0, 7, g_zf)), (.inr (0, 7, g_zf)), (.inr (0, 7, g_zf)), (.inr (0, 7, g_zf)), (.inr (0, 7, g_zf)), (.inr (0, 7, g_zf)), (.inr (0, 7, g_zf)), (.inr (0, 7, g_zf)), (.inr (0, 20, g_zf)), (.inr (0, 40, g_zf)), (.inr (0, 40, g_zf)), (.inr (0, 40, g_zf)), (.inr (0, 40, g_zf)), (.inr (0, 40, g_zf)), (.inr (0, 8, g_zf)), (.inr (0, 8, g_zf)), (.inr (3, 6, g_zf)), (.inr (0, 48, g_zf)), (.inr (3, 384, g_zf)), (.inr (0, 256, g_zf)), (.inr (0, 5, g_zf)), (.inr (0, 216, g_zf)), (.inr (0, 256, g_zf)), (.inr (0, 256, g_zf)), (.inr (0, 256, g_zf)), (.inr (0, 1536, g_zf)), (.inr (0, 8, g_zf)), (.inr (3, 4, g_zf)), (.inr (0, 1000, g_zf))]
def gC : g_Lay := (133, fun id => g_cL.getD id (.inl (0, [])))
def gR : g_Lay := (49, fun id => g_rL.getD id (.inl (0, [])))
abbrev g_isLand (b : Nat) : Prop := b = 7 ∨ b = 30
abbrev g_isRule (b : Nat) : Prop := b = 53 ∨ b = 57
abbrev g_isWeek (b : Nat) : Prop := b = 61 ∨ b = 101 ∨ b = 109 ∨ b = 117 ∨ b = 125
abbrev g_isRounds (b : Nat) : Prop := b = 71 ∨ b = 81
theorem ly_Own : gC.2 0 = (.inl (6, g_fOwn)) := rfl
theorem ly_Own_lt : 0 < gC.1 := Nat.le_of_ble_eq_true rfl
theorem ly_Model : gR.2 0 = (.inl (7, g_fModel)) := rfl
theorem ly_Model_lt : 0 < gR.1 := Nat.le_of_ble_eq_true rfl
theorem ly_Tape : gC.2 1 = (.inl (4, g_fTape)) := rfl
theorem ly_Tape_lt : 1 < gC.1 := Nat.le_of_ble_eq_true rfl
theorem ly_Homes : gC.2 91 = (.inl (0, g_fHomes)) := rfl
theorem ly_Homes_lt : 91 < gC.1 := Nat.le_of_ble_eq_true rfl
theorem ly_Model_tape : gR.2 1 = (.inr (0, 1000, g_zf)) := rfl
theorem ly_Model_tape_lt : 1 < gR.1 := Nat.le_of_ble_eq_true rfl
theorem ly_Model_places : gR.2 2 = (.inr (0, 2, g_zf)) := rfl
theorem ly_Model_places_lt : 2 < gR.1 := Nat.le_of_ble_eq_true rfl
theorem ly_Model_goods : gR.2 3 = (.inr (0, 2, g_zf)) := rfl
theorem ly_Model_goods_lt : 3 < gR.1 := Nat.le_of_ble_eq_true rfl
theorem ly_Model_people : gR.2 4 = (.inr (0, 2, g_zf)) := rfl
theorem ly_Model_people_lt : 4 < gR.1 := Nat.le_of_ble_eq_true rfl
theorem ly_Model_placeName : gR.2 5 = (.inr (1, 10, g_zf)) := rfl
theorem ly_Model_placeName_lt : 5 < gR.1 := Nat.le_of_ble_eq_true rfl
theorem ly_Model_goodName : gR.2 6 = (.inr (1, 12, g_zf)) := rfl
theorem ly_Model_goodName_lt : 6 < gR.1 := Nat.le_of_ble_eq_true rfl
theorem ly_Model_personName : gR.2 7 = (.inr (1, 16, g_zf)) := rfl
theorem ly_Model_personName_lt : 7 < gR.1 := Nat.le_of_ble_eq_true rfl
theorem ly_Model_ways : gR.2 8 = (.inr (0, 50, g_zf)) := rfl
theorem ly_Model_ways_lt : 8 < gR.1 := Nat.le_of_ble_eq_true rfl
theorem ly_Model_goodHours : gR.2 9 = (.inr (0, 12, g_zf)) := rfl
theorem ly_Model_goodHours_lt : 9 < gR.1 := Nat.le_of_ble_eq_true rfl
theorem ly_Model_goodFrom : gR.2 10 = (.inr (0, 12, g_zf)) := rfl
theorem ly_Model_goodFrom_lt : 10 < gR.1 := Nat.le_of_ble_eq_true rfl
theorem ly_Model_home : gR.2 11 = (.inr (0, 16, g_zf)) := rfl
theorem ly_Model_home_lt : 11 < gR.1 := Nat.le_of_ble_eq_true rfl
theorem ly_Model_made : gR.2 12 = (.inr (0, 16, g_zf)) := rfl
theorem ly_Model_made_lt : 12 < gR.1 := Nat.le_of_ble_eq_true rfl
theorem ly_Model_worths : gR.2 13 = (.inr (0, 288, g_zf)) := rfl
theorem ly_Model_worths_lt : 13 < gR.1 := Nat.le_of_ble_eq_true rfl
theorem ly_Model_lineFrom : gR.2 14 = (.inr (0, 12, g_zf)) := rfl
theorem ly_Model_lineFrom_lt : 14 < gR.1 := Nat.le_of_ble_eq_true rfl
theorem ly_Model_lineTo : gR.2 15 = (.inr (0, 12, g_zf)) := rfl
theorem ly_Model_lineTo_lt : 15 < gR.1 := Nat.le_of_ble_eq_true rfl
theorem ly_Model_codes : gR.2 16 = (.inr (0, 2000, g_zf)) := rfl
theorem ly_Model_codes_lt : 16 < gR.1 := Nat.le_of_ble_eq_true rfl
theorem ly_Model_opened : gR.2 17 = (.inr (0, 7, g_zf)) := rfl
theorem ly_Model_opened_lt : 17 < gR.1 := Nat.le_of_ble_eq_true rfl
theorem ly_Model_compared : gR.2 18 = (.inr (3, 7, g_zf)) := rfl
theorem ly_Model_compared_lt : 18 < gR.1 := Nat.le_of_ble_eq_true rfl
theorem ly_Model_kept : gR.2 19 = (.inr (0, 7, g_zf)) := rfl
theorem ly_Model_kept_lt : 19 < gR.1 := Nat.le_of_ble_eq_true rfl
theorem ly_Model_keptBy : gR.2 20 = (.inr (0, 7, g_zf)) := rfl
theorem ly_Model_keptBy_lt : 20 < gR.1 := Nat.le_of_ble_eq_true rfl
theorem ly_Model_ahead : gR.2 21 = (.inr (0, 7, g_zf)) := rfl
theorem ly_Model_ahead_lt : 21 < gR.1 := Nat.le_of_ble_eq_true rfl
theorem ly_Model_against : gR.2 22 = (.inr (0, 7, g_zf)) := rfl
theorem ly_Model_against_lt : 22 < gR.1 := Nat.le_of_ble_eq_true rfl
theorem ly_Model_sum : gR.2 23 = (.inr (0, 7, g_zf)) := rfl
theorem ly_Model_sum_lt : 23 < gR.1 := Nat.le_of_ble_eq_true rfl
theorem ly_Model_sumBy : gR.2 24 = (.inr (0, 7, g_zf)) := rfl
theorem ly_Model_sumBy_lt : 24 < gR.1 := Nat.le_of_ble_eq_true rfl
theorem ly_Model_term : gR.2 25 = (.inr (0, 7, g_zf)) := rfl
theorem ly_Model_term_lt : 25 < gR.1 := Nat.le_of_ble_eq_true rfl
theorem ly_Model_termBy : gR.2 26 = (.inr (0, 7, g_zf)) := rfl
theorem ly_Model_termBy_lt : 26 < gR.1 := Nat.le_of_ble_eq_true rfl
theorem ly_Model_byNot : gR.2 27 = (.inr (0, 7, g_zf)) := rfl
theorem ly_Model_byNot_lt : 27 < gR.1 := Nat.le_of_ble_eq_true rfl
theorem ly_Model_valueOf : gR.2 28 = (.inr (0, 20, g_zf)) := rfl
theorem ly_Model_valueOf_lt : 28 < gR.1 := Nat.le_of_ble_eq_true rfl
theorem ly_Model_goodAt : gR.2 29 = (.inr (0, 40, g_zf)) := rfl
theorem ly_Model_goodAt_lt : 29 < gR.1 := Nat.le_of_ble_eq_true rfl
theorem ly_Model_sortAt : gR.2 30 = (.inr (0, 40, g_zf)) := rfl
theorem ly_Model_sortAt_lt : 30 < gR.1 := Nat.le_of_ble_eq_true rfl
theorem ly_Model_makersAt : gR.2 31 = (.inr (0, 40, g_zf)) := rfl
theorem ly_Model_makersAt_lt : 31 < gR.1 := Nat.le_of_ble_eq_true rfl
theorem ly_Model_holder : gR.2 32 = (.inr (0, 40, g_zf)) := rfl
theorem ly_Model_holder_lt : 32 < gR.1 := Nat.le_of_ble_eq_true rfl
theorem ly_Model_hourAt : gR.2 33 = (.inr (0, 40, g_zf)) := rfl
theorem ly_Model_hourAt_lt : 33 < gR.1 := Nat.le_of_ble_eq_true rfl
theorem ly_Model_where : gR.2 34 = (.inr (0, 8, g_zf)) := rfl
theorem ly_Model_where_lt : 34 < gR.1 := Nat.le_of_ble_eq_true rfl
theorem ly_Model_clock : gR.2 35 = (.inr (0, 8, g_zf)) := rfl
theorem ly_Model_clock_lt : 35 < gR.1 := Nat.le_of_ble_eq_true rfl
theorem ly_Model_free : gR.2 36 = (.inr (3, 6, g_zf)) := rfl
theorem ly_Model_free_lt : 36 < gR.1 := Nat.le_of_ble_eq_true rfl
theorem ly_Model_many : gR.2 37 = (.inr (0, 48, g_zf)) := rfl
theorem ly_Model_many_lt : 37 < gR.1 := Nat.le_of_ble_eq_true rfl
theorem ly_Model_can : gR.2 38 = (.inr (3, 384, g_zf)) := rfl
theorem ly_Model_can_lt : 38 < gR.1 := Nat.le_of_ble_eq_true rfl
theorem ly_Model_ring : gR.2 39 = (.inr (0, 256, g_zf)) := rfl
theorem ly_Model_ring_lt : 39 < gR.1 := Nat.le_of_ble_eq_true rfl
theorem ly_Model_path : gR.2 40 = (.inr (0, 5, g_zf)) := rfl
theorem ly_Model_path_lt : 40 < gR.1 := Nat.le_of_ble_eq_true rfl
theorem ly_Model_table : gR.2 41 = (.inr (0, 216, g_zf)) := rfl
theorem ly_Model_table_lt : 41 < gR.1 := Nat.le_of_ble_eq_true rfl
theorem ly_Model_mostWorth : gR.2 42 = (.inr (0, 256, g_zf)) := rfl
theorem ly_Model_mostWorth_lt : 42 < gR.1 := Nat.le_of_ble_eq_true rfl
theorem ly_Model_mostRounds : gR.2 43 = (.inr (0, 256, g_zf)) := rfl
theorem ly_Model_mostRounds_lt : 43 < gR.1 := Nat.le_of_ble_eq_true rfl
theorem ly_Model_mostPeople : gR.2 44 = (.inr (0, 256, g_zf)) := rfl
theorem ly_Model_mostPeople_lt : 44 < gR.1 := Nat.le_of_ble_eq_true rfl
theorem ly_Model_lives : gR.2 45 = (.inr (0, 1536, g_zf)) := rfl
theorem ly_Model_lives_lt : 45 < gR.1 := Nat.le_of_ble_eq_true rfl
theorem ly_Model_takes : gR.2 46 = (.inr (0, 8, g_zf)) := rfl
theorem ly_Model_takes_lt : 46 < gR.1 := Nat.le_of_ble_eq_true rfl
theorem ly_Model_isLaid : gR.2 47 = (.inr (3, 4, g_zf)) := rfl
theorem ly_Model_isLaid_lt : 47 < gR.1 := Nat.le_of_ble_eq_true rfl
theorem ly_Model_marked : gR.2 48 = (.inr (0, 1000, g_zf)) := rfl
theorem ly_Model_marked_lt : 48 < gR.1 := Nat.le_of_ble_eq_true rfl
theorem ly_Own_facts : gC.2 70 = (.inr (0, 20, g_zf)) := rfl
theorem ly_Own_facts_lt : 70 < gC.1 := Nat.le_of_ble_eq_true rfl
theorem ly_Own_shares : gC.2 99 = (.inr (0, 8, g_zf)) := rfl
theorem ly_Own_shares_lt : 99 < gC.1 := Nat.le_of_ble_eq_true rfl
theorem ly_Own_wares : gC.2 100 = (.inr (0, 64, g_zf)) := rfl
theorem ly_Own_wares_lt : 100 < gC.1 := Nat.le_of_ble_eq_true rfl
theorem ly_Own_marks : gC.2 69 = (.inr (5, 4, fun j => 101 + 8 * j)) := rfl
theorem ly_Own_marks_lt : 69 < gC.1 := Nat.le_of_ble_eq_true rfl
theorem ly_Tape_words : gC.2 2 = (.inr (1, 20, g_zf)) := rfl
theorem ly_Tape_words_lt : 2 < gC.1 := Nat.le_of_ble_eq_true rfl
theorem ly_Tape_signs : gC.2 3 = (.inr (2, 1000, g_zf)) := rfl
theorem ly_Tape_signs_lt : 3 < gC.1 := Nat.le_of_ble_eq_true rfl
theorem ly_Tape_kinds : gC.2 4 = (.inr (0, 1001, g_zf)) := rfl
theorem ly_Tape_kinds_lt : 4 < gC.1 := Nat.le_of_ble_eq_true rfl
theorem ly_Tape_starts : gC.2 5 = (.inr (0, 1001, g_zf)) := rfl
theorem ly_Tape_starts_lt : 5 < gC.1 := Nat.le_of_ble_eq_true rfl
theorem ly_Tape_values : gC.2 6 = (.inr (1, 1001, g_zf)) := rfl
theorem ly_Tape_values_lt : 6 < gC.1 := Nat.le_of_ble_eq_true rfl
theorem ly_Homes_sums : gC.2 92 = (.inr (4, 6, fun j => 93 + j)) := rfl
theorem ly_Homes_sums_lt : 92 < gC.1 := Nat.le_of_ble_eq_true rfl
theorem ly_Homes_sums_row : ∀ {j : Nat}, j < 6 → gC.2 (93 + j) = .inr (0, 256, g_zf) := by
  intro j hj
  match j, hj with
  | 0, _ => rfl
  | 1, _ => rfl
  | 2, _ => rfl
  | 3, _ => rfl
  | 4, _ => rfl
  | 5, _ => rfl
theorem ly_Homes_sums_row_lt {j : Nat} (h : j < 6) : 93 + j < gC.1 := by show _ < 133; omega
theorem ly_Rounds0_gifts : gC.2 72 = (.inr (0, 64, g_zf)) := rfl
theorem ly_Rounds0_gifts_lt : 72 < gC.1 := Nat.le_of_ble_eq_true rfl
theorem ly_Rounds0_held : gC.2 73 = (.inr (0, 48, g_zf)) := rfl
theorem ly_Rounds0_held_lt : 73 < gC.1 := Nat.le_of_ble_eq_true rfl
theorem ly_Rounds0_more : gC.2 74 = (.inr (0, 48, g_zf)) := rfl
theorem ly_Rounds0_more_lt : 74 < gC.1 := Nat.le_of_ble_eq_true rfl
theorem ly_Rounds0_last : gC.2 75 = (.inr (0, 48, g_zf)) := rfl
theorem ly_Rounds0_last_lt : 75 < gC.1 := Nat.le_of_ble_eq_true rfl
theorem ly_Rounds0_glad : gC.2 76 = (.inr (0, 48, g_zf)) := rfl
theorem ly_Rounds0_glad_lt : 76 < gC.1 := Nat.le_of_ble_eq_true rfl
theorem ly_Rounds0_best : gC.2 77 = (.inr (0, 256, g_zf)) := rfl
theorem ly_Rounds0_best_lt : 77 < gC.1 := Nat.le_of_ble_eq_true rfl
theorem ly_Rounds0_worth : gC.2 78 = (.inr (0, 256, g_zf)) := rfl
theorem ly_Rounds0_worth_lt : 78 < gC.1 := Nat.le_of_ble_eq_true rfl
theorem ly_Rounds0_many : gC.2 79 = (.inr (0, 256, g_zf)) := rfl
theorem ly_Rounds0_many_lt : 79 < gC.1 := Nat.le_of_ble_eq_true rfl
theorem ly_Rounds0_within : gC.2 80 = (.inr (0, 256, g_zf)) := rfl
theorem ly_Rounds0_within_lt : 80 < gC.1 := Nat.le_of_ble_eq_true rfl
theorem ly_Land {b : Nat} (h : g_isLand b) : gC.2 b = (.inl (1, g_fLand b)) := by rcases h with rfl | rfl <;> rfl
theorem ly_Land_lt {b : Nat} (h : g_isLand b) : b < gC.1 := by rcases h with rfl | rfl <;> exact Nat.le_of_ble_eq_true rfl
theorem ly_Land_placeNames {b : Nat} (h : g_isLand b) : gC.2 (b + 1) = (.inr (1, 5, g_zf)) := by rcases h with rfl | rfl <;> rfl
theorem ly_Land_placeNames_lt {b : Nat} (h : g_isLand b) : b + 1 < gC.1 := by rcases h with rfl | rfl <;> exact Nat.le_of_ble_eq_true rfl
theorem ly_Land_goodNames {b : Nat} (h : g_isLand b) : gC.2 (b + 2) = (.inr (1, 6, g_zf)) := by rcases h with rfl | rfl <;> rfl
theorem ly_Land_goodNames_lt {b : Nat} (h : g_isLand b) : b + 2 < gC.1 := by rcases h with rfl | rfl <;> exact Nat.le_of_ble_eq_true rfl
theorem ly_Land_personNames {b : Nat} (h : g_isLand b) : gC.2 (b + 3) = (.inr (1, 8, g_zf)) := by rcases h with rfl | rfl <;> rfl
theorem ly_Land_personNames_lt {b : Nat} (h : g_isLand b) : b + 3 < gC.1 := by rcases h with rfl | rfl <;> exact Nat.le_of_ble_eq_true rfl
theorem ly_Land_ways {b : Nat} (h : g_isLand b) : gC.2 (b + 4) = .inr (4, 5, fun j => b + 5 + j) := by rcases h with rfl | rfl <;> rfl
theorem ly_Land_ways_row {b : Nat} (h : g_isLand b) : ∀ {j : Nat}, j < 5 → gC.2 (b + 5 + j) = .inr (0, 5, g_zf) := by
  intro j hj
  match j, hj with
  | 0, _ => rcases h with rfl | rfl <;> rfl
  | 1, _ => rcases h with rfl | rfl <;> rfl
  | 2, _ => rcases h with rfl | rfl <;> rfl
  | 3, _ => rcases h with rfl | rfl <;> rfl
  | 4, _ => rcases h with rfl | rfl <;> rfl
theorem ly_Land_ways_row_lt {b j : Nat} (h : g_isLand b) (hj : j < 5) : b + 5 + j < gC.1 := by rcases h with rfl | rfl <;> (show _ < 133; omega)
theorem ly_Land_ways_lt {b : Nat} (h : g_isLand b) : b + 4 < gC.1 := by rcases h with rfl | rfl <;> exact Nat.le_of_ble_eq_true rfl
theorem ly_Land_hours {b : Nat} (h : g_isLand b) : gC.2 (b + 10) = (.inr (0, 6, g_zf)) := by rcases h with rfl | rfl <;> rfl
theorem ly_Land_hours_lt {b : Nat} (h : g_isLand b) : b + 10 < gC.1 := by rcases h with rfl | rfl <;> exact Nat.le_of_ble_eq_true rfl
theorem ly_Land_from {b : Nat} (h : g_isLand b) : gC.2 (b + 11) = (.inr (0, 6, g_zf)) := by rcases h with rfl | rfl <;> rfl
theorem ly_Land_from_lt {b : Nat} (h : g_isLand b) : b + 11 < gC.1 := by rcases h with rfl | rfl <;> exact Nat.le_of_ble_eq_true rfl
theorem ly_Land_home {b : Nat} (h : g_isLand b) : gC.2 (b + 12) = (.inr (0, 8, g_zf)) := by rcases h with rfl | rfl <;> rfl
theorem ly_Land_home_lt {b : Nat} (h : g_isLand b) : b + 12 < gC.1 := by rcases h with rfl | rfl <;> exact Nat.le_of_ble_eq_true rfl
theorem ly_Land_makes {b : Nat} (h : g_isLand b) : gC.2 (b + 13) = (.inr (0, 8, g_zf)) := by rcases h with rfl | rfl <;> rfl
theorem ly_Land_makes_lt {b : Nat} (h : g_isLand b) : b + 13 < gC.1 := by rcases h with rfl | rfl <;> exact Nat.le_of_ble_eq_true rfl
theorem ly_Land_worths {b : Nat} (h : g_isLand b) : gC.2 (b + 14) = .inr (4, 8, fun j => b + 15 + j) := by rcases h with rfl | rfl <;> rfl
theorem ly_Land_worths_row {b : Nat} (h : g_isLand b) : ∀ {j : Nat}, j < 8 → gC.2 (b + 15 + j) = .inr (0, 18, g_zf) := by
  intro j hj
  match j, hj with
  | 0, _ => rcases h with rfl | rfl <;> rfl
  | 1, _ => rcases h with rfl | rfl <;> rfl
  | 2, _ => rcases h with rfl | rfl <;> rfl
  | 3, _ => rcases h with rfl | rfl <;> rfl
  | 4, _ => rcases h with rfl | rfl <;> rfl
  | 5, _ => rcases h with rfl | rfl <;> rfl
  | 6, _ => rcases h with rfl | rfl <;> rfl
  | 7, _ => rcases h with rfl | rfl <;> rfl
theorem ly_Land_worths_row_lt {b j : Nat} (h : g_isLand b) (hj : j < 8) : b + 15 + j < gC.1 := by rcases h with rfl | rfl <;> (show _ < 133; omega)
theorem ly_Land_worths_lt {b : Nat} (h : g_isLand b) : b + 14 < gC.1 := by rcases h with rfl | rfl <;> exact Nat.le_of_ble_eq_true rfl
theorem ly_Rule {b : Nat} (h : g_isRule b) : gC.2 b = (.inl (3, g_fRule b)) := by rcases h with rfl | rfl <;> rfl
theorem ly_Rule_lt {b : Nat} (h : g_isRule b) : b < gC.1 := by rcases h with rfl | rfl <;> exact Nat.le_of_ble_eq_true rfl
theorem ly_Rule_steps {b : Nat} (h : g_isRule b) : gC.2 (b + 1) = (.inr (0, 1000, g_zf)) := by rcases h with rfl | rfl <;> rfl
theorem ly_Rule_steps_lt {b : Nat} (h : g_isRule b) : b + 1 < gC.1 := by rcases h with rfl | rfl <;> exact Nat.le_of_ble_eq_true rfl
theorem ly_Rule_ends {b : Nat} (h : g_isRule b) : gC.2 (b + 2) = (.inr (0, 6, g_zf)) := by rcases h with rfl | rfl <;> rfl
theorem ly_Rule_ends_lt {b : Nat} (h : g_isRule b) : b + 2 < gC.1 := by rcases h with rfl | rfl <;> exact Nat.le_of_ble_eq_true rfl
theorem ly_Rule_stack {b : Nat} (h : g_isRule b) : gC.2 (b + 3) = (.inr (0, 32, g_zf)) := by rcases h with rfl | rfl <;> rfl
theorem ly_Rule_stack_lt {b : Nat} (h : g_isRule b) : b + 3 < gC.1 := by rcases h with rfl | rfl <;> exact Nat.le_of_ble_eq_true rfl
theorem ly_Week {b : Nat} (h : g_isWeek b) : gC.2 b = (.inl (5, g_fWeek b)) := by rcases h with rfl | rfl | rfl | rfl | rfl <;> rfl
theorem ly_Week_lt {b : Nat} (h : g_isWeek b) : b < gC.1 := by rcases h with rfl | rfl | rfl | rfl | rfl <;> exact Nat.le_of_ble_eq_true rfl
theorem ly_Week_good {b : Nat} (h : g_isWeek b) : gC.2 (b + 1) = (.inr (0, 40, g_zf)) := by rcases h with rfl | rfl | rfl | rfl | rfl <;> rfl
theorem ly_Week_good_lt {b : Nat} (h : g_isWeek b) : b + 1 < gC.1 := by rcases h with rfl | rfl | rfl | rfl | rfl <;> exact Nat.le_of_ble_eq_true rfl
theorem ly_Week_sort {b : Nat} (h : g_isWeek b) : gC.2 (b + 2) = (.inr (0, 40, g_zf)) := by rcases h with rfl | rfl | rfl | rfl | rfl <;> rfl
theorem ly_Week_sort_lt {b : Nat} (h : g_isWeek b) : b + 2 < gC.1 := by rcases h with rfl | rfl | rfl | rfl | rfl <;> exact Nat.le_of_ble_eq_true rfl
theorem ly_Week_makers {b : Nat} (h : g_isWeek b) : gC.2 (b + 3) = (.inr (0, 40, g_zf)) := by rcases h with rfl | rfl | rfl | rfl | rfl <;> rfl
theorem ly_Week_makers_lt {b : Nat} (h : g_isWeek b) : b + 3 < gC.1 := by rcases h with rfl | rfl | rfl | rfl | rfl <;> exact Nat.le_of_ble_eq_true rfl
theorem ly_Week_holder {b : Nat} (h : g_isWeek b) : gC.2 (b + 4) = (.inr (0, 40, g_zf)) := by rcases h with rfl | rfl | rfl | rfl | rfl <;> rfl
theorem ly_Week_holder_lt {b : Nat} (h : g_isWeek b) : b + 4 < gC.1 := by rcases h with rfl | rfl | rfl | rfl | rfl <;> exact Nat.le_of_ble_eq_true rfl
theorem ly_Week_done {b : Nat} (h : g_isWeek b) : gC.2 (b + 5) = (.inr (0, 40, g_zf)) := by rcases h with rfl | rfl | rfl | rfl | rfl <;> rfl
theorem ly_Week_done_lt {b : Nat} (h : g_isWeek b) : b + 5 < gC.1 := by rcases h with rfl | rfl | rfl | rfl | rfl <;> exact Nat.le_of_ble_eq_true rfl
theorem ly_Week_clock {b : Nat} (h : g_isWeek b) : gC.2 (b + 6) = (.inr (0, 8, g_zf)) := by rcases h with rfl | rfl | rfl | rfl | rfl <;> rfl
theorem ly_Week_clock_lt {b : Nat} (h : g_isWeek b) : b + 6 < gC.1 := by rcases h with rfl | rfl | rfl | rfl | rfl <;> exact Nat.le_of_ble_eq_true rfl
theorem ly_Week_place {b : Nat} (h : g_isWeek b) : gC.2 (b + 7) = (.inr (0, 8, g_zf)) := by rcases h with rfl | rfl | rfl | rfl | rfl <;> rfl
theorem ly_Week_place_lt {b : Nat} (h : g_isWeek b) : b + 7 < gC.1 := by rcases h with rfl | rfl | rfl | rfl | rfl <;> exact Nat.le_of_ble_eq_true rfl
theorem ly_Rounds {b : Nat} (h : g_isRounds b) : gC.2 b = (.inl (2, g_fRounds b)) := by rcases h with rfl | rfl <;> rfl
theorem ly_Rounds_lt {b : Nat} (h : g_isRounds b) : b < gC.1 := by rcases h with rfl | rfl <;> exact Nat.le_of_ble_eq_true rfl
theorem ly_Rounds_gifts {b : Nat} (h : g_isRounds b) : gC.2 (b + 1) = (.inr (0, 64, g_zf)) := by rcases h with rfl | rfl <;> rfl
theorem ly_Rounds_gifts_lt {b : Nat} (h : g_isRounds b) : b + 1 < gC.1 := by rcases h with rfl | rfl <;> exact Nat.le_of_ble_eq_true rfl
theorem ly_Rounds_held {b : Nat} (h : g_isRounds b) : gC.2 (b + 2) = (.inr (0, 48, g_zf)) := by rcases h with rfl | rfl <;> rfl
theorem ly_Rounds_held_lt {b : Nat} (h : g_isRounds b) : b + 2 < gC.1 := by rcases h with rfl | rfl <;> exact Nat.le_of_ble_eq_true rfl
theorem ly_Rounds_more {b : Nat} (h : g_isRounds b) : gC.2 (b + 3) = (.inr (0, 48, g_zf)) := by rcases h with rfl | rfl <;> rfl
theorem ly_Rounds_more_lt {b : Nat} (h : g_isRounds b) : b + 3 < gC.1 := by rcases h with rfl | rfl <;> exact Nat.le_of_ble_eq_true rfl
theorem ly_Rounds_last {b : Nat} (h : g_isRounds b) : gC.2 (b + 4) = (.inr (0, 48, g_zf)) := by rcases h with rfl | rfl <;> rfl
theorem ly_Rounds_last_lt {b : Nat} (h : g_isRounds b) : b + 4 < gC.1 := by rcases h with rfl | rfl <;> exact Nat.le_of_ble_eq_true rfl
theorem ly_Rounds_glad {b : Nat} (h : g_isRounds b) : gC.2 (b + 5) = (.inr (0, 48, g_zf)) := by rcases h with rfl | rfl <;> rfl
theorem ly_Rounds_glad_lt {b : Nat} (h : g_isRounds b) : b + 5 < gC.1 := by rcases h with rfl | rfl <;> exact Nat.le_of_ble_eq_true rfl
theorem ly_Rounds_best {b : Nat} (h : g_isRounds b) : gC.2 (b + 6) = (.inr (0, 256, g_zf)) := by rcases h with rfl | rfl <;> rfl
theorem ly_Rounds_best_lt {b : Nat} (h : g_isRounds b) : b + 6 < gC.1 := by rcases h with rfl | rfl <;> exact Nat.le_of_ble_eq_true rfl
theorem ly_Rounds_worth {b : Nat} (h : g_isRounds b) : gC.2 (b + 7) = (.inr (0, 256, g_zf)) := by rcases h with rfl | rfl <;> rfl
theorem ly_Rounds_worth_lt {b : Nat} (h : g_isRounds b) : b + 7 < gC.1 := by rcases h with rfl | rfl <;> exact Nat.le_of_ble_eq_true rfl
theorem ly_Rounds_many {b : Nat} (h : g_isRounds b) : gC.2 (b + 8) = (.inr (0, 256, g_zf)) := by rcases h with rfl | rfl <;> rfl
theorem ly_Rounds_many_lt {b : Nat} (h : g_isRounds b) : b + 8 < gC.1 := by rcases h with rfl | rfl <;> exact Nat.le_of_ble_eq_true rfl
theorem ly_Rounds_within {b : Nat} (h : g_isRounds b) : gC.2 (b + 9) = (.inr (0, 256, g_zf)) := by rcases h with rfl | rfl <;> rfl
theorem ly_Rounds_within_lt {b : Nat} (h : g_isRounds b) : b + 9 < gC.1 := by rcases h with rfl | rfl <;> exact Nat.le_of_ble_eq_true rfl
theorem ly_mark_is : ∀ {j : Nat}, j < 4 → g_isWeek (101 + 8 * j) := by
  intro j hj
  match j, hj with
  | 0, _ => decide
  | 1, _ => decide
  | 2, _ => decide
  | 3, _ => decide
theorem ly_fix : ∀ j, j ≠ 0 → ∀ (cj : Nat) (fj : List (Nat × Nat)), gC.2 j = .inl (cj, fj) → ∀ p ∈ fj, p.1 < 3 := by
  have h : (List.range 133).all (fun j => j == 0 || match gC.2 j with | .inl (_, fj) => fj.all (fun p => decide (p.1 < 3)) | .inr _ => true) = true := by decide +kernel
  intro j hj cj fj hf p hp
  by_cases hl : j < 133
  · have h1 := List.all_eq_true.mp h j (List.mem_range.mpr hl)
    rw [hf] at h1
    simp only [Bool.or_eq_true, beq_iff_eq] at h1
    rcases h1 with h1 | h1
    · exact absurd h1 hj
    · exact of_decide_eq_true (List.all_eq_true.mp h1 p hp)
  · have : gC.2 j = .inl (0, []) := by
      show g_cL.getD j _ = _
      rw [List.getD_eq_getElem?_getD, List.getElem?_eq_none (by show 133 ≤ j; omega)]
      rfl
    rw [this] at hf
    cases hf
    cases hp
def g_ql (μ : g_St) (k : Nat) : Option Nat := if g_isLand (μ.2.2 k) then some (μ.2.2 k) else none
def g_qr (μ : g_St) (k : Nat) : Option Nat := if g_isRule (μ.2.2 k) then some (μ.2.2 k) else none
theorem w_getql {Λ : g_Lay} {d : Nat} {y : MethodName} {cc : ByteArray} {nL : Nat} {rt : Option FieldType} {pc : Nat} {lo : List (Option Value)} {st : List Value} {μ : g_St} {ρ : Type} {ω : ρ → Option Value × g_St} {id ci k index N q0 : Nat} {fs : List (Nat × Nat)} {C : String} {T : u_T} {ty0 : Nat → FieldType} {K : Nat → Option ρ} (hd : decode cc pc = .ok (.getfield index, 3)) (cf : g_CF ci C T N ty0) (fl : g_FL y.cls index T k) (hid : id < Λ.1) (hΛ : Λ.2 id = .inl (ci, fs)) (hq : fs[k]? = some (3, q0)) (hk : k < N)
    (kk : ∀ b, g_isLand b → g_Go Λ d y cc nL rt (pc + 3) lo (.ref b :: st) μ (Option.map ω (K b))) : g_Go Λ d y cc nL rt pc lo (.ref id :: st) μ (Option.map ω ((g_ql μ q0).bind K)) := by
  unfold g_ql
  by_cases h : g_isLand (μ.2.2 q0)
  · rw [if_pos h]
    exact g_getQ hd cf fl hid hΛ hq hk (kk _ h)
  · rw [if_neg h]
    exact g_none
theorem w_getqr {Λ : g_Lay} {d : Nat} {y : MethodName} {cc : ByteArray} {nL : Nat} {rt : Option FieldType} {pc : Nat} {lo : List (Option Value)} {st : List Value} {μ : g_St} {ρ : Type} {ω : ρ → Option Value × g_St} {id ci k index N q0 : Nat} {fs : List (Nat × Nat)} {C : String} {T : u_T} {ty0 : Nat → FieldType} {K : Nat → Option ρ} (hd : decode cc pc = .ok (.getfield index, 3)) (cf : g_CF ci C T N ty0) (fl : g_FL y.cls index T k) (hid : id < Λ.1) (hΛ : Λ.2 id = .inl (ci, fs)) (hq : fs[k]? = some (3, q0)) (hk : k < N)
    (kk : ∀ b, g_isRule b → g_Go Λ d y cc nL rt (pc + 3) lo (.ref b :: st) μ (Option.map ω (K b))) : g_Go Λ d y cc nL rt pc lo (.ref id :: st) μ (Option.map ω ((g_qr μ q0).bind K)) := by
  unfold g_qr
  by_cases h : g_isRule (μ.2.2 q0)
  · rw [if_pos h]
    exact g_getQ hd cf fl hid hΛ hq hk (kk _ h)
  · rw [if_neg h]
    exact g_none
theorem g_seg1 : ∀ w ∈ tables_1_1, w ∈ lw_tbl := fun w h => List.mem_append_right _ (List.mem_append_left _ h)
theorem g_seg2 : ∀ w ∈ tables_1_2, w ∈ lw_tbl := fun w h => List.mem_append_right _ (List.mem_append_right _ (List.mem_append_left _ h))
theorem g_seg3 : ∀ w ∈ tables_1_3, w ∈ lw_tbl := fun w h => List.mem_append_right _ (List.mem_append_right _ (List.mem_append_right _ (List.mem_append_left _ h)))
theorem g_seg4 : ∀ w ∈ tables_1_4, w ∈ lw_tbl := fun w h => List.mem_append_right _ (List.mem_append_right _ (List.mem_append_right _ (List.mem_append_right _ (List.mem_append_left _ h))))
theorem g_seg5 : ∀ w ∈ tables_1_5, w ∈ lw_tbl := fun w h => List.mem_append_right _ (List.mem_append_right _ (List.mem_append_right _ (List.mem_append_right _ (List.mem_append_right _ (List.mem_append_left _ h)))))
theorem g_seg6 : ∀ w ∈ tables_1_6, w ∈ lw_tbl := fun w h => List.mem_append_right _ (List.mem_append_right _ (List.mem_append_right _ (List.mem_append_right _ (List.mem_append_right _ (List.mem_append_right _ (List.mem_append_left _ h))))))
theorem g_seg7 : ∀ w ∈ tables_1_7, w ∈ lw_tbl := fun w h => List.mem_append_right _ (List.mem_append_right _ (List.mem_append_right _ (List.mem_append_right _ (List.mem_append_right _ (List.mem_append_right _ (List.mem_append_right _ (List.mem_append_left _ h)))))))
theorem g_seg8 : ∀ w ∈ tables_1_8, w ∈ lw_tbl := fun w h => List.mem_append_right _ (List.mem_append_right _ (List.mem_append_right _ (List.mem_append_right _ (List.mem_append_right _ (List.mem_append_right _ (List.mem_append_right _ (List.mem_append_right _ (h))))))))
theorem g_in1 {w : Cond} (h : w ∈ tables_1_1) (hg : goodWord w = true) : w ∈ g_gw := List.mem_filter.mpr ⟨g_seg1 w h, hg⟩
theorem g_nn1 {w : Cond} (h : w ∈ tables_1_1) (hg : g_isN w = true) : w ∈ g_nw := List.mem_filter.mpr ⟨g_seg1 w h, hg⟩
theorem g_in2 {w : Cond} (h : w ∈ tables_1_2) (hg : goodWord w = true) : w ∈ g_gw := List.mem_filter.mpr ⟨g_seg2 w h, hg⟩
theorem g_nn2 {w : Cond} (h : w ∈ tables_1_2) (hg : g_isN w = true) : w ∈ g_nw := List.mem_filter.mpr ⟨g_seg2 w h, hg⟩
theorem g_in3 {w : Cond} (h : w ∈ tables_1_3) (hg : goodWord w = true) : w ∈ g_gw := List.mem_filter.mpr ⟨g_seg3 w h, hg⟩
theorem g_nn3 {w : Cond} (h : w ∈ tables_1_3) (hg : g_isN w = true) : w ∈ g_nw := List.mem_filter.mpr ⟨g_seg3 w h, hg⟩
theorem g_in4 {w : Cond} (h : w ∈ tables_1_4) (hg : goodWord w = true) : w ∈ g_gw := List.mem_filter.mpr ⟨g_seg4 w h, hg⟩
theorem g_nn4 {w : Cond} (h : w ∈ tables_1_4) (hg : g_isN w = true) : w ∈ g_nw := List.mem_filter.mpr ⟨g_seg4 w h, hg⟩
theorem g_in5 {w : Cond} (h : w ∈ tables_1_5) (hg : goodWord w = true) : w ∈ g_gw := List.mem_filter.mpr ⟨g_seg5 w h, hg⟩
theorem g_nn5 {w : Cond} (h : w ∈ tables_1_5) (hg : g_isN w = true) : w ∈ g_nw := List.mem_filter.mpr ⟨g_seg5 w h, hg⟩
theorem g_in6 {w : Cond} (h : w ∈ tables_1_6) (hg : goodWord w = true) : w ∈ g_gw := List.mem_filter.mpr ⟨g_seg6 w h, hg⟩
theorem g_nn6 {w : Cond} (h : w ∈ tables_1_6) (hg : g_isN w = true) : w ∈ g_nw := List.mem_filter.mpr ⟨g_seg6 w h, hg⟩
theorem g_in7 {w : Cond} (h : w ∈ tables_1_7) (hg : goodWord w = true) : w ∈ g_gw := List.mem_filter.mpr ⟨g_seg7 w h, hg⟩
theorem g_nn7 {w : Cond} (h : w ∈ tables_1_7) (hg : g_isN w = true) : w ∈ g_nw := List.mem_filter.mpr ⟨g_seg7 w h, hg⟩
theorem g_in8 {w : Cond} (h : w ∈ tables_1_8) (hg : goodWord w = true) : w ∈ g_gw := List.mem_filter.mpr ⟨g_seg8 w h, hg⟩
theorem g_nn8 {w : Cond} (h : w ∈ tables_1_8) (hg : g_isN w = true) : w ∈ g_nw := List.mem_filter.mpr ⟨g_seg8 w h, hg⟩
theorem g_sels {y : MethodName} {n : Nat} (h : (y, n) ∈ lw_privs) : Cond.selects y.cls y y ∈ g_gw := List.mem_filter.mpr ⟨List.mem_append_left _ (List.mem_map.mpr ⟨(y, n), h, rfl⟩), rfl⟩
theorem g_psg1 : ∀ q ∈ lw_privs_1, q ∈ lw_privs := fun w h => List.mem_append_left _ h
theorem g_psg2 : ∀ q ∈ lw_privs_2, q ∈ lw_privs := fun w h => List.mem_append_right _ (List.mem_append_left _ h)
theorem g_psg3 : ∀ q ∈ lw_privs_3, q ∈ lw_privs := fun w h => List.mem_append_right _ (List.mem_append_right _ (List.mem_append_left _ h))
theorem g_psg4 : ∀ q ∈ lw_privs_4, q ∈ lw_privs := fun w h => List.mem_append_right _ (List.mem_append_right _ (List.mem_append_right _ (List.mem_append_left _ h)))
theorem g_psg5 : ∀ q ∈ lw_privs_5, q ∈ lw_privs := fun w h => List.mem_append_right _ (List.mem_append_right _ (List.mem_append_right _ (List.mem_append_right _ (List.mem_append_left _ h))))
theorem g_psg6 : ∀ q ∈ lw_privs_6, q ∈ lw_privs := fun w h => List.mem_append_right _ (List.mem_append_right _ (List.mem_append_right _ (List.mem_append_right _ (List.mem_append_right _ (List.mem_append_left _ h)))))
theorem g_psg7 : ∀ q ∈ lw_privs_7, q ∈ lw_privs := fun w h => List.mem_append_right _ (List.mem_append_right _ (List.mem_append_right _ (List.mem_append_right _ (List.mem_append_right _ (List.mem_append_right _ (List.mem_append_left _ h))))))
theorem g_psg8 : ∀ q ∈ lw_privs_8, q ∈ lw_privs := fun w h => List.mem_append_right _ (List.mem_append_right _ (List.mem_append_right _ (List.mem_append_right _ (List.mem_append_right _ (List.mem_append_right _ (List.mem_append_right _ (List.mem_append_left _ h)))))))
theorem g_psg9 : ∀ q ∈ lw_privs_9, q ∈ lw_privs := fun w h => List.mem_append_right _ (List.mem_append_right _ (List.mem_append_right _ (List.mem_append_right _ (List.mem_append_right _ (List.mem_append_right _ (List.mem_append_right _ (List.mem_append_right _ (List.mem_append_left _ h))))))))
theorem g_psg10 : ∀ q ∈ lw_privs_10, q ∈ lw_privs := fun w h => List.mem_append_right _ (List.mem_append_right _ (List.mem_append_right _ (List.mem_append_right _ (List.mem_append_right _ (List.mem_append_right _ (List.mem_append_right _ (List.mem_append_right _ (List.mem_append_right _ (h)))))))))
theorem cw_X0 : ∀ k, k < 6 → u_lay RX0 TX0 k ∈ g_gw := fun k hk => match k, hk with
  | 0, _ => g_in2 (List.mem_of_getElem? (i := 84) rfl) rfl
  | 1, _ => g_in2 (List.mem_of_getElem? (i := 86) rfl) rfl
  | 2, _ => g_in2 (List.mem_of_getElem? (i := 88) rfl) rfl
  | 3, _ => g_in2 (List.mem_of_getElem? (i := 90) rfl) rfl
  | 4, _ => g_in2 (List.mem_of_getElem? (i := 92) rfl) rfl
  | 5, _ => g_in2 (List.mem_of_getElem? (i := 94) rfl) rfl
  | n + 6, h => absurd h (by omega)
theorem cf_X0 : g_CF 0 RX0 TX0 6 tyX0 := ⟨rfl, fun w hw => by obtain ⟨k, hk, rfl⟩ := List.mem_map.mp hw; exact cw_X0 k (List.mem_range.mp hk), tyX0_ok, nmX0⟩
theorem cw_X1 : ∀ k, k < 12 → u_lay RX1 TX1 k ∈ g_gw := fun k hk => match k, hk with
  | 0, _ => g_in1 (List.mem_of_getElem? (i := 178) rfl) rfl
  | 1, _ => g_in1 (List.mem_of_getElem? (i := 180) rfl) rfl
  | 2, _ => g_in1 (List.mem_of_getElem? (i := 182) rfl) rfl
  | 3, _ => g_in1 (List.mem_of_getElem? (i := 184) rfl) rfl
  | 4, _ => g_in1 (List.mem_of_getElem? (i := 186) rfl) rfl
  | 5, _ => g_in1 (List.mem_of_getElem? (i := 188) rfl) rfl
  | 6, _ => g_in1 (List.mem_of_getElem? (i := 190) rfl) rfl
  | 7, _ => g_in1 (List.mem_of_getElem? (i := 192) rfl) rfl
  | 8, _ => g_in1 (List.mem_of_getElem? (i := 194) rfl) rfl
  | 9, _ => g_in1 (List.mem_of_getElem? (i := 196) rfl) rfl
  | 10, _ => g_in1 (List.mem_of_getElem? (i := 198) rfl) rfl
  | 11, _ => g_in1 (List.mem_of_getElem? (i := 200) rfl) rfl
  | n + 12, h => absurd h (by omega)
theorem cf_X1 : g_CF 1 RX1 TX1 12 tyX1 := ⟨rfl, fun w hw => by obtain ⟨k, hk, rfl⟩ := List.mem_map.mp hw; exact cw_X1 k (List.mem_range.mp hk), tyX1_ok, nmX1⟩
theorem cw_X3 : ∀ k, k < 9 → u_lay RX3 TX3 k ∈ g_gw := fun k hk => match k, hk with
  | 0, _ => g_in2 (List.mem_of_getElem? (i := 50) rfl) rfl
  | 1, _ => g_in2 (List.mem_of_getElem? (i := 52) rfl) rfl
  | 2, _ => g_in2 (List.mem_of_getElem? (i := 54) rfl) rfl
  | 3, _ => g_in2 (List.mem_of_getElem? (i := 56) rfl) rfl
  | 4, _ => g_in2 (List.mem_of_getElem? (i := 58) rfl) rfl
  | 5, _ => g_in2 (List.mem_of_getElem? (i := 60) rfl) rfl
  | 6, _ => g_in2 (List.mem_of_getElem? (i := 62) rfl) rfl
  | 7, _ => g_in2 (List.mem_of_getElem? (i := 64) rfl) rfl
  | 8, _ => g_in2 (List.mem_of_getElem? (i := 66) rfl) rfl
  | n + 9, h => absurd h (by omega)
theorem cf_X3 : g_CF 2 RX3 TX3 9 tyX3 := ⟨rfl, fun w hw => by obtain ⟨k, hk, rfl⟩ := List.mem_map.mp hw; exact cw_X3 k (List.mem_range.mp hk), tyX3_ok, nmX3⟩
theorem cw_X4 : ∀ k, k < 5 → u_lay RX4 TX4 k ∈ g_gw := fun k hk => match k, hk with
  | 0, _ => g_in1 (List.mem_of_getElem? (i := 216) rfl) rfl
  | 1, _ => g_in1 (List.mem_of_getElem? (i := 218) rfl) rfl
  | 2, _ => g_in1 (List.mem_of_getElem? (i := 220) rfl) rfl
  | 3, _ => g_in1 (List.mem_of_getElem? (i := 222) rfl) rfl
  | 4, _ => g_in1 (List.mem_of_getElem? (i := 224) rfl) rfl
  | n + 5, h => absurd h (by omega)
theorem cf_X4 : g_CF 3 RX4 TX4 5 tyX4 := ⟨rfl, fun w hw => by obtain ⟨k, hk, rfl⟩ := List.mem_map.mp hw; exact cw_X4 k (List.mem_range.mp hk), tyX4_ok, nmX4⟩
theorem cw_X6 : ∀ k, k < 11 → u_lay RX6 TX6 k ∈ g_gw := fun k hk => match k, hk with
  | 0, _ => g_in1 (List.mem_of_getElem? (i := 107) rfl) rfl
  | 1, _ => g_in1 (List.mem_of_getElem? (i := 109) rfl) rfl
  | 2, _ => g_in1 (List.mem_of_getElem? (i := 111) rfl) rfl
  | 3, _ => g_in1 (List.mem_of_getElem? (i := 113) rfl) rfl
  | 4, _ => g_in1 (List.mem_of_getElem? (i := 115) rfl) rfl
  | 5, _ => g_in1 (List.mem_of_getElem? (i := 117) rfl) rfl
  | 6, _ => g_in1 (List.mem_of_getElem? (i := 119) rfl) rfl
  | 7, _ => g_in1 (List.mem_of_getElem? (i := 121) rfl) rfl
  | 8, _ => g_in1 (List.mem_of_getElem? (i := 123) rfl) rfl
  | 9, _ => g_in1 (List.mem_of_getElem? (i := 125) rfl) rfl
  | 10, _ => g_in1 (List.mem_of_getElem? (i := 127) rfl) rfl
  | n + 11, h => absurd h (by omega)
theorem cf_X6 : g_CF 4 RX6 TX6 11 tyX6 := ⟨rfl, fun w hw => by obtain ⟨k, hk, rfl⟩ := List.mem_map.mp hw; exact cw_X6 k (List.mem_range.mp hk), tyX6_ok, nmX6⟩
theorem cw_X7 : ∀ k, k < 9 → u_lay RX7 TX7 k ∈ g_gw := fun k hk => match k, hk with
  | 0, _ => g_in2 (List.mem_of_getElem? (i := 11) rfl) rfl
  | 1, _ => g_in2 (List.mem_of_getElem? (i := 13) rfl) rfl
  | 2, _ => g_in2 (List.mem_of_getElem? (i := 15) rfl) rfl
  | 3, _ => g_in2 (List.mem_of_getElem? (i := 17) rfl) rfl
  | 4, _ => g_in2 (List.mem_of_getElem? (i := 19) rfl) rfl
  | 5, _ => g_in2 (List.mem_of_getElem? (i := 21) rfl) rfl
  | 6, _ => g_in2 (List.mem_of_getElem? (i := 23) rfl) rfl
  | 7, _ => g_in2 (List.mem_of_getElem? (i := 25) rfl) rfl
  | 8, _ => g_in2 (List.mem_of_getElem? (i := 27) rfl) rfl
  | n + 9, h => absurd h (by omega)
theorem cf_X7 : g_CF 5 RX7 TX7 9 tyX7 := ⟨rfl, fun w hw => by obtain ⟨k, hk, rfl⟩ := List.mem_map.mp hw; exact cw_X7 k (List.mem_range.mp hk), tyX7_ok, nmX7⟩
theorem cw_X8 : ∀ k, k < 15 → u_lay RX8 TX8 k ∈ g_gw := fun k hk => match k, hk with
  | 0, _ => g_in2 (List.mem_of_getElem? (i := 112) rfl) rfl
  | 1, _ => g_in2 (List.mem_of_getElem? (i := 114) rfl) rfl
  | 2, _ => g_in2 (List.mem_of_getElem? (i := 116) rfl) rfl
  | 3, _ => g_in2 (List.mem_of_getElem? (i := 118) rfl) rfl
  | 4, _ => g_in2 (List.mem_of_getElem? (i := 120) rfl) rfl
  | 5, _ => g_in2 (List.mem_of_getElem? (i := 122) rfl) rfl
  | 6, _ => g_in2 (List.mem_of_getElem? (i := 124) rfl) rfl
  | 7, _ => g_in2 (List.mem_of_getElem? (i := 126) rfl) rfl
  | 8, _ => g_in2 (List.mem_of_getElem? (i := 128) rfl) rfl
  | 9, _ => g_in2 (List.mem_of_getElem? (i := 130) rfl) rfl
  | 10, _ => g_in2 (List.mem_of_getElem? (i := 132) rfl) rfl
  | 11, _ => g_in2 (List.mem_of_getElem? (i := 134) rfl) rfl
  | 12, _ => g_in2 (List.mem_of_getElem? (i := 136) rfl) rfl
  | 13, _ => g_in2 (List.mem_of_getElem? (i := 138) rfl) rfl
  | 14, _ => g_in2 (List.mem_of_getElem? (i := 140) rfl) rfl
  | n + 15, h => absurd h (by omega)
theorem cf_X8 : g_CF 6 RX8 TX8 15 tyX8 := ⟨rfl, fun w hw => by obtain ⟨k, hk, rfl⟩ := List.mem_map.mp hw; exact cw_X8 k (List.mem_range.mp hk), tyX8_ok, nmX8⟩
theorem cw_X9 : ∀ k, k < 62 → u_lay RX9 TX9 k ∈ g_gw := fun k hk => match k, hk with
  | 0, _ => g_in5 (List.mem_of_getElem? (i := 193) rfl) rfl
  | 1, _ => g_in5 (List.mem_of_getElem? (i := 195) rfl) rfl
  | 2, _ => g_in5 (List.mem_of_getElem? (i := 197) rfl) rfl
  | 3, _ => g_in5 (List.mem_of_getElem? (i := 199) rfl) rfl
  | 4, _ => g_in5 (List.mem_of_getElem? (i := 201) rfl) rfl
  | 5, _ => g_in5 (List.mem_of_getElem? (i := 203) rfl) rfl
  | 6, _ => g_in5 (List.mem_of_getElem? (i := 205) rfl) rfl
  | 7, _ => g_in5 (List.mem_of_getElem? (i := 207) rfl) rfl
  | 8, _ => g_in5 (List.mem_of_getElem? (i := 209) rfl) rfl
  | 9, _ => g_in5 (List.mem_of_getElem? (i := 211) rfl) rfl
  | 10, _ => g_in5 (List.mem_of_getElem? (i := 213) rfl) rfl
  | 11, _ => g_in5 (List.mem_of_getElem? (i := 215) rfl) rfl
  | 12, _ => g_in5 (List.mem_of_getElem? (i := 217) rfl) rfl
  | 13, _ => g_in5 (List.mem_of_getElem? (i := 219) rfl) rfl
  | 14, _ => g_in5 (List.mem_of_getElem? (i := 221) rfl) rfl
  | 15, _ => g_in5 (List.mem_of_getElem? (i := 223) rfl) rfl
  | 16, _ => g_in5 (List.mem_of_getElem? (i := 225) rfl) rfl
  | 17, _ => g_in5 (List.mem_of_getElem? (i := 227) rfl) rfl
  | 18, _ => g_in5 (List.mem_of_getElem? (i := 229) rfl) rfl
  | 19, _ => g_in5 (List.mem_of_getElem? (i := 231) rfl) rfl
  | 20, _ => g_in5 (List.mem_of_getElem? (i := 233) rfl) rfl
  | 21, _ => g_in5 (List.mem_of_getElem? (i := 235) rfl) rfl
  | 22, _ => g_in5 (List.mem_of_getElem? (i := 237) rfl) rfl
  | 23, _ => g_in5 (List.mem_of_getElem? (i := 239) rfl) rfl
  | 24, _ => g_in6 (List.mem_of_getElem? (i := 1) rfl) rfl
  | 25, _ => g_in6 (List.mem_of_getElem? (i := 3) rfl) rfl
  | 26, _ => g_in6 (List.mem_of_getElem? (i := 5) rfl) rfl
  | 27, _ => g_in6 (List.mem_of_getElem? (i := 7) rfl) rfl
  | 28, _ => g_in6 (List.mem_of_getElem? (i := 9) rfl) rfl
  | 29, _ => g_in6 (List.mem_of_getElem? (i := 11) rfl) rfl
  | 30, _ => g_in6 (List.mem_of_getElem? (i := 13) rfl) rfl
  | 31, _ => g_in6 (List.mem_of_getElem? (i := 15) rfl) rfl
  | 32, _ => g_in6 (List.mem_of_getElem? (i := 17) rfl) rfl
  | 33, _ => g_in6 (List.mem_of_getElem? (i := 19) rfl) rfl
  | 34, _ => g_in6 (List.mem_of_getElem? (i := 21) rfl) rfl
  | 35, _ => g_in6 (List.mem_of_getElem? (i := 23) rfl) rfl
  | 36, _ => g_in6 (List.mem_of_getElem? (i := 25) rfl) rfl
  | 37, _ => g_in6 (List.mem_of_getElem? (i := 27) rfl) rfl
  | 38, _ => g_in6 (List.mem_of_getElem? (i := 29) rfl) rfl
  | 39, _ => g_in6 (List.mem_of_getElem? (i := 31) rfl) rfl
  | 40, _ => g_in6 (List.mem_of_getElem? (i := 33) rfl) rfl
  | 41, _ => g_in6 (List.mem_of_getElem? (i := 35) rfl) rfl
  | 42, _ => g_in6 (List.mem_of_getElem? (i := 37) rfl) rfl
  | 43, _ => g_in6 (List.mem_of_getElem? (i := 39) rfl) rfl
  | 44, _ => g_in6 (List.mem_of_getElem? (i := 41) rfl) rfl
  | 45, _ => g_in6 (List.mem_of_getElem? (i := 43) rfl) rfl
  | 46, _ => g_in6 (List.mem_of_getElem? (i := 45) rfl) rfl
  | 47, _ => g_in6 (List.mem_of_getElem? (i := 47) rfl) rfl
  | 48, _ => g_in6 (List.mem_of_getElem? (i := 49) rfl) rfl
  | 49, _ => g_in6 (List.mem_of_getElem? (i := 51) rfl) rfl
  | 50, _ => g_in6 (List.mem_of_getElem? (i := 53) rfl) rfl
  | 51, _ => g_in6 (List.mem_of_getElem? (i := 55) rfl) rfl
  | 52, _ => g_in6 (List.mem_of_getElem? (i := 57) rfl) rfl
  | 53, _ => g_in6 (List.mem_of_getElem? (i := 59) rfl) rfl
  | 54, _ => g_in6 (List.mem_of_getElem? (i := 61) rfl) rfl
  | 55, _ => g_in6 (List.mem_of_getElem? (i := 63) rfl) rfl
  | 56, _ => g_in6 (List.mem_of_getElem? (i := 65) rfl) rfl
  | 57, _ => g_in6 (List.mem_of_getElem? (i := 67) rfl) rfl
  | 58, _ => g_in6 (List.mem_of_getElem? (i := 69) rfl) rfl
  | 59, _ => g_in6 (List.mem_of_getElem? (i := 71) rfl) rfl
  | 60, _ => g_in6 (List.mem_of_getElem? (i := 73) rfl) rfl
  | 61, _ => g_in6 (List.mem_of_getElem? (i := 75) rfl) rfl
  | n + 62, h => absurd h (by omega)
theorem cf_X9 : g_CF 7 RX9 TX9 62 tyX9 := ⟨rfl, fun w hw => by obtain ⟨k, hk, rfl⟩ := List.mem_map.mp hw; exact cw_X9 k (List.mem_range.mp hk), tyX9_ok, nmX9⟩
theorem fl_X8_10 : g_FL RX8 10 TX8 0 := Or.inl (g_in2 (List.mem_of_getElem? (i := 97) rfl) rfl)
theorem fl_X8_19 : g_FL RX8 19 TX8 1 := Or.inl (g_in2 (List.mem_of_getElem? (i := 98) rfl) rfl)
theorem fl_X8_23 : g_FL RX8 23 TX8 2 := Or.inl (g_in2 (List.mem_of_getElem? (i := 99) rfl) rfl)
theorem fl_X8_29 : g_FL RX8 29 TX8 3 := Or.inl (g_in2 (List.mem_of_getElem? (i := 100) rfl) rfl)
theorem fl_X8_33 : g_FL RX8 33 TX8 4 := Or.inl (g_in2 (List.mem_of_getElem? (i := 101) rfl) rfl)
theorem fl_X8_39 : g_FL RX8 39 TX8 5 := Or.inl (g_in2 (List.mem_of_getElem? (i := 102) rfl) rfl)
theorem fl_X8_43 : g_FL RX8 43 TX8 6 := Or.inl (g_in2 (List.mem_of_getElem? (i := 103) rfl) rfl)
theorem fl_X8_47 : g_FL RX8 47 TX8 8 := Or.inl (g_in2 (List.mem_of_getElem? (i := 105) rfl) rfl)
theorem fl_X8_54 : g_FL RX8 54 TX8 9 := Or.inl (g_in2 (List.mem_of_getElem? (i := 106) rfl) rfl)
theorem fl_X8_58 : g_FL RX8 58 TX8 10 := Or.inl (g_in2 (List.mem_of_getElem? (i := 107) rfl) rfl)
theorem fl_X8_64 : g_FL RX8 64 TX8 11 := Or.inl (g_in2 (List.mem_of_getElem? (i := 108) rfl) rfl)
theorem fl_X8_68 : g_FL RX8 68 TX8 12 := Or.inl (g_in2 (List.mem_of_getElem? (i := 109) rfl) rfl)
theorem fl_X8_71 : g_FL RX8 71 TX8 13 := Or.inl (g_in2 (List.mem_of_getElem? (i := 110) rfl) rfl)
theorem fl_X8_78 : g_FL RX8 78 TX6 2 := Or.inr ⟨"OwnMade", g_nn1 (List.mem_of_getElem? (i := 93) rfl) rfl⟩
theorem fl_X8_92 : g_FL RX8 92 TX8 7 := Or.inl (g_in2 (List.mem_of_getElem? (i := 104) rfl) rfl)
theorem fl_X8_95 : g_FL RX8 95 TX8 14 := Or.inl (g_in2 (List.mem_of_getElem? (i := 111) rfl) rfl)
theorem fl_X8_108 : g_FL RX8 108 TX1 6 := Or.inr ⟨"OwnMade", g_nn1 (List.mem_of_getElem? (i := 161) rfl) rfl⟩
theorem fl_X8_115 : g_FL RX8 115 TX1 7 := Or.inr ⟨"OwnMade", g_nn1 (List.mem_of_getElem? (i := 164) rfl) rfl⟩
theorem fl_X8_118 : g_FL RX8 118 TX1 8 := Or.inr ⟨"OwnMade", g_nn1 (List.mem_of_getElem? (i := 167) rfl) rfl⟩
theorem fl_X8_132 : g_FL RX8 132 TX1 9 := Or.inr ⟨"OwnMade", g_nn1 (List.mem_of_getElem? (i := 172) rfl) rfl⟩
theorem fl_X8_135 : g_FL RX8 135 TX7 8 := Or.inr ⟨"OwnMade", g_nn2 (List.mem_of_getElem? (i := 10) rfl) rfl⟩
theorem fl_X8_138 : g_FL RX8 138 TX7 7 := Or.inr ⟨"OwnMade", g_nn2 (List.mem_of_getElem? (i := 8) rfl) rfl⟩
theorem fl_X8_147 : g_FL RX8 147 TX1 10 := Or.inr ⟨"OwnMade", g_nn1 (List.mem_of_getElem? (i := 175) rfl) rfl⟩
theorem fl_X8_158 : g_FL RX8 158 TX7 0 := Or.inr ⟨"OwnMade", g_nn1 (List.mem_of_getElem? (i := 234) rfl) rfl⟩
theorem fl_X8_178 : g_FL RX8 178 TX7 5 := Or.inr ⟨"OwnMade", g_nn2 (List.mem_of_getElem? (i := 4) rfl) rfl⟩
theorem fl_X8_192 : g_FL RX8 192 TX7 2 := Or.inr ⟨"OwnMade", g_nn1 (List.mem_of_getElem? (i := 238) rfl) rfl⟩
theorem fl_X8_195 : g_FL RX8 195 TX7 3 := Or.inr ⟨"OwnMade", g_nn2 (List.mem_of_getElem? (i := 0) rfl) rfl⟩
theorem fl_X8_198 : g_FL RX8 198 TX7 4 := Or.inr ⟨"OwnMade", g_nn2 (List.mem_of_getElem? (i := 2) rfl) rfl⟩
theorem fl_X8_201 : g_FL RX8 201 TX7 6 := Or.inr ⟨"OwnMade", g_nn2 (List.mem_of_getElem? (i := 6) rfl) rfl⟩
theorem fl_X8_216 : g_FL RX8 216 TX3 5 := Or.inr ⟨"OwnMade", g_nn2 (List.mem_of_getElem? (i := 43) rfl) rfl⟩
theorem fl_X8_219 : g_FL RX8 219 TX3 6 := Or.inr ⟨"OwnMade", g_nn2 (List.mem_of_getElem? (i := 45) rfl) rfl⟩
theorem fl_X8_222 : g_FL RX8 222 TX3 7 := Or.inr ⟨"OwnMade", g_nn2 (List.mem_of_getElem? (i := 47) rfl) rfl⟩
theorem fl_X8_225 : g_FL RX8 225 TX3 8 := Or.inr ⟨"OwnMade", g_nn2 (List.mem_of_getElem? (i := 49) rfl) rfl⟩
theorem fl_X8_228 : g_FL RX8 228 TX1 2 := Or.inr ⟨"OwnMade", g_nn1 (List.mem_of_getElem? (i := 153) rfl) rfl⟩
theorem fl_X8_231 : g_FL RX8 231 TX7 1 := Or.inr ⟨"OwnMade", g_nn1 (List.mem_of_getElem? (i := 236) rfl) rfl⟩
theorem fl_X8_248 : g_FL RX8 248 TX1 0 := Or.inr ⟨"OwnMade", g_nn1 (List.mem_of_getElem? (i := 144) rfl) rfl⟩
theorem fl_X8_255 : g_FL RX8 255 TX0 4 := Or.inr ⟨"OwnMade", g_nn2 (List.mem_of_getElem? (i := 81) rfl) rfl⟩
theorem fl_X8_258 : g_FL RX8 258 TX0 5 := Or.inr ⟨"OwnMade", g_nn2 (List.mem_of_getElem? (i := 83) rfl) rfl⟩
theorem fl_X8_299 : g_FL RX8 299 TX1 1 := Or.inr ⟨"OwnMade", g_nn1 (List.mem_of_getElem? (i := 148) rfl) rfl⟩
theorem fl_X8_333 : g_FL RX8 333 TX4 3 := Or.inr ⟨"OwnMade", g_nn1 (List.mem_of_getElem? (i := 214) rfl) rfl⟩
theorem fl_X0_11 : g_FL RX0 11 TX0 0 := Or.inl (g_in2 (List.mem_of_getElem? (i := 76) rfl) rfl)
theorem fl_X0_16 : g_FL RX0 16 TX0 1 := Or.inl (g_in2 (List.mem_of_getElem? (i := 77) rfl) rfl)
theorem fl_X0_20 : g_FL RX0 20 TX0 2 := Or.inl (g_in2 (List.mem_of_getElem? (i := 78) rfl) rfl)
theorem fl_X0_23 : g_FL RX0 23 TX0 3 := Or.inl (g_in2 (List.mem_of_getElem? (i := 79) rfl) rfl)
theorem fl_X0_26 : g_FL RX0 26 TX0 4 := Or.inl (g_in2 (List.mem_of_getElem? (i := 80) rfl) rfl)
theorem fl_X0_29 : g_FL RX0 29 TX0 5 := Or.inl (g_in2 (List.mem_of_getElem? (i := 82) rfl) rfl)
theorem fl_X1_9 : g_FL RX1 9 TX1 3 := Or.inl (g_in1 (List.mem_of_getElem? (i := 154) rfl) rfl)
theorem fl_X1_15 : g_FL RX1 15 TX1 4 := Or.inl (g_in1 (List.mem_of_getElem? (i := 156) rfl) rfl)
theorem fl_X1_18 : g_FL RX1 18 TX1 5 := Or.inl (g_in1 (List.mem_of_getElem? (i := 158) rfl) rfl)
theorem fl_X1_23 : g_FL RX1 23 TX1 6 := Or.inl (g_in1 (List.mem_of_getElem? (i := 160) rfl) rfl)
theorem fl_X1_26 : g_FL RX1 26 TX1 7 := Or.inl (g_in1 (List.mem_of_getElem? (i := 163) rfl) rfl)
theorem fl_X1_30 : g_FL RX1 30 TX1 8 := Or.inl (g_in1 (List.mem_of_getElem? (i := 166) rfl) rfl)
theorem fl_X1_33 : g_FL RX1 33 TX1 9 := Or.inl (g_in1 (List.mem_of_getElem? (i := 169) rfl) rfl)
theorem fl_X1_36 : g_FL RX1 36 TX1 10 := Or.inl (g_in1 (List.mem_of_getElem? (i := 173) rfl) rfl)
theorem fl_X1_39 : g_FL RX1 39 TX1 11 := Or.inl (g_in1 (List.mem_of_getElem? (i := 176) rfl) rfl)
theorem fl_X1_42 : g_FL RX1 42 TX1 0 := Or.inl (g_in1 (List.mem_of_getElem? (i := 142) rfl) rfl)
theorem fl_X1_46 : g_FL RX1 46 TX1 1 := Or.inl (g_in1 (List.mem_of_getElem? (i := 145) rfl) rfl)
theorem fl_X1_49 : g_FL RX1 49 TX1 2 := Or.inl (g_in1 (List.mem_of_getElem? (i := 149) rfl) rfl)
theorem fl_X2_19 : g_FL RX2 19 TX6 8 := Or.inr ⟨"OwnMade", g_nn1 (List.mem_of_getElem? (i := 100) rfl) rfl⟩
theorem fl_X2_36 : g_FL RX2 36 TX1 0 := Or.inr ⟨"OwnMade", g_nn1 (List.mem_of_getElem? (i := 143) rfl) rfl⟩
theorem fl_X2_49 : g_FL RX2 49 TX1 1 := Or.inr ⟨"OwnMade", g_nn1 (List.mem_of_getElem? (i := 146) rfl) rfl⟩
theorem fl_X2_55 : g_FL RX2 55 TX1 2 := Or.inr ⟨"OwnMade", g_nn1 (List.mem_of_getElem? (i := 151) rfl) rfl⟩
theorem fl_X2_64 : g_FL RX2 64 TX1 3 := Or.inr ⟨"OwnMade", g_nn1 (List.mem_of_getElem? (i := 155) rfl) rfl⟩
theorem fl_X2_83 : g_FL RX2 83 TX1 6 := Or.inr ⟨"OwnMade", g_nn1 (List.mem_of_getElem? (i := 162) rfl) rfl⟩
theorem fl_X2_87 : g_FL RX2 87 TX1 4 := Or.inr ⟨"OwnMade", g_nn1 (List.mem_of_getElem? (i := 157) rfl) rfl⟩
theorem fl_X2_94 : g_FL RX2 94 TX1 7 := Or.inr ⟨"OwnMade", g_nn1 (List.mem_of_getElem? (i := 165) rfl) rfl⟩
theorem fl_X2_98 : g_FL RX2 98 TX1 8 := Or.inr ⟨"OwnMade", g_nn1 (List.mem_of_getElem? (i := 168) rfl) rfl⟩
theorem fl_X2_101 : g_FL RX2 101 TX1 5 := Or.inr ⟨"OwnMade", g_nn1 (List.mem_of_getElem? (i := 159) rfl) rfl⟩
theorem fl_X2_108 : g_FL RX2 108 TX1 9 := Or.inr ⟨"OwnMade", g_nn1 (List.mem_of_getElem? (i := 171) rfl) rfl⟩
theorem fl_X2_111 : g_FL RX2 111 TX1 10 := Or.inr ⟨"OwnMade", g_nn1 (List.mem_of_getElem? (i := 174) rfl) rfl⟩
theorem fl_X2_114 : g_FL RX2 114 TX1 11 := Or.inr ⟨"OwnMade", g_nn1 (List.mem_of_getElem? (i := 177) rfl) rfl⟩
theorem fl_X2_121 : g_FL RX2 121 TX6 9 := Or.inr ⟨"OwnMade", g_nn1 (List.mem_of_getElem? (i := 104) rfl) rfl⟩
theorem fl_X3_9 : g_FL RX3 9 TX3 0 := Or.inl (g_in2 (List.mem_of_getElem? (i := 37) rfl) rfl)
theorem fl_X3_15 : g_FL RX3 15 TX3 1 := Or.inl (g_in2 (List.mem_of_getElem? (i := 38) rfl) rfl)
theorem fl_X3_18 : g_FL RX3 18 TX3 2 := Or.inl (g_in2 (List.mem_of_getElem? (i := 39) rfl) rfl)
theorem fl_X3_21 : g_FL RX3 21 TX3 3 := Or.inl (g_in2 (List.mem_of_getElem? (i := 40) rfl) rfl)
theorem fl_X3_24 : g_FL RX3 24 TX3 4 := Or.inl (g_in2 (List.mem_of_getElem? (i := 41) rfl) rfl)
theorem fl_X3_27 : g_FL RX3 27 TX3 5 := Or.inl (g_in2 (List.mem_of_getElem? (i := 42) rfl) rfl)
theorem fl_X3_30 : g_FL RX3 30 TX3 6 := Or.inl (g_in2 (List.mem_of_getElem? (i := 44) rfl) rfl)
theorem fl_X3_33 : g_FL RX3 33 TX3 7 := Or.inl (g_in2 (List.mem_of_getElem? (i := 46) rfl) rfl)
theorem fl_X3_36 : g_FL RX3 36 TX3 8 := Or.inl (g_in2 (List.mem_of_getElem? (i := 48) rfl) rfl)
theorem fl_X3_45 : g_FL RX3 45 TX1 2 := Or.inr ⟨"OwnMade", g_nn1 (List.mem_of_getElem? (i := 152) rfl) rfl⟩
theorem fl_X3_63 : g_FL RX3 63 TX1 1 := Or.inr ⟨"OwnMade", g_nn1 (List.mem_of_getElem? (i := 147) rfl) rfl⟩
theorem fl_X4_9 : g_FL RX4 9 TX4 0 := Or.inl (g_in1 (List.mem_of_getElem? (i := 209) rfl) rfl)
theorem fl_X4_15 : g_FL RX4 15 TX4 1 := Or.inl (g_in1 (List.mem_of_getElem? (i := 210) rfl) rfl)
theorem fl_X4_18 : g_FL RX4 18 TX4 4 := Or.inl (g_in1 (List.mem_of_getElem? (i := 215) rfl) rfl)
theorem fl_X4_21 : g_FL RX4 21 TX4 2 := Or.inl (g_in1 (List.mem_of_getElem? (i := 211) rfl) rfl)
theorem fl_X4_25 : g_FL RX4 25 TX4 3 := Or.inl (g_in1 (List.mem_of_getElem? (i := 212) rfl) rfl)
theorem fl_X5_19 : g_FL RX5 19 TX6 8 := Or.inr ⟨"OwnMade", g_nn1 (List.mem_of_getElem? (i := 101) rfl) rfl⟩
theorem fl_X5_33 : g_FL RX5 33 TX4 3 := Or.inr ⟨"OwnMade", g_nn1 (List.mem_of_getElem? (i := 213) rfl) rfl⟩
theorem fl_X5_68 : g_FL RX5 68 TX6 9 := Or.inr ⟨"OwnMade", g_nn1 (List.mem_of_getElem? (i := 103) rfl) rfl⟩
theorem fl_X6_9 : g_FL RX6 9 TX6 0 := Or.inl (g_in1 (List.mem_of_getElem? (i := 91) rfl) rfl)
theorem fl_X6_15 : g_FL RX6 15 TX6 1 := Or.inl (g_in1 (List.mem_of_getElem? (i := 92) rfl) rfl)
theorem fl_X6_19 : g_FL RX6 19 TX6 3 := Or.inl (g_in1 (List.mem_of_getElem? (i := 95) rfl) rfl)
theorem fl_X6_23 : g_FL RX6 23 TX6 4 := Or.inl (g_in1 (List.mem_of_getElem? (i := 96) rfl) rfl)
theorem fl_X6_26 : g_FL RX6 26 TX6 5 := Or.inl (g_in1 (List.mem_of_getElem? (i := 97) rfl) rfl)
theorem fl_X6_45 : g_FL RX6 45 TX6 2 := Or.inl (g_in1 (List.mem_of_getElem? (i := 94) rfl) rfl)
theorem fl_X6_48 : g_FL RX6 48 TX6 6 := Or.inl (g_in1 (List.mem_of_getElem? (i := 98) rfl) rfl)
theorem fl_X6_51 : g_FL RX6 51 TX6 10 := Or.inl (g_in1 (List.mem_of_getElem? (i := 106) rfl) rfl)
theorem fl_X6_62 : g_FL RX6 62 TX6 7 := Or.inl (g_in1 (List.mem_of_getElem? (i := 99) rfl) rfl)
theorem fl_X6_92 : g_FL RX6 92 TX6 8 := Or.inl (g_in1 (List.mem_of_getElem? (i := 102) rfl) rfl)
theorem fl_X6_95 : g_FL RX6 95 TX6 9 := Or.inl (g_in1 (List.mem_of_getElem? (i := 105) rfl) rfl)
theorem fl_X7_9 : g_FL RX7 9 TX7 2 := Or.inl (g_in1 (List.mem_of_getElem? (i := 237) rfl) rfl)
theorem fl_X7_15 : g_FL RX7 15 TX7 3 := Or.inl (g_in1 (List.mem_of_getElem? (i := 239) rfl) rfl)
theorem fl_X7_18 : g_FL RX7 18 TX7 4 := Or.inl (g_in2 (List.mem_of_getElem? (i := 1) rfl) rfl)
theorem fl_X7_21 : g_FL RX7 21 TX7 5 := Or.inl (g_in2 (List.mem_of_getElem? (i := 3) rfl) rfl)
theorem fl_X7_24 : g_FL RX7 24 TX7 6 := Or.inl (g_in2 (List.mem_of_getElem? (i := 5) rfl) rfl)
theorem fl_X7_27 : g_FL RX7 27 TX7 7 := Or.inl (g_in2 (List.mem_of_getElem? (i := 7) rfl) rfl)
theorem fl_X7_30 : g_FL RX7 30 TX7 8 := Or.inl (g_in2 (List.mem_of_getElem? (i := 9) rfl) rfl)
theorem fl_X7_33 : g_FL RX7 33 TX7 0 := Or.inl (g_in1 (List.mem_of_getElem? (i := 233) rfl) rfl)
theorem fl_X7_37 : g_FL RX7 37 TX7 1 := Or.inl (g_in1 (List.mem_of_getElem? (i := 235) rfl) rfl)
theorem fl_X7_40 : g_FL RX7 40 TX1 2 := Or.inr ⟨"OwnMade", g_nn1 (List.mem_of_getElem? (i := 150) rfl) rfl⟩
theorem fl_X7_45 : g_FL RX7 45 TX1 9 := Or.inr ⟨"OwnMade", g_nn1 (List.mem_of_getElem? (i := 170) rfl) rfl⟩
theorem fl_X9_7 : g_FL RX9 7 TX9 2 := Or.inl (g_in5 (List.mem_of_getElem? (i := 133) rfl) rfl)
theorem fl_X9_13 : g_FL RX9 13 TX9 10 := Or.inl (g_in5 (List.mem_of_getElem? (i := 141) rfl) rfl)
theorem fl_X9_16 : g_FL RX9 16 TX9 11 := Or.inl (g_in5 (List.mem_of_getElem? (i := 142) rfl) rfl)
theorem fl_X9_19 : g_FL RX9 19 TX9 12 := Or.inl (g_in5 (List.mem_of_getElem? (i := 143) rfl) rfl)
theorem fl_X9_22 : g_FL RX9 22 TX9 13 := Or.inl (g_in5 (List.mem_of_getElem? (i := 144) rfl) rfl)
theorem fl_X9_26 : g_FL RX9 26 TX9 14 := Or.inl (g_in5 (List.mem_of_getElem? (i := 145) rfl) rfl)
theorem fl_X9_29 : g_FL RX9 29 TX9 15 := Or.inl (g_in5 (List.mem_of_getElem? (i := 146) rfl) rfl)
theorem fl_X9_32 : g_FL RX9 32 TX9 16 := Or.inl (g_in5 (List.mem_of_getElem? (i := 147) rfl) rfl)
theorem fl_X9_35 : g_FL RX9 35 TX9 17 := Or.inl (g_in5 (List.mem_of_getElem? (i := 148) rfl) rfl)
theorem fl_X9_38 : g_FL RX9 38 TX9 18 := Or.inl (g_in5 (List.mem_of_getElem? (i := 149) rfl) rfl)
theorem fl_X9_41 : g_FL RX9 41 TX9 19 := Or.inl (g_in5 (List.mem_of_getElem? (i := 150) rfl) rfl)
theorem fl_X9_44 : g_FL RX9 44 TX9 20 := Or.inl (g_in5 (List.mem_of_getElem? (i := 151) rfl) rfl)
theorem fl_X9_47 : g_FL RX9 47 TX9 21 := Or.inl (g_in5 (List.mem_of_getElem? (i := 152) rfl) rfl)
theorem fl_X9_50 : g_FL RX9 50 TX9 23 := Or.inl (g_in5 (List.mem_of_getElem? (i := 154) rfl) rfl)
theorem fl_X9_53 : g_FL RX9 53 TX9 24 := Or.inl (g_in5 (List.mem_of_getElem? (i := 155) rfl) rfl)
theorem fl_X9_56 : g_FL RX9 56 TX9 25 := Or.inl (g_in5 (List.mem_of_getElem? (i := 156) rfl) rfl)
theorem fl_X9_59 : g_FL RX9 59 TX9 27 := Or.inl (g_in5 (List.mem_of_getElem? (i := 158) rfl) rfl)
theorem fl_X9_62 : g_FL RX9 62 TX9 28 := Or.inl (g_in5 (List.mem_of_getElem? (i := 159) rfl) rfl)
theorem fl_X9_66 : g_FL RX9 66 TX9 29 := Or.inl (g_in5 (List.mem_of_getElem? (i := 160) rfl) rfl)
theorem fl_X9_69 : g_FL RX9 69 TX9 30 := Or.inl (g_in5 (List.mem_of_getElem? (i := 161) rfl) rfl)
theorem fl_X9_72 : g_FL RX9 72 TX9 31 := Or.inl (g_in5 (List.mem_of_getElem? (i := 162) rfl) rfl)
theorem fl_X9_75 : g_FL RX9 75 TX9 32 := Or.inl (g_in5 (List.mem_of_getElem? (i := 163) rfl) rfl)
theorem fl_X9_78 : g_FL RX9 78 TX9 33 := Or.inl (g_in5 (List.mem_of_getElem? (i := 164) rfl) rfl)
theorem fl_X9_81 : g_FL RX9 81 TX9 34 := Or.inl (g_in5 (List.mem_of_getElem? (i := 165) rfl) rfl)
theorem fl_X9_84 : g_FL RX9 84 TX9 35 := Or.inl (g_in5 (List.mem_of_getElem? (i := 166) rfl) rfl)
theorem fl_X9_87 : g_FL RX9 87 TX9 36 := Or.inl (g_in5 (List.mem_of_getElem? (i := 167) rfl) rfl)
theorem fl_X9_90 : g_FL RX9 90 TX9 37 := Or.inl (g_in5 (List.mem_of_getElem? (i := 168) rfl) rfl)
theorem fl_X9_93 : g_FL RX9 93 TX9 38 := Or.inl (g_in5 (List.mem_of_getElem? (i := 169) rfl) rfl)
theorem fl_X9_96 : g_FL RX9 96 TX9 40 := Or.inl (g_in5 (List.mem_of_getElem? (i := 171) rfl) rfl)
theorem fl_X9_99 : g_FL RX9 99 TX9 41 := Or.inl (g_in5 (List.mem_of_getElem? (i := 172) rfl) rfl)
theorem fl_X9_102 : g_FL RX9 102 TX9 42 := Or.inl (g_in5 (List.mem_of_getElem? (i := 173) rfl) rfl)
theorem fl_X9_105 : g_FL RX9 105 TX9 43 := Or.inl (g_in5 (List.mem_of_getElem? (i := 174) rfl) rfl)
theorem fl_X9_108 : g_FL RX9 108 TX9 44 := Or.inl (g_in5 (List.mem_of_getElem? (i := 175) rfl) rfl)
theorem fl_X9_111 : g_FL RX9 111 TX9 45 := Or.inl (g_in5 (List.mem_of_getElem? (i := 176) rfl) rfl)
theorem fl_X9_114 : g_FL RX9 114 TX9 46 := Or.inl (g_in5 (List.mem_of_getElem? (i := 177) rfl) rfl)
theorem fl_X9_117 : g_FL RX9 117 TX9 47 := Or.inl (g_in5 (List.mem_of_getElem? (i := 178) rfl) rfl)
theorem fl_X9_120 : g_FL RX9 120 TX9 48 := Or.inl (g_in5 (List.mem_of_getElem? (i := 179) rfl) rfl)
theorem fl_X9_123 : g_FL RX9 123 TX9 49 := Or.inl (g_in5 (List.mem_of_getElem? (i := 180) rfl) rfl)
theorem fl_X9_126 : g_FL RX9 126 TX9 50 := Or.inl (g_in5 (List.mem_of_getElem? (i := 181) rfl) rfl)
theorem fl_X9_129 : g_FL RX9 129 TX9 51 := Or.inl (g_in5 (List.mem_of_getElem? (i := 182) rfl) rfl)
theorem fl_X9_132 : g_FL RX9 132 TX9 52 := Or.inl (g_in5 (List.mem_of_getElem? (i := 183) rfl) rfl)
theorem fl_X9_135 : g_FL RX9 135 TX9 53 := Or.inl (g_in5 (List.mem_of_getElem? (i := 184) rfl) rfl)
theorem fl_X9_138 : g_FL RX9 138 TX9 54 := Or.inl (g_in5 (List.mem_of_getElem? (i := 185) rfl) rfl)
theorem fl_X9_141 : g_FL RX9 141 TX9 55 := Or.inl (g_in5 (List.mem_of_getElem? (i := 186) rfl) rfl)
theorem fl_X9_144 : g_FL RX9 144 TX9 56 := Or.inl (g_in5 (List.mem_of_getElem? (i := 187) rfl) rfl)
theorem fl_X9_147 : g_FL RX9 147 TX9 58 := Or.inl (g_in5 (List.mem_of_getElem? (i := 189) rfl) rfl)
theorem fl_X9_150 : g_FL RX9 150 TX9 60 := Or.inl (g_in5 (List.mem_of_getElem? (i := 191) rfl) rfl)
theorem fl_X9_153 : g_FL RX9 153 TX9 61 := Or.inl (g_in5 (List.mem_of_getElem? (i := 192) rfl) rfl)
theorem fl_X9_156 : g_FL RX9 156 TX9 0 := Or.inl (g_in5 (List.mem_of_getElem? (i := 131) rfl) rfl)
theorem fl_X9_162 : g_FL RX9 162 TX9 1 := Or.inl (g_in5 (List.mem_of_getElem? (i := 132) rfl) rfl)
theorem fl_X9_165 : g_FL RX9 165 TX9 3 := Or.inl (g_in5 (List.mem_of_getElem? (i := 134) rfl) rfl)
theorem fl_X9_168 : g_FL RX9 168 TX9 4 := Or.inl (g_in5 (List.mem_of_getElem? (i := 135) rfl) rfl)
theorem fl_X9_171 : g_FL RX9 171 TX9 5 := Or.inl (g_in5 (List.mem_of_getElem? (i := 136) rfl) rfl)
theorem fl_X9_174 : g_FL RX9 174 TX9 7 := Or.inl (g_in5 (List.mem_of_getElem? (i := 138) rfl) rfl)
theorem fl_X9_178 : g_FL RX9 178 TX9 8 := Or.inl (g_in5 (List.mem_of_getElem? (i := 139) rfl) rfl)
theorem fl_X9_181 : g_FL RX9 181 TX9 6 := Or.inl (g_in5 (List.mem_of_getElem? (i := 137) rfl) rfl)
theorem fl_X9_192 : g_FL RX9 192 TX9 9 := Or.inl (g_in5 (List.mem_of_getElem? (i := 140) rfl) rfl)
theorem fl_X9_294 : g_FL RX9 294 TX9 39 := Or.inl (g_in5 (List.mem_of_getElem? (i := 170) rfl) rfl)
theorem fl_X9_312 : g_FL RX9 312 TX9 26 := Or.inl (g_in5 (List.mem_of_getElem? (i := 157) rfl) rfl)
theorem fl_X9_347 : g_FL RX9 347 TX9 22 := Or.inl (g_in5 (List.mem_of_getElem? (i := 153) rfl) rfl)
theorem fl_X9_448 : g_FL RX9 448 TX9 57 := Or.inl (g_in5 (List.mem_of_getElem? (i := 188) rfl) rfl)
theorem fl_X9_463 : g_FL RX9 463 TX9 59 := Or.inl (g_in5 (List.mem_of_getElem? (i := 190) rfl) rfl)
theorem ml_X8_9 : g_ML RX8 9 yX6_init := Or.inr ⟨"OwnMade", g_nn1 (List.mem_of_getElem? (i := 34) rfl) rfl⟩
theorem ml_X8_18 : g_ML RX8 18 yX1_init := Or.inr ⟨"OwnMade", g_nn1 (List.mem_of_getElem? (i := 136) rfl) rfl⟩
theorem ml_X8_28 : g_ML RX8 28 yX4_init := Or.inr ⟨"OwnMade", g_nn1 (List.mem_of_getElem? (i := 205) rfl) rfl⟩
theorem ml_X8_38 : g_ML RX8 38 yX7_init := Or.inr ⟨"OwnMade", g_nn1 (List.mem_of_getElem? (i := 229) rfl) rfl⟩
theorem ml_X8_53 : g_ML RX8 53 yX3_init := Or.inr ⟨"OwnMade", g_nn2 (List.mem_of_getElem? (i := 33) rfl) rfl⟩
theorem ml_X8_63 : g_ML RX8 63 yX0_init := Or.inr ⟨"OwnMade", g_nn2 (List.mem_of_getElem? (i := 71) rfl) rfl⟩
theorem ml_X8_74 : g_ML RX8 74 yX6_add := Or.inr ⟨"OwnMade", g_nn2 (List.mem_of_getElem? (i := 147) rfl) rfl⟩
theorem ml_X8_82 : g_ML RX8 82 yX2_read := Or.inr ⟨"OwnMade", g_nn2 (List.mem_of_getElem? (i := 155) rfl) rfl⟩
theorem ml_X8_88 : g_ML RX8 88 yX7_begin := Or.inr ⟨"OwnMade", g_nn3 (List.mem_of_getElem? (i := 78) rfl) rfl⟩
theorem ml_X8_99 : g_ML RX8 99 yX5_read := Or.inr ⟨"OwnMade", g_nn3 (List.mem_of_getElem? (i := 86) rfl) rfl⟩
theorem ml_X8_104 : g_ML RX8 104 yX8_isPlace := Or.inl (g_in3 (List.mem_of_getElem? (i := 125) rfl) rfl)
theorem ml_X8_112 : g_ML RX8 112 yX8_isGood := Or.inl (g_in3 (List.mem_of_getElem? (i := 133) rfl) rfl)
theorem ml_X8_121 : g_ML RX8 121 yX1_makersOf := Or.inr ⟨"OwnMade", g_nn3 (List.mem_of_getElem? (i := 137) rfl) rfl⟩
theorem ml_X8_125 : g_ML RX8 125 yX8_isPerson := Or.inl (g_in3 (List.mem_of_getElem? (i := 145) rfl) rfl)
theorem ml_X8_128 : g_ML RX8 128 yX1_worthOf := Or.inr ⟨"OwnMade", g_nn3 (List.mem_of_getElem? (i := 149) rfl) rfl⟩
theorem ml_X8_141 : g_ML RX8 141 yX8_happyOf := Or.inl (g_in3 (List.mem_of_getElem? (i := 157) rfl) rfl)
theorem ml_X8_144 : g_ML RX8 144 yX7_heldBy := Or.inr ⟨"OwnMade", g_nn3 (List.mem_of_getElem? (i := 170) rfl) rfl⟩
theorem ml_X8_150 : g_ML RX8 150 yX7_laterClock := Or.inr ⟨"OwnMade", g_nn3 (List.mem_of_getElem? (i := 178) rfl) rfl⟩
theorem ml_X8_154 : g_ML RX8 154 yX7_holdsOfEach := Or.inr ⟨"OwnMade", g_nn3 (List.mem_of_getElem? (i := 183) rfl) rfl⟩
theorem ml_X8_161 : g_ML RX8 161 yX7_useUp := Or.inr ⟨"OwnMade", g_nn3 (List.mem_of_getElem? (i := 191) rfl) rfl⟩
theorem ml_X8_165 : g_ML RX8 165 yX7_add := Or.inr ⟨"OwnMade", g_nn3 (List.mem_of_getElem? (i := 195) rfl) rfl⟩
theorem ml_X8_168 : g_ML RX8 168 yX7_setClocks := Or.inr ⟨"OwnMade", g_nn3 (List.mem_of_getElem? (i := 199) rfl) rfl⟩
theorem ml_X8_172 : g_ML RX8 172 yX8_areTwo := Or.inl (g_in3 (List.mem_of_getElem? (i := 211) rfl) rfl)
theorem ml_X8_175 : g_ML RX8 175 yX8_isThing := Or.inl (g_in3 (List.mem_of_getElem? (i := 215) rfl) rfl)
theorem ml_X8_181 : g_ML RX8 181 yX8_isLawfulNow := Or.inl (g_in3 (List.mem_of_getElem? (i := 219) rfl) rfl)
theorem ml_X8_206 : g_ML RX8 206 yX8_isHeldBy := Or.inl (g_in4 (List.mem_of_getElem? (i := 10) rfl) rfl)
theorem ml_X8_209 : g_ML RX8 209 yX8_isSet := Or.inl (g_in4 (List.mem_of_getElem? (i := 18) rfl) rfl)
theorem ml_X8_212 : g_ML RX8 212 yX8_anywhere := Or.inl (g_in4 (List.mem_of_getElem? (i := 26) rfl) rfl)
theorem ml_X8_234 : g_ML RX8 234 yX8_findRounds := Or.inl (g_in4 (List.mem_of_getElem? (i := 30) rfl) rfl)
theorem ml_X8_238 : g_ML RX8 238 yX3_shortestIn := Or.inr ⟨"OwnMade", g_nn4 (List.mem_of_getElem? (i := 98) rfl) rfl⟩
theorem ml_X8_241 : g_ML RX8 241 yX8_canLive := Or.inl (g_in4 (List.mem_of_getElem? (i := 106) rfl) rfl)
theorem ml_X8_244 : g_ML RX8 244 yX8_everybody := Or.inl (g_in4 (List.mem_of_getElem? (i := 22) rfl) rfl)
theorem ml_X8_251 : g_ML RX8 251 yX0_fill := Or.inr ⟨"OwnMade", g_nn4 (List.mem_of_getElem? (i := 110) rfl) rfl⟩
theorem ml_X8_261 : g_ML RX8 261 yX0_together := Or.inr ⟨"OwnMade", g_nn4 (List.mem_of_getElem? (i := 129) rfl) rfl⟩
theorem ml_X8_265 : g_ML RX8 265 yX1_hadIn := Or.inr ⟨"OwnMade", g_nn4 (List.mem_of_getElem? (i := 137) rfl) rfl⟩
theorem ml_X8_268 : g_ML RX8 268 yX1_lackedIn := Or.inr ⟨"OwnMade", g_nn4 (List.mem_of_getElem? (i := 146) rfl) rfl⟩
theorem ml_X8_271 : g_ML RX8 271 yJ6_bitCount_0f7a4 := Or.inl (g_in4 (List.mem_of_getElem? (i := 155) rfl) rfl)
theorem ml_X8_276 : g_ML RX8 276 yX8_isFair := Or.inl (g_in4 (List.mem_of_getElem? (i := 160) rfl) rfl)
theorem ml_X8_281 : g_ML RX8 281 yX8_fairWorth := Or.inl (g_in4 (List.mem_of_getElem? (i := 164) rfl) rfl)
theorem ml_X8_285 : g_ML RX8 285 yX1_comersTo := Or.inr ⟨"OwnMade", g_nn4 (List.mem_of_getElem? (i := 168) rfl) rfl⟩
theorem ml_X8_288 : g_ML RX8 288 yJ9_min_7cf53 := Or.inl (g_in4 (List.mem_of_getElem? (i := 183) rfl) rfl)
theorem ml_X8_293 : g_ML RX8 293 yX1_makersWithin := Or.inr ⟨"OwnMade", g_nn4 (List.mem_of_getElem? (i := 184) rfl) rfl⟩
theorem ml_X8_296 : g_ML RX8 296 yX8_coinFor := Or.inl (g_in4 (List.mem_of_getElem? (i := 193) rfl) rfl)
theorem ml_X8_302 : g_ML RX8 302 yX8_mostWith := Or.inl (g_in4 (List.mem_of_getElem? (i := 210) rfl) rfl)
theorem ml_X8_307 : g_ML RX8 307 yX7_held := Or.inr ⟨"OwnMade", g_nn3 (List.mem_of_getElem? (i := 161) rfl) rfl⟩
theorem ml_X8_310 : g_ML RX8 310 yX8_leastFine := Or.inl (g_in5 (List.mem_of_getElem? (i := 119) rfl) rfl)
theorem ml_X8_313 : g_ML RX8 313 yX8_partOfTen := Or.inl (g_in5 (List.mem_of_getElem? (i := 122) rfl) rfl)
theorem ml_X8_316 : g_ML RX8 316 yX8_findWares := Or.inl (g_in4 (List.mem_of_getElem? (i := 218) rfl) rfl)
theorem ml_X8_319 : g_ML RX8 319 yX8_drawWeek := Or.inl (g_in4 (List.mem_of_getElem? (i := 222) rfl) rfl)
theorem ml_X8_323 : g_ML RX8 323 yX3_pairsOf := Or.inr ⟨"OwnMade", g_nn5 (List.mem_of_getElem? (i := 1) rfl) rfl⟩
theorem ml_X8_326 : g_ML RX8 326 yX7_copy := Or.inr ⟨"OwnMade", g_nn5 (List.mem_of_getElem? (i := 9) rfl) rfl⟩
theorem ml_X8_330 : g_ML RX8 330 yX7_heldAtAll := Or.inr ⟨"OwnMade", g_nn5 (List.mem_of_getElem? (i := 20) rfl) rfl⟩
theorem ml_X8_336 : g_ML RX8 336 yX8_happyOfAll := Or.inl (g_in5 (List.mem_of_getElem? (i := 25) rfl) rfl)
theorem ml_X8_339 : g_ML RX8 339 yX1_worthOfSome := Or.inr ⟨"OwnMade", g_nn3 (List.mem_of_getElem? (i := 165) rfl) rfl⟩
theorem ml_X8_342 : g_ML RX8 342 yX8_isLawful := Or.inl (g_in3 (List.mem_of_getElem? (i := 223) rfl) rfl)
theorem ml_X8_346 : g_ML RX8 346 yX8_fillFacts := Or.inl (g_in3 (List.mem_of_getElem? (i := 227) rfl) rfl)
theorem ml_X8_349 : g_ML RX8 349 yX4_allows := Or.inr ⟨"OwnMade", g_nn3 (List.mem_of_getElem? (i := 235) rfl) rfl⟩
theorem ml_X8_353 : g_ML RX8 353 yX1_away := Or.inr ⟨"OwnMade", g_nn3 (List.mem_of_getElem? (i := 231) rfl) rfl⟩
theorem ml_X8_356 : g_ML RX8 356 yX3_clear := Or.inr ⟨"OwnMade", g_nn4 (List.mem_of_getElem? (i := 34) rfl) rfl⟩
theorem ml_X8_359 : g_ML RX8 359 yX3_hold := Or.inr ⟨"OwnMade", g_nn4 (List.mem_of_getElem? (i := 39) rfl) rfl⟩
theorem ml_X8_362 : g_ML RX8 362 yX3_mayGive := Or.inr ⟨"OwnMade", g_nn4 (List.mem_of_getElem? (i := 43) rfl) rfl⟩
theorem ml_X8_365 : g_ML RX8 365 yX3_allow := Or.inr ⟨"OwnMade", g_nn4 (List.mem_of_getElem? (i := 47) rfl) rfl⟩
theorem ml_X8_368 : g_ML RX8 368 yX3_find := Or.inr ⟨"OwnMade", g_nn4 (List.mem_of_getElem? (i := 51) rfl) rfl⟩
theorem ml_X8_372 : g_ML RX8 372 yX1_hoursTo := Or.inr ⟨"OwnMade", g_nn4 (List.mem_of_getElem? (i := 175) rfl) rfl⟩
theorem ml_X8_375 : g_ML RX8 375 yX8_bestShared := Or.inl (g_in4 (List.mem_of_getElem? (i := 197) rfl) rfl)
theorem ml_X8_378 : g_ML RX8 378 yJ7_fill_53178 := Or.inl (g_in4 (List.mem_of_getElem? (i := 201) rfl) rfl)
theorem ml_X8_391 : g_ML RX8 391 yX8_nthBit := Or.inl (g_in4 (List.mem_of_getElem? (i := 230) rfl) rfl)
theorem ml_X8_394 : g_ML RX8 394 yJ6_numberOfTrailingZeros_0f7a4 := Or.inl (g_in4 (List.mem_of_getElem? (i := 233) rfl) rfl)
theorem ml_X0_32 : g_ML RX0 32 yJ7_fill_53178 := Or.inl (g_in4 (List.mem_of_getElem? (i := 114) rfl) rfl)
theorem ml_X0_38 : g_ML RX0 38 yX0_bestSplit := Or.inl (g_in4 (List.mem_of_getElem? (i := 115) rfl) rfl)
theorem ml_X0_42 : g_ML RX0 42 yX0_withGroup := Or.inl (g_in4 (List.mem_of_getElem? (i := 119) rfl) rfl)
theorem ml_X0_46 : g_ML RX0 46 yJ9_max_7cf53 := Or.inl (g_in4 (List.mem_of_getElem? (i := 124) rfl) rfl)
theorem ml_X0_52 : g_ML RX0 52 yJ6_bitCount_0f7a4 := Or.inl (g_in4 (List.mem_of_getElem? (i := 123) rfl) rfl)
theorem ml_X1_52 : g_ML RX1 52 yJ7_fill_53178 := Or.inl (g_in2 (List.mem_of_getElem? (i := 162) rfl) rfl)
theorem ml_X1_58 : g_ML RX1 58 yX8_indexIn := Or.inr ⟨"OwnMade", g_nn3 (List.mem_of_getElem? (i := 40) rfl) rfl⟩
theorem ml_X1_62 : g_ML RX1 62 yJ9_min_7cf53 := Or.inl (g_in3 (List.mem_of_getElem? (i := 73) rfl) rfl)
theorem ml_X1_68 : g_ML RX1 68 yX1_away := Or.inl (g_in4 (List.mem_of_getElem? (i := 188) rfl) rfl)
theorem ml_X1_71 : g_ML RX1 71 yX1_isWithin := Or.inl (g_in4 (List.mem_of_getElem? (i := 172) rfl) rfl)
theorem ml_X1_75 : g_ML RX1 75 yX1_worthOf := Or.inl (g_in3 (List.mem_of_getElem? (i := 169) rfl) rfl)
theorem ml_X1_79 : g_ML RX1 79 yX1_makersOf := Or.inl (g_in4 (List.mem_of_getElem? (i := 141) rfl) rfl)
theorem ml_X1_83 : g_ML RX1 83 yX1_hadIn := Or.inl (g_in4 (List.mem_of_getElem? (i := 150) rfl) rfl)
theorem ml_X2_9 : g_ML RX2 9 yX1_clear := Or.inr ⟨"OwnMade", g_nn2 (List.mem_of_getElem? (i := 158) rfl) rfl⟩
theorem ml_X2_14 : g_ML RX2 14 yX6_open := Or.inr ⟨"OwnMade", g_nn2 (List.mem_of_getElem? (i := 165) rfl) rfl⟩
theorem ml_X2_23 : g_ML RX2 23 yX2_readLine := Or.inl (g_in3 (List.mem_of_getElem? (i := 18) rfl) rfl)
theorem ml_X2_29 : g_ML RX2 29 yX1_shortenWays := Or.inr ⟨"OwnMade", g_nn3 (List.mem_of_getElem? (i := 69) rfl) rfl⟩
theorem ml_X2_32 : g_ML RX2 32 yX6_close := Or.inr ⟨"OwnMade", g_nn3 (List.mem_of_getElem? (i := 74) rfl) rfl⟩
theorem ml_X2_39 : g_ML RX2 39 yX2_readPlace := Or.inl (g_in3 (List.mem_of_getElem? (i := 21) rfl) rfl)
theorem ml_X2_42 : g_ML RX2 42 yX6_wrong := Or.inr ⟨"OwnMade", g_nn3 (List.mem_of_getElem? (i := 32) rfl) rfl⟩
theorem ml_X2_46 : g_ML RX2 46 yX2_readWay := Or.inl (g_in3 (List.mem_of_getElem? (i := 46) rfl) rfl)
theorem ml_X2_52 : g_ML RX2 52 yX2_readGood := Or.inl (g_in3 (List.mem_of_getElem? (i := 57) rfl) rfl)
theorem ml_X2_58 : g_ML RX2 58 yX2_readPerson := Or.inl (g_in3 (List.mem_of_getElem? (i := 63) rfl) rfl)
theorem ml_X2_61 : g_ML RX2 61 yX6_advance := Or.inr ⟨"OwnMade", g_nn3 (List.mem_of_getElem? (i := 24) rfl) rfl⟩
theorem ml_X2_68 : g_ML RX2 68 yX2_takeNewName := Or.inl (g_in3 (List.mem_of_getElem? (i := 25) rfl) rfl)
theorem ml_X2_72 : g_ML RX2 72 yX6_take := Or.inr ⟨"OwnMade", g_nn3 (List.mem_of_getElem? (i := 41) rfl) rfl⟩
theorem ml_X2_75 : g_ML RX2 75 yX2_takeTold := Or.inl (g_in3 (List.mem_of_getElem? (i := 49) rfl) rfl)
theorem ml_X2_79 : g_ML RX2 79 yX6_takeNumber := Or.inr ⟨"OwnMade", g_nn3 (List.mem_of_getElem? (i := 53) rfl) rfl⟩
theorem ml_X2_90 : g_ML RX2 90 yX2_takeGoods := Or.inl (g_in3 (List.mem_of_getElem? (i := 60) rfl) rfl)
theorem ml_X2_104 : g_ML RX2 104 yX2_readWant := Or.inl (g_in3 (List.mem_of_getElem? (i := 66) rfl) rfl)
theorem ml_X2_117 : g_ML RX2 117 yX6_isName := Or.inr ⟨"OwnMade", g_nn3 (List.mem_of_getElem? (i := 28) rfl) rfl⟩
theorem ml_X2_125 : g_ML RX2 125 yX1_isTold := Or.inr ⟨"OwnMade", g_nn3 (List.mem_of_getElem? (i := 36) rfl) rfl⟩
theorem ml_X2_129 : g_ML RX2 129 yX8_indexIn := Or.inr ⟨"OwnMade", g_nn3 (List.mem_of_getElem? (i := 52) rfl) rfl⟩
theorem ml_X3_39 : g_ML RX3 39 yJ7_fill_53178 := Or.inl (g_in4 (List.mem_of_getElem? (i := 38) rfl) rfl)
theorem ml_X3_51 : g_ML RX3 51 yX3_weigh := Or.inl (g_in4 (List.mem_of_getElem? (i := 55) rfl) rfl)
theorem ml_X3_55 : g_ML RX3 55 yX3_startRings := Or.inl (g_in4 (List.mem_of_getElem? (i := 60) rfl) rfl)
theorem ml_X3_59 : g_ML RX3 59 yX3_findMost := Or.inl (g_in4 (List.mem_of_getElem? (i := 78) rfl) rfl)
theorem ml_X3_66 : g_ML RX3 66 yX1_worthOf := Or.inr ⟨"OwnMade", g_nn4 (List.mem_of_getElem? (i := 59) rfl) rfl⟩
theorem ml_X3_70 : g_ML RX3 70 yX3_goOn := Or.inl (g_in4 (List.mem_of_getElem? (i := 64) rfl) rfl)
theorem ml_X3_74 : g_ML RX3 74 yX3_closeRing := Or.inl (g_in4 (List.mem_of_getElem? (i := 67) rfl) rfl)
theorem ml_X3_78 : g_ML RX3 78 yJ6_bitCount_0f7a4 := Or.inl (g_in4 (List.mem_of_getElem? (i := 72) rfl) rfl)
theorem ml_X3_84 : g_ML RX3 84 yJ9_max_7cf53 := Or.inl (g_in4 (List.mem_of_getElem? (i := 71) rfl) rfl)
theorem ml_X3_90 : g_ML RX3 90 yX3_offerRound := Or.inl (g_in4 (List.mem_of_getElem? (i := 82) rfl) rfl)
theorem ml_X4_28 : g_ML RX4 28 yX4_valueOf := Or.inl (g_in3 (List.mem_of_getElem? (i := 239) rfl) rfl)
theorem ml_X4_32 : g_ML RX4 32 yX4_joined := Or.inl (g_in4 (List.mem_of_getElem? (i := 3) rfl) rfl)
theorem ml_X5_9 : g_ML RX5 9 yX4_clear := Or.inr ⟨"OwnMade", g_nn3 (List.mem_of_getElem? (i := 89) rfl) rfl⟩
theorem ml_X5_14 : g_ML RX5 14 yX6_open := Or.inr ⟨"OwnMade", g_nn3 (List.mem_of_getElem? (i := 93) rfl) rfl⟩
theorem ml_X5_23 : g_ML RX5 23 yX5_readLine := Or.inl (g_in3 (List.mem_of_getElem? (i := 94) rfl) rfl)
theorem ml_X5_29 : g_ML RX5 29 yX6_close := Or.inr ⟨"OwnMade", g_nn3 (List.mem_of_getElem? (i := 120) rfl) rfl⟩
theorem ml_X5_36 : g_ML RX5 36 yX6_wrong := Or.inr ⟨"OwnMade", g_nn3 (List.mem_of_getElem? (i := 97) rfl) rfl⟩
theorem ml_X5_40 : g_ML RX5 40 yX6_take := Or.inr ⟨"OwnMade", g_nn3 (List.mem_of_getElem? (i := 98) rfl) rfl⟩
theorem ml_X5_43 : g_ML RX5 43 yX5_readJoined := Or.inl (g_in3 (List.mem_of_getElem? (i := 99) rfl) rfl)
theorem ml_X5_47 : g_ML RX5 47 yX4_endLine := Or.inr ⟨"OwnMade", g_nn3 (List.mem_of_getElem? (i := 116) rfl) rfl⟩
theorem ml_X5_50 : g_ML RX5 50 yX5_readPart := Or.inl (g_in3 (List.mem_of_getElem? (i := 102) rfl) rfl)
theorem ml_X5_54 : g_ML RX5 54 yX5_joins := Or.inl (g_in3 (List.mem_of_getElem? (i := 113) rfl) rfl)
theorem ml_X5_58 : g_ML RX5 58 yX6_advance := Or.inr ⟨"OwnMade", g_nn3 (List.mem_of_getElem? (i := 108) rfl) rfl⟩
theorem ml_X5_61 : g_ML RX5 61 yX4_put := Or.inr ⟨"OwnMade", g_nn3 (List.mem_of_getElem? (i := 109) rfl) rfl⟩
theorem ml_X5_65 : g_ML RX5 65 yX5_isFact := Or.inl (g_in3 (List.mem_of_getElem? (i := 105) rfl) rfl)
theorem ml_X6_31 : g_ML RX6 31 yJ0_length_8abf5 := Or.inl (g_in1 (List.mem_of_getElem? (i := 39) rfl) rfl)
theorem ml_X6_37 : g_ML RX6 37 yJ0_charAt_5068e := Or.inl (g_in1 (List.mem_of_getElem? (i := 49) rfl) rfl)
theorem ml_X6_41 : g_ML RX6 41 yX6_withLetter := Or.inl (g_in1 (List.mem_of_getElem? (i := 87) rfl) rfl)
theorem ml_X6_54 : g_ML RX6 54 yX6_readToken := Or.inl (g_in2 (List.mem_of_getElem? (i := 169) rfl) rfl)
theorem ml_X6_58 : g_ML RX6 58 yX6_keep := Or.inl (g_in2 (List.mem_of_getElem? (i := 183) rfl) rfl)
theorem ml_X6_65 : g_ML RX6 65 yX6_advance := Or.inl (g_in3 (List.mem_of_getElem? (i := 14) rfl) rfl)
theorem ml_X6_68 : g_ML RX6 68 yX6_isLetter := Or.inl (g_in2 (List.mem_of_getElem? (i := 173) rfl) rfl)
theorem ml_X6_72 : g_ML RX6 72 yX6_readWord := Or.inl (g_in2 (List.mem_of_getElem? (i := 176) rfl) rfl)
theorem ml_X6_75 : g_ML RX6 75 yX6_isDigit := Or.inl (g_in2 (List.mem_of_getElem? (i := 187) rfl) rfl)
theorem ml_X6_78 : g_ML RX6 78 yX6_readNumber := Or.inl (g_in2 (List.mem_of_getElem? (i := 190) rfl) rfl)
theorem ml_X6_83 : g_ML RX6 83 yJ0_indexOf_0f7a4 := Or.inl (g_in2 (List.mem_of_getElem? (i := 195) rfl) rfl)
theorem ml_X6_86 : g_ML RX6 86 yX8_indexIn := Or.inr ⟨"OwnMade", g_nn2 (List.mem_of_getElem? (i := 180) rfl) rfl⟩
theorem ml_X6_99 : g_ML RX6 99 yX6_wrong := Or.inl (g_in3 (List.mem_of_getElem? (i := 45) rfl) rfl)
theorem ml_X7_54 : g_ML RX7 54 yJ9_max_7cf53 := Or.inl (g_in3 (List.mem_of_getElem? (i := 182) rfl) rfl)
theorem ml_X7_60 : g_ML RX7 60 yX7_firstHeld := Or.inl (g_in3 (List.mem_of_getElem? (i := 187) rfl) rfl)
theorem ml_X7_63 : g_ML RX7 63 yX7_heldBy := Or.inl (g_in5 (List.mem_of_getElem? (i := 24) rfl) rfl)
theorem ml_L_7 : g_ML RL 7 yX8_thing := Or.inl (g_in5 (List.mem_of_getElem? (i := 33) rfl) rfl)
theorem ml_L_15 : g_ML RL 15 yX8_fair := Or.inl (g_in5 (List.mem_of_getElem? (i := 106) rfl) rfl)
theorem ml_L_19 : g_ML RL 19 yX8_lie := Or.inl (g_in5 (List.mem_of_getElem? (i := 114) rfl) rfl)
theorem ml_L_23 : g_ML RL 23 yX8_init := Or.inl (g_in1 (List.mem_of_getElem? (i := 26) rfl) rfl)
theorem ml_L_26 : g_ML RL 26 yX9_init := Or.inl (g_in5 (List.mem_of_getElem? (i := 127) rfl) rfl)
theorem ml_L_29 : g_ML RL 29 yX8_feed := Or.inl (g_in2 (List.mem_of_getElem? (i := 143) rfl) rfl)
theorem ml_L_33 : g_ML RL 33 yX9_feed := Or.inl (g_in6 (List.mem_of_getElem? (i := 83) rfl) rfl)
theorem ml_L_34 : g_ML RL 34 yX8_land := Or.inl (g_in2 (List.mem_of_getElem? (i := 151) rfl) rfl)
theorem ml_L_38 : g_ML RL 38 yX9_land := Or.inl (g_in6 (List.mem_of_getElem? (i := 88) rfl) rfl)
theorem ml_L_39 : g_ML RL 39 yX8_rule := Or.inl (g_in3 (List.mem_of_getElem? (i := 82) rfl) rfl)
theorem ml_L_42 : g_ML RL 42 yX9_rule := Or.inl (g_in6 (List.mem_of_getElem? (i := 231) rfl) rfl)
theorem ml_L_43 : g_ML RL 43 yX8_way := Or.inl (g_in3 (List.mem_of_getElem? (i := 121) rfl) rfl)
theorem ml_L_46 : g_ML RL 46 yX9_way := Or.inl (g_in6 (List.mem_of_getElem? (i := 199) rfl) rfl)
theorem ml_L_47 : g_ML RL 47 yX8_good := Or.inl (g_in3 (List.mem_of_getElem? (i := 129) rfl) rfl)
theorem ml_L_50 : g_ML RL 50 yX9_good := Or.inl (g_in6 (List.mem_of_getElem? (i := 211) rfl) rfl)
theorem ml_L_51 : g_ML RL 51 yX8_worth := Or.inl (g_in3 (List.mem_of_getElem? (i := 141) rfl) rfl)
theorem ml_L_55 : g_ML RL 55 yX9_worth := Or.inl (g_in6 (List.mem_of_getElem? (i := 223) rfl) rfl)
theorem ml_L_56 : g_ML RL 56 yX8_person := Or.inl (g_in3 (List.mem_of_getElem? (i := 153) rfl) rfl)
theorem ml_L_59 : g_ML RL 59 yX9_person := Or.inl (g_in7 (List.mem_of_getElem? (i := 79) rfl) rfl)
theorem ml_L_60 : g_ML RL 60 yX8_make := Or.inl (g_in3 (List.mem_of_getElem? (i := 174) rfl) rfl)
theorem ml_L_63 : g_ML RL 63 yX9_make := Or.inl (g_in7 (List.mem_of_getElem? (i := 18) rfl) rfl)
theorem ml_L_64 : g_ML RL 64 yX8_go := Or.inl (g_in3 (List.mem_of_getElem? (i := 203) rfl) rfl)
theorem ml_L_67 : g_ML RL 67 yX9_go := Or.inl (g_in7 (List.mem_of_getElem? (i := 35) rfl) rfl)
theorem ml_L_68 : g_ML RL 68 yX8_give := Or.inl (g_in3 (List.mem_of_getElem? (i := 207) rfl) rfl)
theorem ml_L_71 : g_ML RL 71 yX9_give := Or.inl (g_in7 (List.mem_of_getElem? (i := 39) rfl) rfl)
theorem ml_L_72 : g_ML RL 72 yL_thing := Or.inl (g_in5 (List.mem_of_getElem? (i := 29) rfl) rfl)
theorem ml_L_77 : g_ML RL 77 yX9_thing := Or.inl (g_in7 (List.mem_of_getElem? (i := 67) rfl) rfl)
theorem ml_L_78 : g_ML RL 78 yX9_thrown := Or.inl (g_in6 (List.mem_of_getElem? (i := 79) rfl) rfl)
theorem ml_L_81 : g_ML RL 81 yX8_lawful := Or.inl (g_in4 (List.mem_of_getElem? (i := 6) rfl) rfl)
theorem ml_L_84 : g_ML RL 84 yX9_lawful := Or.inl (g_in7 (List.mem_of_getElem? (i := 71) rfl) rfl)
theorem ml_L_85 : g_ML RL 85 yX8_round := Or.inl (g_in4 (List.mem_of_getElem? (i := 14) rfl) rfl)
theorem ml_L_89 : g_ML RL 89 yX9_round := Or.inl (g_in7 (List.mem_of_getElem? (i := 99) rfl) rfl)
theorem ml_L_90 : g_ML RL 90 yX8_most := Or.inl (g_in4 (List.mem_of_getElem? (i := 86) rfl) rfl)
theorem ml_L_93 : g_ML RL 93 yX9_most := Or.inl (g_in7 (List.mem_of_getElem? (i := 135) rfl) rfl)
theorem ml_L_94 : g_ML RL 94 yX8_at := Or.inl (g_in4 (List.mem_of_getElem? (i := 90) rfl) rfl)
theorem ml_L_97 : g_ML RL 97 yX9_at := Or.inl (g_in7 (List.mem_of_getElem? (i := 154) rfl) rfl)
theorem ml_L_98 : g_ML RL 98 yX8_length := Or.inl (g_in4 (List.mem_of_getElem? (i := 94) rfl) rfl)
theorem ml_L_101 : g_ML RL 101 yX9_length := Or.inl (g_in7 (List.mem_of_getElem? (i := 158) rfl) rfl)
theorem ml_L_102 : g_ML RL 102 yX8_live := Or.inl (g_in4 (List.mem_of_getElem? (i := 102) rfl) rfl)
theorem ml_L_105 : g_ML RL 105 yX9_live := Or.inl (g_in7 (List.mem_of_getElem? (i := 162) rfl) rfl)
theorem ml_L_106 : g_ML RL 106 yX8_beside := Or.inl (g_in4 (List.mem_of_getElem? (i := 125) rfl) rfl)
theorem ml_L_109 : g_ML RL 109 yX9_beside := Or.inl (g_in7 (List.mem_of_getElem? (i := 174) rfl) rfl)
theorem ml_L_110 : g_ML RL 110 yX8_had := Or.inl (g_in4 (List.mem_of_getElem? (i := 133) rfl) rfl)
theorem ml_L_113 : g_ML RL 113 yX9_had := Or.inl (g_in7 (List.mem_of_getElem? (i := 178) rfl) rfl)
theorem ml_L_114 : g_ML RL 114 yX8_never := Or.inl (g_in4 (List.mem_of_getElem? (i := 142) rfl) rfl)
theorem ml_L_117 : g_ML RL 117 yX9_never := Or.inl (g_in7 (List.mem_of_getElem? (i := 186) rfl) rfl)
theorem ml_L_118 : g_ML RL 118 yX8_fewest := Or.inl (g_in4 (List.mem_of_getElem? (i := 151) rfl) rfl)
theorem ml_L_121 : g_ML RL 121 yX9_fewest := Or.inl (g_in7 (List.mem_of_getElem? (i := 194) rfl) rfl)
theorem ml_L_122 : g_ML RL 122 yL_fair := Or.inl (g_in5 (List.mem_of_getElem? (i := 103) rfl) rfl)
theorem ml_L_125 : g_ML RL 125 yX9_fair := Or.inl (g_in7 (List.mem_of_getElem? (i := 198) rfl) rfl)
theorem ml_L_126 : g_ML RL 126 yX8_fairest := Or.inl (g_in4 (List.mem_of_getElem? (i := 156) rfl) rfl)
theorem ml_L_129 : g_ML RL 129 yX9_fairest := Or.inl (g_in7 (List.mem_of_getElem? (i := 206) rfl) rfl)
theorem ml_L_130 : g_ML RL 130 yX8_far := Or.inl (g_in4 (List.mem_of_getElem? (i := 179) rfl) rfl)
theorem ml_L_133 : g_ML RL 133 yX9_far := Or.inl (g_in7 (List.mem_of_getElem? (i := 210) rfl) rfl)
theorem ml_L_134 : g_ML RL 134 yX8_coin := Or.inl (g_in4 (List.mem_of_getElem? (i := 189) rfl) rfl)
theorem ml_L_137 : g_ML RL 137 yX9_coin := Or.inl (g_in7 (List.mem_of_getElem? (i := 214) rfl) rfl)
theorem ml_L_138 : g_ML RL 138 yX8_lifted := Or.inl (g_in4 (List.mem_of_getElem? (i := 202) rfl) rfl)
theorem ml_L_142 : g_ML RL 142 yX9_lifted := Or.inl (g_in7 (List.mem_of_getElem? (i := 222) rfl) rfl)
theorem ml_L_143 : g_ML RL 143 yX8_lift := Or.inl (g_in4 (List.mem_of_getElem? (i := 206) rfl) rfl)
theorem ml_L_146 : g_ML RL 146 yX9_lift := Or.inl (g_in7 (List.mem_of_getElem? (i := 226) rfl) rfl)
theorem ml_L_147 : g_ML RL 147 yL_lie := Or.inl (g_in5 (List.mem_of_getElem? (i := 111) rfl) rfl)
theorem ml_L_150 : g_ML RL 150 yX9_lie := Or.inl (g_in7 (List.mem_of_getElem? (i := 230) rfl) rfl)
theorem ml_L_151 : g_ML RL 151 yX8_years := Or.inl (g_in4 (List.mem_of_getElem? (i := 214) rfl) rfl)
theorem ml_L_154 : g_ML RL 154 yX9_years := Or.inl (g_in7 (List.mem_of_getElem? (i := 238) rfl) rfl)
theorem ml_L_155 : g_ML RL 155 yX8_visited := Or.inl (g_in4 (List.mem_of_getElem? (i := 237) rfl) rfl)
theorem ml_L_158 : g_ML RL 158 yX9_visited := Or.inl (g_in8 (List.mem_of_getElem? (i := 14) rfl) rfl)
theorem ml_L_159 : g_ML RL 159 yX8_mark := Or.inl (g_in5 (List.mem_of_getElem? (i := 5) rfl) rfl)
theorem ml_L_162 : g_ML RL 162 yX9_mark := Or.inl (g_in8 (List.mem_of_getElem? (i := 18) rfl) rfl)
theorem ml_L_163 : g_ML RL 163 yX8_count := Or.inl (g_in5 (List.mem_of_getElem? (i := 16) rfl) rfl)
theorem ml_L_166 : g_ML RL 166 yX9_count := Or.inl (g_in8 (List.mem_of_getElem? (i := 26) rfl) rfl)
theorem ml_X9_184 : g_ML RX9 184 yX9_signAt := Or.inl (g_in6 (List.mem_of_getElem? (i := 100) rfl) rfl)
theorem ml_X9_195 : g_ML RX9 195 yX9_nextToken := Or.inl (g_in6 (List.mem_of_getElem? (i := 96) rfl) rfl)
theorem ml_X9_216 : g_ML RX9 216 yX9_placeOf := Or.inl (g_in6 (List.mem_of_getElem? (i := 143) rfl) rfl)
theorem ml_X9_220 : g_ML RX9 220 yX9_goodOf := Or.inl (g_in6 (List.mem_of_getElem? (i := 147) rfl) rfl)
theorem ml_X9_223 : g_ML RX9 223 yX9_isSign := Or.inl (g_in6 (List.mem_of_getElem? (i := 155) rfl) rfl)
theorem ml_X9_227 : g_ML RX9 227 yX9_fails := Or.inl (g_in6 (List.mem_of_getElem? (i := 119) rfl) rfl)
theorem ml_X9_230 : g_ML RX9 230 yX9_isKept := Or.inl (g_in6 (List.mem_of_getElem? (i := 127) rfl) rfl)
theorem ml_X9_234 : g_ML RX9 234 yX9_isNew := Or.inl (g_in6 (List.mem_of_getElem? (i := 139) rfl) rfl)
theorem ml_X9_237 : g_ML RX9 237 yX9_within := Or.inl (g_in6 (List.mem_of_getElem? (i := 171) rfl) rfl)
theorem ml_X9_241 : g_ML RX9 241 yX9_isWord := Or.inl (g_in6 (List.mem_of_getElem? (i := 111) rfl) rfl)
theorem ml_X9_245 : g_ML RX9 245 yX9_needsNew := Or.inl (g_in6 (List.mem_of_getElem? (i := 123) rfl) rfl)
theorem ml_X9_248 : g_ML RX9 248 yX9_ends := Or.inl (g_in6 (List.mem_of_getElem? (i := 151) rfl) rfl)
theorem ml_X9_251 : g_ML RX9 251 yX9_needsPlace := Or.inl (g_in6 (List.mem_of_getElem? (i := 163) rfl) rfl)
theorem ml_X9_254 : g_ML RX9 254 yX9_needsNumber := Or.inl (g_in6 (List.mem_of_getElem? (i := 167) rfl) rfl)
theorem ml_X9_258 : g_ML RX9 258 yX9_needsGood := Or.inl (g_in6 (List.mem_of_getElem? (i := 186) rfl) rfl)
theorem ml_X9_261 : g_ML RX9 261 yX9_needsWord := Or.inl (g_in6 (List.mem_of_getElem? (i := 178) rfl) rfl)
theorem ml_X9_264 : g_ML RX9 264 yX9_readsGoods := Or.inl (g_in6 (List.mem_of_getElem? (i := 182) rfl) rfl)
theorem ml_X9_267 : g_ML RX9 267 yX9_readsWants := Or.inl (g_in6 (List.mem_of_getElem? (i := 194) rfl) rfl)
theorem ml_X9_270 : g_ML RX9 270 yX9_readsPlace := Or.inl (g_in6 (List.mem_of_getElem? (i := 115) rfl) rfl)
theorem ml_X9_273 : g_ML RX9 273 yX9_readsWay := Or.inl (g_in6 (List.mem_of_getElem? (i := 159) rfl) rfl)
theorem ml_X9_276 : g_ML RX9 276 yX9_readsGood := Or.inl (g_in6 (List.mem_of_getElem? (i := 174) rfl) rfl)
theorem ml_X9_279 : g_ML RX9 279 yX9_readsPerson := Or.inl (g_in6 (List.mem_of_getElem? (i := 190) rfl) rfl)
theorem ml_X9_282 : g_ML RX9 282 yX9_starts := Or.inl (g_in6 (List.mem_of_getElem? (i := 92) rfl) rfl)
theorem ml_X9_285 : g_ML RX9 285 yX9_readsLand := Or.inl (g_in6 (List.mem_of_getElem? (i := 106) rfl) rfl)
theorem ml_X9_288 : g_ML RX9 288 yJ9_min_7cf53 := Or.inl (g_in6 (List.mem_of_getElem? (i := 198) rfl) rfl)
theorem ml_X9_297 : g_ML RX9 297 yX9_isPlace := Or.inl (g_in6 (List.mem_of_getElem? (i := 203) rfl) rfl)
theorem ml_X9_300 : g_ML RX9 300 yX9_isWay := Or.inl (g_in6 (List.mem_of_getElem? (i := 207) rfl) rfl)
theorem ml_X9_303 : g_ML RX9 303 yX9_isGood := Or.inl (g_in6 (List.mem_of_getElem? (i := 215) rfl) rfl)
theorem ml_X9_306 : g_ML RX9 306 yX9_makersOf := Or.inl (g_in6 (List.mem_of_getElem? (i := 219) rfl) rfl)
theorem ml_X9_309 : g_ML RX9 309 yX9_isPerson := Or.inl (g_in6 (List.mem_of_getElem? (i := 227) rfl) rfl)
theorem ml_X9_327 : g_ML RX9 327 yX9_fact := Or.inl (g_in7 (List.mem_of_getElem? (i := 1) rfl) rfl)
theorem ml_X9_332 : g_ML RX9 332 yX9_puts := Or.inl (g_in7 (List.mem_of_getElem? (i := 12) rfl) rfl)
theorem ml_X9_344 : g_ML RX9 344 yX9_reads := Or.inl (g_in6 (List.mem_of_getElem? (i := 237) rfl) rfl)
theorem ml_X9_350 : g_ML RX9 350 yX9_sums := Or.inl (g_in7 (List.mem_of_getElem? (i := 59) rfl) rfl)
theorem ml_X9_353 : g_ML RX9 353 yX9_opens := Or.inl (g_in7 (List.mem_of_getElem? (i := 55) rfl) rfl)
theorem ml_X9_356 : g_ML RX9 356 yX9_tests := Or.inl (g_in7 (List.mem_of_getElem? (i := 63) rfl) rfl)
theorem ml_X9_359 : g_ML RX9 359 yX9_worked := Or.inl (g_in7 (List.mem_of_getElem? (i := 51) rfl) rfl)
theorem ml_X9_362 : g_ML RX9 362 yX9_isLawful := Or.inl (g_in7 (List.mem_of_getElem? (i := 47) rfl) rfl)
theorem ml_X9_366 : g_ML RX9 366 yX9_heldOf := Or.inl (g_in7 (List.mem_of_getElem? (i := 31) rfl) rfl)
theorem ml_X9_369 : g_ML RX9 369 yJ9_max_7cf53 := Or.inl (g_in7 (List.mem_of_getElem? (i := 26) rfl) rfl)
theorem ml_X9_372 : g_ML RX9 372 yX9_hasAll := Or.inl (g_in7 (List.mem_of_getElem? (i := 27) rfl) rfl)
theorem ml_X9_375 : g_ML RX9 375 yX9_whyNotMake := Or.inl (g_in7 (List.mem_of_getElem? (i := 22) rfl) rfl)
theorem ml_X9_379 : g_ML RX9 379 yX9_isLawfulNow := Or.inl (g_in7 (List.mem_of_getElem? (i := 43) rfl) rfl)
theorem ml_X9_382 : g_ML RX9 382 yX9_areGift := Or.inl (g_in7 (List.mem_of_getElem? (i := 75) rfl) rfl)
theorem ml_X9_385 : g_ML RX9 385 yX9_more := Or.inl (g_in7 (List.mem_of_getElem? (i := 91) rfl) rfl)
theorem ml_X9_389 : g_ML RX9 389 yX9_counts := Or.inl (g_in7 (List.mem_of_getElem? (i := 83) rfl) rfl)
theorem ml_X9_392 : g_ML RX9 392 yX9_happy := Or.inl (g_in7 (List.mem_of_getElem? (i := 87) rfl) rfl)
theorem ml_X9_395 : g_ML RX9 395 yX9_heldBy := Or.inl (g_in7 (List.mem_of_getElem? (i := 95) rfl) rfl)
theorem ml_X9_398 : g_ML RX9 398 yX9_gains := Or.inl (g_in7 (List.mem_of_getElem? (i := 123) rfl) rfl)
theorem ml_X9_401 : g_ML RX9 401 yX9_closes := Or.inl (g_in7 (List.mem_of_getElem? (i := 119) rfl) rfl)
theorem ml_X9_405 : g_ML RX9 405 yX9_lengthens := Or.inl (g_in7 (List.mem_of_getElem? (i := 127) rfl) rfl)
theorem ml_X9_408 : g_ML RX9 408 yX9_isAlive := Or.inl (g_in7 (List.mem_of_getElem? (i := 131) rfl) rfl)
theorem ml_X9_411 : g_ML RX9 411 yX9_goesOn := Or.inl (g_in7 (List.mem_of_getElem? (i := 115) rfl) rfl)
theorem ml_X9_414 : g_ML RX9 414 yX9_areThem := Or.inl (g_in7 (List.mem_of_getElem? (i := 103) rfl) rfl)
theorem ml_X9_417 : g_ML RX9 417 yX9_laysOut := Or.inl (g_in7 (List.mem_of_getElem? (i := 107) rfl) rfl)
theorem ml_X9_420 : g_ML RX9 420 yX9_rings := Or.inl (g_in7 (List.mem_of_getElem? (i := 111) rfl) rfl)
theorem ml_X9_423 : g_ML RX9 423 yX9_bits := Or.inl (g_in7 (List.mem_of_getElem? (i := 147) rfl) rfl)
theorem ml_X9_426 : g_ML RX9 426 yX9_isBetter := Or.inl (g_in7 (List.mem_of_getElem? (i := 150) rfl) rfl)
theorem ml_X9_430 : g_ML RX9 430 yX9_mosts := Or.inl (g_in7 (List.mem_of_getElem? (i := 143) rfl) rfl)
theorem ml_X9_433 : g_ML RX9 433 yX9_works := Or.inl (g_in7 (List.mem_of_getElem? (i := 139) rfl) rfl)
theorem ml_X9_436 : g_ML RX9 436 yX9_livesOut := Or.inl (g_in7 (List.mem_of_getElem? (i := 170) rfl) rfl)
theorem ml_X9_439 : g_ML RX9 439 yX9_isLiving := Or.inl (g_in7 (List.mem_of_getElem? (i := 166) rfl) rfl)
theorem ml_X9_442 : g_ML RX9 442 yX9_hadBy := Or.inl (g_in7 (List.mem_of_getElem? (i := 182) rfl) rfl)
theorem ml_X9_445 : g_ML RX9 445 yX9_neverBy := Or.inl (g_in7 (List.mem_of_getElem? (i := 190) rfl) rfl)
theorem ml_X9_451 : g_ML RX9 451 yX9_fairAt := Or.inl (g_in7 (List.mem_of_getElem? (i := 202) rfl) rfl)
theorem ml_X9_454 : g_ML RX9 454 yX9_coinOf := Or.inl (g_in7 (List.mem_of_getElem? (i := 218) rfl) rfl)
theorem ml_X9_459 : g_ML RX9 459 yX9_lowest := Or.inl (g_in7 (List.mem_of_getElem? (i := 235) rfl) rfl)
theorem ml_X9_474 : g_ML RX9 474 yX9_draws := Or.inl (g_in8 (List.mem_of_getElem? (i := 6) rfl) rfl)
theorem ml_X9_477 : g_ML RX9 477 yX9_week := Or.inl (g_in8 (List.mem_of_getElem? (i := 2) rfl) rfl)
theorem ml_X9_480 : g_ML RX9 480 yX9_keeps := Or.inl (g_in8 (List.mem_of_getElem? (i := 22) rfl) rfl)
theorem ml_J0_335 : g_ML RJ0 335 yJ0_coder_7d493 := Or.inl (g_in1 (List.mem_of_getElem? (i := 43) rfl) rfl)
theorem ml_J0_492 : g_ML RJ0 492 yJ0_isLatin1_aae02 := Or.inl (g_in1 (List.mem_of_getElem? (i := 53) rfl) rfl)
theorem ml_J0_495 : g_ML RJ0 495 yJ1_charAt_3b067 := Or.inl (g_in1 (List.mem_of_getElem? (i := 57) rfl) rfl)
theorem ml_J0_498 : g_ML RJ0 498 yJ2_charAt_3b067 := Or.inl (g_in1 (List.mem_of_getElem? (i := 68) rfl) rfl)
theorem ml_J0_505 : g_ML RJ0 505 yJ0_length_8abf5 := Or.inl (g_in2 (List.mem_of_getElem? (i := 203) rfl) rfl)
theorem ml_J0_633 : g_ML RJ0 633 yJ0_indexOf_7cf53 := Or.inl (g_in2 (List.mem_of_getElem? (i := 199) rfl) rfl)
theorem ml_J0_637 : g_ML RJ0 637 yJ1_indexOf_4cfef := Or.inl (g_in2 (List.mem_of_getElem? (i := 204) rfl) rfl)
theorem ml_J0_640 : g_ML RJ0 640 yJ2_indexOf_4cfef := Or.inl (g_in2 (List.mem_of_getElem? (i := 219) rfl) rfl)
theorem ml_J0_1059 : g_ML RJ0 1059 yJ3_checkIndex_8e157 := Or.inl (g_in1 (List.mem_of_getElem? (i := 65) rfl) rfl)
theorem ml_J0_1062 : g_ML RJ0 1062 yJ3_checkFromToIndex_8c36e := Or.inl (g_in2 (List.mem_of_getElem? (i := 234) rfl) rfl)
theorem ml_J1_9 : g_ML RJ1 9 yJ0_checkIndex_df160 := Or.inl (g_in1 (List.mem_of_getElem? (i := 60) rfl) rfl)
theorem ml_J1_38 : g_ML RJ1 38 yJ9_min_7cf53 := Or.inl (g_in2 (List.mem_of_getElem? (i := 213) rfl) rfl)
theorem ml_J1_88 : g_ML RJ1 88 yJ1_canEncode_9a6ad := Or.inl (g_in2 (List.mem_of_getElem? (i := 207) rfl) rfl)
theorem ml_J1_92 : g_ML RJ1 92 yJ9_max_7cf53 := Or.inl (g_in2 (List.mem_of_getElem? (i := 210) rfl) rfl)
theorem ml_J1_95 : g_ML RJ1 95 yJ1_indexOfChar_4cfef := Or.inl (g_in2 (List.mem_of_getElem? (i := 216) rfl) rfl)
theorem mc_X8_init : g_MC yX8_init cX8_init 2 (none : Option Jvm.ClassFile.FieldType) 0 := ⟨g_in1 (List.mem_of_getElem? (i := 28) rfl) rfl, g_in1 (List.mem_of_getElem? (i := 1) rfl) rfl, ⟨by decide +kernel, by decide +kernel⟩, by decide +kernel, by decide +kernel⟩
theorem mc_X8_anywhere : g_MC yX8_anywhere cX8_anywhere 1 (Option.some (.object "OwnMade$Rounds")) 0 := ⟨g_in4 (List.mem_of_getElem? (i := 29) rfl) rfl, g_in1 (List.mem_of_getElem? (i := 1) rfl) rfl, ⟨by decide +kernel, by decide +kernel⟩, by decide +kernel, by decide +kernel⟩
theorem mv_X8_anywhere : g_MV yX8_anywhere := ⟨g_in4 (List.mem_of_getElem? (i := 28) rfl) rfl, g_sels (g_psg3 _ (List.mem_of_getElem? (i := 13) rfl))⟩
theorem mc_X8_areTwo : g_MC yX8_areTwo cX8_areTwo 3 (some .boolean) 2 := ⟨g_in3 (List.mem_of_getElem? (i := 214) rfl) rfl, g_in1 (List.mem_of_getElem? (i := 1) rfl) rfl, ⟨by decide +kernel, by decide +kernel⟩, by decide +kernel, by decide +kernel⟩
theorem mv_X8_areTwo : g_MV yX8_areTwo := ⟨g_in3 (List.mem_of_getElem? (i := 213) rfl) rfl, g_sels (g_psg3 _ (List.mem_of_getElem? (i := 2) rfl))⟩
theorem mc_X8_at : g_MC yX8_at cX8_at 5 (some .int) 1 := ⟨g_in4 (List.mem_of_getElem? (i := 93) rfl) rfl, g_in1 (List.mem_of_getElem? (i := 1) rfl) rfl, ⟨by decide +kernel, by decide +kernel⟩, by decide +kernel, by decide +kernel⟩
theorem mv_X8_at : g_MV yX8_at := ⟨g_in4 (List.mem_of_getElem? (i := 91) rfl) rfl, g_in4 (List.mem_of_getElem? (i := 92) rfl) rfl⟩
theorem mc_X8_beside : g_MC yX8_beside cX8_beside 5 (some .int) 3 := ⟨g_in4 (List.mem_of_getElem? (i := 128) rfl) rfl, g_in1 (List.mem_of_getElem? (i := 1) rfl) rfl, ⟨by decide +kernel, by decide +kernel⟩, by decide +kernel, by decide +kernel⟩
theorem mv_X8_beside : g_MV yX8_beside := ⟨g_in4 (List.mem_of_getElem? (i := 126) rfl) rfl, g_in4 (List.mem_of_getElem? (i := 127) rfl) rfl⟩
theorem mc_X8_bestShared : g_MC yX8_bestShared cX8_bestShared 7 (some .int) 2 := ⟨g_in4 (List.mem_of_getElem? (i := 200) rfl) rfl, g_in1 (List.mem_of_getElem? (i := 1) rfl) rfl, ⟨by decide +kernel, by decide +kernel⟩, by decide +kernel, by decide +kernel⟩
theorem mv_X8_bestShared : g_MV yX8_bestShared := ⟨g_in4 (List.mem_of_getElem? (i := 199) rfl) rfl, g_sels (g_psg5 _ (List.mem_of_getElem? (i := 7) rfl))⟩
theorem mc_X8_canLive : g_MC yX8_canLive cX8_canLive 2 (some .boolean) 1 := ⟨g_in4 (List.mem_of_getElem? (i := 109) rfl) rfl, g_in1 (List.mem_of_getElem? (i := 1) rfl) rfl, ⟨by decide +kernel, by decide +kernel⟩, by decide +kernel, by decide +kernel⟩
theorem mv_X8_canLive : g_MV yX8_canLive := ⟨g_in4 (List.mem_of_getElem? (i := 108) rfl) rfl, g_sels (g_psg4 _ (List.mem_of_getElem? (i := 10) rfl))⟩
theorem mc_X8_coin : g_MC yX8_coin cX8_coin 4 (some .int) 1 := ⟨g_in4 (List.mem_of_getElem? (i := 192) rfl) rfl, g_in1 (List.mem_of_getElem? (i := 1) rfl) rfl, ⟨by decide +kernel, by decide +kernel⟩, by decide +kernel, by decide +kernel⟩
theorem mv_X8_coin : g_MV yX8_coin := ⟨g_in4 (List.mem_of_getElem? (i := 190) rfl) rfl, g_in4 (List.mem_of_getElem? (i := 191) rfl) rfl⟩
theorem mc_X8_coinFor : g_MC yX8_coinFor cX8_coinFor 6 (some .int) 1 := ⟨g_in4 (List.mem_of_getElem? (i := 196) rfl) rfl, g_in1 (List.mem_of_getElem? (i := 1) rfl) rfl, ⟨by decide +kernel, by decide +kernel⟩, by decide +kernel, by decide +kernel⟩
theorem mv_X8_coinFor : g_MV yX8_coinFor := ⟨g_in4 (List.mem_of_getElem? (i := 195) rfl) rfl, g_sels (g_psg5 _ (List.mem_of_getElem? (i := 6) rfl))⟩
theorem mc_X8_count : g_MC yX8_count cX8_count 2 (some .int) 1 := ⟨g_in5 (List.mem_of_getElem? (i := 19) rfl) rfl, g_in1 (List.mem_of_getElem? (i := 1) rfl) rfl, ⟨by decide +kernel, by decide +kernel⟩, by decide +kernel, by decide +kernel⟩
theorem mv_X8_count : g_MV yX8_count := ⟨g_in5 (List.mem_of_getElem? (i := 17) rfl) rfl, g_in5 (List.mem_of_getElem? (i := 18) rfl) rfl⟩
theorem mc_X8_drawWeek : g_MC yX8_drawWeek cX8_drawWeek 9 (some .long) 1 := ⟨g_in4 (List.mem_of_getElem? (i := 225) rfl) rfl, g_in1 (List.mem_of_getElem? (i := 1) rfl) rfl, ⟨by decide +kernel, by decide +kernel⟩, by decide +kernel, by decide +kernel⟩
theorem mv_X8_drawWeek : g_MV yX8_drawWeek := ⟨g_in4 (List.mem_of_getElem? (i := 224) rfl) rfl, g_sels (g_psg5 _ (List.mem_of_getElem? (i := 10) rfl))⟩
theorem mc_X8_everybody : g_MC yX8_everybody cX8_everybody 1 (some .int) 0 := ⟨g_in4 (List.mem_of_getElem? (i := 25) rfl) rfl, g_in1 (List.mem_of_getElem? (i := 1) rfl) rfl, ⟨by decide +kernel, by decide +kernel⟩, by decide +kernel, by decide +kernel⟩
theorem mv_X8_everybody : g_MV yX8_everybody := ⟨g_in4 (List.mem_of_getElem? (i := 24) rfl) rfl, g_sels (g_psg3 _ (List.mem_of_getElem? (i := 12) rfl))⟩
theorem mc_X8_fair : g_MC yX8_fair cX8_fair 5 (some .int) 4 := ⟨g_in5 (List.mem_of_getElem? (i := 109) rfl) rfl, g_in1 (List.mem_of_getElem? (i := 1) rfl) rfl, ⟨by decide +kernel, by decide +kernel⟩, by decide +kernel, by decide +kernel⟩
theorem mv_X8_fair : g_MV yX8_fair := ⟨g_in5 (List.mem_of_getElem? (i := 107) rfl) rfl, g_in5 (List.mem_of_getElem? (i := 108) rfl) rfl⟩
theorem mc_X8_fairWorth : g_MC yX8_fairWorth cX8_fairWorth 6 (some .int) 4 := ⟨g_in4 (List.mem_of_getElem? (i := 167) rfl) rfl, g_in1 (List.mem_of_getElem? (i := 1) rfl) rfl, ⟨by decide +kernel, by decide +kernel⟩, by decide +kernel, by decide +kernel⟩
theorem mv_X8_fairWorth : g_MV yX8_fairWorth := ⟨g_in4 (List.mem_of_getElem? (i := 166) rfl) rfl, g_sels (g_psg5 _ (List.mem_of_getElem? (i := 2) rfl))⟩
theorem mc_X8_fairest : g_MC yX8_fairest cX8_fairest 7 (some .int) 2 := ⟨g_in4 (List.mem_of_getElem? (i := 159) rfl) rfl, g_in1 (List.mem_of_getElem? (i := 1) rfl) rfl, ⟨by decide +kernel, by decide +kernel⟩, by decide +kernel, by decide +kernel⟩
theorem mv_X8_fairest : g_MV yX8_fairest := ⟨g_in4 (List.mem_of_getElem? (i := 157) rfl) rfl, g_in4 (List.mem_of_getElem? (i := 158) rfl) rfl⟩
theorem mc_X8_far : g_MC yX8_far cX8_far 6 (some .int) 4 := ⟨g_in4 (List.mem_of_getElem? (i := 182) rfl) rfl, g_in1 (List.mem_of_getElem? (i := 1) rfl) rfl, ⟨by decide +kernel, by decide +kernel⟩, by decide +kernel, by decide +kernel⟩
theorem mv_X8_far : g_MV yX8_far := ⟨g_in4 (List.mem_of_getElem? (i := 180) rfl) rfl, g_in4 (List.mem_of_getElem? (i := 181) rfl) rfl⟩
theorem mc_X8_feed : g_MC yX8_feed cX8_feed 7 (some .int) 3 := ⟨g_in2 (List.mem_of_getElem? (i := 146) rfl) rfl, g_in1 (List.mem_of_getElem? (i := 1) rfl) rfl, ⟨by decide +kernel, by decide +kernel⟩, by decide +kernel, by decide +kernel⟩
theorem mv_X8_feed : g_MV yX8_feed := ⟨g_in2 (List.mem_of_getElem? (i := 144) rfl) rfl, g_in2 (List.mem_of_getElem? (i := 145) rfl) rfl⟩
theorem mc_X8_fewest : g_MC yX8_fewest cX8_fewest 7 (some .int) 2 := ⟨g_in4 (List.mem_of_getElem? (i := 154) rfl) rfl, g_in1 (List.mem_of_getElem? (i := 1) rfl) rfl, ⟨by decide +kernel, by decide +kernel⟩, by decide +kernel, by decide +kernel⟩
theorem mv_X8_fewest : g_MV yX8_fewest := ⟨g_in4 (List.mem_of_getElem? (i := 152) rfl) rfl, g_in4 (List.mem_of_getElem? (i := 153) rfl) rfl⟩
theorem mc_X8_fillFacts : g_MC yX8_fillFacts cX8_fillFacts 6 (none : Option Jvm.ClassFile.FieldType) 5 := ⟨g_in3 (List.mem_of_getElem? (i := 230) rfl) rfl, g_in1 (List.mem_of_getElem? (i := 1) rfl) rfl, ⟨by decide +kernel, by decide +kernel⟩, by decide +kernel, by decide +kernel⟩
theorem mv_X8_fillFacts : g_MV yX8_fillFacts := ⟨g_in3 (List.mem_of_getElem? (i := 229) rfl) rfl, g_sels (g_psg3 _ (List.mem_of_getElem? (i := 6) rfl))⟩
theorem mc_X8_findRounds : g_MC yX8_findRounds cX8_findRounds 10 (none : Option Jvm.ClassFile.FieldType) 4 := ⟨g_in4 (List.mem_of_getElem? (i := 33) rfl) rfl, g_in1 (List.mem_of_getElem? (i := 1) rfl) rfl, ⟨by decide +kernel, by decide +kernel⟩, by decide +kernel, by decide +kernel⟩
theorem mv_X8_findRounds : g_MV yX8_findRounds := ⟨g_in4 (List.mem_of_getElem? (i := 32) rfl) rfl, g_sels (g_psg3 _ (List.mem_of_getElem? (i := 14) rfl))⟩
theorem mc_X8_findWares : g_MC yX8_findWares cX8_findWares 5 (none : Option Jvm.ClassFile.FieldType) 0 := ⟨g_in4 (List.mem_of_getElem? (i := 221) rfl) rfl, g_in1 (List.mem_of_getElem? (i := 1) rfl) rfl, ⟨by decide +kernel, by decide +kernel⟩, by decide +kernel, by decide +kernel⟩
theorem mv_X8_findWares : g_MV yX8_findWares := ⟨g_in4 (List.mem_of_getElem? (i := 220) rfl) rfl, g_sels (g_psg5 _ (List.mem_of_getElem? (i := 9) rfl))⟩
theorem mc_X8_give : g_MC yX8_give cX8_give 4 (some .int) 3 := ⟨g_in3 (List.mem_of_getElem? (i := 210) rfl) rfl, g_in1 (List.mem_of_getElem? (i := 1) rfl) rfl, ⟨by decide +kernel, by decide +kernel⟩, by decide +kernel, by decide +kernel⟩
theorem mv_X8_give : g_MV yX8_give := ⟨g_in3 (List.mem_of_getElem? (i := 208) rfl) rfl, g_in3 (List.mem_of_getElem? (i := 209) rfl) rfl⟩
theorem mc_X8_go : g_MC yX8_go cX8_go 4 (some .int) 2 := ⟨g_in3 (List.mem_of_getElem? (i := 206) rfl) rfl, g_in1 (List.mem_of_getElem? (i := 1) rfl) rfl, ⟨by decide +kernel, by decide +kernel⟩, by decide +kernel, by decide +kernel⟩
theorem mv_X8_go : g_MV yX8_go := ⟨g_in3 (List.mem_of_getElem? (i := 204) rfl) rfl, g_in3 (List.mem_of_getElem? (i := 205) rfl) rfl⟩
theorem mc_X8_good : g_MC yX8_good cX8_good 3 (some .int) 2 := ⟨g_in3 (List.mem_of_getElem? (i := 132) rfl) rfl, g_in1 (List.mem_of_getElem? (i := 1) rfl) rfl, ⟨by decide +kernel, by decide +kernel⟩, by decide +kernel, by decide +kernel⟩
theorem mv_X8_good : g_MV yX8_good := ⟨g_in3 (List.mem_of_getElem? (i := 130) rfl) rfl, g_in3 (List.mem_of_getElem? (i := 131) rfl) rfl⟩
theorem mc_X8_had : g_MC yX8_had cX8_had 2 (some .int) 1 := ⟨g_in4 (List.mem_of_getElem? (i := 136) rfl) rfl, g_in1 (List.mem_of_getElem? (i := 1) rfl) rfl, ⟨by decide +kernel, by decide +kernel⟩, by decide +kernel, by decide +kernel⟩
theorem mv_X8_had : g_MV yX8_had := ⟨g_in4 (List.mem_of_getElem? (i := 134) rfl) rfl, g_in4 (List.mem_of_getElem? (i := 135) rfl) rfl⟩
theorem mc_X8_happyOf : g_MC yX8_happyOf cX8_happyOf 4 (some .int) 1 := ⟨g_in3 (List.mem_of_getElem? (i := 160) rfl) rfl, g_in1 (List.mem_of_getElem? (i := 1) rfl) rfl, ⟨by decide +kernel, by decide +kernel⟩, by decide +kernel, by decide +kernel⟩
theorem mv_X8_happyOf : g_MV yX8_happyOf := ⟨g_in3 (List.mem_of_getElem? (i := 159) rfl) rfl, g_sels (g_psg2 _ (List.mem_of_getElem? (i := 8) rfl))⟩
theorem mc_X8_happyOfAll : g_MC yX8_happyOfAll cX8_happyOfAll 3 (some .int) 0 := ⟨g_in5 (List.mem_of_getElem? (i := 28) rfl) rfl, g_in1 (List.mem_of_getElem? (i := 1) rfl) rfl, ⟨by decide +kernel, by decide +kernel⟩, by decide +kernel, by decide +kernel⟩
theorem mv_X8_happyOfAll : g_MV yX8_happyOfAll := ⟨g_in5 (List.mem_of_getElem? (i := 27) rfl) rfl, g_sels (g_psg5 _ (List.mem_of_getElem? (i := 14) rfl))⟩
theorem mc_X8_indexIn : g_MC yX8_indexIn cX8_indexIn 5 (some .int) 3 := ⟨g_in2 (List.mem_of_getElem? (i := 182) rfl) rfl, g_in1 (List.mem_of_getElem? (i := 1) rfl) rfl, ⟨by decide +kernel, by decide +kernel⟩, by decide +kernel, by decide +kernel⟩
theorem ms_X8_indexIn : Cond.static yX8_indexIn ∈ g_gw := g_in2 (List.mem_of_getElem? (i := 181) rfl) rfl
theorem mc_X8_isFair : g_MC yX8_isFair cX8_isFair 3 (some .boolean) 2 := ⟨g_in4 (List.mem_of_getElem? (i := 163) rfl) rfl, g_in1 (List.mem_of_getElem? (i := 1) rfl) rfl, ⟨by decide +kernel, by decide +kernel⟩, by decide +kernel, by decide +kernel⟩
theorem mv_X8_isFair : g_MV yX8_isFair := ⟨g_in4 (List.mem_of_getElem? (i := 162) rfl) rfl, g_sels (g_psg5 _ (List.mem_of_getElem? (i := 1) rfl))⟩
theorem mc_X8_isGood : g_MC yX8_isGood cX8_isGood 2 (some .boolean) 1 := ⟨g_in3 (List.mem_of_getElem? (i := 136) rfl) rfl, g_in1 (List.mem_of_getElem? (i := 1) rfl) rfl, ⟨by decide +kernel, by decide +kernel⟩, by decide +kernel, by decide +kernel⟩
theorem mv_X8_isGood : g_MV yX8_isGood := ⟨g_in3 (List.mem_of_getElem? (i := 135) rfl) rfl, g_sels (g_psg2 _ (List.mem_of_getElem? (i := 4) rfl))⟩
theorem mc_X8_isHeldBy : g_MC yX8_isHeldBy cX8_isHeldBy 4 (some .boolean) 3 := ⟨g_in4 (List.mem_of_getElem? (i := 13) rfl) rfl, g_in1 (List.mem_of_getElem? (i := 1) rfl) rfl, ⟨by decide +kernel, by decide +kernel⟩, by decide +kernel, by decide +kernel⟩
theorem mv_X8_isHeldBy : g_MV yX8_isHeldBy := ⟨g_in4 (List.mem_of_getElem? (i := 12) rfl) rfl, g_sels (g_psg3 _ (List.mem_of_getElem? (i := 10) rfl))⟩
theorem mc_X8_isLawful : g_MC yX8_isLawful cX8_isLawful 8 (some .boolean) 5 := ⟨g_in3 (List.mem_of_getElem? (i := 226) rfl) rfl, g_in1 (List.mem_of_getElem? (i := 1) rfl) rfl, ⟨by decide +kernel, by decide +kernel⟩, by decide +kernel, by decide +kernel⟩
theorem mv_X8_isLawful : g_MV yX8_isLawful := ⟨g_in3 (List.mem_of_getElem? (i := 225) rfl) rfl, g_sels (g_psg3 _ (List.mem_of_getElem? (i := 5) rfl))⟩
theorem mc_X8_isLawfulNow : g_MC yX8_isLawfulNow cX8_isLawfulNow 5 (some .boolean) 3 := ⟨g_in3 (List.mem_of_getElem? (i := 222) rfl) rfl, g_in1 (List.mem_of_getElem? (i := 1) rfl) rfl, ⟨by decide +kernel, by decide +kernel⟩, by decide +kernel, by decide +kernel⟩
theorem mv_X8_isLawfulNow : g_MV yX8_isLawfulNow := ⟨g_in3 (List.mem_of_getElem? (i := 221) rfl) rfl, g_sels (g_psg3 _ (List.mem_of_getElem? (i := 4) rfl))⟩
theorem mc_X8_isPerson : g_MC yX8_isPerson cX8_isPerson 2 (some .boolean) 1 := ⟨g_in3 (List.mem_of_getElem? (i := 148) rfl) rfl, g_in1 (List.mem_of_getElem? (i := 1) rfl) rfl, ⟨by decide +kernel, by decide +kernel⟩, by decide +kernel, by decide +kernel⟩
theorem mv_X8_isPerson : g_MV yX8_isPerson := ⟨g_in3 (List.mem_of_getElem? (i := 147) rfl) rfl, g_sels (g_psg2 _ (List.mem_of_getElem? (i := 6) rfl))⟩
theorem mc_X8_isPlace : g_MC yX8_isPlace cX8_isPlace 2 (some .boolean) 1 := ⟨g_in3 (List.mem_of_getElem? (i := 128) rfl) rfl, g_in1 (List.mem_of_getElem? (i := 1) rfl) rfl, ⟨by decide +kernel, by decide +kernel⟩, by decide +kernel, by decide +kernel⟩
theorem mv_X8_isPlace : g_MV yX8_isPlace := ⟨g_in3 (List.mem_of_getElem? (i := 127) rfl) rfl, g_sels (g_psg2 _ (List.mem_of_getElem? (i := 3) rfl))⟩
theorem mc_X8_isSet : g_MC yX8_isSet cX8_isSet 2 (some .boolean) 1 := ⟨g_in4 (List.mem_of_getElem? (i := 21) rfl) rfl, g_in1 (List.mem_of_getElem? (i := 1) rfl) rfl, ⟨by decide +kernel, by decide +kernel⟩, by decide +kernel, by decide +kernel⟩
theorem mv_X8_isSet : g_MV yX8_isSet := ⟨g_in4 (List.mem_of_getElem? (i := 20) rfl) rfl, g_sels (g_psg3 _ (List.mem_of_getElem? (i := 11) rfl))⟩
theorem mc_X8_isThing : g_MC yX8_isThing cX8_isThing 2 (some .boolean) 1 := ⟨g_in3 (List.mem_of_getElem? (i := 218) rfl) rfl, g_in1 (List.mem_of_getElem? (i := 1) rfl) rfl, ⟨by decide +kernel, by decide +kernel⟩, by decide +kernel, by decide +kernel⟩
theorem mv_X8_isThing : g_MV yX8_isThing := ⟨g_in3 (List.mem_of_getElem? (i := 217) rfl) rfl, g_sels (g_psg3 _ (List.mem_of_getElem? (i := 3) rfl))⟩
theorem mc_X8_land : g_MC yX8_land cX8_land 3 (some .int) 0 := ⟨g_in2 (List.mem_of_getElem? (i := 154) rfl) rfl, g_in1 (List.mem_of_getElem? (i := 1) rfl) rfl, ⟨by decide +kernel, by decide +kernel⟩, by decide +kernel, by decide +kernel⟩
theorem mv_X8_land : g_MV yX8_land := ⟨g_in2 (List.mem_of_getElem? (i := 152) rfl) rfl, g_in2 (List.mem_of_getElem? (i := 153) rfl) rfl⟩
theorem mc_X8_lawful : g_MC yX8_lawful cX8_lawful 4 (some .int) 3 := ⟨g_in4 (List.mem_of_getElem? (i := 9) rfl) rfl, g_in1 (List.mem_of_getElem? (i := 1) rfl) rfl, ⟨by decide +kernel, by decide +kernel⟩, by decide +kernel, by decide +kernel⟩
theorem mv_X8_lawful : g_MV yX8_lawful := ⟨g_in4 (List.mem_of_getElem? (i := 7) rfl) rfl, g_in4 (List.mem_of_getElem? (i := 8) rfl) rfl⟩
theorem mc_X8_leastFine : g_MC yX8_leastFine cX8_leastFine 3 (some .int) 2 := ⟨g_in5 (List.mem_of_getElem? (i := 121) rfl) rfl, g_in1 (List.mem_of_getElem? (i := 1) rfl) rfl, ⟨by decide +kernel, by decide +kernel⟩, by decide +kernel, by decide +kernel⟩
theorem ms_X8_leastFine : Cond.static yX8_leastFine ∈ g_gw := g_in5 (List.mem_of_getElem? (i := 120) rfl) rfl
theorem mc_X8_length : g_MC yX8_length cX8_length 2 (some .int) 1 := ⟨g_in4 (List.mem_of_getElem? (i := 97) rfl) rfl, g_in1 (List.mem_of_getElem? (i := 1) rfl) rfl, ⟨by decide +kernel, by decide +kernel⟩, by decide +kernel, by decide +kernel⟩
theorem mv_X8_length : g_MV yX8_length := ⟨g_in4 (List.mem_of_getElem? (i := 95) rfl) rfl, g_in4 (List.mem_of_getElem? (i := 96) rfl) rfl⟩
theorem mc_X8_lie : g_MC yX8_lie cX8_lie 12 (some .int) 6 := ⟨g_in5 (List.mem_of_getElem? (i := 117) rfl) rfl, g_in1 (List.mem_of_getElem? (i := 1) rfl) rfl, ⟨by decide +kernel, by decide +kernel⟩, by decide +kernel, by decide +kernel⟩
theorem mv_X8_lie : g_MV yX8_lie := ⟨g_in5 (List.mem_of_getElem? (i := 115) rfl) rfl, g_in5 (List.mem_of_getElem? (i := 116) rfl) rfl⟩
theorem mc_X8_lift : g_MC yX8_lift cX8_lift 3 (some .int) 1 := ⟨g_in4 (List.mem_of_getElem? (i := 209) rfl) rfl, g_in1 (List.mem_of_getElem? (i := 1) rfl) rfl, ⟨by decide +kernel, by decide +kernel⟩, by decide +kernel, by decide +kernel⟩
theorem mv_X8_lift : g_MV yX8_lift := ⟨g_in4 (List.mem_of_getElem? (i := 207) rfl) rfl, g_in4 (List.mem_of_getElem? (i := 208) rfl) rfl⟩
theorem mc_X8_lifted : g_MC yX8_lifted cX8_lifted 4 (some .boolean) 2 := ⟨g_in4 (List.mem_of_getElem? (i := 205) rfl) rfl, g_in1 (List.mem_of_getElem? (i := 1) rfl) rfl, ⟨by decide +kernel, by decide +kernel⟩, by decide +kernel, by decide +kernel⟩
theorem mv_X8_lifted : g_MV yX8_lifted := ⟨g_in4 (List.mem_of_getElem? (i := 203) rfl) rfl, g_in4 (List.mem_of_getElem? (i := 204) rfl) rfl⟩
theorem mc_X8_live : g_MC yX8_live cX8_live 3 (some .int) 2 := ⟨g_in4 (List.mem_of_getElem? (i := 105) rfl) rfl, g_in1 (List.mem_of_getElem? (i := 1) rfl) rfl, ⟨by decide +kernel, by decide +kernel⟩, by decide +kernel, by decide +kernel⟩
theorem mv_X8_live : g_MV yX8_live := ⟨g_in4 (List.mem_of_getElem? (i := 103) rfl) rfl, g_in4 (List.mem_of_getElem? (i := 104) rfl) rfl⟩
theorem mc_X8_make : g_MC yX8_make cX8_make 9 (some .int) 4 := ⟨g_in3 (List.mem_of_getElem? (i := 177) rfl) rfl, g_in1 (List.mem_of_getElem? (i := 1) rfl) rfl, ⟨by decide +kernel, by decide +kernel⟩, by decide +kernel, by decide +kernel⟩
theorem mv_X8_make : g_MV yX8_make := ⟨g_in3 (List.mem_of_getElem? (i := 175) rfl) rfl, g_in3 (List.mem_of_getElem? (i := 176) rfl) rfl⟩
theorem mc_X8_mark : g_MC yX8_mark cX8_mark 3 (some .boolean) 2 := ⟨g_in5 (List.mem_of_getElem? (i := 8) rfl) rfl, g_in1 (List.mem_of_getElem? (i := 1) rfl) rfl, ⟨by decide +kernel, by decide +kernel⟩, by decide +kernel, by decide +kernel⟩
theorem mv_X8_mark : g_MV yX8_mark := ⟨g_in5 (List.mem_of_getElem? (i := 6) rfl) rfl, g_in5 (List.mem_of_getElem? (i := 7) rfl) rfl⟩
theorem mc_X8_most : g_MC yX8_most cX8_most 4 (some .int) 2 := ⟨g_in4 (List.mem_of_getElem? (i := 89) rfl) rfl, g_in1 (List.mem_of_getElem? (i := 1) rfl) rfl, ⟨by decide +kernel, by decide +kernel⟩, by decide +kernel, by decide +kernel⟩
theorem mv_X8_most : g_MV yX8_most := ⟨g_in4 (List.mem_of_getElem? (i := 87) rfl) rfl, g_in4 (List.mem_of_getElem? (i := 88) rfl) rfl⟩
theorem mc_X8_mostWith : g_MC yX8_mostWith cX8_mostWith 2 (some .int) 1 := ⟨g_in4 (List.mem_of_getElem? (i := 213) rfl) rfl, g_in1 (List.mem_of_getElem? (i := 1) rfl) rfl, ⟨by decide +kernel, by decide +kernel⟩, by decide +kernel, by decide +kernel⟩
theorem mv_X8_mostWith : g_MV yX8_mostWith := ⟨g_in4 (List.mem_of_getElem? (i := 212) rfl) rfl, g_sels (g_psg5 _ (List.mem_of_getElem? (i := 8) rfl))⟩
theorem mc_X8_never : g_MC yX8_never cX8_never 2 (some .int) 1 := ⟨g_in4 (List.mem_of_getElem? (i := 145) rfl) rfl, g_in1 (List.mem_of_getElem? (i := 1) rfl) rfl, ⟨by decide +kernel, by decide +kernel⟩, by decide +kernel, by decide +kernel⟩
theorem mv_X8_never : g_MV yX8_never := ⟨g_in4 (List.mem_of_getElem? (i := 143) rfl) rfl, g_in4 (List.mem_of_getElem? (i := 144) rfl) rfl⟩
theorem mc_X8_nthBit : g_MC yX8_nthBit cX8_nthBit 4 (some .int) 2 := ⟨g_in4 (List.mem_of_getElem? (i := 232) rfl) rfl, g_in1 (List.mem_of_getElem? (i := 1) rfl) rfl, ⟨by decide +kernel, by decide +kernel⟩, by decide +kernel, by decide +kernel⟩
theorem ms_X8_nthBit : Cond.static yX8_nthBit ∈ g_gw := g_in4 (List.mem_of_getElem? (i := 231) rfl) rfl
theorem mc_X8_partOfTen : g_MC yX8_partOfTen cX8_partOfTen 4 (some .int) 2 := ⟨g_in5 (List.mem_of_getElem? (i := 124) rfl) rfl, g_in1 (List.mem_of_getElem? (i := 1) rfl) rfl, ⟨by decide +kernel, by decide +kernel⟩, by decide +kernel, by decide +kernel⟩
theorem ms_X8_partOfTen : Cond.static yX8_partOfTen ∈ g_gw := g_in5 (List.mem_of_getElem? (i := 123) rfl) rfl
theorem mc_X8_person : g_MC yX8_person cX8_person 3 (some .int) 2 := ⟨g_in3 (List.mem_of_getElem? (i := 156) rfl) rfl, g_in1 (List.mem_of_getElem? (i := 1) rfl) rfl, ⟨by decide +kernel, by decide +kernel⟩, by decide +kernel, by decide +kernel⟩
theorem mv_X8_person : g_MV yX8_person := ⟨g_in3 (List.mem_of_getElem? (i := 154) rfl) rfl, g_in3 (List.mem_of_getElem? (i := 155) rfl) rfl⟩
theorem mc_X8_round : g_MC yX8_round cX8_round 2 (some .int) 1 := ⟨g_in4 (List.mem_of_getElem? (i := 17) rfl) rfl, g_in1 (List.mem_of_getElem? (i := 1) rfl) rfl, ⟨by decide +kernel, by decide +kernel⟩, by decide +kernel, by decide +kernel⟩
theorem mv_X8_round : g_MV yX8_round := ⟨g_in4 (List.mem_of_getElem? (i := 15) rfl) rfl, g_in4 (List.mem_of_getElem? (i := 16) rfl) rfl⟩
theorem mc_X8_rule : g_MC yX8_rule cX8_rule 3 (some .int) 0 := ⟨g_in3 (List.mem_of_getElem? (i := 85) rfl) rfl, g_in1 (List.mem_of_getElem? (i := 1) rfl) rfl, ⟨by decide +kernel, by decide +kernel⟩, by decide +kernel, by decide +kernel⟩
theorem mv_X8_rule : g_MV yX8_rule := ⟨g_in3 (List.mem_of_getElem? (i := 83) rfl) rfl, g_in3 (List.mem_of_getElem? (i := 84) rfl) rfl⟩
theorem mc_X8_thing : g_MC yX8_thing cX8_thing 3 (some .int) 2 := ⟨g_in5 (List.mem_of_getElem? (i := 36) rfl) rfl, g_in1 (List.mem_of_getElem? (i := 1) rfl) rfl, ⟨by decide +kernel, by decide +kernel⟩, by decide +kernel, by decide +kernel⟩
theorem mv_X8_thing : g_MV yX8_thing := ⟨g_in5 (List.mem_of_getElem? (i := 34) rfl) rfl, g_in5 (List.mem_of_getElem? (i := 35) rfl) rfl⟩
theorem mc_X8_visited : g_MC yX8_visited cX8_visited 5 (some .int) 0 := ⟨g_in5 (List.mem_of_getElem? (i := 0) rfl) rfl, g_in1 (List.mem_of_getElem? (i := 1) rfl) rfl, ⟨by decide +kernel, by decide +kernel⟩, by decide +kernel, by decide +kernel⟩
theorem mv_X8_visited : g_MV yX8_visited := ⟨g_in4 (List.mem_of_getElem? (i := 238) rfl) rfl, g_in4 (List.mem_of_getElem? (i := 239) rfl) rfl⟩
theorem mc_X8_way : g_MC yX8_way cX8_way 3 (some .int) 2 := ⟨g_in3 (List.mem_of_getElem? (i := 124) rfl) rfl, g_in1 (List.mem_of_getElem? (i := 1) rfl) rfl, ⟨by decide +kernel, by decide +kernel⟩, by decide +kernel, by decide +kernel⟩
theorem mv_X8_way : g_MV yX8_way := ⟨g_in3 (List.mem_of_getElem? (i := 122) rfl) rfl, g_in3 (List.mem_of_getElem? (i := 123) rfl) rfl⟩
theorem mc_X8_worth : g_MC yX8_worth cX8_worth 4 (some .int) 3 := ⟨g_in3 (List.mem_of_getElem? (i := 144) rfl) rfl, g_in1 (List.mem_of_getElem? (i := 1) rfl) rfl, ⟨by decide +kernel, by decide +kernel⟩, by decide +kernel, by decide +kernel⟩
theorem mv_X8_worth : g_MV yX8_worth := ⟨g_in3 (List.mem_of_getElem? (i := 142) rfl) rfl, g_in3 (List.mem_of_getElem? (i := 143) rfl) rfl⟩
theorem mc_X8_years : g_MC yX8_years cX8_years 10 (some .int) 3 := ⟨g_in4 (List.mem_of_getElem? (i := 217) rfl) rfl, g_in1 (List.mem_of_getElem? (i := 1) rfl) rfl, ⟨by decide +kernel, by decide +kernel⟩, by decide +kernel, by decide +kernel⟩
theorem mv_X8_years : g_MV yX8_years := ⟨g_in4 (List.mem_of_getElem? (i := 215) rfl) rfl, g_in4 (List.mem_of_getElem? (i := 216) rfl) rfl⟩
theorem mc_X0_init : g_MC yX0_init cX0_init 1 (none : Option Jvm.ClassFile.FieldType) 0 := ⟨g_in2 (List.mem_of_getElem? (i := 73) rfl) rfl, g_in1 (List.mem_of_getElem? (i := 11) rfl) rfl, ⟨by decide +kernel, by decide +kernel⟩, by decide +kernel, by decide +kernel⟩
theorem mc_X0_bestSplit : g_MC yX0_bestSplit cX0_bestSplit 8 (some .int) 3 := ⟨g_in4 (List.mem_of_getElem? (i := 118) rfl) rfl, g_in1 (List.mem_of_getElem? (i := 11) rfl) rfl, ⟨by decide +kernel, by decide +kernel⟩, by decide +kernel, by decide +kernel⟩
theorem mv_X0_bestSplit : g_MV yX0_bestSplit := ⟨g_in4 (List.mem_of_getElem? (i := 117) rfl) rfl, g_sels (g_psg4 _ (List.mem_of_getElem? (i := 12) rfl))⟩
theorem mc_X0_fill : g_MC yX0_fill cX0_fill 7 (none : Option Jvm.ClassFile.FieldType) 4 := ⟨g_in4 (List.mem_of_getElem? (i := 113) rfl) rfl, g_in1 (List.mem_of_getElem? (i := 11) rfl) rfl, ⟨by decide +kernel, by decide +kernel⟩, by decide +kernel, by decide +kernel⟩
theorem mv_X0_fill : g_MV yX0_fill := ⟨g_in4 (List.mem_of_getElem? (i := 112) rfl) rfl, g_sels (g_psg4 _ (List.mem_of_getElem? (i := 11) rfl))⟩
theorem mc_X0_together : g_MC yX0_together cX0_together 6 (some .boolean) 2 := ⟨g_in4 (List.mem_of_getElem? (i := 132) rfl) rfl, g_in1 (List.mem_of_getElem? (i := 11) rfl) rfl, ⟨by decide +kernel, by decide +kernel⟩, by decide +kernel, by decide +kernel⟩
theorem mv_X0_together : g_MV yX0_together := ⟨g_in4 (List.mem_of_getElem? (i := 131) rfl) rfl, g_sels (g_psg4 _ (List.mem_of_getElem? (i := 14) rfl))⟩
theorem mc_X0_withGroup : g_MC yX0_withGroup cX0_withGroup 6 (some .int) 4 := ⟨g_in4 (List.mem_of_getElem? (i := 122) rfl) rfl, g_in1 (List.mem_of_getElem? (i := 11) rfl) rfl, ⟨by decide +kernel, by decide +kernel⟩, by decide +kernel, by decide +kernel⟩
theorem mv_X0_withGroup : g_MV yX0_withGroup := ⟨g_in4 (List.mem_of_getElem? (i := 121) rfl) rfl, g_sels (g_psg4 _ (List.mem_of_getElem? (i := 13) rfl))⟩
theorem mc_X1_init : g_MC yX1_init cX1_init 1 (none : Option Jvm.ClassFile.FieldType) 0 := ⟨g_in1 (List.mem_of_getElem? (i := 138) rfl) rfl, g_in1 (List.mem_of_getElem? (i := 7) rfl) rfl, ⟨by decide +kernel, by decide +kernel⟩, by decide +kernel, by decide +kernel⟩
theorem mc_X1_away : g_MC yX1_away cX1_away 3 (some .int) 2 := ⟨g_in3 (List.mem_of_getElem? (i := 234) rfl) rfl, g_in1 (List.mem_of_getElem? (i := 7) rfl) rfl, ⟨by decide +kernel, by decide +kernel⟩, by decide +kernel, by decide +kernel⟩
theorem mv_X1_away : g_MV yX1_away := ⟨g_in3 (List.mem_of_getElem? (i := 233) rfl) rfl, g_sels (g_psg3 _ (List.mem_of_getElem? (i := 7) rfl))⟩
theorem mc_X1_clear : g_MC yX1_clear cX1_clear 2 (none : Option Jvm.ClassFile.FieldType) 0 := ⟨g_in2 (List.mem_of_getElem? (i := 161) rfl) rfl, g_in1 (List.mem_of_getElem? (i := 7) rfl) rfl, ⟨by decide +kernel, by decide +kernel⟩, by decide +kernel, by decide +kernel⟩
theorem mv_X1_clear : g_MV yX1_clear := ⟨g_in2 (List.mem_of_getElem? (i := 160) rfl) rfl, g_sels (g_psg1 _ (List.mem_of_getElem? (i := 1) rfl))⟩
theorem mc_X1_comersTo : g_MC yX1_comersTo cX1_comersTo 5 (some .int) 2 := ⟨g_in4 (List.mem_of_getElem? (i := 171) rfl) rfl, g_in1 (List.mem_of_getElem? (i := 7) rfl) rfl, ⟨by decide +kernel, by decide +kernel⟩, by decide +kernel, by decide +kernel⟩
theorem mv_X1_comersTo : g_MV yX1_comersTo := ⟨g_in4 (List.mem_of_getElem? (i := 170) rfl) rfl, g_sels (g_psg5 _ (List.mem_of_getElem? (i := 3) rfl))⟩
theorem mc_X1_hadIn : g_MC yX1_hadIn cX1_hadIn 4 (some .int) 1 := ⟨g_in4 (List.mem_of_getElem? (i := 140) rfl) rfl, g_in1 (List.mem_of_getElem? (i := 7) rfl) rfl, ⟨by decide +kernel, by decide +kernel⟩, by decide +kernel, by decide +kernel⟩
theorem mv_X1_hadIn : g_MV yX1_hadIn := ⟨g_in4 (List.mem_of_getElem? (i := 139) rfl) rfl, g_sels (g_psg4 _ (List.mem_of_getElem? (i := 15) rfl))⟩
theorem mc_X1_hoursTo : g_MC yX1_hoursTo cX1_hoursTo 5 (some .int) 2 := ⟨g_in4 (List.mem_of_getElem? (i := 178) rfl) rfl, g_in1 (List.mem_of_getElem? (i := 7) rfl) rfl, ⟨by decide +kernel, by decide +kernel⟩, by decide +kernel, by decide +kernel⟩
theorem mv_X1_hoursTo : g_MV yX1_hoursTo := ⟨g_in4 (List.mem_of_getElem? (i := 177) rfl) rfl, g_sels (g_psg5 _ (List.mem_of_getElem? (i := 4) rfl))⟩
theorem mc_X1_isTold : g_MC yX1_isTold cX1_isTold 3 (some .boolean) 1 := ⟨g_in3 (List.mem_of_getElem? (i := 39) rfl) rfl, g_in1 (List.mem_of_getElem? (i := 7) rfl) rfl, ⟨by decide +kernel, by decide +kernel⟩, by decide +kernel, by decide +kernel⟩
theorem mv_X1_isTold : g_MV yX1_isTold := ⟨g_in3 (List.mem_of_getElem? (i := 38) rfl) rfl, g_sels (g_psg1 _ (List.mem_of_getElem? (i := 10) rfl))⟩
theorem mc_X1_isWithin : g_MC yX1_isWithin cX1_isWithin 2 (some .boolean) 2 := ⟨g_in4 (List.mem_of_getElem? (i := 174) rfl) rfl, g_in1 (List.mem_of_getElem? (i := 7) rfl) rfl, ⟨by decide +kernel, by decide +kernel⟩, by decide +kernel, by decide +kernel⟩
theorem ms_X1_isWithin : Cond.static yX1_isWithin ∈ g_gw := g_in4 (List.mem_of_getElem? (i := 173) rfl) rfl
theorem mc_X1_lackedIn : g_MC yX1_lackedIn cX1_lackedIn 5 (some .int) 1 := ⟨g_in4 (List.mem_of_getElem? (i := 149) rfl) rfl, g_in1 (List.mem_of_getElem? (i := 7) rfl) rfl, ⟨by decide +kernel, by decide +kernel⟩, by decide +kernel, by decide +kernel⟩
theorem mv_X1_lackedIn : g_MV yX1_lackedIn := ⟨g_in4 (List.mem_of_getElem? (i := 148) rfl) rfl, g_sels (g_psg5 _ (List.mem_of_getElem? (i := 0) rfl))⟩
theorem mc_X1_makersOf : g_MC yX1_makersOf cX1_makersOf 4 (some .int) 1 := ⟨g_in3 (List.mem_of_getElem? (i := 140) rfl) rfl, g_in1 (List.mem_of_getElem? (i := 7) rfl) rfl, ⟨by decide +kernel, by decide +kernel⟩, by decide +kernel, by decide +kernel⟩
theorem mv_X1_makersOf : g_MV yX1_makersOf := ⟨g_in3 (List.mem_of_getElem? (i := 139) rfl) rfl, g_sels (g_psg2 _ (List.mem_of_getElem? (i := 5) rfl))⟩
theorem mc_X1_makersWithin : g_MC yX1_makersWithin cX1_makersWithin 7 (some .int) 3 := ⟨g_in4 (List.mem_of_getElem? (i := 187) rfl) rfl, g_in1 (List.mem_of_getElem? (i := 7) rfl) rfl, ⟨by decide +kernel, by decide +kernel⟩, by decide +kernel, by decide +kernel⟩
theorem mv_X1_makersWithin : g_MV yX1_makersWithin := ⟨g_in4 (List.mem_of_getElem? (i := 186) rfl) rfl, g_sels (g_psg5 _ (List.mem_of_getElem? (i := 5) rfl))⟩
theorem mc_X1_shortenWays : g_MC yX1_shortenWays cX1_shortenWays 4 (none : Option Jvm.ClassFile.FieldType) 0 := ⟨g_in3 (List.mem_of_getElem? (i := 72) rfl) rfl, g_in1 (List.mem_of_getElem? (i := 7) rfl) rfl, ⟨by decide +kernel, by decide +kernel⟩, by decide +kernel, by decide +kernel⟩
theorem mv_X1_shortenWays : g_MV yX1_shortenWays := ⟨g_in3 (List.mem_of_getElem? (i := 71) rfl) rfl, g_sels (g_psg1 _ (List.mem_of_getElem? (i := 13) rfl))⟩
theorem mc_X1_worthOf : g_MC yX1_worthOf cX1_worthOf 4 (some .int) 3 := ⟨g_in3 (List.mem_of_getElem? (i := 152) rfl) rfl, g_in1 (List.mem_of_getElem? (i := 7) rfl) rfl, ⟨by decide +kernel, by decide +kernel⟩, by decide +kernel, by decide +kernel⟩
theorem mv_X1_worthOf : g_MV yX1_worthOf := ⟨g_in3 (List.mem_of_getElem? (i := 151) rfl) rfl, g_sels (g_psg2 _ (List.mem_of_getElem? (i := 7) rfl))⟩
theorem mc_X1_worthOfSome : g_MC yX1_worthOfSome cX1_worthOfSome 6 (some .int) 3 := ⟨g_in3 (List.mem_of_getElem? (i := 168) rfl) rfl, g_in1 (List.mem_of_getElem? (i := 7) rfl) rfl, ⟨by decide +kernel, by decide +kernel⟩, by decide +kernel, by decide +kernel⟩
theorem mv_X1_worthOfSome : g_MV yX1_worthOfSome := ⟨g_in3 (List.mem_of_getElem? (i := 167) rfl) rfl, g_sels (g_psg2 _ (List.mem_of_getElem? (i := 10) rfl))⟩
theorem mc_X2_read : g_MC yX2_read cX2_read 3 (some .int) 2 := ⟨g_in2 (List.mem_of_getElem? (i := 157) rfl) rfl, g_in1 (List.mem_of_getElem? (i := 13) rfl) rfl, ⟨by decide +kernel, by decide +kernel⟩, by decide +kernel, by decide +kernel⟩
theorem ms_X2_read : Cond.static yX2_read ∈ g_gw := g_in2 (List.mem_of_getElem? (i := 156) rfl) rfl
theorem mc_X2_readGood : g_MC yX2_readGood cX2_readGood 5 (some .boolean) 2 := ⟨g_in3 (List.mem_of_getElem? (i := 59) rfl) rfl, g_in1 (List.mem_of_getElem? (i := 13) rfl) rfl, ⟨by decide +kernel, by decide +kernel⟩, by decide +kernel, by decide +kernel⟩
theorem ms_X2_readGood : Cond.static yX2_readGood ∈ g_gw := g_in3 (List.mem_of_getElem? (i := 58) rfl) rfl
theorem mc_X2_readLine : g_MC yX2_readLine cX2_readLine 2 (some .boolean) 2 := ⟨g_in3 (List.mem_of_getElem? (i := 20) rfl) rfl, g_in1 (List.mem_of_getElem? (i := 13) rfl) rfl, ⟨by decide +kernel, by decide +kernel⟩, by decide +kernel, by decide +kernel⟩
theorem ms_X2_readLine : Cond.static yX2_readLine ∈ g_gw := g_in3 (List.mem_of_getElem? (i := 19) rfl) rfl
theorem mc_X2_readPerson : g_MC yX2_readPerson cX2_readPerson 8 (some .boolean) 2 := ⟨g_in3 (List.mem_of_getElem? (i := 65) rfl) rfl, g_in1 (List.mem_of_getElem? (i := 13) rfl) rfl, ⟨by decide +kernel, by decide +kernel⟩, by decide +kernel, by decide +kernel⟩
theorem ms_X2_readPerson : Cond.static yX2_readPerson ∈ g_gw := g_in3 (List.mem_of_getElem? (i := 64) rfl) rfl
theorem mc_X2_readPlace : g_MC yX2_readPlace cX2_readPlace 2 (some .boolean) 2 := ⟨g_in3 (List.mem_of_getElem? (i := 23) rfl) rfl, g_in1 (List.mem_of_getElem? (i := 13) rfl) rfl, ⟨by decide +kernel, by decide +kernel⟩, by decide +kernel, by decide +kernel⟩
theorem ms_X2_readPlace : Cond.static yX2_readPlace ∈ g_gw := g_in3 (List.mem_of_getElem? (i := 22) rfl) rfl
theorem mc_X2_readWant : g_MC yX2_readWant cX2_readWant 7 (some .int) 3 := ⟨g_in3 (List.mem_of_getElem? (i := 68) rfl) rfl, g_in1 (List.mem_of_getElem? (i := 13) rfl) rfl, ⟨by decide +kernel, by decide +kernel⟩, by decide +kernel, by decide +kernel⟩
theorem ms_X2_readWant : Cond.static yX2_readWant ∈ g_gw := g_in3 (List.mem_of_getElem? (i := 67) rfl) rfl
theorem mc_X2_readWay : g_MC yX2_readWay cX2_readWay 5 (some .boolean) 2 := ⟨g_in3 (List.mem_of_getElem? (i := 48) rfl) rfl, g_in1 (List.mem_of_getElem? (i := 13) rfl) rfl, ⟨by decide +kernel, by decide +kernel⟩, by decide +kernel, by decide +kernel⟩
theorem ms_X2_readWay : Cond.static yX2_readWay ∈ g_gw := g_in3 (List.mem_of_getElem? (i := 47) rfl) rfl
theorem mc_X2_takeGoods : g_MC yX2_takeGoods cX2_takeGoods 5 (some .int) 2 := ⟨g_in3 (List.mem_of_getElem? (i := 62) rfl) rfl, g_in1 (List.mem_of_getElem? (i := 13) rfl) rfl, ⟨by decide +kernel, by decide +kernel⟩, by decide +kernel, by decide +kernel⟩
theorem ms_X2_takeGoods : Cond.static yX2_takeGoods ∈ g_gw := g_in3 (List.mem_of_getElem? (i := 61) rfl) rfl
theorem mc_X2_takeNewName : g_MC yX2_takeNewName cX2_takeNewName 4 (some .boolean) 4 := ⟨g_in3 (List.mem_of_getElem? (i := 27) rfl) rfl, g_in1 (List.mem_of_getElem? (i := 13) rfl) rfl, ⟨by decide +kernel, by decide +kernel⟩, by decide +kernel, by decide +kernel⟩
theorem ms_X2_takeNewName : Cond.static yX2_takeNewName ∈ g_gw := g_in3 (List.mem_of_getElem? (i := 26) rfl) rfl
theorem mc_X2_takeTold : g_MC yX2_takeTold cX2_takeTold 5 (some .int) 4 := ⟨g_in3 (List.mem_of_getElem? (i := 51) rfl) rfl, g_in1 (List.mem_of_getElem? (i := 13) rfl) rfl, ⟨by decide +kernel, by decide +kernel⟩, by decide +kernel, by decide +kernel⟩
theorem ms_X2_takeTold : Cond.static yX2_takeTold ∈ g_gw := g_in3 (List.mem_of_getElem? (i := 50) rfl) rfl
theorem mc_X3_init : g_MC yX3_init cX3_init 1 (none : Option Jvm.ClassFile.FieldType) 0 := ⟨g_in2 (List.mem_of_getElem? (i := 35) rfl) rfl, g_in1 (List.mem_of_getElem? (i := 10) rfl) rfl, ⟨by decide +kernel, by decide +kernel⟩, by decide +kernel, by decide +kernel⟩
theorem mc_X3_allow : g_MC yX3_allow cX3_allow 4 (none : Option Jvm.ClassFile.FieldType) 3 := ⟨g_in4 (List.mem_of_getElem? (i := 50) rfl) rfl, g_in1 (List.mem_of_getElem? (i := 10) rfl) rfl, ⟨by decide +kernel, by decide +kernel⟩, by decide +kernel, by decide +kernel⟩
theorem mv_X3_allow : g_MV yX3_allow := ⟨g_in4 (List.mem_of_getElem? (i := 49) rfl) rfl, g_sels (g_psg4 _ (List.mem_of_getElem? (i := 2) rfl))⟩
theorem mc_X3_clear : g_MC yX3_clear cX3_clear 1 (none : Option Jvm.ClassFile.FieldType) 0 := ⟨g_in4 (List.mem_of_getElem? (i := 37) rfl) rfl, g_in1 (List.mem_of_getElem? (i := 10) rfl) rfl, ⟨by decide +kernel, by decide +kernel⟩, by decide +kernel, by decide +kernel⟩
theorem mv_X3_clear : g_MV yX3_clear := ⟨g_in4 (List.mem_of_getElem? (i := 36) rfl) rfl, g_sels (g_psg3 _ (List.mem_of_getElem? (i := 15) rfl))⟩
theorem mc_X3_closeRing : g_MC yX3_closeRing cX3_closeRing 11 (some .boolean) 6 := ⟨g_in4 (List.mem_of_getElem? (i := 70) rfl) rfl, g_in1 (List.mem_of_getElem? (i := 10) rfl) rfl, ⟨by decide +kernel, by decide +kernel⟩, by decide +kernel, by decide +kernel⟩
theorem mv_X3_closeRing : g_MV yX3_closeRing := ⟨g_in4 (List.mem_of_getElem? (i := 69) rfl) rfl, g_sels (g_psg4 _ (List.mem_of_getElem? (i := 6) rfl))⟩
theorem mc_X3_find : g_MC yX3_find cX3_find 5 (none : Option Jvm.ClassFile.FieldType) 2 := ⟨g_in4 (List.mem_of_getElem? (i := 54) rfl) rfl, g_in1 (List.mem_of_getElem? (i := 10) rfl) rfl, ⟨by decide +kernel, by decide +kernel⟩, by decide +kernel, by decide +kernel⟩
theorem mv_X3_find : g_MV yX3_find := ⟨g_in4 (List.mem_of_getElem? (i := 53) rfl) rfl, g_sels (g_psg4 _ (List.mem_of_getElem? (i := 3) rfl))⟩
theorem mc_X3_findMost : g_MC yX3_findMost cX3_findMost 5 (none : Option Jvm.ClassFile.FieldType) 1 := ⟨g_in4 (List.mem_of_getElem? (i := 81) rfl) rfl, g_in1 (List.mem_of_getElem? (i := 10) rfl) rfl, ⟨by decide +kernel, by decide +kernel⟩, by decide +kernel, by decide +kernel⟩
theorem mv_X3_findMost : g_MV yX3_findMost := ⟨g_in4 (List.mem_of_getElem? (i := 80) rfl) rfl, g_sels (g_psg4 _ (List.mem_of_getElem? (i := 7) rfl))⟩
theorem mc_X3_goOn : g_MC yX3_goOn cX3_goOn 14 (some .boolean) 7 := ⟨g_in4 (List.mem_of_getElem? (i := 66) rfl) rfl, g_in1 (List.mem_of_getElem? (i := 10) rfl) rfl, ⟨by decide +kernel, by decide +kernel⟩, by decide +kernel, by decide +kernel⟩
theorem ms_X3_goOn : Cond.static yX3_goOn ∈ g_gw := g_in4 (List.mem_of_getElem? (i := 65) rfl) rfl
theorem mc_X3_hold : g_MC yX3_hold cX3_hold 3 (none : Option Jvm.ClassFile.FieldType) 2 := ⟨g_in4 (List.mem_of_getElem? (i := 42) rfl) rfl, g_in1 (List.mem_of_getElem? (i := 10) rfl) rfl, ⟨by decide +kernel, by decide +kernel⟩, by decide +kernel, by decide +kernel⟩
theorem mv_X3_hold : g_MV yX3_hold := ⟨g_in4 (List.mem_of_getElem? (i := 41) rfl) rfl, g_sels (g_psg4 _ (List.mem_of_getElem? (i := 0) rfl))⟩
theorem mc_X3_mayGive : g_MC yX3_mayGive cX3_mayGive 4 (some .boolean) 3 := ⟨g_in4 (List.mem_of_getElem? (i := 46) rfl) rfl, g_in1 (List.mem_of_getElem? (i := 10) rfl) rfl, ⟨by decide +kernel, by decide +kernel⟩, by decide +kernel, by decide +kernel⟩
theorem mv_X3_mayGive : g_MV yX3_mayGive := ⟨g_in4 (List.mem_of_getElem? (i := 45) rfl) rfl, g_sels (g_psg4 _ (List.mem_of_getElem? (i := 1) rfl))⟩
theorem mc_X3_offerRound : g_MC yX3_offerRound cX3_offerRound 7 (none : Option Jvm.ClassFile.FieldType) 2 := ⟨g_in4 (List.mem_of_getElem? (i := 85) rfl) rfl, g_in1 (List.mem_of_getElem? (i := 10) rfl) rfl, ⟨by decide +kernel, by decide +kernel⟩, by decide +kernel, by decide +kernel⟩
theorem mv_X3_offerRound : g_MV yX3_offerRound := ⟨g_in4 (List.mem_of_getElem? (i := 84) rfl) rfl, g_sels (g_psg4 _ (List.mem_of_getElem? (i := 8) rfl))⟩
theorem mc_X3_pairsOf : g_MC yX3_pairsOf cX3_pairsOf 4 (some .int) 1 := ⟨g_in5 (List.mem_of_getElem? (i := 4) rfl) rfl, g_in1 (List.mem_of_getElem? (i := 10) rfl) rfl, ⟨by decide +kernel, by decide +kernel⟩, by decide +kernel, by decide +kernel⟩
theorem mv_X3_pairsOf : g_MV yX3_pairsOf := ⟨g_in5 (List.mem_of_getElem? (i := 3) rfl) rfl, g_sels (g_psg5 _ (List.mem_of_getElem? (i := 11) rfl))⟩
theorem mc_X3_shortestIn : g_MC yX3_shortestIn cX3_shortestIn 5 (some .int) 1 := ⟨g_in4 (List.mem_of_getElem? (i := 101) rfl) rfl, g_in1 (List.mem_of_getElem? (i := 10) rfl) rfl, ⟨by decide +kernel, by decide +kernel⟩, by decide +kernel, by decide +kernel⟩
theorem mv_X3_shortestIn : g_MV yX3_shortestIn := ⟨g_in4 (List.mem_of_getElem? (i := 100) rfl) rfl, g_sels (g_psg4 _ (List.mem_of_getElem? (i := 9) rfl))⟩
theorem mc_X3_startRings : g_MC yX3_startRings cX3_startRings 6 (some .boolean) 1 := ⟨g_in4 (List.mem_of_getElem? (i := 63) rfl) rfl, g_in1 (List.mem_of_getElem? (i := 10) rfl) rfl, ⟨by decide +kernel, by decide +kernel⟩, by decide +kernel, by decide +kernel⟩
theorem mv_X3_startRings : g_MV yX3_startRings := ⟨g_in4 (List.mem_of_getElem? (i := 62) rfl) rfl, g_sels (g_psg4 _ (List.mem_of_getElem? (i := 5) rfl))⟩
theorem mc_X3_weigh : g_MC yX3_weigh cX3_weigh 8 (none : Option Jvm.ClassFile.FieldType) 2 := ⟨g_in4 (List.mem_of_getElem? (i := 58) rfl) rfl, g_in1 (List.mem_of_getElem? (i := 10) rfl) rfl, ⟨by decide +kernel, by decide +kernel⟩, by decide +kernel, by decide +kernel⟩
theorem mv_X3_weigh : g_MV yX3_weigh := ⟨g_in4 (List.mem_of_getElem? (i := 57) rfl) rfl, g_sels (g_psg4 _ (List.mem_of_getElem? (i := 4) rfl))⟩
theorem mc_X4_init : g_MC yX4_init cX4_init 1 (none : Option Jvm.ClassFile.FieldType) 0 := ⟨g_in1 (List.mem_of_getElem? (i := 207) rfl) rfl, g_in1 (List.mem_of_getElem? (i := 8) rfl) rfl, ⟨by decide +kernel, by decide +kernel⟩, by decide +kernel, by decide +kernel⟩
theorem mc_X4_allows : g_MC yX4_allows cX4_allows 4 (some .boolean) 1 := ⟨g_in3 (List.mem_of_getElem? (i := 238) rfl) rfl, g_in1 (List.mem_of_getElem? (i := 8) rfl) rfl, ⟨by decide +kernel, by decide +kernel⟩, by decide +kernel, by decide +kernel⟩
theorem mv_X4_allows : g_MV yX4_allows := ⟨g_in3 (List.mem_of_getElem? (i := 237) rfl) rfl, g_sels (g_psg3 _ (List.mem_of_getElem? (i := 8) rfl))⟩
theorem mc_X4_clear : g_MC yX4_clear cX4_clear 1 (none : Option Jvm.ClassFile.FieldType) 0 := ⟨g_in3 (List.mem_of_getElem? (i := 92) rfl) rfl, g_in1 (List.mem_of_getElem? (i := 8) rfl) rfl, ⟨by decide +kernel, by decide +kernel⟩, by decide +kernel, by decide +kernel⟩
theorem mv_X4_clear : g_MV yX4_clear := ⟨g_in3 (List.mem_of_getElem? (i := 91) rfl) rfl, g_sels (g_psg2 _ (List.mem_of_getElem? (i := 0) rfl))⟩
theorem mc_X4_endLine : g_MC yX4_endLine cX4_endLine 1 (none : Option Jvm.ClassFile.FieldType) 0 := ⟨g_in3 (List.mem_of_getElem? (i := 119) rfl) rfl, g_in1 (List.mem_of_getElem? (i := 8) rfl) rfl, ⟨by decide +kernel, by decide +kernel⟩, by decide +kernel, by decide +kernel⟩
theorem mv_X4_endLine : g_MV yX4_endLine := ⟨g_in3 (List.mem_of_getElem? (i := 118) rfl) rfl, g_sels (g_psg2 _ (List.mem_of_getElem? (i := 2) rfl))⟩
theorem mc_X4_joined : g_MC yX4_joined cX4_joined 3 (some .int) 3 := ⟨g_in4 (List.mem_of_getElem? (i := 5) rfl) rfl, g_in1 (List.mem_of_getElem? (i := 8) rfl) rfl, ⟨by decide +kernel, by decide +kernel⟩, by decide +kernel, by decide +kernel⟩
theorem ms_X4_joined : Cond.static yX4_joined ∈ g_gw := g_in4 (List.mem_of_getElem? (i := 4) rfl) rfl
theorem mc_X4_put : g_MC yX4_put cX4_put 2 (none : Option Jvm.ClassFile.FieldType) 1 := ⟨g_in3 (List.mem_of_getElem? (i := 112) rfl) rfl, g_in1 (List.mem_of_getElem? (i := 8) rfl) rfl, ⟨by decide +kernel, by decide +kernel⟩, by decide +kernel, by decide +kernel⟩
theorem mv_X4_put : g_MV yX4_put := ⟨g_in3 (List.mem_of_getElem? (i := 111) rfl) rfl, g_sels (g_psg2 _ (List.mem_of_getElem? (i := 1) rfl))⟩
theorem mc_X4_valueOf : g_MC yX4_valueOf cX4_valueOf 7 (some .int) 3 := ⟨g_in4 (List.mem_of_getElem? (i := 2) rfl) rfl, g_in1 (List.mem_of_getElem? (i := 8) rfl) rfl, ⟨by decide +kernel, by decide +kernel⟩, by decide +kernel, by decide +kernel⟩
theorem mv_X4_valueOf : g_MV yX4_valueOf := ⟨g_in4 (List.mem_of_getElem? (i := 1) rfl) rfl, g_sels (g_psg3 _ (List.mem_of_getElem? (i := 9) rfl))⟩
theorem mc_X5_isFact : g_MC yX5_isFact cX5_isFact 1 (some .boolean) 1 := ⟨g_in3 (List.mem_of_getElem? (i := 107) rfl) rfl, g_in1 (List.mem_of_getElem? (i := 17) rfl) rfl, ⟨by decide +kernel, by decide +kernel⟩, by decide +kernel, by decide +kernel⟩
theorem ms_X5_isFact : Cond.static yX5_isFact ∈ g_gw := g_in3 (List.mem_of_getElem? (i := 106) rfl) rfl
theorem mc_X5_joins : g_MC yX5_joins cX5_joins 2 (some .boolean) 2 := ⟨g_in3 (List.mem_of_getElem? (i := 115) rfl) rfl, g_in1 (List.mem_of_getElem? (i := 17) rfl) rfl, ⟨by decide +kernel, by decide +kernel⟩, by decide +kernel, by decide +kernel⟩
theorem ms_X5_joins : Cond.static yX5_joins ∈ g_gw := g_in3 (List.mem_of_getElem? (i := 114) rfl) rfl
theorem mc_X5_read : g_MC yX5_read cX5_read 3 (some .int) 2 := ⟨g_in3 (List.mem_of_getElem? (i := 88) rfl) rfl, g_in1 (List.mem_of_getElem? (i := 17) rfl) rfl, ⟨by decide +kernel, by decide +kernel⟩, by decide +kernel, by decide +kernel⟩
theorem ms_X5_read : Cond.static yX5_read ∈ g_gw := g_in3 (List.mem_of_getElem? (i := 87) rfl) rfl
theorem mc_X5_readJoined : g_MC yX5_readJoined cX5_readJoined 7 (some .boolean) 4 := ⟨g_in3 (List.mem_of_getElem? (i := 101) rfl) rfl, g_in1 (List.mem_of_getElem? (i := 17) rfl) rfl, ⟨by decide +kernel, by decide +kernel⟩, by decide +kernel, by decide +kernel⟩
theorem ms_X5_readJoined : Cond.static yX5_readJoined ∈ g_gw := g_in3 (List.mem_of_getElem? (i := 100) rfl) rfl
theorem mc_X5_readLine : g_MC yX5_readLine cX5_readLine 2 (some .boolean) 2 := ⟨g_in3 (List.mem_of_getElem? (i := 96) rfl) rfl, g_in1 (List.mem_of_getElem? (i := 17) rfl) rfl, ⟨by decide +kernel, by decide +kernel⟩, by decide +kernel, by decide +kernel⟩
theorem ms_X5_readLine : Cond.static yX5_readLine ∈ g_gw := g_in3 (List.mem_of_getElem? (i := 95) rfl) rfl
theorem mc_X5_readPart : g_MC yX5_readPart cX5_readPart 6 (some .boolean) 3 := ⟨g_in3 (List.mem_of_getElem? (i := 104) rfl) rfl, g_in1 (List.mem_of_getElem? (i := 17) rfl) rfl, ⟨by decide +kernel, by decide +kernel⟩, by decide +kernel, by decide +kernel⟩
theorem ms_X5_readPart : Cond.static yX5_readPart ∈ g_gw := g_in3 (List.mem_of_getElem? (i := 103) rfl) rfl
theorem mc_X6_init : g_MC yX6_init cX6_init 3 (none : Option Jvm.ClassFile.FieldType) 0 := ⟨g_in1 (List.mem_of_getElem? (i := 36) rfl) rfl, g_in1 (List.mem_of_getElem? (i := 2) rfl) rfl, ⟨by decide +kernel, by decide +kernel⟩, by decide +kernel, by decide +kernel⟩
theorem mc_X6_add : g_MC yX6_add cX6_add 6 (none : Option Jvm.ClassFile.FieldType) 1 := ⟨g_in2 (List.mem_of_getElem? (i := 150) rfl) rfl, g_in1 (List.mem_of_getElem? (i := 2) rfl) rfl, ⟨by decide +kernel, by decide +kernel⟩, by decide +kernel, by decide +kernel⟩
theorem mv_X6_add : g_MV yX6_add := ⟨g_in2 (List.mem_of_getElem? (i := 149) rfl) rfl, g_sels (g_psg1 _ (List.mem_of_getElem? (i := 0) rfl))⟩
theorem mc_X6_advance : g_MC yX6_advance cX6_advance 1 (none : Option Jvm.ClassFile.FieldType) 0 := ⟨g_in3 (List.mem_of_getElem? (i := 17) rfl) rfl, g_in1 (List.mem_of_getElem? (i := 2) rfl) rfl, ⟨by decide +kernel, by decide +kernel⟩, by decide +kernel, by decide +kernel⟩
theorem mv_X6_advance : g_MV yX6_advance := ⟨g_in3 (List.mem_of_getElem? (i := 16) rfl) rfl, g_sels (g_psg1 _ (List.mem_of_getElem? (i := 7) rfl))⟩
theorem mc_X6_close : g_MC yX6_close cX6_close 1 (some .int) 0 := ⟨g_in3 (List.mem_of_getElem? (i := 77) rfl) rfl, g_in1 (List.mem_of_getElem? (i := 2) rfl) rfl, ⟨by decide +kernel, by decide +kernel⟩, by decide +kernel, by decide +kernel⟩
theorem mv_X6_close : g_MV yX6_close := ⟨g_in3 (List.mem_of_getElem? (i := 76) rfl) rfl, g_sels (g_psg1 _ (List.mem_of_getElem? (i := 14) rfl))⟩
theorem mc_X6_isDigit : g_MC yX6_isDigit cX6_isDigit 1 (some .boolean) 1 := ⟨g_in2 (List.mem_of_getElem? (i := 189) rfl) rfl, g_in1 (List.mem_of_getElem? (i := 2) rfl) rfl, ⟨by decide +kernel, by decide +kernel⟩, by decide +kernel, by decide +kernel⟩
theorem ms_X6_isDigit : Cond.static yX6_isDigit ∈ g_gw := g_in2 (List.mem_of_getElem? (i := 188) rfl) rfl
theorem mc_X6_isLetter : g_MC yX6_isLetter cX6_isLetter 1 (some .boolean) 1 := ⟨g_in2 (List.mem_of_getElem? (i := 175) rfl) rfl, g_in1 (List.mem_of_getElem? (i := 2) rfl) rfl, ⟨by decide +kernel, by decide +kernel⟩, by decide +kernel, by decide +kernel⟩
theorem ms_X6_isLetter : Cond.static yX6_isLetter ∈ g_gw := g_in2 (List.mem_of_getElem? (i := 174) rfl) rfl
theorem mc_X6_isName : g_MC yX6_isName cX6_isName 1 (some .boolean) 0 := ⟨g_in3 (List.mem_of_getElem? (i := 31) rfl) rfl, g_in1 (List.mem_of_getElem? (i := 2) rfl) rfl, ⟨by decide +kernel, by decide +kernel⟩, by decide +kernel, by decide +kernel⟩
theorem mv_X6_isName : g_MV yX6_isName := ⟨g_in3 (List.mem_of_getElem? (i := 30) rfl) rfl, g_sels (g_psg1 _ (List.mem_of_getElem? (i := 8) rfl))⟩
theorem mc_X6_keep : g_MC yX6_keep cX6_keep 5 (none : Option Jvm.ClassFile.FieldType) 3 := ⟨g_in2 (List.mem_of_getElem? (i := 186) rfl) rfl, g_in1 (List.mem_of_getElem? (i := 2) rfl) rfl, ⟨by decide +kernel, by decide +kernel⟩, by decide +kernel, by decide +kernel⟩
theorem mv_X6_keep : g_MV yX6_keep := ⟨g_in2 (List.mem_of_getElem? (i := 185) rfl) rfl, g_sels (g_psg1 _ (List.mem_of_getElem? (i := 5) rfl))⟩
theorem mc_X6_open : g_MC yX6_open cX6_open 3 (none : Option Jvm.ClassFile.FieldType) 0 := ⟨g_in2 (List.mem_of_getElem? (i := 168) rfl) rfl, g_in1 (List.mem_of_getElem? (i := 2) rfl) rfl, ⟨by decide +kernel, by decide +kernel⟩, by decide +kernel, by decide +kernel⟩
theorem mv_X6_open : g_MV yX6_open := ⟨g_in2 (List.mem_of_getElem? (i := 167) rfl) rfl, g_sels (g_psg1 _ (List.mem_of_getElem? (i := 2) rfl))⟩
theorem mc_X6_readNumber : g_MC yX6_readNumber cX6_readNumber 4 (some .int) 1 := ⟨g_in2 (List.mem_of_getElem? (i := 193) rfl) rfl, g_in1 (List.mem_of_getElem? (i := 2) rfl) rfl, ⟨by decide +kernel, by decide +kernel⟩, by decide +kernel, by decide +kernel⟩
theorem mv_X6_readNumber : g_MV yX6_readNumber := ⟨g_in2 (List.mem_of_getElem? (i := 192) rfl) rfl, g_sels (g_psg1 _ (List.mem_of_getElem? (i := 6) rfl))⟩
theorem mc_X6_readToken : g_MC yX6_readToken cX6_readToken 3 (some .int) 1 := ⟨g_in2 (List.mem_of_getElem? (i := 172) rfl) rfl, g_in1 (List.mem_of_getElem? (i := 2) rfl) rfl, ⟨by decide +kernel, by decide +kernel⟩, by decide +kernel, by decide +kernel⟩
theorem mv_X6_readToken : g_MV yX6_readToken := ⟨g_in2 (List.mem_of_getElem? (i := 171) rfl) rfl, g_sels (g_psg1 _ (List.mem_of_getElem? (i := 3) rfl))⟩
theorem mc_X6_readWord : g_MC yX6_readWord cX6_readWord 6 (some .int) 1 := ⟨g_in2 (List.mem_of_getElem? (i := 179) rfl) rfl, g_in1 (List.mem_of_getElem? (i := 2) rfl) rfl, ⟨by decide +kernel, by decide +kernel⟩, by decide +kernel, by decide +kernel⟩
theorem mv_X6_readWord : g_MV yX6_readWord := ⟨g_in2 (List.mem_of_getElem? (i := 178) rfl) rfl, g_sels (g_psg1 _ (List.mem_of_getElem? (i := 4) rfl))⟩
theorem mc_X6_take : g_MC yX6_take cX6_take 2 (some .boolean) 1 := ⟨g_in3 (List.mem_of_getElem? (i := 44) rfl) rfl, g_in1 (List.mem_of_getElem? (i := 2) rfl) rfl, ⟨by decide +kernel, by decide +kernel⟩, by decide +kernel, by decide +kernel⟩
theorem mv_X6_take : g_MV yX6_take := ⟨g_in3 (List.mem_of_getElem? (i := 43) rfl) rfl, g_sels (g_psg1 _ (List.mem_of_getElem? (i := 11) rfl))⟩
theorem mc_X6_takeNumber : g_MC yX6_takeNumber cX6_takeNumber 4 (some .int) 2 := ⟨g_in3 (List.mem_of_getElem? (i := 56) rfl) rfl, g_in1 (List.mem_of_getElem? (i := 2) rfl) rfl, ⟨by decide +kernel, by decide +kernel⟩, by decide +kernel, by decide +kernel⟩
theorem mv_X6_takeNumber : g_MV yX6_takeNumber := ⟨g_in3 (List.mem_of_getElem? (i := 55) rfl) rfl, g_sels (g_psg1 _ (List.mem_of_getElem? (i := 12) rfl))⟩
theorem mc_X6_withLetter : g_MC yX6_withLetter cX6_withLetter 3 (some .long) 2 := ⟨g_in1 (List.mem_of_getElem? (i := 89) rfl) rfl, g_in1 (List.mem_of_getElem? (i := 2) rfl) rfl, ⟨by decide +kernel, by decide +kernel⟩, by decide +kernel, by decide +kernel⟩
theorem ms_X6_withLetter : Cond.static yX6_withLetter ∈ g_gw := g_in1 (List.mem_of_getElem? (i := 88) rfl) rfl
theorem mc_X6_wrong : g_MC yX6_wrong cX6_wrong 2 (some .boolean) 1 := ⟨g_in3 (List.mem_of_getElem? (i := 35) rfl) rfl, g_in1 (List.mem_of_getElem? (i := 2) rfl) rfl, ⟨by decide +kernel, by decide +kernel⟩, by decide +kernel, by decide +kernel⟩
theorem mv_X6_wrong : g_MV yX6_wrong := ⟨g_in3 (List.mem_of_getElem? (i := 34) rfl) rfl, g_sels (g_psg1 _ (List.mem_of_getElem? (i := 9) rfl))⟩
theorem mc_X7_init : g_MC yX7_init cX7_init 1 (none : Option Jvm.ClassFile.FieldType) 0 := ⟨g_in1 (List.mem_of_getElem? (i := 231) rfl) rfl, g_in1 (List.mem_of_getElem? (i := 9) rfl) rfl, ⟨by decide +kernel, by decide +kernel⟩, by decide +kernel, by decide +kernel⟩
theorem mc_X7_add : g_MC yX7_add cX7_add 6 (none : Option Jvm.ClassFile.FieldType) 5 := ⟨g_in3 (List.mem_of_getElem? (i := 198) rfl) rfl, g_in1 (List.mem_of_getElem? (i := 9) rfl) rfl, ⟨by decide +kernel, by decide +kernel⟩, by decide +kernel, by decide +kernel⟩
theorem mv_X7_add : g_MV yX7_add := ⟨g_in3 (List.mem_of_getElem? (i := 197) rfl) rfl, g_sels (g_psg3 _ (List.mem_of_getElem? (i := 0) rfl))⟩
theorem mc_X7_begin : g_MC yX7_begin cX7_begin 3 (none : Option Jvm.ClassFile.FieldType) 1 := ⟨g_in3 (List.mem_of_getElem? (i := 81) rfl) rfl, g_in1 (List.mem_of_getElem? (i := 9) rfl) rfl, ⟨by decide +kernel, by decide +kernel⟩, by decide +kernel, by decide +kernel⟩
theorem mv_X7_begin : g_MV yX7_begin := ⟨g_in3 (List.mem_of_getElem? (i := 80) rfl) rfl, g_sels (g_psg1 _ (List.mem_of_getElem? (i := 15) rfl))⟩
theorem mc_X7_copy : g_MC yX7_copy cX7_copy 2 (none : Option Jvm.ClassFile.FieldType) 1 := ⟨g_in5 (List.mem_of_getElem? (i := 12) rfl) rfl, g_in1 (List.mem_of_getElem? (i := 9) rfl) rfl, ⟨by decide +kernel, by decide +kernel⟩, by decide +kernel, by decide +kernel⟩
theorem mv_X7_copy : g_MV yX7_copy := ⟨g_in5 (List.mem_of_getElem? (i := 11) rfl) rfl, g_sels (g_psg5 _ (List.mem_of_getElem? (i := 12) rfl))⟩
theorem mc_X7_firstHeld : g_MC yX7_firstHeld cX7_firstHeld 4 (some .int) 2 := ⟨g_in3 (List.mem_of_getElem? (i := 190) rfl) rfl, g_in1 (List.mem_of_getElem? (i := 9) rfl) rfl, ⟨by decide +kernel, by decide +kernel⟩, by decide +kernel, by decide +kernel⟩
theorem mv_X7_firstHeld : g_MV yX7_firstHeld := ⟨g_in3 (List.mem_of_getElem? (i := 189) rfl) rfl, g_sels (g_psg2 _ (List.mem_of_getElem? (i := 14) rfl))⟩
theorem mc_X7_held : g_MC yX7_held cX7_held 5 (some .int) 2 := ⟨g_in3 (List.mem_of_getElem? (i := 164) rfl) rfl, g_in1 (List.mem_of_getElem? (i := 9) rfl) rfl, ⟨by decide +kernel, by decide +kernel⟩, by decide +kernel, by decide +kernel⟩
theorem mv_X7_held : g_MV yX7_held := ⟨g_in3 (List.mem_of_getElem? (i := 163) rfl) rfl, g_sels (g_psg2 _ (List.mem_of_getElem? (i := 9) rfl))⟩
theorem mc_X7_heldAtAll : g_MC yX7_heldAtAll cX7_heldAtAll 1 (some .int) 0 := ⟨g_in5 (List.mem_of_getElem? (i := 23) rfl) rfl, g_in1 (List.mem_of_getElem? (i := 9) rfl) rfl, ⟨by decide +kernel, by decide +kernel⟩, by decide +kernel, by decide +kernel⟩
theorem mv_X7_heldAtAll : g_MV yX7_heldAtAll := ⟨g_in5 (List.mem_of_getElem? (i := 22) rfl) rfl, g_sels (g_psg5 _ (List.mem_of_getElem? (i := 13) rfl))⟩
theorem mc_X7_heldBy : g_MC yX7_heldBy cX7_heldBy 4 (some .int) 1 := ⟨g_in3 (List.mem_of_getElem? (i := 173) rfl) rfl, g_in1 (List.mem_of_getElem? (i := 9) rfl) rfl, ⟨by decide +kernel, by decide +kernel⟩, by decide +kernel, by decide +kernel⟩
theorem mv_X7_heldBy : g_MV yX7_heldBy := ⟨g_in3 (List.mem_of_getElem? (i := 172) rfl) rfl, g_sels (g_psg2 _ (List.mem_of_getElem? (i := 11) rfl))⟩
theorem mc_X7_holdsOfEach : g_MC yX7_holdsOfEach cX7_holdsOfEach 4 (some .boolean) 2 := ⟨g_in3 (List.mem_of_getElem? (i := 186) rfl) rfl, g_in1 (List.mem_of_getElem? (i := 9) rfl) rfl, ⟨by decide +kernel, by decide +kernel⟩, by decide +kernel, by decide +kernel⟩
theorem mv_X7_holdsOfEach : g_MV yX7_holdsOfEach := ⟨g_in3 (List.mem_of_getElem? (i := 185) rfl) rfl, g_sels (g_psg2 _ (List.mem_of_getElem? (i := 13) rfl))⟩
theorem mc_X7_laterClock : g_MC yX7_laterClock cX7_laterClock 3 (some .int) 2 := ⟨g_in3 (List.mem_of_getElem? (i := 181) rfl) rfl, g_in1 (List.mem_of_getElem? (i := 9) rfl) rfl, ⟨by decide +kernel, by decide +kernel⟩, by decide +kernel, by decide +kernel⟩
theorem mv_X7_laterClock : g_MV yX7_laterClock := ⟨g_in3 (List.mem_of_getElem? (i := 180) rfl) rfl, g_sels (g_psg2 _ (List.mem_of_getElem? (i := 12) rfl))⟩
theorem mc_X7_setClocks : g_MC yX7_setClocks cX7_setClocks 4 (none : Option Jvm.ClassFile.FieldType) 3 := ⟨g_in3 (List.mem_of_getElem? (i := 202) rfl) rfl, g_in1 (List.mem_of_getElem? (i := 9) rfl) rfl, ⟨by decide +kernel, by decide +kernel⟩, by decide +kernel, by decide +kernel⟩
theorem mv_X7_setClocks : g_MV yX7_setClocks := ⟨g_in3 (List.mem_of_getElem? (i := 201) rfl) rfl, g_sels (g_psg3 _ (List.mem_of_getElem? (i := 1) rfl))⟩
theorem mc_X7_useUp : g_MC yX7_useUp cX7_useUp 5 (none : Option Jvm.ClassFile.FieldType) 2 := ⟨g_in3 (List.mem_of_getElem? (i := 194) rfl) rfl, g_in1 (List.mem_of_getElem? (i := 9) rfl) rfl, ⟨by decide +kernel, by decide +kernel⟩, by decide +kernel, by decide +kernel⟩
theorem mv_X7_useUp : g_MV yX7_useUp := ⟨g_in3 (List.mem_of_getElem? (i := 193) rfl) rfl, g_sels (g_psg2 _ (List.mem_of_getElem? (i := 15) rfl))⟩
theorem mc_X9_init : g_MC yX9_init cX9_init 1 (none : Option Jvm.ClassFile.FieldType) 0 := ⟨g_in5 (List.mem_of_getElem? (i := 129) rfl) rfl, g_in1 (List.mem_of_getElem? (i := 12) rfl) rfl, ⟨by decide +kernel, by decide +kernel⟩, by decide +kernel, by decide +kernel⟩
theorem mc_X9_areGift : g_MC yX9_areGift cX9_areGift 4 (some .boolean) 3 := ⟨g_in7 (List.mem_of_getElem? (i := 78) rfl) rfl, g_in1 (List.mem_of_getElem? (i := 12) rfl) rfl, ⟨by decide +kernel, by decide +kernel⟩, by decide +kernel, by decide +kernel⟩
theorem mv_X9_areGift : g_MV yX9_areGift := ⟨g_in7 (List.mem_of_getElem? (i := 77) rfl) rfl, g_sels (g_psg8 _ (List.mem_of_getElem? (i := 8) rfl))⟩
theorem mc_X9_areThem : g_MC yX9_areThem cX9_areThem 2 (some .boolean) 1 := ⟨g_in7 (List.mem_of_getElem? (i := 106) rfl) rfl, g_in1 (List.mem_of_getElem? (i := 12) rfl) rfl, ⟨by decide +kernel, by decide +kernel⟩, by decide +kernel, by decide +kernel⟩
theorem mv_X9_areThem : g_MV yX9_areThem := ⟨g_in7 (List.mem_of_getElem? (i := 105) rfl) rfl, g_sels (g_psg8 _ (List.mem_of_getElem? (i := 13) rfl))⟩
theorem mc_X9_at : g_MC yX9_at cX9_at 5 (some .int) 1 := ⟨g_in7 (List.mem_of_getElem? (i := 157) rfl) rfl, g_in1 (List.mem_of_getElem? (i := 12) rfl) rfl, ⟨by decide +kernel, by decide +kernel⟩, by decide +kernel, by decide +kernel⟩
theorem mv_X9_at : g_MV yX9_at := ⟨g_in7 (List.mem_of_getElem? (i := 155) rfl) rfl, g_in7 (List.mem_of_getElem? (i := 156) rfl) rfl⟩
theorem mc_X9_beside : g_MC yX9_beside cX9_beside 8 (some .int) 3 := ⟨g_in7 (List.mem_of_getElem? (i := 177) rfl) rfl, g_in1 (List.mem_of_getElem? (i := 12) rfl) rfl, ⟨by decide +kernel, by decide +kernel⟩, by decide +kernel, by decide +kernel⟩
theorem mv_X9_beside : g_MV yX9_beside := ⟨g_in7 (List.mem_of_getElem? (i := 175) rfl) rfl, g_in7 (List.mem_of_getElem? (i := 176) rfl) rfl⟩
theorem mc_X9_bits : g_MC yX9_bits cX9_bits 3 (some .int) 1 := ⟨g_in7 (List.mem_of_getElem? (i := 149) rfl) rfl, g_in1 (List.mem_of_getElem? (i := 12) rfl) rfl, ⟨by decide +kernel, by decide +kernel⟩, by decide +kernel, by decide +kernel⟩
theorem ms_X9_bits : Cond.static yX9_bits ∈ g_gw := g_in7 (List.mem_of_getElem? (i := 148) rfl) rfl
theorem mc_X9_closes : g_MC yX9_closes cX9_closes 11 (none : Option Jvm.ClassFile.FieldType) 2 := ⟨g_in7 (List.mem_of_getElem? (i := 122) rfl) rfl, g_in1 (List.mem_of_getElem? (i := 12) rfl) rfl, ⟨by decide +kernel, by decide +kernel⟩, by decide +kernel, by decide +kernel⟩
theorem mv_X9_closes : g_MV yX9_closes := ⟨g_in7 (List.mem_of_getElem? (i := 121) rfl) rfl, g_sels (g_psg9 _ (List.mem_of_getElem? (i := 1) rfl))⟩
theorem mc_X9_coin : g_MC yX9_coin cX9_coin 4 (some .int) 1 := ⟨g_in7 (List.mem_of_getElem? (i := 217) rfl) rfl, g_in1 (List.mem_of_getElem? (i := 12) rfl) rfl, ⟨by decide +kernel, by decide +kernel⟩, by decide +kernel, by decide +kernel⟩
theorem mv_X9_coin : g_MV yX9_coin := ⟨g_in7 (List.mem_of_getElem? (i := 215) rfl) rfl, g_in7 (List.mem_of_getElem? (i := 216) rfl) rfl⟩
theorem mc_X9_coinOf : g_MC yX9_coinOf cX9_coinOf 7 (some .int) 1 := ⟨g_in7 (List.mem_of_getElem? (i := 221) rfl) rfl, g_in1 (List.mem_of_getElem? (i := 12) rfl) rfl, ⟨by decide +kernel, by decide +kernel⟩, by decide +kernel, by decide +kernel⟩
theorem mv_X9_coinOf : g_MV yX9_coinOf := ⟨g_in7 (List.mem_of_getElem? (i := 220) rfl) rfl, g_sels (g_psg9 _ (List.mem_of_getElem? (i := 13) rfl))⟩
theorem mc_X9_count : g_MC yX9_count cX9_count 5 (some .int) 1 := ⟨g_in8 (List.mem_of_getElem? (i := 29) rfl) rfl, g_in1 (List.mem_of_getElem? (i := 12) rfl) rfl, ⟨by decide +kernel, by decide +kernel⟩, by decide +kernel, by decide +kernel⟩
theorem mv_X9_count : g_MV yX9_count := ⟨g_in8 (List.mem_of_getElem? (i := 27) rfl) rfl, g_in8 (List.mem_of_getElem? (i := 28) rfl) rfl⟩
theorem mc_X9_counts : g_MC yX9_counts cX9_counts 2 (none : Option Jvm.ClassFile.FieldType) 0 := ⟨g_in7 (List.mem_of_getElem? (i := 86) rfl) rfl, g_in1 (List.mem_of_getElem? (i := 12) rfl) rfl, ⟨by decide +kernel, by decide +kernel⟩, by decide +kernel, by decide +kernel⟩
theorem mv_X9_counts : g_MV yX9_counts := ⟨g_in7 (List.mem_of_getElem? (i := 85) rfl) rfl, g_sels (g_psg8 _ (List.mem_of_getElem? (i := 9) rfl))⟩
theorem mc_X9_draws : g_MC yX9_draws cX9_draws 2 (some .int) 1 := ⟨g_in8 (List.mem_of_getElem? (i := 9) rfl) rfl, g_in1 (List.mem_of_getElem? (i := 12) rfl) rfl, ⟨by decide +kernel, by decide +kernel⟩, by decide +kernel, by decide +kernel⟩
theorem mv_X9_draws : g_MV yX9_draws := ⟨g_in8 (List.mem_of_getElem? (i := 8) rfl) rfl, g_sels (g_psg9 _ (List.mem_of_getElem? (i := 15) rfl))⟩
theorem mc_X9_ends : g_MC yX9_ends cX9_ends 1 (some .boolean) 0 := ⟨g_in6 (List.mem_of_getElem? (i := 154) rfl) rfl, g_in1 (List.mem_of_getElem? (i := 12) rfl) rfl, ⟨by decide +kernel, by decide +kernel⟩, by decide +kernel, by decide +kernel⟩
theorem mv_X9_ends : g_MV yX9_ends := ⟨g_in6 (List.mem_of_getElem? (i := 153) rfl) rfl, g_sels (g_psg6 _ (List.mem_of_getElem? (i := 12) rfl))⟩
theorem mc_X9_fact : g_MC yX9_fact cX9_fact 1 (some .int) 0 := ⟨g_in7 (List.mem_of_getElem? (i := 4) rfl) rfl, g_in1 (List.mem_of_getElem? (i := 12) rfl) rfl, ⟨by decide +kernel, by decide +kernel⟩, by decide +kernel, by decide +kernel⟩
theorem mv_X9_fact : g_MV yX9_fact := ⟨g_in7 (List.mem_of_getElem? (i := 3) rfl) rfl, g_sels (g_psg7 _ (List.mem_of_getElem? (i := 13) rfl))⟩
theorem mc_X9_fails : g_MC yX9_fails cX9_fails 2 (some .boolean) 1 := ⟨g_in6 (List.mem_of_getElem? (i := 122) rfl) rfl, g_in1 (List.mem_of_getElem? (i := 12) rfl) rfl, ⟨by decide +kernel, by decide +kernel⟩, by decide +kernel, by decide +kernel⟩
theorem mv_X9_fails : g_MV yX9_fails := ⟨g_in6 (List.mem_of_getElem? (i := 121) rfl) rfl, g_sels (g_psg6 _ (List.mem_of_getElem? (i := 6) rfl))⟩
theorem mc_X9_fair : g_MC yX9_fair cX9_fair 6 (some .int) 4 := ⟨g_in7 (List.mem_of_getElem? (i := 201) rfl) rfl, g_in1 (List.mem_of_getElem? (i := 12) rfl) rfl, ⟨by decide +kernel, by decide +kernel⟩, by decide +kernel, by decide +kernel⟩
theorem mv_X9_fair : g_MV yX9_fair := ⟨g_in7 (List.mem_of_getElem? (i := 199) rfl) rfl, g_in7 (List.mem_of_getElem? (i := 200) rfl) rfl⟩
theorem mc_X9_fairAt : g_MC yX9_fairAt cX9_fairAt 6 (some .int) 3 := ⟨g_in7 (List.mem_of_getElem? (i := 205) rfl) rfl, g_in1 (List.mem_of_getElem? (i := 12) rfl) rfl, ⟨by decide +kernel, by decide +kernel⟩, by decide +kernel, by decide +kernel⟩
theorem mv_X9_fairAt : g_MV yX9_fairAt := ⟨g_in7 (List.mem_of_getElem? (i := 204) rfl) rfl, g_sels (g_psg9 _ (List.mem_of_getElem? (i := 12) rfl))⟩
theorem mc_X9_fairest : g_MC yX9_fairest cX9_fairest 5 (some .int) 2 := ⟨g_in7 (List.mem_of_getElem? (i := 209) rfl) rfl, g_in1 (List.mem_of_getElem? (i := 12) rfl) rfl, ⟨by decide +kernel, by decide +kernel⟩, by decide +kernel, by decide +kernel⟩
theorem mv_X9_fairest : g_MV yX9_fairest := ⟨g_in7 (List.mem_of_getElem? (i := 207) rfl) rfl, g_in7 (List.mem_of_getElem? (i := 208) rfl) rfl⟩
theorem mc_X9_far : g_MC yX9_far cX9_far 8 (some .int) 4 := ⟨g_in7 (List.mem_of_getElem? (i := 213) rfl) rfl, g_in1 (List.mem_of_getElem? (i := 12) rfl) rfl, ⟨by decide +kernel, by decide +kernel⟩, by decide +kernel, by decide +kernel⟩
theorem mv_X9_far : g_MV yX9_far := ⟨g_in7 (List.mem_of_getElem? (i := 211) rfl) rfl, g_in7 (List.mem_of_getElem? (i := 212) rfl) rfl⟩
theorem mc_X9_feed : g_MC yX9_feed cX9_feed 11 (some .int) 3 := ⟨g_in6 (List.mem_of_getElem? (i := 86) rfl) rfl, g_in1 (List.mem_of_getElem? (i := 12) rfl) rfl, ⟨by decide +kernel, by decide +kernel⟩, by decide +kernel, by decide +kernel⟩
theorem mv_X9_feed : g_MV yX9_feed := ⟨g_in6 (List.mem_of_getElem? (i := 84) rfl) rfl, g_in6 (List.mem_of_getElem? (i := 85) rfl) rfl⟩
theorem mc_X9_fewest : g_MC yX9_fewest cX9_fewest 5 (some .int) 2 := ⟨g_in7 (List.mem_of_getElem? (i := 197) rfl) rfl, g_in1 (List.mem_of_getElem? (i := 12) rfl) rfl, ⟨by decide +kernel, by decide +kernel⟩, by decide +kernel, by decide +kernel⟩
theorem mv_X9_fewest : g_MV yX9_fewest := ⟨g_in7 (List.mem_of_getElem? (i := 195) rfl) rfl, g_in7 (List.mem_of_getElem? (i := 196) rfl) rfl⟩
theorem mc_X9_gains : g_MC yX9_gains cX9_gains 4 (some .int) 3 := ⟨g_in7 (List.mem_of_getElem? (i := 126) rfl) rfl, g_in1 (List.mem_of_getElem? (i := 12) rfl) rfl, ⟨by decide +kernel, by decide +kernel⟩, by decide +kernel, by decide +kernel⟩
theorem mv_X9_gains : g_MV yX9_gains := ⟨g_in7 (List.mem_of_getElem? (i := 125) rfl) rfl, g_sels (g_psg9 _ (List.mem_of_getElem? (i := 2) rfl))⟩
theorem mc_X9_give : g_MC yX9_give cX9_give 4 (some .int) 3 := ⟨g_in7 (List.mem_of_getElem? (i := 42) rfl) rfl, g_in1 (List.mem_of_getElem? (i := 12) rfl) rfl, ⟨by decide +kernel, by decide +kernel⟩, by decide +kernel, by decide +kernel⟩
theorem mv_X9_give : g_MV yX9_give := ⟨g_in7 (List.mem_of_getElem? (i := 40) rfl) rfl, g_in7 (List.mem_of_getElem? (i := 41) rfl) rfl⟩
theorem mc_X9_go : g_MC yX9_go cX9_go 3 (some .int) 2 := ⟨g_in7 (List.mem_of_getElem? (i := 38) rfl) rfl, g_in1 (List.mem_of_getElem? (i := 12) rfl) rfl, ⟨by decide +kernel, by decide +kernel⟩, by decide +kernel, by decide +kernel⟩
theorem mv_X9_go : g_MV yX9_go := ⟨g_in7 (List.mem_of_getElem? (i := 36) rfl) rfl, g_in7 (List.mem_of_getElem? (i := 37) rfl) rfl⟩
theorem mc_X9_goesOn : g_MC yX9_goesOn cX9_goesOn 5 (none : Option Jvm.ClassFile.FieldType) 2 := ⟨g_in7 (List.mem_of_getElem? (i := 118) rfl) rfl, g_in1 (List.mem_of_getElem? (i := 12) rfl) rfl, ⟨by decide +kernel, by decide +kernel⟩, by decide +kernel, by decide +kernel⟩
theorem mv_X9_goesOn : g_MV yX9_goesOn := ⟨g_in7 (List.mem_of_getElem? (i := 117) rfl) rfl, g_sels (g_psg9 _ (List.mem_of_getElem? (i := 0) rfl))⟩
theorem mc_X9_good : g_MC yX9_good cX9_good 3 (some .int) 2 := ⟨g_in6 (List.mem_of_getElem? (i := 214) rfl) rfl, g_in1 (List.mem_of_getElem? (i := 12) rfl) rfl, ⟨by decide +kernel, by decide +kernel⟩, by decide +kernel, by decide +kernel⟩
theorem mv_X9_good : g_MV yX9_good := ⟨g_in6 (List.mem_of_getElem? (i := 212) rfl) rfl, g_in6 (List.mem_of_getElem? (i := 213) rfl) rfl⟩
theorem mc_X9_goodOf : g_MC yX9_goodOf cX9_goodOf 2 (some .int) 0 := ⟨g_in6 (List.mem_of_getElem? (i := 150) rfl) rfl, g_in1 (List.mem_of_getElem? (i := 12) rfl) rfl, ⟨by decide +kernel, by decide +kernel⟩, by decide +kernel, by decide +kernel⟩
theorem mv_X9_goodOf : g_MV yX9_goodOf := ⟨g_in6 (List.mem_of_getElem? (i := 149) rfl) rfl, g_sels (g_psg6 _ (List.mem_of_getElem? (i := 11) rfl))⟩
theorem mc_X9_had : g_MC yX9_had cX9_had 2 (some .int) 1 := ⟨g_in7 (List.mem_of_getElem? (i := 181) rfl) rfl, g_in1 (List.mem_of_getElem? (i := 12) rfl) rfl, ⟨by decide +kernel, by decide +kernel⟩, by decide +kernel, by decide +kernel⟩
theorem mv_X9_had : g_MV yX9_had := ⟨g_in7 (List.mem_of_getElem? (i := 179) rfl) rfl, g_in7 (List.mem_of_getElem? (i := 180) rfl) rfl⟩
theorem mc_X9_hadBy : g_MC yX9_hadBy cX9_hadBy 5 (some .int) 1 := ⟨g_in7 (List.mem_of_getElem? (i := 185) rfl) rfl, g_in1 (List.mem_of_getElem? (i := 12) rfl) rfl, ⟨by decide +kernel, by decide +kernel⟩, by decide +kernel, by decide +kernel⟩
theorem mv_X9_hadBy : g_MV yX9_hadBy := ⟨g_in7 (List.mem_of_getElem? (i := 184) rfl) rfl, g_sels (g_psg9 _ (List.mem_of_getElem? (i := 10) rfl))⟩
theorem mc_X9_happy : g_MC yX9_happy cX9_happy 5 (some .int) 1 := ⟨g_in7 (List.mem_of_getElem? (i := 90) rfl) rfl, g_in1 (List.mem_of_getElem? (i := 12) rfl) rfl, ⟨by decide +kernel, by decide +kernel⟩, by decide +kernel, by decide +kernel⟩
theorem mv_X9_happy : g_MV yX9_happy := ⟨g_in7 (List.mem_of_getElem? (i := 89) rfl) rfl, g_sels (g_psg8 _ (List.mem_of_getElem? (i := 10) rfl))⟩
theorem mc_X9_hasAll : g_MC yX9_hasAll cX9_hasAll 4 (some .boolean) 2 := ⟨g_in7 (List.mem_of_getElem? (i := 30) rfl) rfl, g_in1 (List.mem_of_getElem? (i := 12) rfl) rfl, ⟨by decide +kernel, by decide +kernel⟩, by decide +kernel, by decide +kernel⟩
theorem mv_X9_hasAll : g_MV yX9_hasAll := ⟨g_in7 (List.mem_of_getElem? (i := 29) rfl) rfl, g_sels (g_psg8 _ (List.mem_of_getElem? (i := 0) rfl))⟩
theorem mc_X9_heldBy : g_MC yX9_heldBy cX9_heldBy 4 (some .int) 1 := ⟨g_in7 (List.mem_of_getElem? (i := 98) rfl) rfl, g_in1 (List.mem_of_getElem? (i := 12) rfl) rfl, ⟨by decide +kernel, by decide +kernel⟩, by decide +kernel, by decide +kernel⟩
theorem mv_X9_heldBy : g_MV yX9_heldBy := ⟨g_in7 (List.mem_of_getElem? (i := 97) rfl) rfl, g_sels (g_psg8 _ (List.mem_of_getElem? (i := 12) rfl))⟩
theorem mc_X9_heldOf : g_MC yX9_heldOf cX9_heldOf 4 (some .int) 2 := ⟨g_in7 (List.mem_of_getElem? (i := 34) rfl) rfl, g_in1 (List.mem_of_getElem? (i := 12) rfl) rfl, ⟨by decide +kernel, by decide +kernel⟩, by decide +kernel, by decide +kernel⟩
theorem mv_X9_heldOf : g_MV yX9_heldOf := ⟨g_in7 (List.mem_of_getElem? (i := 33) rfl) rfl, g_sels (g_psg8 _ (List.mem_of_getElem? (i := 1) rfl))⟩
theorem mc_X9_isAlive : g_MC yX9_isAlive cX9_isAlive 3 (some .boolean) 1 := ⟨g_in7 (List.mem_of_getElem? (i := 134) rfl) rfl, g_in1 (List.mem_of_getElem? (i := 12) rfl) rfl, ⟨by decide +kernel, by decide +kernel⟩, by decide +kernel, by decide +kernel⟩
theorem mv_X9_isAlive : g_MV yX9_isAlive := ⟨g_in7 (List.mem_of_getElem? (i := 133) rfl) rfl, g_sels (g_psg9 _ (List.mem_of_getElem? (i := 4) rfl))⟩
theorem mc_X9_isBetter : g_MC yX9_isBetter cX9_isBetter 5 (some .boolean) 4 := ⟨g_in7 (List.mem_of_getElem? (i := 153) rfl) rfl, g_in1 (List.mem_of_getElem? (i := 12) rfl) rfl, ⟨by decide +kernel, by decide +kernel⟩, by decide +kernel, by decide +kernel⟩
theorem mv_X9_isBetter : g_MV yX9_isBetter := ⟨g_in7 (List.mem_of_getElem? (i := 152) rfl) rfl, g_sels (g_psg9 _ (List.mem_of_getElem? (i := 7) rfl))⟩
theorem mc_X9_isGood : g_MC yX9_isGood cX9_isGood 2 (some .boolean) 1 := ⟨g_in6 (List.mem_of_getElem? (i := 218) rfl) rfl, g_in1 (List.mem_of_getElem? (i := 12) rfl) rfl, ⟨by decide +kernel, by decide +kernel⟩, by decide +kernel, by decide +kernel⟩
theorem mv_X9_isGood : g_MV yX9_isGood := ⟨g_in6 (List.mem_of_getElem? (i := 217) rfl) rfl, g_sels (g_psg7 _ (List.mem_of_getElem? (i := 9) rfl))⟩
theorem mc_X9_isKept : g_MC yX9_isKept cX9_isKept 1 (some .boolean) 0 := ⟨g_in6 (List.mem_of_getElem? (i := 130) rfl) rfl, g_in1 (List.mem_of_getElem? (i := 12) rfl) rfl, ⟨by decide +kernel, by decide +kernel⟩, by decide +kernel, by decide +kernel⟩
theorem mv_X9_isKept : g_MV yX9_isKept := ⟨g_in6 (List.mem_of_getElem? (i := 129) rfl) rfl, g_sels (g_psg6 _ (List.mem_of_getElem? (i := 8) rfl))⟩
theorem mc_X9_isLawful : g_MC yX9_isLawful cX9_isLawful 8 (some .boolean) 6 := ⟨g_in7 (List.mem_of_getElem? (i := 50) rfl) rfl, g_in1 (List.mem_of_getElem? (i := 12) rfl) rfl, ⟨by decide +kernel, by decide +kernel⟩, by decide +kernel, by decide +kernel⟩
theorem mv_X9_isLawful : g_MV yX9_isLawful := ⟨g_in7 (List.mem_of_getElem? (i := 49) rfl) rfl, g_sels (g_psg8 _ (List.mem_of_getElem? (i := 3) rfl))⟩
theorem mc_X9_isLawfulNow : g_MC yX9_isLawfulNow cX9_isLawfulNow 4 (some .boolean) 3 := ⟨g_in7 (List.mem_of_getElem? (i := 46) rfl) rfl, g_in1 (List.mem_of_getElem? (i := 12) rfl) rfl, ⟨by decide +kernel, by decide +kernel⟩, by decide +kernel, by decide +kernel⟩
theorem mv_X9_isLawfulNow : g_MV yX9_isLawfulNow := ⟨g_in7 (List.mem_of_getElem? (i := 45) rfl) rfl, g_sels (g_psg8 _ (List.mem_of_getElem? (i := 2) rfl))⟩
theorem mc_X9_isLiving : g_MC yX9_isLiving cX9_isLiving 2 (some .boolean) 1 := ⟨g_in7 (List.mem_of_getElem? (i := 169) rfl) rfl, g_in1 (List.mem_of_getElem? (i := 12) rfl) rfl, ⟨by decide +kernel, by decide +kernel⟩, by decide +kernel, by decide +kernel⟩
theorem mv_X9_isLiving : g_MV yX9_isLiving := ⟨g_in7 (List.mem_of_getElem? (i := 168) rfl) rfl, g_sels (g_psg9 _ (List.mem_of_getElem? (i := 8) rfl))⟩
theorem mc_X9_isNew : g_MC yX9_isNew cX9_isNew 2 (some .boolean) 0 := ⟨g_in6 (List.mem_of_getElem? (i := 142) rfl) rfl, g_in1 (List.mem_of_getElem? (i := 12) rfl) rfl, ⟨by decide +kernel, by decide +kernel⟩, by decide +kernel, by decide +kernel⟩
theorem mv_X9_isNew : g_MV yX9_isNew := ⟨g_in6 (List.mem_of_getElem? (i := 141) rfl) rfl, g_sels (g_psg6 _ (List.mem_of_getElem? (i := 9) rfl))⟩
theorem mc_X9_isPerson : g_MC yX9_isPerson cX9_isPerson 2 (some .boolean) 1 := ⟨g_in6 (List.mem_of_getElem? (i := 230) rfl) rfl, g_in1 (List.mem_of_getElem? (i := 12) rfl) rfl, ⟨by decide +kernel, by decide +kernel⟩, by decide +kernel, by decide +kernel⟩
theorem mv_X9_isPerson : g_MV yX9_isPerson := ⟨g_in6 (List.mem_of_getElem? (i := 229) rfl) rfl, g_sels (g_psg7 _ (List.mem_of_getElem? (i := 11) rfl))⟩
theorem mc_X9_isPlace : g_MC yX9_isPlace cX9_isPlace 2 (some .boolean) 1 := ⟨g_in6 (List.mem_of_getElem? (i := 206) rfl) rfl, g_in1 (List.mem_of_getElem? (i := 12) rfl) rfl, ⟨by decide +kernel, by decide +kernel⟩, by decide +kernel, by decide +kernel⟩
theorem mv_X9_isPlace : g_MV yX9_isPlace := ⟨g_in6 (List.mem_of_getElem? (i := 205) rfl) rfl, g_sels (g_psg7 _ (List.mem_of_getElem? (i := 7) rfl))⟩
theorem mc_X9_isSign : g_MC yX9_isSign cX9_isSign 2 (some .boolean) 1 := ⟨g_in6 (List.mem_of_getElem? (i := 158) rfl) rfl, g_in1 (List.mem_of_getElem? (i := 12) rfl) rfl, ⟨by decide +kernel, by decide +kernel⟩, by decide +kernel, by decide +kernel⟩
theorem mv_X9_isSign : g_MV yX9_isSign := ⟨g_in6 (List.mem_of_getElem? (i := 157) rfl) rfl, g_sels (g_psg6 _ (List.mem_of_getElem? (i := 13) rfl))⟩
theorem mc_X9_isWay : g_MC yX9_isWay cX9_isWay 3 (some .boolean) 2 := ⟨g_in6 (List.mem_of_getElem? (i := 210) rfl) rfl, g_in1 (List.mem_of_getElem? (i := 12) rfl) rfl, ⟨by decide +kernel, by decide +kernel⟩, by decide +kernel, by decide +kernel⟩
theorem mv_X9_isWay : g_MV yX9_isWay := ⟨g_in6 (List.mem_of_getElem? (i := 209) rfl) rfl, g_sels (g_psg7 _ (List.mem_of_getElem? (i := 8) rfl))⟩
theorem mc_X9_isWord : g_MC yX9_isWord cX9_isWord 3 (some .boolean) 1 := ⟨g_in6 (List.mem_of_getElem? (i := 114) rfl) rfl, g_in1 (List.mem_of_getElem? (i := 12) rfl) rfl, ⟨by decide +kernel, by decide +kernel⟩, by decide +kernel, by decide +kernel⟩
theorem mv_X9_isWord : g_MV yX9_isWord := ⟨g_in6 (List.mem_of_getElem? (i := 113) rfl) rfl, g_sels (g_psg6 _ (List.mem_of_getElem? (i := 4) rfl))⟩
theorem mc_X9_keeps : g_MC yX9_keeps cX9_keeps 4 (some .int) 3 := ⟨g_in8 (List.mem_of_getElem? (i := 25) rfl) rfl, g_in1 (List.mem_of_getElem? (i := 12) rfl) rfl, ⟨by decide +kernel, by decide +kernel⟩, by decide +kernel, by decide +kernel⟩
theorem mv_X9_keeps : g_MV yX9_keeps := ⟨g_in8 (List.mem_of_getElem? (i := 24) rfl) rfl, g_sels (g_psg10 _ (List.mem_of_getElem? (i := 0) rfl))⟩
theorem mc_X9_land : g_MC yX9_land cX9_land 4 (some .int) 0 := ⟨g_in6 (List.mem_of_getElem? (i := 91) rfl) rfl, g_in1 (List.mem_of_getElem? (i := 12) rfl) rfl, ⟨by decide +kernel, by decide +kernel⟩, by decide +kernel, by decide +kernel⟩
theorem mv_X9_land : g_MV yX9_land := ⟨g_in6 (List.mem_of_getElem? (i := 89) rfl) rfl, g_in6 (List.mem_of_getElem? (i := 90) rfl) rfl⟩
theorem mc_X9_lawful : g_MC yX9_lawful cX9_lawful 4 (some .int) 3 := ⟨g_in7 (List.mem_of_getElem? (i := 74) rfl) rfl, g_in1 (List.mem_of_getElem? (i := 12) rfl) rfl, ⟨by decide +kernel, by decide +kernel⟩, by decide +kernel, by decide +kernel⟩
theorem mv_X9_lawful : g_MV yX9_lawful := ⟨g_in7 (List.mem_of_getElem? (i := 72) rfl) rfl, g_in7 (List.mem_of_getElem? (i := 73) rfl) rfl⟩
theorem mc_X9_laysOut : g_MC yX9_laysOut cX9_laysOut 5 (none : Option Jvm.ClassFile.FieldType) 1 := ⟨g_in7 (List.mem_of_getElem? (i := 110) rfl) rfl, g_in1 (List.mem_of_getElem? (i := 12) rfl) rfl, ⟨by decide +kernel, by decide +kernel⟩, by decide +kernel, by decide +kernel⟩
theorem mv_X9_laysOut : g_MV yX9_laysOut := ⟨g_in7 (List.mem_of_getElem? (i := 109) rfl) rfl, g_sels (g_psg8 _ (List.mem_of_getElem? (i := 14) rfl))⟩
theorem mc_X9_length : g_MC yX9_length cX9_length 4 (some .int) 1 := ⟨g_in7 (List.mem_of_getElem? (i := 161) rfl) rfl, g_in1 (List.mem_of_getElem? (i := 12) rfl) rfl, ⟨by decide +kernel, by decide +kernel⟩, by decide +kernel, by decide +kernel⟩
theorem mv_X9_length : g_MV yX9_length := ⟨g_in7 (List.mem_of_getElem? (i := 159) rfl) rfl, g_in7 (List.mem_of_getElem? (i := 160) rfl) rfl⟩
theorem mc_X9_lengthens : g_MC yX9_lengthens cX9_lengthens 10 (none : Option Jvm.ClassFile.FieldType) 2 := ⟨g_in7 (List.mem_of_getElem? (i := 130) rfl) rfl, g_in1 (List.mem_of_getElem? (i := 12) rfl) rfl, ⟨by decide +kernel, by decide +kernel⟩, by decide +kernel, by decide +kernel⟩
theorem mv_X9_lengthens : g_MV yX9_lengthens := ⟨g_in7 (List.mem_of_getElem? (i := 129) rfl) rfl, g_sels (g_psg9 _ (List.mem_of_getElem? (i := 3) rfl))⟩
theorem mc_X9_lie : g_MC yX9_lie cX9_lie 11 (some .int) 6 := ⟨g_in7 (List.mem_of_getElem? (i := 233) rfl) rfl, g_in1 (List.mem_of_getElem? (i := 12) rfl) rfl, ⟨by decide +kernel, by decide +kernel⟩, by decide +kernel, by decide +kernel⟩
theorem mv_X9_lie : g_MV yX9_lie := ⟨g_in7 (List.mem_of_getElem? (i := 231) rfl) rfl, g_in7 (List.mem_of_getElem? (i := 232) rfl) rfl⟩
theorem mc_X9_lift : g_MC yX9_lift cX9_lift 5 (some .int) 1 := ⟨g_in7 (List.mem_of_getElem? (i := 229) rfl) rfl, g_in1 (List.mem_of_getElem? (i := 12) rfl) rfl, ⟨by decide +kernel, by decide +kernel⟩, by decide +kernel, by decide +kernel⟩
theorem mv_X9_lift : g_MV yX9_lift := ⟨g_in7 (List.mem_of_getElem? (i := 227) rfl) rfl, g_in7 (List.mem_of_getElem? (i := 228) rfl) rfl⟩
theorem mc_X9_lifted : g_MC yX9_lifted cX9_lifted 3 (some .boolean) 2 := ⟨g_in7 (List.mem_of_getElem? (i := 225) rfl) rfl, g_in1 (List.mem_of_getElem? (i := 12) rfl) rfl, ⟨by decide +kernel, by decide +kernel⟩, by decide +kernel, by decide +kernel⟩
theorem mv_X9_lifted : g_MV yX9_lifted := ⟨g_in7 (List.mem_of_getElem? (i := 223) rfl) rfl, g_in7 (List.mem_of_getElem? (i := 224) rfl) rfl⟩
theorem mc_X9_live : g_MC yX9_live cX9_live 6 (some .int) 2 := ⟨g_in7 (List.mem_of_getElem? (i := 165) rfl) rfl, g_in1 (List.mem_of_getElem? (i := 12) rfl) rfl, ⟨by decide +kernel, by decide +kernel⟩, by decide +kernel, by decide +kernel⟩
theorem mv_X9_live : g_MV yX9_live := ⟨g_in7 (List.mem_of_getElem? (i := 163) rfl) rfl, g_in7 (List.mem_of_getElem? (i := 164) rfl) rfl⟩
theorem mc_X9_livesOut : g_MC yX9_livesOut cX9_livesOut 7 (some .boolean) 1 := ⟨g_in7 (List.mem_of_getElem? (i := 173) rfl) rfl, g_in1 (List.mem_of_getElem? (i := 12) rfl) rfl, ⟨by decide +kernel, by decide +kernel⟩, by decide +kernel, by decide +kernel⟩
theorem mv_X9_livesOut : g_MV yX9_livesOut := ⟨g_in7 (List.mem_of_getElem? (i := 172) rfl) rfl, g_sels (g_psg9 _ (List.mem_of_getElem? (i := 9) rfl))⟩
theorem mc_X9_lowest : g_MC yX9_lowest cX9_lowest 11 (some .long) 3 := ⟨g_in7 (List.mem_of_getElem? (i := 237) rfl) rfl, g_in1 (List.mem_of_getElem? (i := 12) rfl) rfl, ⟨by decide +kernel, by decide +kernel⟩, by decide +kernel, by decide +kernel⟩
theorem ms_X9_lowest : Cond.static yX9_lowest ∈ g_gw := g_in7 (List.mem_of_getElem? (i := 236) rfl) rfl
theorem mc_X9_make : g_MC yX9_make cX9_make 7 (some .int) 4 := ⟨g_in7 (List.mem_of_getElem? (i := 21) rfl) rfl, g_in1 (List.mem_of_getElem? (i := 12) rfl) rfl, ⟨by decide +kernel, by decide +kernel⟩, by decide +kernel, by decide +kernel⟩
theorem mv_X9_make : g_MV yX9_make := ⟨g_in7 (List.mem_of_getElem? (i := 19) rfl) rfl, g_in7 (List.mem_of_getElem? (i := 20) rfl) rfl⟩
theorem mc_X9_makersOf : g_MC yX9_makersOf cX9_makersOf 4 (some .int) 1 := ⟨g_in6 (List.mem_of_getElem? (i := 222) rfl) rfl, g_in1 (List.mem_of_getElem? (i := 12) rfl) rfl, ⟨by decide +kernel, by decide +kernel⟩, by decide +kernel, by decide +kernel⟩
theorem mv_X9_makersOf : g_MV yX9_makersOf := ⟨g_in6 (List.mem_of_getElem? (i := 221) rfl) rfl, g_sels (g_psg7 _ (List.mem_of_getElem? (i := 10) rfl))⟩
theorem mc_X9_mark : g_MC yX9_mark cX9_mark 5 (some .boolean) 2 := ⟨g_in8 (List.mem_of_getElem? (i := 21) rfl) rfl, g_in1 (List.mem_of_getElem? (i := 12) rfl) rfl, ⟨by decide +kernel, by decide +kernel⟩, by decide +kernel, by decide +kernel⟩
theorem mv_X9_mark : g_MV yX9_mark := ⟨g_in8 (List.mem_of_getElem? (i := 19) rfl) rfl, g_in8 (List.mem_of_getElem? (i := 20) rfl) rfl⟩
theorem mc_X9_more : g_MC yX9_more cX9_more 4 (some .int) 3 := ⟨g_in7 (List.mem_of_getElem? (i := 94) rfl) rfl, g_in1 (List.mem_of_getElem? (i := 12) rfl) rfl, ⟨by decide +kernel, by decide +kernel⟩, by decide +kernel, by decide +kernel⟩
theorem mv_X9_more : g_MV yX9_more := ⟨g_in7 (List.mem_of_getElem? (i := 93) rfl) rfl, g_sels (g_psg8 _ (List.mem_of_getElem? (i := 11) rfl))⟩
theorem mc_X9_most : g_MC yX9_most cX9_most 3 (some .int) 2 := ⟨g_in7 (List.mem_of_getElem? (i := 138) rfl) rfl, g_in1 (List.mem_of_getElem? (i := 12) rfl) rfl, ⟨by decide +kernel, by decide +kernel⟩, by decide +kernel, by decide +kernel⟩
theorem mv_X9_most : g_MV yX9_most := ⟨g_in7 (List.mem_of_getElem? (i := 136) rfl) rfl, g_in7 (List.mem_of_getElem? (i := 137) rfl) rfl⟩
theorem mc_X9_mosts : g_MC yX9_mosts cX9_mosts 8 (none : Option Jvm.ClassFile.FieldType) 0 := ⟨g_in7 (List.mem_of_getElem? (i := 146) rfl) rfl, g_in1 (List.mem_of_getElem? (i := 12) rfl) rfl, ⟨by decide +kernel, by decide +kernel⟩, by decide +kernel, by decide +kernel⟩
theorem mv_X9_mosts : g_MV yX9_mosts := ⟨g_in7 (List.mem_of_getElem? (i := 145) rfl) rfl, g_sels (g_psg9 _ (List.mem_of_getElem? (i := 6) rfl))⟩
theorem mc_X9_needsGood : g_MC yX9_needsGood cX9_needsGood 1 (some .boolean) 0 := ⟨g_in6 (List.mem_of_getElem? (i := 189) rfl) rfl, g_in1 (List.mem_of_getElem? (i := 12) rfl) rfl, ⟨by decide +kernel, by decide +kernel⟩, by decide +kernel, by decide +kernel⟩
theorem mv_X9_needsGood : g_MV yX9_needsGood := ⟨g_in6 (List.mem_of_getElem? (i := 188) rfl) rfl, g_sels (g_psg7 _ (List.mem_of_getElem? (i := 4) rfl))⟩
theorem mc_X9_needsNew : g_MC yX9_needsNew cX9_needsNew 1 (some .boolean) 0 := ⟨g_in6 (List.mem_of_getElem? (i := 126) rfl) rfl, g_in1 (List.mem_of_getElem? (i := 12) rfl) rfl, ⟨by decide +kernel, by decide +kernel⟩, by decide +kernel, by decide +kernel⟩
theorem mv_X9_needsNew : g_MV yX9_needsNew := ⟨g_in6 (List.mem_of_getElem? (i := 125) rfl) rfl, g_sels (g_psg6 _ (List.mem_of_getElem? (i := 7) rfl))⟩
theorem mc_X9_needsNumber : g_MC yX9_needsNumber cX9_needsNumber 3 (some .boolean) 2 := ⟨g_in6 (List.mem_of_getElem? (i := 170) rfl) rfl, g_in1 (List.mem_of_getElem? (i := 12) rfl) rfl, ⟨by decide +kernel, by decide +kernel⟩, by decide +kernel, by decide +kernel⟩
theorem mv_X9_needsNumber : g_MV yX9_needsNumber := ⟨g_in6 (List.mem_of_getElem? (i := 169) rfl) rfl, g_sels (g_psg7 _ (List.mem_of_getElem? (i := 0) rfl))⟩
theorem mc_X9_needsPlace : g_MC yX9_needsPlace cX9_needsPlace 1 (some .boolean) 0 := ⟨g_in6 (List.mem_of_getElem? (i := 166) rfl) rfl, g_in1 (List.mem_of_getElem? (i := 12) rfl) rfl, ⟨by decide +kernel, by decide +kernel⟩, by decide +kernel, by decide +kernel⟩
theorem mv_X9_needsPlace : g_MV yX9_needsPlace := ⟨g_in6 (List.mem_of_getElem? (i := 165) rfl) rfl, g_sels (g_psg6 _ (List.mem_of_getElem? (i := 15) rfl))⟩
theorem mc_X9_needsWord : g_MC yX9_needsWord cX9_needsWord 3 (some .boolean) 1 := ⟨g_in6 (List.mem_of_getElem? (i := 181) rfl) rfl, g_in1 (List.mem_of_getElem? (i := 12) rfl) rfl, ⟨by decide +kernel, by decide +kernel⟩, by decide +kernel, by decide +kernel⟩
theorem mv_X9_needsWord : g_MV yX9_needsWord := ⟨g_in6 (List.mem_of_getElem? (i := 180) rfl) rfl, g_sels (g_psg7 _ (List.mem_of_getElem? (i := 2) rfl))⟩
theorem mc_X9_never : g_MC yX9_never cX9_never 2 (some .int) 1 := ⟨g_in7 (List.mem_of_getElem? (i := 189) rfl) rfl, g_in1 (List.mem_of_getElem? (i := 12) rfl) rfl, ⟨by decide +kernel, by decide +kernel⟩, by decide +kernel, by decide +kernel⟩
theorem mv_X9_never : g_MV yX9_never := ⟨g_in7 (List.mem_of_getElem? (i := 187) rfl) rfl, g_in7 (List.mem_of_getElem? (i := 188) rfl) rfl⟩
theorem mc_X9_neverBy : g_MC yX9_neverBy cX9_neverBy 5 (some .int) 1 := ⟨g_in7 (List.mem_of_getElem? (i := 193) rfl) rfl, g_in1 (List.mem_of_getElem? (i := 12) rfl) rfl, ⟨by decide +kernel, by decide +kernel⟩, by decide +kernel, by decide +kernel⟩
theorem mv_X9_neverBy : g_MV yX9_neverBy := ⟨g_in7 (List.mem_of_getElem? (i := 192) rfl) rfl, g_sels (g_psg9 _ (List.mem_of_getElem? (i := 11) rfl))⟩
theorem mc_X9_nextToken : g_MC yX9_nextToken cX9_nextToken 2 (none : Option Jvm.ClassFile.FieldType) 0 := ⟨g_in6 (List.mem_of_getElem? (i := 99) rfl) rfl, g_in1 (List.mem_of_getElem? (i := 12) rfl) rfl, ⟨by decide +kernel, by decide +kernel⟩, by decide +kernel, by decide +kernel⟩
theorem mv_X9_nextToken : g_MV yX9_nextToken := ⟨g_in6 (List.mem_of_getElem? (i := 98) rfl) rfl, g_sels (g_psg6 _ (List.mem_of_getElem? (i := 1) rfl))⟩
theorem mc_X9_opens : g_MC yX9_opens cX9_opens 2 (none : Option Jvm.ClassFile.FieldType) 1 := ⟨g_in7 (List.mem_of_getElem? (i := 58) rfl) rfl, g_in1 (List.mem_of_getElem? (i := 12) rfl) rfl, ⟨by decide +kernel, by decide +kernel⟩, by decide +kernel, by decide +kernel⟩
theorem mv_X9_opens : g_MV yX9_opens := ⟨g_in7 (List.mem_of_getElem? (i := 57) rfl) rfl, g_sels (g_psg8 _ (List.mem_of_getElem? (i := 5) rfl))⟩
theorem mc_X9_person : g_MC yX9_person cX9_person 3 (some .int) 2 := ⟨g_in7 (List.mem_of_getElem? (i := 82) rfl) rfl, g_in1 (List.mem_of_getElem? (i := 12) rfl) rfl, ⟨by decide +kernel, by decide +kernel⟩, by decide +kernel, by decide +kernel⟩
theorem mv_X9_person : g_MV yX9_person := ⟨g_in7 (List.mem_of_getElem? (i := 80) rfl) rfl, g_in7 (List.mem_of_getElem? (i := 81) rfl) rfl⟩
theorem mc_X9_placeOf : g_MC yX9_placeOf cX9_placeOf 2 (some .int) 0 := ⟨g_in6 (List.mem_of_getElem? (i := 146) rfl) rfl, g_in1 (List.mem_of_getElem? (i := 12) rfl) rfl, ⟨by decide +kernel, by decide +kernel⟩, by decide +kernel, by decide +kernel⟩
theorem mv_X9_placeOf : g_MV yX9_placeOf := ⟨g_in6 (List.mem_of_getElem? (i := 145) rfl) rfl, g_sels (g_psg6 _ (List.mem_of_getElem? (i := 10) rfl))⟩
theorem mc_X9_puts : g_MC yX9_puts cX9_puts 2 (none : Option Jvm.ClassFile.FieldType) 1 := ⟨g_in7 (List.mem_of_getElem? (i := 15) rfl) rfl, g_in1 (List.mem_of_getElem? (i := 12) rfl) rfl, ⟨by decide +kernel, by decide +kernel⟩, by decide +kernel, by decide +kernel⟩
theorem mv_X9_puts : g_MV yX9_puts := ⟨g_in7 (List.mem_of_getElem? (i := 14) rfl) rfl, g_sels (g_psg7 _ (List.mem_of_getElem? (i := 14) rfl))⟩
theorem mc_X9_reads : g_MC yX9_reads cX9_reads 6 (some .boolean) 0 := ⟨g_in7 (List.mem_of_getElem? (i := 0) rfl) rfl, g_in1 (List.mem_of_getElem? (i := 12) rfl) rfl, ⟨by decide +kernel, by decide +kernel⟩, by decide +kernel, by decide +kernel⟩
theorem mv_X9_reads : g_MV yX9_reads := ⟨g_in6 (List.mem_of_getElem? (i := 239) rfl) rfl, g_sels (g_psg7 _ (List.mem_of_getElem? (i := 12) rfl))⟩
theorem mc_X9_readsGood : g_MC yX9_readsGood cX9_readsGood 5 (some .boolean) 0 := ⟨g_in6 (List.mem_of_getElem? (i := 177) rfl) rfl, g_in1 (List.mem_of_getElem? (i := 12) rfl) rfl, ⟨by decide +kernel, by decide +kernel⟩, by decide +kernel, by decide +kernel⟩
theorem mv_X9_readsGood : g_MV yX9_readsGood := ⟨g_in6 (List.mem_of_getElem? (i := 176) rfl) rfl, g_sels (g_psg7 _ (List.mem_of_getElem? (i := 1) rfl))⟩
theorem mc_X9_readsGoods : g_MC yX9_readsGoods cX9_readsGoods 3 (some .int) 0 := ⟨g_in6 (List.mem_of_getElem? (i := 185) rfl) rfl, g_in1 (List.mem_of_getElem? (i := 12) rfl) rfl, ⟨by decide +kernel, by decide +kernel⟩, by decide +kernel, by decide +kernel⟩
theorem mv_X9_readsGoods : g_MV yX9_readsGoods := ⟨g_in6 (List.mem_of_getElem? (i := 184) rfl) rfl, g_sels (g_psg7 _ (List.mem_of_getElem? (i := 3) rfl))⟩
theorem mc_X9_readsLand : g_MC yX9_readsLand cX9_readsLand 2 (some .boolean) 0 := ⟨g_in6 (List.mem_of_getElem? (i := 109) rfl) rfl, g_in1 (List.mem_of_getElem? (i := 12) rfl) rfl, ⟨by decide +kernel, by decide +kernel⟩, by decide +kernel, by decide +kernel⟩
theorem mv_X9_readsLand : g_MV yX9_readsLand := ⟨g_in6 (List.mem_of_getElem? (i := 108) rfl) rfl, g_sels (g_psg6 _ (List.mem_of_getElem? (i := 3) rfl))⟩
theorem mc_X9_readsPerson : g_MC yX9_readsPerson cX9_readsPerson 5 (some .boolean) 0 := ⟨g_in6 (List.mem_of_getElem? (i := 193) rfl) rfl, g_in1 (List.mem_of_getElem? (i := 12) rfl) rfl, ⟨by decide +kernel, by decide +kernel⟩, by decide +kernel, by decide +kernel⟩
theorem mv_X9_readsPerson : g_MV yX9_readsPerson := ⟨g_in6 (List.mem_of_getElem? (i := 192) rfl) rfl, g_sels (g_psg7 _ (List.mem_of_getElem? (i := 5) rfl))⟩
theorem mc_X9_readsPlace : g_MC yX9_readsPlace cX9_readsPlace 1 (some .boolean) 0 := ⟨g_in6 (List.mem_of_getElem? (i := 118) rfl) rfl, g_in1 (List.mem_of_getElem? (i := 12) rfl) rfl, ⟨by decide +kernel, by decide +kernel⟩, by decide +kernel, by decide +kernel⟩
theorem mv_X9_readsPlace : g_MV yX9_readsPlace := ⟨g_in6 (List.mem_of_getElem? (i := 117) rfl) rfl, g_sels (g_psg6 _ (List.mem_of_getElem? (i := 5) rfl))⟩
theorem mc_X9_readsWants : g_MC yX9_readsWants cX9_readsWants 6 (some .boolean) 1 := ⟨g_in6 (List.mem_of_getElem? (i := 197) rfl) rfl, g_in1 (List.mem_of_getElem? (i := 12) rfl) rfl, ⟨by decide +kernel, by decide +kernel⟩, by decide +kernel, by decide +kernel⟩
theorem mv_X9_readsWants : g_MV yX9_readsWants := ⟨g_in6 (List.mem_of_getElem? (i := 196) rfl) rfl, g_sels (g_psg7 _ (List.mem_of_getElem? (i := 6) rfl))⟩
theorem mc_X9_readsWay : g_MC yX9_readsWay cX9_readsWay 3 (some .boolean) 0 := ⟨g_in6 (List.mem_of_getElem? (i := 162) rfl) rfl, g_in1 (List.mem_of_getElem? (i := 12) rfl) rfl, ⟨by decide +kernel, by decide +kernel⟩, by decide +kernel, by decide +kernel⟩
theorem mv_X9_readsWay : g_MV yX9_readsWay := ⟨g_in6 (List.mem_of_getElem? (i := 161) rfl) rfl, g_sels (g_psg6 _ (List.mem_of_getElem? (i := 14) rfl))⟩
theorem mc_X9_rings : g_MC yX9_rings cX9_rings 2 (none : Option Jvm.ClassFile.FieldType) 0 := ⟨g_in7 (List.mem_of_getElem? (i := 114) rfl) rfl, g_in1 (List.mem_of_getElem? (i := 12) rfl) rfl, ⟨by decide +kernel, by decide +kernel⟩, by decide +kernel, by decide +kernel⟩
theorem mv_X9_rings : g_MV yX9_rings := ⟨g_in7 (List.mem_of_getElem? (i := 113) rfl) rfl, g_sels (g_psg8 _ (List.mem_of_getElem? (i := 15) rfl))⟩
theorem mc_X9_round : g_MC yX9_round cX9_round 2 (some .int) 1 := ⟨g_in7 (List.mem_of_getElem? (i := 102) rfl) rfl, g_in1 (List.mem_of_getElem? (i := 12) rfl) rfl, ⟨by decide +kernel, by decide +kernel⟩, by decide +kernel, by decide +kernel⟩
theorem mv_X9_round : g_MV yX9_round := ⟨g_in7 (List.mem_of_getElem? (i := 100) rfl) rfl, g_in7 (List.mem_of_getElem? (i := 101) rfl) rfl⟩
theorem mc_X9_rule : g_MC yX9_rule cX9_rule 3 (some .int) 0 := ⟨g_in6 (List.mem_of_getElem? (i := 234) rfl) rfl, g_in1 (List.mem_of_getElem? (i := 12) rfl) rfl, ⟨by decide +kernel, by decide +kernel⟩, by decide +kernel, by decide +kernel⟩
theorem mv_X9_rule : g_MV yX9_rule := ⟨g_in6 (List.mem_of_getElem? (i := 232) rfl) rfl, g_in6 (List.mem_of_getElem? (i := 233) rfl) rfl⟩
theorem mc_X9_signAt : g_MC yX9_signAt cX9_signAt 2 (some .int) 1 := ⟨g_in6 (List.mem_of_getElem? (i := 103) rfl) rfl, g_in1 (List.mem_of_getElem? (i := 12) rfl) rfl, ⟨by decide +kernel, by decide +kernel⟩, by decide +kernel, by decide +kernel⟩
theorem mv_X9_signAt : g_MV yX9_signAt := ⟨g_in6 (List.mem_of_getElem? (i := 102) rfl) rfl, g_sels (g_psg6 _ (List.mem_of_getElem? (i := 2) rfl))⟩
theorem mc_X9_starts : g_MC yX9_starts cX9_starts 1 (none : Option Jvm.ClassFile.FieldType) 0 := ⟨g_in6 (List.mem_of_getElem? (i := 95) rfl) rfl, g_in1 (List.mem_of_getElem? (i := 12) rfl) rfl, ⟨by decide +kernel, by decide +kernel⟩, by decide +kernel, by decide +kernel⟩
theorem mv_X9_starts : g_MV yX9_starts := ⟨g_in6 (List.mem_of_getElem? (i := 94) rfl) rfl, g_sels (g_psg6 _ (List.mem_of_getElem? (i := 0) rfl))⟩
theorem mc_X9_sums : g_MC yX9_sums cX9_sums 2 (none : Option Jvm.ClassFile.FieldType) 1 := ⟨g_in7 (List.mem_of_getElem? (i := 62) rfl) rfl, g_in1 (List.mem_of_getElem? (i := 12) rfl) rfl, ⟨by decide +kernel, by decide +kernel⟩, by decide +kernel, by decide +kernel⟩
theorem mv_X9_sums : g_MV yX9_sums := ⟨g_in7 (List.mem_of_getElem? (i := 61) rfl) rfl, g_sels (g_psg8 _ (List.mem_of_getElem? (i := 6) rfl))⟩
theorem mc_X9_tests : g_MC yX9_tests cX9_tests 3 (none : Option Jvm.ClassFile.FieldType) 1 := ⟨g_in7 (List.mem_of_getElem? (i := 66) rfl) rfl, g_in1 (List.mem_of_getElem? (i := 12) rfl) rfl, ⟨by decide +kernel, by decide +kernel⟩, by decide +kernel, by decide +kernel⟩
theorem mv_X9_tests : g_MV yX9_tests := ⟨g_in7 (List.mem_of_getElem? (i := 65) rfl) rfl, g_sels (g_psg8 _ (List.mem_of_getElem? (i := 7) rfl))⟩
theorem mc_X9_thing : g_MC yX9_thing cX9_thing 3 (some .int) 2 := ⟨g_in7 (List.mem_of_getElem? (i := 70) rfl) rfl, g_in1 (List.mem_of_getElem? (i := 12) rfl) rfl, ⟨by decide +kernel, by decide +kernel⟩, by decide +kernel, by decide +kernel⟩
theorem mv_X9_thing : g_MV yX9_thing := ⟨g_in7 (List.mem_of_getElem? (i := 68) rfl) rfl, g_in7 (List.mem_of_getElem? (i := 69) rfl) rfl⟩
theorem mc_X9_thrown : g_MC yX9_thrown cX9_thrown 1 (some .int) 0 := ⟨g_in6 (List.mem_of_getElem? (i := 82) rfl) rfl, g_in1 (List.mem_of_getElem? (i := 12) rfl) rfl, ⟨by decide +kernel, by decide +kernel⟩, by decide +kernel, by decide +kernel⟩
theorem mv_X9_thrown : g_MV yX9_thrown := ⟨g_in6 (List.mem_of_getElem? (i := 80) rfl) rfl, g_in6 (List.mem_of_getElem? (i := 81) rfl) rfl⟩
theorem mc_X9_visited : g_MC yX9_visited cX9_visited 6 (some .int) 0 := ⟨g_in8 (List.mem_of_getElem? (i := 17) rfl) rfl, g_in1 (List.mem_of_getElem? (i := 12) rfl) rfl, ⟨by decide +kernel, by decide +kernel⟩, by decide +kernel, by decide +kernel⟩
theorem mv_X9_visited : g_MV yX9_visited := ⟨g_in8 (List.mem_of_getElem? (i := 15) rfl) rfl, g_in8 (List.mem_of_getElem? (i := 16) rfl) rfl⟩
theorem mc_X9_way : g_MC yX9_way cX9_way 3 (some .int) 2 := ⟨g_in6 (List.mem_of_getElem? (i := 202) rfl) rfl, g_in1 (List.mem_of_getElem? (i := 12) rfl) rfl, ⟨by decide +kernel, by decide +kernel⟩, by decide +kernel, by decide +kernel⟩
theorem mv_X9_way : g_MV yX9_way := ⟨g_in6 (List.mem_of_getElem? (i := 200) rfl) rfl, g_in6 (List.mem_of_getElem? (i := 201) rfl) rfl⟩
theorem mc_X9_week : g_MC yX9_week cX9_week 5 (none : Option Jvm.ClassFile.FieldType) 0 := ⟨g_in8 (List.mem_of_getElem? (i := 5) rfl) rfl, g_in1 (List.mem_of_getElem? (i := 12) rfl) rfl, ⟨by decide +kernel, by decide +kernel⟩, by decide +kernel, by decide +kernel⟩
theorem mv_X9_week : g_MV yX9_week := ⟨g_in8 (List.mem_of_getElem? (i := 4) rfl) rfl, g_sels (g_psg9 _ (List.mem_of_getElem? (i := 14) rfl))⟩
theorem mc_X9_whyNotMake : g_MC yX9_whyNotMake cX9_whyNotMake 7 (some .int) 4 := ⟨g_in7 (List.mem_of_getElem? (i := 25) rfl) rfl, g_in1 (List.mem_of_getElem? (i := 12) rfl) rfl, ⟨by decide +kernel, by decide +kernel⟩, by decide +kernel, by decide +kernel⟩
theorem mv_X9_whyNotMake : g_MV yX9_whyNotMake := ⟨g_in7 (List.mem_of_getElem? (i := 24) rfl) rfl, g_sels (g_psg7 _ (List.mem_of_getElem? (i := 15) rfl))⟩
theorem mc_X9_within : g_MC yX9_within cX9_within 3 (some .boolean) 3 := ⟨g_in6 (List.mem_of_getElem? (i := 173) rfl) rfl, g_in1 (List.mem_of_getElem? (i := 12) rfl) rfl, ⟨by decide +kernel, by decide +kernel⟩, by decide +kernel, by decide +kernel⟩
theorem ms_X9_within : Cond.static yX9_within ∈ g_gw := g_in6 (List.mem_of_getElem? (i := 172) rfl) rfl
theorem mc_X9_worked : g_MC yX9_worked cX9_worked 6 (some .int) 1 := ⟨g_in7 (List.mem_of_getElem? (i := 54) rfl) rfl, g_in1 (List.mem_of_getElem? (i := 12) rfl) rfl, ⟨by decide +kernel, by decide +kernel⟩, by decide +kernel, by decide +kernel⟩
theorem mv_X9_worked : g_MV yX9_worked := ⟨g_in7 (List.mem_of_getElem? (i := 53) rfl) rfl, g_sels (g_psg8 _ (List.mem_of_getElem? (i := 4) rfl))⟩
theorem mc_X9_works : g_MC yX9_works cX9_works 2 (none : Option Jvm.ClassFile.FieldType) 1 := ⟨g_in7 (List.mem_of_getElem? (i := 142) rfl) rfl, g_in1 (List.mem_of_getElem? (i := 12) rfl) rfl, ⟨by decide +kernel, by decide +kernel⟩, by decide +kernel, by decide +kernel⟩
theorem mv_X9_works : g_MV yX9_works := ⟨g_in7 (List.mem_of_getElem? (i := 141) rfl) rfl, g_sels (g_psg9 _ (List.mem_of_getElem? (i := 5) rfl))⟩
theorem mc_X9_worth : g_MC yX9_worth cX9_worth 4 (some .int) 3 := ⟨g_in6 (List.mem_of_getElem? (i := 226) rfl) rfl, g_in1 (List.mem_of_getElem? (i := 12) rfl) rfl, ⟨by decide +kernel, by decide +kernel⟩, by decide +kernel, by decide +kernel⟩
theorem mv_X9_worth : g_MV yX9_worth := ⟨g_in6 (List.mem_of_getElem? (i := 224) rfl) rfl, g_in6 (List.mem_of_getElem? (i := 225) rfl) rfl⟩
theorem mc_X9_years : g_MC yX9_years cX9_years 7 (some .int) 3 := ⟨g_in8 (List.mem_of_getElem? (i := 1) rfl) rfl, g_in1 (List.mem_of_getElem? (i := 12) rfl) rfl, ⟨by decide +kernel, by decide +kernel⟩, by decide +kernel, by decide +kernel⟩
theorem mv_X9_years : g_MV yX9_years := ⟨g_in7 (List.mem_of_getElem? (i := 239) rfl) rfl, g_in8 (List.mem_of_getElem? (i := 0) rfl) rfl⟩
theorem mc_J6_bitCount_0f7a4 : g_MC yJ6_bitCount_0f7a4 cJ6_bitCount_0f7a4 1 (some .int) 1 := ⟨g_in4 (List.mem_of_getElem? (i := 74) rfl) rfl, g_in1 (List.mem_of_getElem? (i := 22) rfl) rfl, ⟨by decide +kernel, by decide +kernel⟩, by decide +kernel, by decide +kernel⟩
theorem ms_J6_bitCount_0f7a4 : Cond.static yJ6_bitCount_0f7a4 ∈ g_gw := g_in4 (List.mem_of_getElem? (i := 73) rfl) rfl
theorem mc_J6_numberOfTrailingZeros_0f7a4 : g_MC yJ6_numberOfTrailingZeros_0f7a4 cJ6_numberOfTrailingZeros_0f7a4 2 (some .int) 1 := ⟨g_in4 (List.mem_of_getElem? (i := 235) rfl) rfl, g_in1 (List.mem_of_getElem? (i := 22) rfl) rfl, ⟨by decide +kernel, by decide +kernel⟩, by decide +kernel, by decide +kernel⟩
theorem ms_J6_numberOfTrailingZeros_0f7a4 : Cond.static yJ6_numberOfTrailingZeros_0f7a4 ∈ g_gw := g_in4 (List.mem_of_getElem? (i := 234) rfl) rfl
theorem mc_J0_charAt_5068e : g_MC yJ0_charAt_5068e cJ0_charAt_5068e 2 (some .char) 1 := ⟨g_in1 (List.mem_of_getElem? (i := 52) rfl) rfl, g_in1 (List.mem_of_getElem? (i := 3) rfl) rfl, ⟨by decide +kernel, by decide +kernel⟩, by decide +kernel, by decide +kernel⟩
theorem mv_J0_charAt_5068e : g_MV yJ0_charAt_5068e := ⟨g_in1 (List.mem_of_getElem? (i := 50) rfl) rfl, g_in1 (List.mem_of_getElem? (i := 51) rfl) rfl⟩
theorem mc_J0_checkBoundsBeginEnd_23922 : g_MC yJ0_checkBoundsBeginEnd_23922 cJ0_checkBoundsBeginEnd_23922 3 (none : Option Jvm.ClassFile.FieldType) 3 := ⟨g_in2 (List.mem_of_getElem? (i := 233) rfl) rfl, g_in1 (List.mem_of_getElem? (i := 3) rfl) rfl, ⟨by decide +kernel, by decide +kernel⟩, by decide +kernel, by decide +kernel⟩
theorem ms_J0_checkBoundsBeginEnd_23922 : Cond.static yJ0_checkBoundsBeginEnd_23922 ∈ g_gw := g_in2 (List.mem_of_getElem? (i := 232) rfl) rfl
theorem mc_J0_checkIndex_df160 : g_MC yJ0_checkIndex_df160 cJ0_checkIndex_df160 2 (none : Option Jvm.ClassFile.FieldType) 2 := ⟨g_in1 (List.mem_of_getElem? (i := 62) rfl) rfl, g_in1 (List.mem_of_getElem? (i := 3) rfl) rfl, ⟨by decide +kernel, by decide +kernel⟩, by decide +kernel, by decide +kernel⟩
theorem ms_J0_checkIndex_df160 : Cond.static yJ0_checkIndex_df160 ∈ g_gw := g_in1 (List.mem_of_getElem? (i := 61) rfl) rfl
theorem mc_J0_coder_7d493 : g_MC yJ0_coder_7d493 cJ0_coder_7d493 1 (some .byte) 0 := ⟨g_in1 (List.mem_of_getElem? (i := 46) rfl) rfl, g_in1 (List.mem_of_getElem? (i := 3) rfl) rfl, ⟨by decide +kernel, by decide +kernel⟩, by decide +kernel, by decide +kernel⟩
theorem mv_J0_coder_7d493 : g_MV yJ0_coder_7d493 := ⟨g_in1 (List.mem_of_getElem? (i := 44) rfl) rfl, g_in1 (List.mem_of_getElem? (i := 45) rfl) rfl⟩
theorem mc_J0_indexOf_0f7a4 : g_MC yJ0_indexOf_0f7a4 cJ0_indexOf_0f7a4 2 (some .int) 1 := ⟨g_in2 (List.mem_of_getElem? (i := 198) rfl) rfl, g_in1 (List.mem_of_getElem? (i := 3) rfl) rfl, ⟨by decide +kernel, by decide +kernel⟩, by decide +kernel, by decide +kernel⟩
theorem mv_J0_indexOf_0f7a4 : g_MV yJ0_indexOf_0f7a4 := ⟨g_in2 (List.mem_of_getElem? (i := 196) rfl) rfl, g_in2 (List.mem_of_getElem? (i := 197) rfl) rfl⟩
theorem mc_J0_indexOf_7cf53 : g_MC yJ0_indexOf_7cf53 cJ0_indexOf_7cf53 3 (some .int) 2 := ⟨g_in2 (List.mem_of_getElem? (i := 202) rfl) rfl, g_in1 (List.mem_of_getElem? (i := 3) rfl) rfl, ⟨by decide +kernel, by decide +kernel⟩, by decide +kernel, by decide +kernel⟩
theorem mv_J0_indexOf_7cf53 : g_MV yJ0_indexOf_7cf53 := ⟨g_in2 (List.mem_of_getElem? (i := 200) rfl) rfl, g_in2 (List.mem_of_getElem? (i := 201) rfl) rfl⟩
theorem mc_J0_isLatin1_aae02 : g_MC yJ0_isLatin1_aae02 cJ0_isLatin1_aae02 1 (some .boolean) 0 := ⟨g_in1 (List.mem_of_getElem? (i := 56) rfl) rfl, g_in1 (List.mem_of_getElem? (i := 3) rfl) rfl, ⟨by decide +kernel, by decide +kernel⟩, by decide +kernel, by decide +kernel⟩
theorem mv_J0_isLatin1_aae02 : g_MV yJ0_isLatin1_aae02 := ⟨g_in1 (List.mem_of_getElem? (i := 54) rfl) rfl, g_in1 (List.mem_of_getElem? (i := 55) rfl) rfl⟩
theorem mc_J0_length_8abf5 : g_MC yJ0_length_8abf5 cJ0_length_8abf5 1 (some .int) 0 := ⟨g_in1 (List.mem_of_getElem? (i := 42) rfl) rfl, g_in1 (List.mem_of_getElem? (i := 3) rfl) rfl, ⟨by decide +kernel, by decide +kernel⟩, by decide +kernel, by decide +kernel⟩
theorem mv_J0_length_8abf5 : g_MV yJ0_length_8abf5 := ⟨g_in1 (List.mem_of_getElem? (i := 40) rfl) rfl, g_in1 (List.mem_of_getElem? (i := 41) rfl) rfl⟩
theorem mc_J1_canEncode_9a6ad : g_MC yJ1_canEncode_9a6ad cJ1_canEncode_9a6ad 1 (some .boolean) 1 := ⟨g_in2 (List.mem_of_getElem? (i := 209) rfl) rfl, g_in1 (List.mem_of_getElem? (i := 4) rfl) rfl, ⟨by decide +kernel, by decide +kernel⟩, by decide +kernel, by decide +kernel⟩
theorem ms_J1_canEncode_9a6ad : Cond.static yJ1_canEncode_9a6ad ∈ g_gw := g_in2 (List.mem_of_getElem? (i := 208) rfl) rfl
theorem mc_J1_charAt_3b067 : g_MC yJ1_charAt_3b067 cJ1_charAt_3b067 2 (some .char) 2 := ⟨g_in1 (List.mem_of_getElem? (i := 59) rfl) rfl, g_in1 (List.mem_of_getElem? (i := 4) rfl) rfl, ⟨by decide +kernel, by decide +kernel⟩, by decide +kernel, by decide +kernel⟩
theorem ms_J1_charAt_3b067 : Cond.static yJ1_charAt_3b067 ∈ g_gw := g_in1 (List.mem_of_getElem? (i := 58) rfl) rfl
theorem mc_J1_indexOf_4cfef : g_MC yJ1_indexOf_4cfef cJ1_indexOf_4cfef 4 (some .int) 4 := ⟨g_in2 (List.mem_of_getElem? (i := 206) rfl) rfl, g_in1 (List.mem_of_getElem? (i := 4) rfl) rfl, ⟨by decide +kernel, by decide +kernel⟩, by decide +kernel, by decide +kernel⟩
theorem ms_J1_indexOf_4cfef : Cond.static yJ1_indexOf_4cfef ∈ g_gw := g_in2 (List.mem_of_getElem? (i := 205) rfl) rfl
theorem mc_J1_indexOfChar_4cfef : g_MC yJ1_indexOfChar_4cfef cJ1_indexOfChar_4cfef 6 (some .int) 4 := ⟨g_in2 (List.mem_of_getElem? (i := 218) rfl) rfl, g_in1 (List.mem_of_getElem? (i := 4) rfl) rfl, ⟨by decide +kernel, by decide +kernel⟩, by decide +kernel, by decide +kernel⟩
theorem ms_J1_indexOfChar_4cfef : Cond.static yJ1_indexOfChar_4cfef ∈ g_gw := g_in2 (List.mem_of_getElem? (i := 217) rfl) rfl
theorem mc_J7_fill_53178 : g_MC yJ7_fill_53178 cJ7_fill_53178 4 (none : Option Jvm.ClassFile.FieldType) 2 := ⟨g_in2 (List.mem_of_getElem? (i := 164) rfl) rfl, g_in1 (List.mem_of_getElem? (i := 14) rfl) rfl, ⟨by decide +kernel, by decide +kernel⟩, by decide +kernel, by decide +kernel⟩
theorem ms_J7_fill_53178 : Cond.static yJ7_fill_53178 ∈ g_gw := g_in2 (List.mem_of_getElem? (i := 163) rfl) rfl
theorem mc_J3_checkFromToIndex_8c36e : g_MC yJ3_checkFromToIndex_8c36e cJ3_checkFromToIndex_8c36e 4 (some .int) 4 := ⟨g_in2 (List.mem_of_getElem? (i := 236) rfl) rfl, g_in1 (List.mem_of_getElem? (i := 5) rfl) rfl, ⟨by decide +kernel, by decide +kernel⟩, by decide +kernel, by decide +kernel⟩
theorem ms_J3_checkFromToIndex_8c36e : Cond.static yJ3_checkFromToIndex_8c36e ∈ g_gw := g_in2 (List.mem_of_getElem? (i := 235) rfl) rfl
theorem mc_J3_checkIndex_8e157 : g_MC yJ3_checkIndex_8e157 cJ3_checkIndex_8e157 3 (some .int) 3 := ⟨g_in1 (List.mem_of_getElem? (i := 67) rfl) rfl, g_in1 (List.mem_of_getElem? (i := 5) rfl) rfl, ⟨by decide +kernel, by decide +kernel⟩, by decide +kernel, by decide +kernel⟩
theorem ms_J3_checkIndex_8e157 : Cond.static yJ3_checkIndex_8e157 ∈ g_gw := g_in1 (List.mem_of_getElem? (i := 66) rfl) rfl
theorem kc_J6_264 : Cond.constant RJ6 264 65536 ∈ g_gw := g_in4 (List.mem_of_getElem? (i := 236) rfl) rfl
theorem kc_J6_265 : Cond.constant RJ6 265 1431655765 ∈ g_gw := g_in4 (List.mem_of_getElem? (i := 75) rfl) rfl
theorem kc_J6_266 : Cond.constant RJ6 266 858993459 ∈ g_gw := g_in4 (List.mem_of_getElem? (i := 76) rfl) rfl
theorem kc_J6_267 : Cond.constant RJ6 267 252645135 ∈ g_gw := g_in4 (List.mem_of_getElem? (i := 77) rfl) rfl
theorem kl_X8_383 : Cond.constantLong RX8 383 1103515245 ∈ g_gw := g_in4 (List.mem_of_getElem? (i := 226) rfl) rfl
theorem kl_X8_385 : Cond.constantLong RX8 385 12345 ∈ g_gw := g_in4 (List.mem_of_getElem? (i := 227) rfl) rfl
theorem kl_X8_387 : Cond.constantLong RX8 387 2147483648 ∈ g_gw := g_in4 (List.mem_of_getElem? (i := 228) rfl) rfl
theorem kl_X8_389 : Cond.constantLong RX8 389 65536 ∈ g_gw := g_in4 (List.mem_of_getElem? (i := 229) rfl) rfl
theorem kl_X6_90 : Cond.constantLong RX6 90 32 ∈ g_gw := g_in1 (List.mem_of_getElem? (i := 90) rfl) rfl
theorem kl_L_27 : Cond.constantLong RL 27 4294967295 ∈ g_gw := g_in8 (List.mem_of_getElem? (i := 30) rfl) rfl
theorem kl_X9_160 : Cond.constantLong RX9 160 255 ∈ g_gw := g_in6 (List.mem_of_getElem? (i := 87) rfl) rfl
theorem kl_X9_188 : Cond.constantLong RX9 188 27 ∈ g_gw := g_in6 (List.mem_of_getElem? (i := 104) rfl) rfl
theorem kl_X9_190 : Cond.constantLong RX9 190 96 ∈ g_gw := g_in6 (List.mem_of_getElem? (i := 105) rfl) rfl
theorem kl_X9_198 : Cond.constantLong RX9 198 8740067 ∈ g_gw := g_in6 (List.mem_of_getElem? (i := 110) rfl) rfl
theorem kl_X9_200 : Cond.constantLong RX9 200 16819 ∈ g_gw := g_in6 (List.mem_of_getElem? (i := 131) rfl) rfl
theorem kl_X9_202 : Cond.constantLong RX9 202 149125 ∈ g_gw := g_in6 (List.mem_of_getElem? (i := 132) rfl) rfl
theorem kl_X9_204 : Cond.constantLong RX9 204 4562587 ∈ g_gw := g_in6 (List.mem_of_getElem? (i := 133) rfl) rfl
theorem kl_X9_206 : Cond.constantLong RX9 206 131638 ∈ g_gw := g_in6 (List.mem_of_getElem? (i := 134) rfl) rfl
theorem kl_X9_208 : Cond.constantLong RX9 208 232608281 ∈ g_gw := g_in6 (List.mem_of_getElem? (i := 135) rfl) rfl
theorem kl_X9_210 : Cond.constantLong RX9 210 47 ∈ g_gw := g_in6 (List.mem_of_getElem? (i := 136) rfl) rfl
theorem kl_X9_212 : Cond.constantLong RX9 212 6936589 ∈ g_gw := g_in6 (List.mem_of_getElem? (i := 137) rfl) rfl
theorem kl_X9_214 : Cond.constantLong RX9 214 12253591 ∈ g_gw := g_in6 (List.mem_of_getElem? (i := 138) rfl) rfl
theorem kl_X9_315 : Cond.constantLong RX9 315 11570 ∈ g_gw := g_in7 (List.mem_of_getElem? (i := 5) rfl) rfl
theorem kl_X9_317 : Cond.constantLong RX9 317 316163 ∈ g_gw := g_in7 (List.mem_of_getElem? (i := 6) rfl) rfl
theorem kl_X9_319 : Cond.constantLong RX9 319 385418 ∈ g_gw := g_in7 (List.mem_of_getElem? (i := 7) rfl) rfl
theorem kl_X9_321 : Cond.constantLong RX9 321 90090 ∈ g_gw := g_in7 (List.mem_of_getElem? (i := 8) rfl) rfl
theorem kl_X9_323 : Cond.constantLong RX9 323 36502 ∈ g_gw := g_in7 (List.mem_of_getElem? (i := 9) rfl) rfl
theorem kl_X9_325 : Cond.constantLong RX9 325 131360 ∈ g_gw := g_in7 (List.mem_of_getElem? (i := 10) rfl) rfl
theorem kl_X9_330 : Cond.constantLong RX9 330 10631 ∈ g_gw := g_in7 (List.mem_of_getElem? (i := 11) rfl) rfl
theorem kl_X9_336 : Cond.constantLong RX9 336 1111 ∈ g_gw := g_in7 (List.mem_of_getElem? (i := 16) rfl) rfl
theorem kl_X9_338 : Cond.constantLong RX9 338 423 ∈ g_gw := g_in7 (List.mem_of_getElem? (i := 17) rfl) rfl
theorem kl_X9_340 : Cond.constantLong RX9 340 173175987 ∈ g_gw := g_in6 (List.mem_of_getElem? (i := 235) rfl) rfl
theorem kl_X9_342 : Cond.constantLong RX9 342 458690 ∈ g_gw := g_in6 (List.mem_of_getElem? (i := 236) rfl) rfl
theorem kl_X9_457 : Cond.constantLong RX9 457 10 ∈ g_gw := g_in7 (List.mem_of_getElem? (i := 234) rfl) rfl
theorem kl_X9_466 : Cond.constantLong RX9 466 1103515245 ∈ g_gw := g_in8 (List.mem_of_getElem? (i := 10) rfl) rfl
theorem kl_X9_468 : Cond.constantLong RX9 468 12345 ∈ g_gw := g_in8 (List.mem_of_getElem? (i := 11) rfl) rfl
theorem kl_X9_470 : Cond.constantLong RX9 470 2147483648 ∈ g_gw := g_in8 (List.mem_of_getElem? (i := 12) rfl) rfl
theorem kl_X9_472 : Cond.constantLong RX9 472 65536 ∈ g_gw := g_in8 (List.mem_of_getElem? (i := 13) rfl) rfl
theorem fs_J0_9 : Cond.fieldLink RJ0 9 "java/lang/String" "value" "[B" ∈ g_gw := g_in8 (List.mem_of_getElem? (i := 43) rfl) rfl
theorem fs_J0_15 : Cond.fieldLink RJ0 15 "java/lang/String" "coder" "B" ∈ g_gw := g_in8 (List.mem_of_getElem? (i := 44) rfl) rfl
theorem fs_J0_38 : Cond.fieldLink RJ0 38 "java/lang/String" "COMPACT_STRINGS" "Z" ∈ g_gw := g_in1 (List.mem_of_getElem? (i := 47) rfl) rfl
theorem fs_J0_1053 : Cond.fieldLink RJ0 1053 "jdk/internal/util/Preconditions" "SIOOBE_FORMATTER" "Ljava/util/function/BiFunction;" ∈ g_gw := g_in1 (List.mem_of_getElem? (i := 63) rfl) rfl
theorem mq_X6_31 : Cond.methodLink RX6 31 yJ0_length_8abf5 ∈ g_gw := g_in1 (List.mem_of_getElem? (i := 39) rfl) rfl
theorem mq_X6_37 : Cond.methodLink RX6 37 yJ0_charAt_5068e ∈ g_gw := g_in1 (List.mem_of_getElem? (i := 49) rfl) rfl
theorem mq_X6_83 : Cond.methodLink RX6 83 yJ0_indexOf_0f7a4 ∈ g_gw := g_in2 (List.mem_of_getElem? (i := 195) rfl) rfl
theorem mq_J0_335 : Cond.methodLink RJ0 335 yJ0_coder_7d493 ∈ g_gw := g_in1 (List.mem_of_getElem? (i := 43) rfl) rfl
theorem mq_J0_492 : Cond.methodLink RJ0 492 yJ0_isLatin1_aae02 ∈ g_gw := g_in1 (List.mem_of_getElem? (i := 53) rfl) rfl
theorem mq_J0_505 : Cond.methodLink RJ0 505 yJ0_length_8abf5 ∈ g_gw := g_in2 (List.mem_of_getElem? (i := 203) rfl) rfl
theorem mq_J0_633 : Cond.methodLink RJ0 633 yJ0_indexOf_7cf53 ∈ g_gw := g_in2 (List.mem_of_getElem? (i := 199) rfl) rfl
theorem mq_J1_9 : Cond.methodLink RJ1 9 yJ0_checkIndex_df160 ∈ g_gw := g_in1 (List.mem_of_getElem? (i := 60) rfl) rfl
theorem mq_J2_241 : Cond.methodLink RJ2 241 yJ0_checkBoundsBeginEnd_23922 ∈ g_gw := g_in2 (List.mem_of_getElem? (i := 231) rfl) rfl
theorem mq_J2_414 : Cond.methodLink RJ2 414 yJ0_checkIndex_df160 ∈ g_gw := g_in1 (List.mem_of_getElem? (i := 77) rfl) rfl
theorem g_mm : g_MM := ⟨g_in2 (List.mem_of_getElem? (i := 211) rfl) rfl, g_in1 (List.mem_of_getElem? (i := 15) rfl) rfl, g_in2 (List.mem_of_getElem? (i := 212) rfl) rfl, g_in2 (List.mem_of_getElem? (i := 214) rfl) rfl, g_in2 (List.mem_of_getElem? (i := 215) rfl) rfl⟩
theorem mh_X8_288 : Cond.methodLink RX8 288 Lib.Math.min.name ∈ g_gw := g_in4 (List.mem_of_getElem? (i := 183) rfl) rfl
theorem mh_X0_46 : Cond.methodLink RX0 46 Lib.Math.max.name ∈ g_gw := g_in4 (List.mem_of_getElem? (i := 124) rfl) rfl
theorem mh_X1_62 : Cond.methodLink RX1 62 Lib.Math.min.name ∈ g_gw := g_in3 (List.mem_of_getElem? (i := 73) rfl) rfl
theorem mh_X3_84 : Cond.methodLink RX3 84 Lib.Math.max.name ∈ g_gw := g_in4 (List.mem_of_getElem? (i := 71) rfl) rfl
theorem mh_X7_54 : Cond.methodLink RX7 54 Lib.Math.max.name ∈ g_gw := g_in3 (List.mem_of_getElem? (i := 182) rfl) rfl
theorem mh_X9_288 : Cond.methodLink RX9 288 Lib.Math.min.name ∈ g_gw := g_in6 (List.mem_of_getElem? (i := 198) rfl) rfl
theorem mh_X9_369 : Cond.methodLink RX9 369 Lib.Math.max.name ∈ g_gw := g_in7 (List.mem_of_getElem? (i := 26) rfl) rfl
theorem mh_J1_38 : Cond.methodLink RJ1 38 Lib.Math.min.name ∈ g_gw := g_in2 (List.mem_of_getElem? (i := 213) rfl) rfl
theorem mh_J1_92 : Cond.methodLink RJ1 92 Lib.Math.max.name ∈ g_gw := g_in2 (List.mem_of_getElem? (i := 210) rfl) rfl
theorem ic_m1 : Int32.ofInt (-1) = (-1 : Int32) := by decide
theorem ic_0 : Int32.ofInt (0) = (0 : Int32) := by decide
theorem ic_1 : Int32.ofInt (1) = (1 : Int32) := by decide
theorem ic_2 : Int32.ofInt (2) = (2 : Int32) := by decide
theorem ic_3 : Int32.ofInt (3) = (3 : Int32) := by decide
theorem ic_4 : Int32.ofInt (4) = (4 : Int32) := by decide
theorem ic_5 : Int32.ofInt (5) = (5 : Int32) := by decide
theorem bp_6 : (Int8.ofInt (6)).toInt32 = (6 : Int32) := by decide
theorem bp_7 : (Int8.ofInt (7)).toInt32 = (7 : Int32) := by decide
theorem bp_8 : (Int8.ofInt (8)).toInt32 = (8 : Int32) := by decide
theorem bp_9 : (Int8.ofInt (9)).toInt32 = (9 : Int32) := by decide
theorem bp_10 : (Int8.ofInt (10)).toInt32 = (10 : Int32) := by decide
theorem bp_11 : (Int8.ofInt (11)).toInt32 = (11 : Int32) := by decide
theorem bp_12 : (Int8.ofInt (12)).toInt32 = (12 : Int32) := by decide
theorem bp_13 : (Int8.ofInt (13)).toInt32 = (13 : Int32) := by decide
theorem bp_14 : (Int8.ofInt (14)).toInt32 = (14 : Int32) := by decide
theorem bp_15 : (Int8.ofInt (15)).toInt32 = (15 : Int32) := by decide
theorem bp_16 : (Int8.ofInt (16)).toInt32 = (16 : Int32) := by decide
theorem bp_17 : (Int8.ofInt (17)).toInt32 = (17 : Int32) := by decide
theorem bp_18 : (Int8.ofInt (18)).toInt32 = (18 : Int32) := by decide
theorem bp_19 : (Int8.ofInt (19)).toInt32 = (19 : Int32) := by decide
theorem bp_20 : (Int8.ofInt (20)).toInt32 = (20 : Int32) := by decide
theorem bp_21 : (Int8.ofInt (21)).toInt32 = (21 : Int32) := by decide
theorem bp_22 : (Int8.ofInt (22)).toInt32 = (22 : Int32) := by decide
theorem bp_24 : (Int8.ofInt (24)).toInt32 = (24 : Int32) := by decide
theorem bp_25 : (Int8.ofInt (25)).toInt32 = (25 : Int32) := by decide
theorem bp_26 : (Int8.ofInt (26)).toInt32 = (26 : Int32) := by decide
theorem bp_27 : (Int8.ofInt (27)).toInt32 = (27 : Int32) := by decide
theorem bp_28 : (Int8.ofInt (28)).toInt32 = (28 : Int32) := by decide
theorem bp_29 : (Int8.ofInt (29)).toInt32 = (29 : Int32) := by decide
theorem bp_30 : (Int8.ofInt (30)).toInt32 = (30 : Int32) := by decide
theorem bp_31 : (Int8.ofInt (31)).toInt32 = (31 : Int32) := by decide
theorem bp_32 : (Int8.ofInt (32)).toInt32 = (32 : Int32) := by decide
theorem bp_36 : (Int8.ofInt (36)).toInt32 = (36 : Int32) := by decide
theorem bp_40 : (Int8.ofInt (40)).toInt32 = (40 : Int32) := by decide
theorem bp_41 : (Int8.ofInt (41)).toInt32 = (41 : Int32) := by decide
theorem bp_42 : (Int8.ofInt (42)).toInt32 = (42 : Int32) := by decide
theorem bp_43 : (Int8.ofInt (43)).toInt32 = (43 : Int32) := by decide
theorem bp_45 : (Int8.ofInt (45)).toInt32 = (45 : Int32) := by decide
theorem bp_48 : (Int8.ofInt (48)).toInt32 = (48 : Int32) := by decide
theorem bp_50 : (Int8.ofInt (50)).toInt32 = (50 : Int32) := by decide
theorem bp_52 : (Int8.ofInt (52)).toInt32 = (52 : Int32) := by decide
theorem bp_56 : (Int8.ofInt (56)).toInt32 = (56 : Int32) := by decide
theorem bp_57 : (Int8.ofInt (57)).toInt32 = (57 : Int32) := by decide
theorem bp_59 : (Int8.ofInt (59)).toInt32 = (59 : Int32) := by decide
theorem bp_60 : (Int8.ofInt (60)).toInt32 = (60 : Int32) := by decide
theorem bp_61 : (Int8.ofInt (61)).toInt32 = (61 : Int32) := by decide
theorem bp_63 : (Int8.ofInt (63)).toInt32 = (63 : Int32) := by decide
theorem bp_64 : (Int8.ofInt (64)).toInt32 = (64 : Int32) := by decide
theorem bp_72 : (Int8.ofInt (72)).toInt32 = (72 : Int32) := by decide
theorem bp_81 : (Int8.ofInt (81)).toInt32 = (81 : Int32) := by decide
theorem bp_97 : (Int8.ofInt (97)).toInt32 = (97 : Int32) := by decide
theorem bp_99 : (Int8.ofInt (99)).toInt32 = (99 : Int32) := by decide
theorem bp_100 : (Int8.ofInt (100)).toInt32 = (100 : Int32) := by decide
theorem bp_121 : (Int8.ofInt (121)).toInt32 = (121 : Int32) := by decide
theorem bp_122 : (Int8.ofInt (122)).toInt32 = (122 : Int32) := by decide
theorem bp_126 : (Int8.ofInt (126)).toInt32 = (126 : Int32) := by decide
theorem sp_144 : (Int16.ofInt (144)).toInt32 = (144 : Int32) := by decide
theorem sp_161 : (Int16.ofInt (161)).toInt32 = (161 : Int32) := by decide
theorem sp_168 : (Int16.ofInt (168)).toInt32 = (168 : Int32) := by decide
theorem sp_200 : (Int16.ofInt (200)).toInt32 = (200 : Int32) := by decide
theorem sp_201 : (Int16.ofInt (201)).toInt32 = (201 : Int32) := by decide
theorem sp_202 : (Int16.ofInt (202)).toInt32 = (202 : Int32) := by decide
theorem sp_203 : (Int16.ofInt (203)).toInt32 = (203 : Int32) := by decide
theorem sp_209 : (Int16.ofInt (209)).toInt32 = (209 : Int32) := by decide
theorem sp_216 : (Int16.ofInt (216)).toInt32 = (216 : Int32) := by decide
theorem sp_217 : (Int16.ofInt (217)).toInt32 = (217 : Int32) := by decide
theorem sp_250 : (Int16.ofInt (250)).toInt32 = (250 : Int32) := by decide
theorem sp_255 : (Int16.ofInt (255)).toInt32 = (255 : Int32) := by decide
theorem sp_256 : (Int16.ofInt (256)).toInt32 = (256 : Int32) := by decide
theorem sp_288 : (Int16.ofInt (288)).toInt32 = (288 : Int32) := by decide
theorem sp_384 : (Int16.ofInt (384)).toInt32 = (384 : Int32) := by decide
theorem sp_999 : (Int16.ofInt (999)).toInt32 = (999 : Int32) := by decide
theorem sp_1000 : (Int16.ofInt (1000)).toInt32 = (1000 : Int32) := by decide
theorem sp_1001 : (Int16.ofInt (1001)).toInt32 = (1001 : Int32) := by decide
theorem sp_1023 : (Int16.ofInt (1023)).toInt32 = (1023 : Int32) := by decide
theorem sp_1536 : (Int16.ofInt (1536)).toInt32 = (1536 : Int32) := by decide
theorem sp_2000 : (Int16.ofInt (2000)).toInt32 = (2000 : Int32) := by decide
theorem sp_9999 : (Int16.ofInt (9999)).toInt32 = (9999 : Int32) := by decide
theorem sp_10000 : (Int16.ofInt (10000)).toInt32 = (10000 : Int32) := by decide
theorem sp_20000 : (Int16.ofInt (20000)).toInt32 = (20000 : Int32) := by decide
theorem sp_20013 : (Int16.ofInt (20013)).toInt32 = (20013 : Int32) := by decide
abbrev o_i (μ : g_St) : Int32 → Option Value × g_St := fun x => (some (.int x), μ)
abbrev o_l (μ : g_St) : Int64 → Option Value × g_St := fun x => (some (.long x), μ)
abbrev o_yi : Int32 × g_St → Option Value × g_St := fun q => (some (.int q.1), q.2)
abbrev o_yl : Int64 × g_St → Option Value × g_St := fun q => (some (.long q.1), q.2)
abbrev o_yv : g_St → Option Value × g_St := fun q => (none, q)
abbrev o_yr (a : Nat) : g_St → Option Value × g_St := fun q => (some (.ref a), q)
theorem su_0 {b : List (Option Value)} : g_sub [] b := by unfold g_sub; trivial
theorem su_s {a b : List (Option Value)} {v : Value} (h : g_sub a b) : g_sub (some v :: a) (some v :: b) := ⟨rfl, h⟩
theorem su_n {a b : List (Option Value)} {w : Option Value} (h : g_sub a b) : g_sub (none :: a) (w :: b) := h
