abbrev c_xx : Nat := 0
abbrev c_tape : Nat := 1
abbrev c_tape_signs : Nat := 2
abbrev c_tape_keywords : Nat := 3
abbrev c_land : Nat := 4
abbrev c_land_kind : Nat := 5
abbrev c_land_purse : Nat := 6
abbrev c_land_place : Nat := 7
abbrev c_land_bush : Nat := 8
abbrev c_land_times : Nat := 9
abbrev c_land_code : Nat := 10
abbrev c_land_owe : Nat := 11
abbrev c_land_owe_stack : Nat := 12
abbrev c_land_fog : Nat := 13
abbrev c_land_fog_stack : Nat := 14
abbrev c_draft : Nat := 15
abbrev c_draft_kind : Nat := 16
abbrev c_draft_purse : Nat := 17
abbrev c_draft_place : Nat := 18
abbrev c_draft_bush : Nat := 19
abbrev c_draft_times : Nat := 20
abbrev c_draft_code : Nat := 21
abbrev c_draft_owe : Nat := 22
abbrev c_draft_owe_stack : Nat := 23
abbrev c_draft_fog : Nat := 24
abbrev c_draft_fog_stack : Nat := 25
abbrev c_reader : Nat := 26
abbrev c_reader_peopleNames : Nat := 27
abbrev c_reader_birdNames : Nat := 28
abbrev c_reader_goes : Nat := 29
abbrev c_laws : Nat := 30
abbrev c_deeds : Nat := 31
abbrev c_deeds_times : Nat := 32
abbrev c_deeds_debt : Nat := 33
abbrev c_marks : Nat := 34
abbrev c_mark0 : Nat := 35
abbrev c_mark0_times : Nat := 36
abbrev c_mark0_debt : Nat := 37
abbrev c_mark1 : Nat := 38
abbrev c_mark1_times : Nat := 39
abbrev c_mark1_debt : Nat := 40
abbrev c_mark2 : Nat := 41
abbrev c_mark2_times : Nat := 42
abbrev c_mark2_debt : Nat := 43
abbrev c_mark3 : Nat := 44
abbrev c_mark3_times : Nat := 45
abbrev c_mark3_debt : Nat := 46
abbrev c_history : Nat := 47
abbrev c_history_birds : Nat := 48
abbrev c_history_hours : Nat := 49
abbrev c_history_before : Nat := 50
abbrev c_debts : Nat := 51
abbrev c_debts_at : Nat := 52
abbrev c_debts_sums : Nat := 53
abbrev c_debts_nearest : Nat := 54
abbrev c_debts_gap : Nat := 55
abbrev c_debts_reach : Nat := 56
abbrev c_debts_rateKey : Nat := 57
abbrev c_debts_rate : Nat := 58
abbrev c_game : Nat := 59
abbrev c_game_path : Nat := 60
abbrev c_game_seen : Nat := 61
abbrev c_songs : Nat := 62
abbrev c_songs_row : Nat := 63
abbrev c_songs_price : Nat := 64
abbrev c_songs_left : Nat := 65
abbrev c_juneDay : Nat := 66
abbrev c_juneDay_purse : Nat := 67
abbrev c_juneDay_due : Nat := 68
abbrev c_mo : Nat := 69
abbrev c_mo_tape : Nat := 70
abbrev c_mo_sort : Nat := 71
abbrev c_mo_place : Nat := 72
abbrev c_mo_value : Nat := 73
abbrev c_mo_words : Nat := 74
abbrev c_mo_lands : Nat := 75
abbrev c_mo_readCalls : Nat := 76
abbrev c_mo_goes : Nat := 77
abbrev c_mo_op : Nat := 78
abbrev c_mo_arg : Nat := 79
abbrev c_mo_names : Nat := 80
abbrev c_mo_nameOf : Nat := 81
abbrev c_mo_factWords : Nat := 82
abbrev c_mo_facts : Nat := 83
abbrev c_mo_pile : Nat := 84
abbrev c_mo_state : Nat := 85
abbrev c_mo_isMarked : Nat := 86
abbrev c_mo_standing : Nat := 87
abbrev c_mo_owes : Nat := 88
abbrev c_mo_rows : Nat := 89
abbrev c_mo_owesBy : Nat := 90
abbrev c_mo_sung : Nat := 91
abbrev c_mo_asked : Nat := 92
abbrev c_mo_purse : Nat := 93
abbrev c_outc : Nat := 94
abbrev Debts_land : Nat := 0
abbrev Debts_deeds : Nat := 1
abbrev Debts_at : Nat := 2
abbrev Debts_sums : Nat := 3
abbrev Debts_nearest : Nat := 4
abbrev Debts_gap : Nat := 5
abbrev Debts_reach : Nat := 6
abbrev Debts_rateKey : Nat := 7
abbrev Debts_rate : Nat := 8
abbrev Deeds_times : Nat := 0
abbrev Deeds_shot : Nat := 1
abbrev Deeds_debt : Nat := 2
abbrev Game_land : Nat := 0
abbrev Game_deeds : Nat := 1
abbrev Game_debts : Nat := 2
abbrev Game_bestCell : Nat := 3
abbrev Game_bestBalance : Nat := 4
abbrev Game_bestSet : Nat := 5
abbrev Game_rounds : Nat := 6
abbrev Game_rest : Nat := 7
abbrev Game_path : Nat := 8
abbrev Game_seen : Nat := 9
abbrev Hist_size : Nat := 0
abbrev Hist_birds : Nat := 1
abbrev Hist_hours : Nat := 2
abbrev Hist_before : Nat := 3
abbrev June_land : Nat := 0
abbrev June_deeds : Nat := 1
abbrev June_debts : Nat := 2
abbrev June_purse : Nat := 3
abbrev June_due : Nat := 4
abbrev Land_wide : Nat := 0
abbrev Land_deep : Nat := 1
abbrev Land_people : Nat := 2
abbrev Land_birds : Nat := 3
abbrev Land_hear : Nat := 4
abbrev Land_kind : Nat := 5
abbrev Land_purse : Nat := 6
abbrev Land_place : Nat := 7
abbrev Land_bush : Nat := 8
abbrev Land_times : Nat := 9
abbrev Land_code : Nat := 10
abbrev Land_codeLength : Nat := 11
abbrev Land_owe : Nat := 12
abbrev Land_fog : Nat := 13
abbrev Law_code : Nat := 0
abbrev Law_isTold : Nat := 1
abbrev Law_from : Nat := 2
abbrev Law_to : Nat := 3
abbrev Law_stack : Nat := 4
abbrev LRd_tape : Nat := 0
abbrev LRd_land : Nat := 1
abbrev LRd_owing : Nat := 2
abbrev Rd_tape : Nat := 0
abbrev Rd_land : Nat := 1
abbrev Rd_laws : Nat := 2
abbrev Rd_peopleNames : Nat := 3
abbrev Rd_birdNames : Nat := 4
abbrev Rd_goes : Nat := 5
abbrev Rd_goCount : Nat := 6
abbrev Rd_callCount : Nat := 7
abbrev Rd_hearIsTold : Nat := 8
abbrev Rd_cell : Nat := 9
abbrev Rd_found : Nat := 10
abbrev Songs_land : Nat := 0
abbrev Songs_deeds : Nat := 1
abbrev Songs_debts : Nat := 2
abbrev Songs_found : Nat := 3
abbrev Songs_leastSet : Nat := 4
abbrev Songs_row : Nat := 5
abbrev Songs_wanted : Nat := 6
abbrev Songs_price : Nat := 7
abbrev Songs_left : Nat := 8
abbrev Tape_signs : Nat := 0
abbrev Tape_length : Nat := 1
abbrev Tape_token : Nat := 2
abbrev Tape_place : Nat := 3
abbrev Tape_number : Nat := 4
abbrev Tape_keyword : Nat := 5
abbrev Tape_word : Nat := 6
abbrev Tape_fault : Nat := 7
abbrev Tape_next : Nat := 8
abbrev Tape_keywords : Nat := 9
abbrev Top_tape : Nat := 0
abbrev Top_land : Nat := 1
abbrev Top_draft : Nat := 2
abbrev Top_reader : Nat := 3
abbrev Top_deeds : Nat := 4
abbrev Top_marks : Nat := 5
abbrev Top_laid : Nat := 6
abbrev Top_history : Nat := 7
abbrev Top_debts : Nat := 8
abbrev Top_game : Nat := 9
abbrev Top_songs : Nat := 10
abbrev Top_juneDay : Nat := 11
abbrev Mo_thrown : Nat := 0
abbrev Mo_tape : Nat := 1
abbrev Mo_taped : Nat := 2
abbrev Mo_size : Nat := 3
abbrev Mo_sort : Nat := 4
abbrev Mo_place : Nat := 5
abbrev Mo_value : Nat := 6
abbrev Mo_at : Nat := 7
abbrev Mo_fault : Nat := 8
abbrev Mo_words : Nat := 9
abbrev Mo_lands : Nat := 10
abbrev Mo_readCalls : Nat := 11
abbrev Mo_goes : Nat := 12
abbrev Mo_op : Nat := 13
abbrev Mo_arg : Nat := 14
abbrev Mo_codes : Nat := 15
abbrev Mo_names : Nat := 16
abbrev Mo_nameOf : Nat := 17
abbrev Mo_namesMany : Nat := 18
abbrev Mo_goesMany : Nat := 19
abbrev Mo_callsMany : Nat := 20
abbrev Mo_hasHear : Nat := 21
abbrev Mo_ofFog : Nat := 22
abbrev Mo_factWords : Nat := 23
abbrev Mo_facts : Nat := 24
abbrev Mo_pile : Nat := 25
abbrev Mo_state : Nat := 26
abbrev Mo_undos : Nat := 27
abbrev Mo_isMarked : Nat := 28
abbrev Mo_standing : Nat := 29
abbrev Mo_standFrom : Nat := 30
abbrev Mo_standTo : Nat := 31
abbrev Mo_owes : Nat := 32
abbrev Mo_bestCell : Nat := 33
abbrev Mo_bestBalance : Nat := 34
abbrev Mo_rows : Nat := 35
abbrev Mo_owesBy : Nat := 36
abbrev Mo_sung : Nat := 37
abbrev Mo_asked : Nat := 38
abbrev Mo_rowsMany : Nat := 39
abbrev Mo_purse : Nat := 40
def LY : List DS := [.inl (11, [.inr (some c_tape), .inr (some c_land), .inr (some c_draft), .inr (some c_reader), .inr (some c_deeds), .inr (some c_marks), .inl true, .inr (some c_history), .inr (some c_debts), .inr (some c_game), .inr (some c_songs), .inr (some c_juneDay)]),
  .inl (10, [.inr (some c_tape_signs), .inl true, .inl true, .inl true, .inl true, .inl true, .inl false, .inl true, .inl true, .inr (some c_tape_keywords)]),
  .inr (2, 1000, []),
  .inr (1, 24, []),
  .inl (5, [.inl true, .inl true, .inl true, .inl true, .inl true, .inr (some c_land_kind), .inr (some c_land_purse), .inr (some c_land_place), .inr (some c_land_bush), .inr (some c_land_times), .inr (some c_land_code), .inl true, .inr (some c_land_owe), .inr (some c_land_fog)]),
  .inr (0, 6, []),
  .inr (0, 6, []),
  .inr (0, 144, []),
  .inr (0, 5, []),
  .inr (0, 120, []),
  .inr (0, 1024, []),
  .inl (6, [.inr (some c_land_code), .inl true, .inl true, .inl true, .inr (some c_land_owe_stack)]),
  .inr (0, 32, []),
  .inl (6, [.inr (some c_land_code), .inl true, .inl true, .inl true, .inr (some c_land_fog_stack)]),
  .inr (0, 32, []),
  .inl (5, [.inl true, .inl true, .inl true, .inl true, .inl true, .inr (some c_draft_kind), .inr (some c_draft_purse), .inr (some c_draft_place), .inr (some c_draft_bush), .inr (some c_draft_times), .inr (some c_draft_code), .inl true, .inr (some c_draft_owe), .inr (some c_draft_fog)]),
  .inr (0, 6, []),
  .inr (0, 6, []),
  .inr (0, 144, []),
  .inr (0, 5, []),
  .inr (0, 120, []),
  .inr (0, 1024, []),
  .inl (6, [.inr (some c_draft_code), .inl true, .inl true, .inl true, .inr (some c_draft_owe_stack)]),
  .inr (0, 32, []),
  .inl (6, [.inr (some c_draft_code), .inl true, .inl true, .inl true, .inr (some c_draft_fog_stack)]),
  .inr (0, 32, []),
  .inl (8, [.inr (some c_tape), .inr (some c_draft), .inr (some c_laws), .inr (some c_reader_peopleNames), .inr (some c_reader_birdNames), .inr (some c_reader_goes), .inl true, .inl true, .inl true, .inl true, .inl true]),
  .inr (1, 6, []),
  .inr (1, 5, []),
  .inr (0, 144, []),
  .inl (7, [.inr (some c_tape), .inr (some c_draft), .inl true]),
  .inl (1, [.inr (some c_deeds_times), .inl true, .inr (some c_deeds_debt)]),
  .inr (0, 120, []),
  .inr (0, 6, []),
  .inr (4, 4, [some c_mark0, some c_mark1, some c_mark2, some c_mark3]),
  .inl (1, [.inr (some c_mark0_times), .inl true, .inr (some c_mark0_debt)]),
  .inr (0, 120, []),
  .inr (0, 6, []),
  .inl (1, [.inr (some c_mark1_times), .inl true, .inr (some c_mark1_debt)]),
  .inr (0, 120, []),
  .inr (0, 6, []),
  .inl (1, [.inr (some c_mark2_times), .inl true, .inr (some c_mark2_debt)]),
  .inr (0, 120, []),
  .inr (0, 6, []),
  .inl (1, [.inr (some c_mark3_times), .inl true, .inr (some c_mark3_debt)]),
  .inr (0, 120, []),
  .inr (0, 6, []),
  .inl (3, [.inl true, .inr (some c_history_birds), .inr (some c_history_hours), .inr (some c_history_before)]),
  .inr (0, 20, []),
  .inr (0, 20, []),
  .inr (0, 20, []),
  .inl (0, [.inr (some c_land), .inr (some c_deeds), .inr (some c_debts_at), .inr (some c_debts_sums), .inr (some c_debts_nearest), .inr (some c_debts_gap), .inr (some c_debts_reach), .inr (some c_debts_rateKey), .inr (some c_debts_rate)]),
  .inr (0, 144, []),
  .inr (0, 36, []),
  .inr (0, 6, []),
  .inr (0, 6, []),
  .inr (0, 1536, []),
  .inr (0, 512, []),
  .inr (0, 512, []),
  .inl (2, [.inr (some c_land), .inr (some c_deeds), .inr (some c_debts), .inl true, .inl true, .inl true, .inl true, .inl true, .inr (some c_game_path), .inr (some c_game_seen)]),
  .inr (0, 24, []),
  .inr (1, 51, []),
  .inl (9, [.inr (some c_land), .inr (some c_deeds), .inr (some c_debts), .inl true, .inl true, .inr (some c_songs_row), .inl true, .inr (some c_songs_price), .inr (some c_songs_left)]),
  .inr (0, 5, []),
  .inr (0, 180, []),
  .inr (0, 6, []),
  .inl (4, [.inr (some c_land), .inr (some c_deeds), .inr (some c_debts), .inr (some c_juneDay_purse), .inr (some c_juneDay_due)]),
  .inr (0, 6, []),
  .inr (0, 36, []),
  .inl (12, [.inl true, .inr (some c_mo_tape), .inl true, .inl true, .inr (some c_mo_sort), .inr (some c_mo_place), .inr (some c_mo_value), .inl true, .inl true, .inr (some c_mo_words), .inr (some c_mo_lands), .inr (some c_mo_readCalls), .inr (some c_mo_goes), .inr (some c_mo_op), .inr (some c_mo_arg), .inl true, .inr (some c_mo_names), .inr (some c_mo_nameOf), .inl true, .inl true, .inl true, .inl true, .inl true, .inr (some c_mo_factWords), .inr (some c_mo_facts), .inr (some c_mo_pile), .inr (some c_mo_state), .inl true, .inr (some c_mo_isMarked), .inr (some c_mo_standing), .inl true, .inl true, .inr (some c_mo_owes), .inl true, .inl true, .inr (some c_mo_rows), .inr (some c_mo_owesBy), .inr (some c_mo_sung), .inr (some c_mo_asked), .inl true, .inr (some c_mo_purse)]),
  .inr (0, 1000, []),
  .inr (0, 1002, []),
  .inr (0, 1002, []),
  .inr (1, 1002, []),
  .inr (1, 24, []),
  .inr (0, 360, []),
  .inr (0, 120, []),
  .inr (0, 144, []),
  .inr (0, 2200, []),
  .inr (0, 2200, []),
  .inr (1, 11, []),
  .inr (0, 11, []),
  .inr (0, 6, []),
  .inr (0, 6, []),
  .inr (0, 1100, []),
  .inr (0, 3200, []),
  .inr (3, 4, []),
  .inr (0, 6, []),
  .inr (0, 36, []),
  .inr (0, 306, []),
  .inr (0, 180, []),
  .inr (0, 5, []),
  .inr (0, 5, []),
  .inr (0, 6, []),
  .inr (1, 1, [])]
theorem ly_c_xx : LY[c_xx]? = some (.inl (11, [.inr (some c_tape), .inr (some c_land), .inr (some c_draft), .inr (some c_reader), .inr (some c_deeds), .inr (some c_marks), .inl true, .inr (some c_history), .inr (some c_debts), .inr (some c_game), .inr (some c_songs), .inr (some c_juneDay)])) := rfl
theorem ly_c_tape : LY[c_tape]? = some (.inl (10, [.inr (some c_tape_signs), .inl true, .inl true, .inl true, .inl true, .inl true, .inl false, .inl true, .inl true, .inr (some c_tape_keywords)])) := rfl
theorem ly_c_tape_signs : LY[c_tape_signs]? = some (.inr (2, 1000, [])) := rfl
theorem ly_c_tape_keywords : LY[c_tape_keywords]? = some (.inr (1, 24, [])) := rfl
theorem ly_c_land : LY[c_land]? = some (.inl (5, [.inl true, .inl true, .inl true, .inl true, .inl true, .inr (some c_land_kind), .inr (some c_land_purse), .inr (some c_land_place), .inr (some c_land_bush), .inr (some c_land_times), .inr (some c_land_code), .inl true, .inr (some c_land_owe), .inr (some c_land_fog)])) := rfl
theorem ly_c_land_kind : LY[c_land_kind]? = some (.inr (0, 6, [])) := rfl
theorem ly_c_land_purse : LY[c_land_purse]? = some (.inr (0, 6, [])) := rfl
theorem ly_c_land_place : LY[c_land_place]? = some (.inr (0, 144, [])) := rfl
theorem ly_c_land_bush : LY[c_land_bush]? = some (.inr (0, 5, [])) := rfl
theorem ly_c_land_times : LY[c_land_times]? = some (.inr (0, 120, [])) := rfl
theorem ly_c_land_code : LY[c_land_code]? = some (.inr (0, 1024, [])) := rfl
theorem ly_c_land_owe : LY[c_land_owe]? = some (.inl (6, [.inr (some c_land_code), .inl true, .inl true, .inl true, .inr (some c_land_owe_stack)])) := rfl
theorem ly_c_land_owe_stack : LY[c_land_owe_stack]? = some (.inr (0, 32, [])) := rfl
theorem ly_c_land_fog : LY[c_land_fog]? = some (.inl (6, [.inr (some c_land_code), .inl true, .inl true, .inl true, .inr (some c_land_fog_stack)])) := rfl
theorem ly_c_land_fog_stack : LY[c_land_fog_stack]? = some (.inr (0, 32, [])) := rfl
theorem ly_c_draft : LY[c_draft]? = some (.inl (5, [.inl true, .inl true, .inl true, .inl true, .inl true, .inr (some c_draft_kind), .inr (some c_draft_purse), .inr (some c_draft_place), .inr (some c_draft_bush), .inr (some c_draft_times), .inr (some c_draft_code), .inl true, .inr (some c_draft_owe), .inr (some c_draft_fog)])) := rfl
theorem ly_c_draft_kind : LY[c_draft_kind]? = some (.inr (0, 6, [])) := rfl
theorem ly_c_draft_purse : LY[c_draft_purse]? = some (.inr (0, 6, [])) := rfl
theorem ly_c_draft_place : LY[c_draft_place]? = some (.inr (0, 144, [])) := rfl
theorem ly_c_draft_bush : LY[c_draft_bush]? = some (.inr (0, 5, [])) := rfl
theorem ly_c_draft_times : LY[c_draft_times]? = some (.inr (0, 120, [])) := rfl
theorem ly_c_draft_code : LY[c_draft_code]? = some (.inr (0, 1024, [])) := rfl
theorem ly_c_draft_owe : LY[c_draft_owe]? = some (.inl (6, [.inr (some c_draft_code), .inl true, .inl true, .inl true, .inr (some c_draft_owe_stack)])) := rfl
theorem ly_c_draft_owe_stack : LY[c_draft_owe_stack]? = some (.inr (0, 32, [])) := rfl
theorem ly_c_draft_fog : LY[c_draft_fog]? = some (.inl (6, [.inr (some c_draft_code), .inl true, .inl true, .inl true, .inr (some c_draft_fog_stack)])) := rfl
theorem ly_c_draft_fog_stack : LY[c_draft_fog_stack]? = some (.inr (0, 32, [])) := rfl
theorem ly_c_reader : LY[c_reader]? = some (.inl (8, [.inr (some c_tape), .inr (some c_draft), .inr (some c_laws), .inr (some c_reader_peopleNames), .inr (some c_reader_birdNames), .inr (some c_reader_goes), .inl true, .inl true, .inl true, .inl true, .inl true])) := rfl
theorem ly_c_reader_peopleNames : LY[c_reader_peopleNames]? = some (.inr (1, 6, [])) := rfl
theorem ly_c_reader_birdNames : LY[c_reader_birdNames]? = some (.inr (1, 5, [])) := rfl
theorem ly_c_reader_goes : LY[c_reader_goes]? = some (.inr (0, 144, [])) := rfl
theorem ly_c_laws : LY[c_laws]? = some (.inl (7, [.inr (some c_tape), .inr (some c_draft), .inl true])) := rfl
theorem ly_c_deeds : LY[c_deeds]? = some (.inl (1, [.inr (some c_deeds_times), .inl true, .inr (some c_deeds_debt)])) := rfl
theorem ly_c_deeds_times : LY[c_deeds_times]? = some (.inr (0, 120, [])) := rfl
theorem ly_c_deeds_debt : LY[c_deeds_debt]? = some (.inr (0, 6, [])) := rfl
theorem ly_c_marks : LY[c_marks]? = some (.inr (4, 4, [some c_mark0, some c_mark1, some c_mark2, some c_mark3])) := rfl
theorem ly_c_mark0 : LY[c_mark0]? = some (.inl (1, [.inr (some c_mark0_times), .inl true, .inr (some c_mark0_debt)])) := rfl
theorem ly_c_mark0_times : LY[c_mark0_times]? = some (.inr (0, 120, [])) := rfl
theorem ly_c_mark0_debt : LY[c_mark0_debt]? = some (.inr (0, 6, [])) := rfl
theorem ly_c_mark1 : LY[c_mark1]? = some (.inl (1, [.inr (some c_mark1_times), .inl true, .inr (some c_mark1_debt)])) := rfl
theorem ly_c_mark1_times : LY[c_mark1_times]? = some (.inr (0, 120, [])) := rfl
theorem ly_c_mark1_debt : LY[c_mark1_debt]? = some (.inr (0, 6, [])) := rfl
theorem ly_c_mark2 : LY[c_mark2]? = some (.inl (1, [.inr (some c_mark2_times), .inl true, .inr (some c_mark2_debt)])) := rfl
theorem ly_c_mark2_times : LY[c_mark2_times]? = some (.inr (0, 120, [])) := rfl
theorem ly_c_mark2_debt : LY[c_mark2_debt]? = some (.inr (0, 6, [])) := rfl
theorem ly_c_mark3 : LY[c_mark3]? = some (.inl (1, [.inr (some c_mark3_times), .inl true, .inr (some c_mark3_debt)])) := rfl
theorem ly_c_mark3_times : LY[c_mark3_times]? = some (.inr (0, 120, [])) := rfl
theorem ly_c_mark3_debt : LY[c_mark3_debt]? = some (.inr (0, 6, [])) := rfl
theorem ly_c_history : LY[c_history]? = some (.inl (3, [.inl true, .inr (some c_history_birds), .inr (some c_history_hours), .inr (some c_history_before)])) := rfl
theorem ly_c_history_birds : LY[c_history_birds]? = some (.inr (0, 20, [])) := rfl
theorem ly_c_history_hours : LY[c_history_hours]? = some (.inr (0, 20, [])) := rfl
theorem ly_c_history_before : LY[c_history_before]? = some (.inr (0, 20, [])) := rfl
theorem ly_c_debts : LY[c_debts]? = some (.inl (0, [.inr (some c_land), .inr (some c_deeds), .inr (some c_debts_at), .inr (some c_debts_sums), .inr (some c_debts_nearest), .inr (some c_debts_gap), .inr (some c_debts_reach), .inr (some c_debts_rateKey), .inr (some c_debts_rate)])) := rfl
theorem ly_c_debts_at : LY[c_debts_at]? = some (.inr (0, 144, [])) := rfl
theorem ly_c_debts_sums : LY[c_debts_sums]? = some (.inr (0, 36, [])) := rfl
theorem ly_c_debts_nearest : LY[c_debts_nearest]? = some (.inr (0, 6, [])) := rfl
theorem ly_c_debts_gap : LY[c_debts_gap]? = some (.inr (0, 6, [])) := rfl
theorem ly_c_debts_reach : LY[c_debts_reach]? = some (.inr (0, 1536, [])) := rfl
theorem ly_c_debts_rateKey : LY[c_debts_rateKey]? = some (.inr (0, 512, [])) := rfl
theorem ly_c_debts_rate : LY[c_debts_rate]? = some (.inr (0, 512, [])) := rfl
theorem ly_c_game : LY[c_game]? = some (.inl (2, [.inr (some c_land), .inr (some c_deeds), .inr (some c_debts), .inl true, .inl true, .inl true, .inl true, .inl true, .inr (some c_game_path), .inr (some c_game_seen)])) := rfl
theorem ly_c_game_path : LY[c_game_path]? = some (.inr (0, 24, [])) := rfl
theorem ly_c_game_seen : LY[c_game_seen]? = some (.inr (1, 51, [])) := rfl
theorem ly_c_songs : LY[c_songs]? = some (.inl (9, [.inr (some c_land), .inr (some c_deeds), .inr (some c_debts), .inl true, .inl true, .inr (some c_songs_row), .inl true, .inr (some c_songs_price), .inr (some c_songs_left)])) := rfl
theorem ly_c_songs_row : LY[c_songs_row]? = some (.inr (0, 5, [])) := rfl
theorem ly_c_songs_price : LY[c_songs_price]? = some (.inr (0, 180, [])) := rfl
theorem ly_c_songs_left : LY[c_songs_left]? = some (.inr (0, 6, [])) := rfl
theorem ly_c_juneDay : LY[c_juneDay]? = some (.inl (4, [.inr (some c_land), .inr (some c_deeds), .inr (some c_debts), .inr (some c_juneDay_purse), .inr (some c_juneDay_due)])) := rfl
theorem ly_c_juneDay_purse : LY[c_juneDay_purse]? = some (.inr (0, 6, [])) := rfl
theorem ly_c_juneDay_due : LY[c_juneDay_due]? = some (.inr (0, 36, [])) := rfl
theorem ly_c_mo : LY[c_mo]? = some (.inl (12, [.inl true, .inr (some c_mo_tape), .inl true, .inl true, .inr (some c_mo_sort), .inr (some c_mo_place), .inr (some c_mo_value), .inl true, .inl true, .inr (some c_mo_words), .inr (some c_mo_lands), .inr (some c_mo_readCalls), .inr (some c_mo_goes), .inr (some c_mo_op), .inr (some c_mo_arg), .inl true, .inr (some c_mo_names), .inr (some c_mo_nameOf), .inl true, .inl true, .inl true, .inl true, .inl true, .inr (some c_mo_factWords), .inr (some c_mo_facts), .inr (some c_mo_pile), .inr (some c_mo_state), .inl true, .inr (some c_mo_isMarked), .inr (some c_mo_standing), .inl true, .inl true, .inr (some c_mo_owes), .inl true, .inl true, .inr (some c_mo_rows), .inr (some c_mo_owesBy), .inr (some c_mo_sung), .inr (some c_mo_asked), .inl true, .inr (some c_mo_purse)])) := rfl
theorem ly_c_mo_tape : LY[c_mo_tape]? = some (.inr (0, 1000, [])) := rfl
theorem ly_c_mo_sort : LY[c_mo_sort]? = some (.inr (0, 1002, [])) := rfl
theorem ly_c_mo_place : LY[c_mo_place]? = some (.inr (0, 1002, [])) := rfl
theorem ly_c_mo_value : LY[c_mo_value]? = some (.inr (1, 1002, [])) := rfl
theorem ly_c_mo_words : LY[c_mo_words]? = some (.inr (1, 24, [])) := rfl
theorem ly_c_mo_lands : LY[c_mo_lands]? = some (.inr (0, 360, [])) := rfl
theorem ly_c_mo_readCalls : LY[c_mo_readCalls]? = some (.inr (0, 120, [])) := rfl
theorem ly_c_mo_goes : LY[c_mo_goes]? = some (.inr (0, 144, [])) := rfl
theorem ly_c_mo_op : LY[c_mo_op]? = some (.inr (0, 2200, [])) := rfl
theorem ly_c_mo_arg : LY[c_mo_arg]? = some (.inr (0, 2200, [])) := rfl
theorem ly_c_mo_names : LY[c_mo_names]? = some (.inr (1, 11, [])) := rfl
theorem ly_c_mo_nameOf : LY[c_mo_nameOf]? = some (.inr (0, 11, [])) := rfl
theorem ly_c_mo_factWords : LY[c_mo_factWords]? = some (.inr (0, 6, [])) := rfl
theorem ly_c_mo_facts : LY[c_mo_facts]? = some (.inr (0, 6, [])) := rfl
theorem ly_c_mo_pile : LY[c_mo_pile]? = some (.inr (0, 1100, [])) := rfl
theorem ly_c_mo_state : LY[c_mo_state]? = some (.inr (0, 3200, [])) := rfl
theorem ly_c_mo_isMarked : LY[c_mo_isMarked]? = some (.inr (3, 4, [])) := rfl
theorem ly_c_mo_standing : LY[c_mo_standing]? = some (.inr (0, 6, [])) := rfl
theorem ly_c_mo_owes : LY[c_mo_owes]? = some (.inr (0, 36, [])) := rfl
theorem ly_c_mo_rows : LY[c_mo_rows]? = some (.inr (0, 306, [])) := rfl
theorem ly_c_mo_owesBy : LY[c_mo_owesBy]? = some (.inr (0, 180, [])) := rfl
theorem ly_c_mo_sung : LY[c_mo_sung]? = some (.inr (0, 5, [])) := rfl
theorem ly_c_mo_asked : LY[c_mo_asked]? = some (.inr (0, 5, [])) := rfl
theorem ly_c_mo_purse : LY[c_mo_purse]? = some (.inr (0, 6, [])) := rfl
theorem ly_c_outc : LY[c_outc]? = some (.inr (1, 1, [])) := rfl
theorem fi_X10_9 : FI RX10 9 10 0 RX10 TX10 10 := ⟨rfl, by decide, fw_X10, wd_fl_X10_9⟩
theorem fi_X10_33 : FI RX10 33 10 1 RX10 TX10 10 := ⟨rfl, by decide, fw_X10, wd_fl_X10_33⟩
theorem fi_X11_89 : FI RX11 89 10 1 RX10 TX10 10 := ⟨rfl, by decide, fw_X10, wd_fl_X11_89⟩
theorem fi_X8_73 : FI RX8 73 10 2 RX10 TX10 10 := ⟨rfl, by decide, fw_X10, wd_fl_X8_73⟩
theorem fi_X7_49 : FI RX7 49 10 2 RX10 TX10 10 := ⟨rfl, by decide, fw_X10, wd_fl_X7_49⟩
theorem fi_X10_59 : FI RX10 59 10 2 RX10 TX10 10 := ⟨rfl, by decide, fw_X10, wd_fl_X10_59⟩
theorem fi_X10_43 : FI RX10 43 10 3 RX10 TX10 10 := ⟨rfl, by decide, fw_X10, wd_fl_X10_43⟩
theorem fi_X8_90 : FI RX8 90 10 4 RX10 TX10 10 := ⟨rfl, by decide, fw_X10, wd_fl_X8_90⟩
theorem fi_X7_61 : FI RX7 61 10 4 RX10 TX10 10 := ⟨rfl, by decide, fw_X10, wd_fl_X7_61⟩
theorem fi_X10_49 : FI RX10 49 10 4 RX10 TX10 10 := ⟨rfl, by decide, fw_X10, wd_fl_X10_49⟩
theorem fi_X7_43 : FI RX7 43 10 5 RX10 TX10 10 := ⟨rfl, by decide, fw_X10, wd_fl_X7_43⟩
theorem fi_X8_105 : FI RX8 105 10 5 RX10 TX10 10 := ⟨rfl, by decide, fw_X10, wd_fl_X8_105⟩
theorem fi_X10_52 : FI RX10 52 10 5 RX10 TX10 10 := ⟨rfl, by decide, fw_X10, wd_fl_X10_52⟩
theorem fi_X8_143 : FI RX8 143 10 6 RX10 TX10 10 := ⟨rfl, by decide, fw_X10, wd_fl_X8_143⟩
theorem fi_X10_55 : FI RX10 55 10 6 RX10 TX10 10 := ⟨rfl, by decide, fw_X10, wd_fl_X10_55⟩
theorem fi_X8_70 : FI RX8 70 10 7 RX10 TX10 10 := ⟨rfl, by decide, fw_X10, wd_fl_X8_70⟩
theorem fi_X10_46 : FI RX10 46 10 7 RX10 TX10 10 := ⟨rfl, by decide, fw_X10, wd_fl_X10_46⟩
theorem fi_X10_36 : FI RX10 36 10 8 RX10 TX10 10 := ⟨rfl, by decide, fw_X10, wd_fl_X10_36⟩
theorem fi_X10_15 : FI RX10 15 10 9 RX10 TX10 10 := ⟨rfl, by decide, fw_X10, wd_fl_X10_15⟩
theorem fi_X6_13 : FI RX6 13 6 0 RX6 TX6 5 := ⟨rfl, by decide, fw_X6, wd_fl_X6_13⟩
theorem fi_X6_16 : FI RX6 16 6 1 RX6 TX6 5 := ⟨rfl, by decide, fw_X6, wd_fl_X6_16⟩
theorem fi_X5_74 : FI RX5 74 6 1 RX6 TX6 5 := ⟨rfl, by decide, fw_X6, wd_fl_X5_74⟩
theorem fi_X8_175 : FI RX8 175 6 1 RX6 TX6 5 := ⟨rfl, by decide, fw_X6, wd_fl_X8_175⟩
theorem fi_X6_20 : FI RX6 20 6 2 RX6 TX6 5 := ⟨rfl, by decide, fw_X6, wd_fl_X6_20⟩
theorem fi_X5_78 : FI RX5 78 6 2 RX6 TX6 5 := ⟨rfl, by decide, fw_X6, wd_fl_X5_78⟩
theorem fi_X8_183 : FI RX8 183 6 2 RX6 TX6 5 := ⟨rfl, by decide, fw_X6, wd_fl_X8_183⟩
theorem fi_X6_24 : FI RX6 24 6 3 RX6 TX6 5 := ⟨rfl, by decide, fw_X6, wd_fl_X6_24⟩
theorem fi_X5_85 : FI RX5 85 6 3 RX6 TX6 5 := ⟨rfl, by decide, fw_X6, wd_fl_X5_85⟩
theorem fi_X8_192 : FI RX8 192 6 3 RX6 TX6 5 := ⟨rfl, by decide, fw_X6, wd_fl_X8_192⟩
theorem fi_X6_9 : FI RX6 9 6 4 RX6 TX6 5 := ⟨rfl, by decide, fw_X6, wd_fl_X6_9⟩
theorem fi_X5_45 : FI RX5 45 5 0 RX5 TX5 14 := ⟨rfl, by decide, fw_X5, wd_fl_X5_45⟩
theorem fi_X8_93 : FI RX8 93 5 0 RX5 TX5 14 := ⟨rfl, by decide, fw_X5, wd_fl_X8_93⟩
theorem fi_X2_105 : FI RX2 105 5 0 RX5 TX5 14 := ⟨rfl, by decide, fw_X5, wd_fl_X2_105⟩
theorem fi_X11_273 : FI RX11 273 5 0 RX5 TX5 14 := ⟨rfl, by decide, fw_X5, wd_fl_X11_273⟩
theorem fi_X5_49 : FI RX5 49 5 1 RX5 TX5 14 := ⟨rfl, by decide, fw_X5, wd_fl_X5_49⟩
theorem fi_X8_99 : FI RX8 99 5 1 RX5 TX5 14 := ⟨rfl, by decide, fw_X5, wd_fl_X8_99⟩
theorem fi_X2_102 : FI RX2 102 5 1 RX5 TX5 14 := ⟨rfl, by decide, fw_X5, wd_fl_X2_102⟩
theorem fi_X11_276 : FI RX11 276 5 1 RX5 TX5 14 := ⟨rfl, by decide, fw_X5, wd_fl_X11_276⟩
theorem fi_X5_52 : FI RX5 52 5 2 RX5 TX5 14 := ⟨rfl, by decide, fw_X5, wd_fl_X5_52⟩
theorem fi_X4_45 : FI RX4 45 5 2 RX5 TX5 14 := ⟨rfl, by decide, fw_X5, wd_fl_X4_45⟩
theorem fi_X2_48 : FI RX2 48 5 2 RX5 TX5 14 := ⟨rfl, by decide, fw_X5, wd_fl_X2_48⟩
theorem fi_X0_58 : FI RX0 58 5 2 RX5 TX5 14 := ⟨rfl, by decide, fw_X5, wd_fl_X0_58⟩
theorem fi_X9_73 : FI RX9 73 5 2 RX5 TX5 14 := ⟨rfl, by decide, fw_X5, wd_fl_X9_73⟩
theorem fi_X8_137 : FI RX8 137 5 2 RX5 TX5 14 := ⟨rfl, by decide, fw_X5, wd_fl_X8_137⟩
theorem fi_X11_210 : FI RX11 210 5 2 RX5 TX5 14 := ⟨rfl, by decide, fw_X5, wd_fl_X11_210⟩
theorem fi_X5_55 : FI RX5 55 5 3 RX5 TX5 14 := ⟨rfl, by decide, fw_X5, wd_fl_X5_55⟩
theorem fi_X9_68 : FI RX9 68 5 3 RX5 TX5 14 := ⟨rfl, by decide, fw_X5, wd_fl_X9_68⟩
theorem fi_X8_166 : FI RX8 166 5 3 RX5 TX5 14 := ⟨rfl, by decide, fw_X5, wd_fl_X8_166⟩
theorem fi_X0_111 : FI RX0 111 5 3 RX5 TX5 14 := ⟨rfl, by decide, fw_X5, wd_fl_X0_111⟩
theorem fi_X11_279 : FI RX11 279 5 3 RX5 TX5 14 := ⟨rfl, by decide, fw_X5, wd_fl_X11_279⟩
theorem fi_X5_58 : FI RX5 58 5 4 RX5 TX5 14 := ⟨rfl, by decide, fw_X5, wd_fl_X5_58⟩
theorem fi_X0_95 : FI RX0 95 5 4 RX5 TX5 14 := ⟨rfl, by decide, fw_X5, wd_fl_X0_95⟩
theorem fi_X8_195 : FI RX8 195 5 4 RX5 TX5 14 := ⟨rfl, by decide, fw_X5, wd_fl_X8_195⟩
theorem fi_X5_9 : FI RX5 9 5 5 RX5 TX5 14 := ⟨rfl, by decide, fw_X5, wd_fl_X5_9⟩
theorem fi_X11_117 : FI RX11 117 5 5 RX5 TX5 14 := ⟨rfl, by decide, fw_X5, wd_fl_X11_117⟩
theorem fi_X8_147 : FI RX8 147 5 5 RX5 TX5 14 := ⟨rfl, by decide, fw_X5, wd_fl_X8_147⟩
theorem fi_X0_98 : FI RX0 98 5 5 RX5 TX5 14 := ⟨rfl, by decide, fw_X5, wd_fl_X0_98⟩
theorem fi_X5_15 : FI RX5 15 5 6 RX5 TX5 14 := ⟨rfl, by decide, fw_X5, wd_fl_X5_15⟩
theorem fi_X4_50 : FI RX4 50 5 6 RX5 TX5 14 := ⟨rfl, by decide, fw_X5, wd_fl_X4_50⟩
theorem fi_X11_121 : FI RX11 121 5 6 RX5 TX5 14 := ⟨rfl, by decide, fw_X5, wd_fl_X11_121⟩
theorem fi_X8_156 : FI RX8 156 5 6 RX5 TX5 14 := ⟨rfl, by decide, fw_X5, wd_fl_X8_156⟩
theorem fi_X5_18 : FI RX5 18 5 7 RX5 TX5 14 := ⟨rfl, by decide, fw_X5, wd_fl_X5_18⟩
theorem fi_X0_47 : FI RX0 47 5 7 RX5 TX5 14 := ⟨rfl, by decide, fw_X5, wd_fl_X0_47⟩
theorem fi_X11_127 : FI RX11 127 5 7 RX5 TX5 14 := ⟨rfl, by decide, fw_X5, wd_fl_X11_127⟩
theorem fi_X8_205 : FI RX8 205 5 7 RX5 TX5 14 := ⟨rfl, by decide, fw_X5, wd_fl_X8_205⟩
theorem fi_X5_21 : FI RX5 21 5 8 RX5 TX5 14 := ⟨rfl, by decide, fw_X5, wd_fl_X5_21⟩
theorem fi_X11_133 : FI RX11 133 5 8 RX5 TX5 14 := ⟨rfl, by decide, fw_X5, wd_fl_X11_133⟩
theorem fi_X8_169 : FI RX8 169 5 8 RX5 TX5 14 := ⟨rfl, by decide, fw_X5, wd_fl_X8_169⟩
theorem fi_X0_88 : FI RX0 88 5 8 RX5 TX5 14 := ⟨rfl, by decide, fw_X5, wd_fl_X0_88⟩
theorem fi_X5_24 : FI RX5 24 5 9 RX5 TX5 14 := ⟨rfl, by decide, fw_X5, wd_fl_X5_24⟩
theorem fi_X1_24 : FI RX1 24 5 9 RX5 TX5 14 := ⟨rfl, by decide, fw_X5, wd_fl_X1_24⟩
theorem fi_X8_172 : FI RX8 172 5 9 RX5 TX5 14 := ⟨rfl, by decide, fw_X5, wd_fl_X8_172⟩
theorem fi_X5_27 : FI RX5 27 5 10 RX5 TX5 14 := ⟨rfl, by decide, fw_X5, wd_fl_X5_27⟩
theorem fi_X5_67 : FI RX5 67 5 11 RX5 TX5 14 := ⟨rfl, by decide, fw_X5, wd_fl_X5_67⟩
theorem fi_X8_180 : FI RX8 180 5 11 RX5 TX5 14 := ⟨rfl, by decide, fw_X5, wd_fl_X8_180⟩
theorem fi_X5_35 : FI RX5 35 5 12 RX5 TX5 14 := ⟨rfl, by decide, fw_X5, wd_fl_X5_35⟩
theorem fi_X8_120 : FI RX8 120 5 12 RX5 TX5 14 := ⟨rfl, by decide, fw_X5, wd_fl_X8_120⟩
theorem fi_X0_101 : FI RX0 101 5 12 RX5 TX5 14 := ⟨rfl, by decide, fw_X5, wd_fl_X0_101⟩
theorem fi_X5_39 : FI RX5 39 5 13 RX5 TX5 14 := ⟨rfl, by decide, fw_X5, wd_fl_X5_39⟩
theorem fi_X8_128 : FI RX8 128 5 13 RX5 TX5 14 := ⟨rfl, by decide, fw_X5, wd_fl_X8_128⟩
theorem fi_X0_67 : FI RX0 67 5 13 RX5 TX5 14 := ⟨rfl, by decide, fw_X5, wd_fl_X0_67⟩
theorem fi_X7_9 : FI RX7 9 7 0 RX7 TX7 3 := ⟨rfl, by decide, fw_X7, wd_fl_X7_9⟩
theorem fi_X7_15 : FI RX7 15 7 1 RX7 TX7 3 := ⟨rfl, by decide, fw_X7, wd_fl_X7_15⟩
theorem fi_X7_64 : FI RX7 64 7 2 RX7 TX7 3 := ⟨rfl, by decide, fw_X7, wd_fl_X7_64⟩
theorem fi_X8_186 : FI RX8 186 7 2 RX7 TX7 3 := ⟨rfl, by decide, fw_X7, wd_fl_X8_186⟩
theorem fi_X8_22 : FI RX8 22 8 0 RX8 TX8 11 := ⟨rfl, by decide, fw_X8, wd_fl_X8_22⟩
theorem fi_X8_26 : FI RX8 26 8 1 RX8 TX8 11 := ⟨rfl, by decide, fw_X8, wd_fl_X8_26⟩
theorem fi_X8_35 : FI RX8 35 8 2 RX8 TX8 11 := ⟨rfl, by decide, fw_X8, wd_fl_X8_35⟩
theorem fi_X8_9 : FI RX8 9 8 3 RX8 TX8 11 := ⟨rfl, by decide, fw_X8, wd_fl_X8_9⟩
theorem fi_X8_15 : FI RX8 15 8 4 RX8 TX8 11 := ⟨rfl, by decide, fw_X8, wd_fl_X8_15⟩
theorem fi_X8_18 : FI RX8 18 8 5 RX8 TX8 11 := ⟨rfl, by decide, fw_X8, wd_fl_X8_18⟩
theorem fi_X8_50 : FI RX8 50 8 6 RX8 TX8 11 := ⟨rfl, by decide, fw_X8, wd_fl_X8_50⟩
theorem fi_X8_54 : FI RX8 54 8 7 RX8 TX8 11 := ⟨rfl, by decide, fw_X8, wd_fl_X8_54⟩
theorem fi_X8_57 : FI RX8 57 8 8 RX8 TX8 11 := ⟨rfl, by decide, fw_X8, wd_fl_X8_57⟩
theorem fi_X8_153 : FI RX8 153 8 9 RX8 TX8 11 := ⟨rfl, by decide, fw_X8, wd_fl_X8_153⟩
theorem fi_X8_163 : FI RX8 163 8 10 RX8 TX8 11 := ⟨rfl, by decide, fw_X8, wd_fl_X8_163⟩
theorem fi_X1_9 : FI RX1 9 1 0 RX1 TX1 3 := ⟨rfl, by decide, fw_X1, wd_fl_X1_9⟩
theorem fi_X3_33 : FI RX3 33 1 0 RX1 TX1 3 := ⟨rfl, by decide, fw_X1, wd_fl_X3_33⟩
theorem fi_X0_62 : FI RX0 62 1 0 RX1 TX1 3 := ⟨rfl, by decide, fw_X1, wd_fl_X0_62⟩
theorem fi_X11_143 : FI RX11 143 1 0 RX1 TX1 3 := ⟨rfl, by decide, fw_X1, wd_fl_X11_143⟩
theorem fi_X4_35 : FI RX4 35 1 1 RX1 TX1 3 := ⟨rfl, by decide, fw_X1, wd_fl_X4_35⟩
theorem fi_X1_33 : FI RX1 33 1 1 RX1 TX1 3 := ⟨rfl, by decide, fw_X1, wd_fl_X1_33⟩
theorem fi_X3_28 : FI RX3 28 1 1 RX1 TX1 3 := ⟨rfl, by decide, fw_X1, wd_fl_X3_28⟩
theorem fi_X9_87 : FI RX9 87 1 1 RX1 TX1 3 := ⟨rfl, by decide, fw_X1, wd_fl_X9_87⟩
theorem fi_X2_78 : FI RX2 78 1 1 RX1 TX1 3 := ⟨rfl, by decide, fw_X1, wd_fl_X2_78⟩
theorem fi_X11_136 : FI RX11 136 1 1 RX1 TX1 3 := ⟨rfl, by decide, fw_X1, wd_fl_X11_136⟩
theorem fi_X1_15 : FI RX1 15 1 2 RX1 TX1 3 := ⟨rfl, by decide, fw_X1, wd_fl_X1_15⟩
theorem fi_X9_45 : FI RX9 45 1 2 RX1 TX1 3 := ⟨rfl, by decide, fw_X1, wd_fl_X9_45⟩
theorem fi_X11_242 : FI RX11 242 1 2 RX1 TX1 3 := ⟨rfl, by decide, fw_X1, wd_fl_X11_242⟩
theorem fi_X3_21 : FI RX3 21 3 0 RX3 TX3 4 := ⟨rfl, by decide, fw_X3, wd_fl_X3_21⟩
theorem fi_X11_104 : FI RX11 104 3 0 RX3 TX3 4 := ⟨rfl, by decide, fw_X3, wd_fl_X11_104⟩
theorem fi_X3_11 : FI RX3 11 3 1 RX3 TX3 4 := ⟨rfl, by decide, fw_X3, wd_fl_X3_11⟩
theorem fi_X3_15 : FI RX3 15 3 2 RX3 TX3 4 := ⟨rfl, by decide, fw_X3, wd_fl_X3_15⟩
theorem fi_X3_18 : FI RX3 18 3 3 RX3 TX3 4 := ⟨rfl, by decide, fw_X3, wd_fl_X3_18⟩
theorem fi_X0_33 : FI RX0 33 0 0 RX0 TX0 9 := ⟨rfl, by decide, fw_X0, wd_fl_X0_33⟩
theorem fi_X0_37 : FI RX0 37 0 1 RX0 TX0 9 := ⟨rfl, by decide, fw_X0, wd_fl_X0_37⟩
theorem fi_X0_9 : FI RX0 9 0 2 RX0 TX0 9 := ⟨rfl, by decide, fw_X0, wd_fl_X0_9⟩
theorem fi_X2_87 : FI RX2 87 0 2 RX0 TX0 9 := ⟨rfl, by decide, fw_X0, wd_fl_X2_87⟩
theorem fi_X11_224 : FI RX11 224 0 2 RX0 TX0 9 := ⟨rfl, by decide, fw_X0, wd_fl_X11_224⟩
theorem fi_X0_15 : FI RX0 15 0 3 RX0 TX0 9 := ⟨rfl, by decide, fw_X0, wd_fl_X0_15⟩
theorem fi_X4_51 : FI RX4 51 0 3 RX0 TX0 9 := ⟨rfl, by decide, fw_X0, wd_fl_X4_51⟩
theorem fi_X11_167 : FI RX11 167 0 3 RX0 TX0 9 := ⟨rfl, by decide, fw_X0, wd_fl_X11_167⟩
theorem fi_X0_18 : FI RX0 18 0 4 RX0 TX0 9 := ⟨rfl, by decide, fw_X0, wd_fl_X0_18⟩
theorem fi_X0_21 : FI RX0 21 0 5 RX0 TX0 9 := ⟨rfl, by decide, fw_X0, wd_fl_X0_21⟩
theorem fi_X0_24 : FI RX0 24 0 6 RX0 TX0 9 := ⟨rfl, by decide, fw_X0, wd_fl_X0_24⟩
theorem fi_X0_27 : FI RX0 27 0 7 RX0 TX0 9 := ⟨rfl, by decide, fw_X0, wd_fl_X0_27⟩
theorem fi_X0_30 : FI RX0 30 0 8 RX0 TX0 9 := ⟨rfl, by decide, fw_X0, wd_fl_X0_30⟩
theorem fi_X2_19 : FI RX2 19 2 0 RX2 TX2 10 := ⟨rfl, by decide, fw_X2, wd_fl_X2_19⟩
theorem fi_X2_23 : FI RX2 23 2 1 RX2 TX2 10 := ⟨rfl, by decide, fw_X2, wd_fl_X2_23⟩
theorem fi_X2_27 : FI RX2 27 2 2 RX2 TX2 10 := ⟨rfl, by decide, fw_X2, wd_fl_X2_27⟩
theorem fi_X2_40 : FI RX2 40 2 3 RX2 TX2 10 := ⟨rfl, by decide, fw_X2, wd_fl_X2_40⟩
theorem fi_X11_204 : FI RX11 204 2 3 RX2 TX2 10 := ⟨rfl, by decide, fw_X2, wd_fl_X11_204⟩
theorem fi_X2_96 : FI RX2 96 2 4 RX2 TX2 10 := ⟨rfl, by decide, fw_X2, wd_fl_X2_96⟩
theorem fi_X11_207 : FI RX11 207 2 4 RX2 TX2 10 := ⟨rfl, by decide, fw_X2, wd_fl_X11_207⟩
theorem fi_X2_108 : FI RX2 108 2 5 RX2 TX2 10 := ⟨rfl, by decide, fw_X2, wd_fl_X2_108⟩
theorem fi_X11_232 : FI RX11 232 2 5 RX2 TX2 10 := ⟨rfl, by decide, fw_X2, wd_fl_X11_232⟩
theorem fi_X2_67 : FI RX2 67 2 6 RX2 TX2 10 := ⟨rfl, by decide, fw_X2, wd_fl_X2_67⟩
theorem fi_X11_217 : FI RX11 217 2 6 RX2 TX2 10 := ⟨rfl, by decide, fw_X2, wd_fl_X11_217⟩
theorem fi_X2_63 : FI RX2 63 2 7 RX2 TX2 10 := ⟨rfl, by decide, fw_X2, wd_fl_X2_63⟩
theorem fi_X11_220 : FI RX11 220 2 7 RX2 TX2 10 := ⟨rfl, by decide, fw_X2, wd_fl_X11_220⟩
theorem fi_X2_9 : FI RX2 9 2 8 RX2 TX2 10 := ⟨rfl, by decide, fw_X2, wd_fl_X2_9⟩
theorem fi_X2_15 : FI RX2 15 2 9 RX2 TX2 10 := ⟨rfl, by decide, fw_X2, wd_fl_X2_15⟩
theorem fi_X9_21 : FI RX9 21 9 0 RX9 TX9 9 := ⟨rfl, by decide, fw_X9, wd_fl_X9_21⟩
theorem fi_X9_25 : FI RX9 25 9 1 RX9 TX9 9 := ⟨rfl, by decide, fw_X9, wd_fl_X9_25⟩
theorem fi_X9_29 : FI RX9 29 9 2 RX9 TX9 9 := ⟨rfl, by decide, fw_X9, wd_fl_X9_29⟩
theorem fi_X9_37 : FI RX9 37 9 3 RX9 TX9 9 := ⟨rfl, by decide, fw_X9, wd_fl_X9_37⟩
theorem fi_X11_257 : FI RX11 257 9 3 RX9 TX9 9 := ⟨rfl, by decide, fw_X9, wd_fl_X11_257⟩
theorem fi_X9_84 : FI RX9 84 9 4 RX9 TX9 9 := ⟨rfl, by decide, fw_X9, wd_fl_X9_84⟩
theorem fi_X11_260 : FI RX11 260 9 4 RX9 TX9 9 := ⟨rfl, by decide, fw_X9, wd_fl_X11_260⟩
theorem fi_X9_9 : FI RX9 9 9 5 RX9 TX9 9 := ⟨rfl, by decide, fw_X9, wd_fl_X9_9⟩
theorem fi_X11_251 : FI RX11 251 9 5 RX9 TX9 9 := ⟨rfl, by decide, fw_X9, wd_fl_X11_251⟩
theorem fi_X9_56 : FI RX9 56 9 6 RX9 TX9 9 := ⟨rfl, by decide, fw_X9, wd_fl_X9_56⟩
theorem fi_X9_15 : FI RX9 15 9 7 RX9 TX9 9 := ⟨rfl, by decide, fw_X9, wd_fl_X9_15⟩
theorem fi_X9_18 : FI RX9 18 9 8 RX9 TX9 9 := ⟨rfl, by decide, fw_X9, wd_fl_X9_18⟩
theorem fi_X4_18 : FI RX4 18 4 0 RX4 TX4 5 := ⟨rfl, by decide, fw_X4, wd_fl_X4_18⟩
theorem fi_X4_22 : FI RX4 22 4 1 RX4 TX4 5 := ⟨rfl, by decide, fw_X4, wd_fl_X4_22⟩
theorem fi_X4_26 : FI RX4 26 4 2 RX4 TX4 5 := ⟨rfl, by decide, fw_X4, wd_fl_X4_26⟩
theorem fi_X4_9 : FI RX4 9 4 3 RX4 TX4 5 := ⟨rfl, by decide, fw_X4, wd_fl_X4_9⟩
theorem fi_X11_269 : FI RX11 269 4 3 RX4 TX4 5 := ⟨rfl, by decide, fw_X4, wd_fl_X11_269⟩
theorem fi_X4_15 : FI RX4 15 4 4 RX4 TX4 5 := ⟨rfl, by decide, fw_X4, wd_fl_X4_15⟩
theorem fi_X11_10 : FI RX11 10 11 0 RX11 TX11 12 := ⟨rfl, by decide, fw_X11, wd_fl_X11_10⟩
theorem fi_X11_19 : FI RX11 19 11 1 RX11 TX11 12 := ⟨rfl, by decide, fw_X11, wd_fl_X11_19⟩
theorem fi_X11_23 : FI RX11 23 11 2 RX11 TX11 12 := ⟨rfl, by decide, fw_X11, wd_fl_X11_23⟩
theorem fi_X11_31 : FI RX11 31 11 3 RX11 TX11 12 := ⟨rfl, by decide, fw_X11, wd_fl_X11_31⟩
theorem fi_X11_38 : FI RX11 38 11 4 RX11 TX11 12 := ⟨rfl, by decide, fw_X11, wd_fl_X11_38⟩
theorem fi_X11_42 : FI RX11 42 11 5 RX11 TX11 12 := ⟨rfl, by decide, fw_X11, wd_fl_X11_42⟩
theorem fi_X11_107 : FI RX11 107 11 6 RX11 TX11 12 := ⟨rfl, by decide, fw_X11, wd_fl_X11_107⟩
theorem fi_X11_49 : FI RX11 49 11 7 RX11 TX11 12 := ⟨rfl, by decide, fw_X11, wd_fl_X11_49⟩
theorem fi_X11_58 : FI RX11 58 11 8 RX11 TX11 12 := ⟨rfl, by decide, fw_X11, wd_fl_X11_58⟩
theorem fi_X11_67 : FI RX11 67 11 9 RX11 TX11 12 := ⟨rfl, by decide, fw_X11, wd_fl_X11_67⟩
theorem fi_X11_74 : FI RX11 74 11 10 RX11 TX11 12 := ⟨rfl, by decide, fw_X11, wd_fl_X11_74⟩
theorem fi_X11_81 : FI RX11 81 11 11 RX11 TX11 12 := ⟨rfl, by decide, fw_X11, wd_fl_X11_81⟩
theorem fi_X12_1 : FI RX12 1 12 0 RX12 TX12 41 := ⟨rfl, by decide, fw_X12, wd_fl_X12_1⟩
theorem fi_X12_14 : FI RX12 14 12 1 RX12 TX12 41 := ⟨rfl, by decide, fw_X12, wd_fl_X12_14⟩
theorem fi_X12_11 : FI RX12 11 12 2 RX12 TX12 41 := ⟨rfl, by decide, fw_X12, wd_fl_X12_11⟩
theorem fi_X12_157 : FI RX12 157 12 3 RX12 TX12 41 := ⟨rfl, by decide, fw_X12, wd_fl_X12_157⟩
theorem fi_X12_24 : FI RX12 24 12 4 RX12 TX12 41 := ⟨rfl, by decide, fw_X12, wd_fl_X12_24⟩
theorem fi_X12_27 : FI RX12 27 12 5 RX12 TX12 41 := ⟨rfl, by decide, fw_X12, wd_fl_X12_27⟩
theorem fi_X12_30 : FI RX12 30 12 6 RX12 TX12 41 := ⟨rfl, by decide, fw_X12, wd_fl_X12_30⟩
theorem fi_X12_176 : FI RX12 176 12 7 RX12 TX12 41 := ⟨rfl, by decide, fw_X12, wd_fl_X12_176⟩
theorem fi_X12_179 : FI RX12 179 12 8 RX12 TX12 41 := ⟨rfl, by decide, fw_X12, wd_fl_X12_179⟩
theorem fi_X12_82 : FI RX12 82 12 9 RX12 TX12 41 := ⟨rfl, by decide, fw_X12, wd_fl_X12_82⟩
theorem fi_X12_85 : FI RX12 85 12 10 RX12 TX12 41 := ⟨rfl, by decide, fw_X12, wd_fl_X12_85⟩
theorem fi_X12_88 : FI RX12 88 12 11 RX12 TX12 41 := ⟨rfl, by decide, fw_X12, wd_fl_X12_88⟩
theorem fi_X12_91 : FI RX12 91 12 12 RX12 TX12 41 := ⟨rfl, by decide, fw_X12, wd_fl_X12_91⟩
theorem fi_X12_94 : FI RX12 94 12 13 RX12 TX12 41 := ⟨rfl, by decide, fw_X12, wd_fl_X12_94⟩
theorem fi_X12_97 : FI RX12 97 12 14 RX12 TX12 41 := ⟨rfl, by decide, fw_X12, wd_fl_X12_97⟩
theorem fi_X12_207 : FI RX12 207 12 15 RX12 TX12 41 := ⟨rfl, by decide, fw_X12, wd_fl_X12_207⟩
theorem fi_X12_100 : FI RX12 100 12 16 RX12 TX12 41 := ⟨rfl, by decide, fw_X12, wd_fl_X12_100⟩
theorem fi_X12_103 : FI RX12 103 12 17 RX12 TX12 41 := ⟨rfl, by decide, fw_X12, wd_fl_X12_103⟩
theorem fi_X12_201 : FI RX12 201 12 18 RX12 TX12 41 := ⟨rfl, by decide, fw_X12, wd_fl_X12_201⟩
theorem fi_X12_210 : FI RX12 210 12 19 RX12 TX12 41 := ⟨rfl, by decide, fw_X12, wd_fl_X12_210⟩
theorem fi_X12_213 : FI RX12 213 12 20 RX12 TX12 41 := ⟨rfl, by decide, fw_X12, wd_fl_X12_213⟩
theorem fi_X12_216 : FI RX12 216 12 21 RX12 TX12 41 := ⟨rfl, by decide, fw_X12, wd_fl_X12_216⟩
theorem fi_X12_276 : FI RX12 276 12 22 RX12 TX12 41 := ⟨rfl, by decide, fw_X12, wd_fl_X12_276⟩
theorem fi_X12_106 : FI RX12 106 12 23 RX12 TX12 41 := ⟨rfl, by decide, fw_X12, wd_fl_X12_106⟩
theorem fi_X12_109 : FI RX12 109 12 24 RX12 TX12 41 := ⟨rfl, by decide, fw_X12, wd_fl_X12_109⟩
theorem fi_X12_112 : FI RX12 112 12 25 RX12 TX12 41 := ⟨rfl, by decide, fw_X12, wd_fl_X12_112⟩
theorem fi_X12_115 : FI RX12 115 12 26 RX12 TX12 41 := ⟨rfl, by decide, fw_X12, wd_fl_X12_115⟩
theorem fi_X12_230 : FI RX12 230 12 27 RX12 TX12 41 := ⟨rfl, by decide, fw_X12, wd_fl_X12_230⟩
theorem fi_X12_118 : FI RX12 118 12 28 RX12 TX12 41 := ⟨rfl, by decide, fw_X12, wd_fl_X12_118⟩
theorem fi_X12_122 : FI RX12 122 12 29 RX12 TX12 41 := ⟨rfl, by decide, fw_X12, wd_fl_X12_122⟩
theorem fi_X12_125 : FI RX12 125 12 30 RX12 TX12 41 := ⟨rfl, by decide, fw_X12, wd_fl_X12_125⟩
theorem fi_X12_128 : FI RX12 128 12 31 RX12 TX12 41 := ⟨rfl, by decide, fw_X12, wd_fl_X12_128⟩
theorem fi_X12_131 : FI RX12 131 12 32 RX12 TX12 41 := ⟨rfl, by decide, fw_X12, wd_fl_X12_131⟩
theorem fi_X12_376 : FI RX12 376 12 33 RX12 TX12 41 := ⟨rfl, by decide, fw_X12, wd_fl_X12_376⟩
theorem fi_X12_379 : FI RX12 379 12 34 RX12 TX12 41 := ⟨rfl, by decide, fw_X12, wd_fl_X12_379⟩
theorem fi_X12_134 : FI RX12 134 12 35 RX12 TX12 41 := ⟨rfl, by decide, fw_X12, wd_fl_X12_134⟩
theorem fi_X12_137 : FI RX12 137 12 36 RX12 TX12 41 := ⟨rfl, by decide, fw_X12, wd_fl_X12_137⟩
theorem fi_X12_140 : FI RX12 140 12 37 RX12 TX12 41 := ⟨rfl, by decide, fw_X12, wd_fl_X12_140⟩
theorem fi_X12_143 : FI RX12 143 12 38 RX12 TX12 41 := ⟨rfl, by decide, fw_X12, wd_fl_X12_143⟩
theorem fi_X12_410 : FI RX12 410 12 39 RX12 TX12 41 := ⟨rfl, by decide, fw_X12, wd_fl_X12_410⟩
theorem fi_X12_146 : FI RX12 146 12 40 RX12 TX12 41 := ⟨rfl, by decide, fw_X12, wd_fl_X12_146⟩
theorem fp_X0 : FP 0 RX0 TX0 9 tyX0 := ⟨tyX0_ok, nmX0⟩
theorem fp_X1 : FP 1 RX1 TX1 3 tyX1 := ⟨tyX1_ok, nmX1⟩
theorem fp_X2 : FP 2 RX2 TX2 10 tyX2 := ⟨tyX2_ok, nmX2⟩
theorem fp_X3 : FP 3 RX3 TX3 4 tyX3 := ⟨tyX3_ok, nmX3⟩
theorem fp_X4 : FP 4 RX4 TX4 5 tyX4 := ⟨tyX4_ok, nmX4⟩
theorem fp_X5 : FP 5 RX5 TX5 14 tyX5 := ⟨tyX5_ok, nmX5⟩
theorem fp_X6 : FP 6 RX6 TX6 5 tyX6 := ⟨tyX6_ok, nmX6⟩
theorem fp_X7 : FP 7 RX7 TX7 3 tyX7 := ⟨tyX7_ok, nmX7⟩
theorem fp_X8 : FP 8 RX8 TX8 11 tyX8 := ⟨tyX8_ok, nmX8⟩
theorem fp_X9 : FP 9 RX9 TX9 9 tyX9 := ⟨tyX9_ok, nmX9⟩
theorem fp_X10 : FP 10 RX10 TX10 10 tyX10 := ⟨tyX10_ok, nmX10⟩
theorem fp_X11 : FP 11 RX11 TX11 12 tyX11 := ⟨tyX11_ok, nmX11⟩
theorem fp_X12 : FP 12 RX12 TX12 41 tyX12 := ⟨tyX12_ok, nmX12⟩
theorem b2i_0 {b : Bool} (h : b2i b = 0) : b = false := by cases b with
  | false => rfl
  | true => exact absurd h (by decide)
theorem b2i_1 {b : Bool} (h : ¬ b2i b = 0) : b = true := by cases b with
  | true => rfl
  | false => exact absurd rfl h
theorem nz_b2i (b : Bool) : narrow .boolean (.int (b2i b)) = .int (b2i b) ∧ fits .boolean (.int (b2i b)) = true := by cases b <;> exact ⟨rfl, rfl⟩
theorem nz_of {x : Int32} (h : x &&& 1 = x) : narrow .boolean (.int x) = .int x ∧ fits .boolean (.int x) = true := by
  have e : narrow .boolean (.int x) = .int (x &&& 1) := rfl
  rw [h] at e
  refine ⟨e, ?_⟩
  have h2 : x = 0 ∨ x = 1 := by
    have h3 := pk_and x (m := 1) 1 (by decide)
    rw [h] at h3
    rcases Nat.mod_two_eq_zero_or_one x.toBitVec.toNat with q | q
    · left; rw [h3, show (2 : Nat) ^ 1 = 2 from rfl, q]; rfl
    · right; rw [h3, show (2 : Nat) ^ 1 = 2 from rfl, q]; rfl
  rcases h2 with rfl | rfl <;> rfl
section
variable {X : Cx} {cc : ByteArray} {own : String} {nL : Nat} {ret : Option FieldType} {lev c0 s0 cells slots pc : Nat} {L : List DS} {lv : List (Option AV)} {st : List AV} {M : Mem}
theorem s_nmi {x : Int32} (k : ∀ v : Int32, v = x → Wat X cells slots L pc lv (vi v :: st) M) : Wat X cells slots L pc lv (vi x :: st) M := k x rfl
theorem s_nml {x : Int64} (k : ∀ v : Int64, v = x → Wat X cells slots L pc lv (vl v :: st) M) : Wat X cells slots L pc lv (vl x :: st) M := k x rfl
theorem s_getiv (hX : Cok X cc own nL ret lev c0 s0) {k ci j idx N : Nat} {C : String} {T : u_T} {fs : List FD} {v : Int32} (hf : FI own idx ci j C T N) (hk : L[k]? = some (.inl (ci, fs))) (hj : fs[j]? = some (.inl true)) (d : decode cc pc = .ok (.getfield idx, 3)) (hv : M.1 k j = v) (k1 : Wat X cells slots L (pc + 3) lv (vi v :: st) M) : Wat X cells slots L pc lv (vr k :: st) M := by
  subst hv; exact s_geti hX hf hk hj d k1
theorem s_getlv (hX : Cok X cc own nL ret lev c0 s0) {k ci j idx N : Nat} {C : String} {T : u_T} {fs : List FD} {v : Int64} (hf : FI own idx ci j C T N) (hk : L[k]? = some (.inl (ci, fs))) (hj : fs[j]? = some (.inl false)) (d : decode cc pc = .ok (.getfield idx, 3)) (hv : M.2 k j = v) (k1 : Wat X cells slots L (pc + 3) lv (vl v :: st) M) : Wat X cells slots L pc lv (vr k :: st) M := by
  subst hv; exact s_getl hX hf hk hj d k1
theorem s_ialdv (hX : Cok X cc own nL ret lev c0 s0) {k n : Nat} {rs : List (Option Nat)} {i : Int32} {v : Int32} (hk : L[k]? = some (.inr (0, n, rs))) (hin : vp_in i n) (d : decode cc pc = .ok (.iaload, 1)) (hv : M.1 k i.toNatClampNeg = v) (k1 : Wat X cells slots L (pc + 1) lv (vi v :: st) M) : Wat X cells slots L pc lv (vi i :: vr k :: st) M := by
  subst hv; exact s_iald hX hk hin d k1
theorem s_caldv (hX : Cok X cc own nL ret lev c0 s0) {k n : Nat} {rs : List (Option Nat)} {i : Int32} {v : Int32} (hk : L[k]? = some (.inr (2, n, rs))) (hin : vp_in i n) (d : decode cc pc = .ok (.caload, 1)) (hv : M.1 k i.toNatClampNeg = v) (k1 : Wat X cells slots L (pc + 1) lv (vi v :: st) M) : Wat X cells slots L pc lv (vi i :: vr k :: st) M := by
  subst hv; exact s_cald hX hk hin d k1
theorem s_zaldv (hX : Cok X cc own nL ret lev c0 s0) {k n : Nat} {rs : List (Option Nat)} {i : Int32} {v : Int32} (hk : L[k]? = some (.inr (3, n, rs))) (hin : vp_in i n) (d : decode cc pc = .ok (.baload, 1)) (hv : M.1 k i.toNatClampNeg = v) (k1 : Wat X cells slots L (pc + 1) lv (vi v :: st) M) : Wat X cells slots L pc lv (vi i :: vr k :: st) M := by
  subst hv; exact s_zald hX hk hin d k1
theorem s_laldv (hX : Cok X cc own nL ret lev c0 s0) {k n : Nat} {rs : List (Option Nat)} {i : Int32} {v : Int64} (hk : L[k]? = some (.inr (1, n, rs))) (hin : vp_in i n) (d : decode cc pc = .ok (.laload, 1)) (hv : M.2 k i.toNatClampNeg = v) (k1 : Wat X cells slots L (pc + 1) lv (vl v :: st) M) : Wat X cells slots L pc lv (vi i :: vr k :: st) M := by
  subst hv; exact s_lald hX hk hin d k1
theorem s_acmp_same (hX : Cok X cc own nL ret lev c0 s0) {k : Nat} {off : Int} {tgt : Nat} (d : decode cc pc = .ok (.if_acmp .ne off, 3)) (ht : (pc : Int) + off = (tgt : Int)) (k1 : Wat X cells slots L (pc + 3) lv st M) : Wat X cells slots L pc lv (vr k :: vr k :: st) M := by
  obtain ⟨p, l, e, R, s, m, args, below, meth, c, Q, D, cA, ad, A⟩ := X
  obtain ⟨⟨hx, hb, hml, hown, hts⟩, hK, hA, hlk, hrt, hR⟩ := hX
  intro H locs ls hw hl
  exact lv_acmp_ne (rx := some (ad k)) (ry := some (ad k)) hx hb d ht (fun h => absurd rfl h) (fun h => k1 H locs ls hw hl)
theorem s_acmp_diff (hX : Cok X cc own nL ret lev c0 s0) {k q : Nat} {off : Int} {tgt : Nat} {x y : DS} (h1 : L[k]? = some x) (h2 : L[q]? = some y) (hne : k ≠ q) (d : decode cc pc = .ok (.if_acmp .ne off, 3)) (ht : (pc : Int) + off = (tgt : Int)) (k1 : Wat X cells slots L tgt lv st M) : Wat X cells slots L pc lv (vr q :: vr k :: st) M := by
  obtain ⟨p, l, e, R, s, m, args, below, meth, c, Q, D, cA, ad, A⟩ := X
  obtain ⟨⟨hx, hb, hml, hown, hts⟩, hK, hA, hlk, hrt, hR⟩ := hX
  intro H locs ls hw hl
  exact lv_acmp_ne (rx := some (ad k)) (ry := some (ad q)) hx hb d ht (fun h => k1 H locs ls hw hl) (fun h => absurd (hw.2.1.1 k q _ _ (wsO_at h1) (wsO_at h2) (Option.some.inj h)) hne)
theorem co_mmax : Cond.code Lib.Math.max.name Lib.Math.max.code 2 (some .int) ∈ TB := wd_co_J9_max_7cf53
theorem s_mmax (hX : Cok X cc own nL ret lev c0 s0) {idx : Nat} {x y : Int32} (hl0 : Cond.methodLink own idx Lib.Math.max.name ∈ TB) (hlv : lv.length = nL) (hlev : 1 ≤ lev) (hst : (st.map avc).sum ≤ 8) (hcs : cells ≤ c0 ∧ slots ≤ s0) (d : decode cc pc = .ok (.invokestatic idx, 3)) (k : Wat X cells slots L (pc + 3) lv (vi (if x < y then y else x) :: st) M) : Wat X cells slots L pc lv (vi y :: vi x :: st) M := by
  obtain ⟨p, l, e, R, s, m, args, below, meth, c, Q, D, cA, ad, A⟩ := X
  obtain ⟨⟨hx, hb, hml, hown, hts⟩, hK, hA, hlk, hrt, hR⟩ := hX
  intro H locs ls hw hl
  have h8 := map_cat8 (ad := ad) hst
  exact va_mmax hx hb (by rw [hml, ← hlv]; exact hl.1.symm) hown (hts _ hl0) (hts _ wd_sm_J9_max_7cf53) (hts _ wd_in_J9) (hts _ co_mmax) (by omega) (by omega) (by omega) (by omega) d (k H locs ls hw hl)
theorem co_mmin : Cond.code Lib.Math.min.name Lib.Math.min.code 2 (some .int) ∈ TB := wd_co_J9_min_7cf53
theorem s_mmin (hX : Cok X cc own nL ret lev c0 s0) {idx : Nat} {x y : Int32} (hl0 : Cond.methodLink own idx Lib.Math.min.name ∈ TB) (hlv : lv.length = nL) (hlev : 1 ≤ lev) (hst : (st.map avc).sum ≤ 8) (hcs : cells ≤ c0 ∧ slots ≤ s0) (d : decode cc pc = .ok (.invokestatic idx, 3)) (k : Wat X cells slots L (pc + 3) lv (vi (if y < x then y else x) :: st) M) : Wat X cells slots L pc lv (vi y :: vi x :: st) M := by
  obtain ⟨p, l, e, R, s, m, args, below, meth, c, Q, D, cA, ad, A⟩ := X
  obtain ⟨⟨hx, hb, hml, hown, hts⟩, hK, hA, hlk, hrt, hR⟩ := hX
  intro H locs ls hw hl
  have h8 := map_cat8 (ad := ad) hst
  exact va_mmin hx hb (by rw [hml, ← hlv]; exact hl.1.symm) hown (hts _ hl0) (hts _ wd_sm_J9_min_7cf53) (hts _ wd_in_J9) (hts _ co_mmin) (by omega) (by omega) (by omega) (by omega) d (k H locs ls hw hl)
end
