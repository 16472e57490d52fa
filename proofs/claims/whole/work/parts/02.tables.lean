/-! TABLES: what the constant pools name, by class number and index, each with the place of its words in lw_tbl (written by tools/gen_tables.py) -/
abbrev zM : Type := MethodName × ByteArray × Nat × Option FieldType × Nat × Nat × Nat
def zR0 (j : Nat) : String := match j with
  | 0 => RX0
  | 1 => RX1
  | 2 => RX2
  | 3 => RX3
  | 4 => RX4
  | 5 => RX5
  | 6 => RX6
  | 7 => RX7
  | 8 => RX8
  | 9 => RX9
  | 10 => RX10
  | 11 => RX11
  | 12 => RL
  | 20 => RJ0
  | 21 => RJ1
  | 22 => RJ6
  | 23 => RJ9
  | 24 => RJ7
  | 26 => RJ10
  | 27 => RJ2
  | _ => RJ3
/-- fields: 0 int, 1 boolean, 2 long, 3 a reference -/
def zfl : List (List Nat) := [[3, 3, 3, 3], [2], [2], [2], [2], [2], [2], [0, 0, 0, 0, 3, 3, 3, 3, 3], [0, 3, 0, 0, 0, 0, 1, 1], [0, 0, 0, 0, 0, 3, 3, 3, 3, 3, 3, 3, 3, 3, 3], [3, 3, 3, 3, 3, 3, 3, 3, 3], [2, 0, 3, 0, 3, 3, 3, 3, 3, 0, 0, 0, 0, 0, 3, 0, 0, 3, 3, 3]]
def zft (kd k : Nat) : Nat := (zfl.getD kd []).getD k 9
/-! methods: name, code, locals, answer, class number, cells and slots that it makes -/
abbrev mX0_init : zM := (yX0_init, cX0_init, 1, none, 0, 4, 22)
abbrev mX0_goOn : zM := (yX0_goOn, cX0_goOn, 4, none, 0, 0, 0)
abbrev mX0_lastWeek : zM := (yX0_lastWeek, cX0_lastWeek, 6, none, 0, 0, 0)
abbrev mX0_searchAll : zM := (yX0_searchAll, cX0_searchAll, 5, none, 0, 0, 0)
abbrev mX0_share : zM := (yX0_share, cX0_share, 6, none, 0, 0, 0)
abbrev mX0_firstWeek : zM := (yX0_firstWeek, cX0_firstWeek, 10, none, 0, 0, 0)
abbrev mX1_init : zM := (yX1_init, cX1_init, 1, none, 1, 0, 0)
abbrev mX1_worth : zM := (yX1_worth, cX1_worth, 4, (some .int), 1, 0, 0)
abbrev mX2_init : zM := (yX2_init, cX2_init, 1, none, 2, 0, 0)
abbrev mX2_worth : zM := (yX2_worth, cX2_worth, 4, (some .int), 2, 0, 0)
abbrev mX3_init : zM := (yX3_init, cX3_init, 1, none, 3, 0, 0)
abbrev mX3_worth : zM := (yX3_worth, cX3_worth, 4, (some .int), 3, 0, 0)
abbrev mX4_init : zM := (yX4_init, cX4_init, 1, none, 4, 0, 0)
abbrev mX4_worth : zM := (yX4_worth, cX4_worth, 4, (some .int), 4, 0, 0)
abbrev mX5_init : zM := (yX5_init, cX5_init, 1, none, 5, 0, 0)
abbrev mX5_worth : zM := (yX5_worth, cX5_worth, 4, (some .int), 5, 0, 0)
abbrev mX6_init : zM := (yX6_init, cX6_init, 1, none, 6, 0, 0)
abbrev mX6_worth : zM := (yX6_worth, cX6_worth, 4, (some .int), 6, 0, 0)
abbrev mX7_init : zM := (yX7_init, cX7_init, 1, none, 7, 5, 32)
abbrev mX7_begin : zM := (yX7_begin, cX7_begin, 2, none, 7, 0, 0)
abbrev mX7_foundBy : zM := (yX7_foundBy, cX7_foundBy, 4, none, 7, 0, 0)
abbrev mX7_draw : zM := (yX7_draw, cX7_draw, 5, (some .int), 7, 0, 0)
abbrev mX7_passWeek : zM := (yX7_passWeek, cX7_passWeek, 6, (some .int), 7, 0, 0)
abbrev mX7_hadByAll : zM := (yX7_hadByAll, cX7_hadByAll, 3, (some .int), 7, 0, 0)
abbrev mX7_becomeAs : zM := (yX7_becomeAs, cX7_becomeAs, 3, none, 7, 0, 0)
abbrev mX7_addSeen : zM := (yX7_addSeen, cX7_addSeen, 4, none, 7, 0, 0)
abbrev mX7_sawNoOther : zM := (yX7_sawNoOther, cX7_sawNoOther, 4, (some .boolean), 7, 0, 0)
abbrev mX8_init : zM := (yX8_init, cX8_init, 1, none, 8, 1, 200)
abbrev mX8_append : zM := (yX8_append, cX8_append, 5, none, 8, 0, 0)
abbrev mX8_tellTo : zM := (yX8_tellTo, cX8_tellTo, 3, (some .int), 8, 0, 0)
abbrev mX8_readToken : zM := (yX8_readToken, cX8_readToken, 1, none, 8, 0, 0)
abbrev mX8_isLetter : zM := (yX8_isLetter, cX8_isLetter, 2, (some .boolean), 8, 0, 0)
abbrev mX8_readWord : zM := (yX8_readWord, cX8_readWord, 1, none, 8, 0, 0)
abbrev mX8_isWord : zM := (yX8_isWord, cX8_isWord, 3, (some .boolean), 8, 0, 0)
abbrev mX8_isDigit : zM := (yX8_isDigit, cX8_isDigit, 2, (some .boolean), 8, 0, 0)
abbrev mX8_readDigits : zM := (yX8_readDigits, cX8_readDigits, 2, none, 8, 0, 0)
abbrev mX8_readsItem : zM := (yX8_readsItem, cX8_readsItem, 3, (some .boolean), 8, 0, 0)
abbrev mX8_readsPlace : zM := (yX8_readsPlace, cX8_readsPlace, 2, (some .boolean), 8, 0, 0)
abbrev mX8_isNumber : zM := (yX8_isNumber, cX8_isNumber, 3, (some .boolean), 8, 0, 0)
abbrev mX8_readsSeeker : zM := (yX8_readsSeeker, cX8_readsSeeker, 3, (some .boolean), 8, 0, 0)
abbrev mX8_readsRing : zM := (yX8_readsRing, cX8_readsRing, 2, (some .boolean), 8, 0, 0)
abbrev mX8_readsLaw : zM := (yX8_readsLaw, cX8_readsLaw, 2, (some .boolean), 8, 0, 0)
abbrev mX9_init : zM := (yX9_init, cX9_init, 1, none, 9, 22, 110)
abbrev mX9_empty : zM := (yX9_empty, cX9_empty, 1, none, 9, 0, 0)
abbrev mX9_addPlace : zM := (yX9_addPlace, cX9_addPlace, 2, none, 9, 0, 0)
abbrev mX9_addSeeker : zM := (yX9_addSeeker, cX9_addSeeker, 2, none, 9, 0, 0)
abbrev mX9_isPlace : zM := (yX9_isPlace, cX9_isPlace, 2, (some .boolean), 9, 0, 0)
abbrev mX9_addHabit : zM := (yX9_addHabit, cX9_addHabit, 3, none, 9, 0, 0)
abbrev mX9_isSeeker : zM := (yX9_isSeeker, cX9_isSeeker, 2, (some .boolean), 9, 0, 0)
abbrev mX9_settle : zM := (yX9_settle, cX9_settle, 3, none, 9, 0, 0)
abbrev mX9_settleOrder : zM := (yX9_settleOrder, cX9_settleOrder, 4, none, 9, 0, 0)
abbrev mX9_settleNoWorse : zM := (yX9_settleNoWorse, cX9_settleNoWorse, 4, none, 9, 0, 0)
abbrev mX9_settleReach : zM := (yX9_settleReach, cX9_settleReach, 7, none, 9, 0, 0)
abbrev mX9_behind : zM := (yX9_behind, cX9_behind, 3, (some .int), 9, 0, 0)
abbrev mX9_finds : zM := (yX9_finds, cX9_finds, 4, (some .boolean), 9, 0, 0)
abbrev mX9_stopsAt : zM := (yX9_stopsAt, cX9_stopsAt, 6, (some .int), 9, 0, 0)
abbrev mX9_minutesOfFirst : zM := (yX9_minutesOfFirst, cX9_minutesOfFirst, 4, (some .int), 9, 0, 0)
abbrev mX10_init : zM := (yX10_init, cX10_init, 2, none, 10, 86, 664)
abbrev mX10_type : zM := (yX10_type, cX10_type, 4, (some .int), 10, 0, 0)
abbrev mX10_clear : zM := (yX10_clear, cX10_clear, 2, (some .int), 10, 0, 0)
abbrev mX10_town : zM := (yX10_town, cX10_town, 4, (some .int), 10, 0, 0)
abbrev mX10_place : zM := (yX10_place, cX10_place, 3, (some .int), 10, 0, 0)
abbrev mX10_seeker : zM := (yX10_seeker, cX10_seeker, 3, (some .int), 10, 0, 0)
abbrev mX10_habit : zM := (yX10_habit, cX10_habit, 3, (some .int), 10, 0, 0)
abbrev mX10_puts : zM := (yX10_puts, cX10_puts, 3, (some .int), 10, 0, 0)
abbrev mX10_looks : zM := (yX10_looks, cX10_looks, 3, (some .int), 10, 0, 0)
abbrev mX10_week : zM := (yX10_week, cX10_week, 1, (some .int), 10, 0, 0)
abbrev mX10_now : zM := (yX10_now, cX10_now, 2, (some .int), 10, 0, 0)
abbrev mX10_lot : zM := (yX10_lot, cX10_lot, 3, (some .int), 10, 0, 0)
abbrev mX10_lies : zM := (yX10_lies, cX10_lies, 2, (some .int), 10, 0, 0)
abbrev mX10_weeksLying : zM := (yX10_weeksLying, cX10_weeksLying, 3, (some .int), 10, 0, 0)
abbrev mX10_longest : zM := (yX10_longest, cX10_longest, 5, (some .int), 10, 0, 0)
abbrev mX10_odds : zM := (yX10_odds, cX10_odds, 4, (some .long), 10, 0, 0)
abbrev mX10_leastTerm : zM := (yX10_leastTerm, cX10_leastTerm, 12, (some .long), 10, 0, 0)
abbrev mX10_lots : zM := (yX10_lots, cX10_lots, 3, (some .int), 10, 0, 0)
abbrev mX10_sweep : zM := (yX10_sweep, cX10_sweep, 2, (some .int), 10, 0, 0)
abbrev mX10_order : zM := (yX10_order, cX10_order, 2, (some .int), 10, 0, 0)
abbrev mX10_saw : zM := (yX10_saw, cX10_saw, 4, (some .int), 10, 0, 0)
abbrev mX10_forget : zM := (yX10_forget, cX10_forget, 2, (some .int), 10, 0, 0)
abbrev mX10_could : zM := (yX10_could, cX10_could, 4, (some .int), 10, 0, 0)
abbrev mX10_canHaveBegunAt : zM := (yX10_canHaveBegunAt, cX10_canHaveBegunAt, 4, (some .boolean), 10, 0, 0)
abbrev mX10_mark : zM := (yX10_mark, cX10_mark, 3, (some .int), 10, 0, 0)
abbrev mX10_keep : zM := (yX10_keep, cX10_keep, 2, (some .int), 10, 0, 0)
abbrev mX10_back : zM := (yX10_back, cX10_back, 2, (some .int), 10, 0, 0)
abbrev mX10_count : zM := (yX10_count, cX10_count, 2, (some .int), 10, 0, 0)
abbrev mX10_trace : zM := (yX10_trace, cX10_trace, 4, (some .long), 10, 0, 0)
abbrev mX11_init : zM := (yX11_init, cX11_init, 1, none, 11, 10, 7914)
abbrev mX11_type : zM := (yX11_type, cX11_type, 5, (some .int), 11, 0, 0)
abbrev mX11_in : zM := (yX11_in, cX11_in, 3, (some .boolean), 11, 0, 0)
abbrev mX11_clear : zM := (yX11_clear, cX11_clear, 2, (some .int), 11, 0, 0)
abbrev mX11_town : zM := (yX11_town, cX11_town, 2, (some .int), 11, 0, 0)
abbrev mX11_reads : zM := (yX11_reads, cX11_reads, 2, (some .boolean), 11, 0, 0)
abbrev mX11_token : zM := (yX11_token, cX11_token, 1, none, 11, 0, 0)
abbrev mX11_byteAt : zM := (yX11_byteAt, cX11_byteAt, 2, (some .int), 11, 0, 0)
abbrev mX11_sortOf : zM := (yX11_sortOf, cX11_sortOf, 1, (some .int), 11, 0, 0)
abbrev mX11_verb : zM := (yX11_verb, cX11_verb, 4, (some .int), 11, 0, 0)
abbrev mX11_readsItem : zM := (yX11_readsItem, cX11_readsItem, 2, (some .boolean), 11, 0, 0)
abbrev mX11_readsPlace : zM := (yX11_readsPlace, cX11_readsPlace, 2, (some .boolean), 11, 0, 0)
abbrev mX11_number : zM := (yX11_number, cX11_number, 3, (some .int), 11, 0, 0)
abbrev mX11_figure : zM := (yX11_figure, cX11_figure, 5, (some .int), 11, 0, 0)
abbrev mX11_readsSeeker : zM := (yX11_readsSeeker, cX11_readsSeeker, 5, (some .boolean), 11, 0, 0)
abbrev mX11_once : zM := (yX11_once, cX11_once, 5, (some .boolean), 11, 0, 0)
abbrev mX11_place : zM := (yX11_place, cX11_place, 3, (some .int), 11, 0, 0)
abbrev mX11_isPlace : zM := (yX11_isPlace, cX11_isPlace, 2, (some .boolean), 11, 0, 0)
abbrev mX11_noWorse : zM := (yX11_noWorse, cX11_noWorse, 4, (some .int), 11, 0, 0)
abbrev mX11_seeker : zM := (yX11_seeker, cX11_seeker, 3, (some .int), 11, 0, 0)
abbrev mX11_isSeeker : zM := (yX11_isSeeker, cX11_isSeeker, 2, (some .boolean), 11, 0, 0)
abbrev mX11_habit : zM := (yX11_habit, cX11_habit, 3, (some .int), 11, 0, 0)
abbrev mX11_puts : zM := (yX11_puts, cX11_puts, 3, (some .int), 11, 0, 0)
abbrev mX11_looks : zM := (yX11_looks, cX11_looks, 3, (some .int), 11, 0, 0)
abbrev mX11_hides : zM := (yX11_hides, cX11_hides, 6, none, 11, 0, 0)
abbrev mX11_ones : zM := (yX11_ones, cX11_ones, 3, (some .int), 11, 0, 0)
abbrev mX11_drawn : zM := (yX11_drawn, cX11_drawn, 2, (some .int), 11, 0, 0)
abbrev mX11_member : zM := (yX11_member, cX11_member, 6, (some .int), 11, 0, 0)
abbrev mX11_week : zM := (yX11_week, cX11_week, 3, (some .int), 11, 0, 0)
abbrev mX11_starts : zM := (yX11_starts, cX11_starts, 4, none, 11, 0, 0)
abbrev mX11_plays : zM := (yX11_plays, cX11_plays, 3, (some .int), 11, 0, 0)
abbrev mX11_finds : zM := (yX11_finds, cX11_finds, 4, (some .boolean), 11, 0, 0)
abbrev mX11_now : zM := (yX11_now, cX11_now, 4, (some .int), 11, 0, 0)
abbrev mX11_lot : zM := (yX11_lot, cX11_lot, 3, (some .int), 11, 0, 0)
abbrev mX11_lies : zM := (yX11_lies, cX11_lies, 2, (some .int), 11, 0, 0)
abbrev mX11_firstWeek : zM := (yX11_firstWeek, cX11_firstWeek, 3, (some .int), 11, 0, 0)
abbrev mX11_longest : zM := (yX11_longest, cX11_longest, 5, (some .int), 11, 0, 0)
abbrev mX11_odds : zM := (yX11_odds, cX11_odds, 9, (some .long), 11, 0, 0)
abbrev mX11_state : zM := (yX11_state, cX11_state, 1, (some .int), 11, 0, 0)
abbrev mX11_spreadsAll : zM := (yX11_spreadsAll, cX11_spreadsAll, 3, none, 11, 0, 0)
abbrev mX11_spreads : zM := (yX11_spreads, cX11_spreads, 7, none, 11, 0, 0)
abbrev mX11_isAt : zM := (yX11_isAt, cX11_isAt, 4, none, 11, 0, 0)
abbrev mX11_part : zM := (yX11_part, cX11_part, 7, (some .long), 11, 0, 0)
abbrev mX11_divisor : zM := (yX11_divisor, cX11_divisor, 10, (some .long), 11, 0, 0)
abbrev mX11_lots : zM := (yX11_lots, cX11_lots, 3, (some .int), 11, 0, 0)
abbrev mX11_allHard : zM := (yX11_allHard, cX11_allHard, 3, (some .int), 11, 0, 0)
abbrev mX11_sweep : zM := (yX11_sweep, cX11_sweep, 4, (some .int), 11, 0, 0)
abbrev mX11_rank : zM := (yX11_rank, cX11_rank, 4, (some .int), 11, 0, 0)
abbrev mX11_order : zM := (yX11_order, cX11_order, 4, (some .int), 11, 0, 0)
abbrev mX11_saw : zM := (yX11_saw, cX11_saw, 5, (some .int), 11, 0, 0)
abbrev mX11_forget : zM := (yX11_forget, cX11_forget, 2, (some .int), 11, 0, 0)
abbrev mX11_could : zM := (yX11_could, cX11_could, 4, (some .int), 11, 0, 0)
abbrev mX11_began : zM := (yX11_began, cX11_began, 5, (some .boolean), 11, 0, 0)
abbrev mX11_mark : zM := (yX11_mark, cX11_mark, 6, (some .int), 11, 0, 0)
abbrev mX11_keep : zM := (yX11_keep, cX11_keep, 3, (some .int), 11, 0, 0)
abbrev mX11_back : zM := (yX11_back, cX11_back, 3, (some .int), 11, 0, 0)
abbrev mX11_count : zM := (yX11_count, cX11_count, 2, (some .int), 11, 0, 0)
abbrev mX11_trace : zM := (yX11_trace, cX11_trace, 1, (some .long), 11, 0, 0)
abbrev mJ0_length_8abf5 : zM := (yJ0_length_8abf5, cJ0_length_8abf5, 1, (some .int), 20, 0, 0)
abbrev mJ0_coder_7d493 : zM := (yJ0_coder_7d493, cJ0_coder_7d493, 1, (some .byte), 20, 0, 0)
abbrev mJ0_charAt_5068e : zM := (yJ0_charAt_5068e, cJ0_charAt_5068e, 2, (some .char), 20, 0, 0)
abbrev mJ0_isLatin1_aae02 : zM := (yJ0_isLatin1_aae02, cJ0_isLatin1_aae02, 1, (some .boolean), 20, 0, 0)
abbrev mJ0_checkIndex_df160 : zM := (yJ0_checkIndex_df160, cJ0_checkIndex_df160, 2, none, 20, 0, 0)
abbrev mJ1_charAt_3b067 : zM := (yJ1_charAt_3b067, cJ1_charAt_3b067, 2, (some .char), 21, 0, 0)
abbrev mJ6_bitCount_0f7a4 : zM := (yJ6_bitCount_0f7a4, cJ6_bitCount_0f7a4, 1, (some .int), 22, 0, 0)
abbrev mJ7_fill_53178 : zM := (yJ7_fill_53178, cJ7_fill_53178, 4, none, 24, 0, 0)
abbrev mJ7_fill_d0a16 : zM := (yJ7_fill_d0a16, cJ7_fill_d0a16, 5, none, 24, 0, 0)
abbrev mJ3_checkIndex_8e157 : zM := (yJ3_checkIndex_8e157, cJ3_checkIndex_8e157, 3, (some .int), 25, 0, 0)
def zMs : List zM := [mX0_init, mX0_goOn, mX0_lastWeek, mX0_searchAll, mX0_share, mX0_firstWeek, mX1_init, mX1_worth, mX2_init, mX2_worth, mX3_init, mX3_worth, mX4_init, mX4_worth, mX5_init, mX5_worth, mX6_init, mX6_worth, mX7_init, mX7_begin, mX7_foundBy, mX7_draw, mX7_passWeek, mX7_hadByAll, mX7_becomeAs, mX7_addSeen, mX7_sawNoOther, mX8_init, mX8_append, mX8_tellTo, mX8_readToken, mX8_isLetter, mX8_readWord, mX8_isWord, mX8_isDigit, mX8_readDigits, mX8_readsItem, mX8_readsPlace, mX8_isNumber, mX8_readsSeeker, mX8_readsRing, mX8_readsLaw, mX9_init, mX9_empty, mX9_addPlace, mX9_addSeeker, mX9_isPlace, mX9_addHabit, mX9_isSeeker, mX9_settle, mX9_settleOrder, mX9_settleNoWorse, mX9_settleReach, mX9_behind, mX9_finds, mX9_stopsAt, mX9_minutesOfFirst, mX10_init, mX10_type, mX10_clear, mX10_town, mX10_place, mX10_seeker, mX10_habit, mX10_puts, mX10_looks, mX10_week, mX10_now, mX10_lot, mX10_lies, mX10_weeksLying, mX10_longest, mX10_odds, mX10_leastTerm, mX10_lots, mX10_sweep, mX10_order, mX10_saw, mX10_forget, mX10_could, mX10_canHaveBegunAt, mX10_mark, mX10_keep, mX10_back, mX10_count, mX10_trace, mX11_init, mX11_type, mX11_in, mX11_clear, mX11_town, mX11_reads, mX11_token, mX11_byteAt, mX11_sortOf, mX11_verb, mX11_readsItem, mX11_readsPlace, mX11_number, mX11_figure, mX11_readsSeeker, mX11_once, mX11_place, mX11_isPlace, mX11_noWorse, mX11_seeker, mX11_isSeeker, mX11_habit, mX11_puts, mX11_looks, mX11_hides, mX11_ones, mX11_drawn, mX11_member, mX11_week, mX11_starts, mX11_plays, mX11_finds, mX11_now, mX11_lot, mX11_lies, mX11_firstWeek, mX11_longest, mX11_odds, mX11_state, mX11_spreadsAll, mX11_spreads, mX11_isAt, mX11_part, mX11_divisor, mX11_lots, mX11_allHard, mX11_sweep, mX11_rank, mX11_order, mX11_saw, mX11_forget, mX11_could, mX11_began, mX11_mark, mX11_keep, mX11_back, mX11_count, mX11_trace, mJ0_length_8abf5, mJ0_coder_7d493, mJ0_charAt_5068e, mJ0_isLatin1_aae02, mJ0_checkIndex_df160, mJ1_charAt_3b067, mJ6_bitCount_0f7a4, mJ7_fill_53178, mJ7_fill_d0a16, mJ3_checkIndex_8e157]
def zMw : List (Nat × Nat) := [(237, 53), (614, 53), (626, 53), (630, 53), (635, 53), (639, 53), (289, 56), (700, 56), (281, 55), (705, 55), (297, 57), (710, 57), (313, 59), (715, 59), (305, 58), (720, 58), (260, 54), (723, 54), (192, 52), (515, 52), (545, 52), (551, 52), (566, 52), (585, 52), (601, 52), (672, 52), (688, 52), (81, 50), (352, 50), (364, 50), (372, 50), (376, 50), (380, 50), (385, 50), (440, 50), (444, 50), (451, 50), (455, 50), (459, 50), (467, 50), (487, 50), (491, 50), (114, 51), (368, 51), (463, 51), (471, 51), (475, 51), (479, 51), (483, 51), (495, 51), (499, 51), (503, 51), (507, 51), (511, 51), (570, 51), (574, 51), (657, 51), (73, 49), (348, 49), (356, 49), (360, 49), (523, 49), (528, 49), (533, 49), (537, 49), (541, 49), (562, 49), (581, 49), (589, 49), (593, 49), (597, 49), (605, 49), (609, 49), (645, 49), (649, 49), (653, 49), (664, 49), (668, 49), (676, 49), (680, 49), (684, 49), (692, 49), (727, 49), (731, 49), (735, 49), (739, 49), (744, 60), (810, 60), (813, 60), (818, 60), (822, 60), (826, 60), (830, 60), (834, 60), (837, 60), (841, 60), (850, 60), (854, 60), (858, 60), (862, 60), (866, 60), (870, 60), (874, 60), (878, 60), (882, 60), (886, 60), (890, 60), (894, 60), (898, 60), (902, 60), (906, 60), (909, 60), (913, 60), (917, 60), (921, 60), (925, 60), (929, 60), (933, 60), (937, 60), (941, 60), (945, 60), (949, 60), (953, 60), (957, 60), (963, 60), (967, 60), (971, 60), (975, 60), (978, 60), (981, 60), (985, 60), (989, 60), (993, 60), (997, 60), (1001, 60), (1005, 60), (1009, 60), (1013, 60), (1017, 60), (1021, 60), (1031, 60), (1035, 60), (1039, 60), (1043, 60), (389, 61), (393, 61), (399, 61), (403, 61), (409, 61), (406, 62), (554, 67), (518, 66), (617, 66), (414, 63)]
def zMc (q : zM × Nat × Nat) : Bool := decide (lw_tbl[q.2.2]? = some (Cond.initialized q.1.1.cls)) && plainName q.1.1.cls && decide (q.1.1.cls = zR0 q.1.2.2.2.2.1) && decide (q.1.1.cls ≠ "java/lang/invoke/MethodHandle" ∧ q.1.1.cls ≠ "java/lang/invoke/VarHandle")
def zMd (q : zM × Nat × Nat) : Prop := lw_tbl[q.2.1]? = some (Cond.code q.1.1 q.1.2.1 q.1.2.2.1 q.1.2.2.2.1) ∧ zMc q = true
set_option maxRecDepth 20000 in
theorem zc_0 : zMd (mX0_init, 237, 53) := ⟨rfl, by decide +kernel⟩
set_option maxRecDepth 20000 in
theorem zc_1 : zMd (mX0_goOn, 614, 53) := ⟨rfl, by decide +kernel⟩
set_option maxRecDepth 20000 in
theorem zc_2 : zMd (mX0_lastWeek, 626, 53) := ⟨rfl, by decide +kernel⟩
set_option maxRecDepth 20000 in
theorem zc_3 : zMd (mX0_searchAll, 630, 53) := ⟨rfl, by decide +kernel⟩
set_option maxRecDepth 20000 in
theorem zc_4 : zMd (mX0_share, 635, 53) := ⟨rfl, by decide +kernel⟩
set_option maxRecDepth 20000 in
theorem zc_5 : zMd (mX0_firstWeek, 639, 53) := ⟨rfl, by decide +kernel⟩
set_option maxRecDepth 20000 in
theorem zc_6 : zMd (mX1_init, 289, 56) := ⟨rfl, by decide +kernel⟩
set_option maxRecDepth 20000 in
theorem zc_7 : zMd (mX1_worth, 700, 56) := ⟨rfl, by decide +kernel⟩
set_option maxRecDepth 20000 in
theorem zc_8 : zMd (mX2_init, 281, 55) := ⟨rfl, by decide +kernel⟩
set_option maxRecDepth 20000 in
theorem zc_9 : zMd (mX2_worth, 705, 55) := ⟨rfl, by decide +kernel⟩
set_option maxRecDepth 20000 in
theorem zc_10 : zMd (mX3_init, 297, 57) := ⟨rfl, by decide +kernel⟩
set_option maxRecDepth 20000 in
theorem zc_11 : zMd (mX3_worth, 710, 57) := ⟨rfl, by decide +kernel⟩
set_option maxRecDepth 20000 in
theorem zc_12 : zMd (mX4_init, 313, 59) := ⟨rfl, by decide +kernel⟩
set_option maxRecDepth 20000 in
theorem zc_13 : zMd (mX4_worth, 715, 59) := ⟨rfl, by decide +kernel⟩
set_option maxRecDepth 20000 in
theorem zc_14 : zMd (mX5_init, 305, 58) := ⟨rfl, by decide +kernel⟩
set_option maxRecDepth 20000 in
theorem zc_15 : zMd (mX5_worth, 720, 58) := ⟨rfl, by decide +kernel⟩
set_option maxRecDepth 20000 in
theorem zc_16 : zMd (mX6_init, 260, 54) := ⟨rfl, by decide +kernel⟩
set_option maxRecDepth 20000 in
theorem zc_17 : zMd (mX6_worth, 723, 54) := ⟨rfl, by decide +kernel⟩
set_option maxRecDepth 20000 in
theorem zc_18 : zMd (mX7_init, 192, 52) := ⟨rfl, by decide +kernel⟩
set_option maxRecDepth 20000 in
theorem zc_19 : zMd (mX7_begin, 515, 52) := ⟨rfl, by decide +kernel⟩
set_option maxRecDepth 20000 in
theorem zc_20 : zMd (mX7_foundBy, 545, 52) := ⟨rfl, by decide +kernel⟩
set_option maxRecDepth 20000 in
theorem zc_21 : zMd (mX7_draw, 551, 52) := ⟨rfl, by decide +kernel⟩
set_option maxRecDepth 20000 in
theorem zc_22 : zMd (mX7_passWeek, 566, 52) := ⟨rfl, by decide +kernel⟩
set_option maxRecDepth 20000 in
theorem zc_23 : zMd (mX7_hadByAll, 585, 52) := ⟨rfl, by decide +kernel⟩
set_option maxRecDepth 20000 in
theorem zc_24 : zMd (mX7_becomeAs, 601, 52) := ⟨rfl, by decide +kernel⟩
set_option maxRecDepth 20000 in
theorem zc_25 : zMd (mX7_addSeen, 672, 52) := ⟨rfl, by decide +kernel⟩
set_option maxRecDepth 20000 in
theorem zc_26 : zMd (mX7_sawNoOther, 688, 52) := ⟨rfl, by decide +kernel⟩
set_option maxRecDepth 20000 in
theorem zc_27 : zMd (mX8_init, 81, 50) := ⟨rfl, by decide +kernel⟩
set_option maxRecDepth 20000 in
theorem zc_28 : zMd (mX8_append, 352, 50) := ⟨rfl, by decide +kernel⟩
set_option maxRecDepth 20000 in
theorem zc_29 : zMd (mX8_tellTo, 364, 50) := ⟨rfl, by decide +kernel⟩
set_option maxRecDepth 20000 in
theorem zc_30 : zMd (mX8_readToken, 372, 50) := ⟨rfl, by decide +kernel⟩
set_option maxRecDepth 20000 in
theorem zc_31 : zMd (mX8_isLetter, 376, 50) := ⟨rfl, by decide +kernel⟩
set_option maxRecDepth 20000 in
theorem zc_32 : zMd (mX8_readWord, 380, 50) := ⟨rfl, by decide +kernel⟩
set_option maxRecDepth 20000 in
theorem zc_33 : zMd (mX8_isWord, 385, 50) := ⟨rfl, by decide +kernel⟩
set_option maxRecDepth 20000 in
theorem zc_34 : zMd (mX8_isDigit, 440, 50) := ⟨rfl, by decide +kernel⟩
set_option maxRecDepth 20000 in
theorem zc_35 : zMd (mX8_readDigits, 444, 50) := ⟨rfl, by decide +kernel⟩
set_option maxRecDepth 20000 in
theorem zc_36 : zMd (mX8_readsItem, 451, 50) := ⟨rfl, by decide +kernel⟩
set_option maxRecDepth 20000 in
theorem zc_37 : zMd (mX8_readsPlace, 455, 50) := ⟨rfl, by decide +kernel⟩
set_option maxRecDepth 20000 in
theorem zc_38 : zMd (mX8_isNumber, 459, 50) := ⟨rfl, by decide +kernel⟩
set_option maxRecDepth 20000 in
theorem zc_39 : zMd (mX8_readsSeeker, 467, 50) := ⟨rfl, by decide +kernel⟩
set_option maxRecDepth 20000 in
theorem zc_40 : zMd (mX8_readsRing, 487, 50) := ⟨rfl, by decide +kernel⟩
set_option maxRecDepth 20000 in
theorem zc_41 : zMd (mX8_readsLaw, 491, 50) := ⟨rfl, by decide +kernel⟩
set_option maxRecDepth 20000 in
theorem zc_42 : zMd (mX9_init, 114, 51) := ⟨rfl, by decide +kernel⟩
set_option maxRecDepth 20000 in
theorem zc_43 : zMd (mX9_empty, 368, 51) := ⟨rfl, by decide +kernel⟩
set_option maxRecDepth 20000 in
theorem zc_44 : zMd (mX9_addPlace, 463, 51) := ⟨rfl, by decide +kernel⟩
set_option maxRecDepth 20000 in
theorem zc_45 : zMd (mX9_addSeeker, 471, 51) := ⟨rfl, by decide +kernel⟩
set_option maxRecDepth 20000 in
theorem zc_46 : zMd (mX9_isPlace, 475, 51) := ⟨rfl, by decide +kernel⟩
set_option maxRecDepth 20000 in
theorem zc_47 : zMd (mX9_addHabit, 479, 51) := ⟨rfl, by decide +kernel⟩
set_option maxRecDepth 20000 in
theorem zc_48 : zMd (mX9_isSeeker, 483, 51) := ⟨rfl, by decide +kernel⟩
set_option maxRecDepth 20000 in
theorem zc_49 : zMd (mX9_settle, 495, 51) := ⟨rfl, by decide +kernel⟩
set_option maxRecDepth 20000 in
theorem zc_50 : zMd (mX9_settleOrder, 499, 51) := ⟨rfl, by decide +kernel⟩
set_option maxRecDepth 20000 in
theorem zc_51 : zMd (mX9_settleNoWorse, 503, 51) := ⟨rfl, by decide +kernel⟩
set_option maxRecDepth 20000 in
theorem zc_52 : zMd (mX9_settleReach, 507, 51) := ⟨rfl, by decide +kernel⟩
set_option maxRecDepth 20000 in
theorem zc_53 : zMd (mX9_behind, 511, 51) := ⟨rfl, by decide +kernel⟩
set_option maxRecDepth 20000 in
theorem zc_54 : zMd (mX9_finds, 570, 51) := ⟨rfl, by decide +kernel⟩
set_option maxRecDepth 20000 in
theorem zc_55 : zMd (mX9_stopsAt, 574, 51) := ⟨rfl, by decide +kernel⟩
set_option maxRecDepth 20000 in
theorem zc_56 : zMd (mX9_minutesOfFirst, 657, 51) := ⟨rfl, by decide +kernel⟩
set_option maxRecDepth 20000 in
theorem zc_57 : zMd (mX10_init, 73, 49) := ⟨rfl, by decide +kernel⟩
set_option maxRecDepth 20000 in
theorem zc_58 : zMd (mX10_type, 348, 49) := ⟨rfl, by decide +kernel⟩
set_option maxRecDepth 20000 in
theorem zc_59 : zMd (mX10_clear, 356, 49) := ⟨rfl, by decide +kernel⟩
set_option maxRecDepth 20000 in
theorem zc_60 : zMd (mX10_town, 360, 49) := ⟨rfl, by decide +kernel⟩
set_option maxRecDepth 20000 in
theorem zc_61 : zMd (mX10_place, 523, 49) := ⟨rfl, by decide +kernel⟩
set_option maxRecDepth 20000 in
theorem zc_62 : zMd (mX10_seeker, 528, 49) := ⟨rfl, by decide +kernel⟩
set_option maxRecDepth 20000 in
theorem zc_63 : zMd (mX10_habit, 533, 49) := ⟨rfl, by decide +kernel⟩
set_option maxRecDepth 20000 in
theorem zc_64 : zMd (mX10_puts, 537, 49) := ⟨rfl, by decide +kernel⟩
set_option maxRecDepth 20000 in
theorem zc_65 : zMd (mX10_looks, 541, 49) := ⟨rfl, by decide +kernel⟩
set_option maxRecDepth 20000 in
theorem zc_66 : zMd (mX10_week, 562, 49) := ⟨rfl, by decide +kernel⟩
set_option maxRecDepth 20000 in
theorem zc_67 : zMd (mX10_now, 581, 49) := ⟨rfl, by decide +kernel⟩
set_option maxRecDepth 20000 in
theorem zc_68 : zMd (mX10_lot, 589, 49) := ⟨rfl, by decide +kernel⟩
set_option maxRecDepth 20000 in
theorem zc_69 : zMd (mX10_lies, 593, 49) := ⟨rfl, by decide +kernel⟩
set_option maxRecDepth 20000 in
theorem zc_70 : zMd (mX10_weeksLying, 597, 49) := ⟨rfl, by decide +kernel⟩
set_option maxRecDepth 20000 in
theorem zc_71 : zMd (mX10_longest, 605, 49) := ⟨rfl, by decide +kernel⟩
set_option maxRecDepth 20000 in
theorem zc_72 : zMd (mX10_odds, 609, 49) := ⟨rfl, by decide +kernel⟩
set_option maxRecDepth 20000 in
theorem zc_73 : zMd (mX10_leastTerm, 645, 49) := ⟨rfl, by decide +kernel⟩
set_option maxRecDepth 20000 in
theorem zc_74 : zMd (mX10_lots, 649, 49) := ⟨rfl, by decide +kernel⟩
set_option maxRecDepth 20000 in
theorem zc_75 : zMd (mX10_sweep, 653, 49) := ⟨rfl, by decide +kernel⟩
set_option maxRecDepth 20000 in
theorem zc_76 : zMd (mX10_order, 664, 49) := ⟨rfl, by decide +kernel⟩
set_option maxRecDepth 20000 in
theorem zc_77 : zMd (mX10_saw, 668, 49) := ⟨rfl, by decide +kernel⟩
set_option maxRecDepth 20000 in
theorem zc_78 : zMd (mX10_forget, 676, 49) := ⟨rfl, by decide +kernel⟩
set_option maxRecDepth 20000 in
theorem zc_79 : zMd (mX10_could, 680, 49) := ⟨rfl, by decide +kernel⟩
set_option maxRecDepth 20000 in
theorem zc_80 : zMd (mX10_canHaveBegunAt, 684, 49) := ⟨rfl, by decide +kernel⟩
set_option maxRecDepth 20000 in
theorem zc_81 : zMd (mX10_mark, 692, 49) := ⟨rfl, by decide +kernel⟩
set_option maxRecDepth 20000 in
theorem zc_82 : zMd (mX10_keep, 727, 49) := ⟨rfl, by decide +kernel⟩
set_option maxRecDepth 20000 in
theorem zc_83 : zMd (mX10_back, 731, 49) := ⟨rfl, by decide +kernel⟩
set_option maxRecDepth 20000 in
theorem zc_84 : zMd (mX10_count, 735, 49) := ⟨rfl, by decide +kernel⟩
set_option maxRecDepth 20000 in
theorem zc_85 : zMd (mX10_trace, 739, 49) := ⟨rfl, by decide +kernel⟩
set_option maxRecDepth 20000 in
theorem zc_86 : zMd (mX11_init, 744, 60) := ⟨rfl, by decide +kernel⟩
set_option maxRecDepth 20000 in
theorem zc_87 : zMd (mX11_type, 810, 60) := ⟨rfl, by decide +kernel⟩
set_option maxRecDepth 20000 in
theorem zc_88 : zMd (mX11_in, 813, 60) := ⟨rfl, by decide +kernel⟩
set_option maxRecDepth 20000 in
theorem zc_89 : zMd (mX11_clear, 818, 60) := ⟨rfl, by decide +kernel⟩
set_option maxRecDepth 20000 in
theorem zc_90 : zMd (mX11_town, 822, 60) := ⟨rfl, by decide +kernel⟩
set_option maxRecDepth 20000 in
theorem zc_91 : zMd (mX11_reads, 826, 60) := ⟨rfl, by decide +kernel⟩
set_option maxRecDepth 20000 in
theorem zc_92 : zMd (mX11_token, 830, 60) := ⟨rfl, by decide +kernel⟩
set_option maxRecDepth 20000 in
theorem zc_93 : zMd (mX11_byteAt, 834, 60) := ⟨rfl, by decide +kernel⟩
set_option maxRecDepth 20000 in
theorem zc_94 : zMd (mX11_sortOf, 837, 60) := ⟨rfl, by decide +kernel⟩
set_option maxRecDepth 20000 in
theorem zc_95 : zMd (mX11_verb, 841, 60) := ⟨rfl, by decide +kernel⟩
set_option maxRecDepth 20000 in
theorem zc_96 : zMd (mX11_readsItem, 850, 60) := ⟨rfl, by decide +kernel⟩
set_option maxRecDepth 20000 in
theorem zc_97 : zMd (mX11_readsPlace, 854, 60) := ⟨rfl, by decide +kernel⟩
set_option maxRecDepth 20000 in
theorem zc_98 : zMd (mX11_number, 858, 60) := ⟨rfl, by decide +kernel⟩
set_option maxRecDepth 20000 in
theorem zc_99 : zMd (mX11_figure, 862, 60) := ⟨rfl, by decide +kernel⟩
set_option maxRecDepth 20000 in
theorem zc_100 : zMd (mX11_readsSeeker, 866, 60) := ⟨rfl, by decide +kernel⟩
set_option maxRecDepth 20000 in
theorem zc_101 : zMd (mX11_once, 870, 60) := ⟨rfl, by decide +kernel⟩
set_option maxRecDepth 20000 in
theorem zc_102 : zMd (mX11_place, 874, 60) := ⟨rfl, by decide +kernel⟩
set_option maxRecDepth 20000 in
theorem zc_103 : zMd (mX11_isPlace, 878, 60) := ⟨rfl, by decide +kernel⟩
set_option maxRecDepth 20000 in
theorem zc_104 : zMd (mX11_noWorse, 882, 60) := ⟨rfl, by decide +kernel⟩
set_option maxRecDepth 20000 in
theorem zc_105 : zMd (mX11_seeker, 886, 60) := ⟨rfl, by decide +kernel⟩
set_option maxRecDepth 20000 in
theorem zc_106 : zMd (mX11_isSeeker, 890, 60) := ⟨rfl, by decide +kernel⟩
set_option maxRecDepth 20000 in
theorem zc_107 : zMd (mX11_habit, 894, 60) := ⟨rfl, by decide +kernel⟩
set_option maxRecDepth 20000 in
theorem zc_108 : zMd (mX11_puts, 898, 60) := ⟨rfl, by decide +kernel⟩
set_option maxRecDepth 20000 in
theorem zc_109 : zMd (mX11_looks, 902, 60) := ⟨rfl, by decide +kernel⟩
set_option maxRecDepth 20000 in
theorem zc_110 : zMd (mX11_hides, 906, 60) := ⟨rfl, by decide +kernel⟩
set_option maxRecDepth 20000 in
theorem zc_111 : zMd (mX11_ones, 909, 60) := ⟨rfl, by decide +kernel⟩
set_option maxRecDepth 20000 in
theorem zc_112 : zMd (mX11_drawn, 913, 60) := ⟨rfl, by decide +kernel⟩
set_option maxRecDepth 20000 in
theorem zc_113 : zMd (mX11_member, 917, 60) := ⟨rfl, by decide +kernel⟩
set_option maxRecDepth 20000 in
theorem zc_114 : zMd (mX11_week, 921, 60) := ⟨rfl, by decide +kernel⟩
set_option maxRecDepth 20000 in
theorem zc_115 : zMd (mX11_starts, 925, 60) := ⟨rfl, by decide +kernel⟩
set_option maxRecDepth 20000 in
theorem zc_116 : zMd (mX11_plays, 929, 60) := ⟨rfl, by decide +kernel⟩
set_option maxRecDepth 20000 in
theorem zc_117 : zMd (mX11_finds, 933, 60) := ⟨rfl, by decide +kernel⟩
set_option maxRecDepth 20000 in
theorem zc_118 : zMd (mX11_now, 937, 60) := ⟨rfl, by decide +kernel⟩
set_option maxRecDepth 20000 in
theorem zc_119 : zMd (mX11_lot, 941, 60) := ⟨rfl, by decide +kernel⟩
set_option maxRecDepth 20000 in
theorem zc_120 : zMd (mX11_lies, 945, 60) := ⟨rfl, by decide +kernel⟩
set_option maxRecDepth 20000 in
theorem zc_121 : zMd (mX11_firstWeek, 949, 60) := ⟨rfl, by decide +kernel⟩
set_option maxRecDepth 20000 in
theorem zc_122 : zMd (mX11_longest, 953, 60) := ⟨rfl, by decide +kernel⟩
set_option maxRecDepth 20000 in
theorem zc_123 : zMd (mX11_odds, 957, 60) := ⟨rfl, by decide +kernel⟩
set_option maxRecDepth 20000 in
theorem zc_124 : zMd (mX11_state, 963, 60) := ⟨rfl, by decide +kernel⟩
set_option maxRecDepth 20000 in
theorem zc_125 : zMd (mX11_spreadsAll, 967, 60) := ⟨rfl, by decide +kernel⟩
set_option maxRecDepth 20000 in
theorem zc_126 : zMd (mX11_spreads, 971, 60) := ⟨rfl, by decide +kernel⟩
set_option maxRecDepth 20000 in
theorem zc_127 : zMd (mX11_isAt, 975, 60) := ⟨rfl, by decide +kernel⟩
set_option maxRecDepth 20000 in
theorem zc_128 : zMd (mX11_part, 978, 60) := ⟨rfl, by decide +kernel⟩
set_option maxRecDepth 20000 in
theorem zc_129 : zMd (mX11_divisor, 981, 60) := ⟨rfl, by decide +kernel⟩
set_option maxRecDepth 20000 in
theorem zc_130 : zMd (mX11_lots, 985, 60) := ⟨rfl, by decide +kernel⟩
set_option maxRecDepth 20000 in
theorem zc_131 : zMd (mX11_allHard, 989, 60) := ⟨rfl, by decide +kernel⟩
set_option maxRecDepth 20000 in
theorem zc_132 : zMd (mX11_sweep, 993, 60) := ⟨rfl, by decide +kernel⟩
set_option maxRecDepth 20000 in
theorem zc_133 : zMd (mX11_rank, 997, 60) := ⟨rfl, by decide +kernel⟩
set_option maxRecDepth 20000 in
theorem zc_134 : zMd (mX11_order, 1001, 60) := ⟨rfl, by decide +kernel⟩
set_option maxRecDepth 20000 in
theorem zc_135 : zMd (mX11_saw, 1005, 60) := ⟨rfl, by decide +kernel⟩
set_option maxRecDepth 20000 in
theorem zc_136 : zMd (mX11_forget, 1009, 60) := ⟨rfl, by decide +kernel⟩
set_option maxRecDepth 20000 in
theorem zc_137 : zMd (mX11_could, 1013, 60) := ⟨rfl, by decide +kernel⟩
set_option maxRecDepth 20000 in
theorem zc_138 : zMd (mX11_began, 1017, 60) := ⟨rfl, by decide +kernel⟩
set_option maxRecDepth 20000 in
theorem zc_139 : zMd (mX11_mark, 1021, 60) := ⟨rfl, by decide +kernel⟩
set_option maxRecDepth 20000 in
theorem zc_140 : zMd (mX11_keep, 1031, 60) := ⟨rfl, by decide +kernel⟩
set_option maxRecDepth 20000 in
theorem zc_141 : zMd (mX11_back, 1035, 60) := ⟨rfl, by decide +kernel⟩
set_option maxRecDepth 20000 in
theorem zc_142 : zMd (mX11_count, 1039, 60) := ⟨rfl, by decide +kernel⟩
set_option maxRecDepth 20000 in
theorem zc_143 : zMd (mX11_trace, 1043, 60) := ⟨rfl, by decide +kernel⟩
set_option maxRecDepth 20000 in
theorem zc_144 : zMd (mJ0_length_8abf5, 389, 61) := ⟨rfl, by decide +kernel⟩
set_option maxRecDepth 20000 in
theorem zc_145 : zMd (mJ0_coder_7d493, 393, 61) := ⟨rfl, by decide +kernel⟩
set_option maxRecDepth 20000 in
theorem zc_146 : zMd (mJ0_charAt_5068e, 399, 61) := ⟨rfl, by decide +kernel⟩
set_option maxRecDepth 20000 in
theorem zc_147 : zMd (mJ0_isLatin1_aae02, 403, 61) := ⟨rfl, by decide +kernel⟩
set_option maxRecDepth 20000 in
theorem zc_148 : zMd (mJ0_checkIndex_df160, 409, 61) := ⟨rfl, by decide +kernel⟩
set_option maxRecDepth 20000 in
theorem zc_149 : zMd (mJ1_charAt_3b067, 406, 62) := ⟨rfl, by decide +kernel⟩
set_option maxRecDepth 20000 in
theorem zc_150 : zMd (mJ6_bitCount_0f7a4, 554, 67) := ⟨rfl, by decide +kernel⟩
set_option maxRecDepth 20000 in
theorem zc_151 : zMd (mJ7_fill_53178, 518, 66) := ⟨rfl, by decide +kernel⟩
set_option maxRecDepth 20000 in
theorem zc_152 : zMd (mJ7_fill_d0a16, 617, 66) := ⟨rfl, by decide +kernel⟩
set_option maxRecDepth 20000 in
theorem zc_153 : zMd (mJ3_checkIndex_8e157, 414, 63) := ⟨rfl, by decide +kernel⟩
theorem zcc_0 : ∀ q ∈ [(mX0_init, 237, 53), (mX0_goOn, 614, 53), (mX0_lastWeek, 626, 53), (mX0_searchAll, 630, 53), (mX0_share, 635, 53), (mX0_firstWeek, 639, 53), (mX1_init, 289, 56), (mX1_worth, 700, 56), (mX2_init, 281, 55), (mX2_worth, 705, 55), (mX3_init, 297, 57), (mX3_worth, 710, 57), (mX4_init, 313, 59), (mX4_worth, 715, 59), (mX5_init, 305, 58), (mX5_worth, 720, 58), (mX6_init, 260, 54), (mX6_worth, 723, 54), (mX7_init, 192, 52), (mX7_begin, 515, 52)], zMd q := List.forall_mem_cons.mpr ⟨zc_0, List.forall_mem_cons.mpr ⟨zc_1, List.forall_mem_cons.mpr ⟨zc_2, List.forall_mem_cons.mpr ⟨zc_3, List.forall_mem_cons.mpr ⟨zc_4, List.forall_mem_cons.mpr ⟨zc_5, List.forall_mem_cons.mpr ⟨zc_6, List.forall_mem_cons.mpr ⟨zc_7, List.forall_mem_cons.mpr ⟨zc_8, List.forall_mem_cons.mpr ⟨zc_9, List.forall_mem_cons.mpr ⟨zc_10, List.forall_mem_cons.mpr ⟨zc_11, List.forall_mem_cons.mpr ⟨zc_12, List.forall_mem_cons.mpr ⟨zc_13, List.forall_mem_cons.mpr ⟨zc_14, List.forall_mem_cons.mpr ⟨zc_15, List.forall_mem_cons.mpr ⟨zc_16, List.forall_mem_cons.mpr ⟨zc_17, List.forall_mem_cons.mpr ⟨zc_18, List.forall_mem_cons.mpr ⟨zc_19, fun _ h => absurd h List.not_mem_nil⟩⟩⟩⟩⟩⟩⟩⟩⟩⟩⟩⟩⟩⟩⟩⟩⟩⟩⟩⟩
theorem zcc_1 : ∀ q ∈ [(mX7_foundBy, 545, 52), (mX7_draw, 551, 52), (mX7_passWeek, 566, 52), (mX7_hadByAll, 585, 52), (mX7_becomeAs, 601, 52), (mX7_addSeen, 672, 52), (mX7_sawNoOther, 688, 52), (mX8_init, 81, 50), (mX8_append, 352, 50), (mX8_tellTo, 364, 50), (mX8_readToken, 372, 50), (mX8_isLetter, 376, 50), (mX8_readWord, 380, 50), (mX8_isWord, 385, 50), (mX8_isDigit, 440, 50), (mX8_readDigits, 444, 50), (mX8_readsItem, 451, 50), (mX8_readsPlace, 455, 50), (mX8_isNumber, 459, 50), (mX8_readsSeeker, 467, 50)], zMd q := List.forall_mem_cons.mpr ⟨zc_20, List.forall_mem_cons.mpr ⟨zc_21, List.forall_mem_cons.mpr ⟨zc_22, List.forall_mem_cons.mpr ⟨zc_23, List.forall_mem_cons.mpr ⟨zc_24, List.forall_mem_cons.mpr ⟨zc_25, List.forall_mem_cons.mpr ⟨zc_26, List.forall_mem_cons.mpr ⟨zc_27, List.forall_mem_cons.mpr ⟨zc_28, List.forall_mem_cons.mpr ⟨zc_29, List.forall_mem_cons.mpr ⟨zc_30, List.forall_mem_cons.mpr ⟨zc_31, List.forall_mem_cons.mpr ⟨zc_32, List.forall_mem_cons.mpr ⟨zc_33, List.forall_mem_cons.mpr ⟨zc_34, List.forall_mem_cons.mpr ⟨zc_35, List.forall_mem_cons.mpr ⟨zc_36, List.forall_mem_cons.mpr ⟨zc_37, List.forall_mem_cons.mpr ⟨zc_38, List.forall_mem_cons.mpr ⟨zc_39, fun _ h => absurd h List.not_mem_nil⟩⟩⟩⟩⟩⟩⟩⟩⟩⟩⟩⟩⟩⟩⟩⟩⟩⟩⟩⟩
theorem zcc_2 : ∀ q ∈ [(mX8_readsRing, 487, 50), (mX8_readsLaw, 491, 50), (mX9_init, 114, 51), (mX9_empty, 368, 51), (mX9_addPlace, 463, 51), (mX9_addSeeker, 471, 51), (mX9_isPlace, 475, 51), (mX9_addHabit, 479, 51), (mX9_isSeeker, 483, 51), (mX9_settle, 495, 51), (mX9_settleOrder, 499, 51), (mX9_settleNoWorse, 503, 51), (mX9_settleReach, 507, 51), (mX9_behind, 511, 51), (mX9_finds, 570, 51), (mX9_stopsAt, 574, 51), (mX9_minutesOfFirst, 657, 51), (mX10_init, 73, 49), (mX10_type, 348, 49), (mX10_clear, 356, 49)], zMd q := List.forall_mem_cons.mpr ⟨zc_40, List.forall_mem_cons.mpr ⟨zc_41, List.forall_mem_cons.mpr ⟨zc_42, List.forall_mem_cons.mpr ⟨zc_43, List.forall_mem_cons.mpr ⟨zc_44, List.forall_mem_cons.mpr ⟨zc_45, List.forall_mem_cons.mpr ⟨zc_46, List.forall_mem_cons.mpr ⟨zc_47, List.forall_mem_cons.mpr ⟨zc_48, List.forall_mem_cons.mpr ⟨zc_49, List.forall_mem_cons.mpr ⟨zc_50, List.forall_mem_cons.mpr ⟨zc_51, List.forall_mem_cons.mpr ⟨zc_52, List.forall_mem_cons.mpr ⟨zc_53, List.forall_mem_cons.mpr ⟨zc_54, List.forall_mem_cons.mpr ⟨zc_55, List.forall_mem_cons.mpr ⟨zc_56, List.forall_mem_cons.mpr ⟨zc_57, List.forall_mem_cons.mpr ⟨zc_58, List.forall_mem_cons.mpr ⟨zc_59, fun _ h => absurd h List.not_mem_nil⟩⟩⟩⟩⟩⟩⟩⟩⟩⟩⟩⟩⟩⟩⟩⟩⟩⟩⟩⟩
theorem zcc_3 : ∀ q ∈ [(mX10_town, 360, 49), (mX10_place, 523, 49), (mX10_seeker, 528, 49), (mX10_habit, 533, 49), (mX10_puts, 537, 49), (mX10_looks, 541, 49), (mX10_week, 562, 49), (mX10_now, 581, 49), (mX10_lot, 589, 49), (mX10_lies, 593, 49), (mX10_weeksLying, 597, 49), (mX10_longest, 605, 49), (mX10_odds, 609, 49), (mX10_leastTerm, 645, 49), (mX10_lots, 649, 49), (mX10_sweep, 653, 49), (mX10_order, 664, 49), (mX10_saw, 668, 49), (mX10_forget, 676, 49), (mX10_could, 680, 49)], zMd q := List.forall_mem_cons.mpr ⟨zc_60, List.forall_mem_cons.mpr ⟨zc_61, List.forall_mem_cons.mpr ⟨zc_62, List.forall_mem_cons.mpr ⟨zc_63, List.forall_mem_cons.mpr ⟨zc_64, List.forall_mem_cons.mpr ⟨zc_65, List.forall_mem_cons.mpr ⟨zc_66, List.forall_mem_cons.mpr ⟨zc_67, List.forall_mem_cons.mpr ⟨zc_68, List.forall_mem_cons.mpr ⟨zc_69, List.forall_mem_cons.mpr ⟨zc_70, List.forall_mem_cons.mpr ⟨zc_71, List.forall_mem_cons.mpr ⟨zc_72, List.forall_mem_cons.mpr ⟨zc_73, List.forall_mem_cons.mpr ⟨zc_74, List.forall_mem_cons.mpr ⟨zc_75, List.forall_mem_cons.mpr ⟨zc_76, List.forall_mem_cons.mpr ⟨zc_77, List.forall_mem_cons.mpr ⟨zc_78, List.forall_mem_cons.mpr ⟨zc_79, fun _ h => absurd h List.not_mem_nil⟩⟩⟩⟩⟩⟩⟩⟩⟩⟩⟩⟩⟩⟩⟩⟩⟩⟩⟩⟩
theorem zcc_4 : ∀ q ∈ [(mX10_canHaveBegunAt, 684, 49), (mX10_mark, 692, 49), (mX10_keep, 727, 49), (mX10_back, 731, 49), (mX10_count, 735, 49), (mX10_trace, 739, 49), (mX11_init, 744, 60), (mX11_type, 810, 60), (mX11_in, 813, 60), (mX11_clear, 818, 60), (mX11_town, 822, 60), (mX11_reads, 826, 60), (mX11_token, 830, 60), (mX11_byteAt, 834, 60), (mX11_sortOf, 837, 60), (mX11_verb, 841, 60), (mX11_readsItem, 850, 60), (mX11_readsPlace, 854, 60), (mX11_number, 858, 60), (mX11_figure, 862, 60)], zMd q := List.forall_mem_cons.mpr ⟨zc_80, List.forall_mem_cons.mpr ⟨zc_81, List.forall_mem_cons.mpr ⟨zc_82, List.forall_mem_cons.mpr ⟨zc_83, List.forall_mem_cons.mpr ⟨zc_84, List.forall_mem_cons.mpr ⟨zc_85, List.forall_mem_cons.mpr ⟨zc_86, List.forall_mem_cons.mpr ⟨zc_87, List.forall_mem_cons.mpr ⟨zc_88, List.forall_mem_cons.mpr ⟨zc_89, List.forall_mem_cons.mpr ⟨zc_90, List.forall_mem_cons.mpr ⟨zc_91, List.forall_mem_cons.mpr ⟨zc_92, List.forall_mem_cons.mpr ⟨zc_93, List.forall_mem_cons.mpr ⟨zc_94, List.forall_mem_cons.mpr ⟨zc_95, List.forall_mem_cons.mpr ⟨zc_96, List.forall_mem_cons.mpr ⟨zc_97, List.forall_mem_cons.mpr ⟨zc_98, List.forall_mem_cons.mpr ⟨zc_99, fun _ h => absurd h List.not_mem_nil⟩⟩⟩⟩⟩⟩⟩⟩⟩⟩⟩⟩⟩⟩⟩⟩⟩⟩⟩⟩
theorem zcc_5 : ∀ q ∈ [(mX11_readsSeeker, 866, 60), (mX11_once, 870, 60), (mX11_place, 874, 60), (mX11_isPlace, 878, 60), (mX11_noWorse, 882, 60), (mX11_seeker, 886, 60), (mX11_isSeeker, 890, 60), (mX11_habit, 894, 60), (mX11_puts, 898, 60), (mX11_looks, 902, 60), (mX11_hides, 906, 60), (mX11_ones, 909, 60), (mX11_drawn, 913, 60), (mX11_member, 917, 60), (mX11_week, 921, 60), (mX11_starts, 925, 60), (mX11_plays, 929, 60), (mX11_finds, 933, 60), (mX11_now, 937, 60), (mX11_lot, 941, 60)], zMd q := List.forall_mem_cons.mpr ⟨zc_100, List.forall_mem_cons.mpr ⟨zc_101, List.forall_mem_cons.mpr ⟨zc_102, List.forall_mem_cons.mpr ⟨zc_103, List.forall_mem_cons.mpr ⟨zc_104, List.forall_mem_cons.mpr ⟨zc_105, List.forall_mem_cons.mpr ⟨zc_106, List.forall_mem_cons.mpr ⟨zc_107, List.forall_mem_cons.mpr ⟨zc_108, List.forall_mem_cons.mpr ⟨zc_109, List.forall_mem_cons.mpr ⟨zc_110, List.forall_mem_cons.mpr ⟨zc_111, List.forall_mem_cons.mpr ⟨zc_112, List.forall_mem_cons.mpr ⟨zc_113, List.forall_mem_cons.mpr ⟨zc_114, List.forall_mem_cons.mpr ⟨zc_115, List.forall_mem_cons.mpr ⟨zc_116, List.forall_mem_cons.mpr ⟨zc_117, List.forall_mem_cons.mpr ⟨zc_118, List.forall_mem_cons.mpr ⟨zc_119, fun _ h => absurd h List.not_mem_nil⟩⟩⟩⟩⟩⟩⟩⟩⟩⟩⟩⟩⟩⟩⟩⟩⟩⟩⟩⟩
theorem zcc_6 : ∀ q ∈ [(mX11_lies, 945, 60), (mX11_firstWeek, 949, 60), (mX11_longest, 953, 60), (mX11_odds, 957, 60), (mX11_state, 963, 60), (mX11_spreadsAll, 967, 60), (mX11_spreads, 971, 60), (mX11_isAt, 975, 60), (mX11_part, 978, 60), (mX11_divisor, 981, 60), (mX11_lots, 985, 60), (mX11_allHard, 989, 60), (mX11_sweep, 993, 60), (mX11_rank, 997, 60), (mX11_order, 1001, 60), (mX11_saw, 1005, 60), (mX11_forget, 1009, 60), (mX11_could, 1013, 60), (mX11_began, 1017, 60), (mX11_mark, 1021, 60)], zMd q := List.forall_mem_cons.mpr ⟨zc_120, List.forall_mem_cons.mpr ⟨zc_121, List.forall_mem_cons.mpr ⟨zc_122, List.forall_mem_cons.mpr ⟨zc_123, List.forall_mem_cons.mpr ⟨zc_124, List.forall_mem_cons.mpr ⟨zc_125, List.forall_mem_cons.mpr ⟨zc_126, List.forall_mem_cons.mpr ⟨zc_127, List.forall_mem_cons.mpr ⟨zc_128, List.forall_mem_cons.mpr ⟨zc_129, List.forall_mem_cons.mpr ⟨zc_130, List.forall_mem_cons.mpr ⟨zc_131, List.forall_mem_cons.mpr ⟨zc_132, List.forall_mem_cons.mpr ⟨zc_133, List.forall_mem_cons.mpr ⟨zc_134, List.forall_mem_cons.mpr ⟨zc_135, List.forall_mem_cons.mpr ⟨zc_136, List.forall_mem_cons.mpr ⟨zc_137, List.forall_mem_cons.mpr ⟨zc_138, List.forall_mem_cons.mpr ⟨zc_139, fun _ h => absurd h List.not_mem_nil⟩⟩⟩⟩⟩⟩⟩⟩⟩⟩⟩⟩⟩⟩⟩⟩⟩⟩⟩⟩
theorem zcc_7 : ∀ q ∈ [(mX11_keep, 1031, 60), (mX11_back, 1035, 60), (mX11_count, 1039, 60), (mX11_trace, 1043, 60), (mJ0_length_8abf5, 389, 61), (mJ0_coder_7d493, 393, 61), (mJ0_charAt_5068e, 399, 61), (mJ0_isLatin1_aae02, 403, 61), (mJ0_checkIndex_df160, 409, 61), (mJ1_charAt_3b067, 406, 62), (mJ6_bitCount_0f7a4, 554, 67), (mJ7_fill_53178, 518, 66), (mJ7_fill_d0a16, 617, 66), (mJ3_checkIndex_8e157, 414, 63)], zMd q := List.forall_mem_cons.mpr ⟨zc_140, List.forall_mem_cons.mpr ⟨zc_141, List.forall_mem_cons.mpr ⟨zc_142, List.forall_mem_cons.mpr ⟨zc_143, List.forall_mem_cons.mpr ⟨zc_144, List.forall_mem_cons.mpr ⟨zc_145, List.forall_mem_cons.mpr ⟨zc_146, List.forall_mem_cons.mpr ⟨zc_147, List.forall_mem_cons.mpr ⟨zc_148, List.forall_mem_cons.mpr ⟨zc_149, List.forall_mem_cons.mpr ⟨zc_150, List.forall_mem_cons.mpr ⟨zc_151, List.forall_mem_cons.mpr ⟨zc_152, List.forall_mem_cons.mpr ⟨zc_153, fun _ h => absurd h List.not_mem_nil⟩⟩⟩⟩⟩⟩⟩⟩⟩⟩⟩⟩⟩⟩
def zMz : List (zM × Nat × Nat) := [(mX0_init, 237, 53), (mX0_goOn, 614, 53), (mX0_lastWeek, 626, 53), (mX0_searchAll, 630, 53), (mX0_share, 635, 53), (mX0_firstWeek, 639, 53), (mX1_init, 289, 56), (mX1_worth, 700, 56), (mX2_init, 281, 55), (mX2_worth, 705, 55), (mX3_init, 297, 57), (mX3_worth, 710, 57), (mX4_init, 313, 59), (mX4_worth, 715, 59), (mX5_init, 305, 58), (mX5_worth, 720, 58), (mX6_init, 260, 54), (mX6_worth, 723, 54), (mX7_init, 192, 52), (mX7_begin, 515, 52)] ++ ([(mX7_foundBy, 545, 52), (mX7_draw, 551, 52), (mX7_passWeek, 566, 52), (mX7_hadByAll, 585, 52), (mX7_becomeAs, 601, 52), (mX7_addSeen, 672, 52), (mX7_sawNoOther, 688, 52), (mX8_init, 81, 50), (mX8_append, 352, 50), (mX8_tellTo, 364, 50), (mX8_readToken, 372, 50), (mX8_isLetter, 376, 50), (mX8_readWord, 380, 50), (mX8_isWord, 385, 50), (mX8_isDigit, 440, 50), (mX8_readDigits, 444, 50), (mX8_readsItem, 451, 50), (mX8_readsPlace, 455, 50), (mX8_isNumber, 459, 50), (mX8_readsSeeker, 467, 50)] ++ ([(mX8_readsRing, 487, 50), (mX8_readsLaw, 491, 50), (mX9_init, 114, 51), (mX9_empty, 368, 51), (mX9_addPlace, 463, 51), (mX9_addSeeker, 471, 51), (mX9_isPlace, 475, 51), (mX9_addHabit, 479, 51), (mX9_isSeeker, 483, 51), (mX9_settle, 495, 51), (mX9_settleOrder, 499, 51), (mX9_settleNoWorse, 503, 51), (mX9_settleReach, 507, 51), (mX9_behind, 511, 51), (mX9_finds, 570, 51), (mX9_stopsAt, 574, 51), (mX9_minutesOfFirst, 657, 51), (mX10_init, 73, 49), (mX10_type, 348, 49), (mX10_clear, 356, 49)] ++ ([(mX10_town, 360, 49), (mX10_place, 523, 49), (mX10_seeker, 528, 49), (mX10_habit, 533, 49), (mX10_puts, 537, 49), (mX10_looks, 541, 49), (mX10_week, 562, 49), (mX10_now, 581, 49), (mX10_lot, 589, 49), (mX10_lies, 593, 49), (mX10_weeksLying, 597, 49), (mX10_longest, 605, 49), (mX10_odds, 609, 49), (mX10_leastTerm, 645, 49), (mX10_lots, 649, 49), (mX10_sweep, 653, 49), (mX10_order, 664, 49), (mX10_saw, 668, 49), (mX10_forget, 676, 49), (mX10_could, 680, 49)] ++ ([(mX10_canHaveBegunAt, 684, 49), (mX10_mark, 692, 49), (mX10_keep, 727, 49), (mX10_back, 731, 49), (mX10_count, 735, 49), (mX10_trace, 739, 49), (mX11_init, 744, 60), (mX11_type, 810, 60), (mX11_in, 813, 60), (mX11_clear, 818, 60), (mX11_town, 822, 60), (mX11_reads, 826, 60), (mX11_token, 830, 60), (mX11_byteAt, 834, 60), (mX11_sortOf, 837, 60), (mX11_verb, 841, 60), (mX11_readsItem, 850, 60), (mX11_readsPlace, 854, 60), (mX11_number, 858, 60), (mX11_figure, 862, 60)] ++ ([(mX11_readsSeeker, 866, 60), (mX11_once, 870, 60), (mX11_place, 874, 60), (mX11_isPlace, 878, 60), (mX11_noWorse, 882, 60), (mX11_seeker, 886, 60), (mX11_isSeeker, 890, 60), (mX11_habit, 894, 60), (mX11_puts, 898, 60), (mX11_looks, 902, 60), (mX11_hides, 906, 60), (mX11_ones, 909, 60), (mX11_drawn, 913, 60), (mX11_member, 917, 60), (mX11_week, 921, 60), (mX11_starts, 925, 60), (mX11_plays, 929, 60), (mX11_finds, 933, 60), (mX11_now, 937, 60), (mX11_lot, 941, 60)] ++ ([(mX11_lies, 945, 60), (mX11_firstWeek, 949, 60), (mX11_longest, 953, 60), (mX11_odds, 957, 60), (mX11_state, 963, 60), (mX11_spreadsAll, 967, 60), (mX11_spreads, 971, 60), (mX11_isAt, 975, 60), (mX11_part, 978, 60), (mX11_divisor, 981, 60), (mX11_lots, 985, 60), (mX11_allHard, 989, 60), (mX11_sweep, 993, 60), (mX11_rank, 997, 60), (mX11_order, 1001, 60), (mX11_saw, 1005, 60), (mX11_forget, 1009, 60), (mX11_could, 1013, 60), (mX11_began, 1017, 60), (mX11_mark, 1021, 60)] ++ ([(mX11_keep, 1031, 60), (mX11_back, 1035, 60), (mX11_count, 1039, 60), (mX11_trace, 1043, 60), (mJ0_length_8abf5, 389, 61), (mJ0_coder_7d493, 393, 61), (mJ0_charAt_5068e, 399, 61), (mJ0_isLatin1_aae02, 403, 61), (mJ0_checkIndex_df160, 409, 61), (mJ1_charAt_3b067, 406, 62), (mJ6_bitCount_0f7a4, 554, 67), (mJ7_fill_53178, 518, 66), (mJ7_fill_d0a16, 617, 66), (mJ3_checkIndex_8e157, 414, 63)])))))))
theorem zMz_ok : ∀ q ∈ zMz, zMd q := List.forall_mem_append.mpr ⟨zcc_0, List.forall_mem_append.mpr ⟨zcc_1, List.forall_mem_append.mpr ⟨zcc_2, List.forall_mem_append.mpr ⟨zcc_3, List.forall_mem_append.mpr ⟨zcc_4, List.forall_mem_append.mpr ⟨zcc_5, List.forall_mem_append.mpr ⟨zcc_6, zcc_7⟩⟩⟩⟩⟩⟩⟩
set_option maxRecDepth 20000 in
theorem zMz_fst : zMz.map (fun q => q.1) = zMs := rfl
def mL_law : zM := (yL_law, cL_law, 4, (some .boolean), 12, 600000, 7302250)
abbrev zFe : Type := (Nat × Nat) × (Nat × Nat × Bool × List Nat) × String × Nat × Nat
def zFt : List zFe := [((8, 15), (0, 0, false, [8]), RX8, 83, 0), ((10, 73), (0, 0, false, [8]), RX8, 84, 0), ((8, 9), (3, 1, true, [8]), RX8, 85, 0), ((8, 24), (0, 2, false, [8]), RX8, 86, 0), ((8, 44), (0, 3, false, [8]), RX8, 87, 0), ((8, 37), (0, 4, false, [8]), RX8, 88, 0), ((8, 69), (0, 5, false, [8]), RX8, 89, 0), ((8, 27), (1, 6, false, [8]), RX8, 90, 0), ((8, 31), (1, 7, false, [8]), RX8, 91, 0), ((9, 48), (0, 0, false, [9]), RX9, 118, 0), ((0, 80), (0, 0, false, [9]), RX9, 119, 0), ((8, 62), (0, 0, false, [9]), RX9, 120, 0), ((10, 133), (0, 0, false, [9]), RX9, 121, 0), ((9, 51), (0, 1, false, [9]), RX9, 122, 0), ((7, 46), (0, 1, false, [9]), RX9, 123, 0), ((0, 83), (0, 1, false, [9]), RX9, 124, 0), ((8, 76), (0, 1, false, [9]), RX9, 125, 0), ((10, 206), (0, 1, false, [9]), RX9, 126, 0), ((9, 54), (0, 2, false, [9]), RX9, 127, 0), ((8, 92), (0, 2, false, [9]), RX9, 128, 0), ((10, 123), (0, 2, false, [9]), RX9, 129, 0), ((9, 44), (0, 3, false, [9]), RX9, 130, 0), ((10, 85), (0, 3, false, [9]), RX9, 131, 0), ((8, 89), (0, 3, false, [9]), RX9, 132, 0), ((9, 57), (0, 4, false, [9]), RX9, 133, 0), ((10, 172), (0, 4, false, [9]), RX9, 134, 0), ((9, 9), (3, 5, true, [9]), RX9, 135, 0), ((10, 96), (3, 5, true, [9]), RX9, 136, 0), ((9, 15), (3, 6, true, [9]), RX9, 137, 0), ((0, 67), (3, 6, true, [9]), RX9, 138, 0), ((10, 100), (3, 6, true, [9]), RX9, 139, 0), ((7, 76), (3, 6, true, [9]), RX9, 140, 0), ((9, 18), (3, 7, true, [9]), RX9, 141, 0), ((7, 70), (3, 7, true, [9]), RX9, 142, 0), ((9, 21), (3, 8, true, [9]), RX9, 143, 0), ((7, 73), (3, 8, true, [9]), RX9, 144, 0), ((9, 24), (3, 9, true, [9]), RX9, 145, 0), ((10, 184), (3, 9, true, [9]), RX9, 146, 0), ((9, 27), (3, 10, true, [9]), RX9, 147, 0), ((6, 13), (3, 10, true, [9]), RX9, 148, 0), ((10, 106), (3, 10, true, [9]), RX9, 149, 0), ((9, 30), (3, 11, true, [9]), RX9, 150, 0), ((1, 19), (3, 11, true, [9]), RX9, 151, 0), ((10, 109), (3, 11, true, [9]), RX9, 152, 0), ((9, 35), (3, 12, true, [9]), RX9, 153, 0), ((10, 118), (3, 12, true, [9]), RX9, 154, 0), ((9, 38), (3, 13, true, [9]), RX9, 155, 0), ((9, 41), (3, 14, true, [9]), RX9, 156, 0), ((7, 27), (0, 0, false, [7]), RX7, 194, 0), ((0, 31), (0, 0, false, [7]), RX7, 195, 0), ((10, 122), (0, 0, false, [7]), RX7, 196, 0), ((7, 34), (0, 1, false, [7]), RX7, 197, 0), ((4, 19), (0, 1, false, [7]), RX7, 198, 0), ((10, 130), (0, 1, false, [7]), RX7, 199, 0), ((7, 31), (0, 2, false, [7]), RX7, 200, 0), ((10, 150), (0, 2, false, [7]), RX7, 201, 0), ((7, 37), (0, 3, false, [7]), RX7, 202, 0), ((10, 187), (0, 3, false, [7]), RX7, 203, 0), ((7, 9), (3, 4, true, [7]), RX7, 204, 0), ((0, 43), (3, 4, true, [7]), RX7, 205, 0), ((10, 112), (3, 4, true, [7]), RX7, 206, 0), ((7, 15), (3, 5, true, [7]), RX7, 207, 0), ((2, 19), (3, 5, true, [7]), RX7, 208, 0), ((10, 115), (3, 5, true, [7]), RX7, 209, 0), ((7, 18), (3, 6, true, [7]), RX7, 210, 0), ((7, 21), (3, 7, true, [7]), RX7, 211, 0), ((7, 24), (3, 8, true, [7]), RX7, 212, 0), ((0, 9), (3, 0, true, [0]), RX0, 239, 0), ((10, 162), (3, 0, true, [0]), RX0, 240, 0), ((0, 15), (3, 1, true, [0]), RX0, 241, 0), ((0, 18), (3, 2, true, [0]), RX0, 242, 0), ((0, 21), (3, 3, true, [0]), RX0, 243, 0), ((6, 7), (2, 0, false, [1, 2, 3, 4, 5, 6]), RX6, 262, 0), ((1, 7), (2, 0, false, [1, 5]), RX1, 263, 264), ((2, 7), (2, 0, false, [2, 3]), RX2, 265, 266), ((3, 7), (2, 0, false, [3]), RX3, 267, 268), ((4, 7), (2, 0, false, [4]), RX4, 269, 270), ((5, 7), (2, 0, false, [5]), RX5, 271, 272), ((10, 209), (2, 0, false, [1, 2, 3, 4, 5, 6]), RX6, 273, 0), ((10, 10), (3, 0, true, [10]), RX10, 317, 0), ((10, 19), (3, 1, false, [10]), RX10, 318, 0), ((10, 23), (3, 2, false, [10]), RX10, 319, 0), ((10, 29), (3, 3, true, [10]), RX10, 320, 0), ((10, 33), (3, 4, true, [10]), RX10, 321, 0), ((10, 36), (3, 5, true, [10]), RX10, 322, 0), ((10, 40), (3, 6, true, [10]), RX10, 323, 0), ((10, 47), (3, 7, true, [10]), RX10, 324, 0), ((10, 53), (3, 8, true, [10]), RX10, 325, 0), ((11, 195), (2, 0, false, [11]), RX11, 746, 0), ((11, 7), (0, 1, false, [11]), RX11, 747, 0), ((11, 13), (3, 2, true, [11]), RX11, 748, 0), ((11, 50), (0, 3, false, [11]), RX11, 749, 0), ((11, 17), (3, 4, true, [11]), RX11, 750, 0), ((11, 20), (3, 5, true, [11]), RX11, 751, 0), ((11, 23), (3, 6, true, [11]), RX11, 752, 0), ((11, 26), (3, 7, true, [11]), RX11, 753, 0), ((11, 29), (3, 8, true, [11]), RX11, 754, 0), ((11, 55), (0, 9, false, [11]), RX11, 755, 0), ((11, 68), (0, 10, false, [11]), RX11, 756, 0), ((11, 62), (0, 11, false, [11]), RX11, 757, 0), ((11, 71), (0, 12, false, [11]), RX11, 758, 0), ((11, 124), (0, 13, false, [11]), RX11, 759, 0), ((11, 33), (3, 14, true, [11]), RX11, 760, 0), ((11, 140), (0, 15, false, [11]), RX11, 761, 0), ((11, 128), (0, 16, false, [11]), RX11, 762, 0), ((11, 36), (3, 17, true, [11]), RX11, 763, 0), ((11, 40), (3, 18, true, [11]), RX11, 764, 0), ((11, 43), (3, 19, true, [11]), RX11, 765, 0)]
def zF (j i : Nat) : Option (Nat × Nat × Bool × List Nat) := (zFt.find? (fun e => e.1.1 == j && e.1.2 == i)).map (fun e => e.2.1)
def zFc (e : zFe) : Bool := e.2.1.2.2.2.all (fun kd => match vwCl[kd]? with
  | none => false
  | some r => decide (e.2.1.2.1 < r.2.2) && ((r.2.1 e.2.1.2.1).2.2.2 == e.2.1.2.2.1) && (zft kd e.2.1.2.1 == e.2.1.1) && decide (lw_tbl[e.2.2.2.1]? = some (Cond.fieldLink (zR0 e.1.1) e.1.2 e.2.2.1 (r.2.1 e.2.1.2.1).2.1 (r.2.1 e.2.1.2.1).2.2.1)) && (decide ((r.2.1 e.2.1.2.1).1 = e.2.2.1) || decide (lw_tbl[e.2.2.2.2]? = some (Cond.sameField e.2.2.1 (r.2.1 e.2.1.2.1).1 (r.2.1 e.2.1.2.1).2.1 (r.2.1 e.2.1.2.1).2.2.1))))
theorem zfin_ok : (List.range 12).all (fun kd => match vwCl[kd]? with | none => false | some r => decide (r.1 = zR0 kd) && (List.range r.2.2).all (fun k => !(r.2.1 k).2.2.2 || decide ((r.2.1 k).1 = r.1))) = true := by decide +kernel
theorem zFt_ok : zFt.all zFc = true := by decide +kernel
abbrev zKe : Type := (Nat × Nat) × Value × Nat
def zKt : List zKe := [((8, 107), .ref 5000, 381), ((8, 113), .ref 5001, 434), ((8, 115), .ref 5002, 435), ((8, 116), .ref 5003, 436), ((22, 265), .int (1431655765), 555), ((22, 266), .int (858993459), 556), ((22, 267), .int (252645135), 557), ((7, 88), .int (1103515245), 558), ((10, 156), .long (-1), 610), ((0, 50), .long (167961600000000), 622), ((10, 166), .long (167961600000000), 642), ((10, 197), .int (-1000000), 693), ((1, 13), .long (100), 701), ((2, 13), .long (10), 706), ((3, 13), .long (1000), 711), ((4, 13), .long (100000), 716), ((5, 13), .long (10000), 721), ((11, 53), .long (255), 814), ((11, 74), .long (256), 842), ((11, 76), .long (482854658917), 843), ((11, 78), .long (126879330428274), 844), ((11, 80), .long (1919512167), 845), ((11, 82), .long (7102839), 846), ((11, 127), .int (1103515245), 914), ((11, 174), .long (-1), 958), ((11, 176), .long (167961600000000), 959), ((11, 194), .int (-1000000), 1022), ((11, 199), .long (11), 1023), ((11, 201), .long (101), 1024), ((11, 203), .long (1011), 1025), ((11, 205), .long (10101), 1026), ((11, 207), .long (100001), 1027), ((12, 13), .long (4294967295), 1044)]
def zK (j i : Nat) : Option Value := (zKt.find? (fun e => e.1.1 == j && e.1.2 == i)).map (fun e => e.2.1)
def zki : List Nat := [107, 113, 115, 116]
def ztx : List String := ["place", "seeker", "ring", "law"]
def zKc (e : zKe) : Bool := match e.2.1 with
  | .int x => decide (lw_tbl[e.2.2]? = some (Cond.constant (zR0 e.1.1) e.1.2 x))
  | .long x => decide (lw_tbl[e.2.2]? = some (Cond.constantLong (zR0 e.1.1) e.1.2 x))
  | .ref a => decide (5000 ≤ a ∧ a < 5004 ∧ e.1.1 = 8 ∧ zki[a - 5000]? = some e.1.2)
  | _ => false
theorem zKt_ok : zKt.all zKc = true := by decide +kernel
-- multianewarray [[I: 9 33 place 116
abbrev zNe : Type := (Nat × Nat) × Nat × Nat × Nat × Nat
def zNt : List zNe := [((12, 7), 10, 69, 70, 49), ((10, 7), 8, 77, 78, 50), ((10, 16), 9, 110, 111, 51), ((10, 26), 7, 188, 189, 52), ((10, 44), 0, 233, 234, 53), ((10, 51), 6, 255, 257, 54), ((10, 58), 2, 277, 278, 55), ((10, 61), 1, 285, 286, 56), ((10, 64), 3, 293, 294, 57), ((10, 67), 5, 301, 302, 58), ((10, 70), 4, 309, 310, 59), ((12, 10), 11, 740, 741, 60)]
def zN (j i : Nat) : Option Nat := (zNt.find? (fun e => e.1.1 == j && e.1.2 == i)).map (fun e => e.2.1)
def zNc (e : zNe) : Bool := match vwCl[e.2.1]? with
  | none => false
  | some r => decide (lw_tbl[e.2.2.1]? = some (Cond.classLink (zR0 e.1.1) e.1.2 r.1)) && decide (lw_tbl[e.2.2.2.1]? = some (Cond.instantiable r.1 r.2.2)) && decide (lw_tbl[e.2.2.2.2]? = some (Cond.initialized r.1))
theorem zNt_ok : zNt.all zNc = true := by decide +kernel
abbrev zAe : Type := (Nat × Nat) × Nat × Nat
def zAt : List zAe := [((10, 26), 23, 188), ((10, 51), 24, 255)]
def zA (j i : Nat) : Option Nat := (zAt.find? (fun e => e.1.1 == j && e.1.2 == i)).map (fun e => e.2.1)
def zAn (k : Nat) : String := if k = 23 then RX7 else RX6
def zAc (e : zAe) : Bool := decide (lw_tbl[e.2.2]? = some (Cond.classLink (zR0 e.1.1) e.1.2 (zAn e.2.1))) && decide (e.2.1 = 23 ∨ e.2.1 = 24)
theorem zAt_ok : zAt.all zAc = true := by decide +kernel
theorem zMul_ok : lw_tbl[116]? = some (Cond.classLink (zR0 9) 33 "[[I") := by decide +kernel
/-- all words of a list have places -/
def zal (ws : List Cond) (ix : List Nat) : Bool := ws.length == ix.length && (ws.zip ix).all (fun q => decide (lw_tbl[q.2]? = some q.1) && goodWord q.1)
/-! virtual calls: class and index; parameters; the method named; by the receiver's class: the method that is run, how (0 that one, 1 one that overrides it), the words' places -/
abbrev zVe : Type := (Nat × Nat) × Nat × Nat × List (Nat × Nat × Nat × List Nat)
def zVt : List zVe := [((12, 15), 2, 58, [(10, 58, 0, [345, 346, 347, 49])]), ((10, 77), 2, 28, [(8, 28, 0, [349, 350, 351, 50])]), ((12, 20), 0, 59, [(10, 59, 0, [353, 354, 355, 49])]), ((12, 25), 0, 60, [(10, 60, 0, [357, 358, 359, 49])]), ((10, 81), 1, 29, [(8, 29, 0, [361, 362, 363, 50])]), ((8, 19), 0, 43, [(9, 43, 0, [365, 366, 367, 51])]), ((8, 34), 0, 30, [(8, 30, 0, [369, 371, 0, 50])]), ((8, 95), 1, 31, [(8, 31, 0, [373, 375, 1, 50])]), ((8, 98), 0, 32, [(8, 32, 0, [377, 379, 2, 50])]), ((8, 109), 1, 33, [(8, 33, 0, [382, 384, 3, 50])]), ((8, 123), 0, 144, [(20, 144, 0, [386, 387, 388, 61])]), ((20, 335), 0, 145, [(20, 145, 0, [390, 391, 392, 61])]), ((8, 128), 1, 146, [(20, 146, 0, [396, 397, 398, 61])]), ((20, 492), 0, 147, [(20, 147, 0, [400, 401, 402, 61])]), ((8, 101), 1, 34, [(8, 34, 0, [437, 439, 4, 50])]), ((8, 104), 0, 35, [(8, 35, 0, [441, 443, 5, 50])]), ((8, 40), 1, 36, [(8, 36, 0, [448, 450, 6, 50])]), ((8, 50), 1, 37, [(8, 37, 0, [452, 454, 7, 50])]), ((8, 65), 2, 38, [(8, 38, 0, [456, 458, 8, 50])]), ((8, 72), 1, 44, [(9, 44, 0, [460, 461, 462, 51])]), ((8, 53), 1, 39, [(8, 39, 0, [464, 466, 9, 50])]), ((8, 79), 1, 45, [(9, 45, 0, [468, 469, 470, 51])]), ((8, 82), 1, 46, [(9, 46, 0, [472, 473, 474, 51])]), ((8, 86), 1, 47, [(9, 47, 0, [476, 477, 478, 51])]), ((9, 60), 1, 48, [(9, 48, 0, [480, 481, 482, 51])]), ((8, 56), 1, 40, [(8, 40, 0, [484, 486, 10, 50])]), ((8, 59), 1, 41, [(8, 41, 0, [488, 490, 11, 50])]), ((8, 47), 0, 49, [(9, 49, 0, [492, 493, 494, 51])]), ((9, 64), 0, 50, [(9, 50, 0, [496, 498, 12, 51])]), ((9, 67), 1, 51, [(9, 51, 0, [500, 502, 13, 51])]), ((9, 71), 2, 52, [(9, 52, 0, [504, 506, 14, 51])]), ((9, 75), 2, 53, [(9, 53, 0, [508, 510, 15, 51])]), ((10, 88), 1, 19, [(7, 19, 0, [512, 513, 514, 52])]), ((12, 29), 2, 61, [(10, 61, 0, [520, 521, 522, 49])]), ((10, 92), 1, 46, [(9, 46, 0, [524, 473, 474, 51])]), ((12, 34), 2, 62, [(10, 62, 0, [525, 526, 527, 49])]), ((10, 103), 1, 48, [(9, 48, 0, [529, 481, 482, 51])]), ((12, 38), 2, 63, [(10, 63, 0, [530, 531, 532, 49])]), ((12, 42), 1, 64, [(10, 64, 0, [534, 535, 536, 49])]), ((12, 47), 2, 65, [(10, 65, 0, [538, 539, 540, 49])]), ((10, 126), 3, 20, [(7, 20, 0, [542, 543, 544, 52])]), ((7, 63), 1, 48, [(9, 48, 0, [546, 481, 482, 51])]), ((7, 67), 1, 46, [(9, 46, 0, [547, 473, 474, 51])]), ((7, 79), 1, 21, [(7, 21, 0, [548, 550, 16, 52])]), ((12, 51), 0, 66, [(10, 66, 0, [559, 560, 561, 49])]), ((10, 136), 2, 22, [(7, 22, 0, [563, 564, 565, 52])]), ((7, 51), 3, 54, [(9, 54, 0, [567, 568, 569, 51])]), ((7, 55), 3, 55, [(9, 55, 0, [571, 572, 573, 51])]), ((9, 79), 3, 54, [(9, 54, 0, [575, 568, 569, 51])]), ((7, 59), 3, 20, [(7, 20, 0, [576, 543, 544, 52])]), ((12, 55), 1, 67, [(10, 67, 0, [578, 579, 580, 49])]), ((10, 146), 0, 23, [(7, 23, 0, [582, 583, 584, 52])]), ((12, 59), 1, 68, [(10, 68, 0, [586, 587, 588, 49])]), ((12, 63), 1, 69, [(10, 69, 0, [590, 591, 592, 49])]), ((10, 153), 1, 70, [(10, 70, 0, [594, 596, 17, 49])]), ((10, 202), 1, 24, [(7, 24, 0, [598, 599, 600, 52])]), ((12, 67), 0, 71, [(10, 71, 0, [602, 603, 604, 49])]), ((12, 71), 3, 72, [(10, 72, 0, [606, 607, 608, 49])]), ((10, 158), 3, 1, [(0, 1, 0, [611, 612, 613, 53])]), ((0, 37), 1, 46, [(9, 46, 0, [618, 473, 474, 51])]), ((0, 52), 3, 2, [(0, 2, 0, [623, 625, 18, 53])]), ((0, 86), 2, 3, [(0, 3, 0, [627, 629, 19, 53])]), ((0, 63), 3, 54, [(9, 54, 0, [631, 568, 569, 51])]), ((0, 90), 2, 4, [(0, 4, 0, [632, 634, 20, 53])]), ((0, 60), 1, 48, [(9, 48, 0, [640, 481, 482, 51])]), ((0, 76), 3, 55, [(9, 55, 0, [641, 572, 573, 51])]), ((12, 76), 2, 74, [(10, 74, 0, [646, 647, 648, 49])]), ((12, 80), 1, 75, [(10, 75, 0, [650, 651, 652, 49])]), ((10, 175), 0, 56, [(9, 56, 0, [654, 655, 656, 51])]), ((12, 84), 1, 76, [(10, 76, 0, [661, 662, 663, 49])]), ((12, 88), 3, 77, [(10, 77, 0, [665, 666, 667, 49])]), ((10, 190), 3, 25, [(7, 25, 0, [669, 670, 671, 52])]), ((12, 93), 0, 78, [(10, 78, 0, [673, 674, 675, 49])]), ((12, 97), 1, 79, [(10, 79, 0, [677, 678, 679, 49])]), ((10, 194), 1, 80, [(10, 80, 0, [681, 683, 21, 49])]), ((10, 213), 2, 26, [(7, 26, 0, [685, 686, 687, 52])]), ((12, 101), 2, 81, [(10, 81, 0, [689, 690, 691, 49])]), ((10, 198), 3, 17, [(1, 7, 1, [694, 697, 695, 698, 699, 56]), (2, 9, 1, [694, 697, 695, 703, 704, 55]), (3, 11, 1, [694, 697, 695, 708, 709, 57]), (4, 13, 1, [694, 697, 695, 713, 714, 59]), (5, 15, 1, [694, 697, 695, 718, 719, 58]), (6, 17, 0, [694, 695, 696, 54])]), ((12, 105), 1, 82, [(10, 82, 0, [724, 725, 726, 49])]), ((12, 109), 1, 83, [(10, 83, 0, [728, 729, 730, 49])]), ((12, 113), 1, 84, [(10, 84, 0, [732, 733, 734, 49])]), ((12, 117), 0, 85, [(10, 85, 0, [736, 737, 738, 49])]), ((12, 19), 2, 87, [(11, 87, 0, [807, 808, 809, 60])]), ((12, 24), 0, 89, [(11, 89, 0, [815, 816, 817, 60])]), ((12, 28), 0, 90, [(11, 90, 0, [819, 820, 821, 60])]), ((11, 112), 0, 91, [(11, 91, 0, [823, 825, 22, 60])]), ((11, 84), 0, 92, [(11, 92, 0, [827, 829, 23, 60])]), ((11, 58), 1, 93, [(11, 93, 0, [831, 833, 24, 60])]), ((11, 104), 0, 95, [(11, 95, 0, [838, 840, 25, 60])]), ((11, 108), 1, 96, [(11, 96, 0, [847, 849, 26, 60])]), ((11, 94), 0, 97, [(11, 97, 0, [851, 853, 27, 60])]), ((11, 91), 2, 98, [(11, 98, 0, [855, 857, 28, 60])]), ((11, 87), 2, 99, [(11, 99, 0, [859, 861, 29, 60])]), ((11, 98), 0, 100, [(11, 100, 0, [863, 865, 30, 60])]), ((11, 101), 3, 101, [(11, 101, 0, [867, 869, 31, 60])]), ((12, 33), 2, 102, [(11, 102, 0, [871, 872, 873, 60])]), ((11, 115), 1, 103, [(11, 103, 0, [875, 877, 32, 60])]), ((11, 118), 1, 104, [(11, 104, 0, [879, 881, 33, 60])]), ((12, 37), 2, 105, [(11, 105, 0, [883, 884, 885, 60])]), ((11, 121), 1, 106, [(11, 106, 0, [887, 889, 34, 60])]), ((12, 41), 2, 107, [(11, 107, 0, [891, 892, 893, 60])]), ((12, 46), 1, 108, [(11, 108, 0, [895, 896, 897, 60])]), ((12, 50), 2, 109, [(11, 109, 0, [899, 900, 901, 60])]), ((11, 146), 0, 110, [(11, 110, 0, [903, 905, 35, 60])]), ((11, 134), 1, 112, [(11, 112, 0, [910, 912, 36, 60])]), ((12, 54), 0, 114, [(11, 114, 0, [918, 919, 920, 60])]), ((11, 149), 2, 115, [(11, 115, 0, [922, 924, 37, 60])]), ((11, 153), 0, 116, [(11, 116, 0, [926, 928, 38, 60])]), ((11, 143), 1, 117, [(11, 117, 0, [930, 932, 39, 60])]), ((12, 58), 1, 118, [(11, 118, 0, [934, 935, 936, 60])]), ((12, 62), 1, 119, [(11, 119, 0, [938, 939, 940, 60])]), ((12, 66), 1, 120, [(11, 120, 0, [942, 943, 944, 60])]), ((11, 156), 1, 121, [(11, 121, 0, [946, 948, 40, 60])]), ((12, 70), 0, 122, [(11, 122, 0, [950, 951, 952, 60])]), ((12, 75), 3, 123, [(11, 123, 0, [954, 955, 956, 60])]), ((11, 167), 0, 124, [(11, 124, 0, [960, 962, 41, 60])]), ((11, 178), 1, 125, [(11, 125, 0, [964, 966, 42, 60])]), ((11, 170), 2, 126, [(11, 126, 0, [968, 970, 43, 60])]), ((11, 163), 1, 127, [(11, 127, 0, [972, 974, 44, 60])]), ((12, 79), 2, 130, [(11, 130, 0, [982, 983, 984, 60])]), ((11, 185), 0, 131, [(11, 131, 0, [986, 988, 45, 60])]), ((12, 83), 1, 132, [(11, 132, 0, [990, 991, 992, 60])]), ((11, 188), 1, 133, [(11, 133, 0, [994, 996, 46, 60])]), ((12, 87), 1, 134, [(11, 134, 0, [998, 999, 1000, 60])]), ((12, 92), 3, 135, [(11, 135, 0, [1002, 1003, 1004, 60])]), ((12, 96), 0, 136, [(11, 136, 0, [1006, 1007, 1008, 60])]), ((12, 100), 1, 137, [(11, 137, 0, [1010, 1011, 1012, 60])]), ((11, 191), 1, 138, [(11, 138, 0, [1014, 1016, 47, 60])]), ((12, 104), 2, 139, [(11, 139, 0, [1018, 1019, 1020, 60])]), ((12, 108), 1, 140, [(11, 140, 0, [1028, 1029, 1030, 60])]), ((12, 112), 1, 141, [(11, 141, 0, [1032, 1033, 1034, 60])]), ((12, 116), 1, 142, [(11, 142, 0, [1036, 1037, 1038, 60])]), ((12, 121), 0, 143, [(11, 143, 0, [1040, 1041, 1042, 60])])]
def zV (j i : Nat) : Option (Nat × List (Nat × Nat × Nat × List Nat)) := (zVt.find? (fun e => e.1.1 == j && e.1.2 == i)).map (fun e => (e.2.1, e.2.2.2))
def zw0 (own : String) (i : Nat) (C : String) (y : MethodName) : List Cond := [.methodLink own i y, .instanceMethod y, .selects C y y, .initialized C]
def zw1 (own : String) (i : Nat) (C : String) (x y : MethodName) : List Cond := [.methodLink own i x, .sameMethod x.cls x.cls x.name x.desc, .instanceMethod x, .selects C x y, .instanceMethod y, .initialized y.cls]
def zVc (e : zVe) : Bool := e.2.2.2.all (fun t => match zMs[t.2.1]?, zMs[e.2.2.1]? with
  | some mm, some m0 => decide ((parseMethodDescriptor mm.1.desc).map (fun d => d.parameters.length) = some e.2.1) && decide (mm.1.cls = zR0 t.1) && (if t.2.2.1 = 0 then zal (zw0 (zR0 e.1.1) e.1.2 (zR0 t.1) mm.1) t.2.2.2 else (decide (e.2.2.1 = 17 ∧ mm.1.name = m0.1.name ∧ mm.1.desc = m0.1.desc) && zal (zw1 (zR0 e.1.1) e.1.2 (zR0 t.1) m0.1 mm.1) t.2.2.2))
  | _, _ => false)
theorem zVt_ok : zVt.all zVc = true := by decide +kernel
abbrev zSe : Type := (Nat × Nat) × Nat × Nat × List Nat
def zSt : List zSe := [((20, 495), 2, 149, [404, 405, 62]), ((21, 9), 2, 148, [407, 408, 61]), ((20, 1059), 3, 153, [412, 413, 63]), ((7, 40), 2, 151, [516, 517, 66]), ((7, 83), 1, 150, [552, 553, 67]), ((10, 140), 1, 150, [577, 553, 67]), ((0, 25), 2, 152, [615, 616, 66]), ((0, 70), 1, 150, [636, 553, 67]), ((0, 56), 5, 5, [637, 638, 53]), ((10, 168), 3, 73, [643, 644, 49]), ((11, 46), 3, 88, [811, 812, 60]), ((11, 65), 1, 94, [835, 836, 60]), ((11, 131), 1, 111, [907, 908, 60]), ((11, 137), 2, 113, [915, 916, 60]), ((11, 181), 3, 128, [976, 977, 60]), ((11, 159), 2, 129, [979, 980, 60])]
def zS (j i : Nat) : Option (Nat × Nat) := (zSt.find? (fun e => e.1.1 == j && e.1.2 == i)).map (fun e => (e.2.1, e.2.2.1))
def zSc0 (e : zSe) : Bool := match zMs[e.2.2.1]? with
  | some mm => decide ((parseMethodDescriptor mm.1.desc).map (fun d => d.parameters.length) = some e.2.1) && zal [.methodLink (zR0 e.1.1) e.1.2 mm.1, .static mm.1, .initialized mm.1.cls] e.2.2.2
  | none => false
theorem zSt_ok : zSt.all zSc0 = true := by decide +kernel
/-! special calls: 0 a constructor, 1 what the class above does, 2 a private constructor of a nest mate -/
abbrev zIe : Type := (Nat × Nat) × Nat × Nat × Nat × List Nat
def zIt : List zIe := [((12, 9), 0, 57, 0, [49, 71, 72]), ((10, 9), 0, 27, 2, [79, 50, 80]), ((10, 18), 0, 42, 0, [51, 112, 113]), ((10, 28), 0, 18, 0, [52, 190, 191]), ((10, 46), 0, 0, 2, [235, 53, 236]), ((10, 57), 0, 16, 2, [258, 54, 259]), ((10, 60), 0, 8, 2, [279, 55, 280]), ((2, 1), 0, 16, 2, [282, 54, 259]), ((10, 63), 0, 6, 2, [287, 56, 288]), ((1, 1), 0, 16, 2, [290, 54, 259]), ((10, 66), 0, 10, 2, [295, 57, 296]), ((3, 1), 0, 8, 2, [298, 55, 280]), ((10, 69), 0, 14, 2, [303, 58, 304]), ((5, 1), 0, 6, 2, [306, 56, 288]), ((10, 72), 0, 12, 2, [311, 59, 312]), ((4, 1), 0, 16, 2, [314, 54, 259]), ((1, 15), 3, 17, 1, [702, 697, 292, 695, 54]), ((2, 15), 3, 17, 1, [707, 697, 284, 695, 54]), ((3, 15), 3, 9, 1, [712, 1045, 300, 704, 55]), ((4, 15), 3, 17, 1, [717, 697, 316, 695, 54]), ((5, 15), 3, 7, 1, [722, 1046, 308, 699, 56]), ((12, 12), 0, 86, 0, [60, 742, 743])]
def zI (j i : Nat) : Option (Nat × Nat × Nat) := (zIt.find? (fun e => e.1.1 == j && e.1.2 == i)).map (fun e => (e.2.1, e.2.2.1, e.2.2.2.1))
def zIc (e : zIe) : Bool := match zMs[e.2.2.1]? with
  | some mm => decide ((parseMethodDescriptor mm.1.desc).map (fun d => d.parameters.length) = some e.2.1) && (match e.2.2.2.1 with
    | 0 => decide (mm.1.name = "<init>" ∧ mm.2.2.2.1 = none) && zal [.initialized mm.1.cls, .methodLink (zR0 e.1.1) e.1.2 mm.1, .instanceMethod mm.1] e.2.2.2.2
    | 1 => decide (mm.1.name ≠ "<init>") && zal [.methodLink (zR0 e.1.1) e.1.2 mm.1, .sameMethod mm.1.cls mm.1.cls mm.1.name mm.1.desc, .superclass (zR0 e.1.1) mm.1.cls, .instanceMethod mm.1, .initialized mm.1.cls] e.2.2.2.2
    | _ => decide (mm.1.name = "<init>" ∧ mm.2.2.2.1 = none) && (match e.2.2.2.2 with
      | w :: r => decide (lw_tbl[w]? = some (.methodLinkNest (zR0 e.1.1) e.1.2 mm.1 RX10)) && zal [.initialized mm.1.cls, .instanceMethod mm.1] r
      | [] => false))
  | none => false
theorem zIt_ok : zIt.all zIc = true := by decide +kernel
/-! Object() -/
def zOt : List ((Nat × Nat) × Nat) := [((10, 1), 74), ((8, 3), 82), ((9, 3), 115), ((7, 3), 193), ((0, 3), 238), ((6, 1), 261), ((11, 1), 745)]
def zO (j i : Nat) : Bool := zOt.any (fun e => e.1.1 == j && e.1.2 == i)
theorem zOt_ok : zOt.all (fun e => decide (lw_tbl[e.2]? = some (Cond.methodLink (zR0 e.1.1) e.1.2 objectInit))) = true := by decide +kernel
theorem zO_w : lw_tbl[75]? = some (Cond.instanceMethod objectInit) ∧ lw_tbl[76]? = some (Cond.code objectInit ⟨#[0xb1]⟩ 1 none) := by decide +kernel
/-! arraycopy: class 0, index 44 -/
theorem zC_w : lw_tbl[619]? = some (Cond.methodLink (zR0 0) 44 arraycopyName) ∧ lw_tbl[621]? = some (Cond.native arraycopyName) ∧ lw_tbl[620]? = some (Cond.static arraycopyName) ∧ lw_tbl[68]? = some (Cond.initialized "java/lang/System") := by decide +kernel
/-! Math.min: class 8, index 117 -/
def zBmin : Nat × Nat := (8, 117)
theorem zB_min : lw_tbl[445]? = some (Cond.methodLink (zR0 8) 117 Lib.Math.min.name) ∧ lw_tbl[446]? = some (Cond.static Lib.Math.min.name) ∧ lw_tbl[65]? = some (Cond.initialized "java/lang/Math") ∧ lw_tbl[447]? = some (Cond.code Lib.Math.min.name Lib.Math.min.code 2 (some .int)) := ⟨by decide +kernel, by decide +kernel, by decide +kernel, by decide +kernel⟩
/-! Math.max: class 10, index 178 -/
def zBmax : Nat × Nat := (10, 178)
theorem zB_max : lw_tbl[658]? = some (Cond.methodLink (zR0 10) 178 Lib.Math.max.name) ∧ lw_tbl[659]? = some (Cond.static Lib.Math.max.name) ∧ lw_tbl[65]? = some (Cond.initialized "java/lang/Math") ∧ lw_tbl[660]? = some (Cond.code Lib.Math.max.name Lib.Math.max.code 2 (some .int)) := ⟨by decide +kernel, by decide +kernel, by decide +kernel, by decide +kernel⟩
-- ('arrayClass', 'Jvm.ClassFile.FieldType.int') place 109
-- ('arrayOver', '(Jvm.ClassFile.FieldType.array Jvm.ClassFile.FieldType.int)') place 117
-- ('arrayOver', '(Jvm.ClassFile.FieldType.object "FindersHide$State")') place 232
-- ('arrayClass', 'Jvm.ClassFile.FieldType.boolean') place 253
-- ('arrayClass', 'Jvm.ClassFile.FieldType.long') place 254
-- ('arrayOver', '(Jvm.ClassFile.FieldType.object "FindersHide$SeekerKind")') place 256
-- ('arrayClass', 'Jvm.ClassFile.FieldType.byte') place 519
-- ('fieldLink', 'java/lang/String', 38, 'java/lang/String', 'COMPACT_STRINGS', 'Z') place 394
-- ('fieldLink', 'java/lang/String', 1053, 'jdk/internal/util/Preconditions', 'SIOOBE_FORMATTER', 'Ljava/util/function/BiFunction;') place 410
-- ('fieldLink', 'java/lang/String', 9, 'java/lang/String', 'value', '[B') place 1052
-- ('fieldLink', 'java/lang/String', 15, 'java/lang/String', 'coder', 'B') place 1053
