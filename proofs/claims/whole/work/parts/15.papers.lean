def rmX7_carryOut : Room := { frames := 5, cells := 0, slots := 0, locals := 119 }
def fX7_carryOut (g_archive_rooms : Nat → Int32) (g_archive_moveDays : Nat → Int32) (g_archive_day : Int32) (v_archive_series : Rg) (v_archive_pieces : Rg) (v_archive_trial : Rg) (v_archive_moves : Rg) (v_rows : Rg) (g_text_verbs : Nat → Int32) (g_text_numbers : Nat → Int32) (g_page_length : Int32) (g_page_latest : Int32) (x1 : Int32) : Option ((Nat → Int32) × (Nat → Int32) × Int32 × Rg × Rg × Rg × Rg × Rg × Int32 × Int32) :=
  (fX6_numberOf g_text_numbers x1 0).bind fun r6 =>
  (fX6_numberOf g_text_numbers x1 1).bind fun r16 =>
  (fX6_numberOf g_text_numbers x1 2).bind fun r26 =>
  (fX6_verbOf g_text_verbs x1).bind fun r36 =>
  if r36 = 0 then
    (fX7_beginAnew g_archive_rooms g_archive_day v_archive_series v_archive_pieces v_archive_moves v_rows g_page_length g_page_latest).bind fun r85 =>
    some (r85.1, g_archive_moveDays, r85.2.1, r85.2.2.1, r85.2.2.2.1, v_archive_trial, r85.2.2.2.2.1, r85.2.2.2.2.2.1, r85.2.2.2.2.2.2.1, r85.2.2.2.2.2.2.2)
  else
  if r36 = 1 then
    (fX0_addSeries v_archive_series r6 r16 r26).bind fun r99 =>
    some (g_archive_rooms, g_archive_moveDays, g_archive_day, r99.2, v_archive_pieces, v_archive_trial, v_archive_moves, v_rows, g_page_length, g_page_latest)
  else
  if r36 = 2 then
    (fX0_addSeries v_archive_series (-1) r6 r16).bind fun r113 =>
    some (g_archive_rooms, g_archive_moveDays, g_archive_day, r113.2, v_archive_pieces, v_archive_trial, v_archive_moves, v_rows, g_page_length, g_page_latest)
  else
  if r36 = 3 then
    (fX0_setRoom g_archive_rooms v_archive_pieces r6 r16).bind fun r126 =>
    some (r126.2, g_archive_moveDays, g_archive_day, v_archive_series, v_archive_pieces, v_archive_trial, v_archive_moves, v_rows, g_page_length, g_page_latest)
  else
  if r36 = 4 then
    (fX0_layInto g_archive_rooms g_archive_moveDays g_archive_day v_archive_pieces v_archive_trial v_archive_moves r6 r16 r26).bind fun r141 =>
    some (g_archive_rooms, r141.2.1, g_archive_day, v_archive_series, r141.2.2.1, r141.2.2.2.1, r141.2.2.2.2, v_rows, g_page_length, g_page_latest)
  else
  if r36 = 5 then
    (fX0_takeOut g_archive_moveDays g_archive_day v_archive_pieces v_archive_trial v_archive_moves r6 r16).bind fun r154 =>
    some (g_archive_rooms, r154.2.1, g_archive_day, v_archive_series, r154.2.2.1, r154.2.2.2.1, r154.2.2.2.2, v_rows, g_page_length, g_page_latest)
  else
  if r36 = 6 then
    (fX7_addRow v_rows r6 r16 r26).bind fun r166 =>
    some (g_archive_rooms, g_archive_moveDays, g_archive_day, v_archive_series, v_archive_pieces, v_archive_trial, v_archive_moves, r166.2, g_page_length, g_page_latest)
  else
  if r36 = 7 then
    (fX0_letPass g_archive_day r6).bind fun r178 =>
    some (g_archive_rooms, g_archive_moveDays, r178.2, v_archive_series, v_archive_pieces, v_archive_trial, v_archive_moves, v_rows, g_page_length, g_page_latest)
  else
    some (g_archive_rooms, g_archive_moveDays, g_archive_day, v_archive_series, v_archive_pieces, v_archive_trial, v_archive_moves, v_rows, g_page_length, g_page_latest)
set_option maxRecDepth 100000 in
set_option maxHeartbeats 4000000 in
theorem tX7_carryOut {l : Launch} {D : va_G} {cI : ClassId} {cS : GS} {a : Nat → Nat} {a_archive : Nat → Nat} {a_history : Nat → Nat} {a_planner : Nat → Nat} {a_rows : Nat → Nat} {a_text : Nat → Nat} {a_page : Nat → Nat} {a_draft : Nat → Nat} {a_archive_series : Nat → Nat} {a_archive_pieces : Nat → Nat} {a_archive_trial : Nat → Nat} {a_archive_moves : Nat → Nat} {g_archive_rooms : Nat → Int32} {g_archive_moveDays : Nat → Int32} {g_archive_day : Int32} {v_archive_series : Rg} {v_archive_pieces : Rg} {v_archive_trial : Rg} {v_archive_moves : Rg} {v_rows : Rg} {g_text_verbs : Nat → Int32} {g_text_numbers : Nat → Int32} {g_text_length : Int32} {g_text_commandCount : Int32} {g_text_at : Int32} {g_page_length : Int32} {g_page_latest : Int32} {x1 : Int32} {s0 : (Nat → Int32)} {s1 : (Nat → Int32)} {s2 : Int32} {s3 : Rg} {s4 : Rg} {s5 : Rg} {s6 : Rg} {s7 : Rg} {s8 : Int32} {s9 : Int32} (h : fX7_carryOut g_archive_rooms g_archive_moveDays g_archive_day v_archive_series v_archive_pieces v_archive_trial v_archive_moves v_rows g_text_verbs g_text_numbers g_page_length g_page_latest x1 = some (s0, s1, s2, s3, s4, s5, s6, s7, s8, s9)) : CT l D cI cS yX7_carryOut cX7_carryOut 5 none rmX7_carryOut [.ref (a 0), .int x1] [oX7 a a_archive a_history a_planner a_rows a_text a_page a_draft, oX0 a_archive a_archive_series a_archive_pieces a_archive_trial a_archive_moves g_archive_day, ar cI (a_archive 2) 8 g_archive_rooms, ar cI (a_archive 6) 100 g_archive_moveDays, cR cI a_archive_series 10 v_archive_series, cR cI a_archive_pieces 42 v_archive_pieces, cR cI a_archive_trial 42 v_archive_trial, cR cI a_archive_moves 100 v_archive_moves, cR cI a_rows 12 v_rows, oX6 a_text g_text_length g_text_commandCount g_text_at, ar cI (a_text 2) 24 g_text_verbs, ar cI (a_text 3) 72 g_text_numbers, oX2 a_page g_page_length g_page_latest] none [oX7 a a_archive a_history a_planner a_rows a_text a_page a_draft, oX0 a_archive a_archive_series a_archive_pieces a_archive_trial a_archive_moves s2, ar cI (a_archive 2) 8 s0, ar cI (a_archive 6) 100 s1, cR cI a_archive_series 10 s3, cR cI a_archive_pieces 42 s4, cR cI a_archive_trial 42 s5, cR cI a_archive_moves 100 s6, cR cI a_rows 12 s7, oX6 a_text g_text_length g_text_commandCount g_text_at, ar cI (a_text 2) 24 g_text_verbs, ar cI (a_text 3) 72 g_text_numbers, oX2 a_page s8 s9] := by
  refine CT.of RX7 (by decide) rfl (Nat.le_of_ble_eq_true rfl) (fun p e s m below meth c ls A C hA hl hw => ?_)
  have hx := C.1.1
  have hb := C.1.2.1
  have hl : lv_has ls 5 [(0, .ref (a 0)), (1, .int x1)] := hl
  unfold fX7_carryOut at h
  refine lv_aload_n hx hb dX7_carryOut_0 rfl (lv_at hl 0 rfl) ?_
  refine k_get C inT_X7 hw 0 rfl rfl 4 (by decide) mF_X7_42 rfl dX7_carryOut_1 ?_
  refine lv_iload_n hx hb dX7_carryOut_4 rfl (lv_at hl 1 rfl) ?_
  refine lv_iconst (v := 0) hx hb dX7_carryOut_5 (by decide) ?_
  obtain ⟨r6, q6, h⟩ := bd h
  refine k_callV (nC := 13) [oX7 a a_archive a_history a_planner a_rows a_text a_page a_draft, oX0 a_archive a_archive_series a_archive_pieces a_archive_trial a_archive_moves g_archive_day, ar cI (a_archive 2) 8 g_archive_rooms, ar cI (a_archive 6) 100 g_archive_moveDays, cR cI a_archive_series 10 v_archive_series, cR cI a_archive_pieces 42 v_archive_pieces, cR cI a_archive_trial 42 v_archive_trial, cR cI a_archive_moves 100 v_archive_moves, cR cI a_rows 12 v_rows, oX6 a_text g_text_length g_text_commandCount g_text_at, ar cI (a_text 2) 24 g_text_verbs, ar cI (a_text 3) 72 g_text_numbers, oX2 a_page g_page_length g_page_latest] C hl.1 (tX6_numberOf (a := a_text) q6) mL_X7_79 mmX6_numberOf rfl rfl ⟨Nat.le_of_ble_eq_true rfl, Nat.le_of_ble_eq_true rfl⟩ rfl rfl rfl rfl (Nat.le_of_ble_eq_true rfl) hA hw [9, 11] [0, 1, 2, 3, 4, 5, 6, 7, 8, 10, 12] rfl (by decide +kernel) rfl rfl rfl rfl dX7_carryOut_6 (fun H locs hw6 => ?_)
  refine lv_istore_n (lv' := [(2, .int r6), (0, .ref (a 0)), (1, .int x1)]) hx hb dX7_carryOut_9 rfl hl (by decide) rfl (fun ls hl => ?_)
  refine lv_aload_n hx hb dX7_carryOut_10 rfl (lv_at hl 1 rfl) ?_
  refine k_get C inT_X7 hw6 0 rfl rfl 4 (by decide) mF_X7_42 rfl dX7_carryOut_11 ?_
  refine lv_iload_n hx hb dX7_carryOut_14 rfl (lv_at hl 2 rfl) ?_
  refine lv_iconst (v := 1) hx hb dX7_carryOut_15 (by decide) ?_
  obtain ⟨r16, q16, h⟩ := bd h
  refine k_callV (nC := 13) [oX7 a a_archive a_history a_planner a_rows a_text a_page a_draft, oX0 a_archive a_archive_series a_archive_pieces a_archive_trial a_archive_moves g_archive_day, ar cI (a_archive 2) 8 g_archive_rooms, ar cI (a_archive 6) 100 g_archive_moveDays, cR cI a_archive_series 10 v_archive_series, cR cI a_archive_pieces 42 v_archive_pieces, cR cI a_archive_trial 42 v_archive_trial, cR cI a_archive_moves 100 v_archive_moves, cR cI a_rows 12 v_rows, oX6 a_text g_text_length g_text_commandCount g_text_at, ar cI (a_text 2) 24 g_text_verbs, ar cI (a_text 3) 72 g_text_numbers, oX2 a_page g_page_length g_page_latest] C hl.1 (tX6_numberOf (a := a_text) q16) mL_X7_79 mmX6_numberOf rfl rfl ⟨Nat.le_of_ble_eq_true rfl, Nat.le_of_ble_eq_true rfl⟩ rfl rfl rfl rfl (Nat.le_of_ble_eq_true rfl) hA hw6 [9, 11] [0, 1, 2, 3, 4, 5, 6, 7, 8, 10, 12] rfl (by decide +kernel) rfl rfl rfl rfl dX7_carryOut_16 (fun H locs hw16 => ?_)
  refine lv_istore_n (lv' := [(3, .int r16), (2, .int r6), (0, .ref (a 0)), (1, .int x1)]) hx hb dX7_carryOut_19 rfl hl (by decide) rfl (fun ls hl => ?_)
  refine lv_aload_n hx hb dX7_carryOut_20 rfl (lv_at hl 2 rfl) ?_
  refine k_get C inT_X7 hw16 0 rfl rfl 4 (by decide) mF_X7_42 rfl dX7_carryOut_21 ?_
  refine lv_iload_n hx hb dX7_carryOut_24 rfl (lv_at hl 3 rfl) ?_
  refine lv_iconst (v := 2) hx hb dX7_carryOut_25 (by decide) ?_
  obtain ⟨r26, q26, h⟩ := bd h
  refine k_callV (nC := 13) [oX7 a a_archive a_history a_planner a_rows a_text a_page a_draft, oX0 a_archive a_archive_series a_archive_pieces a_archive_trial a_archive_moves g_archive_day, ar cI (a_archive 2) 8 g_archive_rooms, ar cI (a_archive 6) 100 g_archive_moveDays, cR cI a_archive_series 10 v_archive_series, cR cI a_archive_pieces 42 v_archive_pieces, cR cI a_archive_trial 42 v_archive_trial, cR cI a_archive_moves 100 v_archive_moves, cR cI a_rows 12 v_rows, oX6 a_text g_text_length g_text_commandCount g_text_at, ar cI (a_text 2) 24 g_text_verbs, ar cI (a_text 3) 72 g_text_numbers, oX2 a_page g_page_length g_page_latest] C hl.1 (tX6_numberOf (a := a_text) q26) mL_X7_79 mmX6_numberOf rfl rfl ⟨Nat.le_of_ble_eq_true rfl, Nat.le_of_ble_eq_true rfl⟩ rfl rfl rfl rfl (Nat.le_of_ble_eq_true rfl) hA hw16 [9, 11] [0, 1, 2, 3, 4, 5, 6, 7, 8, 10, 12] rfl (by decide +kernel) rfl rfl rfl rfl dX7_carryOut_26 (fun H locs hw26 => ?_)
  refine lv_istore (lv' := [(4, .int r26), (3, .int r16), (2, .int r6), (0, .ref (a 0)), (1, .int x1)]) hx hb dX7_carryOut_29 hl (by decide) rfl (fun ls hl => ?_)
  refine lv_aload_n hx hb dX7_carryOut_31 rfl (lv_at hl 3 rfl) ?_
  refine k_get C inT_X7 hw26 0 rfl rfl 4 (by decide) mF_X7_42 rfl dX7_carryOut_32 ?_
  refine lv_iload_n hx hb dX7_carryOut_35 rfl (lv_at hl 4 rfl) ?_
  obtain ⟨r36, q36, h⟩ := bd h
  refine k_callV (nC := 13) [oX7 a a_archive a_history a_planner a_rows a_text a_page a_draft, oX0 a_archive a_archive_series a_archive_pieces a_archive_trial a_archive_moves g_archive_day, ar cI (a_archive 2) 8 g_archive_rooms, ar cI (a_archive 6) 100 g_archive_moveDays, cR cI a_archive_series 10 v_archive_series, cR cI a_archive_pieces 42 v_archive_pieces, cR cI a_archive_trial 42 v_archive_trial, cR cI a_archive_moves 100 v_archive_moves, cR cI a_rows 12 v_rows, oX6 a_text g_text_length g_text_commandCount g_text_at, ar cI (a_text 2) 24 g_text_verbs, ar cI (a_text 3) 72 g_text_numbers, oX2 a_page g_page_length g_page_latest] C hl.1 (tX6_verbOf (a := a_text) q36) mL_X7_83 mmX6_verbOf rfl rfl ⟨Nat.le_of_ble_eq_true rfl, Nat.le_of_ble_eq_true rfl⟩ rfl rfl rfl rfl (Nat.le_of_ble_eq_true rfl) hA hw26 [9, 10] [0, 1, 2, 3, 4, 5, 6, 7, 8, 11, 12] rfl (by decide +kernel) rfl rfl rfl rfl dX7_carryOut_36 (fun H locs hw36 => ?_)
  by_cases c39_0 : r36 = 0
  · replace h := br_t' h c39_0
    refine lv_tableIn (tgt := 84) hx hb dX7_carryOut_39 (by rw [c39_0]; decide) (by rw [c39_0]; decide) (off := 45) (by rw [c39_0]; decide) (by decide) ?_
    refine lv_aload_n hx hb dX7_carryOut_84 rfl (lv_at hl 3 rfl) ?_
    obtain ⟨r85, q85, h⟩ := bd h
    refine k_callV (nC := 13) [oX7 a a_archive a_history a_planner a_rows a_text a_page a_draft, oX0 a_archive a_archive_series a_archive_pieces a_archive_trial a_archive_moves r85.2.1, ar cI (a_archive 2) 8 r85.1, ar cI (a_archive 6) 100 g_archive_moveDays, cR cI a_archive_series 10 r85.2.2.1, cR cI a_archive_pieces 42 r85.2.2.2.1, cR cI a_archive_trial 42 v_archive_trial, cR cI a_archive_moves 100 r85.2.2.2.2.1, cR cI a_rows 12 r85.2.2.2.2.2.1, oX6 a_text g_text_length g_text_commandCount g_text_at, ar cI (a_text 2) 24 g_text_verbs, ar cI (a_text 3) 72 g_text_numbers, oX2 a_page r85.2.2.2.2.2.2.1 r85.2.2.2.2.2.2.2] C hl.1 (tX7_beginAnew (a := a) (a_archive := a_archive) (a_history := a_history) (a_planner := a_planner) (a_rows := a_rows) (a_text := a_text) (a_page := a_page) (a_draft := a_draft) (a_archive_series := a_archive_series) (a_archive_pieces := a_archive_pieces) (a_archive_trial := a_archive_trial) (a_archive_moves := a_archive_moves) q85) mL_X7_87 mmX7_beginAnew rfl rfl ⟨Nat.le_of_ble_eq_true rfl, Nat.le_of_ble_eq_true rfl⟩ rfl rfl rfl rfl (Nat.le_of_ble_eq_true rfl) hA hw36 [0, 1, 2, 4, 5, 7, 8, 12] [3, 6, 9, 10, 11] rfl (by decide +kernel) rfl rfl rfl rfl dX7_carryOut_85 (fun H locs hw85 => ?_)
    refine lv_goto (tgt := 185) hx hb dX7_carryOut_88 (by decide) ?_
    cases h
    exact k_vret C hw85 dX7_carryOut_185
  replace h := br_f' h c39_0
  by_cases c39_1 : r36 = 1
  · replace h := br_t' h c39_1
    refine lv_tableIn (tgt := 91) hx hb dX7_carryOut_39 (by rw [c39_1]; decide) (by rw [c39_1]; decide) (off := 52) (by rw [c39_1]; decide) (by decide) ?_
    refine lv_aload_n hx hb dX7_carryOut_91 rfl (lv_at hl 3 rfl) ?_
    refine k_get C inT_X7 hw36 0 rfl rfl 0 (by decide) mF_X7_12 rfl dX7_carryOut_92 ?_
    refine lv_iload_n hx hb dX7_carryOut_95 rfl (lv_at hl 2 rfl) ?_
    refine lv_iload_n hx hb dX7_carryOut_96 rfl (lv_at hl 1 rfl) ?_
    refine lv_iload hx hb dX7_carryOut_97 (lv_at hl 0 rfl) ?_
    obtain ⟨r99, q99, h⟩ := bd h
    refine k_callV (nC := 13) [oX7 a a_archive a_history a_planner a_rows a_text a_page a_draft, oX0 a_archive a_archive_series a_archive_pieces a_archive_trial a_archive_moves g_archive_day, ar cI (a_archive 2) 8 g_archive_rooms, ar cI (a_archive 6) 100 g_archive_moveDays, cR cI a_archive_series 10 r99.2, cR cI a_archive_pieces 42 v_archive_pieces, cR cI a_archive_trial 42 v_archive_trial, cR cI a_archive_moves 100 v_archive_moves, cR cI a_rows 12 v_rows, oX6 a_text g_text_length g_text_commandCount g_text_at, ar cI (a_text 2) 24 g_text_verbs, ar cI (a_text 3) 72 g_text_numbers, oX2 a_page g_page_length g_page_latest] C hl.1 (tX0_addSeries (a := a_archive) (a_series := a_archive_series) (a_pieces := a_archive_pieces) (a_trial := a_archive_trial) (a_moves := a_archive_moves) q99) mL_X7_90 mmX0_addSeries rfl rfl ⟨Nat.le_of_ble_eq_true rfl, Nat.le_of_ble_eq_true rfl⟩ rfl rfl rfl rfl (Nat.le_of_ble_eq_true rfl) hA hw36 [1, 4] [0, 2, 3, 5, 6, 7, 8, 9, 10, 11, 12] rfl (by decide +kernel) rfl rfl rfl rfl dX7_carryOut_99 (fun H locs hw99 => ?_)
    refine lv_pop hx hb dX7_carryOut_102 rfl ?_
    refine lv_goto (tgt := 185) hx hb dX7_carryOut_103 (by decide) ?_
    cases h
    exact k_vret C hw99 dX7_carryOut_185
  replace h := br_f' h c39_1
  by_cases c39_2 : r36 = 2
  · replace h := br_t' h c39_2
    refine lv_tableIn (tgt := 106) hx hb dX7_carryOut_39 (by rw [c39_2]; decide) (by rw [c39_2]; decide) (off := 67) (by rw [c39_2]; decide) (by decide) ?_
    refine lv_aload_n hx hb dX7_carryOut_106 rfl (lv_at hl 3 rfl) ?_
    refine k_get C inT_X7 hw36 0 rfl rfl 0 (by decide) mF_X7_12 rfl dX7_carryOut_107 ?_
    refine lv_iconst (v := (-1)) hx hb dX7_carryOut_110 (by decide) ?_
    refine lv_iload_n hx hb dX7_carryOut_111 rfl (lv_at hl 2 rfl) ?_
    refine lv_iload_n hx hb dX7_carryOut_112 rfl (lv_at hl 1 rfl) ?_
    obtain ⟨r113, q113, h⟩ := bd h
    refine k_callV (nC := 13) [oX7 a a_archive a_history a_planner a_rows a_text a_page a_draft, oX0 a_archive a_archive_series a_archive_pieces a_archive_trial a_archive_moves g_archive_day, ar cI (a_archive 2) 8 g_archive_rooms, ar cI (a_archive 6) 100 g_archive_moveDays, cR cI a_archive_series 10 r113.2, cR cI a_archive_pieces 42 v_archive_pieces, cR cI a_archive_trial 42 v_archive_trial, cR cI a_archive_moves 100 v_archive_moves, cR cI a_rows 12 v_rows, oX6 a_text g_text_length g_text_commandCount g_text_at, ar cI (a_text 2) 24 g_text_verbs, ar cI (a_text 3) 72 g_text_numbers, oX2 a_page g_page_length g_page_latest] C hl.1 (tX0_addSeries (a := a_archive) (a_series := a_archive_series) (a_pieces := a_archive_pieces) (a_trial := a_archive_trial) (a_moves := a_archive_moves) q113) mL_X7_90 mmX0_addSeries rfl rfl ⟨Nat.le_of_ble_eq_true rfl, Nat.le_of_ble_eq_true rfl⟩ rfl rfl rfl rfl (Nat.le_of_ble_eq_true rfl) hA hw36 [1, 4] [0, 2, 3, 5, 6, 7, 8, 9, 10, 11, 12] rfl (by decide +kernel) rfl rfl rfl rfl dX7_carryOut_113 (fun H locs hw113 => ?_)
    refine lv_pop hx hb dX7_carryOut_116 rfl ?_
    refine lv_goto (tgt := 185) hx hb dX7_carryOut_117 (by decide) ?_
    cases h
    exact k_vret C hw113 dX7_carryOut_185
  replace h := br_f' h c39_2
  by_cases c39_3 : r36 = 3
  · replace h := br_t' h c39_3
    refine lv_tableIn (tgt := 120) hx hb dX7_carryOut_39 (by rw [c39_3]; decide) (by rw [c39_3]; decide) (off := 81) (by rw [c39_3]; decide) (by decide) ?_
    refine lv_aload_n hx hb dX7_carryOut_120 rfl (lv_at hl 3 rfl) ?_
    refine k_get C inT_X7 hw36 0 rfl rfl 0 (by decide) mF_X7_12 rfl dX7_carryOut_121 ?_
    refine lv_iload_n hx hb dX7_carryOut_124 rfl (lv_at hl 2 rfl) ?_
    refine lv_iload_n hx hb dX7_carryOut_125 rfl (lv_at hl 1 rfl) ?_
    obtain ⟨r126, q126, h⟩ := bd h
    refine k_callV (nC := 13) [oX7 a a_archive a_history a_planner a_rows a_text a_page a_draft, oX0 a_archive a_archive_series a_archive_pieces a_archive_trial a_archive_moves g_archive_day, ar cI (a_archive 2) 8 r126.2, ar cI (a_archive 6) 100 g_archive_moveDays, cR cI a_archive_series 10 v_archive_series, cR cI a_archive_pieces 42 v_archive_pieces, cR cI a_archive_trial 42 v_archive_trial, cR cI a_archive_moves 100 v_archive_moves, cR cI a_rows 12 v_rows, oX6 a_text g_text_length g_text_commandCount g_text_at, ar cI (a_text 2) 24 g_text_verbs, ar cI (a_text 3) 72 g_text_numbers, oX2 a_page g_page_length g_page_latest] C hl.1 (tX0_setRoom (a := a_archive) (a_series := a_archive_series) (a_pieces := a_archive_pieces) (a_trial := a_archive_trial) (a_moves := a_archive_moves) q126) mL_X7_94 mmX0_setRoom rfl rfl ⟨Nat.le_of_ble_eq_true rfl, Nat.le_of_ble_eq_true rfl⟩ rfl rfl rfl rfl (Nat.le_of_ble_eq_true rfl) hA hw36 [1, 2, 5] [0, 3, 4, 6, 7, 8, 9, 10, 11, 12] rfl (by decide +kernel) rfl rfl rfl rfl dX7_carryOut_126 (fun H locs hw126 => ?_)
    refine lv_pop hx hb dX7_carryOut_129 rfl ?_
    refine lv_goto (tgt := 185) hx hb dX7_carryOut_130 (by decide) ?_
    cases h
    exact k_vret C hw126 dX7_carryOut_185
  replace h := br_f' h c39_3
  by_cases c39_4 : r36 = 4
  · replace h := br_t' h c39_4
    refine lv_tableIn (tgt := 133) hx hb dX7_carryOut_39 (by rw [c39_4]; decide) (by rw [c39_4]; decide) (off := 94) (by rw [c39_4]; decide) (by decide) ?_
    refine lv_aload_n hx hb dX7_carryOut_133 rfl (lv_at hl 3 rfl) ?_
    refine k_get C inT_X7 hw36 0 rfl rfl 0 (by decide) mF_X7_12 rfl dX7_carryOut_134 ?_
    refine lv_iload_n hx hb dX7_carryOut_137 rfl (lv_at hl 2 rfl) ?_
    refine lv_iload_n hx hb dX7_carryOut_138 rfl (lv_at hl 1 rfl) ?_
    refine lv_iload hx hb dX7_carryOut_139 (lv_at hl 0 rfl) ?_
    obtain ⟨r141, q141, h⟩ := bd h
    refine k_callV (nC := 13) [oX7 a a_archive a_history a_planner a_rows a_text a_page a_draft, oX0 a_archive a_archive_series a_archive_pieces a_archive_trial a_archive_moves g_archive_day, ar cI (a_archive 2) 8 g_archive_rooms, ar cI (a_archive 6) 100 r141.2.1, cR cI a_archive_series 10 v_archive_series, cR cI a_archive_pieces 42 r141.2.2.1, cR cI a_archive_trial 42 r141.2.2.2.1, cR cI a_archive_moves 100 r141.2.2.2.2, cR cI a_rows 12 v_rows, oX6 a_text g_text_length g_text_commandCount g_text_at, ar cI (a_text 2) 24 g_text_verbs, ar cI (a_text 3) 72 g_text_numbers, oX2 a_page g_page_length g_page_latest] C hl.1 (tX0_layInto (a := a_archive) (a_series := a_archive_series) (a_pieces := a_archive_pieces) (a_trial := a_archive_trial) (a_moves := a_archive_moves) q141) mL_X7_97 mmX0_layInto rfl rfl ⟨Nat.le_of_ble_eq_true rfl, Nat.le_of_ble_eq_true rfl⟩ rfl rfl rfl rfl (Nat.le_of_ble_eq_true rfl) hA hw36 [1, 2, 3, 5, 6, 7] [0, 4, 8, 9, 10, 11, 12] rfl (by decide +kernel) rfl rfl rfl rfl dX7_carryOut_141 (fun H locs hw141 => ?_)
    refine lv_pop hx hb dX7_carryOut_144 rfl ?_
    refine lv_goto (tgt := 185) hx hb dX7_carryOut_145 (by decide) ?_
    cases h
    exact k_vret C hw141 dX7_carryOut_185
  replace h := br_f' h c39_4
  by_cases c39_5 : r36 = 5
  · replace h := br_t' h c39_5
    refine lv_tableIn (tgt := 148) hx hb dX7_carryOut_39 (by rw [c39_5]; decide) (by rw [c39_5]; decide) (off := 109) (by rw [c39_5]; decide) (by decide) ?_
    refine lv_aload_n hx hb dX7_carryOut_148 rfl (lv_at hl 3 rfl) ?_
    refine k_get C inT_X7 hw36 0 rfl rfl 0 (by decide) mF_X7_12 rfl dX7_carryOut_149 ?_
    refine lv_iload_n hx hb dX7_carryOut_152 rfl (lv_at hl 2 rfl) ?_
    refine lv_iload_n hx hb dX7_carryOut_153 rfl (lv_at hl 1 rfl) ?_
    obtain ⟨r154, q154, h⟩ := bd h
    refine k_callV (nC := 13) [oX7 a a_archive a_history a_planner a_rows a_text a_page a_draft, oX0 a_archive a_archive_series a_archive_pieces a_archive_trial a_archive_moves g_archive_day, ar cI (a_archive 2) 8 g_archive_rooms, ar cI (a_archive 6) 100 r154.2.1, cR cI a_archive_series 10 v_archive_series, cR cI a_archive_pieces 42 r154.2.2.1, cR cI a_archive_trial 42 r154.2.2.2.1, cR cI a_archive_moves 100 r154.2.2.2.2, cR cI a_rows 12 v_rows, oX6 a_text g_text_length g_text_commandCount g_text_at, ar cI (a_text 2) 24 g_text_verbs, ar cI (a_text 3) 72 g_text_numbers, oX2 a_page g_page_length g_page_latest] C hl.1 (tX0_takeOut (a := a_archive) (a_series := a_archive_series) (a_pieces := a_archive_pieces) (a_trial := a_archive_trial) (a_moves := a_archive_moves) q154) mL_X7_100 mmX0_takeOut rfl rfl ⟨Nat.le_of_ble_eq_true rfl, Nat.le_of_ble_eq_true rfl⟩ rfl rfl rfl rfl (Nat.le_of_ble_eq_true rfl) hA hw36 [1, 3, 5, 6, 7] [0, 2, 4, 8, 9, 10, 11, 12] rfl (by decide +kernel) rfl rfl rfl rfl dX7_carryOut_154 (fun H locs hw154 => ?_)
    refine lv_pop hx hb dX7_carryOut_157 rfl ?_
    refine lv_goto (tgt := 185) hx hb dX7_carryOut_158 (by decide) ?_
    cases h
    exact k_vret C hw154 dX7_carryOut_185
  replace h := br_f' h c39_5
  by_cases c39_6 : r36 = 6
  · replace h := br_t' h c39_6
    refine lv_tableIn (tgt := 161) hx hb dX7_carryOut_39 (by rw [c39_6]; decide) (by rw [c39_6]; decide) (off := 122) (by rw [c39_6]; decide) (by decide) ?_
    refine lv_aload_n hx hb dX7_carryOut_161 rfl (lv_at hl 3 rfl) ?_
    refine lv_iload_n hx hb dX7_carryOut_162 rfl (lv_at hl 2 rfl) ?_
    refine lv_iload_n hx hb dX7_carryOut_163 rfl (lv_at hl 1 rfl) ?_
    refine lv_iload hx hb dX7_carryOut_164 (lv_at hl 0 rfl) ?_
    obtain ⟨r166, q166, h⟩ := bd h
    refine k_callV (nC := 13) [oX7 a a_archive a_history a_planner a_rows a_text a_page a_draft, oX0 a_archive a_archive_series a_archive_pieces a_archive_trial a_archive_moves g_archive_day, ar cI (a_archive 2) 8 g_archive_rooms, ar cI (a_archive 6) 100 g_archive_moveDays, cR cI a_archive_series 10 v_archive_series, cR cI a_archive_pieces 42 v_archive_pieces, cR cI a_archive_trial 42 v_archive_trial, cR cI a_archive_moves 100 v_archive_moves, cR cI a_rows 12 r166.2, oX6 a_text g_text_length g_text_commandCount g_text_at, ar cI (a_text 2) 24 g_text_verbs, ar cI (a_text 3) 72 g_text_numbers, oX2 a_page g_page_length g_page_latest] C hl.1 (tX7_addRow (a := a) (a_archive := a_archive) (a_history := a_history) (a_planner := a_planner) (a_rows := a_rows) (a_text := a_text) (a_page := a_page) (a_draft := a_draft) q166) mL_X7_103 mmX7_addRow rfl rfl ⟨Nat.le_of_ble_eq_true rfl, Nat.le_of_ble_eq_true rfl⟩ rfl rfl rfl rfl (Nat.le_of_ble_eq_true rfl) hA hw36 [0, 8] [1, 2, 3, 4, 5, 6, 7, 9, 10, 11, 12] rfl (by decide +kernel) rfl rfl rfl rfl dX7_carryOut_166 (fun H locs hw166 => ?_)
    refine lv_pop hx hb dX7_carryOut_169 rfl ?_
    refine lv_goto (tgt := 185) hx hb dX7_carryOut_170 (by decide) ?_
    cases h
    exact k_vret C hw166 dX7_carryOut_185
  replace h := br_f' h c39_6
  by_cases c39_7 : r36 = 7
  · replace h := br_t' h c39_7
    refine lv_tableIn (tgt := 173) hx hb dX7_carryOut_39 (by rw [c39_7]; decide) (by rw [c39_7]; decide) (off := 134) (by rw [c39_7]; decide) (by decide) ?_
    refine lv_aload_n hx hb dX7_carryOut_173 rfl (lv_at hl 3 rfl) ?_
    refine k_get C inT_X7 hw36 0 rfl rfl 0 (by decide) mF_X7_12 rfl dX7_carryOut_174 ?_
    refine lv_iload_n hx hb dX7_carryOut_177 rfl (lv_at hl 2 rfl) ?_
    obtain ⟨r178, q178, h⟩ := bd h
    refine k_callV (nC := 13) [oX7 a a_archive a_history a_planner a_rows a_text a_page a_draft, oX0 a_archive a_archive_series a_archive_pieces a_archive_trial a_archive_moves r178.2, ar cI (a_archive 2) 8 g_archive_rooms, ar cI (a_archive 6) 100 g_archive_moveDays, cR cI a_archive_series 10 v_archive_series, cR cI a_archive_pieces 42 v_archive_pieces, cR cI a_archive_trial 42 v_archive_trial, cR cI a_archive_moves 100 v_archive_moves, cR cI a_rows 12 v_rows, oX6 a_text g_text_length g_text_commandCount g_text_at, ar cI (a_text 2) 24 g_text_verbs, ar cI (a_text 3) 72 g_text_numbers, oX2 a_page g_page_length g_page_latest] C hl.1 (tX0_letPass (a := a_archive) (a_series := a_archive_series) (a_pieces := a_archive_pieces) (a_trial := a_archive_trial) (a_moves := a_archive_moves) q178) mL_X7_106 mmX0_letPass rfl rfl ⟨Nat.le_of_ble_eq_true rfl, Nat.le_of_ble_eq_true rfl⟩ rfl rfl rfl rfl (Nat.le_of_ble_eq_true rfl) hA hw36 [1] [0, 2, 3, 4, 5, 6, 7, 8, 9, 10, 11, 12] rfl (by decide +kernel) rfl rfl rfl rfl dX7_carryOut_178 (fun H locs hw178 => ?_)
    refine lv_pop hx hb dX7_carryOut_181 rfl ?_
    refine lv_goto (tgt := 185) hx hb dX7_carryOut_182 (by decide) ?_
    cases h
    exact k_vret C hw178 dX7_carryOut_185
  replace h := br_f' h c39_7
  refine lv_tableOut (tgt := 185) hx hb dX7_carryOut_39 (by have t0 := ti_ne (i := 0) c39_0 (by decide); have t1 := ti_ne (i := 1) c39_1 (by decide); have t2 := ti_ne (i := 2) c39_2 (by decide); have t3 := ti_ne (i := 3) c39_3 (by decide); have t4 := ti_ne (i := 4) c39_4 (by decide); have t5 := ti_ne (i := 5) c39_5 (by decide); have t6 := ti_ne (i := 6) c39_6 (by decide); have t7 := ti_ne (i := 7) c39_7 (by decide); omega) (by decide) ?_
  cases h
  exact k_vret C hw36 dX7_carryOut_185
def rmX7_tell : Room := { frames := 8, cells := 0, slots := 0, locals := 181 }
def fX7_tell_24 (g_text_verbs : Nat → Int32) (g_text_numbers : Nat → Int32) (x1 : Int32) : (n : Nat) → (k : Int32 → (Nat → Int32) → (Nat → Int32) → Int32 → Rg → Rg → Rg → Rg → Rg → Int32 → Int32 → Option (Int32 × (Nat → Int32) × (Nat → Int32) × Int32 × Rg × Rg × Rg × Rg × Int32 × Rg × (Nat → Int32) × (Nat → Int32) × Int32 × Int32 × Int32 × Int32 × Int32)) → Int32 → (Nat → Int32) → (Nat → Int32) → Int32 → Rg → Rg → Rg → Rg → Rg → Int32 → Int32 → Option (Int32 × (Nat → Int32) × (Nat → Int32) × Int32 × Rg × Rg × Rg × Rg × Int32 × Rg × (Nat → Int32) × (Nat → Int32) × Int32 × Int32 × Int32 × Int32 × Int32)
  | 0, _, _, _, _, _, _, _, _, _, _, _, _ => none
  | n + 1, k, x2, g_archive_rooms, g_archive_moveDays, g_archive_day, v_archive_series, v_archive_pieces, v_archive_trial, v_archive_moves, v_rows, g_page_length, g_page_latest =>
    if x1 ≤ x2 then
      k x2 g_archive_rooms g_archive_moveDays g_archive_day v_archive_series v_archive_pieces v_archive_trial v_archive_moves v_rows g_page_length g_page_latest
    else
      (fX7_carryOut g_archive_rooms g_archive_moveDays g_archive_day v_archive_series v_archive_pieces v_archive_trial v_archive_moves v_rows g_text_verbs g_text_numbers g_page_length g_page_latest x2).bind fun r31 =>
      fX7_tell_24 g_text_verbs g_text_numbers x1 n k (x2 + 1) r31.1 r31.2.1 r31.2.2.1 r31.2.2.2.1 r31.2.2.2.2.1 r31.2.2.2.2.2.1 r31.2.2.2.2.2.2.1 r31.2.2.2.2.2.2.2.1 r31.2.2.2.2.2.2.2.2.1 r31.2.2.2.2.2.2.2.2.2
set_option maxRecDepth 100000 in
set_option maxHeartbeats 4000000 in
theorem wX7_tell_24 {p : Program} {l : Launch} {e : Env} {s : State} {m : MethodId} {args : Array Value} {below : List Frame} {meth : Method} {c : Code} {D : va_G} {cI : ClassId} {cS : GS} {A : Nat → Prop} {a : Nat → Nat} {a_archive : Nat → Nat} {a_history : Nat → Nat} {a_planner : Nat → Nat} {a_rows : Nat → Nat} {a_text : Nat → Nat} {a_page : Nat → Nat} {a_draft : Nat → Nat} {a_archive_series : Nat → Nat} {a_archive_pieces : Nat → Nat} {a_archive_trial : Nat → Nat} {a_archive_moves : Nat → Nat} {g_history_top : Int32} {g_history_steps : Int32} {g_text_bytes : Nat → Int32} {g_text_verbs : Nat → Int32} {g_text_numbers : Nat → Int32} {g_text_length : Int32} {g_text_commandCount : Int32} {g_text_at : Int32} {x1 : Int32} (C : MC p s m args meth c D cI cS A RX7 cX7_tell 3 (some .int)) (hA : ∀ q, s.heap.size ≤ q → A q) {s0 : Int32} {s1 : (Nat → Int32)} {s2 : (Nat → Int32)} {s3 : Int32} {s4 : Rg} {s5 : Rg} {s6 : Rg} {s7 : Rg} {s8 : Int32} {s9 : Rg} {s10 : (Nat → Int32)} {s11 : (Nat → Int32)} {s12 : Int32} {s13 : Int32} {s14 : Int32} {s15 : Int32} {s16 : Int32} (k : Int32 → (Nat → Int32) → (Nat → Int32) → Int32 → Rg → Rg → Rg → Rg → Rg → Int32 → Int32 → Option (Int32 × (Nat → Int32) × (Nat → Int32) × Int32 × Rg × Rg × Rg × Rg × Int32 × Rg × (Nat → Int32) × (Nat → Int32) × Int32 × Int32 × Int32 × Int32 × Int32)) (hk : ∀ (x2 : Int32) (g_archive_rooms : Nat → Int32) (g_archive_moveDays : Nat → Int32) (g_archive_day : Int32) (v_archive_series : Rg) (v_archive_pieces : Rg) (v_archive_trial : Rg) (v_archive_moves : Rg) (v_rows : Rg) (g_page_length : Int32) (g_page_latest : Int32) (H : Heap) (locs : List Loc) (ls : Array Slot), Wd D A s.heap H locs [oX7 a a_archive a_history a_planner a_rows a_text a_page a_draft, oX0 a_archive a_archive_series a_archive_pieces a_archive_trial a_archive_moves g_archive_day, ar cI (a_archive 2) 8 g_archive_rooms, ar cI (a_archive 6) 100 g_archive_moveDays, cR cI a_archive_series 10 v_archive_series, cR cI a_archive_pieces 42 v_archive_pieces, cR cI a_archive_trial 42 v_archive_trial, cR cI a_archive_moves 100 v_archive_moves, oX1 a_history g_history_top g_history_steps, cR cI a_rows 12 v_rows, oX6 a_text g_text_length g_text_commandCount g_text_at, ar cI (a_text 1) 200 g_text_bytes, ar cI (a_text 2) 24 g_text_verbs, ar cI (a_text 3) 72 g_text_numbers, oX2 a_page g_page_length g_page_latest] → lv_has ls 3 [(0, .ref (a 0)), (1, .int x1), (2, .int x2)] → k x2 g_archive_rooms g_archive_moveDays g_archive_day v_archive_series v_archive_pieces v_archive_trial v_archive_moves v_rows g_page_length g_page_latest = some (s0, s1, s2, s3, s4, s5, s6, s7, s8, s9, s10, s11, s12, s13, s14, s15, s16) → W p l e rmX7_tell s m args below meth c H locs 0 0 (KQ D A below args s (some (.int s0)) [oX7 a a_archive a_history a_planner a_rows a_text a_page a_draft, oX0 a_archive a_archive_series a_archive_pieces a_archive_trial a_archive_moves s3, ar cI (a_archive 2) 8 s1, ar cI (a_archive 6) 100 s2, cR cI a_archive_series 10 s4, cR cI a_archive_pieces 42 s5, cR cI a_archive_trial 42 s6, cR cI a_archive_moves 100 s7, oX1 a_history g_history_top s8, cR cI a_rows 12 s9, oX6 a_text s12 s13 s14, ar cI (a_text 1) 200 g_text_bytes, ar cI (a_text 2) 24 s10, ar cI (a_text 3) 72 s11, oX2 a_page s15 s16]) (F0 m 40 ls [])) :
    ∀ (n : Nat) (x2 : Int32) (g_archive_rooms : Nat → Int32) (g_archive_moveDays : Nat → Int32) (g_archive_day : Int32) (v_archive_series : Rg) (v_archive_pieces : Rg) (v_archive_trial : Rg) (v_archive_moves : Rg) (v_rows : Rg) (g_page_length : Int32) (g_page_latest : Int32) (H : Heap) (locs : List Loc) (ls : Array Slot), Wd D A s.heap H locs [oX7 a a_archive a_history a_planner a_rows a_text a_page a_draft, oX0 a_archive a_archive_series a_archive_pieces a_archive_trial a_archive_moves g_archive_day, ar cI (a_archive 2) 8 g_archive_rooms, ar cI (a_archive 6) 100 g_archive_moveDays, cR cI a_archive_series 10 v_archive_series, cR cI a_archive_pieces 42 v_archive_pieces, cR cI a_archive_trial 42 v_archive_trial, cR cI a_archive_moves 100 v_archive_moves, oX1 a_history g_history_top g_history_steps, cR cI a_rows 12 v_rows, oX6 a_text g_text_length g_text_commandCount g_text_at, ar cI (a_text 1) 200 g_text_bytes, ar cI (a_text 2) 24 g_text_verbs, ar cI (a_text 3) 72 g_text_numbers, oX2 a_page g_page_length g_page_latest] → lv_has ls 3 [(0, .ref (a 0)), (1, .int x1), (2, .int x2)] → fX7_tell_24 g_text_verbs g_text_numbers x1 n k x2 g_archive_rooms g_archive_moveDays g_archive_day v_archive_series v_archive_pieces v_archive_trial v_archive_moves v_rows g_page_length g_page_latest = some (s0, s1, s2, s3, s4, s5, s6, s7, s8, s9, s10, s11, s12, s13, s14, s15, s16) → W p l e rmX7_tell s m args below meth c H locs 0 0 (KQ D A below args s (some (.int s0)) [oX7 a a_archive a_history a_planner a_rows a_text a_page a_draft, oX0 a_archive a_archive_series a_archive_pieces a_archive_trial a_archive_moves s3, ar cI (a_archive 2) 8 s1, ar cI (a_archive 6) 100 s2, cR cI a_archive_series 10 s4, cR cI a_archive_pieces 42 s5, cR cI a_archive_trial 42 s6, cR cI a_archive_moves 100 s7, oX1 a_history g_history_top s8, cR cI a_rows 12 s9, oX6 a_text s12 s13 s14, ar cI (a_text 1) 200 g_text_bytes, ar cI (a_text 2) 24 s10, ar cI (a_text 3) 72 s11, oX2 a_page s15 s16]) (F0 m 24 ls []) := by
  have hx := C.1.1
  have hb := C.1.2.1
  intro n
  induction n with
  | zero =>
    intro x2 g_archive_rooms g_archive_moveDays g_archive_day v_archive_series v_archive_pieces v_archive_trial v_archive_moves v_rows g_page_length g_page_latest H locs ls hw hl h
    rw [fX7_tell_24] at h
    cases h
  | succ n ih =>
    intro x2 g_archive_rooms g_archive_moveDays g_archive_day v_archive_series v_archive_pieces v_archive_trial v_archive_moves v_rows g_page_length g_page_latest H locs ls hw hl h
    rw [fX7_tell_24] at h
    refine lv_iload_n hx hb dX7_tell_24 rfl (lv_at hl 2 rfl) ?_
    refine lv_iload_n hx hb dX7_tell_25 rfl (lv_at hl 1 rfl) ?_
    refine lv_icmp_ge (tgt := 40) hx hb dX7_tell_26 (by decide) (fun c26 => ?_) (fun c26 => ?_)
    · replace h := br_t' h c26
      exact hk _ _ _ _ _ _ _ _ _ _ _ _ _ _ hw (lv_sub hl [0, 1, 2] rfl) h
    · replace h := br_f' h c26
      refine lv_aload_n hx hb dX7_tell_29 rfl (lv_at hl 0 rfl) ?_
      refine lv_iload_n hx hb dX7_tell_30 rfl (lv_at hl 2 rfl) ?_
      obtain ⟨r31, q31, h⟩ := bd h
      refine k_callV (nC := 15) [oX7 a a_archive a_history a_planner a_rows a_text a_page a_draft, oX0 a_archive a_archive_series a_archive_pieces a_archive_trial a_archive_moves r31.2.2.1, ar cI (a_archive 2) 8 r31.1, ar cI (a_archive 6) 100 r31.2.1, cR cI a_archive_series 10 r31.2.2.2.1, cR cI a_archive_pieces 42 r31.2.2.2.2.1, cR cI a_archive_trial 42 r31.2.2.2.2.2.1, cR cI a_archive_moves 100 r31.2.2.2.2.2.2.1, oX1 a_history g_history_top g_history_steps, cR cI a_rows 12 r31.2.2.2.2.2.2.2.1, oX6 a_text g_text_length g_text_commandCount g_text_at, ar cI (a_text 1) 200 g_text_bytes, ar cI (a_text 2) 24 g_text_verbs, ar cI (a_text 3) 72 g_text_numbers, oX2 a_page r31.2.2.2.2.2.2.2.2.1 r31.2.2.2.2.2.2.2.2.2] C hl.1 (tX7_carryOut (a := a) (a_archive := a_archive) (a_history := a_history) (a_planner := a_planner) (a_rows := a_rows) (a_text := a_text) (a_page := a_page) (a_draft := a_draft) (a_archive_series := a_archive_series) (a_archive_pieces := a_archive_pieces) (a_archive_trial := a_archive_trial) (a_archive_moves := a_archive_moves) q31) mL_X7_73 mmX7_carryOut rfl rfl ⟨Nat.le_of_ble_eq_true rfl, Nat.le_of_ble_eq_true rfl⟩ rfl rfl rfl rfl (Nat.le_of_ble_eq_true rfl) hA hw [0, 1, 2, 3, 4, 5, 6, 7, 9, 10, 12, 13, 14] [8, 11] rfl (by decide +kernel) rfl rfl rfl rfl dX7_tell_31 (fun H locs hw31 => ?_)
      refine lv_iinc (v := (x2 + 1)) (lv' := [(2, .int (x2 + 1)), (0, .ref (a 0)), (1, .int x1)]) hx hb dX7_tell_34 hl (k := 2) rfl rfl (by decide) rfl (fun ls hl => ?_)
      refine lv_goto (tgt := 24) hx hb dX7_tell_37 (by decide) ?_
      exact ih _ _ _ _ _ _ _ _ _ _ _ _ _ _ hw31 (lv_sub hl [1, 2, 0] rfl) h
def fX7_tell (g_archive_rooms : Nat → Int32) (g_archive_moveDays : Nat → Int32) (g_archive_day : Int32) (v_archive_series : Rg) (v_archive_pieces : Rg) (v_archive_trial : Rg) (v_archive_moves : Rg) (g_history_steps : Int32) (v_rows : Rg) (g_text_bytes : Nat → Int32) (g_text_verbs : Nat → Int32) (g_text_numbers : Nat → Int32) (g_text_length : Int32) (g_text_commandCount : Int32) (g_text_at : Int32) (g_page_length : Int32) (g_page_latest : Int32) : Option (Int32 × (Nat → Int32) × (Nat → Int32) × Int32 × Rg × Rg × Rg × Rg × Int32 × Rg × (Nat → Int32) × (Nat → Int32) × Int32 × Int32 × Int32 × Int32 × Int32) :=
  (fX6_read g_text_bytes g_text_verbs g_text_numbers g_text_length g_text_commandCount g_text_at).bind fun r4 =>
  if r4.1 = (-1) then
    (fX6_commandCount r4.2.2.2.1).bind fun r18 =>
    fX7_tell_24 r4.2.1 r4.2.2.1 r18 FU (fun x2_24 g_archive_rooms_24 g_archive_moveDays_24 g_archive_day_24 v_archive_series_24 v_archive_pieces_24 v_archive_trial_24 v_archive_moves_24 v_rows_24 g_page_length_24 g_page_latest_24 =>
      (fX6_wipe g_text_length).bind fun r44 =>
      (fX1_forget g_history_steps).bind fun r51 =>
      some (r18, g_archive_rooms_24, g_archive_moveDays_24, g_archive_day_24, v_archive_series_24, v_archive_pieces_24, v_archive_trial_24, v_archive_moves_24, r51, v_rows_24, r4.2.1, r4.2.2.1, r44, r4.2.2.2.1, r4.2.2.2.2, g_page_length_24, g_page_latest_24)) 0 g_archive_rooms g_archive_moveDays g_archive_day v_archive_series v_archive_pieces v_archive_trial v_archive_moves v_rows g_page_length g_page_latest
  else
    some ((-4), g_archive_rooms, g_archive_moveDays, g_archive_day, v_archive_series, v_archive_pieces, v_archive_trial, v_archive_moves, g_history_steps, v_rows, r4.2.1, r4.2.2.1, g_text_length, r4.2.2.2.1, r4.2.2.2.2, g_page_length, g_page_latest)
set_option maxRecDepth 100000 in
set_option maxHeartbeats 4000000 in
theorem tX7_tell {l : Launch} {D : va_G} {cI : ClassId} {cS : GS} {a : Nat → Nat} {a_archive : Nat → Nat} {a_history : Nat → Nat} {a_planner : Nat → Nat} {a_rows : Nat → Nat} {a_text : Nat → Nat} {a_page : Nat → Nat} {a_draft : Nat → Nat} {a_archive_series : Nat → Nat} {a_archive_pieces : Nat → Nat} {a_archive_trial : Nat → Nat} {a_archive_moves : Nat → Nat} {g_archive_rooms : Nat → Int32} {g_archive_moveDays : Nat → Int32} {g_archive_day : Int32} {v_archive_series : Rg} {v_archive_pieces : Rg} {v_archive_trial : Rg} {v_archive_moves : Rg} {g_history_top : Int32} {g_history_steps : Int32} {v_rows : Rg} {g_text_bytes : Nat → Int32} {g_text_verbs : Nat → Int32} {g_text_numbers : Nat → Int32} {g_text_length : Int32} {g_text_commandCount : Int32} {g_text_at : Int32} {g_page_length : Int32} {g_page_latest : Int32}  {s0 : Int32} {s1 : (Nat → Int32)} {s2 : (Nat → Int32)} {s3 : Int32} {s4 : Rg} {s5 : Rg} {s6 : Rg} {s7 : Rg} {s8 : Int32} {s9 : Rg} {s10 : (Nat → Int32)} {s11 : (Nat → Int32)} {s12 : Int32} {s13 : Int32} {s14 : Int32} {s15 : Int32} {s16 : Int32} (h : fX7_tell g_archive_rooms g_archive_moveDays g_archive_day v_archive_series v_archive_pieces v_archive_trial v_archive_moves g_history_steps v_rows g_text_bytes g_text_verbs g_text_numbers g_text_length g_text_commandCount g_text_at g_page_length g_page_latest = some (s0, s1, s2, s3, s4, s5, s6, s7, s8, s9, s10, s11, s12, s13, s14, s15, s16)) : CT l D cI cS yX7_tell cX7_tell 3 (some .int) rmX7_tell [.ref (a 0)] [oX7 a a_archive a_history a_planner a_rows a_text a_page a_draft, oX0 a_archive a_archive_series a_archive_pieces a_archive_trial a_archive_moves g_archive_day, ar cI (a_archive 2) 8 g_archive_rooms, ar cI (a_archive 6) 100 g_archive_moveDays, cR cI a_archive_series 10 v_archive_series, cR cI a_archive_pieces 42 v_archive_pieces, cR cI a_archive_trial 42 v_archive_trial, cR cI a_archive_moves 100 v_archive_moves, oX1 a_history g_history_top g_history_steps, cR cI a_rows 12 v_rows, oX6 a_text g_text_length g_text_commandCount g_text_at, ar cI (a_text 1) 200 g_text_bytes, ar cI (a_text 2) 24 g_text_verbs, ar cI (a_text 3) 72 g_text_numbers, oX2 a_page g_page_length g_page_latest] (some (.int s0)) [oX7 a a_archive a_history a_planner a_rows a_text a_page a_draft, oX0 a_archive a_archive_series a_archive_pieces a_archive_trial a_archive_moves s3, ar cI (a_archive 2) 8 s1, ar cI (a_archive 6) 100 s2, cR cI a_archive_series 10 s4, cR cI a_archive_pieces 42 s5, cR cI a_archive_trial 42 s6, cR cI a_archive_moves 100 s7, oX1 a_history g_history_top s8, cR cI a_rows 12 s9, oX6 a_text s12 s13 s14, ar cI (a_text 1) 200 g_text_bytes, ar cI (a_text 2) 24 s10, ar cI (a_text 3) 72 s11, oX2 a_page s15 s16] := by
  refine CT.of RX7 (by decide) rfl (Nat.le_of_ble_eq_true rfl) (fun p e s m below meth c ls A C hA hl hw => ?_)
  have hx := C.1.1
  have hb := C.1.2.1
  have hl : lv_has ls 3 [(0, .ref (a 0))] := hl
  unfold fX7_tell at h
  refine lv_aload_n hx hb dX7_tell_0 rfl (lv_at hl 0 rfl) ?_
  refine k_get C inT_X7 hw 0 rfl rfl 4 (by decide) mF_X7_42 rfl dX7_tell_1 ?_
  obtain ⟨r4, q4, h⟩ := bd h
  refine k_callV (nC := 15) [oX7 a a_archive a_history a_planner a_rows a_text a_page a_draft, oX0 a_archive a_archive_series a_archive_pieces a_archive_trial a_archive_moves g_archive_day, ar cI (a_archive 2) 8 g_archive_rooms, ar cI (a_archive 6) 100 g_archive_moveDays, cR cI a_archive_series 10 v_archive_series, cR cI a_archive_pieces 42 v_archive_pieces, cR cI a_archive_trial 42 v_archive_trial, cR cI a_archive_moves 100 v_archive_moves, oX1 a_history g_history_top g_history_steps, cR cI a_rows 12 v_rows, oX6 a_text g_text_length r4.2.2.2.1 r4.2.2.2.2, ar cI (a_text 1) 200 g_text_bytes, ar cI (a_text 2) 24 r4.2.1, ar cI (a_text 3) 72 r4.2.2.1, oX2 a_page g_page_length g_page_latest] C hl.1 (tX6_read (a := a_text) q4) mL_X7_67 mmX6_read rfl rfl ⟨Nat.le_of_ble_eq_true rfl, Nat.le_of_ble_eq_true rfl⟩ rfl rfl rfl rfl (Nat.le_of_ble_eq_true rfl) hA hw [10, 11, 12, 13] [0, 1, 2, 3, 4, 5, 6, 7, 8, 9, 14] rfl (by decide +kernel) rfl rfl rfl rfl dX7_tell_4 (fun H locs hw4 => ?_)
  refine lv_iconst (v := (-1)) hx hb dX7_tell_7 (by decide) ?_
  refine lv_icmp_eq (tgt := 14) hx hb dX7_tell_8 (by decide) (fun c8 => ?_) (fun c8 => ?_)
  · replace h := br_t' h c8
    refine lv_aload_n hx hb dX7_tell_14 rfl (lv_at hl 0 rfl) ?_
    refine k_get C inT_X7 hw4 0 rfl rfl 4 (by decide) mF_X7_42 rfl dX7_tell_15 ?_
    obtain ⟨r18, q18, h⟩ := bd h
    refine k_callV (nC := 15) [oX7 a a_archive a_history a_planner a_rows a_text a_page a_draft, oX0 a_archive a_archive_series a_archive_pieces a_archive_trial a_archive_moves g_archive_day, ar cI (a_archive 2) 8 g_archive_rooms, ar cI (a_archive 6) 100 g_archive_moveDays, cR cI a_archive_series 10 v_archive_series, cR cI a_archive_pieces 42 v_archive_pieces, cR cI a_archive_trial 42 v_archive_trial, cR cI a_archive_moves 100 v_archive_moves, oX1 a_history g_history_top g_history_steps, cR cI a_rows 12 v_rows, oX6 a_text g_text_length r4.2.2.2.1 r4.2.2.2.2, ar cI (a_text 1) 200 g_text_bytes, ar cI (a_text 2) 24 r4.2.1, ar cI (a_text 3) 72 r4.2.2.1, oX2 a_page g_page_length g_page_latest] C hl.1 (tX6_commandCount (a := a_text) q18) mL_X7_70 mmX6_commandCount rfl rfl ⟨Nat.le_of_ble_eq_true rfl, Nat.le_of_ble_eq_true rfl⟩ rfl rfl rfl rfl (Nat.le_of_ble_eq_true rfl) hA hw4 [10] [0, 1, 2, 3, 4, 5, 6, 7, 8, 9, 11, 12, 13, 14] rfl (by decide +kernel) rfl rfl rfl rfl dX7_tell_18 (fun H locs hw18 => ?_)
    refine lv_istore_n (lv' := [(1, .int r18), (0, .ref (a 0))]) hx hb dX7_tell_21 rfl hl (by decide) rfl (fun ls hl => ?_)
    refine lv_iconst (v := 0) hx hb dX7_tell_22 (by decide) ?_
    refine lv_istore_n (lv' := [(2, .int 0), (1, .int r18), (0, .ref (a 0))]) hx hb dX7_tell_23 rfl hl (by decide) rfl (fun ls hl => ?_)
    refine wX7_tell_24 C hA _ (fun x2_24 g_archive_rooms_24 g_archive_moveDays_24 g_archive_day_24 v_archive_series_24 v_archive_pieces_24 v_archive_trial_24 v_archive_moves_24 v_rows_24 g_page_length_24 g_page_latest_24 H locs ls hw24x hl h => ?_) FU _ _ _ _ _ _ _ _ _ _ _ _ _ _ hw18 (lv_sub hl [2, 1, 0] rfl) h
    refine lv_aload_n hx hb dX7_tell_40 rfl (lv_at hl 0 rfl) ?_
    refine k_get C inT_X7 hw24x 0 rfl rfl 4 (by decide) mF_X7_42 rfl dX7_tell_41 ?_
    obtain ⟨r44, q44, h⟩ := bd h
    refine k_callV (nC := 15) [oX7 a a_archive a_history a_planner a_rows a_text a_page a_draft, oX0 a_archive a_archive_series a_archive_pieces a_archive_trial a_archive_moves g_archive_day_24, ar cI (a_archive 2) 8 g_archive_rooms_24, ar cI (a_archive 6) 100 g_archive_moveDays_24, cR cI a_archive_series 10 v_archive_series_24, cR cI a_archive_pieces 42 v_archive_pieces_24, cR cI a_archive_trial 42 v_archive_trial_24, cR cI a_archive_moves 100 v_archive_moves_24, oX1 a_history g_history_top g_history_steps, cR cI a_rows 12 v_rows_24, oX6 a_text r44 r4.2.2.2.1 r4.2.2.2.2, ar cI (a_text 1) 200 g_text_bytes, ar cI (a_text 2) 24 r4.2.1, ar cI (a_text 3) 72 r4.2.2.1, oX2 a_page g_page_length_24 g_page_latest_24] C hl.1 (tX6_wipe (a := a_text) q44) mL_X7_64 mmX6_wipe rfl rfl ⟨Nat.le_of_ble_eq_true rfl, Nat.le_of_ble_eq_true rfl⟩ rfl rfl rfl rfl (Nat.le_of_ble_eq_true rfl) hA hw24x [10] [0, 1, 2, 3, 4, 5, 6, 7, 8, 9, 11, 12, 13, 14] rfl (by decide +kernel) rfl rfl rfl rfl dX7_tell_44 (fun H locs hw44 => ?_)
    refine lv_aload_n hx hb dX7_tell_47 rfl (lv_at hl 0 rfl) ?_
    refine k_get C inT_X7 hw44 0 rfl rfl 1 (by decide) mF_X7_19 rfl dX7_tell_48 ?_
    obtain ⟨r51, q51, h⟩ := bd h
    refine k_callV (nC := 15) [oX7 a a_archive a_history a_planner a_rows a_text a_page a_draft, oX0 a_archive a_archive_series a_archive_pieces a_archive_trial a_archive_moves g_archive_day_24, ar cI (a_archive 2) 8 g_archive_rooms_24, ar cI (a_archive 6) 100 g_archive_moveDays_24, cR cI a_archive_series 10 v_archive_series_24, cR cI a_archive_pieces 42 v_archive_pieces_24, cR cI a_archive_trial 42 v_archive_trial_24, cR cI a_archive_moves 100 v_archive_moves_24, oX1 a_history g_history_top r51, cR cI a_rows 12 v_rows_24, oX6 a_text r44 r4.2.2.2.1 r4.2.2.2.2, ar cI (a_text 1) 200 g_text_bytes, ar cI (a_text 2) 24 r4.2.1, ar cI (a_text 3) 72 r4.2.2.1, oX2 a_page g_page_length_24 g_page_latest_24] C hl.1 (tX1_forget (a := a_history) q51) mL_X7_76 mmX1_forget rfl rfl ⟨Nat.le_of_ble_eq_true rfl, Nat.le_of_ble_eq_true rfl⟩ rfl rfl rfl rfl (Nat.le_of_ble_eq_true rfl) hA hw44 [8] [0, 1, 2, 3, 4, 5, 6, 7, 9, 10, 11, 12, 13, 14] rfl (by decide +kernel) rfl rfl rfl rfl dX7_tell_51 (fun H locs hw51 => ?_)
    refine lv_iload_n hx hb dX7_tell_54 rfl (lv_at hl 1 rfl) ?_
    cases h
    exact k_iret C hw51 dX7_tell_55
  · replace h := br_f' h c8
    refine lv_bipush (v := (-4)) hx hb dX7_tell_11 (by decide) ?_
    cases h
    exact k_iret C hw4 dX7_tell_13
