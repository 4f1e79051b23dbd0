def rmX7_type : Room := { frames := 1, cells := 0, slots := 0, locals := 21 }
def fX7_type (g_text_bytes : Nat → Int32) (g_text_length : Int32) (x1 : Int32) : Option (Int32 × (Nat → Int32) × Int32) :=
  if x1 < 0 then
    some ((-3), g_text_bytes, g_text_length)
  else
    if x1 ≤ 255 then
      (fX6_append g_text_bytes g_text_length x1).bind fun r19 =>
      if r19.1 = 0 then
        some ((-5), r19.2.1, r19.2.2)
      else
        (fX6_length r19.2.2).bind fun r29 =>
        some (r29, r19.2.1, r19.2.2)
    else
      some ((-3), g_text_bytes, g_text_length)
set_option maxRecDepth 100000 in
set_option maxHeartbeats 4000000 in
theorem tX7_type {l : Launch} {D : va_G} {cI : ClassId} {cS : GS} {a : Nat → Nat} {a_archive : Nat → Nat} {a_history : Nat → Nat} {a_planner : Nat → Nat} {a_rows : Nat → Nat} {a_text : Nat → Nat} {a_page : Nat → Nat} {a_draft : Nat → Nat} {g_text_bytes : Nat → Int32} {g_text_length : Int32} {g_text_commandCount : Int32} {g_text_at : Int32} {x1 : Int32} {s0 : Int32} {s1 : (Nat → Int32)} {s2 : Int32} (h : fX7_type g_text_bytes g_text_length x1 = some (s0, s1, s2)) : CT l D cI cS yX7_type cX7_type 2 (some .int) rmX7_type [.ref (a 0), .int x1] [oX7 a a_archive a_history a_planner a_rows a_text a_page a_draft, oX6 a_text g_text_length g_text_commandCount g_text_at, ar cI (a_text 1) 200 g_text_bytes] (some (.int s0)) [oX7 a a_archive a_history a_planner a_rows a_text a_page a_draft, oX6 a_text s2 g_text_commandCount g_text_at, ar cI (a_text 1) 200 s1] := by
  refine CT.of RX7 (by decide) rfl (Nat.le_of_ble_eq_true rfl) (fun p e s m below meth c ls A C hA hl hw => ?_)
  have hx := C.1.1
  have hb := C.1.2.1
  have hl : lv_has ls 2 [(0, .ref (a 0)), (1, .int x1)] := hl
  unfold fX7_type at h
  refine lv_iload_n hx hb dX7_type_0 rfl (lv_at hl 1 rfl) ?_
  refine lv_if_lt (tgt := 11) hx hb dX7_type_1 (by decide) (fun c1 => ?_) (fun c1 => ?_)
  · replace h := br_t' h c1
    refine lv_bipush (v := (-3)) hx hb dX7_type_11 (by decide) ?_
    cases h
    exact k_iret C hw dX7_type_13
  · replace h := br_f' h c1
    refine lv_iload_n hx hb dX7_type_4 rfl (lv_at hl 1 rfl) ?_
    refine lv_sipush (v := 255) hx hb dX7_type_5 (by decide) ?_
    refine lv_icmp_le (tgt := 14) hx hb dX7_type_8 (by decide) (fun c8 => ?_) (fun c8 => ?_)
    · replace h := br_t' h c8
      refine lv_aload_n hx hb dX7_type_14 rfl (lv_at hl 0 rfl) ?_
      refine k_get C inT_X7 hw 0 rfl rfl 4 (by decide) mF_X7_42 rfl dX7_type_15 ?_
      refine lv_iload_n hx hb dX7_type_18 rfl (lv_at hl 1 rfl) ?_
      obtain ⟨r19, q19, h⟩ := bd h
      refine k_callV (nC := 3) [oX7 a a_archive a_history a_planner a_rows a_text a_page a_draft, oX6 a_text r19.2.2 g_text_commandCount g_text_at, ar cI (a_text 1) 200 r19.2.1] C hl.1 (tX6_append (a := a_text) q19) mL_X7_56 mmX6_append rfl rfl ⟨Nat.le_of_ble_eq_true rfl, Nat.le_of_ble_eq_true rfl⟩ rfl rfl rfl rfl (Nat.le_of_ble_eq_true rfl) hA hw [1, 2] [0] rfl (by decide +kernel) rfl rfl rfl rfl dX7_type_19 (fun H locs hw19 => ?_)
      refine lv_if_eq (tgt := 35) hx hb dX7_type_22 (by decide) (fun c22 => ?_) (fun c22 => ?_)
      · replace h := br_t' h c22
        refine lv_bipush (v := (-5)) hx hb dX7_type_35 (by decide) ?_
        cases h
        exact k_iret C hw19 dX7_type_37
      · replace h := br_f' h c22
        refine lv_aload_n hx hb dX7_type_25 rfl (lv_at hl 0 rfl) ?_
        refine k_get C inT_X7 hw19 0 rfl rfl 4 (by decide) mF_X7_42 rfl dX7_type_26 ?_
        obtain ⟨r29, q29, h⟩ := bd h
        refine k_callV (nC := 3) [oX7 a a_archive a_history a_planner a_rows a_text a_page a_draft, oX6 a_text r19.2.2 g_text_commandCount g_text_at, ar cI (a_text 1) 200 r19.2.1] C hl.1 (tX6_length (a := a_text) q29) mL_X7_60 mmX6_length rfl rfl ⟨Nat.le_of_ble_eq_true rfl, Nat.le_of_ble_eq_true rfl⟩ rfl rfl rfl rfl (Nat.le_of_ble_eq_true rfl) hA hw19 [1] [0, 2] rfl (by decide +kernel) rfl rfl rfl rfl dX7_type_29 (fun H locs hw29 => ?_)
        refine lv_goto (tgt := 37) hx hb dX7_type_32 (by decide) ?_
        cases h
        exact k_iret C hw29 dX7_type_37
    · replace h := br_f' h c8
      refine lv_bipush (v := (-3)) hx hb dX7_type_11 (by decide) ?_
      cases h
      exact k_iret C hw dX7_type_13
def rmX7_erase : Room := { frames := 1, cells := 0, slots := 0, locals := 20 }
def fX7_erase (g_text_length : Int32) : Option (Int32 × Int32) :=
  (fX6_length g_text_length).bind fun r4 =>
  (fX6_wipe g_text_length).bind fun r12 =>
  some (r4, r12)
set_option maxRecDepth 100000 in
set_option maxHeartbeats 4000000 in
theorem tX7_erase {l : Launch} {D : va_G} {cI : ClassId} {cS : GS} {a : Nat → Nat} {a_archive : Nat → Nat} {a_history : Nat → Nat} {a_planner : Nat → Nat} {a_rows : Nat → Nat} {a_text : Nat → Nat} {a_page : Nat → Nat} {a_draft : Nat → Nat} {g_text_length : Int32} {g_text_commandCount : Int32} {g_text_at : Int32}  {s0 : Int32} {s1 : Int32} (h : fX7_erase g_text_length = some (s0, s1)) : CT l D cI cS yX7_erase cX7_erase 2 (some .int) rmX7_erase [.ref (a 0)] [oX7 a a_archive a_history a_planner a_rows a_text a_page a_draft, oX6 a_text g_text_length g_text_commandCount g_text_at] (some (.int s0)) [oX7 a a_archive a_history a_planner a_rows a_text a_page a_draft, oX6 a_text s1 g_text_commandCount g_text_at] := by
  refine CT.of RX7 (by decide) rfl (Nat.le_of_ble_eq_true rfl) (fun p e s m below meth c ls A C hA hl hw => ?_)
  have hx := C.1.1
  have hb := C.1.2.1
  have hl : lv_has ls 2 [(0, .ref (a 0))] := hl
  unfold fX7_erase at h
  refine lv_aload_n hx hb dX7_erase_0 rfl (lv_at hl 0 rfl) ?_
  refine k_get C inT_X7 hw 0 rfl rfl 4 (by decide) mF_X7_42 rfl dX7_erase_1 ?_
  obtain ⟨r4, q4, h⟩ := bd h
  refine k_callV (nC := 2) [oX7 a a_archive a_history a_planner a_rows a_text a_page a_draft, oX6 a_text g_text_length g_text_commandCount g_text_at] C hl.1 (tX6_length (a := a_text) q4) mL_X7_60 mmX6_length rfl rfl ⟨Nat.le_of_ble_eq_true rfl, Nat.le_of_ble_eq_true rfl⟩ rfl rfl rfl rfl (Nat.le_of_ble_eq_true rfl) hA hw [1] [0] rfl (by decide +kernel) rfl rfl rfl rfl dX7_erase_4 (fun H locs hw4 => ?_)
  refine lv_istore_n (lv' := [(1, .int r4), (0, .ref (a 0))]) hx hb dX7_erase_7 rfl hl (by decide) rfl (fun ls hl => ?_)
  refine lv_aload_n hx hb dX7_erase_8 rfl (lv_at hl 1 rfl) ?_
  refine k_get C inT_X7 hw4 0 rfl rfl 4 (by decide) mF_X7_42 rfl dX7_erase_9 ?_
  obtain ⟨r12, q12, h⟩ := bd h
  refine k_callV (nC := 2) [oX7 a a_archive a_history a_planner a_rows a_text a_page a_draft, oX6 a_text r12 g_text_commandCount g_text_at] C hl.1 (tX6_wipe (a := a_text) q12) mL_X7_64 mmX6_wipe rfl rfl ⟨Nat.le_of_ble_eq_true rfl, Nat.le_of_ble_eq_true rfl⟩ rfl rfl rfl rfl (Nat.le_of_ble_eq_true rfl) hA hw4 [1] [0] rfl (by decide +kernel) rfl rfl rfl rfl dX7_erase_12 (fun H locs hw12 => ?_)
  refine lv_iload_n hx hb dX7_erase_15 rfl (lv_at hl 0 rfl) ?_
  cases h
  exact k_iret C hw12 dX7_erase_16
def rmX7_fault : Room := { frames := 8, cells := 0, slots := 0, locals := 181 }
def fX7_fault (g_text_bytes : Nat → Int32) (g_text_verbs : Nat → Int32) (g_text_numbers : Nat → Int32) (g_text_length : Int32) (g_text_commandCount : Int32) (g_text_at : Int32) : Option (Int32 × (Nat → Int32) × (Nat → Int32) × Int32 × Int32) :=
  (fX6_read g_text_bytes g_text_verbs g_text_numbers g_text_length g_text_commandCount g_text_at).bind fun r4 =>
  some (r4.1, r4.2.1, r4.2.2.1, r4.2.2.2.1, r4.2.2.2.2)
set_option maxRecDepth 100000 in
set_option maxHeartbeats 4000000 in
theorem tX7_fault {l : Launch} {D : va_G} {cI : ClassId} {cS : GS} {a : Nat → Nat} {a_archive : Nat → Nat} {a_history : Nat → Nat} {a_planner : Nat → Nat} {a_rows : Nat → Nat} {a_text : Nat → Nat} {a_page : Nat → Nat} {a_draft : Nat → Nat} {g_text_bytes : Nat → Int32} {g_text_verbs : Nat → Int32} {g_text_numbers : Nat → Int32} {g_text_length : Int32} {g_text_commandCount : Int32} {g_text_at : Int32}  {s0 : Int32} {s1 : (Nat → Int32)} {s2 : (Nat → Int32)} {s3 : Int32} {s4 : Int32} (h : fX7_fault g_text_bytes g_text_verbs g_text_numbers g_text_length g_text_commandCount g_text_at = some (s0, s1, s2, s3, s4)) : CT l D cI cS yX7_fault cX7_fault 1 (some .int) rmX7_fault [.ref (a 0)] [oX7 a a_archive a_history a_planner a_rows a_text a_page a_draft, oX6 a_text g_text_length g_text_commandCount g_text_at, ar cI (a_text 1) 200 g_text_bytes, ar cI (a_text 2) 24 g_text_verbs, ar cI (a_text 3) 72 g_text_numbers] (some (.int s0)) [oX7 a a_archive a_history a_planner a_rows a_text a_page a_draft, oX6 a_text g_text_length s3 s4, ar cI (a_text 1) 200 g_text_bytes, ar cI (a_text 2) 24 s1, ar cI (a_text 3) 72 s2] := by
  refine CT.of RX7 (by decide) rfl (Nat.le_of_ble_eq_true rfl) (fun p e s m below meth c ls A C hA hl hw => ?_)
  have hx := C.1.1
  have hb := C.1.2.1
  have hl : lv_has ls 1 [(0, .ref (a 0))] := hl
  unfold fX7_fault at h
  refine lv_aload_n hx hb dX7_fault_0 rfl (lv_at hl 0 rfl) ?_
  refine k_get C inT_X7 hw 0 rfl rfl 4 (by decide) mF_X7_42 rfl dX7_fault_1 ?_
  obtain ⟨r4, q4, h⟩ := bd h
  refine k_callV (nC := 5) [oX7 a a_archive a_history a_planner a_rows a_text a_page a_draft, oX6 a_text g_text_length r4.2.2.2.1 r4.2.2.2.2, ar cI (a_text 1) 200 g_text_bytes, ar cI (a_text 2) 24 r4.2.1, ar cI (a_text 3) 72 r4.2.2.1] C hl.1 (tX6_read (a := a_text) q4) mL_X7_67 mmX6_read rfl rfl ⟨Nat.le_of_ble_eq_true rfl, Nat.le_of_ble_eq_true rfl⟩ rfl rfl rfl rfl (Nat.le_of_ble_eq_true rfl) hA hw [1, 2, 3, 4] [0] rfl (by decide +kernel) rfl rfl rfl rfl dX7_fault_4 (fun H locs hw4 => ?_)
  cases h
  exact k_iret C hw4 dX7_fault_7
def rmX7_beginAnew : Room := { frames := 2, cells := 0, slots := 0, locals := 42 }
def fX7_beginAnew (g_archive_rooms : Nat → Int32) (g_archive_day : Int32) (v_archive_series : Rg) (v_archive_pieces : Rg) (v_archive_moves : Rg) (v_rows : Rg) (g_page_length : Int32) (g_page_latest : Int32) : Option ((Nat → Int32) × Int32 × Rg × Rg × Rg × Rg × Int32 × Int32) :=
  (fX0_empty g_archive_rooms g_archive_day v_archive_series v_archive_pieces v_archive_moves).bind fun r4 =>
  (fX4_cutTo 12 v_rows 0).bind fun r12 =>
  (fX2_wipe g_page_length g_page_latest).bind fun r19 =>
  some (r4.1, r4.2.1, r4.2.2.1, r4.2.2.2.1, r4.2.2.2.2, r12, r19.1, r19.2)
set_option maxRecDepth 100000 in
set_option maxHeartbeats 4000000 in
theorem tX7_beginAnew {l : Launch} {D : va_G} {cI : ClassId} {cS : GS} {a : Nat → Nat} {a_archive : Nat → Nat} {a_history : Nat → Nat} {a_planner : Nat → Nat} {a_rows : Nat → Nat} {a_text : Nat → Nat} {a_page : Nat → Nat} {a_draft : Nat → Nat} {a_archive_series : Nat → Nat} {a_archive_pieces : Nat → Nat} {a_archive_trial : Nat → Nat} {a_archive_moves : Nat → Nat} {g_archive_rooms : Nat → Int32} {g_archive_day : Int32} {v_archive_series : Rg} {v_archive_pieces : Rg} {v_archive_moves : Rg} {v_rows : Rg} {g_page_length : Int32} {g_page_latest : Int32}  {s0 : (Nat → Int32)} {s1 : Int32} {s2 : Rg} {s3 : Rg} {s4 : Rg} {s5 : Rg} {s6 : Int32} {s7 : Int32} (h : fX7_beginAnew g_archive_rooms g_archive_day v_archive_series v_archive_pieces v_archive_moves v_rows g_page_length g_page_latest = some (s0, s1, s2, s3, s4, s5, s6, s7)) : CT l D cI cS yX7_beginAnew cX7_beginAnew 1 none rmX7_beginAnew [.ref (a 0)] [oX7 a a_archive a_history a_planner a_rows a_text a_page a_draft, oX0 a_archive a_archive_series a_archive_pieces a_archive_trial a_archive_moves g_archive_day, ar cI (a_archive 2) 8 g_archive_rooms, cR cI a_archive_series 10 v_archive_series, cR cI a_archive_pieces 42 v_archive_pieces, cR cI a_archive_moves 100 v_archive_moves, cR cI a_rows 12 v_rows, oX2 a_page g_page_length g_page_latest] none [oX7 a a_archive a_history a_planner a_rows a_text a_page a_draft, oX0 a_archive a_archive_series a_archive_pieces a_archive_trial a_archive_moves s1, ar cI (a_archive 2) 8 s0, cR cI a_archive_series 10 s2, cR cI a_archive_pieces 42 s3, cR cI a_archive_moves 100 s4, cR cI a_rows 12 s5, oX2 a_page s6 s7] := by
  refine CT.of RX7 (by decide) rfl (Nat.le_of_ble_eq_true rfl) (fun p e s m below meth c ls A C hA hl hw => ?_)
  have hx := C.1.1
  have hb := C.1.2.1
  have hl : lv_has ls 1 [(0, .ref (a 0))] := hl
  unfold fX7_beginAnew at h
  refine lv_aload_n hx hb dX7_beginAnew_0 rfl (lv_at hl 0 rfl) ?_
  refine k_get C inT_X7 hw 0 rfl rfl 0 (by decide) mF_X7_12 rfl dX7_beginAnew_1 ?_
  obtain ⟨r4, q4, h⟩ := bd h
  refine k_callV (nC := 8) [oX7 a a_archive a_history a_planner a_rows a_text a_page a_draft, oX0 a_archive a_archive_series a_archive_pieces a_archive_trial a_archive_moves r4.2.1, ar cI (a_archive 2) 8 r4.1, cR cI a_archive_series 10 r4.2.2.1, cR cI a_archive_pieces 42 r4.2.2.2.1, cR cI a_archive_moves 100 r4.2.2.2.2, cR cI a_rows 12 v_rows, oX2 a_page g_page_length g_page_latest] C hl.1 (tX0_empty (a := a_archive) (a_series := a_archive_series) (a_pieces := a_archive_pieces) (a_trial := a_archive_trial) (a_moves := a_archive_moves) q4) mL_X7_109 mmX0_empty rfl rfl ⟨Nat.le_of_ble_eq_true rfl, Nat.le_of_ble_eq_true rfl⟩ rfl rfl rfl rfl (Nat.le_of_ble_eq_true rfl) hA hw [1, 2, 3, 4, 5] [0, 6, 7] rfl (by decide +kernel) rfl rfl rfl rfl dX7_beginAnew_4 (fun H locs hw4 => ?_)
  refine lv_aload_n hx hb dX7_beginAnew_7 rfl (lv_at hl 0 rfl) ?_
  refine k_get C inT_X7 hw4 0 rfl rfl 3 (by decide) mF_X7_35 rfl dX7_beginAnew_8 ?_
  refine lv_iconst (v := 0) hx hb dX7_beginAnew_11 (by decide) ?_
  obtain ⟨r12, q12, h⟩ := bd h
  refine k_callV (nC := 8) [oX7 a a_archive a_history a_planner a_rows a_text a_page a_draft, oX0 a_archive a_archive_series a_archive_pieces a_archive_trial a_archive_moves r4.2.1, ar cI (a_archive 2) 8 r4.1, cR cI a_archive_series 10 r4.2.2.1, cR cI a_archive_pieces 42 r4.2.2.2.1, cR cI a_archive_moves 100 r4.2.2.2.2, cR cI a_rows 12 r12, oX2 a_page g_page_length g_page_latest] C hl.1 (tX4_cutTo (a := a_rows) q12) mL_X7_112 mmX4_cutTo rfl rfl ⟨Nat.le_of_ble_eq_true rfl, Nat.le_of_ble_eq_true rfl⟩ rfl rfl rfl rfl (Nat.le_of_ble_eq_true rfl) hA hw4 [6] [0, 1, 2, 3, 4, 5, 7] rfl (by decide +kernel) rfl rfl rfl rfl dX7_beginAnew_12 (fun H locs hw12 => ?_)
  refine lv_aload_n hx hb dX7_beginAnew_15 rfl (lv_at hl 0 rfl) ?_
  refine k_get C inT_X7 hw12 0 rfl rfl 5 (by decide) mF_X7_49 rfl dX7_beginAnew_16 ?_
  obtain ⟨r19, q19, h⟩ := bd h
  refine k_callV (nC := 8) [oX7 a a_archive a_history a_planner a_rows a_text a_page a_draft, oX0 a_archive a_archive_series a_archive_pieces a_archive_trial a_archive_moves r4.2.1, ar cI (a_archive 2) 8 r4.1, cR cI a_archive_series 10 r4.2.2.1, cR cI a_archive_pieces 42 r4.2.2.2.1, cR cI a_archive_moves 100 r4.2.2.2.2, cR cI a_rows 12 r12, oX2 a_page r19.1 r19.2] C hl.1 (tX2_wipe (a := a_page) q19) mL_X7_115 mmX2_wipe rfl rfl ⟨Nat.le_of_ble_eq_true rfl, Nat.le_of_ble_eq_true rfl⟩ rfl rfl rfl rfl (Nat.le_of_ble_eq_true rfl) hA hw12 [7] [0, 1, 2, 3, 4, 5, 6] rfl (by decide +kernel) rfl rfl rfl rfl dX7_beginAnew_19 (fun H locs hw19 => ?_)
  cases h
  exact k_vret C hw19 dX7_beginAnew_22
def rmX7_of : Room := { frames := 4, cells := 0, slots := 0, locals := 89 }
def fX7_of (v_archive_series : Rg) (v_archive_pieces : Rg) (v_planner_gaps : Rg) (x1 : Int32) (x2 : Int32) : Option (Int32 × Rg) :=
  (fX0_isSeries v_archive_series x1).bind fun r5 =>
  if r5 = 0 then
    some ((-2), v_planner_gaps)
  else
    (fX0_firstIn v_archive_series x1).bind fun r19 =>
    (fX0_lastIn v_archive_series x1).bind fun r28 =>
    if x2 = 0 then
      (fX0_parentOf v_archive_series x1).bind fun r85 =>
      some (r85, v_planner_gaps)
    else
    if x2 = 1 then
      some (r19, v_planner_gaps)
    else
    if x2 = 2 then
      some (r28, v_planner_gaps)
    else
    if x2 = 3 then
      (fX0_ownCount v_archive_series x1).bind fun r99 =>
      some (r99, v_planner_gaps)
    else
    if x2 = 4 then
      (fX0_childrenOf v_archive_series x1).bind fun r108 =>
      some (r108, v_planner_gaps)
    else
    if x2 = 5 then
      (fX0_pieces).bind fun r116 =>
      (fX4_marksWithin 42 v_archive_pieces r19 r28).bind fun r122 =>
      some (r122, v_planner_gaps)
    else
    if x2 = 6 then
      (fX0_pieces).bind fun r136 =>
      (fX4_sheetsIn 42 v_archive_pieces (-100) r19 r28).bind fun r144 =>
      some ((((r28 - r19) + 1) - r144), v_planner_gaps)
    else
    if x2 = 7 then
      (fX3_findGaps v_planner_gaps v_archive_series v_archive_pieces x1).bind fun r158 =>
      (fX3_gaps).bind fun r165 =>
      (fX4_size 41 r158).bind fun r168 =>
      some (r168, r158)
    else
      some ((-3), v_planner_gaps)
set_option maxRecDepth 100000 in
set_option maxHeartbeats 4000000 in
theorem tX7_of {l : Launch} {D : va_G} {cI : ClassId} {cS : GS} {a : Nat → Nat} {a_archive : Nat → Nat} {a_history : Nat → Nat} {a_planner : Nat → Nat} {a_rows : Nat → Nat} {a_text : Nat → Nat} {a_page : Nat → Nat} {a_draft : Nat → Nat} {a_archive_series : Nat → Nat} {a_archive_pieces : Nat → Nat} {a_archive_trial : Nat → Nat} {a_archive_moves : Nat → Nat} {a_planner_gaps : Nat → Nat} {a_planner_layings : Nat → Nat} {g_archive_day : Int32} {v_archive_series : Rg} {v_archive_pieces : Rg} {g_planner_remaining : Int32} {v_planner_gaps : Rg} {x1 : Int32} {x2 : Int32} {s0 : Int32} {s1 : Rg} (h : fX7_of v_archive_series v_archive_pieces v_planner_gaps x1 x2 = some (s0, s1)) : CT l D cI cS yX7_of cX7_of 5 (some .int) rmX7_of [.ref (a 0), .int x1, .int x2] [oX7 a a_archive a_history a_planner a_rows a_text a_page a_draft, oX0 a_archive a_archive_series a_archive_pieces a_archive_trial a_archive_moves g_archive_day, cR cI a_archive_series 10 v_archive_series, cR cI a_archive_pieces 42 v_archive_pieces, oX3 a_planner a_planner_gaps a_planner_layings g_planner_remaining, cR cI a_planner_gaps 41 v_planner_gaps] (some (.int s0)) [oX7 a a_archive a_history a_planner a_rows a_text a_page a_draft, oX0 a_archive a_archive_series a_archive_pieces a_archive_trial a_archive_moves g_archive_day, cR cI a_archive_series 10 v_archive_series, cR cI a_archive_pieces 42 v_archive_pieces, oX3 a_planner a_planner_gaps a_planner_layings g_planner_remaining, cR cI a_planner_gaps 41 s1] := by
  refine CT.of RX7 (by decide) rfl (Nat.le_of_ble_eq_true rfl) (fun p e s m below meth c ls A C hA hl hw => ?_)
  have hx := C.1.1
  have hb := C.1.2.1
  have hl : lv_has ls 5 [(0, .ref (a 0)), (1, .int x1), (2, .int x2)] := hl
  unfold fX7_of at h
  refine lv_aload_n hx hb dX7_of_0 rfl (lv_at hl 0 rfl) ?_
  refine k_get C inT_X7 hw 0 rfl rfl 0 (by decide) mF_X7_12 rfl dX7_of_1 ?_
  refine lv_iload_n hx hb dX7_of_4 rfl (lv_at hl 1 rfl) ?_
  obtain ⟨r5, q5, h⟩ := bd h
  refine k_callV (nC := 6) [oX7 a a_archive a_history a_planner a_rows a_text a_page a_draft, oX0 a_archive a_archive_series a_archive_pieces a_archive_trial a_archive_moves g_archive_day, cR cI a_archive_series 10 v_archive_series, cR cI a_archive_pieces 42 v_archive_pieces, oX3 a_planner a_planner_gaps a_planner_layings g_planner_remaining, cR cI a_planner_gaps 41 v_planner_gaps] C hl.1 (tX0_isSeries (a := a_archive) (a_series := a_archive_series) (a_pieces := a_archive_pieces) (a_trial := a_archive_trial) (a_moves := a_archive_moves) q5) mL_X7_126 mmX0_isSeries rfl rfl ⟨Nat.le_of_ble_eq_true rfl, Nat.le_of_ble_eq_true rfl⟩ rfl rfl rfl rfl (Nat.le_of_ble_eq_true rfl) hA hw [1, 2] [0, 3, 4, 5] rfl (by decide +kernel) rfl rfl rfl rfl dX7_of_5 (fun H locs hw5 => ?_)
  refine lv_if_ne (tgt := 14) hx hb dX7_of_8 (by decide) (fun c8 => ?_) (fun c8 => ?_)
  · replace h := br_f' h c8
    refine lv_aload_n hx hb dX7_of_14 rfl (lv_at hl 0 rfl) ?_
    refine k_get C inT_X7 hw5 0 rfl rfl 0 (by decide) mF_X7_12 rfl dX7_of_15 ?_
    refine lv_iload_n hx hb dX7_of_18 rfl (lv_at hl 1 rfl) ?_
    obtain ⟨r19, q19, h⟩ := bd h
    refine k_callV (nC := 6) [oX7 a a_archive a_history a_planner a_rows a_text a_page a_draft, oX0 a_archive a_archive_series a_archive_pieces a_archive_trial a_archive_moves g_archive_day, cR cI a_archive_series 10 v_archive_series, cR cI a_archive_pieces 42 v_archive_pieces, oX3 a_planner a_planner_gaps a_planner_layings g_planner_remaining, cR cI a_planner_gaps 41 v_planner_gaps] C hl.1 (tX0_firstIn (a := a_archive) (a_series := a_archive_series) (a_pieces := a_archive_pieces) (a_trial := a_archive_trial) (a_moves := a_archive_moves) q19) mL_X7_154 mmX0_firstIn rfl rfl ⟨Nat.le_of_ble_eq_true rfl, Nat.le_of_ble_eq_true rfl⟩ rfl rfl rfl rfl (Nat.le_of_ble_eq_true rfl) hA hw5 [1, 2] [0, 3, 4, 5] rfl (by decide +kernel) rfl rfl rfl rfl dX7_of_19 (fun H locs hw19 => ?_)
    refine lv_istore_n (lv' := [(3, .int r19), (0, .ref (a 0)), (1, .int x1), (2, .int x2)]) hx hb dX7_of_22 rfl hl (by decide) rfl (fun ls hl => ?_)
    refine lv_aload_n hx hb dX7_of_23 rfl (lv_at hl 1 rfl) ?_
    refine k_get C inT_X7 hw19 0 rfl rfl 0 (by decide) mF_X7_12 rfl dX7_of_24 ?_
    refine lv_iload_n hx hb dX7_of_27 rfl (lv_at hl 2 rfl) ?_
    obtain ⟨r28, q28, h⟩ := bd h
    refine k_callV (nC := 6) [oX7 a a_archive a_history a_planner a_rows a_text a_page a_draft, oX0 a_archive a_archive_series a_archive_pieces a_archive_trial a_archive_moves g_archive_day, cR cI a_archive_series 10 v_archive_series, cR cI a_archive_pieces 42 v_archive_pieces, oX3 a_planner a_planner_gaps a_planner_layings g_planner_remaining, cR cI a_planner_gaps 41 v_planner_gaps] C hl.1 (tX0_lastIn (a := a_archive) (a_series := a_archive_series) (a_pieces := a_archive_pieces) (a_trial := a_archive_trial) (a_moves := a_archive_moves) q28) mL_X7_157 mmX0_lastIn rfl rfl ⟨Nat.le_of_ble_eq_true rfl, Nat.le_of_ble_eq_true rfl⟩ rfl rfl rfl rfl (Nat.le_of_ble_eq_true rfl) hA hw19 [1, 2] [0, 3, 4, 5] rfl (by decide +kernel) rfl rfl rfl rfl dX7_of_28 (fun H locs hw28 => ?_)
    refine lv_istore (lv' := [(4, .int r28), (3, .int r19), (0, .ref (a 0)), (1, .int x1), (2, .int x2)]) hx hb dX7_of_31 hl (by decide) rfl (fun ls hl => ?_)
    refine lv_iload_n hx hb dX7_of_33 rfl (lv_at hl 4 rfl) ?_
    by_cases c34_0 : x2 = 0
    · replace h := br_t' h c34_0
      refine lv_tableIn (tgt := 80) hx hb dX7_of_34 (by rw [c34_0]; decide) (by rw [c34_0]; decide) (off := 46) (by rw [c34_0]; decide) (by decide) ?_
      refine lv_aload_n hx hb dX7_of_80 rfl (lv_at hl 2 rfl) ?_
      refine k_get C inT_X7 hw28 0 rfl rfl 0 (by decide) mF_X7_12 rfl dX7_of_81 ?_
      refine lv_iload_n hx hb dX7_of_84 rfl (lv_at hl 3 rfl) ?_
      obtain ⟨r85, q85, h⟩ := bd h
      refine k_callV (nC := 6) [oX7 a a_archive a_history a_planner a_rows a_text a_page a_draft, oX0 a_archive a_archive_series a_archive_pieces a_archive_trial a_archive_moves g_archive_day, cR cI a_archive_series 10 v_archive_series, cR cI a_archive_pieces 42 v_archive_pieces, oX3 a_planner a_planner_gaps a_planner_layings g_planner_remaining, cR cI a_planner_gaps 41 v_planner_gaps] C hl.1 (tX0_parentOf (a := a_archive) (a_series := a_archive_series) (a_pieces := a_archive_pieces) (a_trial := a_archive_trial) (a_moves := a_archive_moves) q85) mL_X7_160 mmX0_parentOf rfl rfl ⟨Nat.le_of_ble_eq_true rfl, Nat.le_of_ble_eq_true rfl⟩ rfl rfl rfl rfl (Nat.le_of_ble_eq_true rfl) hA hw28 [1, 2] [0, 3, 4, 5] rfl (by decide +kernel) rfl rfl rfl rfl dX7_of_85 (fun H locs hw85 => ?_)
      cases h
      exact k_iret C hw85 dX7_of_88
    replace h := br_f' h c34_0
    by_cases c34_1 : x2 = 1
    · replace h := br_t' h c34_1
      refine lv_tableIn (tgt := 89) hx hb dX7_of_34 (by rw [c34_1]; decide) (by rw [c34_1]; decide) (off := 55) (by rw [c34_1]; decide) (by decide) ?_
      refine lv_iload_n hx hb dX7_of_89 rfl (lv_at hl 1 rfl) ?_
      cases h
      exact k_iret C hw28 dX7_of_90
    replace h := br_f' h c34_1
    by_cases c34_2 : x2 = 2
    · replace h := br_t' h c34_2
      refine lv_tableIn (tgt := 91) hx hb dX7_of_34 (by rw [c34_2]; decide) (by rw [c34_2]; decide) (off := 57) (by rw [c34_2]; decide) (by decide) ?_
      refine lv_iload hx hb dX7_of_91 (lv_at hl 0 rfl) ?_
      cases h
      exact k_iret C hw28 dX7_of_93
    replace h := br_f' h c34_2
    by_cases c34_3 : x2 = 3
    · replace h := br_t' h c34_3
      refine lv_tableIn (tgt := 94) hx hb dX7_of_34 (by rw [c34_3]; decide) (by rw [c34_3]; decide) (off := 60) (by rw [c34_3]; decide) (by decide) ?_
      refine lv_aload_n hx hb dX7_of_94 rfl (lv_at hl 2 rfl) ?_
      refine k_get C inT_X7 hw28 0 rfl rfl 0 (by decide) mF_X7_12 rfl dX7_of_95 ?_
      refine lv_iload_n hx hb dX7_of_98 rfl (lv_at hl 3 rfl) ?_
      obtain ⟨r99, q99, h⟩ := bd h
      refine k_callV (nC := 6) [oX7 a a_archive a_history a_planner a_rows a_text a_page a_draft, oX0 a_archive a_archive_series a_archive_pieces a_archive_trial a_archive_moves g_archive_day, cR cI a_archive_series 10 v_archive_series, cR cI a_archive_pieces 42 v_archive_pieces, oX3 a_planner a_planner_gaps a_planner_layings g_planner_remaining, cR cI a_planner_gaps 41 v_planner_gaps] C hl.1 (tX0_ownCount (a := a_archive) (a_series := a_archive_series) (a_pieces := a_archive_pieces) (a_trial := a_archive_trial) (a_moves := a_archive_moves) q99) mL_X7_163 mmX0_ownCount rfl rfl ⟨Nat.le_of_ble_eq_true rfl, Nat.le_of_ble_eq_true rfl⟩ rfl rfl rfl rfl (Nat.le_of_ble_eq_true rfl) hA hw28 [1, 2] [0, 3, 4, 5] rfl (by decide +kernel) rfl rfl rfl rfl dX7_of_99 (fun H locs hw99 => ?_)
      cases h
      exact k_iret C hw99 dX7_of_102
    replace h := br_f' h c34_3
    by_cases c34_4 : x2 = 4
    · replace h := br_t' h c34_4
      refine lv_tableIn (tgt := 103) hx hb dX7_of_34 (by rw [c34_4]; decide) (by rw [c34_4]; decide) (off := 69) (by rw [c34_4]; decide) (by decide) ?_
      refine lv_aload_n hx hb dX7_of_103 rfl (lv_at hl 2 rfl) ?_
      refine k_get C inT_X7 hw28 0 rfl rfl 0 (by decide) mF_X7_12 rfl dX7_of_104 ?_
      refine lv_iload_n hx hb dX7_of_107 rfl (lv_at hl 3 rfl) ?_
      obtain ⟨r108, q108, h⟩ := bd h
      refine k_callV (nC := 6) [oX7 a a_archive a_history a_planner a_rows a_text a_page a_draft, oX0 a_archive a_archive_series a_archive_pieces a_archive_trial a_archive_moves g_archive_day, cR cI a_archive_series 10 v_archive_series, cR cI a_archive_pieces 42 v_archive_pieces, oX3 a_planner a_planner_gaps a_planner_layings g_planner_remaining, cR cI a_planner_gaps 41 v_planner_gaps] C hl.1 (tX0_childrenOf (a := a_archive) (a_series := a_archive_series) (a_pieces := a_archive_pieces) (a_trial := a_archive_trial) (a_moves := a_archive_moves) q108) mL_X7_166 mmX0_childrenOf rfl rfl ⟨Nat.le_of_ble_eq_true rfl, Nat.le_of_ble_eq_true rfl⟩ rfl rfl rfl rfl (Nat.le_of_ble_eq_true rfl) hA hw28 [1, 2] [0, 3, 4, 5] rfl (by decide +kernel) rfl rfl rfl rfl dX7_of_108 (fun H locs hw108 => ?_)
      cases h
      exact k_iret C hw108 dX7_of_111
    replace h := br_f' h c34_4
    by_cases c34_5 : x2 = 5
    · replace h := br_t' h c34_5
      refine lv_tableIn (tgt := 112) hx hb dX7_of_34 (by rw [c34_5]; decide) (by rw [c34_5]; decide) (off := 78) (by rw [c34_5]; decide) (by decide) ?_
      refine lv_aload_n hx hb dX7_of_112 rfl (lv_at hl 2 rfl) ?_
      refine k_get C inT_X7 hw28 0 rfl rfl 0 (by decide) mF_X7_12 rfl dX7_of_113 ?_
      obtain ⟨r116, q116, h⟩ := bd h
      refine k_callV (nC := 6) [oX7 a a_archive a_history a_planner a_rows a_text a_page a_draft, oX0 a_archive a_archive_series a_archive_pieces a_archive_trial a_archive_moves g_archive_day, cR cI a_archive_series 10 v_archive_series, cR cI a_archive_pieces 42 v_archive_pieces, oX3 a_planner a_planner_gaps a_planner_layings g_planner_remaining, cR cI a_planner_gaps 41 v_planner_gaps] C hl.1 (tX0_pieces (a := a_archive) (a_series := a_archive_series) (a_pieces := a_archive_pieces) (a_trial := a_archive_trial) (a_moves := a_archive_moves) q116) mL_X7_169 mmX0_pieces rfl rfl ⟨Nat.le_of_ble_eq_true rfl, Nat.le_of_ble_eq_true rfl⟩ rfl rfl rfl rfl (Nat.le_of_ble_eq_true rfl) hA hw28 [1] [0, 2, 3, 4, 5] rfl (by decide +kernel) rfl rfl rfl rfl dX7_of_116 (fun H locs hw116 => ?_)
      refine lv_iload_n hx hb dX7_of_119 rfl (lv_at hl 1 rfl) ?_
      refine lv_iload hx hb dX7_of_120 (lv_at hl 0 rfl) ?_
      obtain ⟨r122, q122, h⟩ := bd h
      refine k_callV (nC := 6) [oX7 a a_archive a_history a_planner a_rows a_text a_page a_draft, oX0 a_archive a_archive_series a_archive_pieces a_archive_trial a_archive_moves g_archive_day, cR cI a_archive_series 10 v_archive_series, cR cI a_archive_pieces 42 v_archive_pieces, oX3 a_planner a_planner_gaps a_planner_layings g_planner_remaining, cR cI a_planner_gaps 41 v_planner_gaps] C hl.1 (tX4_marksWithin (a := a_archive_pieces) q122) mL_X7_172 mmX4_marksWithin rfl rfl ⟨Nat.le_of_ble_eq_true rfl, Nat.le_of_ble_eq_true rfl⟩ rfl rfl rfl rfl (Nat.le_of_ble_eq_true rfl) hA hw116 [3] [0, 1, 2, 4, 5] rfl (by decide +kernel) rfl rfl rfl rfl dX7_of_122 (fun H locs hw122 => ?_)
      cases h
      exact k_iret C hw122 dX7_of_125
    replace h := br_f' h c34_5
    by_cases c34_6 : x2 = 6
    · replace h := br_t' h c34_6
      refine lv_tableIn (tgt := 126) hx hb dX7_of_34 (by rw [c34_6]; decide) (by rw [c34_6]; decide) (off := 92) (by rw [c34_6]; decide) (by decide) ?_
      refine lv_iload hx hb dX7_of_126 (lv_at hl 0 rfl) ?_
      refine lv_iload_n hx hb dX7_of_128 rfl (lv_at hl 1 rfl) ?_
      refine lv_isub hx hb dX7_of_129 ?_
      refine lv_iconst (v := 1) hx hb dX7_of_130 (by decide) ?_
      refine lv_iadd hx hb dX7_of_131 ?_
      refine lv_aload_n hx hb dX7_of_132 rfl (lv_at hl 2 rfl) ?_
      refine k_get C inT_X7 hw28 0 rfl rfl 0 (by decide) mF_X7_12 rfl dX7_of_133 ?_
      obtain ⟨r136, q136, h⟩ := bd h
      refine k_callV (nC := 6) [oX7 a a_archive a_history a_planner a_rows a_text a_page a_draft, oX0 a_archive a_archive_series a_archive_pieces a_archive_trial a_archive_moves g_archive_day, cR cI a_archive_series 10 v_archive_series, cR cI a_archive_pieces 42 v_archive_pieces, oX3 a_planner a_planner_gaps a_planner_layings g_planner_remaining, cR cI a_planner_gaps 41 v_planner_gaps] C hl.1 (tX0_pieces (a := a_archive) (a_series := a_archive_series) (a_pieces := a_archive_pieces) (a_trial := a_archive_trial) (a_moves := a_archive_moves) q136) mL_X7_169 mmX0_pieces rfl rfl ⟨Nat.le_of_ble_eq_true rfl, Nat.le_of_ble_eq_true rfl⟩ rfl rfl rfl rfl (Nat.le_of_ble_eq_true rfl) hA hw28 [1] [0, 2, 3, 4, 5] rfl (by decide +kernel) rfl rfl rfl rfl dX7_of_136 (fun H locs hw136 => ?_)
      refine lv_bipush (v := (-100)) hx hb dX7_of_139 (by decide) ?_
      refine lv_iload_n hx hb dX7_of_141 rfl (lv_at hl 1 rfl) ?_
      refine lv_iload hx hb dX7_of_142 (lv_at hl 0 rfl) ?_
      obtain ⟨r144, q144, h⟩ := bd h
      refine k_callV (nC := 6) [oX7 a a_archive a_history a_planner a_rows a_text a_page a_draft, oX0 a_archive a_archive_series a_archive_pieces a_archive_trial a_archive_moves g_archive_day, cR cI a_archive_series 10 v_archive_series, cR cI a_archive_pieces 42 v_archive_pieces, oX3 a_planner a_planner_gaps a_planner_layings g_planner_remaining, cR cI a_planner_gaps 41 v_planner_gaps] C hl.1 (tX4_sheetsIn (a := a_archive_pieces) q144) mL_X7_175 mmX4_sheetsIn rfl rfl ⟨Nat.le_of_ble_eq_true rfl, Nat.le_of_ble_eq_true rfl⟩ rfl rfl rfl rfl (Nat.le_of_ble_eq_true rfl) hA hw136 [3] [0, 1, 2, 4, 5] rfl (by decide +kernel) rfl rfl rfl rfl dX7_of_144 (fun H locs hw144 => ?_)
      refine lv_isub hx hb dX7_of_147 ?_
      cases h
      exact k_iret C hw144 dX7_of_148
    replace h := br_f' h c34_6
    by_cases c34_7 : x2 = 7
    · replace h := br_t' h c34_7
      refine lv_tableIn (tgt := 149) hx hb dX7_of_34 (by rw [c34_7]; decide) (by rw [c34_7]; decide) (off := 115) (by rw [c34_7]; decide) (by decide) ?_
      refine lv_aload_n hx hb dX7_of_149 rfl (lv_at hl 2 rfl) ?_
      refine k_get C inT_X7 hw28 0 rfl rfl 2 (by decide) mF_X7_26 rfl dX7_of_150 ?_
      refine lv_aload_n hx hb dX7_of_153 rfl (lv_at hl 2 rfl) ?_
      refine k_get C inT_X7 hw28 0 rfl rfl 0 (by decide) mF_X7_12 rfl dX7_of_154 ?_
      refine lv_iload_n hx hb dX7_of_157 rfl (lv_at hl 3 rfl) ?_
      obtain ⟨r158, q158, h⟩ := bd h
      refine k_callV (nC := 6) [oX7 a a_archive a_history a_planner a_rows a_text a_page a_draft, oX0 a_archive a_archive_series a_archive_pieces a_archive_trial a_archive_moves g_archive_day, cR cI a_archive_series 10 v_archive_series, cR cI a_archive_pieces 42 v_archive_pieces, oX3 a_planner a_planner_gaps a_planner_layings g_planner_remaining, cR cI a_planner_gaps 41 r158] C hl.1 (tX3_findGaps (a := a_planner) (a_gaps := a_planner_gaps) (a_layings := a_planner_layings) (a_p1 := a_archive) (a_p1_series := a_archive_series) (a_p1_pieces := a_archive_pieces) (a_p1_trial := a_archive_trial) (a_p1_moves := a_archive_moves) q158) mL_X7_178 mmX3_findGaps rfl rfl ⟨Nat.le_of_ble_eq_true rfl, Nat.le_of_ble_eq_true rfl⟩ rfl rfl rfl rfl (Nat.le_of_ble_eq_true rfl) hA hw28 [4, 5, 1, 2, 3] [0] rfl (by decide +kernel) rfl rfl rfl rfl dX7_of_158 (fun H locs hw158 => ?_)
      refine lv_aload_n hx hb dX7_of_161 rfl (lv_at hl 2 rfl) ?_
      refine k_get C inT_X7 hw158 0 rfl rfl 2 (by decide) mF_X7_26 rfl dX7_of_162 ?_
      obtain ⟨r165, q165, h⟩ := bd h
      refine k_callV (nC := 6) [oX7 a a_archive a_history a_planner a_rows a_text a_page a_draft, oX0 a_archive a_archive_series a_archive_pieces a_archive_trial a_archive_moves g_archive_day, cR cI a_archive_series 10 v_archive_series, cR cI a_archive_pieces 42 v_archive_pieces, oX3 a_planner a_planner_gaps a_planner_layings g_planner_remaining, cR cI a_planner_gaps 41 r158] C hl.1 (tX3_gaps (a := a_planner) (a_gaps := a_planner_gaps) (a_layings := a_planner_layings) q165) mL_X7_181 mmX3_gaps rfl rfl ⟨Nat.le_of_ble_eq_true rfl, Nat.le_of_ble_eq_true rfl⟩ rfl rfl rfl rfl (Nat.le_of_ble_eq_true rfl) hA hw158 [4] [0, 1, 2, 3, 5] rfl (by decide +kernel) rfl rfl rfl rfl dX7_of_165 (fun H locs hw165 => ?_)
      obtain ⟨r168, q168, h⟩ := bd h
      refine k_callV (nC := 6) [oX7 a a_archive a_history a_planner a_rows a_text a_page a_draft, oX0 a_archive a_archive_series a_archive_pieces a_archive_trial a_archive_moves g_archive_day, cR cI a_archive_series 10 v_archive_series, cR cI a_archive_pieces 42 v_archive_pieces, oX3 a_planner a_planner_gaps a_planner_layings g_planner_remaining, cR cI a_planner_gaps 41 r158] C hl.1 (tX4_size (a := a_planner_gaps) q168) mL_X7_184 mmX4_size rfl rfl ⟨Nat.le_of_ble_eq_true rfl, Nat.le_of_ble_eq_true rfl⟩ rfl rfl rfl rfl (Nat.le_of_ble_eq_true rfl) hA hw165 [5] [0, 1, 2, 3, 4] rfl (by decide +kernel) rfl rfl rfl rfl dX7_of_168 (fun H locs hw168 => ?_)
      cases h
      exact k_iret C hw168 dX7_of_171
    replace h := br_f' h c34_7
    refine lv_tableOut (tgt := 172) hx hb dX7_of_34 (by have t0 := ti_ne (i := 0) c34_0 (by decide); have t1 := ti_ne (i := 1) c34_1 (by decide); have t2 := ti_ne (i := 2) c34_2 (by decide); have t3 := ti_ne (i := 3) c34_3 (by decide); have t4 := ti_ne (i := 4) c34_4 (by decide); have t5 := ti_ne (i := 5) c34_5 (by decide); have t6 := ti_ne (i := 6) c34_6 (by decide); have t7 := ti_ne (i := 7) c34_7 (by decide); omega) (by decide) ?_
    refine lv_bipush (v := (-3)) hx hb dX7_of_172 (by decide) ?_
    cases h
    exact k_iret C hw28 dX7_of_174
  · replace h := br_t' h c8
    refine lv_bipush (v := (-2)) hx hb dX7_of_11 (by decide) ?_
    cases h
    exact k_iret C hw5 dX7_of_13
def rmX7_box : Room := { frames := 5, cells := 0, slots := 0, locals := 110 }
def fX7_box (g_archive_rooms : Nat → Int32) (v_archive_series : Rg) (v_archive_pieces : Rg) (x1 : Int32) (x2 : Int32) : Option (Int32) :=
  (fX7_isBox x1).bind fun r1 =>
  if r1 = 0 then
    some (-2)
  else
    if x2 = 0 then
      (fX0_roomOf g_archive_rooms x1).bind fun r53 =>
      some r53
    else
    if x2 = 1 then
      (fX0_loadOf v_archive_pieces x1).bind fun r62 =>
      some r62
    else
    if x2 = 2 then
      (fX0_pieces).bind fun r70 =>
      (fX4_countOf 42 v_archive_pieces x1).bind fun r74 =>
      some r74
    else
    if x2 = 3 then
      (fX0_seriesIn v_archive_series v_archive_pieces x1).bind fun r83 =>
      some r83
    else
    if x2 = 4 then
      (fX0_pieces).bind fun r91 =>
      (fX4_lowestOf 42 v_archive_pieces x1).bind fun r95 =>
      some r95
    else
    if x2 = 5 then
      (fX0_pieces).bind fun r103 =>
      (fX4_highestOf 42 v_archive_pieces x1).bind fun r107 =>
      some r107
    else
      some (-3)
set_option maxRecDepth 100000 in
set_option maxHeartbeats 4000000 in
theorem tX7_box {l : Launch} {D : va_G} {cI : ClassId} {cS : GS} {a : Nat → Nat} {a_archive : Nat → Nat} {a_history : Nat → Nat} {a_planner : Nat → Nat} {a_rows : Nat → Nat} {a_text : Nat → Nat} {a_page : Nat → Nat} {a_draft : Nat → Nat} {a_archive_series : Nat → Nat} {a_archive_pieces : Nat → Nat} {a_archive_trial : Nat → Nat} {a_archive_moves : Nat → Nat} {g_archive_rooms : Nat → Int32} {g_archive_day : Int32} {v_archive_series : Rg} {v_archive_pieces : Rg} {x1 : Int32} {x2 : Int32} {s0 : Int32} (h : fX7_box g_archive_rooms v_archive_series v_archive_pieces x1 x2 = some s0) : CT l D cI cS yX7_box cX7_box 3 (some .int) rmX7_box [.ref (a 0), .int x1, .int x2] [oX7 a a_archive a_history a_planner a_rows a_text a_page a_draft, oX0 a_archive a_archive_series a_archive_pieces a_archive_trial a_archive_moves g_archive_day, ar cI (a_archive 2) 8 g_archive_rooms, cR cI a_archive_series 10 v_archive_series, cR cI a_archive_pieces 42 v_archive_pieces] (some (.int s0)) [oX7 a a_archive a_history a_planner a_rows a_text a_page a_draft, oX0 a_archive a_archive_series a_archive_pieces a_archive_trial a_archive_moves g_archive_day, ar cI (a_archive 2) 8 g_archive_rooms, cR cI a_archive_series 10 v_archive_series, cR cI a_archive_pieces 42 v_archive_pieces] := by
  refine CT.of RX7 (by decide) rfl (Nat.le_of_ble_eq_true rfl) (fun p e s m below meth c ls A C hA hl hw => ?_)
  have hx := C.1.1
  have hb := C.1.2.1
  have hl : lv_has ls 3 [(0, .ref (a 0)), (1, .int x1), (2, .int x2)] := hl
  unfold fX7_box at h
  refine lv_iload_n hx hb dX7_box_0 rfl (lv_at hl 1 rfl) ?_
  obtain ⟨r1, q1, h⟩ := bd h
  refine k_callS (nC := 5) [oX7 a a_archive a_history a_planner a_rows a_text a_page a_draft, oX0 a_archive a_archive_series a_archive_pieces a_archive_trial a_archive_moves g_archive_day, ar cI (a_archive 2) 8 g_archive_rooms, cR cI a_archive_series 10 v_archive_series, cR cI a_archive_pieces 42 v_archive_pieces] C hl.1 (tX7_isBox q1) mL_X7_187 mmX7_isBox rfl rfl ⟨Nat.le_of_ble_eq_true rfl, Nat.le_of_ble_eq_true rfl⟩ rfl rfl (Nat.le_of_ble_eq_true rfl) hA hw [] [0, 1, 2, 3, 4] rfl (by decide +kernel) rfl rfl rfl rfl dX7_box_1 (fun H locs hw1 => ?_)
  refine lv_if_ne (tgt := 10) hx hb dX7_box_4 (by decide) (fun c4 => ?_) (fun c4 => ?_)
  · replace h := br_f' h c4
    refine lv_iload_n hx hb dX7_box_10 rfl (lv_at hl 2 rfl) ?_
    by_cases c11_0 : x2 = 0
    · replace h := br_t' h c11_0
      refine lv_tableIn (tgt := 48) hx hb dX7_box_11 (by rw [c11_0]; decide) (by rw [c11_0]; decide) (off := 37) (by rw [c11_0]; decide) (by decide) ?_
      refine lv_aload_n hx hb dX7_box_48 rfl (lv_at hl 0 rfl) ?_
      refine k_get C inT_X7 hw1 0 rfl rfl 0 (by decide) mF_X7_12 rfl dX7_box_49 ?_
      refine lv_iload_n hx hb dX7_box_52 rfl (lv_at hl 1 rfl) ?_
      obtain ⟨r53, q53, h⟩ := bd h
      refine k_callV (nC := 5) [oX7 a a_archive a_history a_planner a_rows a_text a_page a_draft, oX0 a_archive a_archive_series a_archive_pieces a_archive_trial a_archive_moves g_archive_day, ar cI (a_archive 2) 8 g_archive_rooms, cR cI a_archive_series 10 v_archive_series, cR cI a_archive_pieces 42 v_archive_pieces] C hl.1 (tX0_roomOf (a := a_archive) (a_series := a_archive_series) (a_pieces := a_archive_pieces) (a_trial := a_archive_trial) (a_moves := a_archive_moves) q53) mL_X7_190 mmX0_roomOf rfl rfl ⟨Nat.le_of_ble_eq_true rfl, Nat.le_of_ble_eq_true rfl⟩ rfl rfl rfl rfl (Nat.le_of_ble_eq_true rfl) hA hw1 [1, 2] [0, 3, 4] rfl (by decide +kernel) rfl rfl rfl rfl dX7_box_53 (fun H locs hw53 => ?_)
      cases h
      exact k_iret C hw53 dX7_box_56
    replace h := br_f' h c11_0
    by_cases c11_1 : x2 = 1
    · replace h := br_t' h c11_1
      refine lv_tableIn (tgt := 57) hx hb dX7_box_11 (by rw [c11_1]; decide) (by rw [c11_1]; decide) (off := 46) (by rw [c11_1]; decide) (by decide) ?_
      refine lv_aload_n hx hb dX7_box_57 rfl (lv_at hl 0 rfl) ?_
      refine k_get C inT_X7 hw1 0 rfl rfl 0 (by decide) mF_X7_12 rfl dX7_box_58 ?_
      refine lv_iload_n hx hb dX7_box_61 rfl (lv_at hl 1 rfl) ?_
      obtain ⟨r62, q62, h⟩ := bd h
      refine k_callV (nC := 5) [oX7 a a_archive a_history a_planner a_rows a_text a_page a_draft, oX0 a_archive a_archive_series a_archive_pieces a_archive_trial a_archive_moves g_archive_day, ar cI (a_archive 2) 8 g_archive_rooms, cR cI a_archive_series 10 v_archive_series, cR cI a_archive_pieces 42 v_archive_pieces] C hl.1 (tX0_loadOf (a := a_archive) (a_series := a_archive_series) (a_pieces := a_archive_pieces) (a_trial := a_archive_trial) (a_moves := a_archive_moves) q62) mL_X7_193 mmX0_loadOf rfl rfl ⟨Nat.le_of_ble_eq_true rfl, Nat.le_of_ble_eq_true rfl⟩ rfl rfl rfl rfl (Nat.le_of_ble_eq_true rfl) hA hw1 [1, 4] [0, 2, 3] rfl (by decide +kernel) rfl rfl rfl rfl dX7_box_62 (fun H locs hw62 => ?_)
      cases h
      exact k_iret C hw62 dX7_box_65
    replace h := br_f' h c11_1
    by_cases c11_2 : x2 = 2
    · replace h := br_t' h c11_2
      refine lv_tableIn (tgt := 66) hx hb dX7_box_11 (by rw [c11_2]; decide) (by rw [c11_2]; decide) (off := 55) (by rw [c11_2]; decide) (by decide) ?_
      refine lv_aload_n hx hb dX7_box_66 rfl (lv_at hl 0 rfl) ?_
      refine k_get C inT_X7 hw1 0 rfl rfl 0 (by decide) mF_X7_12 rfl dX7_box_67 ?_
      obtain ⟨r70, q70, h⟩ := bd h
      refine k_callV (nC := 5) [oX7 a a_archive a_history a_planner a_rows a_text a_page a_draft, oX0 a_archive a_archive_series a_archive_pieces a_archive_trial a_archive_moves g_archive_day, ar cI (a_archive 2) 8 g_archive_rooms, cR cI a_archive_series 10 v_archive_series, cR cI a_archive_pieces 42 v_archive_pieces] C hl.1 (tX0_pieces (a := a_archive) (a_series := a_archive_series) (a_pieces := a_archive_pieces) (a_trial := a_archive_trial) (a_moves := a_archive_moves) q70) mL_X7_169 mmX0_pieces rfl rfl ⟨Nat.le_of_ble_eq_true rfl, Nat.le_of_ble_eq_true rfl⟩ rfl rfl rfl rfl (Nat.le_of_ble_eq_true rfl) hA hw1 [1] [0, 2, 3, 4] rfl (by decide +kernel) rfl rfl rfl rfl dX7_box_70 (fun H locs hw70 => ?_)
      refine lv_iload_n hx hb dX7_box_73 rfl (lv_at hl 1 rfl) ?_
      obtain ⟨r74, q74, h⟩ := bd h
      refine k_callV (nC := 5) [oX7 a a_archive a_history a_planner a_rows a_text a_page a_draft, oX0 a_archive a_archive_series a_archive_pieces a_archive_trial a_archive_moves g_archive_day, ar cI (a_archive 2) 8 g_archive_rooms, cR cI a_archive_series 10 v_archive_series, cR cI a_archive_pieces 42 v_archive_pieces] C hl.1 (tX4_countOf (a := a_archive_pieces) q74) mL_X7_196 mmX4_countOf rfl rfl ⟨Nat.le_of_ble_eq_true rfl, Nat.le_of_ble_eq_true rfl⟩ rfl rfl rfl rfl (Nat.le_of_ble_eq_true rfl) hA hw70 [4] [0, 1, 2, 3] rfl (by decide +kernel) rfl rfl rfl rfl dX7_box_74 (fun H locs hw74 => ?_)
      cases h
      exact k_iret C hw74 dX7_box_77
    replace h := br_f' h c11_2
    by_cases c11_3 : x2 = 3
    · replace h := br_t' h c11_3
      refine lv_tableIn (tgt := 78) hx hb dX7_box_11 (by rw [c11_3]; decide) (by rw [c11_3]; decide) (off := 67) (by rw [c11_3]; decide) (by decide) ?_
      refine lv_aload_n hx hb dX7_box_78 rfl (lv_at hl 0 rfl) ?_
      refine k_get C inT_X7 hw1 0 rfl rfl 0 (by decide) mF_X7_12 rfl dX7_box_79 ?_
      refine lv_iload_n hx hb dX7_box_82 rfl (lv_at hl 1 rfl) ?_
      obtain ⟨r83, q83, h⟩ := bd h
      refine k_callV (nC := 5) [oX7 a a_archive a_history a_planner a_rows a_text a_page a_draft, oX0 a_archive a_archive_series a_archive_pieces a_archive_trial a_archive_moves g_archive_day, ar cI (a_archive 2) 8 g_archive_rooms, cR cI a_archive_series 10 v_archive_series, cR cI a_archive_pieces 42 v_archive_pieces] C hl.1 (tX0_seriesIn (a := a_archive) (a_series := a_archive_series) (a_pieces := a_archive_pieces) (a_trial := a_archive_trial) (a_moves := a_archive_moves) q83) mL_X7_199 mmX0_seriesIn rfl rfl ⟨Nat.le_of_ble_eq_true rfl, Nat.le_of_ble_eq_true rfl⟩ rfl rfl rfl rfl (Nat.le_of_ble_eq_true rfl) hA hw1 [1, 3, 4] [0, 2] rfl (by decide +kernel) rfl rfl rfl rfl dX7_box_83 (fun H locs hw83 => ?_)
      cases h
      exact k_iret C hw83 dX7_box_86
    replace h := br_f' h c11_3
    by_cases c11_4 : x2 = 4
    · replace h := br_t' h c11_4
      refine lv_tableIn (tgt := 87) hx hb dX7_box_11 (by rw [c11_4]; decide) (by rw [c11_4]; decide) (off := 76) (by rw [c11_4]; decide) (by decide) ?_
      refine lv_aload_n hx hb dX7_box_87 rfl (lv_at hl 0 rfl) ?_
      refine k_get C inT_X7 hw1 0 rfl rfl 0 (by decide) mF_X7_12 rfl dX7_box_88 ?_
      obtain ⟨r91, q91, h⟩ := bd h
      refine k_callV (nC := 5) [oX7 a a_archive a_history a_planner a_rows a_text a_page a_draft, oX0 a_archive a_archive_series a_archive_pieces a_archive_trial a_archive_moves g_archive_day, ar cI (a_archive 2) 8 g_archive_rooms, cR cI a_archive_series 10 v_archive_series, cR cI a_archive_pieces 42 v_archive_pieces] C hl.1 (tX0_pieces (a := a_archive) (a_series := a_archive_series) (a_pieces := a_archive_pieces) (a_trial := a_archive_trial) (a_moves := a_archive_moves) q91) mL_X7_169 mmX0_pieces rfl rfl ⟨Nat.le_of_ble_eq_true rfl, Nat.le_of_ble_eq_true rfl⟩ rfl rfl rfl rfl (Nat.le_of_ble_eq_true rfl) hA hw1 [1] [0, 2, 3, 4] rfl (by decide +kernel) rfl rfl rfl rfl dX7_box_91 (fun H locs hw91 => ?_)
      refine lv_iload_n hx hb dX7_box_94 rfl (lv_at hl 1 rfl) ?_
      obtain ⟨r95, q95, h⟩ := bd h
      refine k_callV (nC := 5) [oX7 a a_archive a_history a_planner a_rows a_text a_page a_draft, oX0 a_archive a_archive_series a_archive_pieces a_archive_trial a_archive_moves g_archive_day, ar cI (a_archive 2) 8 g_archive_rooms, cR cI a_archive_series 10 v_archive_series, cR cI a_archive_pieces 42 v_archive_pieces] C hl.1 (tX4_lowestOf (a := a_archive_pieces) q95) mL_X7_202 mmX4_lowestOf rfl rfl ⟨Nat.le_of_ble_eq_true rfl, Nat.le_of_ble_eq_true rfl⟩ rfl rfl rfl rfl (Nat.le_of_ble_eq_true rfl) hA hw91 [4] [0, 1, 2, 3] rfl (by decide +kernel) rfl rfl rfl rfl dX7_box_95 (fun H locs hw95 => ?_)
      cases h
      exact k_iret C hw95 dX7_box_98
    replace h := br_f' h c11_4
    by_cases c11_5 : x2 = 5
    · replace h := br_t' h c11_5
      refine lv_tableIn (tgt := 99) hx hb dX7_box_11 (by rw [c11_5]; decide) (by rw [c11_5]; decide) (off := 88) (by rw [c11_5]; decide) (by decide) ?_
      refine lv_aload_n hx hb dX7_box_99 rfl (lv_at hl 0 rfl) ?_
      refine k_get C inT_X7 hw1 0 rfl rfl 0 (by decide) mF_X7_12 rfl dX7_box_100 ?_
      obtain ⟨r103, q103, h⟩ := bd h
      refine k_callV (nC := 5) [oX7 a a_archive a_history a_planner a_rows a_text a_page a_draft, oX0 a_archive a_archive_series a_archive_pieces a_archive_trial a_archive_moves g_archive_day, ar cI (a_archive 2) 8 g_archive_rooms, cR cI a_archive_series 10 v_archive_series, cR cI a_archive_pieces 42 v_archive_pieces] C hl.1 (tX0_pieces (a := a_archive) (a_series := a_archive_series) (a_pieces := a_archive_pieces) (a_trial := a_archive_trial) (a_moves := a_archive_moves) q103) mL_X7_169 mmX0_pieces rfl rfl ⟨Nat.le_of_ble_eq_true rfl, Nat.le_of_ble_eq_true rfl⟩ rfl rfl rfl rfl (Nat.le_of_ble_eq_true rfl) hA hw1 [1] [0, 2, 3, 4] rfl (by decide +kernel) rfl rfl rfl rfl dX7_box_103 (fun H locs hw103 => ?_)
      refine lv_iload_n hx hb dX7_box_106 rfl (lv_at hl 1 rfl) ?_
      obtain ⟨r107, q107, h⟩ := bd h
      refine k_callV (nC := 5) [oX7 a a_archive a_history a_planner a_rows a_text a_page a_draft, oX0 a_archive a_archive_series a_archive_pieces a_archive_trial a_archive_moves g_archive_day, ar cI (a_archive 2) 8 g_archive_rooms, cR cI a_archive_series 10 v_archive_series, cR cI a_archive_pieces 42 v_archive_pieces] C hl.1 (tX4_highestOf (a := a_archive_pieces) q107) mL_X7_205 mmX4_highestOf rfl rfl ⟨Nat.le_of_ble_eq_true rfl, Nat.le_of_ble_eq_true rfl⟩ rfl rfl rfl rfl (Nat.le_of_ble_eq_true rfl) hA hw103 [4] [0, 1, 2, 3] rfl (by decide +kernel) rfl rfl rfl rfl dX7_box_107 (fun H locs hw107 => ?_)
      cases h
      exact k_iret C hw107 dX7_box_110
    replace h := br_f' h c11_5
    refine lv_tableOut (tgt := 111) hx hb dX7_box_11 (by have t0 := ti_ne (i := 0) c11_0 (by decide); have t1 := ti_ne (i := 1) c11_1 (by decide); have t2 := ti_ne (i := 2) c11_2 (by decide); have t3 := ti_ne (i := 3) c11_3 (by decide); have t4 := ti_ne (i := 4) c11_4 (by decide); have t5 := ti_ne (i := 5) c11_5 (by decide); omega) (by decide) ?_
    refine lv_bipush (v := (-3)) hx hb dX7_box_111 (by decide) ?_
    cases h
    exact k_iret C hw1 dX7_box_113
  · replace h := br_t' h c4
    refine lv_bipush (v := (-2)) hx hb dX7_box_7 (by decide) ?_
    cases h
    exact k_iret C hw1 dX7_box_9
def rmX7_endOrMark : Room := { frames := 2, cells := 0, slots := 0, locals := 42 }
def fX7_endOrMark (Np1 : Nat) (v_p1 : Rg) (x1 : Int32) (x2 : Int32) : Option (Int32) :=
  if x2 = 0 then
    (fX4_firstOf Np1 v_p1 x1).bind fun r30 =>
    some r30
  else
  if x2 = 1 then
    (fX4_lastOf Np1 v_p1 x1).bind fun r36 =>
    some r36
  else
  if x2 = 2 then
    (fX4_markOf Np1 v_p1 x1).bind fun r42 =>
    some r42
  else
    some (-3)
set_option maxRecDepth 100000 in
set_option maxHeartbeats 4000000 in
theorem tX7_endOrMark {l : Launch} {D : va_G} {cI : ClassId} {cS : GS} {a_p1 : Nat → Nat} {Np1 : Nat} {v_p1 : Rg} {x1 : Int32} {x2 : Int32} {s0 : Int32} (h : fX7_endOrMark Np1 v_p1 x1 x2 = some s0) : CT l D cI cS yX7_endOrMark cX7_endOrMark 3 (some .int) rmX7_endOrMark [.ref (a_p1 0), .int x1, .int x2] [cR cI a_p1 Np1 v_p1] (some (.int s0)) [cR cI a_p1 Np1 v_p1] := by
  refine CT.of RX7 (by decide) rfl (Nat.le_of_ble_eq_true rfl) (fun p e s m below meth c ls A C hA hl hw => ?_)
  have hx := C.1.1
  have hb := C.1.2.1
  have hl : lv_has ls 3 [(0, .ref (a_p1 0)), (1, .int x1), (2, .int x2)] := hl
  unfold fX7_endOrMark at h
  refine lv_iload_n hx hb dX7_endOrMark_0 rfl (lv_at hl 2 rfl) ?_
  by_cases c1_0 : x2 = 0
  · replace h := br_t' h c1_0
    refine lv_tableIn (tgt := 28) hx hb dX7_endOrMark_1 (by rw [c1_0]; decide) (by rw [c1_0]; decide) (off := 27) (by rw [c1_0]; decide) (by decide) ?_
    refine lv_aload_n hx hb dX7_endOrMark_28 rfl (lv_at hl 0 rfl) ?_
    refine lv_iload_n hx hb dX7_endOrMark_29 rfl (lv_at hl 1 rfl) ?_
    obtain ⟨r30, q30, h⟩ := bd h
    refine k_callV (nC := 1) [cR cI a_p1 Np1 v_p1] C hl.1 (tX4_firstOf (a := a_p1) q30) mL_X7_215 mmX4_firstOf rfl rfl ⟨Nat.le_of_ble_eq_true rfl, Nat.le_of_ble_eq_true rfl⟩ rfl rfl rfl rfl (Nat.le_of_ble_eq_true rfl) hA hw [0] [] rfl (by decide +kernel) rfl rfl rfl rfl dX7_endOrMark_30 (fun H locs hw30 => ?_)
    cases h
    exact k_iret C hw30 dX7_endOrMark_33
  replace h := br_f' h c1_0
  by_cases c1_1 : x2 = 1
  · replace h := br_t' h c1_1
    refine lv_tableIn (tgt := 34) hx hb dX7_endOrMark_1 (by rw [c1_1]; decide) (by rw [c1_1]; decide) (off := 33) (by rw [c1_1]; decide) (by decide) ?_
    refine lv_aload_n hx hb dX7_endOrMark_34 rfl (lv_at hl 0 rfl) ?_
    refine lv_iload_n hx hb dX7_endOrMark_35 rfl (lv_at hl 1 rfl) ?_
    obtain ⟨r36, q36, h⟩ := bd h
    refine k_callV (nC := 1) [cR cI a_p1 Np1 v_p1] C hl.1 (tX4_lastOf (a := a_p1) q36) mL_X7_218 mmX4_lastOf rfl rfl ⟨Nat.le_of_ble_eq_true rfl, Nat.le_of_ble_eq_true rfl⟩ rfl rfl rfl rfl (Nat.le_of_ble_eq_true rfl) hA hw [0] [] rfl (by decide +kernel) rfl rfl rfl rfl dX7_endOrMark_36 (fun H locs hw36 => ?_)
    cases h
    exact k_iret C hw36 dX7_endOrMark_39
  replace h := br_f' h c1_1
  by_cases c1_2 : x2 = 2
  · replace h := br_t' h c1_2
    refine lv_tableIn (tgt := 40) hx hb dX7_endOrMark_1 (by rw [c1_2]; decide) (by rw [c1_2]; decide) (off := 39) (by rw [c1_2]; decide) (by decide) ?_
    refine lv_aload_n hx hb dX7_endOrMark_40 rfl (lv_at hl 0 rfl) ?_
    refine lv_iload_n hx hb dX7_endOrMark_41 rfl (lv_at hl 1 rfl) ?_
    obtain ⟨r42, q42, h⟩ := bd h
    refine k_callV (nC := 1) [cR cI a_p1 Np1 v_p1] C hl.1 (tX4_markOf (a := a_p1) q42) mL_X7_239 mmX4_markOf rfl rfl ⟨Nat.le_of_ble_eq_true rfl, Nat.le_of_ble_eq_true rfl⟩ rfl rfl rfl rfl (Nat.le_of_ble_eq_true rfl) hA hw [0] [] rfl (by decide +kernel) rfl rfl rfl rfl dX7_endOrMark_42 (fun H locs hw42 => ?_)
    cases h
    exact k_iret C hw42 dX7_endOrMark_45
  replace h := br_f' h c1_2
  refine lv_tableOut (tgt := 46) hx hb dX7_endOrMark_1 (by have t0 := ti_ne (i := 0) c1_0 (by decide); have t1 := ti_ne (i := 1) c1_1 (by decide); have t2 := ti_ne (i := 2) c1_2 (by decide); omega) (by decide) ?_
  refine lv_bipush (v := (-3)) hx hb dX7_endOrMark_46 (by decide) ?_
  cases h
  exact k_iret C hw dX7_endOrMark_48
def rmX7_piece : Room := { frames := 3, cells := 0, slots := 0, locals := 64 }
def fX7_piece (v_archive_pieces : Rg) (x1 : Int32) (x2 : Int32) : Option (Int32) :=
  (fX0_pieces).bind fun r4 =>
  (fX4_has 42 v_archive_pieces x1).bind fun r10 =>
  if r10 = 0 then
    some (-2)
  else
    (fX7_endOrMark 42 v_archive_pieces x1 x2).bind fun r22 =>
    some r22
set_option maxRecDepth 100000 in
set_option maxHeartbeats 4000000 in
theorem tX7_piece {l : Launch} {D : va_G} {cI : ClassId} {cS : GS} {a : Nat → Nat} {a_archive : Nat → Nat} {a_history : Nat → Nat} {a_planner : Nat → Nat} {a_rows : Nat → Nat} {a_text : Nat → Nat} {a_page : Nat → Nat} {a_draft : Nat → Nat} {a_archive_series : Nat → Nat} {a_archive_pieces : Nat → Nat} {a_archive_trial : Nat → Nat} {a_archive_moves : Nat → Nat} {g_archive_day : Int32} {v_archive_pieces : Rg} {x1 : Int32} {x2 : Int32} {s0 : Int32} (h : fX7_piece v_archive_pieces x1 x2 = some s0) : CT l D cI cS yX7_piece cX7_piece 4 (some .int) rmX7_piece [.ref (a 0), .int x1, .int x2] [oX7 a a_archive a_history a_planner a_rows a_text a_page a_draft, oX0 a_archive a_archive_series a_archive_pieces a_archive_trial a_archive_moves g_archive_day, cR cI a_archive_pieces 42 v_archive_pieces] (some (.int s0)) [oX7 a a_archive a_history a_planner a_rows a_text a_page a_draft, oX0 a_archive a_archive_series a_archive_pieces a_archive_trial a_archive_moves g_archive_day, cR cI a_archive_pieces 42 v_archive_pieces] := by
  refine CT.of RX7 (by decide) rfl (Nat.le_of_ble_eq_true rfl) (fun p e s m below meth c ls A C hA hl hw => ?_)
  have hx := C.1.1
  have hb := C.1.2.1
  have hl : lv_has ls 4 [(0, .ref (a 0)), (1, .int x1), (2, .int x2)] := hl
  unfold fX7_piece at h
  refine lv_aload_n hx hb dX7_piece_0 rfl (lv_at hl 0 rfl) ?_
  refine k_get C inT_X7 hw 0 rfl rfl 0 (by decide) mF_X7_12 rfl dX7_piece_1 ?_
  obtain ⟨r4, q4, h⟩ := bd h
  refine k_callV (nC := 3) [oX7 a a_archive a_history a_planner a_rows a_text a_page a_draft, oX0 a_archive a_archive_series a_archive_pieces a_archive_trial a_archive_moves g_archive_day, cR cI a_archive_pieces 42 v_archive_pieces] C hl.1 (tX0_pieces (a := a_archive) (a_series := a_archive_series) (a_pieces := a_archive_pieces) (a_trial := a_archive_trial) (a_moves := a_archive_moves) q4) mL_X7_169 mmX0_pieces rfl rfl ⟨Nat.le_of_ble_eq_true rfl, Nat.le_of_ble_eq_true rfl⟩ rfl rfl rfl rfl (Nat.le_of_ble_eq_true rfl) hA hw [1] [0, 2] rfl (by decide +kernel) rfl rfl rfl rfl dX7_piece_4 (fun H locs hw4 => ?_)
  refine lv_astore_n (lv' := [(3, .ref (a_archive_pieces 0)), (0, .ref (a 0)), (1, .int x1), (2, .int x2)]) hx hb dX7_piece_7 rfl hl (by decide) rfl (fun ls hl => ?_)
  refine lv_aload_n hx hb dX7_piece_8 rfl (lv_at hl 0 rfl) ?_
  refine lv_iload_n hx hb dX7_piece_9 rfl (lv_at hl 2 rfl) ?_
  obtain ⟨r10, q10, h⟩ := bd h
  refine k_callV (nC := 3) [oX7 a a_archive a_history a_planner a_rows a_text a_page a_draft, oX0 a_archive a_archive_series a_archive_pieces a_archive_trial a_archive_moves g_archive_day, cR cI a_archive_pieces 42 v_archive_pieces] C hl.1 (tX4_has (a := a_archive_pieces) q10) mL_X7_208 mmX4_has rfl rfl ⟨Nat.le_of_ble_eq_true rfl, Nat.le_of_ble_eq_true rfl⟩ rfl rfl rfl rfl (Nat.le_of_ble_eq_true rfl) hA hw4 [2] [0, 1] rfl (by decide +kernel) rfl rfl rfl rfl dX7_piece_10 (fun H locs hw10 => ?_)
  refine lv_if_ne (tgt := 19) hx hb dX7_piece_13 (by decide) (fun c13 => ?_) (fun c13 => ?_)
  · replace h := br_f' h c13
    refine lv_aload_n hx hb dX7_piece_19 rfl (lv_at hl 0 rfl) ?_
    refine lv_iload_n hx hb dX7_piece_20 rfl (lv_at hl 2 rfl) ?_
    refine lv_iload_n hx hb dX7_piece_21 rfl (lv_at hl 3 rfl) ?_
    obtain ⟨r22, q22, h⟩ := bd h
    refine k_callS (nC := 3) [oX7 a a_archive a_history a_planner a_rows a_text a_page a_draft, oX0 a_archive a_archive_series a_archive_pieces a_archive_trial a_archive_moves g_archive_day, cR cI a_archive_pieces 42 v_archive_pieces] C hl.1 (tX7_endOrMark (a_p1 := a_archive_pieces) q22) mL_X7_211 mmX7_endOrMark rfl rfl ⟨Nat.le_of_ble_eq_true rfl, Nat.le_of_ble_eq_true rfl⟩ rfl rfl (Nat.le_of_ble_eq_true rfl) hA hw10 [2] [0, 1] rfl (by decide +kernel) rfl rfl rfl rfl dX7_piece_22 (fun H locs hw22 => ?_)
    cases h
    exact k_iret C hw22 dX7_piece_25
  · replace h := br_t' h c13
    refine lv_bipush (v := (-2)) hx hb dX7_piece_16 (by decide) ?_
    cases h
    exact k_iret C hw10 dX7_piece_18
def rmX7_gap : Room := { frames := 4, cells := 0, slots := 0, locals := 89 }
def fX7_gap (v_archive_series : Rg) (v_archive_pieces : Rg) (v_planner_gaps : Rg) (x1 : Int32) (x2 : Int32) (x3 : Int32) : Option (Int32 × Rg) :=
  (fX0_isSeries v_archive_series x1).bind fun r5 =>
  if r5 = 0 then
    some ((-2), v_planner_gaps)
  else
    (fX3_findGaps v_planner_gaps v_archive_series v_archive_pieces x1).bind fun r23 =>
    (fX3_gaps).bind fun r30 =>
    (fX4_has 41 r23 x2).bind fun r38 =>
    if r38 = 0 then
      some ((-2), r23)
    else
      if x3 = 0 then
        if x3 = 0 then
          (fX4_firstOf 41 r23 x2).bind fun r66 =>
          some (r66, r23)
        else
          (fX4_lastOf 41 r23 x2).bind fun r75 =>
          some (r75, r23)
      else
        if x3 = 1 then
          if x3 = 0 then
            (fX4_firstOf 41 r23 x2).bind fun r66 =>
            some (r66, r23)
          else
            (fX4_lastOf 41 r23 x2).bind fun r75 =>
            some (r75, r23)
        else
          some ((-3), r23)
set_option maxRecDepth 100000 in
set_option maxHeartbeats 4000000 in
theorem tX7_gap {l : Launch} {D : va_G} {cI : ClassId} {cS : GS} {a : Nat → Nat} {a_archive : Nat → Nat} {a_history : Nat → Nat} {a_planner : Nat → Nat} {a_rows : Nat → Nat} {a_text : Nat → Nat} {a_page : Nat → Nat} {a_draft : Nat → Nat} {a_archive_series : Nat → Nat} {a_archive_pieces : Nat → Nat} {a_archive_trial : Nat → Nat} {a_archive_moves : Nat → Nat} {a_planner_gaps : Nat → Nat} {a_planner_layings : Nat → Nat} {g_archive_day : Int32} {v_archive_series : Rg} {v_archive_pieces : Rg} {g_planner_remaining : Int32} {v_planner_gaps : Rg} {x1 : Int32} {x2 : Int32} {x3 : Int32} {s0 : Int32} {s1 : Rg} (h : fX7_gap v_archive_series v_archive_pieces v_planner_gaps x1 x2 x3 = some (s0, s1)) : CT l D cI cS yX7_gap cX7_gap 5 (some .int) rmX7_gap [.ref (a 0), .int x1, .int x2, .int x3] [oX7 a a_archive a_history a_planner a_rows a_text a_page a_draft, oX0 a_archive a_archive_series a_archive_pieces a_archive_trial a_archive_moves g_archive_day, cR cI a_archive_series 10 v_archive_series, cR cI a_archive_pieces 42 v_archive_pieces, oX3 a_planner a_planner_gaps a_planner_layings g_planner_remaining, cR cI a_planner_gaps 41 v_planner_gaps] (some (.int s0)) [oX7 a a_archive a_history a_planner a_rows a_text a_page a_draft, oX0 a_archive a_archive_series a_archive_pieces a_archive_trial a_archive_moves g_archive_day, cR cI a_archive_series 10 v_archive_series, cR cI a_archive_pieces 42 v_archive_pieces, oX3 a_planner a_planner_gaps a_planner_layings g_planner_remaining, cR cI a_planner_gaps 41 s1] := by
  refine CT.of RX7 (by decide) rfl (Nat.le_of_ble_eq_true rfl) (fun p e s m below meth c ls A C hA hl hw => ?_)
  have hx := C.1.1
  have hb := C.1.2.1
  have hl : lv_has ls 5 [(0, .ref (a 0)), (1, .int x1), (2, .int x2), (3, .int x3)] := hl
  unfold fX7_gap at h
  refine lv_aload_n hx hb dX7_gap_0 rfl (lv_at hl 0 rfl) ?_
  refine k_get C inT_X7 hw 0 rfl rfl 0 (by decide) mF_X7_12 rfl dX7_gap_1 ?_
  refine lv_iload_n hx hb dX7_gap_4 rfl (lv_at hl 1 rfl) ?_
  obtain ⟨r5, q5, h⟩ := bd h
  refine k_callV (nC := 6) [oX7 a a_archive a_history a_planner a_rows a_text a_page a_draft, oX0 a_archive a_archive_series a_archive_pieces a_archive_trial a_archive_moves g_archive_day, cR cI a_archive_series 10 v_archive_series, cR cI a_archive_pieces 42 v_archive_pieces, oX3 a_planner a_planner_gaps a_planner_layings g_planner_remaining, cR cI a_planner_gaps 41 v_planner_gaps] C hl.1 (tX0_isSeries (a := a_archive) (a_series := a_archive_series) (a_pieces := a_archive_pieces) (a_trial := a_archive_trial) (a_moves := a_archive_moves) q5) mL_X7_126 mmX0_isSeries rfl rfl ⟨Nat.le_of_ble_eq_true rfl, Nat.le_of_ble_eq_true rfl⟩ rfl rfl rfl rfl (Nat.le_of_ble_eq_true rfl) hA hw [1, 2] [0, 3, 4, 5] rfl (by decide +kernel) rfl rfl rfl rfl dX7_gap_5 (fun H locs hw5 => ?_)
  refine lv_if_ne (tgt := 14) hx hb dX7_gap_8 (by decide) (fun c8 => ?_) (fun c8 => ?_)
  · replace h := br_f' h c8
    refine lv_aload_n hx hb dX7_gap_14 rfl (lv_at hl 0 rfl) ?_
    refine k_get C inT_X7 hw5 0 rfl rfl 2 (by decide) mF_X7_26 rfl dX7_gap_15 ?_
    refine lv_aload_n hx hb dX7_gap_18 rfl (lv_at hl 0 rfl) ?_
    refine k_get C inT_X7 hw5 0 rfl rfl 0 (by decide) mF_X7_12 rfl dX7_gap_19 ?_
    refine lv_iload_n hx hb dX7_gap_22 rfl (lv_at hl 1 rfl) ?_
    obtain ⟨r23, q23, h⟩ := bd h
    refine k_callV (nC := 6) [oX7 a a_archive a_history a_planner a_rows a_text a_page a_draft, oX0 a_archive a_archive_series a_archive_pieces a_archive_trial a_archive_moves g_archive_day, cR cI a_archive_series 10 v_archive_series, cR cI a_archive_pieces 42 v_archive_pieces, oX3 a_planner a_planner_gaps a_planner_layings g_planner_remaining, cR cI a_planner_gaps 41 r23] C hl.1 (tX3_findGaps (a := a_planner) (a_gaps := a_planner_gaps) (a_layings := a_planner_layings) (a_p1 := a_archive) (a_p1_series := a_archive_series) (a_p1_pieces := a_archive_pieces) (a_p1_trial := a_archive_trial) (a_p1_moves := a_archive_moves) q23) mL_X7_178 mmX3_findGaps rfl rfl ⟨Nat.le_of_ble_eq_true rfl, Nat.le_of_ble_eq_true rfl⟩ rfl rfl rfl rfl (Nat.le_of_ble_eq_true rfl) hA hw5 [4, 5, 1, 2, 3] [0] rfl (by decide +kernel) rfl rfl rfl rfl dX7_gap_23 (fun H locs hw23 => ?_)
    refine lv_aload_n hx hb dX7_gap_26 rfl (lv_at hl 0 rfl) ?_
    refine k_get C inT_X7 hw23 0 rfl rfl 2 (by decide) mF_X7_26 rfl dX7_gap_27 ?_
    obtain ⟨r30, q30, h⟩ := bd h
    refine k_callV (nC := 6) [oX7 a a_archive a_history a_planner a_rows a_text a_page a_draft, oX0 a_archive a_archive_series a_archive_pieces a_archive_trial a_archive_moves g_archive_day, cR cI a_archive_series 10 v_archive_series, cR cI a_archive_pieces 42 v_archive_pieces, oX3 a_planner a_planner_gaps a_planner_layings g_planner_remaining, cR cI a_planner_gaps 41 r23] C hl.1 (tX3_gaps (a := a_planner) (a_gaps := a_planner_gaps) (a_layings := a_planner_layings) q30) mL_X7_181 mmX3_gaps rfl rfl ⟨Nat.le_of_ble_eq_true rfl, Nat.le_of_ble_eq_true rfl⟩ rfl rfl rfl rfl (Nat.le_of_ble_eq_true rfl) hA hw23 [4] [0, 1, 2, 3, 5] rfl (by decide +kernel) rfl rfl rfl rfl dX7_gap_30 (fun H locs hw30 => ?_)
    refine lv_astore (lv' := [(4, .ref (a_planner_gaps 0)), (0, .ref (a 0)), (1, .int x1), (2, .int x2), (3, .int x3)]) hx hb dX7_gap_33 hl (by decide) rfl (fun ls hl => ?_)
    refine lv_aload hx hb dX7_gap_35 (lv_at hl 0 rfl) ?_
    refine lv_iload_n hx hb dX7_gap_37 rfl (lv_at hl 3 rfl) ?_
    obtain ⟨r38, q38, h⟩ := bd h
    refine k_callV (nC := 6) [oX7 a a_archive a_history a_planner a_rows a_text a_page a_draft, oX0 a_archive a_archive_series a_archive_pieces a_archive_trial a_archive_moves g_archive_day, cR cI a_archive_series 10 v_archive_series, cR cI a_archive_pieces 42 v_archive_pieces, oX3 a_planner a_planner_gaps a_planner_layings g_planner_remaining, cR cI a_planner_gaps 41 r23] C hl.1 (tX4_has (a := a_planner_gaps) q38) mL_X7_208 mmX4_has rfl rfl ⟨Nat.le_of_ble_eq_true rfl, Nat.le_of_ble_eq_true rfl⟩ rfl rfl rfl rfl (Nat.le_of_ble_eq_true rfl) hA hw30 [5] [0, 1, 2, 3, 4] rfl (by decide +kernel) rfl rfl rfl rfl dX7_gap_38 (fun H locs hw38 => ?_)
    refine lv_if_ne (tgt := 47) hx hb dX7_gap_41 (by decide) (fun c41 => ?_) (fun c41 => ?_)
    · replace h := br_f' h c41
      refine lv_iload_n hx hb dX7_gap_47 rfl (lv_at hl 4 rfl) ?_
      refine lv_if_eq (tgt := 59) hx hb dX7_gap_48 (by decide) (fun c48 => ?_) (fun c48 => ?_)
      · replace h := br_t' h c48
        refine lv_iload_n hx hb dX7_gap_59 rfl (lv_at hl 4 rfl) ?_
        refine lv_if_ne (tgt := 72) hx hb dX7_gap_60 (by decide) (fun c60 => ?_) (fun c60 => ?_)
        · replace h := br_f' h c60
          refine lv_aload hx hb dX7_gap_72 (lv_at hl 0 rfl) ?_
          refine lv_iload_n hx hb dX7_gap_74 rfl (lv_at hl 3 rfl) ?_
          obtain ⟨r75, q75, h⟩ := bd h
          refine k_callV (nC := 6) [oX7 a a_archive a_history a_planner a_rows a_text a_page a_draft, oX0 a_archive a_archive_series a_archive_pieces a_archive_trial a_archive_moves g_archive_day, cR cI a_archive_series 10 v_archive_series, cR cI a_archive_pieces 42 v_archive_pieces, oX3 a_planner a_planner_gaps a_planner_layings g_planner_remaining, cR cI a_planner_gaps 41 r23] C hl.1 (tX4_lastOf (a := a_planner_gaps) q75) mL_X7_218 mmX4_lastOf rfl rfl ⟨Nat.le_of_ble_eq_true rfl, Nat.le_of_ble_eq_true rfl⟩ rfl rfl rfl rfl (Nat.le_of_ble_eq_true rfl) hA hw38 [5] [0, 1, 2, 3, 4] rfl (by decide +kernel) rfl rfl rfl rfl dX7_gap_75 (fun H locs hw75 => ?_)
          cases h
          exact k_iret C hw75 dX7_gap_78
        · replace h := br_t' h c60
          refine lv_aload hx hb dX7_gap_63 (lv_at hl 0 rfl) ?_
          refine lv_iload_n hx hb dX7_gap_65 rfl (lv_at hl 3 rfl) ?_
          obtain ⟨r66, q66, h⟩ := bd h
          refine k_callV (nC := 6) [oX7 a a_archive a_history a_planner a_rows a_text a_page a_draft, oX0 a_archive a_archive_series a_archive_pieces a_archive_trial a_archive_moves g_archive_day, cR cI a_archive_series 10 v_archive_series, cR cI a_archive_pieces 42 v_archive_pieces, oX3 a_planner a_planner_gaps a_planner_layings g_planner_remaining, cR cI a_planner_gaps 41 r23] C hl.1 (tX4_firstOf (a := a_planner_gaps) q66) mL_X7_215 mmX4_firstOf rfl rfl ⟨Nat.le_of_ble_eq_true rfl, Nat.le_of_ble_eq_true rfl⟩ rfl rfl rfl rfl (Nat.le_of_ble_eq_true rfl) hA hw38 [5] [0, 1, 2, 3, 4] rfl (by decide +kernel) rfl rfl rfl rfl dX7_gap_66 (fun H locs hw66 => ?_)
          refine lv_goto (tgt := 78) hx hb dX7_gap_69 (by decide) ?_
          cases h
          exact k_iret C hw66 dX7_gap_78
      · replace h := br_f' h c48
        refine lv_iload_n hx hb dX7_gap_51 rfl (lv_at hl 4 rfl) ?_
        refine lv_iconst (v := 1) hx hb dX7_gap_52 (by decide) ?_
        refine lv_icmp_eq (tgt := 59) hx hb dX7_gap_53 (by decide) (fun c53 => ?_) (fun c53 => ?_)
        · replace h := br_t' h c53
          refine lv_iload_n hx hb dX7_gap_59 rfl (lv_at hl 4 rfl) ?_
          refine lv_if_ne (tgt := 72) hx hb dX7_gap_60 (by decide) (fun c60 => ?_) (fun c60 => ?_)
          · replace h := br_f' h c60
            refine lv_aload hx hb dX7_gap_72 (lv_at hl 0 rfl) ?_
            refine lv_iload_n hx hb dX7_gap_74 rfl (lv_at hl 3 rfl) ?_
            obtain ⟨r75, q75, h⟩ := bd h
            refine k_callV (nC := 6) [oX7 a a_archive a_history a_planner a_rows a_text a_page a_draft, oX0 a_archive a_archive_series a_archive_pieces a_archive_trial a_archive_moves g_archive_day, cR cI a_archive_series 10 v_archive_series, cR cI a_archive_pieces 42 v_archive_pieces, oX3 a_planner a_planner_gaps a_planner_layings g_planner_remaining, cR cI a_planner_gaps 41 r23] C hl.1 (tX4_lastOf (a := a_planner_gaps) q75) mL_X7_218 mmX4_lastOf rfl rfl ⟨Nat.le_of_ble_eq_true rfl, Nat.le_of_ble_eq_true rfl⟩ rfl rfl rfl rfl (Nat.le_of_ble_eq_true rfl) hA hw38 [5] [0, 1, 2, 3, 4] rfl (by decide +kernel) rfl rfl rfl rfl dX7_gap_75 (fun H locs hw75 => ?_)
            cases h
            exact k_iret C hw75 dX7_gap_78
          · replace h := br_t' h c60
            refine lv_aload hx hb dX7_gap_63 (lv_at hl 0 rfl) ?_
            refine lv_iload_n hx hb dX7_gap_65 rfl (lv_at hl 3 rfl) ?_
            obtain ⟨r66, q66, h⟩ := bd h
            refine k_callV (nC := 6) [oX7 a a_archive a_history a_planner a_rows a_text a_page a_draft, oX0 a_archive a_archive_series a_archive_pieces a_archive_trial a_archive_moves g_archive_day, cR cI a_archive_series 10 v_archive_series, cR cI a_archive_pieces 42 v_archive_pieces, oX3 a_planner a_planner_gaps a_planner_layings g_planner_remaining, cR cI a_planner_gaps 41 r23] C hl.1 (tX4_firstOf (a := a_planner_gaps) q66) mL_X7_215 mmX4_firstOf rfl rfl ⟨Nat.le_of_ble_eq_true rfl, Nat.le_of_ble_eq_true rfl⟩ rfl rfl rfl rfl (Nat.le_of_ble_eq_true rfl) hA hw38 [5] [0, 1, 2, 3, 4] rfl (by decide +kernel) rfl rfl rfl rfl dX7_gap_66 (fun H locs hw66 => ?_)
            refine lv_goto (tgt := 78) hx hb dX7_gap_69 (by decide) ?_
            cases h
            exact k_iret C hw66 dX7_gap_78
        · replace h := br_f' h c53
          refine lv_bipush (v := (-3)) hx hb dX7_gap_56 (by decide) ?_
          cases h
          exact k_iret C hw38 dX7_gap_58
    · replace h := br_t' h c41
      refine lv_bipush (v := (-2)) hx hb dX7_gap_44 (by decide) ?_
      cases h
      exact k_iret C hw38 dX7_gap_46
  · replace h := br_t' h c8
    refine lv_bipush (v := (-2)) hx hb dX7_gap_11 (by decide) ?_
    cases h
    exact k_iret C hw5 dX7_gap_13
def rmX7_home : Room := { frames := 2, cells := 0, slots := 0, locals := 44 }
def fX7_home (v_archive_series : Rg) (x1 : Int32) : Option (Int32) :=
  (fX7_isSheet x1).bind fun r1 =>
  if r1 = 0 then
    some (-3)
  else
    (fX0_homeOf v_archive_series x1).bind fun r12 =>
    some r12
set_option maxRecDepth 100000 in
set_option maxHeartbeats 4000000 in
theorem tX7_home {l : Launch} {D : va_G} {cI : ClassId} {cS : GS} {a : Nat → Nat} {a_archive : Nat → Nat} {a_history : Nat → Nat} {a_planner : Nat → Nat} {a_rows : Nat → Nat} {a_text : Nat → Nat} {a_page : Nat → Nat} {a_draft : Nat → Nat} {a_archive_series : Nat → Nat} {a_archive_pieces : Nat → Nat} {a_archive_trial : Nat → Nat} {a_archive_moves : Nat → Nat} {g_archive_day : Int32} {v_archive_series : Rg} {x1 : Int32} {s0 : Int32} (h : fX7_home v_archive_series x1 = some s0) : CT l D cI cS yX7_home cX7_home 2 (some .int) rmX7_home [.ref (a 0), .int x1] [oX7 a a_archive a_history a_planner a_rows a_text a_page a_draft, oX0 a_archive a_archive_series a_archive_pieces a_archive_trial a_archive_moves g_archive_day, cR cI a_archive_series 10 v_archive_series] (some (.int s0)) [oX7 a a_archive a_history a_planner a_rows a_text a_page a_draft, oX0 a_archive a_archive_series a_archive_pieces a_archive_trial a_archive_moves g_archive_day, cR cI a_archive_series 10 v_archive_series] := by
  refine CT.of RX7 (by decide) rfl (Nat.le_of_ble_eq_true rfl) (fun p e s m below meth c ls A C hA hl hw => ?_)
  have hx := C.1.1
  have hb := C.1.2.1
  have hl : lv_has ls 2 [(0, .ref (a 0)), (1, .int x1)] := hl
  unfold fX7_home at h
  refine lv_iload_n hx hb dX7_home_0 rfl (lv_at hl 1 rfl) ?_
  obtain ⟨r1, q1, h⟩ := bd h
  refine k_callS (nC := 3) [oX7 a a_archive a_history a_planner a_rows a_text a_page a_draft, oX0 a_archive a_archive_series a_archive_pieces a_archive_trial a_archive_moves g_archive_day, cR cI a_archive_series 10 v_archive_series] C hl.1 (tX7_isSheet q1) mL_X7_221 mmX7_isSheet rfl rfl ⟨Nat.le_of_ble_eq_true rfl, Nat.le_of_ble_eq_true rfl⟩ rfl rfl (Nat.le_of_ble_eq_true rfl) hA hw [] [0, 1, 2] rfl (by decide +kernel) rfl rfl rfl rfl dX7_home_1 (fun H locs hw1 => ?_)
  refine lv_if_eq (tgt := 18) hx hb dX7_home_4 (by decide) (fun c4 => ?_) (fun c4 => ?_)
  · replace h := br_t' h c4
    refine lv_bipush (v := (-3)) hx hb dX7_home_18 (by decide) ?_
    cases h
    exact k_iret C hw1 dX7_home_20
  · replace h := br_f' h c4
    refine lv_aload_n hx hb dX7_home_7 rfl (lv_at hl 0 rfl) ?_
    refine k_get C inT_X7 hw1 0 rfl rfl 0 (by decide) mF_X7_12 rfl dX7_home_8 ?_
    refine lv_iload_n hx hb dX7_home_11 rfl (lv_at hl 1 rfl) ?_
    obtain ⟨r12, q12, h⟩ := bd h
    refine k_callV (nC := 3) [oX7 a a_archive a_history a_planner a_rows a_text a_page a_draft, oX0 a_archive a_archive_series a_archive_pieces a_archive_trial a_archive_moves g_archive_day, cR cI a_archive_series 10 v_archive_series] C hl.1 (tX0_homeOf (a := a_archive) (a_series := a_archive_series) (a_pieces := a_archive_pieces) (a_trial := a_archive_trial) (a_moves := a_archive_moves) q12) mL_X7_224 mmX0_homeOf rfl rfl ⟨Nat.le_of_ble_eq_true rfl, Nat.le_of_ble_eq_true rfl⟩ rfl rfl rfl rfl (Nat.le_of_ble_eq_true rfl) hA hw1 [1, 2] [0] rfl (by decide +kernel) rfl rfl rfl rfl dX7_home_12 (fun H locs hw12 => ?_)
    refine lv_goto (tgt := 20) hx hb dX7_home_15 (by decide) ?_
    cases h
    exact k_iret C hw12 dX7_home_20
def rmX7_where : Room := { frames := 3, cells := 0, slots := 0, locals := 64 }
def fX7_where (v_archive_pieces : Rg) (x1 : Int32) : Option (Int32) :=
  (fX7_isSheet x1).bind fun r1 =>
  if r1 = 0 then
    some (-3)
  else
    (fX0_placeOf v_archive_pieces x1).bind fun r12 =>
    some r12
set_option maxRecDepth 100000 in
set_option maxHeartbeats 4000000 in
theorem tX7_where {l : Launch} {D : va_G} {cI : ClassId} {cS : GS} {a : Nat → Nat} {a_archive : Nat → Nat} {a_history : Nat → Nat} {a_planner : Nat → Nat} {a_rows : Nat → Nat} {a_text : Nat → Nat} {a_page : Nat → Nat} {a_draft : Nat → Nat} {a_archive_series : Nat → Nat} {a_archive_pieces : Nat → Nat} {a_archive_trial : Nat → Nat} {a_archive_moves : Nat → Nat} {g_archive_day : Int32} {v_archive_pieces : Rg} {x1 : Int32} {s0 : Int32} (h : fX7_where v_archive_pieces x1 = some s0) : CT l D cI cS yX7_where cX7_where 2 (some .int) rmX7_where [.ref (a 0), .int x1] [oX7 a a_archive a_history a_planner a_rows a_text a_page a_draft, oX0 a_archive a_archive_series a_archive_pieces a_archive_trial a_archive_moves g_archive_day, cR cI a_archive_pieces 42 v_archive_pieces] (some (.int s0)) [oX7 a a_archive a_history a_planner a_rows a_text a_page a_draft, oX0 a_archive a_archive_series a_archive_pieces a_archive_trial a_archive_moves g_archive_day, cR cI a_archive_pieces 42 v_archive_pieces] := by
  refine CT.of RX7 (by decide) rfl (Nat.le_of_ble_eq_true rfl) (fun p e s m below meth c ls A C hA hl hw => ?_)
  have hx := C.1.1
  have hb := C.1.2.1
  have hl : lv_has ls 2 [(0, .ref (a 0)), (1, .int x1)] := hl
  unfold fX7_where at h
  refine lv_iload_n hx hb dX7_where_0 rfl (lv_at hl 1 rfl) ?_
  obtain ⟨r1, q1, h⟩ := bd h
  refine k_callS (nC := 3) [oX7 a a_archive a_history a_planner a_rows a_text a_page a_draft, oX0 a_archive a_archive_series a_archive_pieces a_archive_trial a_archive_moves g_archive_day, cR cI a_archive_pieces 42 v_archive_pieces] C hl.1 (tX7_isSheet q1) mL_X7_221 mmX7_isSheet rfl rfl ⟨Nat.le_of_ble_eq_true rfl, Nat.le_of_ble_eq_true rfl⟩ rfl rfl (Nat.le_of_ble_eq_true rfl) hA hw [] [0, 1, 2] rfl (by decide +kernel) rfl rfl rfl rfl dX7_where_1 (fun H locs hw1 => ?_)
  refine lv_if_eq (tgt := 18) hx hb dX7_where_4 (by decide) (fun c4 => ?_) (fun c4 => ?_)
  · replace h := br_t' h c4
    refine lv_bipush (v := (-3)) hx hb dX7_where_18 (by decide) ?_
    cases h
    exact k_iret C hw1 dX7_where_20
  · replace h := br_f' h c4
    refine lv_aload_n hx hb dX7_where_7 rfl (lv_at hl 0 rfl) ?_
    refine k_get C inT_X7 hw1 0 rfl rfl 0 (by decide) mF_X7_12 rfl dX7_where_8 ?_
    refine lv_iload_n hx hb dX7_where_11 rfl (lv_at hl 1 rfl) ?_
    obtain ⟨r12, q12, h⟩ := bd h
    refine k_callV (nC := 3) [oX7 a a_archive a_history a_planner a_rows a_text a_page a_draft, oX0 a_archive a_archive_series a_archive_pieces a_archive_trial a_archive_moves g_archive_day, cR cI a_archive_pieces 42 v_archive_pieces] C hl.1 (tX0_placeOf (a := a_archive) (a_series := a_archive_series) (a_pieces := a_archive_pieces) (a_trial := a_archive_trial) (a_moves := a_archive_moves) q12) mL_X7_227 mmX0_placeOf rfl rfl ⟨Nat.le_of_ble_eq_true rfl, Nat.le_of_ble_eq_true rfl⟩ rfl rfl rfl rfl (Nat.le_of_ble_eq_true rfl) hA hw1 [1, 2] [0] rfl (by decide +kernel) rfl rfl rfl rfl dX7_where_12 (fun H locs hw12 => ?_)
    refine lv_goto (tgt := 20) hx hb dX7_where_15 (by decide) ?_
    cases h
    exact k_iret C hw12 dX7_where_20
def rmX7_was : Room := { frames := 3, cells := 0, slots := 0, locals := 65 }
def fX7_was (g_archive_moveDays : Nat → Int32) (v_archive_moves : Rg) (x1 : Int32) (x2 : Int32) : Option (Int32) :=
  (fX7_isSheet x1).bind fun r1 =>
  if r1 = 0 then
    some (-3)
  else
    if x2 < 0 then
      some (-3)
    else
      (fX0_placeOn g_archive_moveDays v_archive_moves x1 x2).bind fun r17 =>
      some r17
set_option maxRecDepth 100000 in
set_option maxHeartbeats 4000000 in
theorem tX7_was {l : Launch} {D : va_G} {cI : ClassId} {cS : GS} {a : Nat → Nat} {a_archive : Nat → Nat} {a_history : Nat → Nat} {a_planner : Nat → Nat} {a_rows : Nat → Nat} {a_text : Nat → Nat} {a_page : Nat → Nat} {a_draft : Nat → Nat} {a_archive_series : Nat → Nat} {a_archive_pieces : Nat → Nat} {a_archive_trial : Nat → Nat} {a_archive_moves : Nat → Nat} {g_archive_moveDays : Nat → Int32} {g_archive_day : Int32} {v_archive_moves : Rg} {x1 : Int32} {x2 : Int32} {s0 : Int32} (h : fX7_was g_archive_moveDays v_archive_moves x1 x2 = some s0) : CT l D cI cS yX7_was cX7_was 3 (some .int) rmX7_was [.ref (a 0), .int x1, .int x2] [oX7 a a_archive a_history a_planner a_rows a_text a_page a_draft, oX0 a_archive a_archive_series a_archive_pieces a_archive_trial a_archive_moves g_archive_day, ar cI (a_archive 6) 100 g_archive_moveDays, cR cI a_archive_moves 100 v_archive_moves] (some (.int s0)) [oX7 a a_archive a_history a_planner a_rows a_text a_page a_draft, oX0 a_archive a_archive_series a_archive_pieces a_archive_trial a_archive_moves g_archive_day, ar cI (a_archive 6) 100 g_archive_moveDays, cR cI a_archive_moves 100 v_archive_moves] := by
  refine CT.of RX7 (by decide) rfl (Nat.le_of_ble_eq_true rfl) (fun p e s m below meth c ls A C hA hl hw => ?_)
  have hx := C.1.1
  have hb := C.1.2.1
  have hl : lv_has ls 3 [(0, .ref (a 0)), (1, .int x1), (2, .int x2)] := hl
  unfold fX7_was at h
  refine lv_iload_n hx hb dX7_was_0 rfl (lv_at hl 1 rfl) ?_
  obtain ⟨r1, q1, h⟩ := bd h
  refine k_callS (nC := 4) [oX7 a a_archive a_history a_planner a_rows a_text a_page a_draft, oX0 a_archive a_archive_series a_archive_pieces a_archive_trial a_archive_moves g_archive_day, ar cI (a_archive 6) 100 g_archive_moveDays, cR cI a_archive_moves 100 v_archive_moves] C hl.1 (tX7_isSheet q1) mL_X7_221 mmX7_isSheet rfl rfl ⟨Nat.le_of_ble_eq_true rfl, Nat.le_of_ble_eq_true rfl⟩ rfl rfl (Nat.le_of_ble_eq_true rfl) hA hw [] [0, 1, 2, 3] rfl (by decide +kernel) rfl rfl rfl rfl dX7_was_1 (fun H locs hw1 => ?_)
  refine lv_if_eq (tgt := 23) hx hb dX7_was_4 (by decide) (fun c4 => ?_) (fun c4 => ?_)
  · replace h := br_t' h c4
    refine lv_bipush (v := (-3)) hx hb dX7_was_23 (by decide) ?_
    cases h
    exact k_iret C hw1 dX7_was_25
  · replace h := br_f' h c4
    refine lv_iload_n hx hb dX7_was_7 rfl (lv_at hl 2 rfl) ?_
    refine lv_if_lt (tgt := 23) hx hb dX7_was_8 (by decide) (fun c8 => ?_) (fun c8 => ?_)
    · replace h := br_t' h c8
      refine lv_bipush (v := (-3)) hx hb dX7_was_23 (by decide) ?_
      cases h
      exact k_iret C hw1 dX7_was_25
    · replace h := br_f' h c8
      refine lv_aload_n hx hb dX7_was_11 rfl (lv_at hl 0 rfl) ?_
      refine k_get C inT_X7 hw1 0 rfl rfl 0 (by decide) mF_X7_12 rfl dX7_was_12 ?_
      refine lv_iload_n hx hb dX7_was_15 rfl (lv_at hl 1 rfl) ?_
      refine lv_iload_n hx hb dX7_was_16 rfl (lv_at hl 2 rfl) ?_
      obtain ⟨r17, q17, h⟩ := bd h
      refine k_callV (nC := 4) [oX7 a a_archive a_history a_planner a_rows a_text a_page a_draft, oX0 a_archive a_archive_series a_archive_pieces a_archive_trial a_archive_moves g_archive_day, ar cI (a_archive 6) 100 g_archive_moveDays, cR cI a_archive_moves 100 v_archive_moves] C hl.1 (tX0_placeOn (a := a_archive) (a_series := a_archive_series) (a_pieces := a_archive_pieces) (a_trial := a_archive_trial) (a_moves := a_archive_moves) q17) mL_X7_230 mmX0_placeOn rfl rfl ⟨Nat.le_of_ble_eq_true rfl, Nat.le_of_ble_eq_true rfl⟩ rfl rfl rfl rfl (Nat.le_of_ble_eq_true rfl) hA hw1 [1, 2, 3] [0] rfl (by decide +kernel) rfl rfl rfl rfl dX7_was_17 (fun H locs hw17 => ?_)
      refine lv_goto (tgt := 25) hx hb dX7_was_20 (by decide) ?_
      cases h
      exact k_iret C hw17 dX7_was_25
def rmX7_move : Room := { frames := 2, cells := 0, slots := 0, locals := 42 }
def fX7_move (g_archive_moveDays : Nat → Int32) (v_archive_moves : Rg) (x1 : Int32) (x2 : Int32) : Option (Int32) :=
  (fX0_moves).bind fun r4 =>
  (fX4_has 100 v_archive_moves x1).bind fun r10 =>
  if r10 = 0 then
    some (-2)
  else
    if x2 = 0 then
      (fX0_dayOf g_archive_moveDays x1).bind fun r57 =>
      some r57
    else
    if x2 = 1 then
      (fX4_firstOf 100 v_archive_moves x1).bind fun r63 =>
      some r63
    else
    if x2 = 2 then
      (fX4_lastOf 100 v_archive_moves x1).bind fun r69 =>
      some r69
    else
    if x2 = 3 then
      (fX4_markOf 100 v_archive_moves x1).bind fun r75 =>
      some r75
    else
      some (-3)
set_option maxRecDepth 100000 in
set_option maxHeartbeats 4000000 in
theorem tX7_move {l : Launch} {D : va_G} {cI : ClassId} {cS : GS} {a : Nat → Nat} {a_archive : Nat → Nat} {a_history : Nat → Nat} {a_planner : Nat → Nat} {a_rows : Nat → Nat} {a_text : Nat → Nat} {a_page : Nat → Nat} {a_draft : Nat → Nat} {a_archive_series : Nat → Nat} {a_archive_pieces : Nat → Nat} {a_archive_trial : Nat → Nat} {a_archive_moves : Nat → Nat} {g_archive_moveDays : Nat → Int32} {g_archive_day : Int32} {v_archive_moves : Rg} {x1 : Int32} {x2 : Int32} {s0 : Int32} (h : fX7_move g_archive_moveDays v_archive_moves x1 x2 = some s0) : CT l D cI cS yX7_move cX7_move 4 (some .int) rmX7_move [.ref (a 0), .int x1, .int x2] [oX7 a a_archive a_history a_planner a_rows a_text a_page a_draft, oX0 a_archive a_archive_series a_archive_pieces a_archive_trial a_archive_moves g_archive_day, ar cI (a_archive 6) 100 g_archive_moveDays, cR cI a_archive_moves 100 v_archive_moves] (some (.int s0)) [oX7 a a_archive a_history a_planner a_rows a_text a_page a_draft, oX0 a_archive a_archive_series a_archive_pieces a_archive_trial a_archive_moves g_archive_day, ar cI (a_archive 6) 100 g_archive_moveDays, cR cI a_archive_moves 100 v_archive_moves] := by
  refine CT.of RX7 (by decide) rfl (Nat.le_of_ble_eq_true rfl) (fun p e s m below meth c ls A C hA hl hw => ?_)
  have hx := C.1.1
  have hb := C.1.2.1
  have hl : lv_has ls 4 [(0, .ref (a 0)), (1, .int x1), (2, .int x2)] := hl
  unfold fX7_move at h
  refine lv_aload_n hx hb dX7_move_0 rfl (lv_at hl 0 rfl) ?_
  refine k_get C inT_X7 hw 0 rfl rfl 0 (by decide) mF_X7_12 rfl dX7_move_1 ?_
  obtain ⟨r4, q4, h⟩ := bd h
  refine k_callV (nC := 4) [oX7 a a_archive a_history a_planner a_rows a_text a_page a_draft, oX0 a_archive a_archive_series a_archive_pieces a_archive_trial a_archive_moves g_archive_day, ar cI (a_archive 6) 100 g_archive_moveDays, cR cI a_archive_moves 100 v_archive_moves] C hl.1 (tX0_moves (a := a_archive) (a_series := a_archive_series) (a_pieces := a_archive_pieces) (a_trial := a_archive_trial) (a_moves := a_archive_moves) q4) mL_X7_233 mmX0_moves rfl rfl ⟨Nat.le_of_ble_eq_true rfl, Nat.le_of_ble_eq_true rfl⟩ rfl rfl rfl rfl (Nat.le_of_ble_eq_true rfl) hA hw [1] [0, 2, 3] rfl (by decide +kernel) rfl rfl rfl rfl dX7_move_4 (fun H locs hw4 => ?_)
  refine lv_astore_n (lv' := [(3, .ref (a_archive_moves 0)), (0, .ref (a 0)), (1, .int x1), (2, .int x2)]) hx hb dX7_move_7 rfl hl (by decide) rfl (fun ls hl => ?_)
  refine lv_aload_n hx hb dX7_move_8 rfl (lv_at hl 0 rfl) ?_
  refine lv_iload_n hx hb dX7_move_9 rfl (lv_at hl 2 rfl) ?_
  obtain ⟨r10, q10, h⟩ := bd h
  refine k_callV (nC := 4) [oX7 a a_archive a_history a_planner a_rows a_text a_page a_draft, oX0 a_archive a_archive_series a_archive_pieces a_archive_trial a_archive_moves g_archive_day, ar cI (a_archive 6) 100 g_archive_moveDays, cR cI a_archive_moves 100 v_archive_moves] C hl.1 (tX4_has (a := a_archive_moves) q10) mL_X7_208 mmX4_has rfl rfl ⟨Nat.le_of_ble_eq_true rfl, Nat.le_of_ble_eq_true rfl⟩ rfl rfl rfl rfl (Nat.le_of_ble_eq_true rfl) hA hw4 [3] [0, 1, 2] rfl (by decide +kernel) rfl rfl rfl rfl dX7_move_10 (fun H locs hw10 => ?_)
  refine lv_if_ne (tgt := 19) hx hb dX7_move_13 (by decide) (fun c13 => ?_) (fun c13 => ?_)
  · replace h := br_f' h c13
    refine lv_iload_n hx hb dX7_move_19 rfl (lv_at hl 3 rfl) ?_
    by_cases c20_0 : x2 = 0
    · replace h := br_t' h c20_0
      refine lv_tableIn (tgt := 52) hx hb dX7_move_20 (by rw [c20_0]; decide) (by rw [c20_0]; decide) (off := 32) (by rw [c20_0]; decide) (by decide) ?_
      refine lv_aload_n hx hb dX7_move_52 rfl (lv_at hl 1 rfl) ?_
      refine k_get C inT_X7 hw10 0 rfl rfl 0 (by decide) mF_X7_12 rfl dX7_move_53 ?_
      refine lv_iload_n hx hb dX7_move_56 rfl (lv_at hl 2 rfl) ?_
      obtain ⟨r57, q57, h⟩ := bd h
      refine k_callV (nC := 4) [oX7 a a_archive a_history a_planner a_rows a_text a_page a_draft, oX0 a_archive a_archive_series a_archive_pieces a_archive_trial a_archive_moves g_archive_day, ar cI (a_archive 6) 100 g_archive_moveDays, cR cI a_archive_moves 100 v_archive_moves] C hl.1 (tX0_dayOf (a := a_archive) (a_series := a_archive_series) (a_pieces := a_archive_pieces) (a_trial := a_archive_trial) (a_moves := a_archive_moves) q57) mL_X7_236 mmX0_dayOf rfl rfl ⟨Nat.le_of_ble_eq_true rfl, Nat.le_of_ble_eq_true rfl⟩ rfl rfl rfl rfl (Nat.le_of_ble_eq_true rfl) hA hw10 [1, 2] [0, 3] rfl (by decide +kernel) rfl rfl rfl rfl dX7_move_57 (fun H locs hw57 => ?_)
      cases h
      exact k_iret C hw57 dX7_move_60
    replace h := br_f' h c20_0
    by_cases c20_1 : x2 = 1
    · replace h := br_t' h c20_1
      refine lv_tableIn (tgt := 61) hx hb dX7_move_20 (by rw [c20_1]; decide) (by rw [c20_1]; decide) (off := 41) (by rw [c20_1]; decide) (by decide) ?_
      refine lv_aload_n hx hb dX7_move_61 rfl (lv_at hl 0 rfl) ?_
      refine lv_iload_n hx hb dX7_move_62 rfl (lv_at hl 2 rfl) ?_
      obtain ⟨r63, q63, h⟩ := bd h
      refine k_callV (nC := 4) [oX7 a a_archive a_history a_planner a_rows a_text a_page a_draft, oX0 a_archive a_archive_series a_archive_pieces a_archive_trial a_archive_moves g_archive_day, ar cI (a_archive 6) 100 g_archive_moveDays, cR cI a_archive_moves 100 v_archive_moves] C hl.1 (tX4_firstOf (a := a_archive_moves) q63) mL_X7_215 mmX4_firstOf rfl rfl ⟨Nat.le_of_ble_eq_true rfl, Nat.le_of_ble_eq_true rfl⟩ rfl rfl rfl rfl (Nat.le_of_ble_eq_true rfl) hA hw10 [3] [0, 1, 2] rfl (by decide +kernel) rfl rfl rfl rfl dX7_move_63 (fun H locs hw63 => ?_)
      cases h
      exact k_iret C hw63 dX7_move_66
    replace h := br_f' h c20_1
    by_cases c20_2 : x2 = 2
    · replace h := br_t' h c20_2
      refine lv_tableIn (tgt := 67) hx hb dX7_move_20 (by rw [c20_2]; decide) (by rw [c20_2]; decide) (off := 47) (by rw [c20_2]; decide) (by decide) ?_
      refine lv_aload_n hx hb dX7_move_67 rfl (lv_at hl 0 rfl) ?_
      refine lv_iload_n hx hb dX7_move_68 rfl (lv_at hl 2 rfl) ?_
      obtain ⟨r69, q69, h⟩ := bd h
      refine k_callV (nC := 4) [oX7 a a_archive a_history a_planner a_rows a_text a_page a_draft, oX0 a_archive a_archive_series a_archive_pieces a_archive_trial a_archive_moves g_archive_day, ar cI (a_archive 6) 100 g_archive_moveDays, cR cI a_archive_moves 100 v_archive_moves] C hl.1 (tX4_lastOf (a := a_archive_moves) q69) mL_X7_218 mmX4_lastOf rfl rfl ⟨Nat.le_of_ble_eq_true rfl, Nat.le_of_ble_eq_true rfl⟩ rfl rfl rfl rfl (Nat.le_of_ble_eq_true rfl) hA hw10 [3] [0, 1, 2] rfl (by decide +kernel) rfl rfl rfl rfl dX7_move_69 (fun H locs hw69 => ?_)
      cases h
      exact k_iret C hw69 dX7_move_72
    replace h := br_f' h c20_2
    by_cases c20_3 : x2 = 3
    · replace h := br_t' h c20_3
      refine lv_tableIn (tgt := 73) hx hb dX7_move_20 (by rw [c20_3]; decide) (by rw [c20_3]; decide) (off := 53) (by rw [c20_3]; decide) (by decide) ?_
      refine lv_aload_n hx hb dX7_move_73 rfl (lv_at hl 0 rfl) ?_
      refine lv_iload_n hx hb dX7_move_74 rfl (lv_at hl 2 rfl) ?_
      obtain ⟨r75, q75, h⟩ := bd h
      refine k_callV (nC := 4) [oX7 a a_archive a_history a_planner a_rows a_text a_page a_draft, oX0 a_archive a_archive_series a_archive_pieces a_archive_trial a_archive_moves g_archive_day, ar cI (a_archive 6) 100 g_archive_moveDays, cR cI a_archive_moves 100 v_archive_moves] C hl.1 (tX4_markOf (a := a_archive_moves) q75) mL_X7_239 mmX4_markOf rfl rfl ⟨Nat.le_of_ble_eq_true rfl, Nat.le_of_ble_eq_true rfl⟩ rfl rfl rfl rfl (Nat.le_of_ble_eq_true rfl) hA hw10 [3] [0, 1, 2] rfl (by decide +kernel) rfl rfl rfl rfl dX7_move_75 (fun H locs hw75 => ?_)
      cases h
      exact k_iret C hw75 dX7_move_78
    replace h := br_f' h c20_3
    refine lv_tableOut (tgt := 79) hx hb dX7_move_20 (by have t0 := ti_ne (i := 0) c20_0 (by decide); have t1 := ti_ne (i := 1) c20_1 (by decide); have t2 := ti_ne (i := 2) c20_2 (by decide); have t3 := ti_ne (i := 3) c20_3 (by decide); omega) (by decide) ?_
    refine lv_bipush (v := (-3)) hx hb dX7_move_79 (by decide) ?_
    cases h
    exact k_iret C hw10 dX7_move_81
  · replace h := br_t' h c13
    refine lv_bipush (v := (-2)) hx hb dX7_move_16 (by decide) ?_
    cases h
    exact k_iret C hw10 dX7_move_18
def rmX7_trail : Room := { frames := 3, cells := 0, slots := 0, locals := 67 }
def fX7_trail (v_archive_moves : Rg) (x1 : Int32) (x2 : Int32) : Option (Int32) :=
  (fX7_isSheet x1).bind fun r1 =>
  if r1 = 0 then
    some (-3)
  else
    if (-1) ≤ x2 then
      (fX0_trailOf v_archive_moves x1 x2).bind fun r21 =>
      some r21
    else
      some (-3)
set_option maxRecDepth 100000 in
set_option maxHeartbeats 4000000 in
theorem tX7_trail {l : Launch} {D : va_G} {cI : ClassId} {cS : GS} {a : Nat → Nat} {a_archive : Nat → Nat} {a_history : Nat → Nat} {a_planner : Nat → Nat} {a_rows : Nat → Nat} {a_text : Nat → Nat} {a_page : Nat → Nat} {a_draft : Nat → Nat} {a_archive_series : Nat → Nat} {a_archive_pieces : Nat → Nat} {a_archive_trial : Nat → Nat} {a_archive_moves : Nat → Nat} {g_archive_day : Int32} {v_archive_moves : Rg} {x1 : Int32} {x2 : Int32} {s0 : Int32} (h : fX7_trail v_archive_moves x1 x2 = some s0) : CT l D cI cS yX7_trail cX7_trail 3 (some .int) rmX7_trail [.ref (a 0), .int x1, .int x2] [oX7 a a_archive a_history a_planner a_rows a_text a_page a_draft, oX0 a_archive a_archive_series a_archive_pieces a_archive_trial a_archive_moves g_archive_day, cR cI a_archive_moves 100 v_archive_moves] (some (.int s0)) [oX7 a a_archive a_history a_planner a_rows a_text a_page a_draft, oX0 a_archive a_archive_series a_archive_pieces a_archive_trial a_archive_moves g_archive_day, cR cI a_archive_moves 100 v_archive_moves] := by
  refine CT.of RX7 (by decide) rfl (Nat.le_of_ble_eq_true rfl) (fun p e s m below meth c ls A C hA hl hw => ?_)
  have hx := C.1.1
  have hb := C.1.2.1
  have hl : lv_has ls 3 [(0, .ref (a 0)), (1, .int x1), (2, .int x2)] := hl
  unfold fX7_trail at h
  refine lv_iload_n hx hb dX7_trail_0 rfl (lv_at hl 1 rfl) ?_
  obtain ⟨r1, q1, h⟩ := bd h
  refine k_callS (nC := 3) [oX7 a a_archive a_history a_planner a_rows a_text a_page a_draft, oX0 a_archive a_archive_series a_archive_pieces a_archive_trial a_archive_moves g_archive_day, cR cI a_archive_moves 100 v_archive_moves] C hl.1 (tX7_isSheet q1) mL_X7_221 mmX7_isSheet rfl rfl ⟨Nat.le_of_ble_eq_true rfl, Nat.le_of_ble_eq_true rfl⟩ rfl rfl (Nat.le_of_ble_eq_true rfl) hA hw [] [0, 1, 2] rfl (by decide +kernel) rfl rfl rfl rfl dX7_trail_1 (fun H locs hw1 => ?_)
  refine lv_if_eq (tgt := 12) hx hb dX7_trail_4 (by decide) (fun c4 => ?_) (fun c4 => ?_)
  · replace h := br_t' h c4
    refine lv_bipush (v := (-3)) hx hb dX7_trail_12 (by decide) ?_
    cases h
    exact k_iret C hw1 dX7_trail_14
  · replace h := br_f' h c4
    refine lv_iload_n hx hb dX7_trail_7 rfl (lv_at hl 2 rfl) ?_
    refine lv_iconst (v := (-1)) hx hb dX7_trail_8 (by decide) ?_
    refine lv_icmp_ge (tgt := 15) hx hb dX7_trail_9 (by decide) (fun c9 => ?_) (fun c9 => ?_)
    · replace h := br_t' h c9
      refine lv_aload_n hx hb dX7_trail_15 rfl (lv_at hl 0 rfl) ?_
      refine k_get C inT_X7 hw1 0 rfl rfl 0 (by decide) mF_X7_12 rfl dX7_trail_16 ?_
      refine lv_iload_n hx hb dX7_trail_19 rfl (lv_at hl 1 rfl) ?_
      refine lv_iload_n hx hb dX7_trail_20 rfl (lv_at hl 2 rfl) ?_
      obtain ⟨r21, q21, h⟩ := bd h
      refine k_callV (nC := 3) [oX7 a a_archive a_history a_planner a_rows a_text a_page a_draft, oX0 a_archive a_archive_series a_archive_pieces a_archive_trial a_archive_moves g_archive_day, cR cI a_archive_moves 100 v_archive_moves] C hl.1 (tX0_trailOf (a := a_archive) (a_series := a_archive_series) (a_pieces := a_archive_pieces) (a_trial := a_archive_trial) (a_moves := a_archive_moves) q21) mL_X7_242 mmX0_trailOf rfl rfl ⟨Nat.le_of_ble_eq_true rfl, Nat.le_of_ble_eq_true rfl⟩ rfl rfl rfl rfl (Nat.le_of_ble_eq_true rfl) hA hw1 [1, 2] [0] rfl (by decide +kernel) rfl rfl rfl rfl dX7_trail_21 (fun H locs hw21 => ?_)
      cases h
      exact k_iret C hw21 dX7_trail_24
    · replace h := br_f' h c9
      refine lv_bipush (v := (-3)) hx hb dX7_trail_12 (by decide) ?_
      cases h
      exact k_iret C hw1 dX7_trail_14
def rmX7_addRow : Room := { frames := 2, cells := 0, slots := 0, locals := 41 }
def fX7_addRow (v_rows : Rg) (x1 : Int32) (x2 : Int32) (x3 : Int32) : Option (Int32 × Rg) :=
  (fX7_isBox x1).bind fun r1 =>
  if r1 = 0 then
    some ((-2), v_rows)
  else
    (fX7_isRange x2 x3).bind fun r12 =>
    if r12 = 0 then
      some ((-3), v_rows)
    else
      (fX4_add 12 v_rows x1 x2 x3).bind fun r28 =>
      if r28.1 = 0 then
        some ((-5), r28.2)
      else
        (fX4_size 12 r28.2).bind fun r38 =>
        some ((r38 - 1), r28.2)
set_option maxRecDepth 100000 in
set_option maxHeartbeats 4000000 in
theorem tX7_addRow {l : Launch} {D : va_G} {cI : ClassId} {cS : GS} {a : Nat → Nat} {a_archive : Nat → Nat} {a_history : Nat → Nat} {a_planner : Nat → Nat} {a_rows : Nat → Nat} {a_text : Nat → Nat} {a_page : Nat → Nat} {a_draft : Nat → Nat} {v_rows : Rg} {x1 : Int32} {x2 : Int32} {x3 : Int32} {s0 : Int32} {s1 : Rg} (h : fX7_addRow v_rows x1 x2 x3 = some (s0, s1)) : CT l D cI cS yX7_addRow cX7_addRow 4 (some .int) rmX7_addRow [.ref (a 0), .int x1, .int x2, .int x3] [oX7 a a_archive a_history a_planner a_rows a_text a_page a_draft, cR cI a_rows 12 v_rows] (some (.int s0)) [oX7 a a_archive a_history a_planner a_rows a_text a_page a_draft, cR cI a_rows 12 s1] := by
  refine CT.of RX7 (by decide) rfl (Nat.le_of_ble_eq_true rfl) (fun p e s m below meth c ls A C hA hl hw => ?_)
  have hx := C.1.1
  have hb := C.1.2.1
  have hl : lv_has ls 4 [(0, .ref (a 0)), (1, .int x1), (2, .int x2), (3, .int x3)] := hl
  unfold fX7_addRow at h
  refine lv_iload_n hx hb dX7_addRow_0 rfl (lv_at hl 1 rfl) ?_
  obtain ⟨r1, q1, h⟩ := bd h
  refine k_callS (nC := 2) [oX7 a a_archive a_history a_planner a_rows a_text a_page a_draft, cR cI a_rows 12 v_rows] C hl.1 (tX7_isBox q1) mL_X7_187 mmX7_isBox rfl rfl ⟨Nat.le_of_ble_eq_true rfl, Nat.le_of_ble_eq_true rfl⟩ rfl rfl (Nat.le_of_ble_eq_true rfl) hA hw [] [0, 1] rfl (by decide +kernel) rfl rfl rfl rfl dX7_addRow_1 (fun H locs hw1 => ?_)
  refine lv_if_ne (tgt := 10) hx hb dX7_addRow_4 (by decide) (fun c4 => ?_) (fun c4 => ?_)
  · replace h := br_f' h c4
    refine lv_iload_n hx hb dX7_addRow_10 rfl (lv_at hl 2 rfl) ?_
    refine lv_iload_n hx hb dX7_addRow_11 rfl (lv_at hl 3 rfl) ?_
    obtain ⟨r12, q12, h⟩ := bd h
    refine k_callS (nC := 2) [oX7 a a_archive a_history a_planner a_rows a_text a_page a_draft, cR cI a_rows 12 v_rows] C hl.1 (tX7_isRange q12) mL_X7_245 mmX7_isRange rfl rfl ⟨Nat.le_of_ble_eq_true rfl, Nat.le_of_ble_eq_true rfl⟩ rfl rfl (Nat.le_of_ble_eq_true rfl) hA hw1 [] [0, 1] rfl (by decide +kernel) rfl rfl rfl rfl dX7_addRow_12 (fun H locs hw12 => ?_)
    refine lv_if_ne (tgt := 21) hx hb dX7_addRow_15 (by decide) (fun c15 => ?_) (fun c15 => ?_)
    · replace h := br_f' h c15
      refine lv_aload_n hx hb dX7_addRow_21 rfl (lv_at hl 0 rfl) ?_
      refine k_get C inT_X7 hw12 0 rfl rfl 3 (by decide) mF_X7_35 rfl dX7_addRow_22 ?_
      refine lv_iload_n hx hb dX7_addRow_25 rfl (lv_at hl 1 rfl) ?_
      refine lv_iload_n hx hb dX7_addRow_26 rfl (lv_at hl 2 rfl) ?_
      refine lv_iload_n hx hb dX7_addRow_27 rfl (lv_at hl 3 rfl) ?_
      obtain ⟨r28, q28, h⟩ := bd h
      refine k_callV (nC := 2) [oX7 a a_archive a_history a_planner a_rows a_text a_page a_draft, cR cI a_rows 12 r28.2] C hl.1 (tX4_add (a := a_rows) q28) mL_X7_249 mmX4_add rfl rfl ⟨Nat.le_of_ble_eq_true rfl, Nat.le_of_ble_eq_true rfl⟩ rfl rfl rfl rfl (Nat.le_of_ble_eq_true rfl) hA hw12 [1] [0] rfl (by decide +kernel) rfl rfl rfl rfl dX7_addRow_28 (fun H locs hw28 => ?_)
      refine lv_if_eq (tgt := 46) hx hb dX7_addRow_31 (by decide) (fun c31 => ?_) (fun c31 => ?_)
      · replace h := br_t' h c31
        refine lv_bipush (v := (-5)) hx hb dX7_addRow_46 (by decide) ?_
        cases h
        exact k_iret C hw28 dX7_addRow_48
      · replace h := br_f' h c31
        refine lv_aload_n hx hb dX7_addRow_34 rfl (lv_at hl 0 rfl) ?_
        refine k_get C inT_X7 hw28 0 rfl rfl 3 (by decide) mF_X7_35 rfl dX7_addRow_35 ?_
        obtain ⟨r38, q38, h⟩ := bd h
        refine k_callV (nC := 2) [oX7 a a_archive a_history a_planner a_rows a_text a_page a_draft, cR cI a_rows 12 r28.2] C hl.1 (tX4_size (a := a_rows) q38) mL_X7_184 mmX4_size rfl rfl ⟨Nat.le_of_ble_eq_true rfl, Nat.le_of_ble_eq_true rfl⟩ rfl rfl rfl rfl (Nat.le_of_ble_eq_true rfl) hA hw28 [1] [0] rfl (by decide +kernel) rfl rfl rfl rfl dX7_addRow_38 (fun H locs hw38 => ?_)
        refine lv_iconst (v := 1) hx hb dX7_addRow_41 (by decide) ?_
        refine lv_isub hx hb dX7_addRow_42 ?_
        refine lv_goto (tgt := 48) hx hb dX7_addRow_43 (by decide) ?_
        cases h
        exact k_iret C hw38 dX7_addRow_48
    · replace h := br_t' h c15
      refine lv_bipush (v := (-3)) hx hb dX7_addRow_18 (by decide) ?_
      cases h
      exact k_iret C hw12 dX7_addRow_20
  · replace h := br_t' h c4
    refine lv_bipush (v := (-2)) hx hb dX7_addRow_7 (by decide) ?_
    cases h
    exact k_iret C hw1 dX7_addRow_9
def rmX7_row : Room := { frames := 3, cells := 0, slots := 0, locals := 64 }
def fX7_row (v_rows : Rg) (x1 : Int32) (x2 : Int32) (x3 : Int32) : Option (Int32 × Rg) :=
  (fX7_addRow v_rows x1 x2 x3).bind fun r4 =>
  some (r4.1, r4.2)
set_option maxRecDepth 100000 in
set_option maxHeartbeats 4000000 in
theorem tX7_row {l : Launch} {D : va_G} {cI : ClassId} {cS : GS} {a : Nat → Nat} {a_archive : Nat → Nat} {a_history : Nat → Nat} {a_planner : Nat → Nat} {a_rows : Nat → Nat} {a_text : Nat → Nat} {a_page : Nat → Nat} {a_draft : Nat → Nat} {v_rows : Rg} {x1 : Int32} {x2 : Int32} {x3 : Int32} {s0 : Int32} {s1 : Rg} (h : fX7_row v_rows x1 x2 x3 = some (s0, s1)) : CT l D cI cS yX7_row cX7_row 4 (some .int) rmX7_row [.ref (a 0), .int x1, .int x2, .int x3] [oX7 a a_archive a_history a_planner a_rows a_text a_page a_draft, cR cI a_rows 12 v_rows] (some (.int s0)) [oX7 a a_archive a_history a_planner a_rows a_text a_page a_draft, cR cI a_rows 12 s1] := by
  refine CT.of RX7 (by decide) rfl (Nat.le_of_ble_eq_true rfl) (fun p e s m below meth c ls A C hA hl hw => ?_)
  have hx := C.1.1
  have hb := C.1.2.1
  have hl : lv_has ls 4 [(0, .ref (a 0)), (1, .int x1), (2, .int x2), (3, .int x3)] := hl
  unfold fX7_row at h
  refine lv_aload_n hx hb dX7_row_0 rfl (lv_at hl 0 rfl) ?_
  refine lv_iload_n hx hb dX7_row_1 rfl (lv_at hl 1 rfl) ?_
  refine lv_iload_n hx hb dX7_row_2 rfl (lv_at hl 2 rfl) ?_
  refine lv_iload_n hx hb dX7_row_3 rfl (lv_at hl 3 rfl) ?_
  obtain ⟨r4, q4, h⟩ := bd h
  refine k_callV (nC := 2) [oX7 a a_archive a_history a_planner a_rows a_text a_page a_draft, cR cI a_rows 12 r4.2] C hl.1 (tX7_addRow (a := a) (a_archive := a_archive) (a_history := a_history) (a_planner := a_planner) (a_rows := a_rows) (a_text := a_text) (a_page := a_page) (a_draft := a_draft) q4) mL_X7_103 mmX7_addRow rfl rfl ⟨Nat.le_of_ble_eq_true rfl, Nat.le_of_ble_eq_true rfl⟩ rfl rfl rfl rfl (Nat.le_of_ble_eq_true rfl) hA hw [0, 1] [] rfl (by decide +kernel) rfl rfl rfl rfl dX7_row_4 (fun H locs hw4 => ?_)
  cases h
  exact k_iret C hw4 dX7_row_7
def rmX7_clear : Room := { frames := 1, cells := 0, slots := 0, locals := 21 }
def fX7_clear (v_rows : Rg) : Option (Int32 × Rg) :=
  (fX4_size 12 v_rows).bind fun r4 =>
  (fX4_cutTo 12 v_rows 0).bind fun r13 =>
  some (r4, r13)
set_option maxRecDepth 100000 in
set_option maxHeartbeats 4000000 in
theorem tX7_clear {l : Launch} {D : va_G} {cI : ClassId} {cS : GS} {a : Nat → Nat} {a_archive : Nat → Nat} {a_history : Nat → Nat} {a_planner : Nat → Nat} {a_rows : Nat → Nat} {a_text : Nat → Nat} {a_page : Nat → Nat} {a_draft : Nat → Nat} {v_rows : Rg}  {s0 : Int32} {s1 : Rg} (h : fX7_clear v_rows = some (s0, s1)) : CT l D cI cS yX7_clear cX7_clear 2 (some .int) rmX7_clear [.ref (a 0)] [oX7 a a_archive a_history a_planner a_rows a_text a_page a_draft, cR cI a_rows 12 v_rows] (some (.int s0)) [oX7 a a_archive a_history a_planner a_rows a_text a_page a_draft, cR cI a_rows 12 s1] := by
  refine CT.of RX7 (by decide) rfl (Nat.le_of_ble_eq_true rfl) (fun p e s m below meth c ls A C hA hl hw => ?_)
  have hx := C.1.1
  have hb := C.1.2.1
  have hl : lv_has ls 2 [(0, .ref (a 0))] := hl
  unfold fX7_clear at h
  refine lv_aload_n hx hb dX7_clear_0 rfl (lv_at hl 0 rfl) ?_
  refine k_get C inT_X7 hw 0 rfl rfl 3 (by decide) mF_X7_35 rfl dX7_clear_1 ?_
  obtain ⟨r4, q4, h⟩ := bd h
  refine k_callV (nC := 2) [oX7 a a_archive a_history a_planner a_rows a_text a_page a_draft, cR cI a_rows 12 v_rows] C hl.1 (tX4_size (a := a_rows) q4) mL_X7_184 mmX4_size rfl rfl ⟨Nat.le_of_ble_eq_true rfl, Nat.le_of_ble_eq_true rfl⟩ rfl rfl rfl rfl (Nat.le_of_ble_eq_true rfl) hA hw [1] [0] rfl (by decide +kernel) rfl rfl rfl rfl dX7_clear_4 (fun H locs hw4 => ?_)
  refine lv_istore_n (lv' := [(1, .int r4), (0, .ref (a 0))]) hx hb dX7_clear_7 rfl hl (by decide) rfl (fun ls hl => ?_)
  refine lv_aload_n hx hb dX7_clear_8 rfl (lv_at hl 1 rfl) ?_
  refine k_get C inT_X7 hw4 0 rfl rfl 3 (by decide) mF_X7_35 rfl dX7_clear_9 ?_
  refine lv_iconst (v := 0) hx hb dX7_clear_12 (by decide) ?_
  obtain ⟨r13, q13, h⟩ := bd h
  refine k_callV (nC := 2) [oX7 a a_archive a_history a_planner a_rows a_text a_page a_draft, cR cI a_rows 12 r13] C hl.1 (tX4_cutTo (a := a_rows) q13) mL_X7_112 mmX4_cutTo rfl rfl ⟨Nat.le_of_ble_eq_true rfl, Nat.le_of_ble_eq_true rfl⟩ rfl rfl rfl rfl (Nat.le_of_ble_eq_true rfl) hA hw4 [1] [0] rfl (by decide +kernel) rfl rfl rfl rfl dX7_clear_13 (fun H locs hw13 => ?_)
  refine lv_iload_n hx hb dX7_clear_16 rfl (lv_at hl 0 rfl) ?_
  cases h
  exact k_iret C hw13 dX7_clear_17
def rmX7_clash : Room := { frames := 2, cells := 0, slots := 0, locals := 42 }
def fX7_clash (v_rows : Rg) (x1 : Int32) (x2 : Int32) : Option (Int32) :=
  (fX4_markOf 12 v_rows x1).bind fun r5 =>
  (fX4_markOf 12 v_rows x2).bind fun r13 =>
  if r5 = r13 then
    some 0
  else
    (fX4_firstOf 12 v_rows x2).bind fun r29 =>
    (fX4_lastOf 12 v_rows x2).bind fun r37 =>
    (fX4_meets 12 v_rows x1 r29 r37).bind fun r40 =>
    if r40 = 0 then
      some 0
    else
      some 1
set_option maxRecDepth 100000 in
set_option maxHeartbeats 4000000 in
theorem tX7_clash {l : Launch} {D : va_G} {cI : ClassId} {cS : GS} {a : Nat → Nat} {a_archive : Nat → Nat} {a_history : Nat → Nat} {a_planner : Nat → Nat} {a_rows : Nat → Nat} {a_text : Nat → Nat} {a_page : Nat → Nat} {a_draft : Nat → Nat} {v_rows : Rg} {x1 : Int32} {x2 : Int32} {s0 : Int32} (h : fX7_clash v_rows x1 x2 = some s0) : CT l D cI cS yX7_clash cX7_clash 3 (some .boolean) rmX7_clash [.ref (a 0), .int x1, .int x2] [oX7 a a_archive a_history a_planner a_rows a_text a_page a_draft, cR cI a_rows 12 v_rows] (some (.int s0)) [oX7 a a_archive a_history a_planner a_rows a_text a_page a_draft, cR cI a_rows 12 v_rows] := by
  refine CT.of RX7 (by decide) rfl (Nat.le_of_ble_eq_true rfl) (fun p e s m below meth c ls A C hA hl hw => ?_)
  have hx := C.1.1
  have hb := C.1.2.1
  have hl : lv_has ls 3 [(0, .ref (a 0)), (1, .int x1), (2, .int x2)] := hl
  unfold fX7_clash at h
  refine lv_aload_n hx hb dX7_clash_0 rfl (lv_at hl 0 rfl) ?_
  refine k_get C inT_X7 hw 0 rfl rfl 3 (by decide) mF_X7_35 rfl dX7_clash_1 ?_
  refine lv_iload_n hx hb dX7_clash_4 rfl (lv_at hl 1 rfl) ?_
  obtain ⟨r5, q5, h⟩ := bd h
  refine k_callV (nC := 2) [oX7 a a_archive a_history a_planner a_rows a_text a_page a_draft, cR cI a_rows 12 v_rows] C hl.1 (tX4_markOf (a := a_rows) q5) mL_X7_239 mmX4_markOf rfl rfl ⟨Nat.le_of_ble_eq_true rfl, Nat.le_of_ble_eq_true rfl⟩ rfl rfl rfl rfl (Nat.le_of_ble_eq_true rfl) hA hw [1] [0] rfl (by decide +kernel) rfl rfl rfl rfl dX7_clash_5 (fun H locs hw5 => ?_)
  refine lv_aload_n hx hb dX7_clash_8 rfl (lv_at hl 0 rfl) ?_
  refine k_get C inT_X7 hw5 0 rfl rfl 3 (by decide) mF_X7_35 rfl dX7_clash_9 ?_
  refine lv_iload_n hx hb dX7_clash_12 rfl (lv_at hl 2 rfl) ?_
  obtain ⟨r13, q13, h⟩ := bd h
  refine k_callV (nC := 2) [oX7 a a_archive a_history a_planner a_rows a_text a_page a_draft, cR cI a_rows 12 v_rows] C hl.1 (tX4_markOf (a := a_rows) q13) mL_X7_239 mmX4_markOf rfl rfl ⟨Nat.le_of_ble_eq_true rfl, Nat.le_of_ble_eq_true rfl⟩ rfl rfl rfl rfl (Nat.le_of_ble_eq_true rfl) hA hw5 [1] [0] rfl (by decide +kernel) rfl rfl rfl rfl dX7_clash_13 (fun H locs hw13 => ?_)
  refine lv_icmp_eq (tgt := 50) hx hb dX7_clash_16 (by decide) (fun c16 => ?_) (fun c16 => ?_)
  · replace h := br_t' h c16
    refine lv_iconst (v := 0) hx hb dX7_clash_50 (by decide) ?_
    cases h
    exact k_zret (v := 0) C rfl hw13 dX7_clash_51
  · replace h := br_f' h c16
    refine lv_aload_n hx hb dX7_clash_19 rfl (lv_at hl 0 rfl) ?_
    refine k_get C inT_X7 hw13 0 rfl rfl 3 (by decide) mF_X7_35 rfl dX7_clash_20 ?_
    refine lv_iload_n hx hb dX7_clash_23 rfl (lv_at hl 1 rfl) ?_
    refine lv_aload_n hx hb dX7_clash_24 rfl (lv_at hl 0 rfl) ?_
    refine k_get C inT_X7 hw13 0 rfl rfl 3 (by decide) mF_X7_35 rfl dX7_clash_25 ?_
    refine lv_iload_n hx hb dX7_clash_28 rfl (lv_at hl 2 rfl) ?_
    obtain ⟨r29, q29, h⟩ := bd h
    refine k_callV (nC := 2) [oX7 a a_archive a_history a_planner a_rows a_text a_page a_draft, cR cI a_rows 12 v_rows] C hl.1 (tX4_firstOf (a := a_rows) q29) mL_X7_215 mmX4_firstOf rfl rfl ⟨Nat.le_of_ble_eq_true rfl, Nat.le_of_ble_eq_true rfl⟩ rfl rfl rfl rfl (Nat.le_of_ble_eq_true rfl) hA hw13 [1] [0] rfl (by decide +kernel) rfl rfl rfl rfl dX7_clash_29 (fun H locs hw29 => ?_)
    refine lv_aload_n hx hb dX7_clash_32 rfl (lv_at hl 0 rfl) ?_
    refine k_get C inT_X7 hw29 0 rfl rfl 3 (by decide) mF_X7_35 rfl dX7_clash_33 ?_
    refine lv_iload_n hx hb dX7_clash_36 rfl (lv_at hl 2 rfl) ?_
    obtain ⟨r37, q37, h⟩ := bd h
    refine k_callV (nC := 2) [oX7 a a_archive a_history a_planner a_rows a_text a_page a_draft, cR cI a_rows 12 v_rows] C hl.1 (tX4_lastOf (a := a_rows) q37) mL_X7_218 mmX4_lastOf rfl rfl ⟨Nat.le_of_ble_eq_true rfl, Nat.le_of_ble_eq_true rfl⟩ rfl rfl rfl rfl (Nat.le_of_ble_eq_true rfl) hA hw29 [1] [0] rfl (by decide +kernel) rfl rfl rfl rfl dX7_clash_37 (fun H locs hw37 => ?_)
    obtain ⟨r40, q40, h⟩ := bd h
    refine k_callV (nC := 2) [oX7 a a_archive a_history a_planner a_rows a_text a_page a_draft, cR cI a_rows 12 v_rows] C hl.1 (tX4_meets (a := a_rows) q40) mL_X7_259 mmX4_meets rfl rfl ⟨Nat.le_of_ble_eq_true rfl, Nat.le_of_ble_eq_true rfl⟩ rfl rfl rfl rfl (Nat.le_of_ble_eq_true rfl) hA hw37 [1] [0] rfl (by decide +kernel) rfl rfl rfl rfl dX7_clash_40 (fun H locs hw40 => ?_)
    refine lv_if_eq (tgt := 50) hx hb dX7_clash_43 (by decide) (fun c43 => ?_) (fun c43 => ?_)
    · replace h := br_t' h c43
      refine lv_iconst (v := 0) hx hb dX7_clash_50 (by decide) ?_
      cases h
      exact k_zret (v := 0) C rfl hw40 dX7_clash_51
    · replace h := br_f' h c43
      refine lv_iconst (v := 1) hx hb dX7_clash_46 (by decide) ?_
      refine lv_goto (tgt := 51) hx hb dX7_clash_47 (by decide) ?_
      cases h
      exact k_zret (v := 1) C rfl hw40 dX7_clash_51
def rmX7_lowestClash : Room := { frames := 3, cells := 0, slots := 0, locals := 64 }
def fX7_lowestClash_2 (v_rows : Rg) (x1 : Int32) : (n : Nat) → (k : Int32 → Option (Int32)) → Int32 → Option (Int32)
  | 0, _, _ => none
  | n + 1, k, x2 =>
    (fX4_size 12 v_rows).bind fun r7 =>
    if r7 ≤ x2 then
      k x2
    else
      (fX7_clash v_rows x1 x2).bind fun r16 =>
      if r16 = 0 then
        fX7_lowestClash_2 v_rows x1 n k (x2 + 1)
      else
        some x2
set_option maxRecDepth 100000 in
set_option maxHeartbeats 4000000 in
theorem wX7_lowestClash_2 {p : Program} {l : Launch} {e : Env} {s : State} {m : MethodId} {args : Array Value} {below : List Frame} {meth : Method} {c : Code} {D : va_G} {cI : ClassId} {cS : GS} {A : Nat → Prop} {a : Nat → Nat} {a_archive : Nat → Nat} {a_history : Nat → Nat} {a_planner : Nat → Nat} {a_rows : Nat → Nat} {a_text : Nat → Nat} {a_page : Nat → Nat} {a_draft : Nat → Nat} {v_rows : Rg} {x1 : Int32} (C : MC p s m args meth c D cI cS A RX7 cX7_lowestClash 3 (some .int)) (hA : ∀ q, s.heap.size ≤ q → A q) {s0 : Int32} (k : Int32 → Option (Int32)) (hk : ∀ (x2 : Int32) (H : Heap) (locs : List Loc) (ls : Array Slot), Wd D A s.heap H locs [oX7 a a_archive a_history a_planner a_rows a_text a_page a_draft, cR cI a_rows 12 v_rows] → lv_has ls 3 [(0, .ref (a 0)), (1, .int x1), (2, .int x2)] → k x2 = some s0 → W p l e rmX7_lowestClash s m args below meth c H locs 0 0 (KQ D A below args s (some (.int s0)) [oX7 a a_archive a_history a_planner a_rows a_text a_page a_draft, cR cI a_rows 12 v_rows]) (F0 m 30 ls [])) :
    ∀ (n : Nat) (x2 : Int32) (H : Heap) (locs : List Loc) (ls : Array Slot), Wd D A s.heap H locs [oX7 a a_archive a_history a_planner a_rows a_text a_page a_draft, cR cI a_rows 12 v_rows] → lv_has ls 3 [(0, .ref (a 0)), (1, .int x1), (2, .int x2)] → fX7_lowestClash_2 v_rows x1 n k x2 = some s0 → W p l e rmX7_lowestClash s m args below meth c H locs 0 0 (KQ D A below args s (some (.int s0)) [oX7 a a_archive a_history a_planner a_rows a_text a_page a_draft, cR cI a_rows 12 v_rows]) (F0 m 2 ls []) := by
  have hx := C.1.1
  have hb := C.1.2.1
  intro n
  induction n with
  | zero =>
    intro x2 H locs ls hw hl h
    rw [fX7_lowestClash_2] at h
    cases h
  | succ n ih =>
    intro x2 H locs ls hw hl h
    rw [fX7_lowestClash_2] at h
    refine lv_iload_n hx hb dX7_lowestClash_2 rfl (lv_at hl 2 rfl) ?_
    refine lv_aload_n hx hb dX7_lowestClash_3 rfl (lv_at hl 0 rfl) ?_
    refine k_get C inT_X7 hw 0 rfl rfl 3 (by decide) mF_X7_35 rfl dX7_lowestClash_4 ?_
    obtain ⟨r7, q7, h⟩ := bd h
    refine k_callV (nC := 2) [oX7 a a_archive a_history a_planner a_rows a_text a_page a_draft, cR cI a_rows 12 v_rows] C hl.1 (tX4_size (a := a_rows) q7) mL_X7_184 mmX4_size rfl rfl ⟨Nat.le_of_ble_eq_true rfl, Nat.le_of_ble_eq_true rfl⟩ rfl rfl rfl rfl (Nat.le_of_ble_eq_true rfl) hA hw [1] [0] rfl (by decide +kernel) rfl rfl rfl rfl dX7_lowestClash_7 (fun H locs hw7 => ?_)
    refine lv_icmp_ge (tgt := 30) hx hb dX7_lowestClash_10 (by decide) (fun c10 => ?_) (fun c10 => ?_)
    · replace h := br_t' h c10
      exact hk _ _ _ _ hw7 (lv_sub hl [0, 1, 2] rfl) h
    · replace h := br_f' h c10
      refine lv_aload_n hx hb dX7_lowestClash_13 rfl (lv_at hl 0 rfl) ?_
      refine lv_iload_n hx hb dX7_lowestClash_14 rfl (lv_at hl 1 rfl) ?_
      refine lv_iload_n hx hb dX7_lowestClash_15 rfl (lv_at hl 2 rfl) ?_
      obtain ⟨r16, q16, h⟩ := bd h
      refine k_callV (nC := 2) [oX7 a a_archive a_history a_planner a_rows a_text a_page a_draft, cR cI a_rows 12 v_rows] C hl.1 (tX7_clash (a := a) (a_archive := a_archive) (a_history := a_history) (a_planner := a_planner) (a_rows := a_rows) (a_text := a_text) (a_page := a_page) (a_draft := a_draft) q16) mL_X7_256 mmX7_clash rfl rfl ⟨Nat.le_of_ble_eq_true rfl, Nat.le_of_ble_eq_true rfl⟩ rfl rfl rfl rfl (Nat.le_of_ble_eq_true rfl) hA hw7 [0, 1] [] rfl (by decide +kernel) rfl rfl rfl rfl dX7_lowestClash_16 (fun H locs hw16 => ?_)
      refine lv_if_eq (tgt := 24) hx hb dX7_lowestClash_19 (by decide) (fun c19 => ?_) (fun c19 => ?_)
      · replace h := br_t' h c19
        refine lv_iinc (v := (x2 + 1)) (lv' := [(2, .int (x2 + 1)), (0, .ref (a 0)), (1, .int x1)]) hx hb dX7_lowestClash_24 hl (k := 2) rfl rfl (by decide) rfl (fun ls hl => ?_)
        refine lv_goto (tgt := 2) hx hb dX7_lowestClash_27 (by decide) ?_
        exact ih _ _ _ _ hw16 (lv_sub hl [1, 2, 0] rfl) h
      · replace h := br_f' h c19
        refine lv_iload_n hx hb dX7_lowestClash_22 rfl (lv_at hl 2 rfl) ?_
        cases h
        exact k_iret C hw16 dX7_lowestClash_23
def fX7_lowestClash (v_rows : Rg) (x1 : Int32) : Option (Int32) :=
  fX7_lowestClash_2 v_rows x1 FU (fun x2_2 =>
    some (-1)) 0
set_option maxRecDepth 100000 in
set_option maxHeartbeats 4000000 in
theorem tX7_lowestClash {l : Launch} {D : va_G} {cI : ClassId} {cS : GS} {a : Nat → Nat} {a_archive : Nat → Nat} {a_history : Nat → Nat} {a_planner : Nat → Nat} {a_rows : Nat → Nat} {a_text : Nat → Nat} {a_page : Nat → Nat} {a_draft : Nat → Nat} {v_rows : Rg} {x1 : Int32} {s0 : Int32} (h : fX7_lowestClash v_rows x1 = some s0) : CT l D cI cS yX7_lowestClash cX7_lowestClash 3 (some .int) rmX7_lowestClash [.ref (a 0), .int x1] [oX7 a a_archive a_history a_planner a_rows a_text a_page a_draft, cR cI a_rows 12 v_rows] (some (.int s0)) [oX7 a a_archive a_history a_planner a_rows a_text a_page a_draft, cR cI a_rows 12 v_rows] := by
  refine CT.of RX7 (by decide) rfl (Nat.le_of_ble_eq_true rfl) (fun p e s m below meth c ls A C hA hl hw => ?_)
  have hx := C.1.1
  have hb := C.1.2.1
  have hl : lv_has ls 3 [(0, .ref (a 0)), (1, .int x1)] := hl
  unfold fX7_lowestClash at h
  refine lv_iconst (v := 0) hx hb dX7_lowestClash_0 (by decide) ?_
  refine lv_istore_n (lv' := [(2, .int 0), (0, .ref (a 0)), (1, .int x1)]) hx hb dX7_lowestClash_1 rfl hl (by decide) rfl (fun ls hl => ?_)
  refine wX7_lowestClash_2 C hA _ (fun x2_2 H locs ls hw2x hl h => ?_) FU _ _ _ _ hw (lv_sub hl [1, 2, 0] rfl) h
  refine lv_iconst (v := (-1)) hx hb dX7_lowestClash_30 (by decide) ?_
  cases h
  exact k_iret C hw2x dX7_lowestClash_31
def rmX7_listed : Room := { frames := 4, cells := 0, slots := 0, locals := 86 }
def fX7_listed (v_archive_pieces : Rg) (v_rows : Rg) (x1 : Int32) (x2 : Int32) : Option (Int32) :=
  (fX4_has 12 v_rows x1).bind fun r5 =>
  if r5 = 0 then
    some (-2)
  else
    (fX4_markOf 12 v_rows x1).bind fun r19 =>
    (fX4_firstOf 12 v_rows x1).bind fun r28 =>
    (fX4_lastOf 12 v_rows x1).bind fun r38 =>
    if x2 = 0 then
      some r19
    else
    if x2 = 1 then
      some r28
    else
    if x2 = 2 then
      some r38
    else
    if x2 = 3 then
      (fX0_pieces).bind fun r96 =>
      (fX4_sheetsIn 42 v_archive_pieces r19 r28 r38).bind fun r104 =>
      some r104
    else
    if x2 = 4 then
      (fX0_pieces).bind fun r112 =>
      (fX4_sheetsIn 42 v_archive_pieces (-100) r28 r38).bind fun r121 =>
      (fX0_pieces).bind fun r128 =>
      (fX4_sheetsIn 42 v_archive_pieces r19 r28 r38).bind fun r136 =>
      some (r121 - r136)
    else
    if x2 = 5 then
      (fX7_lowestClash v_rows x1).bind fun r143 =>
      some r143
    else
      some (-3)
set_option maxRecDepth 100000 in
set_option maxHeartbeats 4000000 in
theorem tX7_listed {l : Launch} {D : va_G} {cI : ClassId} {cS : GS} {a : Nat → Nat} {a_archive : Nat → Nat} {a_history : Nat → Nat} {a_planner : Nat → Nat} {a_rows : Nat → Nat} {a_text : Nat → Nat} {a_page : Nat → Nat} {a_draft : Nat → Nat} {a_archive_series : Nat → Nat} {a_archive_pieces : Nat → Nat} {a_archive_trial : Nat → Nat} {a_archive_moves : Nat → Nat} {g_archive_day : Int32} {v_archive_pieces : Rg} {v_rows : Rg} {x1 : Int32} {x2 : Int32} {s0 : Int32} (h : fX7_listed v_archive_pieces v_rows x1 x2 = some s0) : CT l D cI cS yX7_listed cX7_listed 6 (some .int) rmX7_listed [.ref (a 0), .int x1, .int x2] [oX7 a a_archive a_history a_planner a_rows a_text a_page a_draft, oX0 a_archive a_archive_series a_archive_pieces a_archive_trial a_archive_moves g_archive_day, cR cI a_archive_pieces 42 v_archive_pieces, cR cI a_rows 12 v_rows] (some (.int s0)) [oX7 a a_archive a_history a_planner a_rows a_text a_page a_draft, oX0 a_archive a_archive_series a_archive_pieces a_archive_trial a_archive_moves g_archive_day, cR cI a_archive_pieces 42 v_archive_pieces, cR cI a_rows 12 v_rows] := by
  refine CT.of RX7 (by decide) rfl (Nat.le_of_ble_eq_true rfl) (fun p e s m below meth c ls A C hA hl hw => ?_)
  have hx := C.1.1
  have hb := C.1.2.1
  have hl : lv_has ls 6 [(0, .ref (a 0)), (1, .int x1), (2, .int x2)] := hl
  unfold fX7_listed at h
  refine lv_aload_n hx hb dX7_listed_0 rfl (lv_at hl 0 rfl) ?_
  refine k_get C inT_X7 hw 0 rfl rfl 3 (by decide) mF_X7_35 rfl dX7_listed_1 ?_
  refine lv_iload_n hx hb dX7_listed_4 rfl (lv_at hl 1 rfl) ?_
  obtain ⟨r5, q5, h⟩ := bd h
  refine k_callV (nC := 4) [oX7 a a_archive a_history a_planner a_rows a_text a_page a_draft, oX0 a_archive a_archive_series a_archive_pieces a_archive_trial a_archive_moves g_archive_day, cR cI a_archive_pieces 42 v_archive_pieces, cR cI a_rows 12 v_rows] C hl.1 (tX4_has (a := a_rows) q5) mL_X7_208 mmX4_has rfl rfl ⟨Nat.le_of_ble_eq_true rfl, Nat.le_of_ble_eq_true rfl⟩ rfl rfl rfl rfl (Nat.le_of_ble_eq_true rfl) hA hw [3] [0, 1, 2] rfl (by decide +kernel) rfl rfl rfl rfl dX7_listed_5 (fun H locs hw5 => ?_)
  refine lv_if_ne (tgt := 14) hx hb dX7_listed_8 (by decide) (fun c8 => ?_) (fun c8 => ?_)
  · replace h := br_f' h c8
    refine lv_aload_n hx hb dX7_listed_14 rfl (lv_at hl 0 rfl) ?_
    refine k_get C inT_X7 hw5 0 rfl rfl 3 (by decide) mF_X7_35 rfl dX7_listed_15 ?_
    refine lv_iload_n hx hb dX7_listed_18 rfl (lv_at hl 1 rfl) ?_
    obtain ⟨r19, q19, h⟩ := bd h
    refine k_callV (nC := 4) [oX7 a a_archive a_history a_planner a_rows a_text a_page a_draft, oX0 a_archive a_archive_series a_archive_pieces a_archive_trial a_archive_moves g_archive_day, cR cI a_archive_pieces 42 v_archive_pieces, cR cI a_rows 12 v_rows] C hl.1 (tX4_markOf (a := a_rows) q19) mL_X7_239 mmX4_markOf rfl rfl ⟨Nat.le_of_ble_eq_true rfl, Nat.le_of_ble_eq_true rfl⟩ rfl rfl rfl rfl (Nat.le_of_ble_eq_true rfl) hA hw5 [3] [0, 1, 2] rfl (by decide +kernel) rfl rfl rfl rfl dX7_listed_19 (fun H locs hw19 => ?_)
    refine lv_istore_n (lv' := [(3, .int r19), (0, .ref (a 0)), (1, .int x1), (2, .int x2)]) hx hb dX7_listed_22 rfl hl (by decide) rfl (fun ls hl => ?_)
    refine lv_aload_n hx hb dX7_listed_23 rfl (lv_at hl 1 rfl) ?_
    refine k_get C inT_X7 hw19 0 rfl rfl 3 (by decide) mF_X7_35 rfl dX7_listed_24 ?_
    refine lv_iload_n hx hb dX7_listed_27 rfl (lv_at hl 2 rfl) ?_
    obtain ⟨r28, q28, h⟩ := bd h
    refine k_callV (nC := 4) [oX7 a a_archive a_history a_planner a_rows a_text a_page a_draft, oX0 a_archive a_archive_series a_archive_pieces a_archive_trial a_archive_moves g_archive_day, cR cI a_archive_pieces 42 v_archive_pieces, cR cI a_rows 12 v_rows] C hl.1 (tX4_firstOf (a := a_rows) q28) mL_X7_215 mmX4_firstOf rfl rfl ⟨Nat.le_of_ble_eq_true rfl, Nat.le_of_ble_eq_true rfl⟩ rfl rfl rfl rfl (Nat.le_of_ble_eq_true rfl) hA hw19 [3] [0, 1, 2] rfl (by decide +kernel) rfl rfl rfl rfl dX7_listed_28 (fun H locs hw28 => ?_)
    refine lv_istore (lv' := [(4, .int r28), (3, .int r19), (0, .ref (a 0)), (1, .int x1), (2, .int x2)]) hx hb dX7_listed_31 hl (by decide) rfl (fun ls hl => ?_)
    refine lv_aload_n hx hb dX7_listed_33 rfl (lv_at hl 2 rfl) ?_
    refine k_get C inT_X7 hw28 0 rfl rfl 3 (by decide) mF_X7_35 rfl dX7_listed_34 ?_
    refine lv_iload_n hx hb dX7_listed_37 rfl (lv_at hl 3 rfl) ?_
    obtain ⟨r38, q38, h⟩ := bd h
    refine k_callV (nC := 4) [oX7 a a_archive a_history a_planner a_rows a_text a_page a_draft, oX0 a_archive a_archive_series a_archive_pieces a_archive_trial a_archive_moves g_archive_day, cR cI a_archive_pieces 42 v_archive_pieces, cR cI a_rows 12 v_rows] C hl.1 (tX4_lastOf (a := a_rows) q38) mL_X7_218 mmX4_lastOf rfl rfl ⟨Nat.le_of_ble_eq_true rfl, Nat.le_of_ble_eq_true rfl⟩ rfl rfl rfl rfl (Nat.le_of_ble_eq_true rfl) hA hw28 [3] [0, 1, 2] rfl (by decide +kernel) rfl rfl rfl rfl dX7_listed_38 (fun H locs hw38 => ?_)
    refine lv_istore (lv' := [(5, .int r38), (4, .int r28), (3, .int r19), (0, .ref (a 0)), (1, .int x1), (2, .int x2)]) hx hb dX7_listed_41 hl (by decide) rfl (fun ls hl => ?_)
    refine lv_iload_n hx hb dX7_listed_43 rfl (lv_at hl 5 rfl) ?_
    by_cases c44_0 : x2 = 0
    · replace h := br_t' h c44_0
      refine lv_tableIn (tgt := 84) hx hb dX7_listed_44 (by rw [c44_0]; decide) (by rw [c44_0]; decide) (off := 40) (by rw [c44_0]; decide) (by decide) ?_
      refine lv_iload_n hx hb dX7_listed_84 rfl (lv_at hl 2 rfl) ?_
      cases h
      exact k_iret C hw38 dX7_listed_85
    replace h := br_f' h c44_0
    by_cases c44_1 : x2 = 1
    · replace h := br_t' h c44_1
      refine lv_tableIn (tgt := 86) hx hb dX7_listed_44 (by rw [c44_1]; decide) (by rw [c44_1]; decide) (off := 42) (by rw [c44_1]; decide) (by decide) ?_
      refine lv_iload hx hb dX7_listed_86 (lv_at hl 1 rfl) ?_
      cases h
      exact k_iret C hw38 dX7_listed_88
    replace h := br_f' h c44_1
    by_cases c44_2 : x2 = 2
    · replace h := br_t' h c44_2
      refine lv_tableIn (tgt := 89) hx hb dX7_listed_44 (by rw [c44_2]; decide) (by rw [c44_2]; decide) (off := 45) (by rw [c44_2]; decide) (by decide) ?_
      refine lv_iload hx hb dX7_listed_89 (lv_at hl 0 rfl) ?_
      cases h
      exact k_iret C hw38 dX7_listed_91
    replace h := br_f' h c44_2
    by_cases c44_3 : x2 = 3
    · replace h := br_t' h c44_3
      refine lv_tableIn (tgt := 92) hx hb dX7_listed_44 (by rw [c44_3]; decide) (by rw [c44_3]; decide) (off := 48) (by rw [c44_3]; decide) (by decide) ?_
      refine lv_aload_n hx hb dX7_listed_92 rfl (lv_at hl 3 rfl) ?_
      refine k_get C inT_X7 hw38 0 rfl rfl 0 (by decide) mF_X7_12 rfl dX7_listed_93 ?_
      obtain ⟨r96, q96, h⟩ := bd h
      refine k_callV (nC := 4) [oX7 a a_archive a_history a_planner a_rows a_text a_page a_draft, oX0 a_archive a_archive_series a_archive_pieces a_archive_trial a_archive_moves g_archive_day, cR cI a_archive_pieces 42 v_archive_pieces, cR cI a_rows 12 v_rows] C hl.1 (tX0_pieces (a := a_archive) (a_series := a_archive_series) (a_pieces := a_archive_pieces) (a_trial := a_archive_trial) (a_moves := a_archive_moves) q96) mL_X7_169 mmX0_pieces rfl rfl ⟨Nat.le_of_ble_eq_true rfl, Nat.le_of_ble_eq_true rfl⟩ rfl rfl rfl rfl (Nat.le_of_ble_eq_true rfl) hA hw38 [1] [0, 2, 3] rfl (by decide +kernel) rfl rfl rfl rfl dX7_listed_96 (fun H locs hw96 => ?_)
      refine lv_iload_n hx hb dX7_listed_99 rfl (lv_at hl 2 rfl) ?_
      refine lv_iload hx hb dX7_listed_100 (lv_at hl 1 rfl) ?_
      refine lv_iload hx hb dX7_listed_102 (lv_at hl 0 rfl) ?_
      obtain ⟨r104, q104, h⟩ := bd h
      refine k_callV (nC := 4) [oX7 a a_archive a_history a_planner a_rows a_text a_page a_draft, oX0 a_archive a_archive_series a_archive_pieces a_archive_trial a_archive_moves g_archive_day, cR cI a_archive_pieces 42 v_archive_pieces, cR cI a_rows 12 v_rows] C hl.1 (tX4_sheetsIn (a := a_archive_pieces) q104) mL_X7_175 mmX4_sheetsIn rfl rfl ⟨Nat.le_of_ble_eq_true rfl, Nat.le_of_ble_eq_true rfl⟩ rfl rfl rfl rfl (Nat.le_of_ble_eq_true rfl) hA hw96 [2] [0, 1, 3] rfl (by decide +kernel) rfl rfl rfl rfl dX7_listed_104 (fun H locs hw104 => ?_)
      cases h
      exact k_iret C hw104 dX7_listed_107
    replace h := br_f' h c44_3
    by_cases c44_4 : x2 = 4
    · replace h := br_t' h c44_4
      refine lv_tableIn (tgt := 108) hx hb dX7_listed_44 (by rw [c44_4]; decide) (by rw [c44_4]; decide) (off := 64) (by rw [c44_4]; decide) (by decide) ?_
      refine lv_aload_n hx hb dX7_listed_108 rfl (lv_at hl 3 rfl) ?_
      refine k_get C inT_X7 hw38 0 rfl rfl 0 (by decide) mF_X7_12 rfl dX7_listed_109 ?_
      obtain ⟨r112, q112, h⟩ := bd h
      refine k_callV (nC := 4) [oX7 a a_archive a_history a_planner a_rows a_text a_page a_draft, oX0 a_archive a_archive_series a_archive_pieces a_archive_trial a_archive_moves g_archive_day, cR cI a_archive_pieces 42 v_archive_pieces, cR cI a_rows 12 v_rows] C hl.1 (tX0_pieces (a := a_archive) (a_series := a_archive_series) (a_pieces := a_archive_pieces) (a_trial := a_archive_trial) (a_moves := a_archive_moves) q112) mL_X7_169 mmX0_pieces rfl rfl ⟨Nat.le_of_ble_eq_true rfl, Nat.le_of_ble_eq_true rfl⟩ rfl rfl rfl rfl (Nat.le_of_ble_eq_true rfl) hA hw38 [1] [0, 2, 3] rfl (by decide +kernel) rfl rfl rfl rfl dX7_listed_112 (fun H locs hw112 => ?_)
      refine lv_bipush (v := (-100)) hx hb dX7_listed_115 (by decide) ?_
      refine lv_iload hx hb dX7_listed_117 (lv_at hl 1 rfl) ?_
      refine lv_iload hx hb dX7_listed_119 (lv_at hl 0 rfl) ?_
      obtain ⟨r121, q121, h⟩ := bd h
      refine k_callV (nC := 4) [oX7 a a_archive a_history a_planner a_rows a_text a_page a_draft, oX0 a_archive a_archive_series a_archive_pieces a_archive_trial a_archive_moves g_archive_day, cR cI a_archive_pieces 42 v_archive_pieces, cR cI a_rows 12 v_rows] C hl.1 (tX4_sheetsIn (a := a_archive_pieces) q121) mL_X7_175 mmX4_sheetsIn rfl rfl ⟨Nat.le_of_ble_eq_true rfl, Nat.le_of_ble_eq_true rfl⟩ rfl rfl rfl rfl (Nat.le_of_ble_eq_true rfl) hA hw112 [2] [0, 1, 3] rfl (by decide +kernel) rfl rfl rfl rfl dX7_listed_121 (fun H locs hw121 => ?_)
      refine lv_aload_n hx hb dX7_listed_124 rfl (lv_at hl 3 rfl) ?_
      refine k_get C inT_X7 hw121 0 rfl rfl 0 (by decide) mF_X7_12 rfl dX7_listed_125 ?_
      obtain ⟨r128, q128, h⟩ := bd h
      refine k_callV (nC := 4) [oX7 a a_archive a_history a_planner a_rows a_text a_page a_draft, oX0 a_archive a_archive_series a_archive_pieces a_archive_trial a_archive_moves g_archive_day, cR cI a_archive_pieces 42 v_archive_pieces, cR cI a_rows 12 v_rows] C hl.1 (tX0_pieces (a := a_archive) (a_series := a_archive_series) (a_pieces := a_archive_pieces) (a_trial := a_archive_trial) (a_moves := a_archive_moves) q128) mL_X7_169 mmX0_pieces rfl rfl ⟨Nat.le_of_ble_eq_true rfl, Nat.le_of_ble_eq_true rfl⟩ rfl rfl rfl rfl (Nat.le_of_ble_eq_true rfl) hA hw121 [1] [0, 2, 3] rfl (by decide +kernel) rfl rfl rfl rfl dX7_listed_128 (fun H locs hw128 => ?_)
      refine lv_iload_n hx hb dX7_listed_131 rfl (lv_at hl 2 rfl) ?_
      refine lv_iload hx hb dX7_listed_132 (lv_at hl 1 rfl) ?_
      refine lv_iload hx hb dX7_listed_134 (lv_at hl 0 rfl) ?_
      obtain ⟨r136, q136, h⟩ := bd h
      refine k_callV (nC := 4) [oX7 a a_archive a_history a_planner a_rows a_text a_page a_draft, oX0 a_archive a_archive_series a_archive_pieces a_archive_trial a_archive_moves g_archive_day, cR cI a_archive_pieces 42 v_archive_pieces, cR cI a_rows 12 v_rows] C hl.1 (tX4_sheetsIn (a := a_archive_pieces) q136) mL_X7_175 mmX4_sheetsIn rfl rfl ⟨Nat.le_of_ble_eq_true rfl, Nat.le_of_ble_eq_true rfl⟩ rfl rfl rfl rfl (Nat.le_of_ble_eq_true rfl) hA hw128 [2] [0, 1, 3] rfl (by decide +kernel) rfl rfl rfl rfl dX7_listed_136 (fun H locs hw136 => ?_)
      refine lv_isub hx hb dX7_listed_139 ?_
      cases h
      exact k_iret C hw136 dX7_listed_140
    replace h := br_f' h c44_4
    by_cases c44_5 : x2 = 5
    · replace h := br_t' h c44_5
      refine lv_tableIn (tgt := 141) hx hb dX7_listed_44 (by rw [c44_5]; decide) (by rw [c44_5]; decide) (off := 97) (by rw [c44_5]; decide) (by decide) ?_
      refine lv_aload_n hx hb dX7_listed_141 rfl (lv_at hl 3 rfl) ?_
      refine lv_iload_n hx hb dX7_listed_142 rfl (lv_at hl 4 rfl) ?_
      obtain ⟨r143, q143, h⟩ := bd h
      refine k_callV (nC := 4) [oX7 a a_archive a_history a_planner a_rows a_text a_page a_draft, oX0 a_archive a_archive_series a_archive_pieces a_archive_trial a_archive_moves g_archive_day, cR cI a_archive_pieces 42 v_archive_pieces, cR cI a_rows 12 v_rows] C hl.1 (tX7_lowestClash (a := a) (a_archive := a_archive) (a_history := a_history) (a_planner := a_planner) (a_rows := a_rows) (a_text := a_text) (a_page := a_page) (a_draft := a_draft) q143) mL_X7_253 mmX7_lowestClash rfl rfl ⟨Nat.le_of_ble_eq_true rfl, Nat.le_of_ble_eq_true rfl⟩ rfl rfl rfl rfl (Nat.le_of_ble_eq_true rfl) hA hw38 [0, 3] [1, 2] rfl (by decide +kernel) rfl rfl rfl rfl dX7_listed_143 (fun H locs hw143 => ?_)
      cases h
      exact k_iret C hw143 dX7_listed_146
    replace h := br_f' h c44_5
    refine lv_tableOut (tgt := 147) hx hb dX7_listed_44 (by have t0 := ti_ne (i := 0) c44_0 (by decide); have t1 := ti_ne (i := 1) c44_1 (by decide); have t2 := ti_ne (i := 2) c44_2 (by decide); have t3 := ti_ne (i := 3) c44_3 (by decide); have t4 := ti_ne (i := 4) c44_4 (by decide); have t5 := ti_ne (i := 5) c44_5 (by decide); omega) (by decide) ?_
    refine lv_bipush (v := (-3)) hx hb dX7_listed_147 (by decide) ?_
    cases h
    exact k_iret C hw38 dX7_listed_149
  · replace h := br_t' h c8
    refine lv_bipush (v := (-2)) hx hb dX7_listed_11 (by decide) ?_
    cases h
    exact k_iret C hw5 dX7_listed_13
def rmX7_clashingPairs : Room := { frames := 3, cells := 0, slots := 0, locals := 64 }
def fX7_clashingPairs_19 (v_rows : Rg) (x2 : Int32) : (n : Nat) → (k : Int32 → Int32 → Option (Int32)) → Int32 → Int32 → Option (Int32)
  | 0, _, _, _ => none
  | n + 1, k, x1, x3 =>
    (fX4_size 12 v_rows).bind fun r24 =>
    if r24 ≤ x3 then
      k x1 x3
    else
      (fX7_clash v_rows x2 x3).bind fun r33 =>
      if r33 = 0 then
        fX7_clashingPairs_19 v_rows x2 n k x1 (x3 + 1)
      else
        fX7_clashingPairs_19 v_rows x2 n k (x1 + 1) (x3 + 1)
set_option maxRecDepth 100000 in
set_option maxHeartbeats 4000000 in
theorem wX7_clashingPairs_19 {p : Program} {l : Launch} {e : Env} {s : State} {m : MethodId} {args : Array Value} {below : List Frame} {meth : Method} {c : Code} {D : va_G} {cI : ClassId} {cS : GS} {A : Nat → Prop} {a : Nat → Nat} {a_archive : Nat → Nat} {a_history : Nat → Nat} {a_planner : Nat → Nat} {a_rows : Nat → Nat} {a_text : Nat → Nat} {a_page : Nat → Nat} {a_draft : Nat → Nat} {v_rows : Rg} {x2 : Int32} (C : MC p s m args meth c D cI cS A RX7 cX7_clashingPairs 4 (some .int)) (hA : ∀ q, s.heap.size ≤ q → A q) {s0 : Int32} (k : Int32 → Int32 → Option (Int32)) (hk : ∀ (x1 : Int32) (x3 : Int32) (H : Heap) (locs : List Loc) (ls : Array Slot), Wd D A s.heap H locs [oX7 a a_archive a_history a_planner a_rows a_text a_page a_draft, cR cI a_rows 12 v_rows] → lv_has ls 4 [(0, .ref (a 0)), (1, .int x1), (2, .int x2), (3, .int x3)] → k x1 x3 = some s0 → W p l e rmX7_clashingPairs s m args below meth c H locs 0 0 (KQ D A below args s (some (.int s0)) [oX7 a a_archive a_history a_planner a_rows a_text a_page a_draft, cR cI a_rows 12 v_rows]) (F0 m 48 ls [])) :
    ∀ (n : Nat) (x1 : Int32) (x3 : Int32) (H : Heap) (locs : List Loc) (ls : Array Slot), Wd D A s.heap H locs [oX7 a a_archive a_history a_planner a_rows a_text a_page a_draft, cR cI a_rows 12 v_rows] → lv_has ls 4 [(0, .ref (a 0)), (1, .int x1), (2, .int x2), (3, .int x3)] → fX7_clashingPairs_19 v_rows x2 n k x1 x3 = some s0 → W p l e rmX7_clashingPairs s m args below meth c H locs 0 0 (KQ D A below args s (some (.int s0)) [oX7 a a_archive a_history a_planner a_rows a_text a_page a_draft, cR cI a_rows 12 v_rows]) (F0 m 19 ls []) := by
  have hx := C.1.1
  have hb := C.1.2.1
  intro n
  induction n with
  | zero =>
    intro x1 x3 H locs ls hw hl h
    rw [fX7_clashingPairs_19] at h
    cases h
  | succ n ih =>
    intro x1 x3 H locs ls hw hl h
    rw [fX7_clashingPairs_19] at h
    refine lv_iload_n hx hb dX7_clashingPairs_19 rfl (lv_at hl 3 rfl) ?_
    refine lv_aload_n hx hb dX7_clashingPairs_20 rfl (lv_at hl 0 rfl) ?_
    refine k_get C inT_X7 hw 0 rfl rfl 3 (by decide) mF_X7_35 rfl dX7_clashingPairs_21 ?_
    obtain ⟨r24, q24, h⟩ := bd h
    refine k_callV (nC := 2) [oX7 a a_archive a_history a_planner a_rows a_text a_page a_draft, cR cI a_rows 12 v_rows] C hl.1 (tX4_size (a := a_rows) q24) mL_X7_184 mmX4_size rfl rfl ⟨Nat.le_of_ble_eq_true rfl, Nat.le_of_ble_eq_true rfl⟩ rfl rfl rfl rfl (Nat.le_of_ble_eq_true rfl) hA hw [1] [0] rfl (by decide +kernel) rfl rfl rfl rfl dX7_clashingPairs_24 (fun H locs hw24 => ?_)
    refine lv_icmp_ge (tgt := 48) hx hb dX7_clashingPairs_27 (by decide) (fun c27 => ?_) (fun c27 => ?_)
    · replace h := br_t' h c27
      exact hk _ _ _ _ _ hw24 (lv_sub hl [0, 1, 2, 3] rfl) h
    · replace h := br_f' h c27
      refine lv_aload_n hx hb dX7_clashingPairs_30 rfl (lv_at hl 0 rfl) ?_
      refine lv_iload_n hx hb dX7_clashingPairs_31 rfl (lv_at hl 2 rfl) ?_
      refine lv_iload_n hx hb dX7_clashingPairs_32 rfl (lv_at hl 3 rfl) ?_
      obtain ⟨r33, q33, h⟩ := bd h
      refine k_callV (nC := 2) [oX7 a a_archive a_history a_planner a_rows a_text a_page a_draft, cR cI a_rows 12 v_rows] C hl.1 (tX7_clash (a := a) (a_archive := a_archive) (a_history := a_history) (a_planner := a_planner) (a_rows := a_rows) (a_text := a_text) (a_page := a_page) (a_draft := a_draft) q33) mL_X7_256 mmX7_clash rfl rfl ⟨Nat.le_of_ble_eq_true rfl, Nat.le_of_ble_eq_true rfl⟩ rfl rfl rfl rfl (Nat.le_of_ble_eq_true rfl) hA hw24 [0, 1] [] rfl (by decide +kernel) rfl rfl rfl rfl dX7_clashingPairs_33 (fun H locs hw33 => ?_)
      refine lv_if_eq (tgt := 42) hx hb dX7_clashingPairs_36 (by decide) (fun c36 => ?_) (fun c36 => ?_)
      · replace h := br_t' h c36
        refine lv_iinc (v := (x3 + 1)) (lv' := [(3, .int (x3 + 1)), (0, .ref (a 0)), (1, .int x1), (2, .int x2)]) hx hb dX7_clashingPairs_42 hl (k := 3) rfl rfl (by decide) rfl (fun ls hl => ?_)
        refine lv_goto (tgt := 19) hx hb dX7_clashingPairs_45 (by decide) ?_
        exact ih _ _ _ _ _ hw33 (lv_sub hl [1, 2, 3, 0] rfl) h
      · replace h := br_f' h c36
        refine lv_iinc (v := (x1 + 1)) (lv' := [(1, .int (x1 + 1)), (0, .ref (a 0)), (2, .int x2), (3, .int x3)]) hx hb dX7_clashingPairs_39 hl (k := 1) rfl rfl (by decide) rfl (fun ls hl => ?_)
        refine lv_iinc (v := (x3 + 1)) (lv' := [(3, .int (x3 + 1)), (1, .int (x1 + 1)), (0, .ref (a 0)), (2, .int x2)]) hx hb dX7_clashingPairs_42 hl (k := 3) rfl rfl (by decide) rfl (fun ls hl => ?_)
        refine lv_goto (tgt := 19) hx hb dX7_clashingPairs_45 (by decide) ?_
        exact ih _ _ _ _ _ hw33 (lv_sub hl [2, 1, 3, 0] rfl) h
def fX7_clashingPairs_4 (v_rows : Rg) : (n : Nat) → (k : Int32 → Int32 → Option (Int32)) → Int32 → Int32 → Option (Int32)
  | 0, _, _, _ => none
  | n + 1, k, x1, x2 =>
    (fX4_size 12 v_rows).bind fun r9 =>
    if r9 ≤ x2 then
      k x1 x2
    else
      fX7_clashingPairs_19 v_rows x2 FU (fun x1_19 x3_19 =>
        fX7_clashingPairs_4 v_rows n k x1_19 (x2 + 1)) x1 (x2 + 1)
set_option maxRecDepth 100000 in
set_option maxHeartbeats 4000000 in
theorem wX7_clashingPairs_4 {p : Program} {l : Launch} {e : Env} {s : State} {m : MethodId} {args : Array Value} {below : List Frame} {meth : Method} {c : Code} {D : va_G} {cI : ClassId} {cS : GS} {A : Nat → Prop} {a : Nat → Nat} {a_archive : Nat → Nat} {a_history : Nat → Nat} {a_planner : Nat → Nat} {a_rows : Nat → Nat} {a_text : Nat → Nat} {a_page : Nat → Nat} {a_draft : Nat → Nat} {v_rows : Rg} (C : MC p s m args meth c D cI cS A RX7 cX7_clashingPairs 4 (some .int)) (hA : ∀ q, s.heap.size ≤ q → A q) {s0 : Int32} (k : Int32 → Int32 → Option (Int32)) (hk : ∀ (x1 : Int32) (x2 : Int32) (H : Heap) (locs : List Loc) (ls : Array Slot), Wd D A s.heap H locs [oX7 a a_archive a_history a_planner a_rows a_text a_page a_draft, cR cI a_rows 12 v_rows] → lv_has ls 4 [(0, .ref (a 0)), (1, .int x1), (2, .int x2)] → k x1 x2 = some s0 → W p l e rmX7_clashingPairs s m args below meth c H locs 0 0 (KQ D A below args s (some (.int s0)) [oX7 a a_archive a_history a_planner a_rows a_text a_page a_draft, cR cI a_rows 12 v_rows]) (F0 m 54 ls [])) :
    ∀ (n : Nat) (x1 : Int32) (x2 : Int32) (H : Heap) (locs : List Loc) (ls : Array Slot), Wd D A s.heap H locs [oX7 a a_archive a_history a_planner a_rows a_text a_page a_draft, cR cI a_rows 12 v_rows] → lv_has ls 4 [(0, .ref (a 0)), (1, .int x1), (2, .int x2)] → fX7_clashingPairs_4 v_rows n k x1 x2 = some s0 → W p l e rmX7_clashingPairs s m args below meth c H locs 0 0 (KQ D A below args s (some (.int s0)) [oX7 a a_archive a_history a_planner a_rows a_text a_page a_draft, cR cI a_rows 12 v_rows]) (F0 m 4 ls []) := by
  have hx := C.1.1
  have hb := C.1.2.1
  intro n
  induction n with
  | zero =>
    intro x1 x2 H locs ls hw hl h
    rw [fX7_clashingPairs_4] at h
    cases h
  | succ n ih =>
    intro x1 x2 H locs ls hw hl h
    rw [fX7_clashingPairs_4] at h
    refine lv_iload_n hx hb dX7_clashingPairs_4 rfl (lv_at hl 2 rfl) ?_
    refine lv_aload_n hx hb dX7_clashingPairs_5 rfl (lv_at hl 0 rfl) ?_
    refine k_get C inT_X7 hw 0 rfl rfl 3 (by decide) mF_X7_35 rfl dX7_clashingPairs_6 ?_
    obtain ⟨r9, q9, h⟩ := bd h
    refine k_callV (nC := 2) [oX7 a a_archive a_history a_planner a_rows a_text a_page a_draft, cR cI a_rows 12 v_rows] C hl.1 (tX4_size (a := a_rows) q9) mL_X7_184 mmX4_size rfl rfl ⟨Nat.le_of_ble_eq_true rfl, Nat.le_of_ble_eq_true rfl⟩ rfl rfl rfl rfl (Nat.le_of_ble_eq_true rfl) hA hw [1] [0] rfl (by decide +kernel) rfl rfl rfl rfl dX7_clashingPairs_9 (fun H locs hw9 => ?_)
    refine lv_icmp_ge (tgt := 54) hx hb dX7_clashingPairs_12 (by decide) (fun c12 => ?_) (fun c12 => ?_)
    · replace h := br_t' h c12
      exact hk _ _ _ _ _ hw9 (lv_sub hl [0, 1, 2] rfl) h
    · replace h := br_f' h c12
      refine lv_iload_n hx hb dX7_clashingPairs_15 rfl (lv_at hl 2 rfl) ?_
      refine lv_iconst (v := 1) hx hb dX7_clashingPairs_16 (by decide) ?_
      refine lv_iadd hx hb dX7_clashingPairs_17 ?_
      refine lv_istore_n (lv' := [(3, .int (x2 + 1)), (0, .ref (a 0)), (1, .int x1), (2, .int x2)]) hx hb dX7_clashingPairs_18 rfl hl (by decide) rfl (fun ls hl => ?_)
      refine wX7_clashingPairs_19 C hA _ (fun x1_19 x3_19 H locs ls hw19x hl h => ?_) FU _ _ _ _ _ hw9 (lv_sub hl [1, 2, 3, 0] rfl) h
      refine lv_iinc (v := (x2 + 1)) (lv' := [(2, .int (x2 + 1)), (0, .ref (a 0)), (1, .int x1_19), (3, .int x3_19)]) hx hb dX7_clashingPairs_48 hl (k := 2) rfl rfl (by decide) rfl (fun ls hl => ?_)
      refine lv_goto (tgt := 4) hx hb dX7_clashingPairs_51 (by decide) ?_
      exact ih _ _ _ _ _ hw19x (lv_sub hl [1, 2, 0] rfl) h
def fX7_clashingPairs (v_rows : Rg) : Option (Int32) :=
  fX7_clashingPairs_4 v_rows FU (fun x1_4 x2_4 =>
    some x1_4) 0 0
set_option maxRecDepth 100000 in
set_option maxHeartbeats 4000000 in
theorem tX7_clashingPairs {l : Launch} {D : va_G} {cI : ClassId} {cS : GS} {a : Nat → Nat} {a_archive : Nat → Nat} {a_history : Nat → Nat} {a_planner : Nat → Nat} {a_rows : Nat → Nat} {a_text : Nat → Nat} {a_page : Nat → Nat} {a_draft : Nat → Nat} {v_rows : Rg}  {s0 : Int32} (h : fX7_clashingPairs v_rows = some s0) : CT l D cI cS yX7_clashingPairs cX7_clashingPairs 4 (some .int) rmX7_clashingPairs [.ref (a 0)] [oX7 a a_archive a_history a_planner a_rows a_text a_page a_draft, cR cI a_rows 12 v_rows] (some (.int s0)) [oX7 a a_archive a_history a_planner a_rows a_text a_page a_draft, cR cI a_rows 12 v_rows] := by
  refine CT.of RX7 (by decide) rfl (Nat.le_of_ble_eq_true rfl) (fun p e s m below meth c ls A C hA hl hw => ?_)
  have hx := C.1.1
  have hb := C.1.2.1
  have hl : lv_has ls 4 [(0, .ref (a 0))] := hl
  unfold fX7_clashingPairs at h
  refine lv_iconst (v := 0) hx hb dX7_clashingPairs_0 (by decide) ?_
  refine lv_istore_n (lv' := [(1, .int 0), (0, .ref (a 0))]) hx hb dX7_clashingPairs_1 rfl hl (by decide) rfl (fun ls hl => ?_)
  refine lv_iconst (v := 0) hx hb dX7_clashingPairs_2 (by decide) ?_
  refine lv_istore_n (lv' := [(2, .int 0), (1, .int 0), (0, .ref (a 0))]) hx hb dX7_clashingPairs_3 rfl hl (by decide) rfl (fun ls hl => ?_)
  refine wX7_clashingPairs_4 C hA _ (fun x1_4 x2_4 H locs ls hw4x hl h => ?_) FU _ _ _ _ _ hw (lv_sub hl [2, 1, 0] rfl) h
  refine lv_iload_n hx hb dX7_clashingPairs_54 rfl (lv_at hl 1 rfl) ?_
  cases h
  exact k_iret C hw4x dX7_clashingPairs_55
def rmX7_unlisted : Room := { frames := 3, cells := 0, slots := 0, locals := 75 }
def fX7_unlisted_23 (v_archive_pieces : Rg) (v_rows : Rg) (x1 : Int32) : (n : Nat) → (k : Int32 → Int32 → Option (Int32)) → Int32 → Int32 → Option (Int32)
  | 0, _, _, _ => none
  | n + 1, k, x3, x4 =>
    (fX4_size 42 v_archive_pieces).bind fun r26 =>
    if r26 ≤ x4 then
      k x3 x4
    else
      (fX4_markOf 42 v_archive_pieces x4).bind fun r35 =>
      if r35 = x1 then
        (fX4_firstOf 42 v_archive_pieces x4).bind fun r51 =>
        (fX4_lastOf 42 v_archive_pieces x4).bind fun r57 =>
        (fX4_bareSheets 12 v_rows x1 r51 r57).bind fun r60 =>
        fX7_unlisted_23 v_archive_pieces v_rows x1 n k (x3 + r60) (x4 + 1)
      else
        fX7_unlisted_23 v_archive_pieces v_rows x1 n k x3 (x4 + 1)
set_option maxRecDepth 100000 in
set_option maxHeartbeats 4000000 in
theorem wX7_unlisted_23 {p : Program} {l : Launch} {e : Env} {s : State} {m : MethodId} {args : Array Value} {below : List Frame} {meth : Method} {c : Code} {D : va_G} {cI : ClassId} {cS : GS} {A : Nat → Prop} {a : Nat → Nat} {a_archive : Nat → Nat} {a_history : Nat → Nat} {a_planner : Nat → Nat} {a_rows : Nat → Nat} {a_text : Nat → Nat} {a_page : Nat → Nat} {a_draft : Nat → Nat} {a_archive_series : Nat → Nat} {a_archive_pieces : Nat → Nat} {a_archive_trial : Nat → Nat} {a_archive_moves : Nat → Nat} {g_archive_day : Int32} {v_archive_pieces : Rg} {v_rows : Rg} {x1 : Int32} (C : MC p s m args meth c D cI cS A RX7 cX7_unlisted 5 (some .int)) (hA : ∀ q, s.heap.size ≤ q → A q) {s0 : Int32} (k : Int32 → Int32 → Option (Int32)) (hk : ∀ (x3 : Int32) (x4 : Int32) (H : Heap) (locs : List Loc) (ls : Array Slot), Wd D A s.heap H locs [oX7 a a_archive a_history a_planner a_rows a_text a_page a_draft, oX0 a_archive a_archive_series a_archive_pieces a_archive_trial a_archive_moves g_archive_day, cR cI a_archive_pieces 42 v_archive_pieces, cR cI a_rows 12 v_rows] → lv_has ls 5 [(0, .ref (a 0)), (1, .int x1), (2, .ref (a_archive_pieces 0)), (3, .int x3), (4, .int x4)] → k x3 x4 = some s0 → W p l e rmX7_unlisted s m args below meth c H locs 0 0 (KQ D A below args s (some (.int s0)) [oX7 a a_archive a_history a_planner a_rows a_text a_page a_draft, oX0 a_archive a_archive_series a_archive_pieces a_archive_trial a_archive_moves g_archive_day, cR cI a_archive_pieces 42 v_archive_pieces, cR cI a_rows 12 v_rows]) (F0 m 71 ls [])) :
    ∀ (n : Nat) (x3 : Int32) (x4 : Int32) (H : Heap) (locs : List Loc) (ls : Array Slot), Wd D A s.heap H locs [oX7 a a_archive a_history a_planner a_rows a_text a_page a_draft, oX0 a_archive a_archive_series a_archive_pieces a_archive_trial a_archive_moves g_archive_day, cR cI a_archive_pieces 42 v_archive_pieces, cR cI a_rows 12 v_rows] → lv_has ls 5 [(0, .ref (a 0)), (1, .int x1), (2, .ref (a_archive_pieces 0)), (3, .int x3), (4, .int x4)] → fX7_unlisted_23 v_archive_pieces v_rows x1 n k x3 x4 = some s0 → W p l e rmX7_unlisted s m args below meth c H locs 0 0 (KQ D A below args s (some (.int s0)) [oX7 a a_archive a_history a_planner a_rows a_text a_page a_draft, oX0 a_archive a_archive_series a_archive_pieces a_archive_trial a_archive_moves g_archive_day, cR cI a_archive_pieces 42 v_archive_pieces, cR cI a_rows 12 v_rows]) (F0 m 23 ls []) := by
  have hx := C.1.1
  have hb := C.1.2.1
  intro n
  induction n with
  | zero =>
    intro x3 x4 H locs ls hw hl h
    rw [fX7_unlisted_23] at h
    cases h
  | succ n ih =>
    intro x3 x4 H locs ls hw hl h
    rw [fX7_unlisted_23] at h
    refine lv_iload hx hb dX7_unlisted_23 (lv_at hl 4 rfl) ?_
    refine lv_aload_n hx hb dX7_unlisted_25 rfl (lv_at hl 2 rfl) ?_
    obtain ⟨r26, q26, h⟩ := bd h
    refine k_callV (nC := 4) [oX7 a a_archive a_history a_planner a_rows a_text a_page a_draft, oX0 a_archive a_archive_series a_archive_pieces a_archive_trial a_archive_moves g_archive_day, cR cI a_archive_pieces 42 v_archive_pieces, cR cI a_rows 12 v_rows] C hl.1 (tX4_size (a := a_archive_pieces) q26) mL_X7_184 mmX4_size rfl rfl ⟨Nat.le_of_ble_eq_true rfl, Nat.le_of_ble_eq_true rfl⟩ rfl rfl rfl rfl (Nat.le_of_ble_eq_true rfl) hA hw [2] [0, 1, 3] rfl (by decide +kernel) rfl rfl rfl rfl dX7_unlisted_26 (fun H locs hw26 => ?_)
    refine lv_icmp_ge (tgt := 71) hx hb dX7_unlisted_29 (by decide) (fun c29 => ?_) (fun c29 => ?_)
    · replace h := br_t' h c29
      exact hk _ _ _ _ _ hw26 (lv_sub hl [0, 1, 2, 3, 4] rfl) h
    · replace h := br_f' h c29
      refine lv_aload_n hx hb dX7_unlisted_32 rfl (lv_at hl 2 rfl) ?_
      refine lv_iload hx hb dX7_unlisted_33 (lv_at hl 4 rfl) ?_
      obtain ⟨r35, q35, h⟩ := bd h
      refine k_callV (nC := 4) [oX7 a a_archive a_history a_planner a_rows a_text a_page a_draft, oX0 a_archive a_archive_series a_archive_pieces a_archive_trial a_archive_moves g_archive_day, cR cI a_archive_pieces 42 v_archive_pieces, cR cI a_rows 12 v_rows] C hl.1 (tX4_markOf (a := a_archive_pieces) q35) mL_X7_239 mmX4_markOf rfl rfl ⟨Nat.le_of_ble_eq_true rfl, Nat.le_of_ble_eq_true rfl⟩ rfl rfl rfl rfl (Nat.le_of_ble_eq_true rfl) hA hw26 [2] [0, 1, 3] rfl (by decide +kernel) rfl rfl rfl rfl dX7_unlisted_35 (fun H locs hw35 => ?_)
      refine lv_iload_n hx hb dX7_unlisted_38 rfl (lv_at hl 1 rfl) ?_
      refine lv_icmp_ne (tgt := 65) hx hb dX7_unlisted_39 (by decide) (fun c39 => ?_) (fun c39 => ?_)
      · replace h := br_f' h c39
        refine lv_iinc (v := (x4 + 1)) (lv' := [(4, .int (x4 + 1)), (0, .ref (a 0)), (1, .int x1), (2, .ref (a_archive_pieces 0)), (3, .int x3)]) hx hb dX7_unlisted_65 hl (k := 4) rfl rfl (by decide) rfl (fun ls hl => ?_)
        refine lv_goto (tgt := 23) hx hb dX7_unlisted_68 (by decide) ?_
        exact ih _ _ _ _ _ hw35 (lv_sub hl [1, 2, 3, 4, 0] rfl) h
      · replace h := br_t' h c39
        refine lv_iload_n hx hb dX7_unlisted_42 rfl (lv_at hl 3 rfl) ?_
        refine lv_aload_n hx hb dX7_unlisted_43 rfl (lv_at hl 0 rfl) ?_
        refine k_get C inT_X7 hw35 0 rfl rfl 3 (by decide) mF_X7_35 rfl dX7_unlisted_44 ?_
        refine lv_iload_n hx hb dX7_unlisted_47 rfl (lv_at hl 1 rfl) ?_
        refine lv_aload_n hx hb dX7_unlisted_48 rfl (lv_at hl 2 rfl) ?_
        refine lv_iload hx hb dX7_unlisted_49 (lv_at hl 4 rfl) ?_
        obtain ⟨r51, q51, h⟩ := bd h
        refine k_callV (nC := 4) [oX7 a a_archive a_history a_planner a_rows a_text a_page a_draft, oX0 a_archive a_archive_series a_archive_pieces a_archive_trial a_archive_moves g_archive_day, cR cI a_archive_pieces 42 v_archive_pieces, cR cI a_rows 12 v_rows] C hl.1 (tX4_firstOf (a := a_archive_pieces) q51) mL_X7_215 mmX4_firstOf rfl rfl ⟨Nat.le_of_ble_eq_true rfl, Nat.le_of_ble_eq_true rfl⟩ rfl rfl rfl rfl (Nat.le_of_ble_eq_true rfl) hA hw35 [2] [0, 1, 3] rfl (by decide +kernel) rfl rfl rfl rfl dX7_unlisted_51 (fun H locs hw51 => ?_)
        refine lv_aload_n hx hb dX7_unlisted_54 rfl (lv_at hl 2 rfl) ?_
        refine lv_iload hx hb dX7_unlisted_55 (lv_at hl 4 rfl) ?_
        obtain ⟨r57, q57, h⟩ := bd h
        refine k_callV (nC := 4) [oX7 a a_archive a_history a_planner a_rows a_text a_page a_draft, oX0 a_archive a_archive_series a_archive_pieces a_archive_trial a_archive_moves g_archive_day, cR cI a_archive_pieces 42 v_archive_pieces, cR cI a_rows 12 v_rows] C hl.1 (tX4_lastOf (a := a_archive_pieces) q57) mL_X7_218 mmX4_lastOf rfl rfl ⟨Nat.le_of_ble_eq_true rfl, Nat.le_of_ble_eq_true rfl⟩ rfl rfl rfl rfl (Nat.le_of_ble_eq_true rfl) hA hw51 [2] [0, 1, 3] rfl (by decide +kernel) rfl rfl rfl rfl dX7_unlisted_57 (fun H locs hw57 => ?_)
        obtain ⟨r60, q60, h⟩ := bd h
        refine k_callV (nC := 4) [oX7 a a_archive a_history a_planner a_rows a_text a_page a_draft, oX0 a_archive a_archive_series a_archive_pieces a_archive_trial a_archive_moves g_archive_day, cR cI a_archive_pieces 42 v_archive_pieces, cR cI a_rows 12 v_rows] C hl.1 (tX4_bareSheets (a := a_rows) q60) mL_X7_262 mmX4_bareSheets rfl rfl ⟨Nat.le_of_ble_eq_true rfl, Nat.le_of_ble_eq_true rfl⟩ rfl rfl rfl rfl (Nat.le_of_ble_eq_true rfl) hA hw57 [3] [0, 1, 2] rfl (by decide +kernel) rfl rfl rfl rfl dX7_unlisted_60 (fun H locs hw60 => ?_)
        refine lv_iadd hx hb dX7_unlisted_63 ?_
        refine lv_istore_n (lv' := [(3, .int (x3 + r60)), (0, .ref (a 0)), (1, .int x1), (2, .ref (a_archive_pieces 0)), (4, .int x4)]) hx hb dX7_unlisted_64 rfl hl (by decide) rfl (fun ls hl => ?_)
        refine lv_iinc (v := (x4 + 1)) (lv' := [(4, .int (x4 + 1)), (3, .int (x3 + r60)), (0, .ref (a 0)), (1, .int x1), (2, .ref (a_archive_pieces 0))]) hx hb dX7_unlisted_65 hl (k := 4) rfl rfl (by decide) rfl (fun ls hl => ?_)
        refine lv_goto (tgt := 23) hx hb dX7_unlisted_68 (by decide) ?_
        exact ih _ _ _ _ _ hw60 (lv_sub hl [2, 3, 4, 1, 0] rfl) h
def fX7_unlisted (v_archive_pieces : Rg) (v_rows : Rg) (x1 : Int32) : Option (Int32) :=
  (fX7_isBox x1).bind fun r1 =>
  if r1 = 0 then
    some (-2)
  else
    (fX0_pieces).bind fun r14 =>
    fX7_unlisted_23 v_archive_pieces v_rows x1 FU (fun x3_23 x4_23 =>
      some x3_23) 0 0
set_option maxRecDepth 100000 in
set_option maxHeartbeats 4000000 in
theorem tX7_unlisted {l : Launch} {D : va_G} {cI : ClassId} {cS : GS} {a : Nat → Nat} {a_archive : Nat → Nat} {a_history : Nat → Nat} {a_planner : Nat → Nat} {a_rows : Nat → Nat} {a_text : Nat → Nat} {a_page : Nat → Nat} {a_draft : Nat → Nat} {a_archive_series : Nat → Nat} {a_archive_pieces : Nat → Nat} {a_archive_trial : Nat → Nat} {a_archive_moves : Nat → Nat} {g_archive_day : Int32} {v_archive_pieces : Rg} {v_rows : Rg} {x1 : Int32} {s0 : Int32} (h : fX7_unlisted v_archive_pieces v_rows x1 = some s0) : CT l D cI cS yX7_unlisted cX7_unlisted 5 (some .int) rmX7_unlisted [.ref (a 0), .int x1] [oX7 a a_archive a_history a_planner a_rows a_text a_page a_draft, oX0 a_archive a_archive_series a_archive_pieces a_archive_trial a_archive_moves g_archive_day, cR cI a_archive_pieces 42 v_archive_pieces, cR cI a_rows 12 v_rows] (some (.int s0)) [oX7 a a_archive a_history a_planner a_rows a_text a_page a_draft, oX0 a_archive a_archive_series a_archive_pieces a_archive_trial a_archive_moves g_archive_day, cR cI a_archive_pieces 42 v_archive_pieces, cR cI a_rows 12 v_rows] := by
  refine CT.of RX7 (by decide) rfl (Nat.le_of_ble_eq_true rfl) (fun p e s m below meth c ls A C hA hl hw => ?_)
  have hx := C.1.1
  have hb := C.1.2.1
  have hl : lv_has ls 5 [(0, .ref (a 0)), (1, .int x1)] := hl
  unfold fX7_unlisted at h
  refine lv_iload_n hx hb dX7_unlisted_0 rfl (lv_at hl 1 rfl) ?_
  obtain ⟨r1, q1, h⟩ := bd h
  refine k_callS (nC := 4) [oX7 a a_archive a_history a_planner a_rows a_text a_page a_draft, oX0 a_archive a_archive_series a_archive_pieces a_archive_trial a_archive_moves g_archive_day, cR cI a_archive_pieces 42 v_archive_pieces, cR cI a_rows 12 v_rows] C hl.1 (tX7_isBox q1) mL_X7_187 mmX7_isBox rfl rfl ⟨Nat.le_of_ble_eq_true rfl, Nat.le_of_ble_eq_true rfl⟩ rfl rfl (Nat.le_of_ble_eq_true rfl) hA hw [] [0, 1, 2, 3] rfl (by decide +kernel) rfl rfl rfl rfl dX7_unlisted_1 (fun H locs hw1 => ?_)
  refine lv_if_ne (tgt := 10) hx hb dX7_unlisted_4 (by decide) (fun c4 => ?_) (fun c4 => ?_)
  · replace h := br_f' h c4
    refine lv_aload_n hx hb dX7_unlisted_10 rfl (lv_at hl 0 rfl) ?_
    refine k_get C inT_X7 hw1 0 rfl rfl 0 (by decide) mF_X7_12 rfl dX7_unlisted_11 ?_
    obtain ⟨r14, q14, h⟩ := bd h
    refine k_callV (nC := 4) [oX7 a a_archive a_history a_planner a_rows a_text a_page a_draft, oX0 a_archive a_archive_series a_archive_pieces a_archive_trial a_archive_moves g_archive_day, cR cI a_archive_pieces 42 v_archive_pieces, cR cI a_rows 12 v_rows] C hl.1 (tX0_pieces (a := a_archive) (a_series := a_archive_series) (a_pieces := a_archive_pieces) (a_trial := a_archive_trial) (a_moves := a_archive_moves) q14) mL_X7_169 mmX0_pieces rfl rfl ⟨Nat.le_of_ble_eq_true rfl, Nat.le_of_ble_eq_true rfl⟩ rfl rfl rfl rfl (Nat.le_of_ble_eq_true rfl) hA hw1 [1] [0, 2, 3] rfl (by decide +kernel) rfl rfl rfl rfl dX7_unlisted_14 (fun H locs hw14 => ?_)
    refine lv_astore_n (lv' := [(2, .ref (a_archive_pieces 0)), (0, .ref (a 0)), (1, .int x1)]) hx hb dX7_unlisted_17 rfl hl (by decide) rfl (fun ls hl => ?_)
    refine lv_iconst (v := 0) hx hb dX7_unlisted_18 (by decide) ?_
    refine lv_istore_n (lv' := [(3, .int 0), (2, .ref (a_archive_pieces 0)), (0, .ref (a 0)), (1, .int x1)]) hx hb dX7_unlisted_19 rfl hl (by decide) rfl (fun ls hl => ?_)
    refine lv_iconst (v := 0) hx hb dX7_unlisted_20 (by decide) ?_
    refine lv_istore (lv' := [(4, .int 0), (3, .int 0), (2, .ref (a_archive_pieces 0)), (0, .ref (a 0)), (1, .int x1)]) hx hb dX7_unlisted_21 hl (by decide) rfl (fun ls hl => ?_)
    refine wX7_unlisted_23 C hA _ (fun x3_23 x4_23 H locs ls hw23x hl h => ?_) FU _ _ _ _ _ hw14 (lv_sub hl [3, 4, 2, 1, 0] rfl) h
    refine lv_iload_n hx hb dX7_unlisted_71 rfl (lv_at hl 3 rfl) ?_
    cases h
    exact k_iret C hw23x dX7_unlisted_72
  · replace h := br_t' h c4
    refine lv_bipush (v := (-2)) hx hb dX7_unlisted_7 (by decide) ?_
    cases h
    exact k_iret C hw1 dX7_unlisted_9
def rmX7_label : Room := { frames := 6, cells := 0, slots := 0, locals := 146 }
def fX7_label (v_archive_series : Rg) (v_archive_pieces : Rg) (g_page_signs : Nat → Int32) (g_page_length : Int32) (g_page_latest : Int32) (g_draft_signs : Nat → Int32) (g_draft_length : Int32) (g_draft_latest : Int32) (x1 : Int32) : Option (Int32 × (Nat → Int32) × Int32 × Int32 × (Nat → Int32) × Int32 × Int32) :=
  (fX7_isBox x1).bind fun r1 =>
  if r1 = 0 then
    some ((-2), g_page_signs, g_page_length, g_page_latest, g_draft_signs, g_draft_length, g_draft_latest)
  else
    (fX2_writeLabel g_draft_signs g_draft_length g_draft_latest v_archive_series v_archive_pieces x1).bind fun r19 =>
    (fX2_length r19.2.1).bind fun r26 =>
    if r26 ≤ 200 then
      (fX2_copyFrom g_page_signs g_page_length g_page_latest r19.1 r19.2.1 r19.2.2).bind fun r46 =>
      (fX2_length r46.2.1).bind fun r53 =>
      some (r53, r46.1, r46.2.1, r46.2.2, r19.1, r19.2.1, r19.2.2)
    else
      some ((-5), g_page_signs, g_page_length, g_page_latest, r19.1, r19.2.1, r19.2.2)
set_option maxRecDepth 100000 in
set_option maxHeartbeats 4000000 in
theorem tX7_label {l : Launch} {D : va_G} {cI : ClassId} {cS : GS} {a : Nat → Nat} {a_archive : Nat → Nat} {a_history : Nat → Nat} {a_planner : Nat → Nat} {a_rows : Nat → Nat} {a_text : Nat → Nat} {a_page : Nat → Nat} {a_draft : Nat → Nat} {a_archive_series : Nat → Nat} {a_archive_pieces : Nat → Nat} {a_archive_trial : Nat → Nat} {a_archive_moves : Nat → Nat} {g_archive_day : Int32} {v_archive_series : Rg} {v_archive_pieces : Rg} {g_page_signs : Nat → Int32} {g_page_length : Int32} {g_page_latest : Int32} {g_draft_signs : Nat → Int32} {g_draft_length : Int32} {g_draft_latest : Int32} {x1 : Int32} {s0 : Int32} {s1 : (Nat → Int32)} {s2 : Int32} {s3 : Int32} {s4 : (Nat → Int32)} {s5 : Int32} {s6 : Int32} (h : fX7_label v_archive_series v_archive_pieces g_page_signs g_page_length g_page_latest g_draft_signs g_draft_length g_draft_latest x1 = some (s0, s1, s2, s3, s4, s5, s6)) : CT l D cI cS yX7_label cX7_label 2 (some .int) rmX7_label [.ref (a 0), .int x1] [oX7 a a_archive a_history a_planner a_rows a_text a_page a_draft, oX0 a_archive a_archive_series a_archive_pieces a_archive_trial a_archive_moves g_archive_day, cR cI a_archive_series 10 v_archive_series, cR cI a_archive_pieces 42 v_archive_pieces, oX2 a_page g_page_length g_page_latest, ar cI (a_page 1) 200 g_page_signs, oX2 a_draft g_draft_length g_draft_latest, ar cI (a_draft 1) 200 g_draft_signs] (some (.int s0)) [oX7 a a_archive a_history a_planner a_rows a_text a_page a_draft, oX0 a_archive a_archive_series a_archive_pieces a_archive_trial a_archive_moves g_archive_day, cR cI a_archive_series 10 v_archive_series, cR cI a_archive_pieces 42 v_archive_pieces, oX2 a_page s2 s3, ar cI (a_page 1) 200 s1, oX2 a_draft s5 s6, ar cI (a_draft 1) 200 s4] := by
  refine CT.of RX7 (by decide) rfl (Nat.le_of_ble_eq_true rfl) (fun p e s m below meth c ls A C hA hl hw => ?_)
  have hx := C.1.1
  have hb := C.1.2.1
  have hl : lv_has ls 2 [(0, .ref (a 0)), (1, .int x1)] := hl
  unfold fX7_label at h
  refine lv_iload_n hx hb dX7_label_0 rfl (lv_at hl 1 rfl) ?_
  obtain ⟨r1, q1, h⟩ := bd h
  refine k_callS (nC := 8) [oX7 a a_archive a_history a_planner a_rows a_text a_page a_draft, oX0 a_archive a_archive_series a_archive_pieces a_archive_trial a_archive_moves g_archive_day, cR cI a_archive_series 10 v_archive_series, cR cI a_archive_pieces 42 v_archive_pieces, oX2 a_page g_page_length g_page_latest, ar cI (a_page 1) 200 g_page_signs, oX2 a_draft g_draft_length g_draft_latest, ar cI (a_draft 1) 200 g_draft_signs] C hl.1 (tX7_isBox q1) mL_X7_187 mmX7_isBox rfl rfl ⟨Nat.le_of_ble_eq_true rfl, Nat.le_of_ble_eq_true rfl⟩ rfl rfl (Nat.le_of_ble_eq_true rfl) hA hw [] [0, 1, 2, 3, 4, 5, 6, 7] rfl (by decide +kernel) rfl rfl rfl rfl dX7_label_1 (fun H locs hw1 => ?_)
  refine lv_if_ne (tgt := 10) hx hb dX7_label_4 (by decide) (fun c4 => ?_) (fun c4 => ?_)
  · replace h := br_f' h c4
    refine lv_aload_n hx hb dX7_label_10 rfl (lv_at hl 0 rfl) ?_
    refine k_get C inT_X7 hw1 0 rfl rfl 6 (by decide) mF_X7_53 rfl dX7_label_11 ?_
    refine lv_aload_n hx hb dX7_label_14 rfl (lv_at hl 0 rfl) ?_
    refine k_get C inT_X7 hw1 0 rfl rfl 0 (by decide) mF_X7_12 rfl dX7_label_15 ?_
    refine lv_iload_n hx hb dX7_label_18 rfl (lv_at hl 1 rfl) ?_
    obtain ⟨r19, q19, h⟩ := bd h
    refine k_callV (nC := 8) [oX7 a a_archive a_history a_planner a_rows a_text a_page a_draft, oX0 a_archive a_archive_series a_archive_pieces a_archive_trial a_archive_moves g_archive_day, cR cI a_archive_series 10 v_archive_series, cR cI a_archive_pieces 42 v_archive_pieces, oX2 a_page g_page_length g_page_latest, ar cI (a_page 1) 200 g_page_signs, oX2 a_draft r19.2.1 r19.2.2, ar cI (a_draft 1) 200 r19.1] C hl.1 (tX2_writeLabel (a := a_draft) (a_p1 := a_archive) (a_p1_series := a_archive_series) (a_p1_pieces := a_archive_pieces) (a_p1_trial := a_archive_trial) (a_p1_moves := a_archive_moves) q19) mL_X7_265 mmX2_writeLabel rfl rfl ⟨Nat.le_of_ble_eq_true rfl, Nat.le_of_ble_eq_true rfl⟩ rfl rfl rfl rfl (Nat.le_of_ble_eq_true rfl) hA hw1 [6, 7, 1, 2, 3] [0, 4, 5] rfl (by decide +kernel) rfl rfl rfl rfl dX7_label_19 (fun H locs hw19 => ?_)
    refine lv_aload_n hx hb dX7_label_22 rfl (lv_at hl 0 rfl) ?_
    refine k_get C inT_X7 hw19 0 rfl rfl 6 (by decide) mF_X7_53 rfl dX7_label_23 ?_
    obtain ⟨r26, q26, h⟩ := bd h
    refine k_callV (nC := 8) [oX7 a a_archive a_history a_planner a_rows a_text a_page a_draft, oX0 a_archive a_archive_series a_archive_pieces a_archive_trial a_archive_moves g_archive_day, cR cI a_archive_series 10 v_archive_series, cR cI a_archive_pieces 42 v_archive_pieces, oX2 a_page g_page_length g_page_latest, ar cI (a_page 1) 200 g_page_signs, oX2 a_draft r19.2.1 r19.2.2, ar cI (a_draft 1) 200 r19.1] C hl.1 (tX2_length (a := a_draft) q26) mL_X7_268 mmX2_length rfl rfl ⟨Nat.le_of_ble_eq_true rfl, Nat.le_of_ble_eq_true rfl⟩ rfl rfl rfl rfl (Nat.le_of_ble_eq_true rfl) hA hw19 [6] [0, 1, 2, 3, 4, 5, 7] rfl (by decide +kernel) rfl rfl rfl rfl dX7_label_26 (fun H locs hw26 => ?_)
    refine lv_sipush (v := 200) hx hb dX7_label_29 (by decide) ?_
    refine lv_icmp_le (tgt := 38) hx hb dX7_label_32 (by decide) (fun c32 => ?_) (fun c32 => ?_)
    · replace h := br_t' h c32
      refine lv_aload_n hx hb dX7_label_38 rfl (lv_at hl 0 rfl) ?_
      refine k_get C inT_X7 hw26 0 rfl rfl 5 (by decide) mF_X7_49 rfl dX7_label_39 ?_
      refine lv_aload_n hx hb dX7_label_42 rfl (lv_at hl 0 rfl) ?_
      refine k_get C inT_X7 hw26 0 rfl rfl 6 (by decide) mF_X7_53 rfl dX7_label_43 ?_
      obtain ⟨r46, q46, h⟩ := bd h
      refine k_callV (nC := 8) [oX7 a a_archive a_history a_planner a_rows a_text a_page a_draft, oX0 a_archive a_archive_series a_archive_pieces a_archive_trial a_archive_moves g_archive_day, cR cI a_archive_series 10 v_archive_series, cR cI a_archive_pieces 42 v_archive_pieces, oX2 a_page r46.2.1 r46.2.2, ar cI (a_page 1) 200 r46.1, oX2 a_draft r19.2.1 r19.2.2, ar cI (a_draft 1) 200 r19.1] C hl.1 (tX2_copyFrom (a := a_page) (a_p1 := a_draft) q46) mL_X7_269 mmX2_copyFrom rfl rfl ⟨Nat.le_of_ble_eq_true rfl, Nat.le_of_ble_eq_true rfl⟩ rfl rfl rfl rfl (Nat.le_of_ble_eq_true rfl) hA hw26 [4, 5, 6, 7] [0, 1, 2, 3] rfl (by decide +kernel) rfl rfl rfl rfl dX7_label_46 (fun H locs hw46 => ?_)
      refine lv_aload_n hx hb dX7_label_49 rfl (lv_at hl 0 rfl) ?_
      refine k_get C inT_X7 hw46 0 rfl rfl 5 (by decide) mF_X7_49 rfl dX7_label_50 ?_
      obtain ⟨r53, q53, h⟩ := bd h
      refine k_callV (nC := 8) [oX7 a a_archive a_history a_planner a_rows a_text a_page a_draft, oX0 a_archive a_archive_series a_archive_pieces a_archive_trial a_archive_moves g_archive_day, cR cI a_archive_series 10 v_archive_series, cR cI a_archive_pieces 42 v_archive_pieces, oX2 a_page r46.2.1 r46.2.2, ar cI (a_page 1) 200 r46.1, oX2 a_draft r19.2.1 r19.2.2, ar cI (a_draft 1) 200 r19.1] C hl.1 (tX2_length (a := a_page) q53) mL_X7_268 mmX2_length rfl rfl ⟨Nat.le_of_ble_eq_true rfl, Nat.le_of_ble_eq_true rfl⟩ rfl rfl rfl rfl (Nat.le_of_ble_eq_true rfl) hA hw46 [4] [0, 1, 2, 3, 5, 6, 7] rfl (by decide +kernel) rfl rfl rfl rfl dX7_label_53 (fun H locs hw53 => ?_)
      cases h
      exact k_iret C hw53 dX7_label_56
    · replace h := br_f' h c32
      refine lv_bipush (v := (-5)) hx hb dX7_label_35 (by decide) ?_
      cases h
      exact k_iret C hw26 dX7_label_37
  · replace h := br_t' h c4
    refine lv_bipush (v := (-2)) hx hb dX7_label_7 (by decide) ?_
    cases h
    exact k_iret C hw1 dX7_label_9
def rmX7_paper : Room := { frames := 1, cells := 0, slots := 0, locals := 21 }
def fX7_paper (g_page_signs : Nat → Int32) (g_page_length : Int32) (x1 : Int32) : Option (Int32) :=
  (fX2_signAt g_page_signs g_page_length x1).bind fun r5 =>
  some r5
set_option maxRecDepth 100000 in
set_option maxHeartbeats 4000000 in
theorem tX7_paper {l : Launch} {D : va_G} {cI : ClassId} {cS : GS} {a : Nat → Nat} {a_archive : Nat → Nat} {a_history : Nat → Nat} {a_planner : Nat → Nat} {a_rows : Nat → Nat} {a_text : Nat → Nat} {a_page : Nat → Nat} {a_draft : Nat → Nat} {g_page_signs : Nat → Int32} {g_page_length : Int32} {g_page_latest : Int32} {x1 : Int32} {s0 : Int32} (h : fX7_paper g_page_signs g_page_length x1 = some s0) : CT l D cI cS yX7_paper cX7_paper 2 (some .int) rmX7_paper [.ref (a 0), .int x1] [oX7 a a_archive a_history a_planner a_rows a_text a_page a_draft, oX2 a_page g_page_length g_page_latest, ar cI (a_page 1) 200 g_page_signs] (some (.int s0)) [oX7 a a_archive a_history a_planner a_rows a_text a_page a_draft, oX2 a_page g_page_length g_page_latest, ar cI (a_page 1) 200 g_page_signs] := by
  refine CT.of RX7 (by decide) rfl (Nat.le_of_ble_eq_true rfl) (fun p e s m below meth c ls A C hA hl hw => ?_)
  have hx := C.1.1
  have hb := C.1.2.1
  have hl : lv_has ls 2 [(0, .ref (a 0)), (1, .int x1)] := hl
  unfold fX7_paper at h
  refine lv_aload_n hx hb dX7_paper_0 rfl (lv_at hl 0 rfl) ?_
  refine k_get C inT_X7 hw 0 rfl rfl 5 (by decide) mF_X7_49 rfl dX7_paper_1 ?_
  refine lv_iload_n hx hb dX7_paper_4 rfl (lv_at hl 1 rfl) ?_
  obtain ⟨r5, q5, h⟩ := bd h
  refine k_callV (nC := 3) [oX7 a a_archive a_history a_planner a_rows a_text a_page a_draft, oX2 a_page g_page_length g_page_latest, ar cI (a_page 1) 200 g_page_signs] C hl.1 (tX2_signAt (a := a_page) q5) mL_X7_273 mmX2_signAt rfl rfl ⟨Nat.le_of_ble_eq_true rfl, Nat.le_of_ble_eq_true rfl⟩ rfl rfl rfl rfl (Nat.le_of_ble_eq_true rfl) hA hw [1, 2] [0] rfl (by decide +kernel) rfl rfl rfl rfl dX7_paper_5 (fun H locs hw5 => ?_)
  cases h
  exact k_iret C hw5 dX7_paper_8
def rmX7_plan : Room := { frames := 5, cells := 0, slots := 0, locals := 116 }
def fX7_plan (g_archive_rooms : Nat → Int32) (v_archive_series : Rg) (v_archive_pieces : Rg) (g_planner_free : Nat → Int32) (g_planner_remaining : Int32) (v_planner_gaps : Rg) (v_planner_layings : Rg) (x1 : Int32) (x2 : Int32) (x3 : Int32) : Option (Int32 × (Nat → Int32) × Int32 × Rg × Rg) :=
  (fX0_isSeries v_archive_series x1).bind fun r5 =>
  if r5 = 0 then
    some ((-2), g_planner_free, g_planner_remaining, v_planner_gaps, v_planner_layings)
  else
    if x2 < (-1) then
      some ((-3), g_planner_free, g_planner_remaining, v_planner_gaps, v_planner_layings)
    else
      if x2 = (-1) then
        (fX3_makePlan g_planner_free g_planner_remaining v_planner_gaps v_planner_layings g_archive_rooms v_archive_series v_archive_pieces x1).bind fun r45 =>
        (fX3_layings).bind fun r52 =>
        if x2 = (-1) then
          (fX4_size 49 r45.2.2.2).bind fun r64 =>
          some (r64, r45.1, r45.2.1, r45.2.2.1, r45.2.2.2)
        else
          (fX4_has 49 r45.2.2.2 x2).bind fun r71 =>
          if r71 = 0 then
            some ((-1), r45.1, r45.2.1, r45.2.2.1, r45.2.2.2)
          else
            (fX7_endOrMark 49 r45.2.2.2 x2 x3).bind fun r81 =>
            some (r81, r45.1, r45.2.1, r45.2.2.1, r45.2.2.2)
      else
        if x3 < 0 then
          some ((-3), g_planner_free, g_planner_remaining, v_planner_gaps, v_planner_layings)
        else
          if x3 ≤ 2 then
            (fX3_makePlan g_planner_free g_planner_remaining v_planner_gaps v_planner_layings g_archive_rooms v_archive_series v_archive_pieces x1).bind fun r45 =>
            (fX3_layings).bind fun r52 =>
            if x2 = (-1) then
              (fX4_size 49 r45.2.2.2).bind fun r64 =>
              some (r64, r45.1, r45.2.1, r45.2.2.1, r45.2.2.2)
            else
              (fX4_has 49 r45.2.2.2 x2).bind fun r71 =>
              if r71 = 0 then
                some ((-1), r45.1, r45.2.1, r45.2.2.1, r45.2.2.2)
              else
                (fX7_endOrMark 49 r45.2.2.2 x2 x3).bind fun r81 =>
                some (r81, r45.1, r45.2.1, r45.2.2.1, r45.2.2.2)
          else
            some ((-3), g_planner_free, g_planner_remaining, v_planner_gaps, v_planner_layings)
set_option maxRecDepth 100000 in
set_option maxHeartbeats 4000000 in
theorem tX7_plan {l : Launch} {D : va_G} {cI : ClassId} {cS : GS} {a : Nat → Nat} {a_archive : Nat → Nat} {a_history : Nat → Nat} {a_planner : Nat → Nat} {a_rows : Nat → Nat} {a_text : Nat → Nat} {a_page : Nat → Nat} {a_draft : Nat → Nat} {a_archive_series : Nat → Nat} {a_archive_pieces : Nat → Nat} {a_archive_trial : Nat → Nat} {a_archive_moves : Nat → Nat} {a_planner_gaps : Nat → Nat} {a_planner_layings : Nat → Nat} {g_archive_rooms : Nat → Int32} {g_archive_day : Int32} {v_archive_series : Rg} {v_archive_pieces : Rg} {g_planner_free : Nat → Int32} {g_planner_remaining : Int32} {v_planner_gaps : Rg} {v_planner_layings : Rg} {x1 : Int32} {x2 : Int32} {x3 : Int32} {s0 : Int32} {s1 : (Nat → Int32)} {s2 : Int32} {s3 : Rg} {s4 : Rg} (h : fX7_plan g_archive_rooms v_archive_series v_archive_pieces g_planner_free g_planner_remaining v_planner_gaps v_planner_layings x1 x2 x3 = some (s0, s1, s2, s3, s4)) : CT l D cI cS yX7_plan cX7_plan 5 (some .int) rmX7_plan [.ref (a 0), .int x1, .int x2, .int x3] [oX7 a a_archive a_history a_planner a_rows a_text a_page a_draft, oX0 a_archive a_archive_series a_archive_pieces a_archive_trial a_archive_moves g_archive_day, ar cI (a_archive 2) 8 g_archive_rooms, cR cI a_archive_series 10 v_archive_series, cR cI a_archive_pieces 42 v_archive_pieces, oX3 a_planner a_planner_gaps a_planner_layings g_planner_remaining, ar cI (a_planner 3) 8 g_planner_free, cR cI a_planner_gaps 41 v_planner_gaps, cR cI a_planner_layings 49 v_planner_layings] (some (.int s0)) [oX7 a a_archive a_history a_planner a_rows a_text a_page a_draft, oX0 a_archive a_archive_series a_archive_pieces a_archive_trial a_archive_moves g_archive_day, ar cI (a_archive 2) 8 g_archive_rooms, cR cI a_archive_series 10 v_archive_series, cR cI a_archive_pieces 42 v_archive_pieces, oX3 a_planner a_planner_gaps a_planner_layings s2, ar cI (a_planner 3) 8 s1, cR cI a_planner_gaps 41 s3, cR cI a_planner_layings 49 s4] := by
  refine CT.of RX7 (by decide) rfl (Nat.le_of_ble_eq_true rfl) (fun p e s m below meth c ls A C hA hl hw => ?_)
  have hx := C.1.1
  have hb := C.1.2.1
  have hl : lv_has ls 5 [(0, .ref (a 0)), (1, .int x1), (2, .int x2), (3, .int x3)] := hl
  unfold fX7_plan at h
  refine lv_aload_n hx hb dX7_plan_0 rfl (lv_at hl 0 rfl) ?_
  refine k_get C inT_X7 hw 0 rfl rfl 0 (by decide) mF_X7_12 rfl dX7_plan_1 ?_
  refine lv_iload_n hx hb dX7_plan_4 rfl (lv_at hl 1 rfl) ?_
  obtain ⟨r5, q5, h⟩ := bd h
  refine k_callV (nC := 9) [oX7 a a_archive a_history a_planner a_rows a_text a_page a_draft, oX0 a_archive a_archive_series a_archive_pieces a_archive_trial a_archive_moves g_archive_day, ar cI (a_archive 2) 8 g_archive_rooms, cR cI a_archive_series 10 v_archive_series, cR cI a_archive_pieces 42 v_archive_pieces, oX3 a_planner a_planner_gaps a_planner_layings g_planner_remaining, ar cI (a_planner 3) 8 g_planner_free, cR cI a_planner_gaps 41 v_planner_gaps, cR cI a_planner_layings 49 v_planner_layings] C hl.1 (tX0_isSeries (a := a_archive) (a_series := a_archive_series) (a_pieces := a_archive_pieces) (a_trial := a_archive_trial) (a_moves := a_archive_moves) q5) mL_X7_126 mmX0_isSeries rfl rfl ⟨Nat.le_of_ble_eq_true rfl, Nat.le_of_ble_eq_true rfl⟩ rfl rfl rfl rfl (Nat.le_of_ble_eq_true rfl) hA hw [1, 3] [0, 2, 4, 5, 6, 7, 8] rfl (by decide +kernel) rfl rfl rfl rfl dX7_plan_5 (fun H locs hw5 => ?_)
  refine lv_if_ne (tgt := 14) hx hb dX7_plan_8 (by decide) (fun c8 => ?_) (fun c8 => ?_)
  · replace h := br_f' h c8
    refine lv_iload_n hx hb dX7_plan_14 rfl (lv_at hl 2 rfl) ?_
    refine lv_iconst (v := (-1)) hx hb dX7_plan_15 (by decide) ?_
    refine lv_icmp_lt (tgt := 33) hx hb dX7_plan_16 (by decide) (fun c16 => ?_) (fun c16 => ?_)
    · replace h := br_t' h c16
      refine lv_bipush (v := (-3)) hx hb dX7_plan_33 (by decide) ?_
      cases h
      exact k_iret C hw5 dX7_plan_35
    · replace h := br_f' h c16
      refine lv_iload_n hx hb dX7_plan_19 rfl (lv_at hl 2 rfl) ?_
      refine lv_iconst (v := (-1)) hx hb dX7_plan_20 (by decide) ?_
      refine lv_icmp_eq (tgt := 36) hx hb dX7_plan_21 (by decide) (fun c21 => ?_) (fun c21 => ?_)
      · replace h := br_t' h c21
        refine lv_aload_n hx hb dX7_plan_36 rfl (lv_at hl 0 rfl) ?_
        refine k_get C inT_X7 hw5 0 rfl rfl 2 (by decide) mF_X7_26 rfl dX7_plan_37 ?_
        refine lv_aload_n hx hb dX7_plan_40 rfl (lv_at hl 0 rfl) ?_
        refine k_get C inT_X7 hw5 0 rfl rfl 0 (by decide) mF_X7_12 rfl dX7_plan_41 ?_
        refine lv_iload_n hx hb dX7_plan_44 rfl (lv_at hl 1 rfl) ?_
        obtain ⟨r45, q45, h⟩ := bd h
        refine k_callV (nC := 9) [oX7 a a_archive a_history a_planner a_rows a_text a_page a_draft, oX0 a_archive a_archive_series a_archive_pieces a_archive_trial a_archive_moves g_archive_day, ar cI (a_archive 2) 8 g_archive_rooms, cR cI a_archive_series 10 v_archive_series, cR cI a_archive_pieces 42 v_archive_pieces, oX3 a_planner a_planner_gaps a_planner_layings r45.2.1, ar cI (a_planner 3) 8 r45.1, cR cI a_planner_gaps 41 r45.2.2.1, cR cI a_planner_layings 49 r45.2.2.2] C hl.1 (tX3_makePlan (a := a_planner) (a_gaps := a_planner_gaps) (a_layings := a_planner_layings) (a_p1 := a_archive) (a_p1_series := a_archive_series) (a_p1_pieces := a_archive_pieces) (a_p1_trial := a_archive_trial) (a_p1_moves := a_archive_moves) q45) mL_X7_129 mmX3_makePlan rfl rfl ⟨Nat.le_of_ble_eq_true rfl, Nat.le_of_ble_eq_true rfl⟩ rfl rfl rfl rfl (Nat.le_of_ble_eq_true rfl) hA hw5 [5, 6, 7, 8, 1, 2, 3, 4] [0] rfl (by decide +kernel) rfl rfl rfl rfl dX7_plan_45 (fun H locs hw45 => ?_)
        refine lv_aload_n hx hb dX7_plan_48 rfl (lv_at hl 0 rfl) ?_
        refine k_get C inT_X7 hw45 0 rfl rfl 2 (by decide) mF_X7_26 rfl dX7_plan_49 ?_
        obtain ⟨r52, q52, h⟩ := bd h
        refine k_callV (nC := 9) [oX7 a a_archive a_history a_planner a_rows a_text a_page a_draft, oX0 a_archive a_archive_series a_archive_pieces a_archive_trial a_archive_moves g_archive_day, ar cI (a_archive 2) 8 g_archive_rooms, cR cI a_archive_series 10 v_archive_series, cR cI a_archive_pieces 42 v_archive_pieces, oX3 a_planner a_planner_gaps a_planner_layings r45.2.1, ar cI (a_planner 3) 8 r45.1, cR cI a_planner_gaps 41 r45.2.2.1, cR cI a_planner_layings 49 r45.2.2.2] C hl.1 (tX3_layings (a := a_planner) (a_gaps := a_planner_gaps) (a_layings := a_planner_layings) q52) mL_X7_133 mmX3_layings rfl rfl ⟨Nat.le_of_ble_eq_true rfl, Nat.le_of_ble_eq_true rfl⟩ rfl rfl rfl rfl (Nat.le_of_ble_eq_true rfl) hA hw45 [5] [0, 1, 2, 3, 4, 6, 7, 8] rfl (by decide +kernel) rfl rfl rfl rfl dX7_plan_52 (fun H locs hw52 => ?_)
        refine lv_astore (lv' := [(4, .ref (a_planner_layings 0)), (0, .ref (a 0)), (1, .int x1), (2, .int x2), (3, .int x3)]) hx hb dX7_plan_55 hl (by decide) rfl (fun ls hl => ?_)
        refine lv_iload_n hx hb dX7_plan_57 rfl (lv_at hl 3 rfl) ?_
        refine lv_iconst (v := (-1)) hx hb dX7_plan_58 (by decide) ?_
        refine lv_icmp_ne (tgt := 68) hx hb dX7_plan_59 (by decide) (fun c59 => ?_) (fun c59 => ?_)
        · replace h := br_f' h c59
          refine lv_aload hx hb dX7_plan_68 (lv_at hl 0 rfl) ?_
          refine lv_iload_n hx hb dX7_plan_70 rfl (lv_at hl 3 rfl) ?_
          obtain ⟨r71, q71, h⟩ := bd h
          refine k_callV (nC := 9) [oX7 a a_archive a_history a_planner a_rows a_text a_page a_draft, oX0 a_archive a_archive_series a_archive_pieces a_archive_trial a_archive_moves g_archive_day, ar cI (a_archive 2) 8 g_archive_rooms, cR cI a_archive_series 10 v_archive_series, cR cI a_archive_pieces 42 v_archive_pieces, oX3 a_planner a_planner_gaps a_planner_layings r45.2.1, ar cI (a_planner 3) 8 r45.1, cR cI a_planner_gaps 41 r45.2.2.1, cR cI a_planner_layings 49 r45.2.2.2] C hl.1 (tX4_has (a := a_planner_layings) q71) mL_X7_208 mmX4_has rfl rfl ⟨Nat.le_of_ble_eq_true rfl, Nat.le_of_ble_eq_true rfl⟩ rfl rfl rfl rfl (Nat.le_of_ble_eq_true rfl) hA hw52 [8] [0, 1, 2, 3, 4, 5, 6, 7] rfl (by decide +kernel) rfl rfl rfl rfl dX7_plan_71 (fun H locs hw71 => ?_)
          refine lv_if_eq (tgt := 87) hx hb dX7_plan_74 (by decide) (fun c74 => ?_) (fun c74 => ?_)
          · replace h := br_t' h c74
            refine lv_iconst (v := (-1)) hx hb dX7_plan_87 (by decide) ?_
            cases h
            exact k_iret C hw71 dX7_plan_88
          · replace h := br_f' h c74
            refine lv_aload hx hb dX7_plan_77 (lv_at hl 0 rfl) ?_
            refine lv_iload_n hx hb dX7_plan_79 rfl (lv_at hl 3 rfl) ?_
            refine lv_iload_n hx hb dX7_plan_80 rfl (lv_at hl 4 rfl) ?_
            obtain ⟨r81, q81, h⟩ := bd h
            refine k_callS (nC := 9) [oX7 a a_archive a_history a_planner a_rows a_text a_page a_draft, oX0 a_archive a_archive_series a_archive_pieces a_archive_trial a_archive_moves g_archive_day, ar cI (a_archive 2) 8 g_archive_rooms, cR cI a_archive_series 10 v_archive_series, cR cI a_archive_pieces 42 v_archive_pieces, oX3 a_planner a_planner_gaps a_planner_layings r45.2.1, ar cI (a_planner 3) 8 r45.1, cR cI a_planner_gaps 41 r45.2.2.1, cR cI a_planner_layings 49 r45.2.2.2] C hl.1 (tX7_endOrMark (a_p1 := a_planner_layings) q81) mL_X7_211 mmX7_endOrMark rfl rfl ⟨Nat.le_of_ble_eq_true rfl, Nat.le_of_ble_eq_true rfl⟩ rfl rfl (Nat.le_of_ble_eq_true rfl) hA hw71 [8] [0, 1, 2, 3, 4, 5, 6, 7] rfl (by decide +kernel) rfl rfl rfl rfl dX7_plan_81 (fun H locs hw81 => ?_)
            refine lv_goto (tgt := 88) hx hb dX7_plan_84 (by decide) ?_
            cases h
            exact k_iret C hw81 dX7_plan_88
        · replace h := br_t' h c59
          refine lv_aload hx hb dX7_plan_62 (lv_at hl 0 rfl) ?_
          obtain ⟨r64, q64, h⟩ := bd h
          refine k_callV (nC := 9) [oX7 a a_archive a_history a_planner a_rows a_text a_page a_draft, oX0 a_archive a_archive_series a_archive_pieces a_archive_trial a_archive_moves g_archive_day, ar cI (a_archive 2) 8 g_archive_rooms, cR cI a_archive_series 10 v_archive_series, cR cI a_archive_pieces 42 v_archive_pieces, oX3 a_planner a_planner_gaps a_planner_layings r45.2.1, ar cI (a_planner 3) 8 r45.1, cR cI a_planner_gaps 41 r45.2.2.1, cR cI a_planner_layings 49 r45.2.2.2] C hl.1 (tX4_size (a := a_planner_layings) q64) mL_X7_184 mmX4_size rfl rfl ⟨Nat.le_of_ble_eq_true rfl, Nat.le_of_ble_eq_true rfl⟩ rfl rfl rfl rfl (Nat.le_of_ble_eq_true rfl) hA hw52 [8] [0, 1, 2, 3, 4, 5, 6, 7] rfl (by decide +kernel) rfl rfl rfl rfl dX7_plan_64 (fun H locs hw64 => ?_)
          cases h
          exact k_iret C hw64 dX7_plan_67
      · replace h := br_f' h c21
        refine lv_iload_n hx hb dX7_plan_24 rfl (lv_at hl 3 rfl) ?_
        refine lv_if_lt (tgt := 33) hx hb dX7_plan_25 (by decide) (fun c25 => ?_) (fun c25 => ?_)
        · replace h := br_t' h c25
          refine lv_bipush (v := (-3)) hx hb dX7_plan_33 (by decide) ?_
          cases h
          exact k_iret C hw5 dX7_plan_35
        · replace h := br_f' h c25
          refine lv_iload_n hx hb dX7_plan_28 rfl (lv_at hl 3 rfl) ?_
          refine lv_iconst (v := 2) hx hb dX7_plan_29 (by decide) ?_
          refine lv_icmp_le (tgt := 36) hx hb dX7_plan_30 (by decide) (fun c30 => ?_) (fun c30 => ?_)
          · replace h := br_t' h c30
            refine lv_aload_n hx hb dX7_plan_36 rfl (lv_at hl 0 rfl) ?_
            refine k_get C inT_X7 hw5 0 rfl rfl 2 (by decide) mF_X7_26 rfl dX7_plan_37 ?_
            refine lv_aload_n hx hb dX7_plan_40 rfl (lv_at hl 0 rfl) ?_
            refine k_get C inT_X7 hw5 0 rfl rfl 0 (by decide) mF_X7_12 rfl dX7_plan_41 ?_
            refine lv_iload_n hx hb dX7_plan_44 rfl (lv_at hl 1 rfl) ?_
            obtain ⟨r45, q45, h⟩ := bd h
            refine k_callV (nC := 9) [oX7 a a_archive a_history a_planner a_rows a_text a_page a_draft, oX0 a_archive a_archive_series a_archive_pieces a_archive_trial a_archive_moves g_archive_day, ar cI (a_archive 2) 8 g_archive_rooms, cR cI a_archive_series 10 v_archive_series, cR cI a_archive_pieces 42 v_archive_pieces, oX3 a_planner a_planner_gaps a_planner_layings r45.2.1, ar cI (a_planner 3) 8 r45.1, cR cI a_planner_gaps 41 r45.2.2.1, cR cI a_planner_layings 49 r45.2.2.2] C hl.1 (tX3_makePlan (a := a_planner) (a_gaps := a_planner_gaps) (a_layings := a_planner_layings) (a_p1 := a_archive) (a_p1_series := a_archive_series) (a_p1_pieces := a_archive_pieces) (a_p1_trial := a_archive_trial) (a_p1_moves := a_archive_moves) q45) mL_X7_129 mmX3_makePlan rfl rfl ⟨Nat.le_of_ble_eq_true rfl, Nat.le_of_ble_eq_true rfl⟩ rfl rfl rfl rfl (Nat.le_of_ble_eq_true rfl) hA hw5 [5, 6, 7, 8, 1, 2, 3, 4] [0] rfl (by decide +kernel) rfl rfl rfl rfl dX7_plan_45 (fun H locs hw45 => ?_)
            refine lv_aload_n hx hb dX7_plan_48 rfl (lv_at hl 0 rfl) ?_
            refine k_get C inT_X7 hw45 0 rfl rfl 2 (by decide) mF_X7_26 rfl dX7_plan_49 ?_
            obtain ⟨r52, q52, h⟩ := bd h
            refine k_callV (nC := 9) [oX7 a a_archive a_history a_planner a_rows a_text a_page a_draft, oX0 a_archive a_archive_series a_archive_pieces a_archive_trial a_archive_moves g_archive_day, ar cI (a_archive 2) 8 g_archive_rooms, cR cI a_archive_series 10 v_archive_series, cR cI a_archive_pieces 42 v_archive_pieces, oX3 a_planner a_planner_gaps a_planner_layings r45.2.1, ar cI (a_planner 3) 8 r45.1, cR cI a_planner_gaps 41 r45.2.2.1, cR cI a_planner_layings 49 r45.2.2.2] C hl.1 (tX3_layings (a := a_planner) (a_gaps := a_planner_gaps) (a_layings := a_planner_layings) q52) mL_X7_133 mmX3_layings rfl rfl ⟨Nat.le_of_ble_eq_true rfl, Nat.le_of_ble_eq_true rfl⟩ rfl rfl rfl rfl (Nat.le_of_ble_eq_true rfl) hA hw45 [5] [0, 1, 2, 3, 4, 6, 7, 8] rfl (by decide +kernel) rfl rfl rfl rfl dX7_plan_52 (fun H locs hw52 => ?_)
            refine lv_astore (lv' := [(4, .ref (a_planner_layings 0)), (0, .ref (a 0)), (1, .int x1), (2, .int x2), (3, .int x3)]) hx hb dX7_plan_55 hl (by decide) rfl (fun ls hl => ?_)
            refine lv_iload_n hx hb dX7_plan_57 rfl (lv_at hl 3 rfl) ?_
            refine lv_iconst (v := (-1)) hx hb dX7_plan_58 (by decide) ?_
            refine lv_icmp_ne (tgt := 68) hx hb dX7_plan_59 (by decide) (fun c59 => ?_) (fun c59 => ?_)
            · replace h := br_f' h c59
              refine lv_aload hx hb dX7_plan_68 (lv_at hl 0 rfl) ?_
              refine lv_iload_n hx hb dX7_plan_70 rfl (lv_at hl 3 rfl) ?_
              obtain ⟨r71, q71, h⟩ := bd h
              refine k_callV (nC := 9) [oX7 a a_archive a_history a_planner a_rows a_text a_page a_draft, oX0 a_archive a_archive_series a_archive_pieces a_archive_trial a_archive_moves g_archive_day, ar cI (a_archive 2) 8 g_archive_rooms, cR cI a_archive_series 10 v_archive_series, cR cI a_archive_pieces 42 v_archive_pieces, oX3 a_planner a_planner_gaps a_planner_layings r45.2.1, ar cI (a_planner 3) 8 r45.1, cR cI a_planner_gaps 41 r45.2.2.1, cR cI a_planner_layings 49 r45.2.2.2] C hl.1 (tX4_has (a := a_planner_layings) q71) mL_X7_208 mmX4_has rfl rfl ⟨Nat.le_of_ble_eq_true rfl, Nat.le_of_ble_eq_true rfl⟩ rfl rfl rfl rfl (Nat.le_of_ble_eq_true rfl) hA hw52 [8] [0, 1, 2, 3, 4, 5, 6, 7] rfl (by decide +kernel) rfl rfl rfl rfl dX7_plan_71 (fun H locs hw71 => ?_)
              refine lv_if_eq (tgt := 87) hx hb dX7_plan_74 (by decide) (fun c74 => ?_) (fun c74 => ?_)
              · replace h := br_t' h c74
                refine lv_iconst (v := (-1)) hx hb dX7_plan_87 (by decide) ?_
                cases h
                exact k_iret C hw71 dX7_plan_88
              · replace h := br_f' h c74
                refine lv_aload hx hb dX7_plan_77 (lv_at hl 0 rfl) ?_
                refine lv_iload_n hx hb dX7_plan_79 rfl (lv_at hl 3 rfl) ?_
                refine lv_iload_n hx hb dX7_plan_80 rfl (lv_at hl 4 rfl) ?_
                obtain ⟨r81, q81, h⟩ := bd h
                refine k_callS (nC := 9) [oX7 a a_archive a_history a_planner a_rows a_text a_page a_draft, oX0 a_archive a_archive_series a_archive_pieces a_archive_trial a_archive_moves g_archive_day, ar cI (a_archive 2) 8 g_archive_rooms, cR cI a_archive_series 10 v_archive_series, cR cI a_archive_pieces 42 v_archive_pieces, oX3 a_planner a_planner_gaps a_planner_layings r45.2.1, ar cI (a_planner 3) 8 r45.1, cR cI a_planner_gaps 41 r45.2.2.1, cR cI a_planner_layings 49 r45.2.2.2] C hl.1 (tX7_endOrMark (a_p1 := a_planner_layings) q81) mL_X7_211 mmX7_endOrMark rfl rfl ⟨Nat.le_of_ble_eq_true rfl, Nat.le_of_ble_eq_true rfl⟩ rfl rfl (Nat.le_of_ble_eq_true rfl) hA hw71 [8] [0, 1, 2, 3, 4, 5, 6, 7] rfl (by decide +kernel) rfl rfl rfl rfl dX7_plan_81 (fun H locs hw81 => ?_)
                refine lv_goto (tgt := 88) hx hb dX7_plan_84 (by decide) ?_
                cases h
                exact k_iret C hw81 dX7_plan_88
            · replace h := br_t' h c59
              refine lv_aload hx hb dX7_plan_62 (lv_at hl 0 rfl) ?_
              obtain ⟨r64, q64, h⟩ := bd h
              refine k_callV (nC := 9) [oX7 a a_archive a_history a_planner a_rows a_text a_page a_draft, oX0 a_archive a_archive_series a_archive_pieces a_archive_trial a_archive_moves g_archive_day, ar cI (a_archive 2) 8 g_archive_rooms, cR cI a_archive_series 10 v_archive_series, cR cI a_archive_pieces 42 v_archive_pieces, oX3 a_planner a_planner_gaps a_planner_layings r45.2.1, ar cI (a_planner 3) 8 r45.1, cR cI a_planner_gaps 41 r45.2.2.1, cR cI a_planner_layings 49 r45.2.2.2] C hl.1 (tX4_size (a := a_planner_layings) q64) mL_X7_184 mmX4_size rfl rfl ⟨Nat.le_of_ble_eq_true rfl, Nat.le_of_ble_eq_true rfl⟩ rfl rfl rfl rfl (Nat.le_of_ble_eq_true rfl) hA hw52 [8] [0, 1, 2, 3, 4, 5, 6, 7] rfl (by decide +kernel) rfl rfl rfl rfl dX7_plan_64 (fun H locs hw64 => ?_)
              cases h
              exact k_iret C hw64 dX7_plan_67
          · replace h := br_f' h c30
            refine lv_bipush (v := (-3)) hx hb dX7_plan_33 (by decide) ?_
            cases h
            exact k_iret C hw5 dX7_plan_35
  · replace h := br_t' h c8
    refine lv_bipush (v := (-2)) hx hb dX7_plan_11 (by decide) ?_
    cases h
    exact k_iret C hw5 dX7_plan_13
def rmX7_left : Room := { frames := 5, cells := 0, slots := 0, locals := 116 }
def fX7_left (g_archive_rooms : Nat → Int32) (v_archive_series : Rg) (v_archive_pieces : Rg) (g_planner_free : Nat → Int32) (g_planner_remaining : Int32) (v_planner_gaps : Rg) (v_planner_layings : Rg) (x1 : Int32) : Option (Int32 × (Nat → Int32) × Int32 × Rg × Rg) :=
  (fX0_isSeries v_archive_series x1).bind fun r5 =>
  if r5 = 0 then
    some ((-2), g_planner_free, g_planner_remaining, v_planner_gaps, v_planner_layings)
  else
    (fX3_makePlan g_planner_free g_planner_remaining v_planner_gaps v_planner_layings g_archive_rooms v_archive_series v_archive_pieces x1).bind fun r23 =>
    (fX3_remaining r23.2.1).bind fun r30 =>
    some (r30, r23.1, r23.2.1, r23.2.2.1, r23.2.2.2)
set_option maxRecDepth 100000 in
set_option maxHeartbeats 4000000 in
theorem tX7_left {l : Launch} {D : va_G} {cI : ClassId} {cS : GS} {a : Nat → Nat} {a_archive : Nat → Nat} {a_history : Nat → Nat} {a_planner : Nat → Nat} {a_rows : Nat → Nat} {a_text : Nat → Nat} {a_page : Nat → Nat} {a_draft : Nat → Nat} {a_archive_series : Nat → Nat} {a_archive_pieces : Nat → Nat} {a_archive_trial : Nat → Nat} {a_archive_moves : Nat → Nat} {a_planner_gaps : Nat → Nat} {a_planner_layings : Nat → Nat} {g_archive_rooms : Nat → Int32} {g_archive_day : Int32} {v_archive_series : Rg} {v_archive_pieces : Rg} {g_planner_free : Nat → Int32} {g_planner_remaining : Int32} {v_planner_gaps : Rg} {v_planner_layings : Rg} {x1 : Int32} {s0 : Int32} {s1 : (Nat → Int32)} {s2 : Int32} {s3 : Rg} {s4 : Rg} (h : fX7_left g_archive_rooms v_archive_series v_archive_pieces g_planner_free g_planner_remaining v_planner_gaps v_planner_layings x1 = some (s0, s1, s2, s3, s4)) : CT l D cI cS yX7_left cX7_left 2 (some .int) rmX7_left [.ref (a 0), .int x1] [oX7 a a_archive a_history a_planner a_rows a_text a_page a_draft, oX0 a_archive a_archive_series a_archive_pieces a_archive_trial a_archive_moves g_archive_day, ar cI (a_archive 2) 8 g_archive_rooms, cR cI a_archive_series 10 v_archive_series, cR cI a_archive_pieces 42 v_archive_pieces, oX3 a_planner a_planner_gaps a_planner_layings g_planner_remaining, ar cI (a_planner 3) 8 g_planner_free, cR cI a_planner_gaps 41 v_planner_gaps, cR cI a_planner_layings 49 v_planner_layings] (some (.int s0)) [oX7 a a_archive a_history a_planner a_rows a_text a_page a_draft, oX0 a_archive a_archive_series a_archive_pieces a_archive_trial a_archive_moves g_archive_day, ar cI (a_archive 2) 8 g_archive_rooms, cR cI a_archive_series 10 v_archive_series, cR cI a_archive_pieces 42 v_archive_pieces, oX3 a_planner a_planner_gaps a_planner_layings s2, ar cI (a_planner 3) 8 s1, cR cI a_planner_gaps 41 s3, cR cI a_planner_layings 49 s4] := by
  refine CT.of RX7 (by decide) rfl (Nat.le_of_ble_eq_true rfl) (fun p e s m below meth c ls A C hA hl hw => ?_)
  have hx := C.1.1
  have hb := C.1.2.1
  have hl : lv_has ls 2 [(0, .ref (a 0)), (1, .int x1)] := hl
  unfold fX7_left at h
  refine lv_aload_n hx hb dX7_left_0 rfl (lv_at hl 0 rfl) ?_
  refine k_get C inT_X7 hw 0 rfl rfl 0 (by decide) mF_X7_12 rfl dX7_left_1 ?_
  refine lv_iload_n hx hb dX7_left_4 rfl (lv_at hl 1 rfl) ?_
  obtain ⟨r5, q5, h⟩ := bd h
  refine k_callV (nC := 9) [oX7 a a_archive a_history a_planner a_rows a_text a_page a_draft, oX0 a_archive a_archive_series a_archive_pieces a_archive_trial a_archive_moves g_archive_day, ar cI (a_archive 2) 8 g_archive_rooms, cR cI a_archive_series 10 v_archive_series, cR cI a_archive_pieces 42 v_archive_pieces, oX3 a_planner a_planner_gaps a_planner_layings g_planner_remaining, ar cI (a_planner 3) 8 g_planner_free, cR cI a_planner_gaps 41 v_planner_gaps, cR cI a_planner_layings 49 v_planner_layings] C hl.1 (tX0_isSeries (a := a_archive) (a_series := a_archive_series) (a_pieces := a_archive_pieces) (a_trial := a_archive_trial) (a_moves := a_archive_moves) q5) mL_X7_126 mmX0_isSeries rfl rfl ⟨Nat.le_of_ble_eq_true rfl, Nat.le_of_ble_eq_true rfl⟩ rfl rfl rfl rfl (Nat.le_of_ble_eq_true rfl) hA hw [1, 3] [0, 2, 4, 5, 6, 7, 8] rfl (by decide +kernel) rfl rfl rfl rfl dX7_left_5 (fun H locs hw5 => ?_)
  refine lv_if_ne (tgt := 14) hx hb dX7_left_8 (by decide) (fun c8 => ?_) (fun c8 => ?_)
  · replace h := br_f' h c8
    refine lv_aload_n hx hb dX7_left_14 rfl (lv_at hl 0 rfl) ?_
    refine k_get C inT_X7 hw5 0 rfl rfl 2 (by decide) mF_X7_26 rfl dX7_left_15 ?_
    refine lv_aload_n hx hb dX7_left_18 rfl (lv_at hl 0 rfl) ?_
    refine k_get C inT_X7 hw5 0 rfl rfl 0 (by decide) mF_X7_12 rfl dX7_left_19 ?_
    refine lv_iload_n hx hb dX7_left_22 rfl (lv_at hl 1 rfl) ?_
    obtain ⟨r23, q23, h⟩ := bd h
    refine k_callV (nC := 9) [oX7 a a_archive a_history a_planner a_rows a_text a_page a_draft, oX0 a_archive a_archive_series a_archive_pieces a_archive_trial a_archive_moves g_archive_day, ar cI (a_archive 2) 8 g_archive_rooms, cR cI a_archive_series 10 v_archive_series, cR cI a_archive_pieces 42 v_archive_pieces, oX3 a_planner a_planner_gaps a_planner_layings r23.2.1, ar cI (a_planner 3) 8 r23.1, cR cI a_planner_gaps 41 r23.2.2.1, cR cI a_planner_layings 49 r23.2.2.2] C hl.1 (tX3_makePlan (a := a_planner) (a_gaps := a_planner_gaps) (a_layings := a_planner_layings) (a_p1 := a_archive) (a_p1_series := a_archive_series) (a_p1_pieces := a_archive_pieces) (a_p1_trial := a_archive_trial) (a_p1_moves := a_archive_moves) q23) mL_X7_129 mmX3_makePlan rfl rfl ⟨Nat.le_of_ble_eq_true rfl, Nat.le_of_ble_eq_true rfl⟩ rfl rfl rfl rfl (Nat.le_of_ble_eq_true rfl) hA hw5 [5, 6, 7, 8, 1, 2, 3, 4] [0] rfl (by decide +kernel) rfl rfl rfl rfl dX7_left_23 (fun H locs hw23 => ?_)
    refine lv_aload_n hx hb dX7_left_26 rfl (lv_at hl 0 rfl) ?_
    refine k_get C inT_X7 hw23 0 rfl rfl 2 (by decide) mF_X7_26 rfl dX7_left_27 ?_
    obtain ⟨r30, q30, h⟩ := bd h
    refine k_callV (nC := 9) [oX7 a a_archive a_history a_planner a_rows a_text a_page a_draft, oX0 a_archive a_archive_series a_archive_pieces a_archive_trial a_archive_moves g_archive_day, ar cI (a_archive 2) 8 g_archive_rooms, cR cI a_archive_series 10 v_archive_series, cR cI a_archive_pieces 42 v_archive_pieces, oX3 a_planner a_planner_gaps a_planner_layings r23.2.1, ar cI (a_planner 3) 8 r23.1, cR cI a_planner_gaps 41 r23.2.2.1, cR cI a_planner_layings 49 r23.2.2.2] C hl.1 (tX3_remaining (a := a_planner) (a_gaps := a_planner_gaps) (a_layings := a_planner_layings) q30) mL_X7_276 mmX3_remaining rfl rfl ⟨Nat.le_of_ble_eq_true rfl, Nat.le_of_ble_eq_true rfl⟩ rfl rfl rfl rfl (Nat.le_of_ble_eq_true rfl) hA hw23 [5] [0, 1, 2, 3, 4, 6, 7, 8] rfl (by decide +kernel) rfl rfl rfl rfl dX7_left_30 (fun H locs hw30 => ?_)
    cases h
    exact k_iret C hw30 dX7_left_33
  · replace h := br_t' h c8
    refine lv_bipush (v := (-2)) hx hb dX7_left_11 (by decide) ?_
    cases h
    exact k_iret C hw5 dX7_left_13
def rmJ6_bitCount_0f7a4 : Room := { frames := 0, cells := 0, slots := 0, locals := 0 }
def fJ6_bitCount_0f7a4 (x0 : Int32) : Option (Int32) :=
  (some (((x0 - ((iush x0 1) &&& 1431655765)) &&& 858993459) + ((iush (x0 - ((iush x0 1) &&& 1431655765)) 2) &&& 858993459))).bind fun w23 =>
  (some (((w23 + (iush w23 4)) &&& 252645135) + (iush ((w23 + (iush w23 4)) &&& 252645135) 8))).bind fun w40 =>
  some ((w40 + (iush w40 16)) &&& 63)
set_option maxRecDepth 100000 in
set_option maxHeartbeats 4000000 in
theorem tJ6_bitCount_0f7a4 {l : Launch} {D : va_G} {cI : ClassId} {cS : GS}  {x0 : Int32} {s0 : Int32} (h : fJ6_bitCount_0f7a4 x0 = some s0) : CT l D cI cS yJ6_bitCount_0f7a4 cJ6_bitCount_0f7a4 1 (some .int) rmJ6_bitCount_0f7a4 [.int x0] [] (some (.int s0)) [] := by
  refine CT.of RJ6 (by decide) rfl (Nat.le_of_ble_eq_true rfl) (fun p e s m below meth c ls A C hA hl hw => ?_)
  have hx := C.1.1
  have hb := C.1.2.1
  have hl : lv_has ls 1 [(0, .int x0)] := hl
  unfold fJ6_bitCount_0f7a4 at h
  refine lv_iload_n hx hb dJ6_bitCount_0f7a4_0 rfl (lv_at hl 0 rfl) ?_
  refine lv_iload_n hx hb dJ6_bitCount_0f7a4_1 rfl (lv_at hl 0 rfl) ?_
  refine lv_iconst (v := 1) hx hb dJ6_bitCount_0f7a4_2 (by decide) ?_
  refine lv_iushr (v := (iush x0 1)) hx hb dJ6_bitCount_0f7a4_3 rfl ?_
  refine k_ldc_w C mC_J6_265 dJ6_bitCount_0f7a4_4 ?_
  refine lv_iand hx hb dJ6_bitCount_0f7a4_7 ?_
  refine lv_isub hx hb dJ6_bitCount_0f7a4_8 ?_
  refine lv_istore_n (lv' := [(0, .int (x0 - ((iush x0 1) &&& 1431655765)))]) hx hb dJ6_bitCount_0f7a4_9 rfl hl (by decide) rfl (fun ls hl => ?_)
  refine lv_iload_n hx hb dJ6_bitCount_0f7a4_10 rfl (lv_at hl 0 rfl) ?_
  refine k_ldc_w C mC_J6_266 dJ6_bitCount_0f7a4_11 ?_
  refine lv_iand hx hb dJ6_bitCount_0f7a4_14 ?_
  refine lv_iload_n hx hb dJ6_bitCount_0f7a4_15 rfl (lv_at hl 0 rfl) ?_
  refine lv_iconst (v := 2) hx hb dJ6_bitCount_0f7a4_16 (by decide) ?_
  refine lv_iushr (v := (iush (x0 - ((iush x0 1) &&& 1431655765)) 2)) hx hb dJ6_bitCount_0f7a4_17 rfl ?_
  refine k_ldc_w C mC_J6_266 dJ6_bitCount_0f7a4_18 ?_
  refine lv_iand hx hb dJ6_bitCount_0f7a4_21 ?_
  refine lv_iadd hx hb dJ6_bitCount_0f7a4_22 ?_
  obtain ⟨w23, q23, h⟩ := bd h
  refine k_nm q23 ?_
  refine lv_istore_n (lv' := [(0, .int w23)]) hx hb dJ6_bitCount_0f7a4_23 rfl hl (by decide) rfl (fun ls hl => ?_)
  refine lv_iload_n hx hb dJ6_bitCount_0f7a4_24 rfl (lv_at hl 0 rfl) ?_
  refine lv_iload_n hx hb dJ6_bitCount_0f7a4_25 rfl (lv_at hl 0 rfl) ?_
  refine lv_iconst (v := 4) hx hb dJ6_bitCount_0f7a4_26 (by decide) ?_
  refine lv_iushr (v := (iush w23 4)) hx hb dJ6_bitCount_0f7a4_27 rfl ?_
  refine lv_iadd hx hb dJ6_bitCount_0f7a4_28 ?_
  refine k_ldc_w C mC_J6_267 dJ6_bitCount_0f7a4_29 ?_
  refine lv_iand hx hb dJ6_bitCount_0f7a4_32 ?_
  refine lv_istore_n (lv' := [(0, .int ((w23 + (iush w23 4)) &&& 252645135))]) hx hb dJ6_bitCount_0f7a4_33 rfl hl (by decide) rfl (fun ls hl => ?_)
  refine lv_iload_n hx hb dJ6_bitCount_0f7a4_34 rfl (lv_at hl 0 rfl) ?_
  refine lv_iload_n hx hb dJ6_bitCount_0f7a4_35 rfl (lv_at hl 0 rfl) ?_
  refine lv_bipush (v := 8) hx hb dJ6_bitCount_0f7a4_36 (by decide) ?_
  refine lv_iushr (v := (iush ((w23 + (iush w23 4)) &&& 252645135) 8)) hx hb dJ6_bitCount_0f7a4_38 rfl ?_
  refine lv_iadd hx hb dJ6_bitCount_0f7a4_39 ?_
  obtain ⟨w40, q40, h⟩ := bd h
  refine k_nm q40 ?_
  refine lv_istore_n (lv' := [(0, .int w40)]) hx hb dJ6_bitCount_0f7a4_40 rfl hl (by decide) rfl (fun ls hl => ?_)
  refine lv_iload_n hx hb dJ6_bitCount_0f7a4_41 rfl (lv_at hl 0 rfl) ?_
  refine lv_iload_n hx hb dJ6_bitCount_0f7a4_42 rfl (lv_at hl 0 rfl) ?_
  refine lv_bipush (v := 16) hx hb dJ6_bitCount_0f7a4_43 (by decide) ?_
  refine lv_iushr (v := (iush w40 16)) hx hb dJ6_bitCount_0f7a4_45 rfl ?_
  refine lv_iadd hx hb dJ6_bitCount_0f7a4_46 ?_
  refine lv_istore_n (lv' := [(0, .int (w40 + (iush w40 16)))]) hx hb dJ6_bitCount_0f7a4_47 rfl hl (by decide) rfl (fun ls hl => ?_)
  refine lv_iload_n hx hb dJ6_bitCount_0f7a4_48 rfl (lv_at hl 0 rfl) ?_
  refine lv_bipush (v := 63) hx hb dJ6_bitCount_0f7a4_49 (by decide) ?_
  refine lv_iand hx hb dJ6_bitCount_0f7a4_51 ?_
  cases h
  exact k_iret C hw dJ6_bitCount_0f7a4_52
def rmX7_count : Room := { frames := 4, cells := 0, slots := 0, locals := 87 }
def fX7_count (g_archive_day : Int32) (v_archive_series : Rg) (v_archive_pieces : Rg) (v_archive_moves : Rg) (g_history_steps : Int32) (v_rows : Rg) (g_text_length : Int32) (g_page_length : Int32) (x1 : Int32) : Option (Int32) :=
  if x1 = 0 then
    (fX0_seriesCount v_archive_series).bind fun r68 =>
    some r68
  else
  if x1 = 1 then
    (fX0_pieces).bind fun r76 =>
    (fX4_size 42 v_archive_pieces).bind fun r79 =>
    some r79
  else
  if x1 = 2 then
    (fX0_moves).bind fun r87 =>
    (fX4_size 100 v_archive_moves).bind fun r90 =>
    some r90
  else
  if x1 = 3 then
    (fX0_today g_archive_day).bind fun r98 =>
    some r98
  else
  if x1 = 4 then
    (fX4_size 12 v_rows).bind fun r106 =>
    some r106
  else
  if x1 = 5 then
    (fX0_pieces).bind fun r114 =>
    (fX4_sheetsIn 42 v_archive_pieces (-100) 1 2000000000).bind fun r123 =>
    some r123
  else
  if x1 = 6 then
    (fX0_ownIn v_archive_series v_archive_pieces (-1) (-100)).bind fun r134 =>
    some r134
  else
  if x1 = 7 then
    (fX0_pieces).bind fun r142 =>
    (fX4_marksWithin 42 v_archive_pieces 1 2000000000).bind fun r149 =>
    (fJ6_bitCount_0f7a4 r149).bind fun r152 =>
    some r152
  else
  if x1 = 8 then
    (fX7_clashingPairs v_rows).bind fun r157 =>
    some r157
  else
  if x1 = 9 then
    (fX2_length g_page_length).bind fun r165 =>
    some r165
  else
  if x1 = 10 then
    (fX1_steps g_history_steps).bind fun r173 =>
    some r173
  else
  if x1 = 11 then
    (fX6_length g_text_length).bind fun r181 =>
    some r181
  else
    some (-3)
set_option maxRecDepth 100000 in
set_option maxHeartbeats 4000000 in
theorem tX7_count {l : Launch} {D : va_G} {cI : ClassId} {cS : GS} {a : Nat → Nat} {a_archive : Nat → Nat} {a_history : Nat → Nat} {a_planner : Nat → Nat} {a_rows : Nat → Nat} {a_text : Nat → Nat} {a_page : Nat → Nat} {a_draft : Nat → Nat} {a_archive_series : Nat → Nat} {a_archive_pieces : Nat → Nat} {a_archive_trial : Nat → Nat} {a_archive_moves : Nat → Nat} {g_archive_day : Int32} {v_archive_series : Rg} {v_archive_pieces : Rg} {v_archive_moves : Rg} {g_history_top : Int32} {g_history_steps : Int32} {v_rows : Rg} {g_text_length : Int32} {g_text_commandCount : Int32} {g_text_at : Int32} {g_page_length : Int32} {g_page_latest : Int32} {x1 : Int32} {s0 : Int32} (h : fX7_count g_archive_day v_archive_series v_archive_pieces v_archive_moves g_history_steps v_rows g_text_length g_page_length x1 = some s0) : CT l D cI cS yX7_count cX7_count 2 (some .int) rmX7_count [.ref (a 0), .int x1] [oX7 a a_archive a_history a_planner a_rows a_text a_page a_draft, oX0 a_archive a_archive_series a_archive_pieces a_archive_trial a_archive_moves g_archive_day, cR cI a_archive_series 10 v_archive_series, cR cI a_archive_pieces 42 v_archive_pieces, cR cI a_archive_moves 100 v_archive_moves, oX1 a_history g_history_top g_history_steps, cR cI a_rows 12 v_rows, oX6 a_text g_text_length g_text_commandCount g_text_at, oX2 a_page g_page_length g_page_latest] (some (.int s0)) [oX7 a a_archive a_history a_planner a_rows a_text a_page a_draft, oX0 a_archive a_archive_series a_archive_pieces a_archive_trial a_archive_moves g_archive_day, cR cI a_archive_series 10 v_archive_series, cR cI a_archive_pieces 42 v_archive_pieces, cR cI a_archive_moves 100 v_archive_moves, oX1 a_history g_history_top g_history_steps, cR cI a_rows 12 v_rows, oX6 a_text g_text_length g_text_commandCount g_text_at, oX2 a_page g_page_length g_page_latest] := by
  refine CT.of RX7 (by decide) rfl (Nat.le_of_ble_eq_true rfl) (fun p e s m below meth c ls A C hA hl hw => ?_)
  have hx := C.1.1
  have hb := C.1.2.1
  have hl : lv_has ls 2 [(0, .ref (a 0)), (1, .int x1)] := hl
  unfold fX7_count at h
  refine lv_iload_n hx hb dX7_count_0 rfl (lv_at hl 1 rfl) ?_
  by_cases c1_0 : x1 = 0
  · replace h := br_t' h c1_0
    refine lv_tableIn (tgt := 64) hx hb dX7_count_1 (by rw [c1_0]; decide) (by rw [c1_0]; decide) (off := 63) (by rw [c1_0]; decide) (by decide) ?_
    refine lv_aload_n hx hb dX7_count_64 rfl (lv_at hl 0 rfl) ?_
    refine k_get C inT_X7 hw 0 rfl rfl 0 (by decide) mF_X7_12 rfl dX7_count_65 ?_
    obtain ⟨r68, q68, h⟩ := bd h
    refine k_callV (nC := 9) [oX7 a a_archive a_history a_planner a_rows a_text a_page a_draft, oX0 a_archive a_archive_series a_archive_pieces a_archive_trial a_archive_moves g_archive_day, cR cI a_archive_series 10 v_archive_series, cR cI a_archive_pieces 42 v_archive_pieces, cR cI a_archive_moves 100 v_archive_moves, oX1 a_history g_history_top g_history_steps, cR cI a_rows 12 v_rows, oX6 a_text g_text_length g_text_commandCount g_text_at, oX2 a_page g_page_length g_page_latest] C hl.1 (tX0_seriesCount (a := a_archive) (a_series := a_archive_series) (a_pieces := a_archive_pieces) (a_trial := a_archive_trial) (a_moves := a_archive_moves) q68) mL_X7_279 mmX0_seriesCount rfl rfl ⟨Nat.le_of_ble_eq_true rfl, Nat.le_of_ble_eq_true rfl⟩ rfl rfl rfl rfl (Nat.le_of_ble_eq_true rfl) hA hw [1, 2] [0, 3, 4, 5, 6, 7, 8] rfl (by decide +kernel) rfl rfl rfl rfl dX7_count_68 (fun H locs hw68 => ?_)
    cases h
    exact k_iret C hw68 dX7_count_71
  replace h := br_f' h c1_0
  by_cases c1_1 : x1 = 1
  · replace h := br_t' h c1_1
    refine lv_tableIn (tgt := 72) hx hb dX7_count_1 (by rw [c1_1]; decide) (by rw [c1_1]; decide) (off := 71) (by rw [c1_1]; decide) (by decide) ?_
    refine lv_aload_n hx hb dX7_count_72 rfl (lv_at hl 0 rfl) ?_
    refine k_get C inT_X7 hw 0 rfl rfl 0 (by decide) mF_X7_12 rfl dX7_count_73 ?_
    obtain ⟨r76, q76, h⟩ := bd h
    refine k_callV (nC := 9) [oX7 a a_archive a_history a_planner a_rows a_text a_page a_draft, oX0 a_archive a_archive_series a_archive_pieces a_archive_trial a_archive_moves g_archive_day, cR cI a_archive_series 10 v_archive_series, cR cI a_archive_pieces 42 v_archive_pieces, cR cI a_archive_moves 100 v_archive_moves, oX1 a_history g_history_top g_history_steps, cR cI a_rows 12 v_rows, oX6 a_text g_text_length g_text_commandCount g_text_at, oX2 a_page g_page_length g_page_latest] C hl.1 (tX0_pieces (a := a_archive) (a_series := a_archive_series) (a_pieces := a_archive_pieces) (a_trial := a_archive_trial) (a_moves := a_archive_moves) q76) mL_X7_169 mmX0_pieces rfl rfl ⟨Nat.le_of_ble_eq_true rfl, Nat.le_of_ble_eq_true rfl⟩ rfl rfl rfl rfl (Nat.le_of_ble_eq_true rfl) hA hw [1] [0, 2, 3, 4, 5, 6, 7, 8] rfl (by decide +kernel) rfl rfl rfl rfl dX7_count_76 (fun H locs hw76 => ?_)
    obtain ⟨r79, q79, h⟩ := bd h
    refine k_callV (nC := 9) [oX7 a a_archive a_history a_planner a_rows a_text a_page a_draft, oX0 a_archive a_archive_series a_archive_pieces a_archive_trial a_archive_moves g_archive_day, cR cI a_archive_series 10 v_archive_series, cR cI a_archive_pieces 42 v_archive_pieces, cR cI a_archive_moves 100 v_archive_moves, oX1 a_history g_history_top g_history_steps, cR cI a_rows 12 v_rows, oX6 a_text g_text_length g_text_commandCount g_text_at, oX2 a_page g_page_length g_page_latest] C hl.1 (tX4_size (a := a_archive_pieces) q79) mL_X7_184 mmX4_size rfl rfl ⟨Nat.le_of_ble_eq_true rfl, Nat.le_of_ble_eq_true rfl⟩ rfl rfl rfl rfl (Nat.le_of_ble_eq_true rfl) hA hw76 [3] [0, 1, 2, 4, 5, 6, 7, 8] rfl (by decide +kernel) rfl rfl rfl rfl dX7_count_79 (fun H locs hw79 => ?_)
    cases h
    exact k_iret C hw79 dX7_count_82
  replace h := br_f' h c1_1
  by_cases c1_2 : x1 = 2
  · replace h := br_t' h c1_2
    refine lv_tableIn (tgt := 83) hx hb dX7_count_1 (by rw [c1_2]; decide) (by rw [c1_2]; decide) (off := 82) (by rw [c1_2]; decide) (by decide) ?_
    refine lv_aload_n hx hb dX7_count_83 rfl (lv_at hl 0 rfl) ?_
    refine k_get C inT_X7 hw 0 rfl rfl 0 (by decide) mF_X7_12 rfl dX7_count_84 ?_
    obtain ⟨r87, q87, h⟩ := bd h
    refine k_callV (nC := 9) [oX7 a a_archive a_history a_planner a_rows a_text a_page a_draft, oX0 a_archive a_archive_series a_archive_pieces a_archive_trial a_archive_moves g_archive_day, cR cI a_archive_series 10 v_archive_series, cR cI a_archive_pieces 42 v_archive_pieces, cR cI a_archive_moves 100 v_archive_moves, oX1 a_history g_history_top g_history_steps, cR cI a_rows 12 v_rows, oX6 a_text g_text_length g_text_commandCount g_text_at, oX2 a_page g_page_length g_page_latest] C hl.1 (tX0_moves (a := a_archive) (a_series := a_archive_series) (a_pieces := a_archive_pieces) (a_trial := a_archive_trial) (a_moves := a_archive_moves) q87) mL_X7_233 mmX0_moves rfl rfl ⟨Nat.le_of_ble_eq_true rfl, Nat.le_of_ble_eq_true rfl⟩ rfl rfl rfl rfl (Nat.le_of_ble_eq_true rfl) hA hw [1] [0, 2, 3, 4, 5, 6, 7, 8] rfl (by decide +kernel) rfl rfl rfl rfl dX7_count_87 (fun H locs hw87 => ?_)
    obtain ⟨r90, q90, h⟩ := bd h
    refine k_callV (nC := 9) [oX7 a a_archive a_history a_planner a_rows a_text a_page a_draft, oX0 a_archive a_archive_series a_archive_pieces a_archive_trial a_archive_moves g_archive_day, cR cI a_archive_series 10 v_archive_series, cR cI a_archive_pieces 42 v_archive_pieces, cR cI a_archive_moves 100 v_archive_moves, oX1 a_history g_history_top g_history_steps, cR cI a_rows 12 v_rows, oX6 a_text g_text_length g_text_commandCount g_text_at, oX2 a_page g_page_length g_page_latest] C hl.1 (tX4_size (a := a_archive_moves) q90) mL_X7_184 mmX4_size rfl rfl ⟨Nat.le_of_ble_eq_true rfl, Nat.le_of_ble_eq_true rfl⟩ rfl rfl rfl rfl (Nat.le_of_ble_eq_true rfl) hA hw87 [4] [0, 1, 2, 3, 5, 6, 7, 8] rfl (by decide +kernel) rfl rfl rfl rfl dX7_count_90 (fun H locs hw90 => ?_)
    cases h
    exact k_iret C hw90 dX7_count_93
  replace h := br_f' h c1_2
  by_cases c1_3 : x1 = 3
  · replace h := br_t' h c1_3
    refine lv_tableIn (tgt := 94) hx hb dX7_count_1 (by rw [c1_3]; decide) (by rw [c1_3]; decide) (off := 93) (by rw [c1_3]; decide) (by decide) ?_
    refine lv_aload_n hx hb dX7_count_94 rfl (lv_at hl 0 rfl) ?_
    refine k_get C inT_X7 hw 0 rfl rfl 0 (by decide) mF_X7_12 rfl dX7_count_95 ?_
    obtain ⟨r98, q98, h⟩ := bd h
    refine k_callV (nC := 9) [oX7 a a_archive a_history a_planner a_rows a_text a_page a_draft, oX0 a_archive a_archive_series a_archive_pieces a_archive_trial a_archive_moves g_archive_day, cR cI a_archive_series 10 v_archive_series, cR cI a_archive_pieces 42 v_archive_pieces, cR cI a_archive_moves 100 v_archive_moves, oX1 a_history g_history_top g_history_steps, cR cI a_rows 12 v_rows, oX6 a_text g_text_length g_text_commandCount g_text_at, oX2 a_page g_page_length g_page_latest] C hl.1 (tX0_today (a := a_archive) (a_series := a_archive_series) (a_pieces := a_archive_pieces) (a_trial := a_archive_trial) (a_moves := a_archive_moves) q98) mL_X7_282 mmX0_today rfl rfl ⟨Nat.le_of_ble_eq_true rfl, Nat.le_of_ble_eq_true rfl⟩ rfl rfl rfl rfl (Nat.le_of_ble_eq_true rfl) hA hw [1] [0, 2, 3, 4, 5, 6, 7, 8] rfl (by decide +kernel) rfl rfl rfl rfl dX7_count_98 (fun H locs hw98 => ?_)
    cases h
    exact k_iret C hw98 dX7_count_101
  replace h := br_f' h c1_3
  by_cases c1_4 : x1 = 4
  · replace h := br_t' h c1_4
    refine lv_tableIn (tgt := 102) hx hb dX7_count_1 (by rw [c1_4]; decide) (by rw [c1_4]; decide) (off := 101) (by rw [c1_4]; decide) (by decide) ?_
    refine lv_aload_n hx hb dX7_count_102 rfl (lv_at hl 0 rfl) ?_
    refine k_get C inT_X7 hw 0 rfl rfl 3 (by decide) mF_X7_35 rfl dX7_count_103 ?_
    obtain ⟨r106, q106, h⟩ := bd h
    refine k_callV (nC := 9) [oX7 a a_archive a_history a_planner a_rows a_text a_page a_draft, oX0 a_archive a_archive_series a_archive_pieces a_archive_trial a_archive_moves g_archive_day, cR cI a_archive_series 10 v_archive_series, cR cI a_archive_pieces 42 v_archive_pieces, cR cI a_archive_moves 100 v_archive_moves, oX1 a_history g_history_top g_history_steps, cR cI a_rows 12 v_rows, oX6 a_text g_text_length g_text_commandCount g_text_at, oX2 a_page g_page_length g_page_latest] C hl.1 (tX4_size (a := a_rows) q106) mL_X7_184 mmX4_size rfl rfl ⟨Nat.le_of_ble_eq_true rfl, Nat.le_of_ble_eq_true rfl⟩ rfl rfl rfl rfl (Nat.le_of_ble_eq_true rfl) hA hw [6] [0, 1, 2, 3, 4, 5, 7, 8] rfl (by decide +kernel) rfl rfl rfl rfl dX7_count_106 (fun H locs hw106 => ?_)
    cases h
    exact k_iret C hw106 dX7_count_109
  replace h := br_f' h c1_4
  by_cases c1_5 : x1 = 5
  · replace h := br_t' h c1_5
    refine lv_tableIn (tgt := 110) hx hb dX7_count_1 (by rw [c1_5]; decide) (by rw [c1_5]; decide) (off := 109) (by rw [c1_5]; decide) (by decide) ?_
    refine lv_aload_n hx hb dX7_count_110 rfl (lv_at hl 0 rfl) ?_
    refine k_get C inT_X7 hw 0 rfl rfl 0 (by decide) mF_X7_12 rfl dX7_count_111 ?_
    obtain ⟨r114, q114, h⟩ := bd h
    refine k_callV (nC := 9) [oX7 a a_archive a_history a_planner a_rows a_text a_page a_draft, oX0 a_archive a_archive_series a_archive_pieces a_archive_trial a_archive_moves g_archive_day, cR cI a_archive_series 10 v_archive_series, cR cI a_archive_pieces 42 v_archive_pieces, cR cI a_archive_moves 100 v_archive_moves, oX1 a_history g_history_top g_history_steps, cR cI a_rows 12 v_rows, oX6 a_text g_text_length g_text_commandCount g_text_at, oX2 a_page g_page_length g_page_latest] C hl.1 (tX0_pieces (a := a_archive) (a_series := a_archive_series) (a_pieces := a_archive_pieces) (a_trial := a_archive_trial) (a_moves := a_archive_moves) q114) mL_X7_169 mmX0_pieces rfl rfl ⟨Nat.le_of_ble_eq_true rfl, Nat.le_of_ble_eq_true rfl⟩ rfl rfl rfl rfl (Nat.le_of_ble_eq_true rfl) hA hw [1] [0, 2, 3, 4, 5, 6, 7, 8] rfl (by decide +kernel) rfl rfl rfl rfl dX7_count_114 (fun H locs hw114 => ?_)
    refine lv_bipush (v := (-100)) hx hb dX7_count_117 (by decide) ?_
    refine lv_iconst (v := 1) hx hb dX7_count_119 (by decide) ?_
    refine k_ldc_w C mC_X7_285 dX7_count_120 ?_
    obtain ⟨r123, q123, h⟩ := bd h
    refine k_callV (nC := 9) [oX7 a a_archive a_history a_planner a_rows a_text a_page a_draft, oX0 a_archive a_archive_series a_archive_pieces a_archive_trial a_archive_moves g_archive_day, cR cI a_archive_series 10 v_archive_series, cR cI a_archive_pieces 42 v_archive_pieces, cR cI a_archive_moves 100 v_archive_moves, oX1 a_history g_history_top g_history_steps, cR cI a_rows 12 v_rows, oX6 a_text g_text_length g_text_commandCount g_text_at, oX2 a_page g_page_length g_page_latest] C hl.1 (tX4_sheetsIn (a := a_archive_pieces) q123) mL_X7_175 mmX4_sheetsIn rfl rfl ⟨Nat.le_of_ble_eq_true rfl, Nat.le_of_ble_eq_true rfl⟩ rfl rfl rfl rfl (Nat.le_of_ble_eq_true rfl) hA hw114 [3] [0, 1, 2, 4, 5, 6, 7, 8] rfl (by decide +kernel) rfl rfl rfl rfl dX7_count_123 (fun H locs hw123 => ?_)
    cases h
    exact k_iret C hw123 dX7_count_126
  replace h := br_f' h c1_5
  by_cases c1_6 : x1 = 6
  · replace h := br_t' h c1_6
    refine lv_tableIn (tgt := 127) hx hb dX7_count_1 (by rw [c1_6]; decide) (by rw [c1_6]; decide) (off := 126) (by rw [c1_6]; decide) (by decide) ?_
    refine lv_aload_n hx hb dX7_count_127 rfl (lv_at hl 0 rfl) ?_
    refine k_get C inT_X7 hw 0 rfl rfl 0 (by decide) mF_X7_12 rfl dX7_count_128 ?_
    refine lv_iconst (v := (-1)) hx hb dX7_count_131 (by decide) ?_
    refine lv_bipush (v := (-100)) hx hb dX7_count_132 (by decide) ?_
    obtain ⟨r134, q134, h⟩ := bd h
    refine k_callV (nC := 9) [oX7 a a_archive a_history a_planner a_rows a_text a_page a_draft, oX0 a_archive a_archive_series a_archive_pieces a_archive_trial a_archive_moves g_archive_day, cR cI a_archive_series 10 v_archive_series, cR cI a_archive_pieces 42 v_archive_pieces, cR cI a_archive_moves 100 v_archive_moves, oX1 a_history g_history_top g_history_steps, cR cI a_rows 12 v_rows, oX6 a_text g_text_length g_text_commandCount g_text_at, oX2 a_page g_page_length g_page_latest] C hl.1 (tX0_ownIn (a := a_archive) (a_series := a_archive_series) (a_pieces := a_archive_pieces) (a_trial := a_archive_trial) (a_moves := a_archive_moves) q134) mL_X7_286 mmX0_ownIn rfl rfl ⟨Nat.le_of_ble_eq_true rfl, Nat.le_of_ble_eq_true rfl⟩ rfl rfl rfl rfl (Nat.le_of_ble_eq_true rfl) hA hw [1, 2, 3] [0, 4, 5, 6, 7, 8] rfl (by decide +kernel) rfl rfl rfl rfl dX7_count_134 (fun H locs hw134 => ?_)
    cases h
    exact k_iret C hw134 dX7_count_137
  replace h := br_f' h c1_6
  by_cases c1_7 : x1 = 7
  · replace h := br_t' h c1_7
    refine lv_tableIn (tgt := 138) hx hb dX7_count_1 (by rw [c1_7]; decide) (by rw [c1_7]; decide) (off := 137) (by rw [c1_7]; decide) (by decide) ?_
    refine lv_aload_n hx hb dX7_count_138 rfl (lv_at hl 0 rfl) ?_
    refine k_get C inT_X7 hw 0 rfl rfl 0 (by decide) mF_X7_12 rfl dX7_count_139 ?_
    obtain ⟨r142, q142, h⟩ := bd h
    refine k_callV (nC := 9) [oX7 a a_archive a_history a_planner a_rows a_text a_page a_draft, oX0 a_archive a_archive_series a_archive_pieces a_archive_trial a_archive_moves g_archive_day, cR cI a_archive_series 10 v_archive_series, cR cI a_archive_pieces 42 v_archive_pieces, cR cI a_archive_moves 100 v_archive_moves, oX1 a_history g_history_top g_history_steps, cR cI a_rows 12 v_rows, oX6 a_text g_text_length g_text_commandCount g_text_at, oX2 a_page g_page_length g_page_latest] C hl.1 (tX0_pieces (a := a_archive) (a_series := a_archive_series) (a_pieces := a_archive_pieces) (a_trial := a_archive_trial) (a_moves := a_archive_moves) q142) mL_X7_169 mmX0_pieces rfl rfl ⟨Nat.le_of_ble_eq_true rfl, Nat.le_of_ble_eq_true rfl⟩ rfl rfl rfl rfl (Nat.le_of_ble_eq_true rfl) hA hw [1] [0, 2, 3, 4, 5, 6, 7, 8] rfl (by decide +kernel) rfl rfl rfl rfl dX7_count_142 (fun H locs hw142 => ?_)
    refine lv_iconst (v := 1) hx hb dX7_count_145 (by decide) ?_
    refine k_ldc_w C mC_X7_285 dX7_count_146 ?_
    obtain ⟨r149, q149, h⟩ := bd h
    refine k_callV (nC := 9) [oX7 a a_archive a_history a_planner a_rows a_text a_page a_draft, oX0 a_archive a_archive_series a_archive_pieces a_archive_trial a_archive_moves g_archive_day, cR cI a_archive_series 10 v_archive_series, cR cI a_archive_pieces 42 v_archive_pieces, cR cI a_archive_moves 100 v_archive_moves, oX1 a_history g_history_top g_history_steps, cR cI a_rows 12 v_rows, oX6 a_text g_text_length g_text_commandCount g_text_at, oX2 a_page g_page_length g_page_latest] C hl.1 (tX4_marksWithin (a := a_archive_pieces) q149) mL_X7_172 mmX4_marksWithin rfl rfl ⟨Nat.le_of_ble_eq_true rfl, Nat.le_of_ble_eq_true rfl⟩ rfl rfl rfl rfl (Nat.le_of_ble_eq_true rfl) hA hw142 [3] [0, 1, 2, 4, 5, 6, 7, 8] rfl (by decide +kernel) rfl rfl rfl rfl dX7_count_149 (fun H locs hw149 => ?_)
    obtain ⟨r152, q152, h⟩ := bd h
    refine k_callS (nC := 9) [oX7 a a_archive a_history a_planner a_rows a_text a_page a_draft, oX0 a_archive a_archive_series a_archive_pieces a_archive_trial a_archive_moves g_archive_day, cR cI a_archive_series 10 v_archive_series, cR cI a_archive_pieces 42 v_archive_pieces, cR cI a_archive_moves 100 v_archive_moves, oX1 a_history g_history_top g_history_steps, cR cI a_rows 12 v_rows, oX6 a_text g_text_length g_text_commandCount g_text_at, oX2 a_page g_page_length g_page_latest] C hl.1 (tJ6_bitCount_0f7a4 q152) mL_X7_289 mmJ6_bitCount_0f7a4 rfl rfl ⟨Nat.le_of_ble_eq_true rfl, Nat.le_of_ble_eq_true rfl⟩ rfl rfl (Nat.le_of_ble_eq_true rfl) hA hw149 [] [0, 1, 2, 3, 4, 5, 6, 7, 8] rfl (by decide +kernel) rfl rfl rfl rfl dX7_count_152 (fun H locs hw152 => ?_)
    cases h
    exact k_iret C hw152 dX7_count_155
  replace h := br_f' h c1_7
  by_cases c1_8 : x1 = 8
  · replace h := br_t' h c1_8
    refine lv_tableIn (tgt := 156) hx hb dX7_count_1 (by rw [c1_8]; decide) (by rw [c1_8]; decide) (off := 155) (by rw [c1_8]; decide) (by decide) ?_
    refine lv_aload_n hx hb dX7_count_156 rfl (lv_at hl 0 rfl) ?_
    obtain ⟨r157, q157, h⟩ := bd h
    refine k_callV (nC := 9) [oX7 a a_archive a_history a_planner a_rows a_text a_page a_draft, oX0 a_archive a_archive_series a_archive_pieces a_archive_trial a_archive_moves g_archive_day, cR cI a_archive_series 10 v_archive_series, cR cI a_archive_pieces 42 v_archive_pieces, cR cI a_archive_moves 100 v_archive_moves, oX1 a_history g_history_top g_history_steps, cR cI a_rows 12 v_rows, oX6 a_text g_text_length g_text_commandCount g_text_at, oX2 a_page g_page_length g_page_latest] C hl.1 (tX7_clashingPairs (a := a) (a_archive := a_archive) (a_history := a_history) (a_planner := a_planner) (a_rows := a_rows) (a_text := a_text) (a_page := a_page) (a_draft := a_draft) q157) mL_X7_294 mmX7_clashingPairs rfl rfl ⟨Nat.le_of_ble_eq_true rfl, Nat.le_of_ble_eq_true rfl⟩ rfl rfl rfl rfl (Nat.le_of_ble_eq_true rfl) hA hw [0, 6] [1, 2, 3, 4, 5, 7, 8] rfl (by decide +kernel) rfl rfl rfl rfl dX7_count_157 (fun H locs hw157 => ?_)
    cases h
    exact k_iret C hw157 dX7_count_160
  replace h := br_f' h c1_8
  by_cases c1_9 : x1 = 9
  · replace h := br_t' h c1_9
    refine lv_tableIn (tgt := 161) hx hb dX7_count_1 (by rw [c1_9]; decide) (by rw [c1_9]; decide) (off := 160) (by rw [c1_9]; decide) (by decide) ?_
    refine lv_aload_n hx hb dX7_count_161 rfl (lv_at hl 0 rfl) ?_
    refine k_get C inT_X7 hw 0 rfl rfl 5 (by decide) mF_X7_49 rfl dX7_count_162 ?_
    obtain ⟨r165, q165, h⟩ := bd h
    refine k_callV (nC := 9) [oX7 a a_archive a_history a_planner a_rows a_text a_page a_draft, oX0 a_archive a_archive_series a_archive_pieces a_archive_trial a_archive_moves g_archive_day, cR cI a_archive_series 10 v_archive_series, cR cI a_archive_pieces 42 v_archive_pieces, cR cI a_archive_moves 100 v_archive_moves, oX1 a_history g_history_top g_history_steps, cR cI a_rows 12 v_rows, oX6 a_text g_text_length g_text_commandCount g_text_at, oX2 a_page g_page_length g_page_latest] C hl.1 (tX2_length (a := a_page) q165) mL_X7_268 mmX2_length rfl rfl ⟨Nat.le_of_ble_eq_true rfl, Nat.le_of_ble_eq_true rfl⟩ rfl rfl rfl rfl (Nat.le_of_ble_eq_true rfl) hA hw [8] [0, 1, 2, 3, 4, 5, 6, 7] rfl (by decide +kernel) rfl rfl rfl rfl dX7_count_165 (fun H locs hw165 => ?_)
    cases h
    exact k_iret C hw165 dX7_count_168
  replace h := br_f' h c1_9
  by_cases c1_10 : x1 = 10
  · replace h := br_t' h c1_10
    refine lv_tableIn (tgt := 169) hx hb dX7_count_1 (by rw [c1_10]; decide) (by rw [c1_10]; decide) (off := 168) (by rw [c1_10]; decide) (by decide) ?_
    refine lv_aload_n hx hb dX7_count_169 rfl (lv_at hl 0 rfl) ?_
    refine k_get C inT_X7 hw 0 rfl rfl 1 (by decide) mF_X7_19 rfl dX7_count_170 ?_
    obtain ⟨r173, q173, h⟩ := bd h
    refine k_callV (nC := 9) [oX7 a a_archive a_history a_planner a_rows a_text a_page a_draft, oX0 a_archive a_archive_series a_archive_pieces a_archive_trial a_archive_moves g_archive_day, cR cI a_archive_series 10 v_archive_series, cR cI a_archive_pieces 42 v_archive_pieces, cR cI a_archive_moves 100 v_archive_moves, oX1 a_history g_history_top g_history_steps, cR cI a_rows 12 v_rows, oX6 a_text g_text_length g_text_commandCount g_text_at, oX2 a_page g_page_length g_page_latest] C hl.1 (tX1_steps (a := a_history) q173) mL_X7_151 mmX1_steps rfl rfl ⟨Nat.le_of_ble_eq_true rfl, Nat.le_of_ble_eq_true rfl⟩ rfl rfl rfl rfl (Nat.le_of_ble_eq_true rfl) hA hw [5] [0, 1, 2, 3, 4, 6, 7, 8] rfl (by decide +kernel) rfl rfl rfl rfl dX7_count_173 (fun H locs hw173 => ?_)
    cases h
    exact k_iret C hw173 dX7_count_176
  replace h := br_f' h c1_10
  by_cases c1_11 : x1 = 11
  · replace h := br_t' h c1_11
    refine lv_tableIn (tgt := 177) hx hb dX7_count_1 (by rw [c1_11]; decide) (by rw [c1_11]; decide) (off := 176) (by rw [c1_11]; decide) (by decide) ?_
    refine lv_aload_n hx hb dX7_count_177 rfl (lv_at hl 0 rfl) ?_
    refine k_get C inT_X7 hw 0 rfl rfl 4 (by decide) mF_X7_42 rfl dX7_count_178 ?_
    obtain ⟨r181, q181, h⟩ := bd h
    refine k_callV (nC := 9) [oX7 a a_archive a_history a_planner a_rows a_text a_page a_draft, oX0 a_archive a_archive_series a_archive_pieces a_archive_trial a_archive_moves g_archive_day, cR cI a_archive_series 10 v_archive_series, cR cI a_archive_pieces 42 v_archive_pieces, cR cI a_archive_moves 100 v_archive_moves, oX1 a_history g_history_top g_history_steps, cR cI a_rows 12 v_rows, oX6 a_text g_text_length g_text_commandCount g_text_at, oX2 a_page g_page_length g_page_latest] C hl.1 (tX6_length (a := a_text) q181) mL_X7_60 mmX6_length rfl rfl ⟨Nat.le_of_ble_eq_true rfl, Nat.le_of_ble_eq_true rfl⟩ rfl rfl rfl rfl (Nat.le_of_ble_eq_true rfl) hA hw [7] [0, 1, 2, 3, 4, 5, 6, 8] rfl (by decide +kernel) rfl rfl rfl rfl dX7_count_181 (fun H locs hw181 => ?_)
    cases h
    exact k_iret C hw181 dX7_count_184
  replace h := br_f' h c1_11
  refine lv_tableOut (tgt := 185) hx hb dX7_count_1 (by have t0 := ti_ne (i := 0) c1_0 (by decide); have t1 := ti_ne (i := 1) c1_1 (by decide); have t2 := ti_ne (i := 2) c1_2 (by decide); have t3 := ti_ne (i := 3) c1_3 (by decide); have t4 := ti_ne (i := 4) c1_4 (by decide); have t5 := ti_ne (i := 5) c1_5 (by decide); have t6 := ti_ne (i := 6) c1_6 (by decide); have t7 := ti_ne (i := 7) c1_7 (by decide); have t8 := ti_ne (i := 8) c1_8 (by decide); have t9 := ti_ne (i := 9) c1_9 (by decide); have t10 := ti_ne (i := 10) c1_10 (by decide); have t11 := ti_ne (i := 11) c1_11 (by decide); omega) (by decide) ?_
  refine lv_bipush (v := (-3)) hx hb dX7_count_185 (by decide) ?_
  cases h
  exact k_iret C hw dX7_count_187
