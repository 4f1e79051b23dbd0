def rmX8_box : Room := { frames := 5, cells := 0, slots := 0, locals := 118 }
def fX8_box (g_row : Nat → Int32) (x1 : Int32) (x2 : Int32) : Option (Int32) :=
  (fX8_isBox x1).bind fun r1 =>
  if r1 = 0 then
    some (-2)
  else
    if x2 = 0 then
      (ld 5058 g_row (34 + x1)).bind fun y56 =>
      some y56
    else
    if x2 = 1 then
      (fX8_load g_row x1).bind fun r60 =>
      some r60
    else
    if x2 = 2 then
      (fX8_piecesOf g_row x1).bind fun r66 =>
      some r66
    else
    if x2 = 3 then
      (fX8_ownsIn g_row x1).bind fun r72 =>
      some r72
    else
    if x2 = 4 then
      if x2 = 4 then
        (fX8_endOf g_row x1 1).bind fun r88 =>
        some r88
      else
        (fX8_endOf g_row x1 0).bind fun r88 =>
        some r88
    else
    if x2 = 5 then
      if x2 = 4 then
        (fX8_endOf g_row x1 1).bind fun r88 =>
        some r88
      else
        (fX8_endOf g_row x1 0).bind fun r88 =>
        some r88
    else
      some (-3)
set_option maxRecDepth 100000 in
set_option maxHeartbeats 4000000 in
theorem tX8_box {l : Launch} {D : va_G} {cI : ClassId} {cS : GS} {a : Nat → Nat} {g_row : Nat → Int32} {g_undos : Int32} {g_listed : Int32} {g_papers : Int32} {g_length : Int32} {g_besides : Int32} {g_gapFirst : Int32} {g_gapLast : Int32} {g_layings : Int32} {g_first : Int32} {g_behind : Int32} {g_clauses : Int32} {g_drafts : Int32} {x1 : Int32} {x2 : Int32} {s0 : Int32} (h : fX8_box g_row x1 x2 = some s0) : CT l D cI cS yX8_box cX8_box 3 (some .int) rmX8_box [.ref (a 0), .int x1, .int x2] [oX8 a g_undos g_listed g_papers g_length g_besides g_gapFirst g_gapLast g_layings g_first g_behind g_clauses g_drafts, ar cI (a 1) 5058 g_row] (some (.int s0)) [oX8 a g_undos g_listed g_papers g_length g_besides g_gapFirst g_gapLast g_layings g_first g_behind g_clauses g_drafts, ar cI (a 1) 5058 g_row] := by
  refine CT.of RX8 (by decide) rfl (Nat.le_of_ble_eq_true rfl) (fun p e s m below meth c ls A C hA hl hw => ?_)
  have hx := C.1.1
  have hb := C.1.2.1
  have hl : lv_has ls 3 [(0, .ref (a 0)), (1, .int x1), (2, .int x2)] := hl
  unfold fX8_box at h
  refine lv_iload_n hx hb dX8_box_0 rfl (lv_at hl 1 rfl) ?_
  obtain ⟨r1, q1, h⟩ := bd h
  refine k_callS (nC := 2) [oX8 a g_undos g_listed g_papers g_length g_besides g_gapFirst g_gapLast g_layings g_first g_behind g_clauses g_drafts, ar cI (a 1) 5058 g_row] C hl.1 (tX8_isBox q1) mL_X8_212 mmX8_isBox rfl rfl ⟨Nat.le_of_ble_eq_true rfl, Nat.le_of_ble_eq_true rfl⟩ rfl rfl (Nat.le_of_ble_eq_true rfl) hA hw [] [0, 1] rfl (by decide +kernel) rfl rfl rfl rfl dX8_box_1 (fun H locs hw1 => ?_)
  refine lv_if_ne (tgt := 10) hx hb dX8_box_4 (by decide) (fun c4 => ?_) (fun c4 => ?_)
  · replace h := br_f' h c4
    refine lv_iload_n hx hb dX8_box_10 rfl (lv_at hl 2 rfl) ?_
    by_cases c11_0 : x2 = 0
    · replace h := br_t' h c11_0
      refine lv_tableIn (tgt := 48) hx hb dX8_box_11 (by rw [c11_0]; decide) (by rw [c11_0]; decide) (off := 37) (by rw [c11_0]; decide) (by decide) ?_
      refine lv_aload_n hx hb dX8_box_48 rfl (lv_at hl 0 rfl) ?_
      refine k_get C inT_X8 hw1 0 rfl rfl 0 (by decide) mF_X8_7 rfl dX8_box_49 ?_
      refine lv_bipush (v := 34) hx hb dX8_box_52 (by decide) ?_
      refine lv_iload_n hx hb dX8_box_54 rfl (lv_at hl 1 rfl) ?_
      refine lv_iadd hx hb dX8_box_55 ?_
      obtain ⟨y56, q56, h⟩ := bd h
      refine k_iald C hw1 1 rfl q56 dX8_box_56 ?_
      cases h
      exact k_iret C hw1 dX8_box_57
    replace h := br_f' h c11_0
    by_cases c11_1 : x2 = 1
    · replace h := br_t' h c11_1
      refine lv_tableIn (tgt := 58) hx hb dX8_box_11 (by rw [c11_1]; decide) (by rw [c11_1]; decide) (off := 47) (by rw [c11_1]; decide) (by decide) ?_
      refine lv_aload_n hx hb dX8_box_58 rfl (lv_at hl 0 rfl) ?_
      refine lv_iload_n hx hb dX8_box_59 rfl (lv_at hl 1 rfl) ?_
      obtain ⟨r60, q60, h⟩ := bd h
      refine k_callV (nC := 2) [oX8 a g_undos g_listed g_papers g_length g_besides g_gapFirst g_gapLast g_layings g_first g_behind g_clauses g_drafts, ar cI (a 1) 5058 g_row] C hl.1 (tX8_load (a := a) q60) mL_X8_119 mmX8_load rfl rfl ⟨Nat.le_of_ble_eq_true rfl, Nat.le_of_ble_eq_true rfl⟩ rfl rfl rfl rfl (Nat.le_of_ble_eq_true rfl) hA hw1 [0, 1] [] rfl (by decide +kernel) rfl rfl rfl rfl dX8_box_60 (fun H locs hw60 => ?_)
      cases h
      exact k_iret C hw60 dX8_box_63
    replace h := br_f' h c11_1
    by_cases c11_2 : x2 = 2
    · replace h := br_t' h c11_2
      refine lv_tableIn (tgt := 64) hx hb dX8_box_11 (by rw [c11_2]; decide) (by rw [c11_2]; decide) (off := 53) (by rw [c11_2]; decide) (by decide) ?_
      refine lv_aload_n hx hb dX8_box_64 rfl (lv_at hl 0 rfl) ?_
      refine lv_iload_n hx hb dX8_box_65 rfl (lv_at hl 1 rfl) ?_
      obtain ⟨r66, q66, h⟩ := bd h
      refine k_callV (nC := 2) [oX8 a g_undos g_listed g_papers g_length g_besides g_gapFirst g_gapLast g_layings g_first g_behind g_clauses g_drafts, ar cI (a 1) 5058 g_row] C hl.1 (tX8_piecesOf (a := a) q66) mL_X8_222 mmX8_piecesOf rfl rfl ⟨Nat.le_of_ble_eq_true rfl, Nat.le_of_ble_eq_true rfl⟩ rfl rfl rfl rfl (Nat.le_of_ble_eq_true rfl) hA hw1 [0, 1] [] rfl (by decide +kernel) rfl rfl rfl rfl dX8_box_66 (fun H locs hw66 => ?_)
      cases h
      exact k_iret C hw66 dX8_box_69
    replace h := br_f' h c11_2
    by_cases c11_3 : x2 = 3
    · replace h := br_t' h c11_3
      refine lv_tableIn (tgt := 70) hx hb dX8_box_11 (by rw [c11_3]; decide) (by rw [c11_3]; decide) (off := 59) (by rw [c11_3]; decide) (by decide) ?_
      refine lv_aload_n hx hb dX8_box_70 rfl (lv_at hl 0 rfl) ?_
      refine lv_iload_n hx hb dX8_box_71 rfl (lv_at hl 1 rfl) ?_
      obtain ⟨r72, q72, h⟩ := bd h
      refine k_callV (nC := 2) [oX8 a g_undos g_listed g_papers g_length g_besides g_gapFirst g_gapLast g_layings g_first g_behind g_clauses g_drafts, ar cI (a 1) 5058 g_row] C hl.1 (tX8_ownsIn (a := a) q72) mL_X8_248 mmX8_ownsIn rfl rfl ⟨Nat.le_of_ble_eq_true rfl, Nat.le_of_ble_eq_true rfl⟩ rfl rfl rfl rfl (Nat.le_of_ble_eq_true rfl) hA hw1 [0, 1] [] rfl (by decide +kernel) rfl rfl rfl rfl dX8_box_72 (fun H locs hw72 => ?_)
      cases h
      exact k_iret C hw72 dX8_box_75
    replace h := br_f' h c11_3
    by_cases c11_4 : x2 = 4
    · replace h := br_t' h c11_4
      refine lv_tableIn (tgt := 76) hx hb dX8_box_11 (by rw [c11_4]; decide) (by rw [c11_4]; decide) (off := 65) (by rw [c11_4]; decide) (by decide) ?_
      refine lv_aload_n hx hb dX8_box_76 rfl (lv_at hl 0 rfl) ?_
      refine lv_iload_n hx hb dX8_box_77 rfl (lv_at hl 1 rfl) ?_
      refine lv_iload_n hx hb dX8_box_78 rfl (lv_at hl 2 rfl) ?_
      refine lv_iconst (v := 4) hx hb dX8_box_79 (by decide) ?_
      refine lv_icmp_ne (tgt := 87) hx hb dX8_box_80 (by decide) (fun c80 => ?_) (fun c80 => ?_)
      · replace h := br_f' h c80
        refine lv_iconst (v := 0) hx hb dX8_box_87 (by decide) ?_
        obtain ⟨r88, q88, h⟩ := bd h
        refine k_callV (nC := 2) [oX8 a g_undos g_listed g_papers g_length g_besides g_gapFirst g_gapLast g_layings g_first g_behind g_clauses g_drafts, ar cI (a 1) 5058 g_row] C hl.1 (tX8_endOf (a := a) q88) mL_X8_251 mmX8_endOf rfl rfl ⟨Nat.le_of_ble_eq_true rfl, Nat.le_of_ble_eq_true rfl⟩ rfl rfl rfl rfl (Nat.le_of_ble_eq_true rfl) hA hw1 [0, 1] [] rfl (by decide +kernel) rfl rfl rfl rfl dX8_box_88 (fun H locs hw88 => ?_)
        cases h
        exact k_iret C hw88 dX8_box_91
      · replace h := br_t' h c80
        refine lv_iconst (v := 1) hx hb dX8_box_83 (by decide) ?_
        refine lv_goto (tgt := 88) hx hb dX8_box_84 (by decide) ?_
        obtain ⟨r88, q88, h⟩ := bd h
        refine k_callV (nC := 2) [oX8 a g_undos g_listed g_papers g_length g_besides g_gapFirst g_gapLast g_layings g_first g_behind g_clauses g_drafts, ar cI (a 1) 5058 g_row] C hl.1 (tX8_endOf (a := a) q88) mL_X8_251 mmX8_endOf rfl rfl ⟨Nat.le_of_ble_eq_true rfl, Nat.le_of_ble_eq_true rfl⟩ rfl rfl rfl rfl (Nat.le_of_ble_eq_true rfl) hA hw1 [0, 1] [] rfl (by decide +kernel) rfl rfl rfl rfl dX8_box_88 (fun H locs hw88 => ?_)
        cases h
        exact k_iret C hw88 dX8_box_91
    replace h := br_f' h c11_4
    by_cases c11_5 : x2 = 5
    · replace h := br_t' h c11_5
      refine lv_tableIn (tgt := 76) hx hb dX8_box_11 (by rw [c11_5]; decide) (by rw [c11_5]; decide) (off := 65) (by rw [c11_5]; decide) (by decide) ?_
      refine lv_aload_n hx hb dX8_box_76 rfl (lv_at hl 0 rfl) ?_
      refine lv_iload_n hx hb dX8_box_77 rfl (lv_at hl 1 rfl) ?_
      refine lv_iload_n hx hb dX8_box_78 rfl (lv_at hl 2 rfl) ?_
      refine lv_iconst (v := 4) hx hb dX8_box_79 (by decide) ?_
      refine lv_icmp_ne (tgt := 87) hx hb dX8_box_80 (by decide) (fun c80 => ?_) (fun c80 => ?_)
      · replace h := br_f' h c80
        refine lv_iconst (v := 0) hx hb dX8_box_87 (by decide) ?_
        obtain ⟨r88, q88, h⟩ := bd h
        refine k_callV (nC := 2) [oX8 a g_undos g_listed g_papers g_length g_besides g_gapFirst g_gapLast g_layings g_first g_behind g_clauses g_drafts, ar cI (a 1) 5058 g_row] C hl.1 (tX8_endOf (a := a) q88) mL_X8_251 mmX8_endOf rfl rfl ⟨Nat.le_of_ble_eq_true rfl, Nat.le_of_ble_eq_true rfl⟩ rfl rfl rfl rfl (Nat.le_of_ble_eq_true rfl) hA hw1 [0, 1] [] rfl (by decide +kernel) rfl rfl rfl rfl dX8_box_88 (fun H locs hw88 => ?_)
        cases h
        exact k_iret C hw88 dX8_box_91
      · replace h := br_t' h c80
        refine lv_iconst (v := 1) hx hb dX8_box_83 (by decide) ?_
        refine lv_goto (tgt := 88) hx hb dX8_box_84 (by decide) ?_
        obtain ⟨r88, q88, h⟩ := bd h
        refine k_callV (nC := 2) [oX8 a g_undos g_listed g_papers g_length g_besides g_gapFirst g_gapLast g_layings g_first g_behind g_clauses g_drafts, ar cI (a 1) 5058 g_row] C hl.1 (tX8_endOf (a := a) q88) mL_X8_251 mmX8_endOf rfl rfl ⟨Nat.le_of_ble_eq_true rfl, Nat.le_of_ble_eq_true rfl⟩ rfl rfl rfl rfl (Nat.le_of_ble_eq_true rfl) hA hw1 [0, 1] [] rfl (by decide +kernel) rfl rfl rfl rfl dX8_box_88 (fun H locs hw88 => ?_)
        cases h
        exact k_iret C hw88 dX8_box_91
    replace h := br_f' h c11_5
    refine lv_tableOut (tgt := 92) hx hb dX8_box_11 (by have t0 := ti_ne (i := 0) c11_0 (by decide); have t1 := ti_ne (i := 1) c11_1 (by decide); have t2 := ti_ne (i := 2) c11_2 (by decide); have t3 := ti_ne (i := 3) c11_3 (by decide); have t4 := ti_ne (i := 4) c11_4 (by decide); have t5 := ti_ne (i := 5) c11_5 (by decide); omega) (by decide) ?_
    refine lv_bipush (v := (-3)) hx hb dX8_box_92 (by decide) ?_
    cases h
    exact k_iret C hw1 dX8_box_94
  · replace h := br_t' h c4
    refine lv_bipush (v := (-2)) hx hb dX8_box_7 (by decide) ?_
    cases h
    exact k_iret C hw1 dX8_box_9
def rmX8_piece : Room := { frames := 1, cells := 0, slots := 0, locals := 25 }
def fX8_piece (g_row : Nat → Int32) (x1 : Int32) (x2 : Int32) : Option (Int32) :=
  (ld 5058 g_row 1).bind fun y8 =>
  (fX8_in x1.toInt64 0 ((y8 - 1).toInt64)).bind fun r12 =>
  if r12 = 0 then
    some (-2)
  else
    (fX8_in x2.toInt64 0 2).bind fun r27 =>
    if r27 = 0 then
      some (-3)
    else
      (fX8_pieceAt g_row x1 x2).bind fun r36 =>
      some r36
set_option maxRecDepth 100000 in
set_option maxHeartbeats 4000000 in
theorem tX8_piece {l : Launch} {D : va_G} {cI : ClassId} {cS : GS} {a : Nat → Nat} {g_row : Nat → Int32} {g_undos : Int32} {g_listed : Int32} {g_papers : Int32} {g_length : Int32} {g_besides : Int32} {g_gapFirst : Int32} {g_gapLast : Int32} {g_layings : Int32} {g_first : Int32} {g_behind : Int32} {g_clauses : Int32} {g_drafts : Int32} {x1 : Int32} {x2 : Int32} {s0 : Int32} (h : fX8_piece g_row x1 x2 = some s0) : CT l D cI cS yX8_piece cX8_piece 3 (some .int) rmX8_piece [.ref (a 0), .int x1, .int x2] [oX8 a g_undos g_listed g_papers g_length g_besides g_gapFirst g_gapLast g_layings g_first g_behind g_clauses g_drafts, ar cI (a 1) 5058 g_row] (some (.int s0)) [oX8 a g_undos g_listed g_papers g_length g_besides g_gapFirst g_gapLast g_layings g_first g_behind g_clauses g_drafts, ar cI (a 1) 5058 g_row] := by
  refine CT.of RX8 (by decide) rfl (Nat.le_of_ble_eq_true rfl) (fun p e s m below meth c ls A C hA hl hw => ?_)
  have hx := C.1.1
  have hb := C.1.2.1
  have hl : lv_has ls 3 [(0, .ref (a 0)), (1, .int x1), (2, .int x2)] := hl
  unfold fX8_piece at h
  refine lv_iload_n hx hb dX8_piece_0 rfl (lv_at hl 1 rfl) ?_
  refine lv_i2l (v := x1.toInt64) hx hb dX8_piece_1 rfl ?_
  refine lv_lconst (v := 0) hx hb dX8_piece_2 (by decide) ?_
  refine lv_aload_n hx hb dX8_piece_3 rfl (lv_at hl 0 rfl) ?_
  refine k_get C inT_X8 hw 0 rfl rfl 0 (by decide) mF_X8_7 rfl dX8_piece_4 ?_
  refine lv_iconst (v := 1) hx hb dX8_piece_7 (by decide) ?_
  obtain ⟨y8, q8, h⟩ := bd h
  refine k_iald C hw 1 rfl q8 dX8_piece_8 ?_
  refine lv_iconst (v := 1) hx hb dX8_piece_9 (by decide) ?_
  refine lv_isub hx hb dX8_piece_10 ?_
  refine lv_i2l (v := (y8 - 1).toInt64) hx hb dX8_piece_11 rfl ?_
  obtain ⟨r12, q12, h⟩ := bd h
  refine k_callS (nC := 2) [oX8 a g_undos g_listed g_papers g_length g_besides g_gapFirst g_gapLast g_layings g_first g_behind g_clauses g_drafts, ar cI (a 1) 5058 g_row] C hl.1 (tX8_in q12) mL_X8_58 mmX8_in rfl rfl ⟨Nat.le_of_ble_eq_true rfl, Nat.le_of_ble_eq_true rfl⟩ rfl rfl (Nat.le_of_ble_eq_true rfl) hA hw [] [0, 1] rfl (by decide +kernel) rfl rfl rfl rfl dX8_piece_12 (fun H locs hw12 => ?_)
  refine lv_if_ne (tgt := 21) hx hb dX8_piece_15 (by decide) (fun c15 => ?_) (fun c15 => ?_)
  · replace h := br_f' h c15
    refine lv_iload_n hx hb dX8_piece_21 rfl (lv_at hl 2 rfl) ?_
    refine lv_i2l (v := x2.toInt64) hx hb dX8_piece_22 rfl ?_
    refine lv_lconst (v := 0) hx hb dX8_piece_23 (by decide) ?_
    refine k_ldc2 C mD_X8_255 dX8_piece_24 ?_
    obtain ⟨r27, q27, h⟩ := bd h
    refine k_callS (nC := 2) [oX8 a g_undos g_listed g_papers g_length g_besides g_gapFirst g_gapLast g_layings g_first g_behind g_clauses g_drafts, ar cI (a 1) 5058 g_row] C hl.1 (tX8_in q27) mL_X8_58 mmX8_in rfl rfl ⟨Nat.le_of_ble_eq_true rfl, Nat.le_of_ble_eq_true rfl⟩ rfl rfl (Nat.le_of_ble_eq_true rfl) hA hw12 [] [0, 1] rfl (by decide +kernel) rfl rfl rfl rfl dX8_piece_27 (fun H locs hw27 => ?_)
    refine lv_if_eq (tgt := 42) hx hb dX8_piece_30 (by decide) (fun c30 => ?_) (fun c30 => ?_)
    · replace h := br_t' h c30
      refine lv_bipush (v := (-3)) hx hb dX8_piece_42 (by decide) ?_
      cases h
      exact k_iret C hw27 dX8_piece_44
    · replace h := br_f' h c30
      refine lv_aload_n hx hb dX8_piece_33 rfl (lv_at hl 0 rfl) ?_
      refine lv_iload_n hx hb dX8_piece_34 rfl (lv_at hl 1 rfl) ?_
      refine lv_iload_n hx hb dX8_piece_35 rfl (lv_at hl 2 rfl) ?_
      obtain ⟨r36, q36, h⟩ := bd h
      refine k_callV (nC := 2) [oX8 a g_undos g_listed g_papers g_length g_besides g_gapFirst g_gapLast g_layings g_first g_behind g_clauses g_drafts, ar cI (a 1) 5058 g_row] C hl.1 (tX8_pieceAt (a := a) q36) mL_X8_71 mmX8_pieceAt rfl rfl ⟨Nat.le_of_ble_eq_true rfl, Nat.le_of_ble_eq_true rfl⟩ rfl rfl rfl rfl (Nat.le_of_ble_eq_true rfl) hA hw27 [0, 1] [] rfl (by decide +kernel) rfl rfl rfl rfl dX8_piece_36 (fun H locs hw36 => ?_)
      refine lv_goto (tgt := 44) hx hb dX8_piece_39 (by decide) ?_
      cases h
      exact k_iret C hw36 dX8_piece_44
  · replace h := br_t' h c15
    refine lv_bipush (v := (-2)) hx hb dX8_piece_18 (by decide) ?_
    cases h
    exact k_iret C hw12 dX8_piece_20
def rmX8_gap : Room := { frames := 3, cells := 0, slots := 0, locals := 73 }
def fX8_gap (g_row : Nat → Int32) (g_gapFirst : Int32) (g_gapLast : Int32) (x1 : Int32) (x2 : Int32) (x3 : Int32) : Option (Int32 × Int32 × Int32) :=
  (fX8_isSeries g_row x1).bind fun r2 =>
  if r2 = 0 then
    some ((-2), g_gapFirst, g_gapLast)
  else
    if x2 < 0 then
      some ((-2), g_gapFirst, g_gapLast)
    else
      (fX8_findsGap g_row g_gapFirst g_gapLast x1 x2).bind fun r15 =>
      if r15.1 = 0 then
        some ((-2), r15.2.1, r15.2.2)
      else
        if x3 = 0 then
          some (r15.2.1, r15.2.1, r15.2.2)
        else
          if x3 = 1 then
            some (r15.2.2, r15.2.1, r15.2.2)
          else
            some ((-3), r15.2.1, r15.2.2)
set_option maxRecDepth 100000 in
set_option maxHeartbeats 4000000 in
theorem tX8_gap {l : Launch} {D : va_G} {cI : ClassId} {cS : GS} {a : Nat → Nat} {g_row : Nat → Int32} {g_undos : Int32} {g_listed : Int32} {g_papers : Int32} {g_length : Int32} {g_besides : Int32} {g_gapFirst : Int32} {g_gapLast : Int32} {g_layings : Int32} {g_first : Int32} {g_behind : Int32} {g_clauses : Int32} {g_drafts : Int32} {x1 : Int32} {x2 : Int32} {x3 : Int32} {s0 : Int32} {s1 : Int32} {s2 : Int32} (h : fX8_gap g_row g_gapFirst g_gapLast x1 x2 x3 = some (s0, s1, s2)) : CT l D cI cS yX8_gap cX8_gap 4 (some .int) rmX8_gap [.ref (a 0), .int x1, .int x2, .int x3] [oX8 a g_undos g_listed g_papers g_length g_besides g_gapFirst g_gapLast g_layings g_first g_behind g_clauses g_drafts, ar cI (a 1) 5058 g_row] (some (.int s0)) [oX8 a g_undos g_listed g_papers g_length g_besides s1 s2 g_layings g_first g_behind g_clauses g_drafts, ar cI (a 1) 5058 g_row] := by
  refine CT.of RX8 (by decide) rfl (Nat.le_of_ble_eq_true rfl) (fun p e s m below meth c ls A C hA hl hw => ?_)
  have hx := C.1.1
  have hb := C.1.2.1
  have hl : lv_has ls 4 [(0, .ref (a 0)), (1, .int x1), (2, .int x2), (3, .int x3)] := hl
  unfold fX8_gap at h
  refine lv_aload_n hx hb dX8_gap_0 rfl (lv_at hl 0 rfl) ?_
  refine lv_iload_n hx hb dX8_gap_1 rfl (lv_at hl 1 rfl) ?_
  obtain ⟨r2, q2, h⟩ := bd h
  refine k_callV (nC := 2) [oX8 a g_undos g_listed g_papers g_length g_besides g_gapFirst g_gapLast g_layings g_first g_behind g_clauses g_drafts, ar cI (a 1) 5058 g_row] C hl.1 (tX8_isSeries (a := a) q2) mL_X8_200 mmX8_isSeries rfl rfl ⟨Nat.le_of_ble_eq_true rfl, Nat.le_of_ble_eq_true rfl⟩ rfl rfl rfl rfl (Nat.le_of_ble_eq_true rfl) hA hw [0, 1] [] rfl (by decide +kernel) rfl rfl rfl rfl dX8_gap_2 (fun H locs hw2 => ?_)
  refine lv_if_eq (tgt := 21) hx hb dX8_gap_5 (by decide) (fun c5 => ?_) (fun c5 => ?_)
  · replace h := br_t' h c5
    refine lv_bipush (v := (-2)) hx hb dX8_gap_21 (by decide) ?_
    cases h
    exact k_iret C hw2 dX8_gap_23
  · replace h := br_f' h c5
    refine lv_iload_n hx hb dX8_gap_8 rfl (lv_at hl 2 rfl) ?_
    refine lv_if_lt (tgt := 21) hx hb dX8_gap_9 (by decide) (fun c9 => ?_) (fun c9 => ?_)
    · replace h := br_t' h c9
      refine lv_bipush (v := (-2)) hx hb dX8_gap_21 (by decide) ?_
      cases h
      exact k_iret C hw2 dX8_gap_23
    · replace h := br_f' h c9
      refine lv_aload_n hx hb dX8_gap_12 rfl (lv_at hl 0 rfl) ?_
      refine lv_iload_n hx hb dX8_gap_13 rfl (lv_at hl 1 rfl) ?_
      refine lv_iload_n hx hb dX8_gap_14 rfl (lv_at hl 2 rfl) ?_
      obtain ⟨r15, q15, h⟩ := bd h
      refine k_callV (nC := 2) [oX8 a g_undos g_listed g_papers g_length g_besides r15.2.1 r15.2.2 g_layings g_first g_behind g_clauses g_drafts, ar cI (a 1) 5058 g_row] C hl.1 (tX8_findsGap (a := a) q15) mL_X8_257 mmX8_findsGap rfl rfl ⟨Nat.le_of_ble_eq_true rfl, Nat.le_of_ble_eq_true rfl⟩ rfl rfl rfl rfl (Nat.le_of_ble_eq_true rfl) hA hw2 [0, 1] [] rfl (by decide +kernel) rfl rfl rfl rfl dX8_gap_15 (fun H locs hw15 => ?_)
      refine lv_if_ne (tgt := 24) hx hb dX8_gap_18 (by decide) (fun c18 => ?_) (fun c18 => ?_)
      · replace h := br_f' h c18
        refine lv_iload_n hx hb dX8_gap_24 rfl (lv_at hl 3 rfl) ?_
        refine lv_if_ne (tgt := 35) hx hb dX8_gap_25 (by decide) (fun c25 => ?_) (fun c25 => ?_)
        · replace h := br_f' h c25
          refine lv_iload_n hx hb dX8_gap_35 rfl (lv_at hl 3 rfl) ?_
          refine lv_iconst (v := 1) hx hb dX8_gap_36 (by decide) ?_
          refine lv_icmp_ne (tgt := 47) hx hb dX8_gap_37 (by decide) (fun c37 => ?_) (fun c37 => ?_)
          · replace h := br_f' h c37
            refine lv_bipush (v := (-3)) hx hb dX8_gap_47 (by decide) ?_
            cases h
            exact k_iret C hw15 dX8_gap_49
          · replace h := br_t' h c37
            refine lv_aload_n hx hb dX8_gap_40 rfl (lv_at hl 0 rfl) ?_
            refine k_get C inT_X8 hw15 0 rfl rfl 11 (by decide) mF_X8_109 rfl dX8_gap_41 ?_
            refine lv_goto (tgt := 49) hx hb dX8_gap_44 (by decide) ?_
            cases h
            exact k_iret C hw15 dX8_gap_49
        · replace h := br_t' h c25
          refine lv_aload_n hx hb dX8_gap_28 rfl (lv_at hl 0 rfl) ?_
          refine k_get C inT_X8 hw15 0 rfl rfl 10 (by decide) mF_X8_106 rfl dX8_gap_29 ?_
          refine lv_goto (tgt := 49) hx hb dX8_gap_32 (by decide) ?_
          cases h
          exact k_iret C hw15 dX8_gap_49
      · replace h := br_t' h c18
        refine lv_bipush (v := (-2)) hx hb dX8_gap_21 (by decide) ?_
        cases h
        exact k_iret C hw15 dX8_gap_23
def rmX8_home : Room := { frames := 4, cells := 0, slots := 0, locals := 94 }
def fX8_home (g_row : Nat → Int32) (x1 : Int32) : Option (Int32) :=
  (fX8_isSheet x1).bind fun r1 =>
  if r1 = 0 then
    some (-3)
  else
    (fX8_homeOf g_row x1).bind fun r9 =>
    some r9
set_option maxRecDepth 100000 in
set_option maxHeartbeats 4000000 in
theorem tX8_home {l : Launch} {D : va_G} {cI : ClassId} {cS : GS} {a : Nat → Nat} {g_row : Nat → Int32} {g_undos : Int32} {g_listed : Int32} {g_papers : Int32} {g_length : Int32} {g_besides : Int32} {g_gapFirst : Int32} {g_gapLast : Int32} {g_layings : Int32} {g_first : Int32} {g_behind : Int32} {g_clauses : Int32} {g_drafts : Int32} {x1 : Int32} {s0 : Int32} (h : fX8_home g_row x1 = some s0) : CT l D cI cS yX8_home cX8_home 2 (some .int) rmX8_home [.ref (a 0), .int x1] [oX8 a g_undos g_listed g_papers g_length g_besides g_gapFirst g_gapLast g_layings g_first g_behind g_clauses g_drafts, ar cI (a 1) 5058 g_row] (some (.int s0)) [oX8 a g_undos g_listed g_papers g_length g_besides g_gapFirst g_gapLast g_layings g_first g_behind g_clauses g_drafts, ar cI (a 1) 5058 g_row] := by
  refine CT.of RX8 (by decide) rfl (Nat.le_of_ble_eq_true rfl) (fun p e s m below meth c ls A C hA hl hw => ?_)
  have hx := C.1.1
  have hb := C.1.2.1
  have hl : lv_has ls 2 [(0, .ref (a 0)), (1, .int x1)] := hl
  unfold fX8_home at h
  refine lv_iload_n hx hb dX8_home_0 rfl (lv_at hl 1 rfl) ?_
  obtain ⟨r1, q1, h⟩ := bd h
  refine k_callS (nC := 2) [oX8 a g_undos g_listed g_papers g_length g_besides g_gapFirst g_gapLast g_layings g_first g_behind g_clauses g_drafts, ar cI (a 1) 5058 g_row] C hl.1 (tX8_isSheet q1) mL_X8_260 mmX8_isSheet rfl rfl ⟨Nat.le_of_ble_eq_true rfl, Nat.le_of_ble_eq_true rfl⟩ rfl rfl (Nat.le_of_ble_eq_true rfl) hA hw [] [0, 1] rfl (by decide +kernel) rfl rfl rfl rfl dX8_home_1 (fun H locs hw1 => ?_)
  refine lv_if_eq (tgt := 15) hx hb dX8_home_4 (by decide) (fun c4 => ?_) (fun c4 => ?_)
  · replace h := br_t' h c4
    refine lv_bipush (v := (-3)) hx hb dX8_home_15 (by decide) ?_
    cases h
    exact k_iret C hw1 dX8_home_17
  · replace h := br_f' h c4
    refine lv_aload_n hx hb dX8_home_7 rfl (lv_at hl 0 rfl) ?_
    refine lv_iload_n hx hb dX8_home_8 rfl (lv_at hl 1 rfl) ?_
    obtain ⟨r9, q9, h⟩ := bd h
    refine k_callV (nC := 2) [oX8 a g_undos g_listed g_papers g_length g_besides g_gapFirst g_gapLast g_layings g_first g_behind g_clauses g_drafts, ar cI (a 1) 5058 g_row] C hl.1 (tX8_homeOf (a := a) q9) mL_X8_263 mmX8_homeOf rfl rfl ⟨Nat.le_of_ble_eq_true rfl, Nat.le_of_ble_eq_true rfl⟩ rfl rfl rfl rfl (Nat.le_of_ble_eq_true rfl) hA hw1 [0, 1] [] rfl (by decide +kernel) rfl rfl rfl rfl dX8_home_9 (fun H locs hw9 => ?_)
    refine lv_goto (tgt := 17) hx hb dX8_home_12 (by decide) ?_
    cases h
    exact k_iret C hw9 dX8_home_17
def rmX8_where : Room := { frames := 2, cells := 0, slots := 0, locals := 45 }
def fX8_where_14 (g_row : Nat → Int32) (x1 : Int32) : (n : Nat) → (k : Int32 → Int32 → Option (Int32)) → Int32 → Int32 → Option (Int32)
  | 0, _, _, _ => none
  | n + 1, k, x2, x3 =>
    (ld 5058 g_row 1).bind fun y20 =>
    if y20 ≤ x3 then
      k x2 x3
    else
      (fX8_pieceAt g_row x3 0).bind fun r29 =>
      (fX8_pieceAt g_row x3 1).bind fun r36 =>
      (fX8_in x1.toInt64 r29.toInt64 r36.toInt64).bind fun r40 =>
      if r40 = 0 then
        fX8_where_14 g_row x1 n k x2 (x3 + 1)
      else
        (fX8_pieceAt g_row x3 2).bind fun r49 =>
        fX8_where_14 g_row x1 n k r49 (x3 + 1)
set_option maxRecDepth 100000 in
set_option maxHeartbeats 4000000 in
theorem wX8_where_14 {p : Program} {l : Launch} {e : Env} {s : State} {m : MethodId} {args : Array Value} {below : List Frame} {meth : Method} {c : Code} {D : va_G} {cI : ClassId} {cS : GS} {A : Nat → Prop} {a : Nat → Nat} {g_row : Nat → Int32} {g_undos : Int32} {g_listed : Int32} {g_papers : Int32} {g_length : Int32} {g_besides : Int32} {g_gapFirst : Int32} {g_gapLast : Int32} {g_layings : Int32} {g_first : Int32} {g_behind : Int32} {g_clauses : Int32} {g_drafts : Int32} {x1 : Int32} (C : MC p s m args meth c D cI cS A RX8 cX8_where 4 (some .int)) (hA : ∀ q, s.heap.size ≤ q → A q) {s0 : Int32} (k : Int32 → Int32 → Option (Int32)) (hk : ∀ (x2 : Int32) (x3 : Int32) (H : Heap) (locs : List Loc) (ls : Array Slot), Wd D A s.heap H locs [oX8 a g_undos g_listed g_papers g_length g_besides g_gapFirst g_gapLast g_layings g_first g_behind g_clauses g_drafts, ar cI (a 1) 5058 g_row] → lv_has ls 4 [(0, .ref (a 0)), (1, .int x1), (2, .int x2), (3, .int x3)] → k x2 x3 = some s0 → W p l e rmX8_where s m args below meth c H locs 0 0 (KQ D A below args s (some (.int s0)) [oX8 a g_undos g_listed g_papers g_length g_besides g_gapFirst g_gapLast g_layings g_first g_behind g_clauses g_drafts, ar cI (a 1) 5058 g_row]) (F0 m 63 ls [])) :
    ∀ (n : Nat) (x2 : Int32) (x3 : Int32) (H : Heap) (locs : List Loc) (ls : Array Slot), Wd D A s.heap H locs [oX8 a g_undos g_listed g_papers g_length g_besides g_gapFirst g_gapLast g_layings g_first g_behind g_clauses g_drafts, ar cI (a 1) 5058 g_row] → lv_has ls 4 [(0, .ref (a 0)), (1, .int x1), (2, .int x2), (3, .int x3)] → fX8_where_14 g_row x1 n k x2 x3 = some s0 → W p l e rmX8_where s m args below meth c H locs 0 0 (KQ D A below args s (some (.int s0)) [oX8 a g_undos g_listed g_papers g_length g_besides g_gapFirst g_gapLast g_layings g_first g_behind g_clauses g_drafts, ar cI (a 1) 5058 g_row]) (F0 m 14 ls []) := by
  have hx := C.1.1
  have hb := C.1.2.1
  intro n
  induction n with
  | zero =>
    intro x2 x3 H locs ls hw hl h
    rw [fX8_where_14] at h
    cases h
  | succ n ih =>
    intro x2 x3 H locs ls hw hl h
    rw [fX8_where_14] at h
    refine lv_iload_n hx hb dX8_where_14 rfl (lv_at hl 3 rfl) ?_
    refine lv_aload_n hx hb dX8_where_15 rfl (lv_at hl 0 rfl) ?_
    refine k_get C inT_X8 hw 0 rfl rfl 0 (by decide) mF_X8_7 rfl dX8_where_16 ?_
    refine lv_iconst (v := 1) hx hb dX8_where_19 (by decide) ?_
    obtain ⟨y20, q20, h⟩ := bd h
    refine k_iald C hw 1 rfl q20 dX8_where_20 ?_
    refine lv_icmp_ge (tgt := 63) hx hb dX8_where_21 (by decide) (fun c21 => ?_) (fun c21 => ?_)
    · replace h := br_t' h c21
      exact hk _ _ _ _ _ hw (lv_sub hl [0, 1, 2, 3] rfl) h
    · replace h := br_f' h c21
      refine lv_iload_n hx hb dX8_where_24 rfl (lv_at hl 1 rfl) ?_
      refine lv_i2l (v := x1.toInt64) hx hb dX8_where_25 rfl ?_
      refine lv_aload_n hx hb dX8_where_26 rfl (lv_at hl 0 rfl) ?_
      refine lv_iload_n hx hb dX8_where_27 rfl (lv_at hl 3 rfl) ?_
      refine lv_iconst (v := 0) hx hb dX8_where_28 (by decide) ?_
      obtain ⟨r29, q29, h⟩ := bd h
      refine k_callV (nC := 2) [oX8 a g_undos g_listed g_papers g_length g_besides g_gapFirst g_gapLast g_layings g_first g_behind g_clauses g_drafts, ar cI (a 1) 5058 g_row] C hl.1 (tX8_pieceAt (a := a) q29) mL_X8_71 mmX8_pieceAt rfl rfl ⟨Nat.le_of_ble_eq_true rfl, Nat.le_of_ble_eq_true rfl⟩ rfl rfl rfl rfl (Nat.le_of_ble_eq_true rfl) hA hw [0, 1] [] rfl (by decide +kernel) rfl rfl rfl rfl dX8_where_29 (fun H locs hw29 => ?_)
      refine lv_i2l (v := r29.toInt64) hx hb dX8_where_32 rfl ?_
      refine lv_aload_n hx hb dX8_where_33 rfl (lv_at hl 0 rfl) ?_
      refine lv_iload_n hx hb dX8_where_34 rfl (lv_at hl 3 rfl) ?_
      refine lv_iconst (v := 1) hx hb dX8_where_35 (by decide) ?_
      obtain ⟨r36, q36, h⟩ := bd h
      refine k_callV (nC := 2) [oX8 a g_undos g_listed g_papers g_length g_besides g_gapFirst g_gapLast g_layings g_first g_behind g_clauses g_drafts, ar cI (a 1) 5058 g_row] C hl.1 (tX8_pieceAt (a := a) q36) mL_X8_71 mmX8_pieceAt rfl rfl ⟨Nat.le_of_ble_eq_true rfl, Nat.le_of_ble_eq_true rfl⟩ rfl rfl rfl rfl (Nat.le_of_ble_eq_true rfl) hA hw29 [0, 1] [] rfl (by decide +kernel) rfl rfl rfl rfl dX8_where_36 (fun H locs hw36 => ?_)
      refine lv_i2l (v := r36.toInt64) hx hb dX8_where_39 rfl ?_
      obtain ⟨r40, q40, h⟩ := bd h
      refine k_callS (nC := 2) [oX8 a g_undos g_listed g_papers g_length g_besides g_gapFirst g_gapLast g_layings g_first g_behind g_clauses g_drafts, ar cI (a 1) 5058 g_row] C hl.1 (tX8_in q40) mL_X8_58 mmX8_in rfl rfl ⟨Nat.le_of_ble_eq_true rfl, Nat.le_of_ble_eq_true rfl⟩ rfl rfl (Nat.le_of_ble_eq_true rfl) hA hw36 [] [0, 1] rfl (by decide +kernel) rfl rfl rfl rfl dX8_where_40 (fun H locs hw40 => ?_)
      refine lv_if_eq (tgt := 55) hx hb dX8_where_43 (by decide) (fun c43 => ?_) (fun c43 => ?_)
      · replace h := br_t' h c43
        refine lv_iload_n hx hb dX8_where_55 rfl (lv_at hl 2 rfl) ?_
        refine lv_istore_n (lv' := [(2, .int x2), (0, .ref (a 0)), (1, .int x1), (3, .int x3)]) hx hb dX8_where_56 rfl hl (by decide) rfl (fun ls hl => ?_)
        refine lv_iinc (v := (x3 + 1)) (lv' := [(3, .int (x3 + 1)), (2, .int x2), (0, .ref (a 0)), (1, .int x1)]) hx hb dX8_where_57 hl (k := 3) rfl rfl (by decide) rfl (fun ls hl => ?_)
        refine lv_goto (tgt := 14) hx hb dX8_where_60 (by decide) ?_
        exact ih _ _ _ _ _ hw40 (lv_sub hl [2, 3, 1, 0] rfl) h
      · replace h := br_f' h c43
        refine lv_aload_n hx hb dX8_where_46 rfl (lv_at hl 0 rfl) ?_
        refine lv_iload_n hx hb dX8_where_47 rfl (lv_at hl 3 rfl) ?_
        refine lv_iconst (v := 2) hx hb dX8_where_48 (by decide) ?_
        obtain ⟨r49, q49, h⟩ := bd h
        refine k_callV (nC := 2) [oX8 a g_undos g_listed g_papers g_length g_besides g_gapFirst g_gapLast g_layings g_first g_behind g_clauses g_drafts, ar cI (a 1) 5058 g_row] C hl.1 (tX8_pieceAt (a := a) q49) mL_X8_71 mmX8_pieceAt rfl rfl ⟨Nat.le_of_ble_eq_true rfl, Nat.le_of_ble_eq_true rfl⟩ rfl rfl rfl rfl (Nat.le_of_ble_eq_true rfl) hA hw40 [0, 1] [] rfl (by decide +kernel) rfl rfl rfl rfl dX8_where_49 (fun H locs hw49 => ?_)
        refine lv_goto (tgt := 56) hx hb dX8_where_52 (by decide) ?_
        refine lv_istore_n (lv' := [(2, .int r49), (0, .ref (a 0)), (1, .int x1), (3, .int x3)]) hx hb dX8_where_56 rfl hl (by decide) rfl (fun ls hl => ?_)
        refine lv_iinc (v := (x3 + 1)) (lv' := [(3, .int (x3 + 1)), (2, .int r49), (0, .ref (a 0)), (1, .int x1)]) hx hb dX8_where_57 hl (k := 3) rfl rfl (by decide) rfl (fun ls hl => ?_)
        refine lv_goto (tgt := 14) hx hb dX8_where_60 (by decide) ?_
        exact ih _ _ _ _ _ hw49 (lv_sub hl [2, 3, 1, 0] rfl) h
def fX8_where (g_row : Nat → Int32) (x1 : Int32) : Option (Int32) :=
  (fX8_isSheet x1).bind fun r1 =>
  if r1 = 0 then
    some (-3)
  else
    fX8_where_14 g_row x1 FU (fun x2_14 x3_14 =>
      some x2_14) (-1) 0
set_option maxRecDepth 100000 in
set_option maxHeartbeats 4000000 in
theorem tX8_where {l : Launch} {D : va_G} {cI : ClassId} {cS : GS} {a : Nat → Nat} {g_row : Nat → Int32} {g_undos : Int32} {g_listed : Int32} {g_papers : Int32} {g_length : Int32} {g_besides : Int32} {g_gapFirst : Int32} {g_gapLast : Int32} {g_layings : Int32} {g_first : Int32} {g_behind : Int32} {g_clauses : Int32} {g_drafts : Int32} {x1 : Int32} {s0 : Int32} (h : fX8_where g_row x1 = some s0) : CT l D cI cS yX8_where cX8_where 4 (some .int) rmX8_where [.ref (a 0), .int x1] [oX8 a g_undos g_listed g_papers g_length g_besides g_gapFirst g_gapLast g_layings g_first g_behind g_clauses g_drafts, ar cI (a 1) 5058 g_row] (some (.int s0)) [oX8 a g_undos g_listed g_papers g_length g_besides g_gapFirst g_gapLast g_layings g_first g_behind g_clauses g_drafts, ar cI (a 1) 5058 g_row] := by
  refine CT.of RX8 (by decide) rfl (Nat.le_of_ble_eq_true rfl) (fun p e s m below meth c ls A C hA hl hw => ?_)
  have hx := C.1.1
  have hb := C.1.2.1
  have hl : lv_has ls 4 [(0, .ref (a 0)), (1, .int x1)] := hl
  unfold fX8_where at h
  refine lv_iload_n hx hb dX8_where_0 rfl (lv_at hl 1 rfl) ?_
  obtain ⟨r1, q1, h⟩ := bd h
  refine k_callS (nC := 2) [oX8 a g_undos g_listed g_papers g_length g_besides g_gapFirst g_gapLast g_layings g_first g_behind g_clauses g_drafts, ar cI (a 1) 5058 g_row] C hl.1 (tX8_isSheet q1) mL_X8_260 mmX8_isSheet rfl rfl ⟨Nat.le_of_ble_eq_true rfl, Nat.le_of_ble_eq_true rfl⟩ rfl rfl (Nat.le_of_ble_eq_true rfl) hA hw [] [0, 1] rfl (by decide +kernel) rfl rfl rfl rfl dX8_where_1 (fun H locs hw1 => ?_)
  refine lv_if_ne (tgt := 10) hx hb dX8_where_4 (by decide) (fun c4 => ?_) (fun c4 => ?_)
  · replace h := br_f' h c4
    refine lv_iconst (v := (-1)) hx hb dX8_where_10 (by decide) ?_
    refine lv_istore_n (lv' := [(2, .int (-1)), (0, .ref (a 0)), (1, .int x1)]) hx hb dX8_where_11 rfl hl (by decide) rfl (fun ls hl => ?_)
    refine lv_iconst (v := 0) hx hb dX8_where_12 (by decide) ?_
    refine lv_istore_n (lv' := [(3, .int 0), (2, .int (-1)), (0, .ref (a 0)), (1, .int x1)]) hx hb dX8_where_13 rfl hl (by decide) rfl (fun ls hl => ?_)
    refine wX8_where_14 C hA _ (fun x2_14 x3_14 H locs ls hw14x hl h => ?_) FU _ _ _ _ _ hw1 (lv_sub hl [2, 3, 1, 0] rfl) h
    refine lv_iload_n hx hb dX8_where_63 rfl (lv_at hl 2 rfl) ?_
    cases h
    exact k_iret C hw14x dX8_where_64
  · replace h := br_t' h c4
    refine lv_bipush (v := (-3)) hx hb dX8_where_7 (by decide) ?_
    cases h
    exact k_iret C hw1 dX8_where_9
def rmX8_isMoved : Room := { frames := 1, cells := 0, slots := 0, locals := 25 }
def fX8_isMoved (g_row : Nat → Int32) (x1 : Int32) (x2 : Int32) : Option (Int32) :=
  (ld 5058 g_row ((162 + (4 * x1)) + 1)).bind fun y15 =>
  (ld 5058 g_row ((162 + (4 * x1)) + 2)).bind fun y30 =>
  (fX8_in x2.toInt64 y15.toInt64 y30.toInt64).bind fun r32 =>
  (bz r32).bind fun b35 =>
  some b35
set_option maxRecDepth 100000 in
set_option maxHeartbeats 4000000 in
theorem tX8_isMoved {l : Launch} {D : va_G} {cI : ClassId} {cS : GS} {a : Nat → Nat} {g_row : Nat → Int32} {g_undos : Int32} {g_listed : Int32} {g_papers : Int32} {g_length : Int32} {g_besides : Int32} {g_gapFirst : Int32} {g_gapLast : Int32} {g_layings : Int32} {g_first : Int32} {g_behind : Int32} {g_clauses : Int32} {g_drafts : Int32} {x1 : Int32} {x2 : Int32} {s0 : Int32} (h : fX8_isMoved g_row x1 x2 = some s0) : CT l D cI cS yX8_isMoved cX8_isMoved 3 (some .boolean) rmX8_isMoved [.ref (a 0), .int x1, .int x2] [oX8 a g_undos g_listed g_papers g_length g_besides g_gapFirst g_gapLast g_layings g_first g_behind g_clauses g_drafts, ar cI (a 1) 5058 g_row] (some (.int s0)) [oX8 a g_undos g_listed g_papers g_length g_besides g_gapFirst g_gapLast g_layings g_first g_behind g_clauses g_drafts, ar cI (a 1) 5058 g_row] := by
  refine CT.of RX8 (by decide) rfl (Nat.le_of_ble_eq_true rfl) (fun p e s m below meth c ls A C hA hl hw => ?_)
  have hx := C.1.1
  have hb := C.1.2.1
  have hl : lv_has ls 3 [(0, .ref (a 0)), (1, .int x1), (2, .int x2)] := hl
  unfold fX8_isMoved at h
  refine lv_iload_n hx hb dX8_isMoved_0 rfl (lv_at hl 2 rfl) ?_
  refine lv_i2l (v := x2.toInt64) hx hb dX8_isMoved_1 rfl ?_
  refine lv_aload_n hx hb dX8_isMoved_2 rfl (lv_at hl 0 rfl) ?_
  refine k_get C inT_X8 hw 0 rfl rfl 0 (by decide) mF_X8_7 rfl dX8_isMoved_3 ?_
  refine lv_sipush (v := 162) hx hb dX8_isMoved_6 (by decide) ?_
  refine lv_iconst (v := 4) hx hb dX8_isMoved_9 (by decide) ?_
  refine lv_iload_n hx hb dX8_isMoved_10 rfl (lv_at hl 1 rfl) ?_
  refine lv_imul hx hb dX8_isMoved_11 ?_
  refine lv_iadd hx hb dX8_isMoved_12 ?_
  refine lv_iconst (v := 1) hx hb dX8_isMoved_13 (by decide) ?_
  refine lv_iadd hx hb dX8_isMoved_14 ?_
  obtain ⟨y15, q15, h⟩ := bd h
  refine k_iald C hw 1 rfl q15 dX8_isMoved_15 ?_
  refine lv_i2l (v := y15.toInt64) hx hb dX8_isMoved_16 rfl ?_
  refine lv_aload_n hx hb dX8_isMoved_17 rfl (lv_at hl 0 rfl) ?_
  refine k_get C inT_X8 hw 0 rfl rfl 0 (by decide) mF_X8_7 rfl dX8_isMoved_18 ?_
  refine lv_sipush (v := 162) hx hb dX8_isMoved_21 (by decide) ?_
  refine lv_iconst (v := 4) hx hb dX8_isMoved_24 (by decide) ?_
  refine lv_iload_n hx hb dX8_isMoved_25 rfl (lv_at hl 1 rfl) ?_
  refine lv_imul hx hb dX8_isMoved_26 ?_
  refine lv_iadd hx hb dX8_isMoved_27 ?_
  refine lv_iconst (v := 2) hx hb dX8_isMoved_28 (by decide) ?_
  refine lv_iadd hx hb dX8_isMoved_29 ?_
  obtain ⟨y30, q30, h⟩ := bd h
  refine k_iald C hw 1 rfl q30 dX8_isMoved_30 ?_
  refine lv_i2l (v := y30.toInt64) hx hb dX8_isMoved_31 rfl ?_
  obtain ⟨r32, q32, h⟩ := bd h
  refine k_callS (nC := 2) [oX8 a g_undos g_listed g_papers g_length g_besides g_gapFirst g_gapLast g_layings g_first g_behind g_clauses g_drafts, ar cI (a 1) 5058 g_row] C hl.1 (tX8_in q32) mL_X8_58 mmX8_in rfl rfl ⟨Nat.le_of_ble_eq_true rfl, Nat.le_of_ble_eq_true rfl⟩ rfl rfl (Nat.le_of_ble_eq_true rfl) hA hw [] [0, 1] rfl (by decide +kernel) rfl rfl rfl rfl dX8_isMoved_32 (fun H locs hw32 => ?_)
  obtain ⟨b35, q35, h⟩ := bd h
  cases h
  exact k_zretb C q35 hw32 dX8_isMoved_35
def rmX8_was : Room := { frames := 2, cells := 0, slots := 0, locals := 47 }
def fX8_was_19 (g_row : Nat → Int32) (x1 : Int32) (x2 : Int32) : (n : Nat) → (k : Int32 → Int32 → Option (Int32)) → Int32 → Int32 → Option (Int32)
  | 0, _, _, _ => none
  | n + 1, k, x3, x4 =>
    (ld 5058 g_row 2).bind fun y26 =>
    if y26 ≤ x4 then
      k x3 x4
    else
      (ld 5058 g_row (162 + (4 * x4))).bind fun y42 =>
      if x2 < y42 then
        fX8_was_19 g_row x1 x2 n k x3 (x4 + 1)
      else
        (fX8_isMoved g_row x4 x1).bind fun r51 =>
        if r51 = 0 then
          fX8_was_19 g_row x1 x2 n k x3 (x4 + 1)
        else
          (ld 5058 g_row ((162 + (4 * x4)) + 3)).bind fun y71 =>
          fX8_was_19 g_row x1 x2 n k y71 (x4 + 1)
set_option maxRecDepth 100000 in
set_option maxHeartbeats 4000000 in
theorem wX8_was_19 {p : Program} {l : Launch} {e : Env} {s : State} {m : MethodId} {args : Array Value} {below : List Frame} {meth : Method} {c : Code} {D : va_G} {cI : ClassId} {cS : GS} {A : Nat → Prop} {a : Nat → Nat} {g_row : Nat → Int32} {g_undos : Int32} {g_listed : Int32} {g_papers : Int32} {g_length : Int32} {g_besides : Int32} {g_gapFirst : Int32} {g_gapLast : Int32} {g_layings : Int32} {g_first : Int32} {g_behind : Int32} {g_clauses : Int32} {g_drafts : Int32} {x1 : Int32} {x2 : Int32} (C : MC p s m args meth c D cI cS A RX8 cX8_was 5 (some .int)) (hA : ∀ q, s.heap.size ≤ q → A q) {s0 : Int32} (k : Int32 → Int32 → Option (Int32)) (hk : ∀ (x3 : Int32) (x4 : Int32) (H : Heap) (locs : List Loc) (ls : Array Slot), Wd D A s.heap H locs [oX8 a g_undos g_listed g_papers g_length g_besides g_gapFirst g_gapLast g_layings g_first g_behind g_clauses g_drafts, ar cI (a 1) 5058 g_row] → lv_has ls 5 [(0, .ref (a 0)), (1, .int x1), (2, .int x2), (3, .int x3), (4, .int x4)] → k x3 x4 = some s0 → W p l e rmX8_was s m args below meth c H locs 0 0 (KQ D A below args s (some (.int s0)) [oX8 a g_undos g_listed g_papers g_length g_besides g_gapFirst g_gapLast g_layings g_first g_behind g_clauses g_drafts, ar cI (a 1) 5058 g_row]) (F0 m 83 ls [])) :
    ∀ (n : Nat) (x3 : Int32) (x4 : Int32) (H : Heap) (locs : List Loc) (ls : Array Slot), Wd D A s.heap H locs [oX8 a g_undos g_listed g_papers g_length g_besides g_gapFirst g_gapLast g_layings g_first g_behind g_clauses g_drafts, ar cI (a 1) 5058 g_row] → lv_has ls 5 [(0, .ref (a 0)), (1, .int x1), (2, .int x2), (3, .int x3), (4, .int x4)] → fX8_was_19 g_row x1 x2 n k x3 x4 = some s0 → W p l e rmX8_was s m args below meth c H locs 0 0 (KQ D A below args s (some (.int s0)) [oX8 a g_undos g_listed g_papers g_length g_besides g_gapFirst g_gapLast g_layings g_first g_behind g_clauses g_drafts, ar cI (a 1) 5058 g_row]) (F0 m 19 ls []) := by
  have hx := C.1.1
  have hb := C.1.2.1
  intro n
  induction n with
  | zero =>
    intro x3 x4 H locs ls hw hl h
    rw [fX8_was_19] at h
    cases h
  | succ n ih =>
    intro x3 x4 H locs ls hw hl h
    rw [fX8_was_19] at h
    refine lv_iload hx hb dX8_was_19 (lv_at hl 4 rfl) ?_
    refine lv_aload_n hx hb dX8_was_21 rfl (lv_at hl 0 rfl) ?_
    refine k_get C inT_X8 hw 0 rfl rfl 0 (by decide) mF_X8_7 rfl dX8_was_22 ?_
    refine lv_iconst (v := 2) hx hb dX8_was_25 (by decide) ?_
    obtain ⟨y26, q26, h⟩ := bd h
    refine k_iald C hw 1 rfl q26 dX8_was_26 ?_
    refine lv_icmp_ge (tgt := 83) hx hb dX8_was_27 (by decide) (fun c27 => ?_) (fun c27 => ?_)
    · replace h := br_t' h c27
      exact hk _ _ _ _ _ hw (lv_sub hl [0, 1, 2, 3, 4] rfl) h
    · replace h := br_f' h c27
      refine lv_aload_n hx hb dX8_was_30 rfl (lv_at hl 0 rfl) ?_
      refine k_get C inT_X8 hw 0 rfl rfl 0 (by decide) mF_X8_7 rfl dX8_was_31 ?_
      refine lv_sipush (v := 162) hx hb dX8_was_34 (by decide) ?_
      refine lv_iconst (v := 4) hx hb dX8_was_37 (by decide) ?_
      refine lv_iload hx hb dX8_was_38 (lv_at hl 4 rfl) ?_
      refine lv_imul hx hb dX8_was_40 ?_
      refine lv_iadd hx hb dX8_was_41 ?_
      obtain ⟨y42, q42, h⟩ := bd h
      refine k_iald C hw 1 rfl q42 dX8_was_42 ?_
      refine lv_iload_n hx hb dX8_was_43 rfl (lv_at hl 2 rfl) ?_
      refine lv_icmp_gt (tgt := 75) hx hb dX8_was_44 (by decide) (fun c44 => ?_) (fun c44 => ?_)
      · replace h := br_t' h c44
        refine lv_iload_n hx hb dX8_was_75 rfl (lv_at hl 3 rfl) ?_
        refine lv_istore_n (lv' := [(3, .int x3), (0, .ref (a 0)), (1, .int x1), (2, .int x2), (4, .int x4)]) hx hb dX8_was_76 rfl hl (by decide) rfl (fun ls hl => ?_)
        refine lv_iinc (v := (x4 + 1)) (lv' := [(4, .int (x4 + 1)), (3, .int x3), (0, .ref (a 0)), (1, .int x1), (2, .int x2)]) hx hb dX8_was_77 hl (k := 4) rfl rfl (by decide) rfl (fun ls hl => ?_)
        refine lv_goto (tgt := 19) hx hb dX8_was_80 (by decide) ?_
        exact ih _ _ _ _ _ hw (lv_sub hl [2, 3, 4, 1, 0] rfl) h
      · replace h := br_f' h c44
        refine lv_aload_n hx hb dX8_was_47 rfl (lv_at hl 0 rfl) ?_
        refine lv_iload hx hb dX8_was_48 (lv_at hl 4 rfl) ?_
        refine lv_iload_n hx hb dX8_was_50 rfl (lv_at hl 1 rfl) ?_
        obtain ⟨r51, q51, h⟩ := bd h
        refine k_callV (nC := 2) [oX8 a g_undos g_listed g_papers g_length g_besides g_gapFirst g_gapLast g_layings g_first g_behind g_clauses g_drafts, ar cI (a 1) 5058 g_row] C hl.1 (tX8_isMoved (a := a) q51) mL_X8_266 mmX8_isMoved rfl rfl ⟨Nat.le_of_ble_eq_true rfl, Nat.le_of_ble_eq_true rfl⟩ rfl rfl rfl rfl (Nat.le_of_ble_eq_true rfl) hA hw [0, 1] [] rfl (by decide +kernel) rfl rfl rfl rfl dX8_was_51 (fun H locs hw51 => ?_)
        refine lv_if_eq (tgt := 75) hx hb dX8_was_54 (by decide) (fun c54 => ?_) (fun c54 => ?_)
        · replace h := br_t' h c54
          refine lv_iload_n hx hb dX8_was_75 rfl (lv_at hl 3 rfl) ?_
          refine lv_istore_n (lv' := [(3, .int x3), (0, .ref (a 0)), (1, .int x1), (2, .int x2), (4, .int x4)]) hx hb dX8_was_76 rfl hl (by decide) rfl (fun ls hl => ?_)
          refine lv_iinc (v := (x4 + 1)) (lv' := [(4, .int (x4 + 1)), (3, .int x3), (0, .ref (a 0)), (1, .int x1), (2, .int x2)]) hx hb dX8_was_77 hl (k := 4) rfl rfl (by decide) rfl (fun ls hl => ?_)
          refine lv_goto (tgt := 19) hx hb dX8_was_80 (by decide) ?_
          exact ih _ _ _ _ _ hw51 (lv_sub hl [2, 3, 4, 1, 0] rfl) h
        · replace h := br_f' h c54
          refine lv_aload_n hx hb dX8_was_57 rfl (lv_at hl 0 rfl) ?_
          refine k_get C inT_X8 hw51 0 rfl rfl 0 (by decide) mF_X8_7 rfl dX8_was_58 ?_
          refine lv_sipush (v := 162) hx hb dX8_was_61 (by decide) ?_
          refine lv_iconst (v := 4) hx hb dX8_was_64 (by decide) ?_
          refine lv_iload hx hb dX8_was_65 (lv_at hl 4 rfl) ?_
          refine lv_imul hx hb dX8_was_67 ?_
          refine lv_iadd hx hb dX8_was_68 ?_
          refine lv_iconst (v := 3) hx hb dX8_was_69 (by decide) ?_
          refine lv_iadd hx hb dX8_was_70 ?_
          obtain ⟨y71, q71, h⟩ := bd h
          refine k_iald C hw51 1 rfl q71 dX8_was_71 ?_
          refine lv_goto (tgt := 76) hx hb dX8_was_72 (by decide) ?_
          refine lv_istore_n (lv' := [(3, .int y71), (0, .ref (a 0)), (1, .int x1), (2, .int x2), (4, .int x4)]) hx hb dX8_was_76 rfl hl (by decide) rfl (fun ls hl => ?_)
          refine lv_iinc (v := (x4 + 1)) (lv' := [(4, .int (x4 + 1)), (3, .int y71), (0, .ref (a 0)), (1, .int x1), (2, .int x2)]) hx hb dX8_was_77 hl (k := 4) rfl rfl (by decide) rfl (fun ls hl => ?_)
          refine lv_goto (tgt := 19) hx hb dX8_was_80 (by decide) ?_
          exact ih _ _ _ _ _ hw51 (lv_sub hl [2, 3, 4, 1, 0] rfl) h
def fX8_was (g_row : Nat → Int32) (x1 : Int32) (x2 : Int32) : Option (Int32) :=
  (fX8_isSheet x1).bind fun r1 =>
  if r1 = 0 then
    some (-3)
  else
    if 0 ≤ x2 then
      fX8_was_19 g_row x1 x2 FU (fun x3_19 x4_19 =>
        some x3_19) (-1) 0
    else
      some (-3)
set_option maxRecDepth 100000 in
set_option maxHeartbeats 4000000 in
theorem tX8_was {l : Launch} {D : va_G} {cI : ClassId} {cS : GS} {a : Nat → Nat} {g_row : Nat → Int32} {g_undos : Int32} {g_listed : Int32} {g_papers : Int32} {g_length : Int32} {g_besides : Int32} {g_gapFirst : Int32} {g_gapLast : Int32} {g_layings : Int32} {g_first : Int32} {g_behind : Int32} {g_clauses : Int32} {g_drafts : Int32} {x1 : Int32} {x2 : Int32} {s0 : Int32} (h : fX8_was g_row x1 x2 = some s0) : CT l D cI cS yX8_was cX8_was 5 (some .int) rmX8_was [.ref (a 0), .int x1, .int x2] [oX8 a g_undos g_listed g_papers g_length g_besides g_gapFirst g_gapLast g_layings g_first g_behind g_clauses g_drafts, ar cI (a 1) 5058 g_row] (some (.int s0)) [oX8 a g_undos g_listed g_papers g_length g_besides g_gapFirst g_gapLast g_layings g_first g_behind g_clauses g_drafts, ar cI (a 1) 5058 g_row] := by
  refine CT.of RX8 (by decide) rfl (Nat.le_of_ble_eq_true rfl) (fun p e s m below meth c ls A C hA hl hw => ?_)
  have hx := C.1.1
  have hb := C.1.2.1
  have hl : lv_has ls 5 [(0, .ref (a 0)), (1, .int x1), (2, .int x2)] := hl
  unfold fX8_was at h
  refine lv_iload_n hx hb dX8_was_0 rfl (lv_at hl 1 rfl) ?_
  obtain ⟨r1, q1, h⟩ := bd h
  refine k_callS (nC := 2) [oX8 a g_undos g_listed g_papers g_length g_besides g_gapFirst g_gapLast g_layings g_first g_behind g_clauses g_drafts, ar cI (a 1) 5058 g_row] C hl.1 (tX8_isSheet q1) mL_X8_260 mmX8_isSheet rfl rfl ⟨Nat.le_of_ble_eq_true rfl, Nat.le_of_ble_eq_true rfl⟩ rfl rfl (Nat.le_of_ble_eq_true rfl) hA hw [] [0, 1] rfl (by decide +kernel) rfl rfl rfl rfl dX8_was_1 (fun H locs hw1 => ?_)
  refine lv_if_eq (tgt := 11) hx hb dX8_was_4 (by decide) (fun c4 => ?_) (fun c4 => ?_)
  · replace h := br_t' h c4
    refine lv_bipush (v := (-3)) hx hb dX8_was_11 (by decide) ?_
    cases h
    exact k_iret C hw1 dX8_was_13
  · replace h := br_f' h c4
    refine lv_iload_n hx hb dX8_was_7 rfl (lv_at hl 2 rfl) ?_
    refine lv_if_ge (tgt := 14) hx hb dX8_was_8 (by decide) (fun c8 => ?_) (fun c8 => ?_)
    · replace h := br_t' h c8
      refine lv_iconst (v := (-1)) hx hb dX8_was_14 (by decide) ?_
      refine lv_istore_n (lv' := [(3, .int (-1)), (0, .ref (a 0)), (1, .int x1), (2, .int x2)]) hx hb dX8_was_15 rfl hl (by decide) rfl (fun ls hl => ?_)
      refine lv_iconst (v := 0) hx hb dX8_was_16 (by decide) ?_
      refine lv_istore (lv' := [(4, .int 0), (3, .int (-1)), (0, .ref (a 0)), (1, .int x1), (2, .int x2)]) hx hb dX8_was_17 hl (by decide) rfl (fun ls hl => ?_)
      refine wX8_was_19 C hA _ (fun x3_19 x4_19 H locs ls hw19x hl h => ?_) FU _ _ _ _ _ hw1 (lv_sub hl [2, 3, 4, 1, 0] rfl) h
      refine lv_iload_n hx hb dX8_was_83 rfl (lv_at hl 3 rfl) ?_
      cases h
      exact k_iret C hw19x dX8_was_84
    · replace h := br_f' h c8
      refine lv_bipush (v := (-3)) hx hb dX8_was_11 (by decide) ?_
      cases h
      exact k_iret C hw1 dX8_was_13
def rmX8_move : Room := { frames := 1, cells := 0, slots := 0, locals := 25 }
def fX8_move (g_row : Nat → Int32) (x1 : Int32) (x2 : Int32) : Option (Int32) :=
  (ld 5058 g_row 2).bind fun y8 =>
  (fX8_in x1.toInt64 0 ((y8 - 1).toInt64)).bind fun r12 =>
  if r12 = 0 then
    some (-2)
  else
    (fX8_in x2.toInt64 0 3).bind fun r27 =>
    if r27 = 0 then
      some (-3)
    else
      (ld 5058 g_row ((162 + (4 * x1)) + x2)).bind fun y46 =>
      some y46
set_option maxRecDepth 100000 in
set_option maxHeartbeats 4000000 in
theorem tX8_move {l : Launch} {D : va_G} {cI : ClassId} {cS : GS} {a : Nat → Nat} {g_row : Nat → Int32} {g_undos : Int32} {g_listed : Int32} {g_papers : Int32} {g_length : Int32} {g_besides : Int32} {g_gapFirst : Int32} {g_gapLast : Int32} {g_layings : Int32} {g_first : Int32} {g_behind : Int32} {g_clauses : Int32} {g_drafts : Int32} {x1 : Int32} {x2 : Int32} {s0 : Int32} (h : fX8_move g_row x1 x2 = some s0) : CT l D cI cS yX8_move cX8_move 3 (some .int) rmX8_move [.ref (a 0), .int x1, .int x2] [oX8 a g_undos g_listed g_papers g_length g_besides g_gapFirst g_gapLast g_layings g_first g_behind g_clauses g_drafts, ar cI (a 1) 5058 g_row] (some (.int s0)) [oX8 a g_undos g_listed g_papers g_length g_besides g_gapFirst g_gapLast g_layings g_first g_behind g_clauses g_drafts, ar cI (a 1) 5058 g_row] := by
  refine CT.of RX8 (by decide) rfl (Nat.le_of_ble_eq_true rfl) (fun p e s m below meth c ls A C hA hl hw => ?_)
  have hx := C.1.1
  have hb := C.1.2.1
  have hl : lv_has ls 3 [(0, .ref (a 0)), (1, .int x1), (2, .int x2)] := hl
  unfold fX8_move at h
  refine lv_iload_n hx hb dX8_move_0 rfl (lv_at hl 1 rfl) ?_
  refine lv_i2l (v := x1.toInt64) hx hb dX8_move_1 rfl ?_
  refine lv_lconst (v := 0) hx hb dX8_move_2 (by decide) ?_
  refine lv_aload_n hx hb dX8_move_3 rfl (lv_at hl 0 rfl) ?_
  refine k_get C inT_X8 hw 0 rfl rfl 0 (by decide) mF_X8_7 rfl dX8_move_4 ?_
  refine lv_iconst (v := 2) hx hb dX8_move_7 (by decide) ?_
  obtain ⟨y8, q8, h⟩ := bd h
  refine k_iald C hw 1 rfl q8 dX8_move_8 ?_
  refine lv_iconst (v := 1) hx hb dX8_move_9 (by decide) ?_
  refine lv_isub hx hb dX8_move_10 ?_
  refine lv_i2l (v := (y8 - 1).toInt64) hx hb dX8_move_11 rfl ?_
  obtain ⟨r12, q12, h⟩ := bd h
  refine k_callS (nC := 2) [oX8 a g_undos g_listed g_papers g_length g_besides g_gapFirst g_gapLast g_layings g_first g_behind g_clauses g_drafts, ar cI (a 1) 5058 g_row] C hl.1 (tX8_in q12) mL_X8_58 mmX8_in rfl rfl ⟨Nat.le_of_ble_eq_true rfl, Nat.le_of_ble_eq_true rfl⟩ rfl rfl (Nat.le_of_ble_eq_true rfl) hA hw [] [0, 1] rfl (by decide +kernel) rfl rfl rfl rfl dX8_move_12 (fun H locs hw12 => ?_)
  refine lv_if_ne (tgt := 21) hx hb dX8_move_15 (by decide) (fun c15 => ?_) (fun c15 => ?_)
  · replace h := br_f' h c15
    refine lv_iload_n hx hb dX8_move_21 rfl (lv_at hl 2 rfl) ?_
    refine lv_i2l (v := x2.toInt64) hx hb dX8_move_22 rfl ?_
    refine lv_lconst (v := 0) hx hb dX8_move_23 (by decide) ?_
    refine k_ldc2 C mD_X8_269 dX8_move_24 ?_
    obtain ⟨r27, q27, h⟩ := bd h
    refine k_callS (nC := 2) [oX8 a g_undos g_listed g_papers g_length g_besides g_gapFirst g_gapLast g_layings g_first g_behind g_clauses g_drafts, ar cI (a 1) 5058 g_row] C hl.1 (tX8_in q27) mL_X8_58 mmX8_in rfl rfl ⟨Nat.le_of_ble_eq_true rfl, Nat.le_of_ble_eq_true rfl⟩ rfl rfl (Nat.le_of_ble_eq_true rfl) hA hw12 [] [0, 1] rfl (by decide +kernel) rfl rfl rfl rfl dX8_move_27 (fun H locs hw27 => ?_)
    refine lv_if_eq (tgt := 50) hx hb dX8_move_30 (by decide) (fun c30 => ?_) (fun c30 => ?_)
    · replace h := br_t' h c30
      refine lv_bipush (v := (-3)) hx hb dX8_move_50 (by decide) ?_
      cases h
      exact k_iret C hw27 dX8_move_52
    · replace h := br_f' h c30
      refine lv_aload_n hx hb dX8_move_33 rfl (lv_at hl 0 rfl) ?_
      refine k_get C inT_X8 hw27 0 rfl rfl 0 (by decide) mF_X8_7 rfl dX8_move_34 ?_
      refine lv_sipush (v := 162) hx hb dX8_move_37 (by decide) ?_
      refine lv_iconst (v := 4) hx hb dX8_move_40 (by decide) ?_
      refine lv_iload_n hx hb dX8_move_41 rfl (lv_at hl 1 rfl) ?_
      refine lv_imul hx hb dX8_move_42 ?_
      refine lv_iadd hx hb dX8_move_43 ?_
      refine lv_iload_n hx hb dX8_move_44 rfl (lv_at hl 2 rfl) ?_
      refine lv_iadd hx hb dX8_move_45 ?_
      obtain ⟨y46, q46, h⟩ := bd h
      refine k_iald C hw27 1 rfl q46 dX8_move_46 ?_
      refine lv_goto (tgt := 52) hx hb dX8_move_47 (by decide) ?_
      cases h
      exact k_iret C hw27 dX8_move_52
  · replace h := br_t' h c15
    refine lv_bipush (v := (-2)) hx hb dX8_move_18 (by decide) ?_
    cases h
    exact k_iret C hw12 dX8_move_20
def rmX8_trail : Room := { frames := 2, cells := 0, slots := 0, locals := 47 }
def fX8_trail_23 (g_row : Nat → Int32) (x1 : Int32) (x2 : Int32) : (n : Nat) → (k : Int32 → Int32 → Int32 → Option (Int32)) → Int32 → Int32 → Int32 → Option (Int32)
  | 0, _, _, _, _ => none
  | n + 1, k, x3, x4, x5 =>
    (ld 5058 g_row 2).bind fun y30 =>
    if y30 ≤ x5 then
      k x3 x4 x5
    else
      (fX8_isMoved g_row x5 x1).bind fun r38 =>
      if r38 = 0 then
        if x3 = x3 then
          fX8_trail_23 g_row x1 x2 n k x3 x4 (x5 + 1)
        else
          if x4 = x2 then
            some x5
          else
            fX8_trail_23 g_row x1 x2 n k x3 (x4 + 1) (x5 + 1)
      else
        (ld 5058 g_row ((162 + (4 * x5)) + 3)).bind fun y58 =>
        if y58 = x3 then
          fX8_trail_23 g_row x1 x2 n k y58 x4 (x5 + 1)
        else
          if x4 = x2 then
            some x5
          else
            fX8_trail_23 g_row x1 x2 n k y58 (x4 + 1) (x5 + 1)
set_option maxRecDepth 100000 in
set_option maxHeartbeats 4000000 in
theorem wX8_trail_23 {p : Program} {l : Launch} {e : Env} {s : State} {m : MethodId} {args : Array Value} {below : List Frame} {meth : Method} {c : Code} {D : va_G} {cI : ClassId} {cS : GS} {A : Nat → Prop} {a : Nat → Nat} {g_row : Nat → Int32} {g_undos : Int32} {g_listed : Int32} {g_papers : Int32} {g_length : Int32} {g_besides : Int32} {g_gapFirst : Int32} {g_gapLast : Int32} {g_layings : Int32} {g_first : Int32} {g_behind : Int32} {g_clauses : Int32} {g_drafts : Int32} {x1 : Int32} {x2 : Int32} (C : MC p s m args meth c D cI cS A RX8 cX8_trail 7 (some .int)) (hA : ∀ q, s.heap.size ≤ q → A q) {s0 : Int32} (k : Int32 → Int32 → Int32 → Option (Int32)) (hk : ∀ (x3 : Int32) (x4 : Int32) (x5 : Int32) (H : Heap) (locs : List Loc) (ls : Array Slot), Wd D A s.heap H locs [oX8 a g_undos g_listed g_papers g_length g_besides g_gapFirst g_gapLast g_layings g_first g_behind g_clauses g_drafts, ar cI (a 1) 5058 g_row] → lv_has ls 7 [(0, .ref (a 0)), (1, .int x1), (2, .int x2), (3, .int x3), (4, .int x4), (5, .int x5)] → k x3 x4 x5 = some s0 → W p l e rmX8_trail s m args below meth c H locs 0 0 (KQ D A below args s (some (.int s0)) [oX8 a g_undos g_listed g_papers g_length g_besides g_gapFirst g_gapLast g_layings g_first g_behind g_clauses g_drafts, ar cI (a 1) 5058 g_row]) (F0 m 92 ls [])) :
    ∀ (n : Nat) (x3 : Int32) (x4 : Int32) (x5 : Int32) (H : Heap) (locs : List Loc) (ls : Array Slot), Wd D A s.heap H locs [oX8 a g_undos g_listed g_papers g_length g_besides g_gapFirst g_gapLast g_layings g_first g_behind g_clauses g_drafts, ar cI (a 1) 5058 g_row] → lv_has ls 7 [(0, .ref (a 0)), (1, .int x1), (2, .int x2), (3, .int x3), (4, .int x4), (5, .int x5)] → fX8_trail_23 g_row x1 x2 n k x3 x4 x5 = some s0 → W p l e rmX8_trail s m args below meth c H locs 0 0 (KQ D A below args s (some (.int s0)) [oX8 a g_undos g_listed g_papers g_length g_besides g_gapFirst g_gapLast g_layings g_first g_behind g_clauses g_drafts, ar cI (a 1) 5058 g_row]) (F0 m 23 ls []) := by
  have hx := C.1.1
  have hb := C.1.2.1
  intro n
  induction n with
  | zero =>
    intro x3 x4 x5 H locs ls hw hl h
    rw [fX8_trail_23] at h
    cases h
  | succ n ih =>
    intro x3 x4 x5 H locs ls hw hl h
    rw [fX8_trail_23] at h
    refine lv_iload hx hb dX8_trail_23 (lv_at hl 5 rfl) ?_
    refine lv_aload_n hx hb dX8_trail_25 rfl (lv_at hl 0 rfl) ?_
    refine k_get C inT_X8 hw 0 rfl rfl 0 (by decide) mF_X8_7 rfl dX8_trail_26 ?_
    refine lv_iconst (v := 2) hx hb dX8_trail_29 (by decide) ?_
    obtain ⟨y30, q30, h⟩ := bd h
    refine k_iald C hw 1 rfl q30 dX8_trail_30 ?_
    refine lv_icmp_ge (tgt := 92) hx hb dX8_trail_31 (by decide) (fun c31 => ?_) (fun c31 => ?_)
    · replace h := br_t' h c31
      exact hk _ _ _ _ _ _ hw (lv_sub hl [0, 1, 2, 3, 4, 5] rfl) h
    · replace h := br_f' h c31
      refine lv_aload_n hx hb dX8_trail_34 rfl (lv_at hl 0 rfl) ?_
      refine lv_iload hx hb dX8_trail_35 (lv_at hl 5 rfl) ?_
      refine lv_iload_n hx hb dX8_trail_37 rfl (lv_at hl 1 rfl) ?_
      obtain ⟨r38, q38, h⟩ := bd h
      refine k_callV (nC := 2) [oX8 a g_undos g_listed g_papers g_length g_besides g_gapFirst g_gapLast g_layings g_first g_behind g_clauses g_drafts, ar cI (a 1) 5058 g_row] C hl.1 (tX8_isMoved (a := a) q38) mL_X8_266 mmX8_isMoved rfl rfl ⟨Nat.le_of_ble_eq_true rfl, Nat.le_of_ble_eq_true rfl⟩ rfl rfl rfl rfl (Nat.le_of_ble_eq_true rfl) hA hw [0, 1] [] rfl (by decide +kernel) rfl rfl rfl rfl dX8_trail_38 (fun H locs hw38 => ?_)
      refine lv_if_eq (tgt := 62) hx hb dX8_trail_41 (by decide) (fun c41 => ?_) (fun c41 => ?_)
      · replace h := br_t' h c41
        refine lv_iload_n hx hb dX8_trail_62 rfl (lv_at hl 3 rfl) ?_
        refine lv_istore (lv' := [(6, .int x3), (0, .ref (a 0)), (1, .int x1), (2, .int x2), (3, .int x3), (4, .int x4), (5, .int x5)]) hx hb dX8_trail_63 hl (by decide) rfl (fun ls hl => ?_)
        refine lv_iload hx hb dX8_trail_65 (lv_at hl 0 rfl) ?_
        refine lv_iload_n hx hb dX8_trail_67 rfl (lv_at hl 4 rfl) ?_
        refine lv_icmp_eq (tgt := 83) hx hb dX8_trail_68 (by decide) (fun c68 => ?_) (fun c68 => ?_)
        · replace h := br_t' h c68
          refine lv_iload hx hb dX8_trail_83 (lv_at hl 0 rfl) ?_
          refine lv_istore_n (lv' := [(3, .int x3), (6, .int x3), (0, .ref (a 0)), (1, .int x1), (2, .int x2), (4, .int x4), (5, .int x5)]) hx hb dX8_trail_85 rfl hl (by decide) rfl (fun ls hl => ?_)
          refine lv_iinc (v := (x5 + 1)) (lv' := [(5, .int (x5 + 1)), (3, .int x3), (6, .int x3), (0, .ref (a 0)), (1, .int x1), (2, .int x2), (4, .int x4)]) hx hb dX8_trail_86 hl (k := 6) rfl rfl (by decide) rfl (fun ls hl => ?_)
          refine lv_goto (tgt := 23) hx hb dX8_trail_89 (by decide) ?_
          exact ih _ _ _ _ _ _ hw38 (lv_sub hl [3, 4, 5, 1, 6, 0] rfl) h
        · replace h := br_f' h c68
          refine lv_iload hx hb dX8_trail_71 (lv_at hl 5 rfl) ?_
          refine lv_iload_n hx hb dX8_trail_73 rfl (lv_at hl 3 rfl) ?_
          refine lv_icmp_ne (tgt := 80) hx hb dX8_trail_74 (by decide) (fun c74 => ?_) (fun c74 => ?_)
          · replace h := br_f' h c74
            refine lv_iinc (v := (x4 + 1)) (lv' := [(4, .int (x4 + 1)), (6, .int x3), (0, .ref (a 0)), (1, .int x1), (2, .int x2), (3, .int x3), (5, .int x5)]) hx hb dX8_trail_80 hl (k := 5) rfl rfl (by decide) rfl (fun ls hl => ?_)
            refine lv_iload hx hb dX8_trail_83 (lv_at hl 1 rfl) ?_
            refine lv_istore_n (lv' := [(3, .int x3), (4, .int (x4 + 1)), (6, .int x3), (0, .ref (a 0)), (1, .int x1), (2, .int x2), (5, .int x5)]) hx hb dX8_trail_85 rfl hl (by decide) rfl (fun ls hl => ?_)
            refine lv_iinc (v := (x5 + 1)) (lv' := [(5, .int (x5 + 1)), (3, .int x3), (4, .int (x4 + 1)), (6, .int x3), (0, .ref (a 0)), (1, .int x1), (2, .int x2)]) hx hb dX8_trail_86 hl (k := 6) rfl rfl (by decide) rfl (fun ls hl => ?_)
            refine lv_goto (tgt := 23) hx hb dX8_trail_89 (by decide) ?_
            exact ih _ _ _ _ _ _ hw38 (lv_sub hl [4, 5, 6, 1, 2, 0] rfl) h
          · replace h := br_t' h c74
            refine lv_iload hx hb dX8_trail_77 (lv_at hl 6 rfl) ?_
            cases h
            exact k_iret C hw38 dX8_trail_79
      · replace h := br_f' h c41
        refine lv_aload_n hx hb dX8_trail_44 rfl (lv_at hl 0 rfl) ?_
        refine k_get C inT_X8 hw38 0 rfl rfl 0 (by decide) mF_X8_7 rfl dX8_trail_45 ?_
        refine lv_sipush (v := 162) hx hb dX8_trail_48 (by decide) ?_
        refine lv_iconst (v := 4) hx hb dX8_trail_51 (by decide) ?_
        refine lv_iload hx hb dX8_trail_52 (lv_at hl 5 rfl) ?_
        refine lv_imul hx hb dX8_trail_54 ?_
        refine lv_iadd hx hb dX8_trail_55 ?_
        refine lv_iconst (v := 3) hx hb dX8_trail_56 (by decide) ?_
        refine lv_iadd hx hb dX8_trail_57 ?_
        obtain ⟨y58, q58, h⟩ := bd h
        refine k_iald C hw38 1 rfl q58 dX8_trail_58 ?_
        refine lv_goto (tgt := 63) hx hb dX8_trail_59 (by decide) ?_
        refine lv_istore (lv' := [(6, .int y58), (0, .ref (a 0)), (1, .int x1), (2, .int x2), (3, .int x3), (4, .int x4), (5, .int x5)]) hx hb dX8_trail_63 hl (by decide) rfl (fun ls hl => ?_)
        refine lv_iload hx hb dX8_trail_65 (lv_at hl 0 rfl) ?_
        refine lv_iload_n hx hb dX8_trail_67 rfl (lv_at hl 4 rfl) ?_
        refine lv_icmp_eq (tgt := 83) hx hb dX8_trail_68 (by decide) (fun c68 => ?_) (fun c68 => ?_)
        · replace h := br_t' h c68
          refine lv_iload hx hb dX8_trail_83 (lv_at hl 0 rfl) ?_
          refine lv_istore_n (lv' := [(3, .int y58), (6, .int y58), (0, .ref (a 0)), (1, .int x1), (2, .int x2), (4, .int x4), (5, .int x5)]) hx hb dX8_trail_85 rfl hl (by decide) rfl (fun ls hl => ?_)
          refine lv_iinc (v := (x5 + 1)) (lv' := [(5, .int (x5 + 1)), (3, .int y58), (6, .int y58), (0, .ref (a 0)), (1, .int x1), (2, .int x2), (4, .int x4)]) hx hb dX8_trail_86 hl (k := 6) rfl rfl (by decide) rfl (fun ls hl => ?_)
          refine lv_goto (tgt := 23) hx hb dX8_trail_89 (by decide) ?_
          exact ih _ _ _ _ _ _ hw38 (lv_sub hl [3, 4, 5, 1, 6, 0] rfl) h
        · replace h := br_f' h c68
          refine lv_iload hx hb dX8_trail_71 (lv_at hl 5 rfl) ?_
          refine lv_iload_n hx hb dX8_trail_73 rfl (lv_at hl 3 rfl) ?_
          refine lv_icmp_ne (tgt := 80) hx hb dX8_trail_74 (by decide) (fun c74 => ?_) (fun c74 => ?_)
          · replace h := br_f' h c74
            refine lv_iinc (v := (x4 + 1)) (lv' := [(4, .int (x4 + 1)), (6, .int y58), (0, .ref (a 0)), (1, .int x1), (2, .int x2), (3, .int x3), (5, .int x5)]) hx hb dX8_trail_80 hl (k := 5) rfl rfl (by decide) rfl (fun ls hl => ?_)
            refine lv_iload hx hb dX8_trail_83 (lv_at hl 1 rfl) ?_
            refine lv_istore_n (lv' := [(3, .int y58), (4, .int (x4 + 1)), (6, .int y58), (0, .ref (a 0)), (1, .int x1), (2, .int x2), (5, .int x5)]) hx hb dX8_trail_85 rfl hl (by decide) rfl (fun ls hl => ?_)
            refine lv_iinc (v := (x5 + 1)) (lv' := [(5, .int (x5 + 1)), (3, .int y58), (4, .int (x4 + 1)), (6, .int y58), (0, .ref (a 0)), (1, .int x1), (2, .int x2)]) hx hb dX8_trail_86 hl (k := 6) rfl rfl (by decide) rfl (fun ls hl => ?_)
            refine lv_goto (tgt := 23) hx hb dX8_trail_89 (by decide) ?_
            exact ih _ _ _ _ _ _ hw38 (lv_sub hl [4, 5, 6, 1, 2, 0] rfl) h
          · replace h := br_t' h c74
            refine lv_iload hx hb dX8_trail_77 (lv_at hl 6 rfl) ?_
            cases h
            exact k_iret C hw38 dX8_trail_79
def fX8_trail (g_row : Nat → Int32) (x1 : Int32) (x2 : Int32) : Option (Int32) :=
  (fX8_isSheet x1).bind fun r1 =>
  if r1 = 0 then
    some (-3)
  else
    if (-1) ≤ x2 then
      fX8_trail_23 g_row x1 x2 FU (fun x3_23 x4_23 x5_23 =>
        if x2 = (-1) then
          some x4_23
        else
          some (-1)) (-1) 0 0
    else
      some (-3)
set_option maxRecDepth 100000 in
set_option maxHeartbeats 4000000 in
theorem tX8_trail {l : Launch} {D : va_G} {cI : ClassId} {cS : GS} {a : Nat → Nat} {g_row : Nat → Int32} {g_undos : Int32} {g_listed : Int32} {g_papers : Int32} {g_length : Int32} {g_besides : Int32} {g_gapFirst : Int32} {g_gapLast : Int32} {g_layings : Int32} {g_first : Int32} {g_behind : Int32} {g_clauses : Int32} {g_drafts : Int32} {x1 : Int32} {x2 : Int32} {s0 : Int32} (h : fX8_trail g_row x1 x2 = some s0) : CT l D cI cS yX8_trail cX8_trail 7 (some .int) rmX8_trail [.ref (a 0), .int x1, .int x2] [oX8 a g_undos g_listed g_papers g_length g_besides g_gapFirst g_gapLast g_layings g_first g_behind g_clauses g_drafts, ar cI (a 1) 5058 g_row] (some (.int s0)) [oX8 a g_undos g_listed g_papers g_length g_besides g_gapFirst g_gapLast g_layings g_first g_behind g_clauses g_drafts, ar cI (a 1) 5058 g_row] := by
  refine CT.of RX8 (by decide) rfl (Nat.le_of_ble_eq_true rfl) (fun p e s m below meth c ls A C hA hl hw => ?_)
  have hx := C.1.1
  have hb := C.1.2.1
  have hl : lv_has ls 7 [(0, .ref (a 0)), (1, .int x1), (2, .int x2)] := hl
  unfold fX8_trail at h
  refine lv_iload_n hx hb dX8_trail_0 rfl (lv_at hl 1 rfl) ?_
  obtain ⟨r1, q1, h⟩ := bd h
  refine k_callS (nC := 2) [oX8 a g_undos g_listed g_papers g_length g_besides g_gapFirst g_gapLast g_layings g_first g_behind g_clauses g_drafts, ar cI (a 1) 5058 g_row] C hl.1 (tX8_isSheet q1) mL_X8_260 mmX8_isSheet rfl rfl ⟨Nat.le_of_ble_eq_true rfl, Nat.le_of_ble_eq_true rfl⟩ rfl rfl (Nat.le_of_ble_eq_true rfl) hA hw [] [0, 1] rfl (by decide +kernel) rfl rfl rfl rfl dX8_trail_1 (fun H locs hw1 => ?_)
  refine lv_if_eq (tgt := 12) hx hb dX8_trail_4 (by decide) (fun c4 => ?_) (fun c4 => ?_)
  · replace h := br_t' h c4
    refine lv_bipush (v := (-3)) hx hb dX8_trail_12 (by decide) ?_
    cases h
    exact k_iret C hw1 dX8_trail_14
  · replace h := br_f' h c4
    refine lv_iload_n hx hb dX8_trail_7 rfl (lv_at hl 2 rfl) ?_
    refine lv_iconst (v := (-1)) hx hb dX8_trail_8 (by decide) ?_
    refine lv_icmp_ge (tgt := 15) hx hb dX8_trail_9 (by decide) (fun c9 => ?_) (fun c9 => ?_)
    · replace h := br_t' h c9
      refine lv_iconst (v := (-1)) hx hb dX8_trail_15 (by decide) ?_
      refine lv_istore_n (lv' := [(3, .int (-1)), (0, .ref (a 0)), (1, .int x1), (2, .int x2)]) hx hb dX8_trail_16 rfl hl (by decide) rfl (fun ls hl => ?_)
      refine lv_iconst (v := 0) hx hb dX8_trail_17 (by decide) ?_
      refine lv_istore (lv' := [(4, .int 0), (3, .int (-1)), (0, .ref (a 0)), (1, .int x1), (2, .int x2)]) hx hb dX8_trail_18 hl (by decide) rfl (fun ls hl => ?_)
      refine lv_iconst (v := 0) hx hb dX8_trail_20 (by decide) ?_
      refine lv_istore (lv' := [(5, .int 0), (4, .int 0), (3, .int (-1)), (0, .ref (a 0)), (1, .int x1), (2, .int x2)]) hx hb dX8_trail_21 hl (by decide) rfl (fun ls hl => ?_)
      refine wX8_trail_23 C hA _ (fun x3_23 x4_23 x5_23 H locs ls hw23x hl h => ?_) FU _ _ _ _ _ _ hw1 (lv_sub hl [3, 4, 5, 2, 1, 0] rfl) h
      refine lv_iload_n hx hb dX8_trail_92 rfl (lv_at hl 2 rfl) ?_
      refine lv_iconst (v := (-1)) hx hb dX8_trail_93 (by decide) ?_
      refine lv_icmp_ne (tgt := 102) hx hb dX8_trail_94 (by decide) (fun c94 => ?_) (fun c94 => ?_)
      · replace h := br_f' h c94
        refine lv_iconst (v := (-1)) hx hb dX8_trail_102 (by decide) ?_
        cases h
        exact k_iret C hw23x dX8_trail_103
      · replace h := br_t' h c94
        refine lv_iload hx hb dX8_trail_97 (lv_at hl 4 rfl) ?_
        refine lv_goto (tgt := 103) hx hb dX8_trail_99 (by decide) ?_
        cases h
        exact k_iret C hw23x dX8_trail_103
    · replace h := br_f' h c9
      refine lv_bipush (v := (-3)) hx hb dX8_trail_12 (by decide) ?_
      cases h
      exact k_iret C hw1 dX8_trail_14
def rmX8_row : Room := { frames := 2, cells := 0, slots := 0, locals := 46 }
def fX8_row (g_list : Nat → Int32) (g_listed : Int32) (x1 : Int32) (x2 : Int32) (x3 : Int32) : Option (Int32 × (Nat → Int32) × Int32) :=
  (fX8_isBox x1).bind fun r1 =>
  if r1 = 0 then
    some ((-2), g_list, g_listed)
  else
    (fX8_isRange x2 x3).bind fun r12 =>
    if r12 = 0 then
      some ((-3), g_list, g_listed)
    else
      if g_listed = 12 then
        some ((-5), g_list, g_listed)
      else
        (fX8_lists g_list g_listed x1 x2 x3).bind fun r37 =>
        some ((r37.2 - 1), r37.1, r37.2)
set_option maxRecDepth 100000 in
set_option maxHeartbeats 4000000 in
theorem tX8_row {l : Launch} {D : va_G} {cI : ClassId} {cS : GS} {a : Nat → Nat} {g_undos : Int32} {g_list : Nat → Int32} {g_listed : Int32} {g_papers : Int32} {g_length : Int32} {g_besides : Int32} {g_gapFirst : Int32} {g_gapLast : Int32} {g_layings : Int32} {g_first : Int32} {g_behind : Int32} {g_clauses : Int32} {g_drafts : Int32} {x1 : Int32} {x2 : Int32} {x3 : Int32} {s0 : Int32} {s1 : (Nat → Int32)} {s2 : Int32} (h : fX8_row g_list g_listed x1 x2 x3 = some (s0, s1, s2)) : CT l D cI cS yX8_row cX8_row 4 (some .int) rmX8_row [.ref (a 0), .int x1, .int x2, .int x3] [oX8 a g_undos g_listed g_papers g_length g_besides g_gapFirst g_gapLast g_layings g_first g_behind g_clauses g_drafts, ar cI (a 3) 36 g_list] (some (.int s0)) [oX8 a g_undos s2 g_papers g_length g_besides g_gapFirst g_gapLast g_layings g_first g_behind g_clauses g_drafts, ar cI (a 3) 36 s1] := by
  refine CT.of RX8 (by decide) rfl (Nat.le_of_ble_eq_true rfl) (fun p e s m below meth c ls A C hA hl hw => ?_)
  have hx := C.1.1
  have hb := C.1.2.1
  have hl : lv_has ls 4 [(0, .ref (a 0)), (1, .int x1), (2, .int x2), (3, .int x3)] := hl
  unfold fX8_row at h
  refine lv_iload_n hx hb dX8_row_0 rfl (lv_at hl 1 rfl) ?_
  obtain ⟨r1, q1, h⟩ := bd h
  refine k_callS (nC := 2) [oX8 a g_undos g_listed g_papers g_length g_besides g_gapFirst g_gapLast g_layings g_first g_behind g_clauses g_drafts, ar cI (a 3) 36 g_list] C hl.1 (tX8_isBox q1) mL_X8_212 mmX8_isBox rfl rfl ⟨Nat.le_of_ble_eq_true rfl, Nat.le_of_ble_eq_true rfl⟩ rfl rfl (Nat.le_of_ble_eq_true rfl) hA hw [] [0, 1] rfl (by decide +kernel) rfl rfl rfl rfl dX8_row_1 (fun H locs hw1 => ?_)
  refine lv_if_ne (tgt := 10) hx hb dX8_row_4 (by decide) (fun c4 => ?_) (fun c4 => ?_)
  · replace h := br_f' h c4
    refine lv_iload_n hx hb dX8_row_10 rfl (lv_at hl 2 rfl) ?_
    refine lv_iload_n hx hb dX8_row_11 rfl (lv_at hl 3 rfl) ?_
    obtain ⟨r12, q12, h⟩ := bd h
    refine k_callS (nC := 2) [oX8 a g_undos g_listed g_papers g_length g_besides g_gapFirst g_gapLast g_layings g_first g_behind g_clauses g_drafts, ar cI (a 3) 36 g_list] C hl.1 (tX8_isRange q12) mL_X8_203 mmX8_isRange rfl rfl ⟨Nat.le_of_ble_eq_true rfl, Nat.le_of_ble_eq_true rfl⟩ rfl rfl (Nat.le_of_ble_eq_true rfl) hA hw1 [] [0, 1] rfl (by decide +kernel) rfl rfl rfl rfl dX8_row_12 (fun H locs hw12 => ?_)
    refine lv_if_ne (tgt := 21) hx hb dX8_row_15 (by decide) (fun c15 => ?_) (fun c15 => ?_)
    · replace h := br_f' h c15
      refine lv_aload_n hx hb dX8_row_21 rfl (lv_at hl 0 rfl) ?_
      refine k_get C inT_X8 hw12 0 rfl rfl 3 (by decide) mF_X8_49 rfl dX8_row_22 ?_
      refine lv_bipush (v := 12) hx hb dX8_row_25 (by decide) ?_
      refine lv_icmp_ne (tgt := 33) hx hb dX8_row_27 (by decide) (fun c27 => ?_) (fun c27 => ?_)
      · replace h := br_f' h c27
        refine lv_aload_n hx hb dX8_row_33 rfl (lv_at hl 0 rfl) ?_
        refine lv_iload_n hx hb dX8_row_34 rfl (lv_at hl 1 rfl) ?_
        refine lv_iload_n hx hb dX8_row_35 rfl (lv_at hl 2 rfl) ?_
        refine lv_iload_n hx hb dX8_row_36 rfl (lv_at hl 3 rfl) ?_
        obtain ⟨r37, q37, h⟩ := bd h
        refine k_callV (nC := 2) [oX8 a g_undos r37.2 g_papers g_length g_besides g_gapFirst g_gapLast g_layings g_first g_behind g_clauses g_drafts, ar cI (a 3) 36 r37.1] C hl.1 (tX8_lists (a := a) q37) mL_X8_173 mmX8_lists rfl rfl ⟨Nat.le_of_ble_eq_true rfl, Nat.le_of_ble_eq_true rfl⟩ rfl rfl rfl rfl (Nat.le_of_ble_eq_true rfl) hA hw12 [0, 1] [] rfl (by decide +kernel) rfl rfl rfl rfl dX8_row_37 (fun H locs hw37 => ?_)
        refine lv_aload_n hx hb dX8_row_40 rfl (lv_at hl 0 rfl) ?_
        refine k_get C inT_X8 hw37 0 rfl rfl 3 (by decide) mF_X8_49 rfl dX8_row_41 ?_
        refine lv_iconst (v := 1) hx hb dX8_row_44 (by decide) ?_
        refine lv_isub hx hb dX8_row_45 ?_
        cases h
        exact k_iret C hw37 dX8_row_46
      · replace h := br_t' h c27
        refine lv_bipush (v := (-5)) hx hb dX8_row_30 (by decide) ?_
        cases h
        exact k_iret C hw12 dX8_row_32
    · replace h := br_t' h c15
      refine lv_bipush (v := (-3)) hx hb dX8_row_18 (by decide) ?_
      cases h
      exact k_iret C hw12 dX8_row_20
  · replace h := br_t' h c4
    refine lv_bipush (v := (-2)) hx hb dX8_row_7 (by decide) ?_
    cases h
    exact k_iret C hw1 dX8_row_9
def rmX8_clear : Room := { frames := 0, cells := 0, slots := 0, locals := 0 }
def fX8_clear (g_listed : Int32) : Option (Int32 × Int32) :=
  some (g_listed, 0)
set_option maxRecDepth 100000 in
set_option maxHeartbeats 4000000 in
theorem tX8_clear {l : Launch} {D : va_G} {cI : ClassId} {cS : GS} {a : Nat → Nat} {g_undos : Int32} {g_listed : Int32} {g_papers : Int32} {g_length : Int32} {g_besides : Int32} {g_gapFirst : Int32} {g_gapLast : Int32} {g_layings : Int32} {g_first : Int32} {g_behind : Int32} {g_clauses : Int32} {g_drafts : Int32}  {s0 : Int32} {s1 : Int32} (h : fX8_clear g_listed = some (s0, s1)) : CT l D cI cS yX8_clear cX8_clear 2 (some .int) rmX8_clear [.ref (a 0)] [oX8 a g_undos g_listed g_papers g_length g_besides g_gapFirst g_gapLast g_layings g_first g_behind g_clauses g_drafts] (some (.int s0)) [oX8 a g_undos s1 g_papers g_length g_besides g_gapFirst g_gapLast g_layings g_first g_behind g_clauses g_drafts] := by
  refine CT.of RX8 (by decide) rfl (Nat.le_of_ble_eq_true rfl) (fun p e s m below meth c ls A C hA hl hw => ?_)
  have hx := C.1.1
  have hb := C.1.2.1
  have hl : lv_has ls 2 [(0, .ref (a 0))] := hl
  unfold fX8_clear at h
  refine lv_aload_n hx hb dX8_clear_0 rfl (lv_at hl 0 rfl) ?_
  refine k_get C inT_X8 hw 0 rfl rfl 3 (by decide) mF_X8_49 rfl dX8_clear_1 ?_
  refine lv_istore_n (lv' := [(1, .int g_listed), (0, .ref (a 0))]) hx hb dX8_clear_4 rfl hl (by decide) rfl (fun ls hl => ?_)
  refine lv_aload_n hx hb dX8_clear_5 rfl (lv_at hl 1 rfl) ?_
  refine lv_iconst (v := 0) hx hb dX8_clear_6 (by decide) ?_
  refine k_put C inT_X8 tyX8 tyX8_ok nmX8 hw 0 rfl rfl 3 (by decide) mF_X8_49 rfl rfl (Nat.le_of_ble_eq_true rfl) [oX8 a g_undos 0 g_papers g_length g_besides g_gapFirst g_gapLast g_layings g_first g_behind g_clauses g_drafts] rfl dX8_clear_7 (fun H locs hw7 => ?_)
  refine lv_iload_n hx hb dX8_clear_10 rfl (lv_at hl 0 rfl) ?_
  cases h
  exact k_iret C hw7 dX8_clear_11
def rmX8_clash : Room := { frames := 2, cells := 0, slots := 0, locals := 46 }
def fX8_clash (g_list : Nat → Int32) (x1 : Int32) (x2 : Int32) : Option (Int32) :=
  (ld 36 g_list (3 * x1)).bind fun y7 =>
  (ld 36 g_list (3 * x2)).bind fun y15 =>
  if y7 = y15 then
    some 0
  else
    (ld 36 g_list ((3 * x1) + 1)).bind fun y28 =>
    (ld 36 g_list ((3 * x1) + 2)).bind fun y38 =>
    (ld 36 g_list ((3 * x2) + 1)).bind fun y48 =>
    (ld 36 g_list ((3 * x2) + 2)).bind fun y58 =>
    (fX8_common y28 y38 y48 y58).bind fun r59 =>
    if r59 ≤ 0 then
      some 0
    else
      some 1
set_option maxRecDepth 100000 in
set_option maxHeartbeats 4000000 in
theorem tX8_clash {l : Launch} {D : va_G} {cI : ClassId} {cS : GS} {a : Nat → Nat} {g_undos : Int32} {g_list : Nat → Int32} {g_listed : Int32} {g_papers : Int32} {g_length : Int32} {g_besides : Int32} {g_gapFirst : Int32} {g_gapLast : Int32} {g_layings : Int32} {g_first : Int32} {g_behind : Int32} {g_clauses : Int32} {g_drafts : Int32} {x1 : Int32} {x2 : Int32} {s0 : Int32} (h : fX8_clash g_list x1 x2 = some s0) : CT l D cI cS yX8_clash cX8_clash 3 (some .boolean) rmX8_clash [.ref (a 0), .int x1, .int x2] [oX8 a g_undos g_listed g_papers g_length g_besides g_gapFirst g_gapLast g_layings g_first g_behind g_clauses g_drafts, ar cI (a 3) 36 g_list] (some (.int s0)) [oX8 a g_undos g_listed g_papers g_length g_besides g_gapFirst g_gapLast g_layings g_first g_behind g_clauses g_drafts, ar cI (a 3) 36 g_list] := by
  refine CT.of RX8 (by decide) rfl (Nat.le_of_ble_eq_true rfl) (fun p e s m below meth c ls A C hA hl hw => ?_)
  have hx := C.1.1
  have hb := C.1.2.1
  have hl : lv_has ls 3 [(0, .ref (a 0)), (1, .int x1), (2, .int x2)] := hl
  unfold fX8_clash at h
  refine lv_aload_n hx hb dX8_clash_0 rfl (lv_at hl 0 rfl) ?_
  refine k_get C inT_X8 hw 0 rfl rfl 2 (by decide) mF_X8_13 rfl dX8_clash_1 ?_
  refine lv_iconst (v := 3) hx hb dX8_clash_4 (by decide) ?_
  refine lv_iload_n hx hb dX8_clash_5 rfl (lv_at hl 1 rfl) ?_
  refine lv_imul hx hb dX8_clash_6 ?_
  obtain ⟨y7, q7, h⟩ := bd h
  refine k_iald C hw 1 rfl q7 dX8_clash_7 ?_
  refine lv_aload_n hx hb dX8_clash_8 rfl (lv_at hl 0 rfl) ?_
  refine k_get C inT_X8 hw 0 rfl rfl 2 (by decide) mF_X8_13 rfl dX8_clash_9 ?_
  refine lv_iconst (v := 3) hx hb dX8_clash_12 (by decide) ?_
  refine lv_iload_n hx hb dX8_clash_13 rfl (lv_at hl 2 rfl) ?_
  refine lv_imul hx hb dX8_clash_14 ?_
  obtain ⟨y15, q15, h⟩ := bd h
  refine k_iald C hw 1 rfl q15 dX8_clash_15 ?_
  refine lv_icmp_eq (tgt := 69) hx hb dX8_clash_16 (by decide) (fun c16 => ?_) (fun c16 => ?_)
  · replace h := br_t' h c16
    refine lv_iconst (v := 0) hx hb dX8_clash_69 (by decide) ?_
    cases h
    exact k_zret (v := 0) C rfl hw dX8_clash_70
  · replace h := br_f' h c16
    refine lv_aload_n hx hb dX8_clash_19 rfl (lv_at hl 0 rfl) ?_
    refine k_get C inT_X8 hw 0 rfl rfl 2 (by decide) mF_X8_13 rfl dX8_clash_20 ?_
    refine lv_iconst (v := 3) hx hb dX8_clash_23 (by decide) ?_
    refine lv_iload_n hx hb dX8_clash_24 rfl (lv_at hl 1 rfl) ?_
    refine lv_imul hx hb dX8_clash_25 ?_
    refine lv_iconst (v := 1) hx hb dX8_clash_26 (by decide) ?_
    refine lv_iadd hx hb dX8_clash_27 ?_
    obtain ⟨y28, q28, h⟩ := bd h
    refine k_iald C hw 1 rfl q28 dX8_clash_28 ?_
    refine lv_aload_n hx hb dX8_clash_29 rfl (lv_at hl 0 rfl) ?_
    refine k_get C inT_X8 hw 0 rfl rfl 2 (by decide) mF_X8_13 rfl dX8_clash_30 ?_
    refine lv_iconst (v := 3) hx hb dX8_clash_33 (by decide) ?_
    refine lv_iload_n hx hb dX8_clash_34 rfl (lv_at hl 1 rfl) ?_
    refine lv_imul hx hb dX8_clash_35 ?_
    refine lv_iconst (v := 2) hx hb dX8_clash_36 (by decide) ?_
    refine lv_iadd hx hb dX8_clash_37 ?_
    obtain ⟨y38, q38, h⟩ := bd h
    refine k_iald C hw 1 rfl q38 dX8_clash_38 ?_
    refine lv_aload_n hx hb dX8_clash_39 rfl (lv_at hl 0 rfl) ?_
    refine k_get C inT_X8 hw 0 rfl rfl 2 (by decide) mF_X8_13 rfl dX8_clash_40 ?_
    refine lv_iconst (v := 3) hx hb dX8_clash_43 (by decide) ?_
    refine lv_iload_n hx hb dX8_clash_44 rfl (lv_at hl 2 rfl) ?_
    refine lv_imul hx hb dX8_clash_45 ?_
    refine lv_iconst (v := 1) hx hb dX8_clash_46 (by decide) ?_
    refine lv_iadd hx hb dX8_clash_47 ?_
    obtain ⟨y48, q48, h⟩ := bd h
    refine k_iald C hw 1 rfl q48 dX8_clash_48 ?_
    refine lv_aload_n hx hb dX8_clash_49 rfl (lv_at hl 0 rfl) ?_
    refine k_get C inT_X8 hw 0 rfl rfl 2 (by decide) mF_X8_13 rfl dX8_clash_50 ?_
    refine lv_iconst (v := 3) hx hb dX8_clash_53 (by decide) ?_
    refine lv_iload_n hx hb dX8_clash_54 rfl (lv_at hl 2 rfl) ?_
    refine lv_imul hx hb dX8_clash_55 ?_
    refine lv_iconst (v := 2) hx hb dX8_clash_56 (by decide) ?_
    refine lv_iadd hx hb dX8_clash_57 ?_
    obtain ⟨y58, q58, h⟩ := bd h
    refine k_iald C hw 1 rfl q58 dX8_clash_58 ?_
    obtain ⟨r59, q59, h⟩ := bd h
    refine k_callS (nC := 2) [oX8 a g_undos g_listed g_papers g_length g_besides g_gapFirst g_gapLast g_layings g_first g_behind g_clauses g_drafts, ar cI (a 3) 36 g_list] C hl.1 (tX8_common q59) mL_X8_74 mmX8_common rfl rfl ⟨Nat.le_of_ble_eq_true rfl, Nat.le_of_ble_eq_true rfl⟩ rfl rfl (Nat.le_of_ble_eq_true rfl) hA hw [] [0, 1] rfl (by decide +kernel) rfl rfl rfl rfl dX8_clash_59 (fun H locs hw59 => ?_)
    refine lv_if_le (tgt := 69) hx hb dX8_clash_62 (by decide) (fun c62 => ?_) (fun c62 => ?_)
    · replace h := br_t' h c62
      refine lv_iconst (v := 0) hx hb dX8_clash_69 (by decide) ?_
      cases h
      exact k_zret (v := 0) C rfl hw59 dX8_clash_70
    · replace h := br_f' h c62
      refine lv_iconst (v := 1) hx hb dX8_clash_65 (by decide) ?_
      refine lv_goto (tgt := 70) hx hb dX8_clash_66 (by decide) ?_
      cases h
      exact k_zret (v := 1) C rfl hw59 dX8_clash_70
def rmX8_clashOf : Room := { frames := 3, cells := 0, slots := 0, locals := 68 }
def fX8_clashOf_2 (g_list : Nat → Int32) (g_listed : Int32) (x1 : Int32) : (n : Nat) → (k : Int32 → Option (Int32)) → Int32 → Option (Int32)
  | 0, _, _ => none
  | n + 1, k, x2 =>
    if g_listed ≤ x2 then
      k x2
    else
      if x2 = x1 then
        fX8_clashOf_2 g_list g_listed x1 n k (x2 + 1)
      else
        (fX8_clash g_list x2 x1).bind fun r18 =>
        if r18 = 0 then
          fX8_clashOf_2 g_list g_listed x1 n k (x2 + 1)
        else
          some x2
set_option maxRecDepth 100000 in
set_option maxHeartbeats 4000000 in
theorem wX8_clashOf_2 {p : Program} {l : Launch} {e : Env} {s : State} {m : MethodId} {args : Array Value} {below : List Frame} {meth : Method} {c : Code} {D : va_G} {cI : ClassId} {cS : GS} {A : Nat → Prop} {a : Nat → Nat} {g_undos : Int32} {g_list : Nat → Int32} {g_listed : Int32} {g_papers : Int32} {g_length : Int32} {g_besides : Int32} {g_gapFirst : Int32} {g_gapLast : Int32} {g_layings : Int32} {g_first : Int32} {g_behind : Int32} {g_clauses : Int32} {g_drafts : Int32} {x1 : Int32} (C : MC p s m args meth c D cI cS A RX8 cX8_clashOf 3 (some .int)) (hA : ∀ q, s.heap.size ≤ q → A q) {s0 : Int32} (k : Int32 → Option (Int32)) (hk : ∀ (x2 : Int32) (H : Heap) (locs : List Loc) (ls : Array Slot), Wd D A s.heap H locs [oX8 a g_undos g_listed g_papers g_length g_besides g_gapFirst g_gapLast g_layings g_first g_behind g_clauses g_drafts, ar cI (a 3) 36 g_list] → lv_has ls 3 [(0, .ref (a 0)), (1, .int x1), (2, .int x2)] → k x2 = some s0 → W p l e rmX8_clashOf s m args below meth c H locs 0 0 (KQ D A below args s (some (.int s0)) [oX8 a g_undos g_listed g_papers g_length g_besides g_gapFirst g_gapLast g_layings g_first g_behind g_clauses g_drafts, ar cI (a 3) 36 g_list]) (F0 m 32 ls [])) :
    ∀ (n : Nat) (x2 : Int32) (H : Heap) (locs : List Loc) (ls : Array Slot), Wd D A s.heap H locs [oX8 a g_undos g_listed g_papers g_length g_besides g_gapFirst g_gapLast g_layings g_first g_behind g_clauses g_drafts, ar cI (a 3) 36 g_list] → lv_has ls 3 [(0, .ref (a 0)), (1, .int x1), (2, .int x2)] → fX8_clashOf_2 g_list g_listed x1 n k x2 = some s0 → W p l e rmX8_clashOf s m args below meth c H locs 0 0 (KQ D A below args s (some (.int s0)) [oX8 a g_undos g_listed g_papers g_length g_besides g_gapFirst g_gapLast g_layings g_first g_behind g_clauses g_drafts, ar cI (a 3) 36 g_list]) (F0 m 2 ls []) := by
  have hx := C.1.1
  have hb := C.1.2.1
  intro n
  induction n with
  | zero =>
    intro x2 H locs ls hw hl h
    rw [fX8_clashOf_2] at h
    cases h
  | succ n ih =>
    intro x2 H locs ls hw hl h
    rw [fX8_clashOf_2] at h
    refine lv_iload_n hx hb dX8_clashOf_2 rfl (lv_at hl 2 rfl) ?_
    refine lv_aload_n hx hb dX8_clashOf_3 rfl (lv_at hl 0 rfl) ?_
    refine k_get C inT_X8 hw 0 rfl rfl 3 (by decide) mF_X8_49 rfl dX8_clashOf_4 ?_
    refine lv_icmp_ge (tgt := 32) hx hb dX8_clashOf_7 (by decide) (fun c7 => ?_) (fun c7 => ?_)
    · replace h := br_t' h c7
      exact hk _ _ _ _ hw (lv_sub hl [0, 1, 2] rfl) h
    · replace h := br_f' h c7
      refine lv_iload_n hx hb dX8_clashOf_10 rfl (lv_at hl 2 rfl) ?_
      refine lv_iload_n hx hb dX8_clashOf_11 rfl (lv_at hl 1 rfl) ?_
      refine lv_icmp_eq (tgt := 26) hx hb dX8_clashOf_12 (by decide) (fun c12 => ?_) (fun c12 => ?_)
      · replace h := br_t' h c12
        refine lv_iinc (v := (x2 + 1)) (lv' := [(2, .int (x2 + 1)), (0, .ref (a 0)), (1, .int x1)]) hx hb dX8_clashOf_26 hl (k := 2) rfl rfl (by decide) rfl (fun ls hl => ?_)
        refine lv_goto (tgt := 2) hx hb dX8_clashOf_29 (by decide) ?_
        exact ih _ _ _ _ hw (lv_sub hl [1, 2, 0] rfl) h
      · replace h := br_f' h c12
        refine lv_aload_n hx hb dX8_clashOf_15 rfl (lv_at hl 0 rfl) ?_
        refine lv_iload_n hx hb dX8_clashOf_16 rfl (lv_at hl 2 rfl) ?_
        refine lv_iload_n hx hb dX8_clashOf_17 rfl (lv_at hl 1 rfl) ?_
        obtain ⟨r18, q18, h⟩ := bd h
        refine k_callV (nC := 2) [oX8 a g_undos g_listed g_papers g_length g_besides g_gapFirst g_gapLast g_layings g_first g_behind g_clauses g_drafts, ar cI (a 3) 36 g_list] C hl.1 (tX8_clash (a := a) q18) mL_X8_271 mmX8_clash rfl rfl ⟨Nat.le_of_ble_eq_true rfl, Nat.le_of_ble_eq_true rfl⟩ rfl rfl rfl rfl (Nat.le_of_ble_eq_true rfl) hA hw [0, 1] [] rfl (by decide +kernel) rfl rfl rfl rfl dX8_clashOf_18 (fun H locs hw18 => ?_)
        refine lv_if_eq (tgt := 26) hx hb dX8_clashOf_21 (by decide) (fun c21 => ?_) (fun c21 => ?_)
        · replace h := br_t' h c21
          refine lv_iinc (v := (x2 + 1)) (lv' := [(2, .int (x2 + 1)), (0, .ref (a 0)), (1, .int x1)]) hx hb dX8_clashOf_26 hl (k := 2) rfl rfl (by decide) rfl (fun ls hl => ?_)
          refine lv_goto (tgt := 2) hx hb dX8_clashOf_29 (by decide) ?_
          exact ih _ _ _ _ hw18 (lv_sub hl [1, 2, 0] rfl) h
        · replace h := br_f' h c21
          refine lv_iload_n hx hb dX8_clashOf_24 rfl (lv_at hl 2 rfl) ?_
          cases h
          exact k_iret C hw18 dX8_clashOf_25
def fX8_clashOf (g_list : Nat → Int32) (g_listed : Int32) (x1 : Int32) : Option (Int32) :=
  fX8_clashOf_2 g_list g_listed x1 FU (fun x2_2 =>
    some (-1)) 0
set_option maxRecDepth 100000 in
set_option maxHeartbeats 4000000 in
theorem tX8_clashOf {l : Launch} {D : va_G} {cI : ClassId} {cS : GS} {a : Nat → Nat} {g_undos : Int32} {g_list : Nat → Int32} {g_listed : Int32} {g_papers : Int32} {g_length : Int32} {g_besides : Int32} {g_gapFirst : Int32} {g_gapLast : Int32} {g_layings : Int32} {g_first : Int32} {g_behind : Int32} {g_clauses : Int32} {g_drafts : Int32} {x1 : Int32} {s0 : Int32} (h : fX8_clashOf g_list g_listed x1 = some s0) : CT l D cI cS yX8_clashOf cX8_clashOf 3 (some .int) rmX8_clashOf [.ref (a 0), .int x1] [oX8 a g_undos g_listed g_papers g_length g_besides g_gapFirst g_gapLast g_layings g_first g_behind g_clauses g_drafts, ar cI (a 3) 36 g_list] (some (.int s0)) [oX8 a g_undos g_listed g_papers g_length g_besides g_gapFirst g_gapLast g_layings g_first g_behind g_clauses g_drafts, ar cI (a 3) 36 g_list] := by
  refine CT.of RX8 (by decide) rfl (Nat.le_of_ble_eq_true rfl) (fun p e s m below meth c ls A C hA hl hw => ?_)
  have hx := C.1.1
  have hb := C.1.2.1
  have hl : lv_has ls 3 [(0, .ref (a 0)), (1, .int x1)] := hl
  unfold fX8_clashOf at h
  refine lv_iconst (v := 0) hx hb dX8_clashOf_0 (by decide) ?_
  refine lv_istore_n (lv' := [(2, .int 0), (0, .ref (a 0)), (1, .int x1)]) hx hb dX8_clashOf_1 rfl hl (by decide) rfl (fun ls hl => ?_)
  refine wX8_clashOf_2 C hA _ (fun x2_2 H locs ls hw2x hl h => ?_) FU _ _ _ _ hw (lv_sub hl [1, 2, 0] rfl) h
  refine lv_iconst (v := (-1)) hx hb dX8_clashOf_32 (by decide) ?_
  cases h
  exact k_iret C hw2x dX8_clashOf_33
def rmX8_listed : Room := { frames := 4, cells := 0, slots := 0, locals := 90 }
def fX8_listed (g_row : Nat → Int32) (g_list : Nat → Int32) (g_listed : Int32) (x1 : Int32) (x2 : Int32) : Option (Int32) :=
  (fX8_in x1.toInt64 0 ((g_listed - 1).toInt64)).bind fun r10 =>
  if r10 = 0 then
    some (-2)
  else
    (ld 36 g_list ((3 * x1) + 1)).bind fun y28 =>
    (ld 36 g_list ((3 * x1) + 2)).bind fun y39 =>
    (ld 36 g_list (3 * x1)).bind fun y50 =>
    (fX8_inBox g_row y50 y28 y39).bind fun r54 =>
    if x2 = 0 then
      (ld 36 g_list ((3 * x1) + x2)).bind fun y109 =>
      some y109
    else
    if x2 = 1 then
      (ld 36 g_list ((3 * x1) + x2)).bind fun y109 =>
      some y109
    else
    if x2 = 2 then
      (ld 36 g_list ((3 * x1) + x2)).bind fun y109 =>
      some y109
    else
    if x2 = 3 then
      some r54
    else
    if x2 = 4 then
      (fX8_inBox g_row (-1) y28 y39).bind fun r119 =>
      some (r119 - r54)
    else
    if x2 = 5 then
      (fX8_clashOf g_list g_listed x1).bind fun r128 =>
      some r128
    else
      some (-3)
set_option maxRecDepth 100000 in
set_option maxHeartbeats 4000000 in
theorem tX8_listed {l : Launch} {D : va_G} {cI : ClassId} {cS : GS} {a : Nat → Nat} {g_row : Nat → Int32} {g_undos : Int32} {g_list : Nat → Int32} {g_listed : Int32} {g_papers : Int32} {g_length : Int32} {g_besides : Int32} {g_gapFirst : Int32} {g_gapLast : Int32} {g_layings : Int32} {g_first : Int32} {g_behind : Int32} {g_clauses : Int32} {g_drafts : Int32} {x1 : Int32} {x2 : Int32} {s0 : Int32} (h : fX8_listed g_row g_list g_listed x1 x2 = some s0) : CT l D cI cS yX8_listed cX8_listed 6 (some .int) rmX8_listed [.ref (a 0), .int x1, .int x2] [oX8 a g_undos g_listed g_papers g_length g_besides g_gapFirst g_gapLast g_layings g_first g_behind g_clauses g_drafts, ar cI (a 1) 5058 g_row, ar cI (a 3) 36 g_list] (some (.int s0)) [oX8 a g_undos g_listed g_papers g_length g_besides g_gapFirst g_gapLast g_layings g_first g_behind g_clauses g_drafts, ar cI (a 1) 5058 g_row, ar cI (a 3) 36 g_list] := by
  refine CT.of RX8 (by decide) rfl (Nat.le_of_ble_eq_true rfl) (fun p e s m below meth c ls A C hA hl hw => ?_)
  have hx := C.1.1
  have hb := C.1.2.1
  have hl : lv_has ls 6 [(0, .ref (a 0)), (1, .int x1), (2, .int x2)] := hl
  unfold fX8_listed at h
  refine lv_iload_n hx hb dX8_listed_0 rfl (lv_at hl 1 rfl) ?_
  refine lv_i2l (v := x1.toInt64) hx hb dX8_listed_1 rfl ?_
  refine lv_lconst (v := 0) hx hb dX8_listed_2 (by decide) ?_
  refine lv_aload_n hx hb dX8_listed_3 rfl (lv_at hl 0 rfl) ?_
  refine k_get C inT_X8 hw 0 rfl rfl 3 (by decide) mF_X8_49 rfl dX8_listed_4 ?_
  refine lv_iconst (v := 1) hx hb dX8_listed_7 (by decide) ?_
  refine lv_isub hx hb dX8_listed_8 ?_
  refine lv_i2l (v := (g_listed - 1).toInt64) hx hb dX8_listed_9 rfl ?_
  obtain ⟨r10, q10, h⟩ := bd h
  refine k_callS (nC := 3) [oX8 a g_undos g_listed g_papers g_length g_besides g_gapFirst g_gapLast g_layings g_first g_behind g_clauses g_drafts, ar cI (a 1) 5058 g_row, ar cI (a 3) 36 g_list] C hl.1 (tX8_in q10) mL_X8_58 mmX8_in rfl rfl ⟨Nat.le_of_ble_eq_true rfl, Nat.le_of_ble_eq_true rfl⟩ rfl rfl (Nat.le_of_ble_eq_true rfl) hA hw [] [0, 1, 2] rfl (by decide +kernel) rfl rfl rfl rfl dX8_listed_10 (fun H locs hw10 => ?_)
  refine lv_if_ne (tgt := 19) hx hb dX8_listed_13 (by decide) (fun c13 => ?_) (fun c13 => ?_)
  · replace h := br_f' h c13
    refine lv_aload_n hx hb dX8_listed_19 rfl (lv_at hl 0 rfl) ?_
    refine k_get C inT_X8 hw10 0 rfl rfl 2 (by decide) mF_X8_13 rfl dX8_listed_20 ?_
    refine lv_iconst (v := 3) hx hb dX8_listed_23 (by decide) ?_
    refine lv_iload_n hx hb dX8_listed_24 rfl (lv_at hl 1 rfl) ?_
    refine lv_imul hx hb dX8_listed_25 ?_
    refine lv_iconst (v := 1) hx hb dX8_listed_26 (by decide) ?_
    refine lv_iadd hx hb dX8_listed_27 ?_
    obtain ⟨y28, q28, h⟩ := bd h
    refine k_iald C hw10 2 rfl q28 dX8_listed_28 ?_
    refine lv_istore_n (lv' := [(3, .int y28), (0, .ref (a 0)), (1, .int x1), (2, .int x2)]) hx hb dX8_listed_29 rfl hl (by decide) rfl (fun ls hl => ?_)
    refine lv_aload_n hx hb dX8_listed_30 rfl (lv_at hl 1 rfl) ?_
    refine k_get C inT_X8 hw10 0 rfl rfl 2 (by decide) mF_X8_13 rfl dX8_listed_31 ?_
    refine lv_iconst (v := 3) hx hb dX8_listed_34 (by decide) ?_
    refine lv_iload_n hx hb dX8_listed_35 rfl (lv_at hl 2 rfl) ?_
    refine lv_imul hx hb dX8_listed_36 ?_
    refine lv_iconst (v := 2) hx hb dX8_listed_37 (by decide) ?_
    refine lv_iadd hx hb dX8_listed_38 ?_
    obtain ⟨y39, q39, h⟩ := bd h
    refine k_iald C hw10 2 rfl q39 dX8_listed_39 ?_
    refine lv_istore (lv' := [(4, .int y39), (3, .int y28), (0, .ref (a 0)), (1, .int x1), (2, .int x2)]) hx hb dX8_listed_40 hl (by decide) rfl (fun ls hl => ?_)
    refine lv_aload_n hx hb dX8_listed_42 rfl (lv_at hl 2 rfl) ?_
    refine lv_aload_n hx hb dX8_listed_43 rfl (lv_at hl 2 rfl) ?_
    refine k_get C inT_X8 hw10 0 rfl rfl 2 (by decide) mF_X8_13 rfl dX8_listed_44 ?_
    refine lv_iconst (v := 3) hx hb dX8_listed_47 (by decide) ?_
    refine lv_iload_n hx hb dX8_listed_48 rfl (lv_at hl 3 rfl) ?_
    refine lv_imul hx hb dX8_listed_49 ?_
    obtain ⟨y50, q50, h⟩ := bd h
    refine k_iald C hw10 2 rfl q50 dX8_listed_50 ?_
    refine lv_iload_n hx hb dX8_listed_51 rfl (lv_at hl 1 rfl) ?_
    refine lv_iload hx hb dX8_listed_52 (lv_at hl 0 rfl) ?_
    obtain ⟨r54, q54, h⟩ := bd h
    refine k_callV (nC := 3) [oX8 a g_undos g_listed g_papers g_length g_besides g_gapFirst g_gapLast g_layings g_first g_behind g_clauses g_drafts, ar cI (a 1) 5058 g_row, ar cI (a 3) 36 g_list] C hl.1 (tX8_inBox (a := a) q54) mL_X8_79 mmX8_inBox rfl rfl ⟨Nat.le_of_ble_eq_true rfl, Nat.le_of_ble_eq_true rfl⟩ rfl rfl rfl rfl (Nat.le_of_ble_eq_true rfl) hA hw10 [0, 1] [2] rfl (by decide +kernel) rfl rfl rfl rfl dX8_listed_54 (fun H locs hw54 => ?_)
    refine lv_istore (lv' := [(5, .int r54), (4, .int y39), (3, .int y28), (0, .ref (a 0)), (1, .int x1), (2, .int x2)]) hx hb dX8_listed_57 hl (by decide) rfl (fun ls hl => ?_)
    refine lv_iload_n hx hb dX8_listed_59 rfl (lv_at hl 5 rfl) ?_
    by_cases c60_0 : x2 = 0
    · replace h := br_t' h c60_0
      refine lv_tableIn (tgt := 100) hx hb dX8_listed_60 (by rw [c60_0]; decide) (by rw [c60_0]; decide) (off := 40) (by rw [c60_0]; decide) (by decide) ?_
      refine lv_aload_n hx hb dX8_listed_100 rfl (lv_at hl 3 rfl) ?_
      refine k_get C inT_X8 hw54 0 rfl rfl 2 (by decide) mF_X8_13 rfl dX8_listed_101 ?_
      refine lv_iconst (v := 3) hx hb dX8_listed_104 (by decide) ?_
      refine lv_iload_n hx hb dX8_listed_105 rfl (lv_at hl 4 rfl) ?_
      refine lv_imul hx hb dX8_listed_106 ?_
      refine lv_iload_n hx hb dX8_listed_107 rfl (lv_at hl 5 rfl) ?_
      refine lv_iadd hx hb dX8_listed_108 ?_
      obtain ⟨y109, q109, h⟩ := bd h
      refine k_iald C hw54 2 rfl q109 dX8_listed_109 ?_
      cases h
      exact k_iret C hw54 dX8_listed_110
    replace h := br_f' h c60_0
    by_cases c60_1 : x2 = 1
    · replace h := br_t' h c60_1
      refine lv_tableIn (tgt := 100) hx hb dX8_listed_60 (by rw [c60_1]; decide) (by rw [c60_1]; decide) (off := 40) (by rw [c60_1]; decide) (by decide) ?_
      refine lv_aload_n hx hb dX8_listed_100 rfl (lv_at hl 3 rfl) ?_
      refine k_get C inT_X8 hw54 0 rfl rfl 2 (by decide) mF_X8_13 rfl dX8_listed_101 ?_
      refine lv_iconst (v := 3) hx hb dX8_listed_104 (by decide) ?_
      refine lv_iload_n hx hb dX8_listed_105 rfl (lv_at hl 4 rfl) ?_
      refine lv_imul hx hb dX8_listed_106 ?_
      refine lv_iload_n hx hb dX8_listed_107 rfl (lv_at hl 5 rfl) ?_
      refine lv_iadd hx hb dX8_listed_108 ?_
      obtain ⟨y109, q109, h⟩ := bd h
      refine k_iald C hw54 2 rfl q109 dX8_listed_109 ?_
      cases h
      exact k_iret C hw54 dX8_listed_110
    replace h := br_f' h c60_1
    by_cases c60_2 : x2 = 2
    · replace h := br_t' h c60_2
      refine lv_tableIn (tgt := 100) hx hb dX8_listed_60 (by rw [c60_2]; decide) (by rw [c60_2]; decide) (off := 40) (by rw [c60_2]; decide) (by decide) ?_
      refine lv_aload_n hx hb dX8_listed_100 rfl (lv_at hl 3 rfl) ?_
      refine k_get C inT_X8 hw54 0 rfl rfl 2 (by decide) mF_X8_13 rfl dX8_listed_101 ?_
      refine lv_iconst (v := 3) hx hb dX8_listed_104 (by decide) ?_
      refine lv_iload_n hx hb dX8_listed_105 rfl (lv_at hl 4 rfl) ?_
      refine lv_imul hx hb dX8_listed_106 ?_
      refine lv_iload_n hx hb dX8_listed_107 rfl (lv_at hl 5 rfl) ?_
      refine lv_iadd hx hb dX8_listed_108 ?_
      obtain ⟨y109, q109, h⟩ := bd h
      refine k_iald C hw54 2 rfl q109 dX8_listed_109 ?_
      cases h
      exact k_iret C hw54 dX8_listed_110
    replace h := br_f' h c60_2
    by_cases c60_3 : x2 = 3
    · replace h := br_t' h c60_3
      refine lv_tableIn (tgt := 111) hx hb dX8_listed_60 (by rw [c60_3]; decide) (by rw [c60_3]; decide) (off := 51) (by rw [c60_3]; decide) (by decide) ?_
      refine lv_iload hx hb dX8_listed_111 (lv_at hl 0 rfl) ?_
      cases h
      exact k_iret C hw54 dX8_listed_113
    replace h := br_f' h c60_3
    by_cases c60_4 : x2 = 4
    · replace h := br_t' h c60_4
      refine lv_tableIn (tgt := 114) hx hb dX8_listed_60 (by rw [c60_4]; decide) (by rw [c60_4]; decide) (off := 54) (by rw [c60_4]; decide) (by decide) ?_
      refine lv_aload_n hx hb dX8_listed_114 rfl (lv_at hl 3 rfl) ?_
      refine lv_iconst (v := (-1)) hx hb dX8_listed_115 (by decide) ?_
      refine lv_iload_n hx hb dX8_listed_116 rfl (lv_at hl 2 rfl) ?_
      refine lv_iload hx hb dX8_listed_117 (lv_at hl 1 rfl) ?_
      obtain ⟨r119, q119, h⟩ := bd h
      refine k_callV (nC := 3) [oX8 a g_undos g_listed g_papers g_length g_besides g_gapFirst g_gapLast g_layings g_first g_behind g_clauses g_drafts, ar cI (a 1) 5058 g_row, ar cI (a 3) 36 g_list] C hl.1 (tX8_inBox (a := a) q119) mL_X8_79 mmX8_inBox rfl rfl ⟨Nat.le_of_ble_eq_true rfl, Nat.le_of_ble_eq_true rfl⟩ rfl rfl rfl rfl (Nat.le_of_ble_eq_true rfl) hA hw54 [0, 1] [2] rfl (by decide +kernel) rfl rfl rfl rfl dX8_listed_119 (fun H locs hw119 => ?_)
      refine lv_iload hx hb dX8_listed_122 (lv_at hl 0 rfl) ?_
      refine lv_isub hx hb dX8_listed_124 ?_
      cases h
      exact k_iret C hw119 dX8_listed_125
    replace h := br_f' h c60_4
    by_cases c60_5 : x2 = 5
    · replace h := br_t' h c60_5
      refine lv_tableIn (tgt := 126) hx hb dX8_listed_60 (by rw [c60_5]; decide) (by rw [c60_5]; decide) (off := 66) (by rw [c60_5]; decide) (by decide) ?_
      refine lv_aload_n hx hb dX8_listed_126 rfl (lv_at hl 3 rfl) ?_
      refine lv_iload_n hx hb dX8_listed_127 rfl (lv_at hl 4 rfl) ?_
      obtain ⟨r128, q128, h⟩ := bd h
      refine k_callV (nC := 3) [oX8 a g_undos g_listed g_papers g_length g_besides g_gapFirst g_gapLast g_layings g_first g_behind g_clauses g_drafts, ar cI (a 1) 5058 g_row, ar cI (a 3) 36 g_list] C hl.1 (tX8_clashOf (a := a) q128) mL_X8_274 mmX8_clashOf rfl rfl ⟨Nat.le_of_ble_eq_true rfl, Nat.le_of_ble_eq_true rfl⟩ rfl rfl rfl rfl (Nat.le_of_ble_eq_true rfl) hA hw54 [0, 2] [1] rfl (by decide +kernel) rfl rfl rfl rfl dX8_listed_128 (fun H locs hw128 => ?_)
      cases h
      exact k_iret C hw128 dX8_listed_131
    replace h := br_f' h c60_5
    refine lv_tableOut (tgt := 132) hx hb dX8_listed_60 (by have t0 := ti_ne (i := 0) c60_0 (by decide); have t1 := ti_ne (i := 1) c60_1 (by decide); have t2 := ti_ne (i := 2) c60_2 (by decide); have t3 := ti_ne (i := 3) c60_3 (by decide); have t4 := ti_ne (i := 4) c60_4 (by decide); have t5 := ti_ne (i := 5) c60_5 (by decide); omega) (by decide) ?_
    refine lv_bipush (v := (-3)) hx hb dX8_listed_132 (by decide) ?_
    cases h
    exact k_iret C hw54 dX8_listed_134
  · replace h := br_t' h c13
    refine lv_bipush (v := (-2)) hx hb dX8_listed_16 (by decide) ?_
    cases h
    exact k_iret C hw10 dX8_listed_18
def rmX8_bare : Room := { frames := 1, cells := 0, slots := 0, locals := 25 }
def fX8_bare_21 (g_list : Nat → Int32) (g_listed : Int32) (x1 : Int32) (x5 : Int32) : (n : Nat) → (k : Int32 → Int32 → Int32 → Option (Int32)) → Int32 → Int32 → Int32 → Option (Int32)
  | 0, _, _, _, _ => none
  | n + 1, k, x6, x7, x8 =>
    if g_listed ≤ x8 then
      k x6 x7 x8
    else
      (ld 36 g_list (3 * x8)).bind fun y38 =>
      if y38 = x1 then
        (ld 36 g_list ((3 * x8) + 1)).bind fun y56 =>
        (ld 36 g_list ((3 * x8) + 2)).bind fun y68 =>
        (fX8_in x5.toInt64 y56.toInt64 y68.toInt64).bind fun r70 =>
        if r70 = 0 then
          (ld 36 g_list ((3 * x8) + 1)).bind fun y109 =>
          if y109 ≤ x5 then
            fX8_bare_21 g_list g_listed x1 x5 n k x6 x7 (x8 + 1)
          else
            (ld 36 g_list ((3 * x8) + 1)).bind fun y127 =>
            (fX8_lesser x6 (y127 - 1)).bind fun r130 =>
            fX8_bare_21 g_list g_listed x1 x5 n k r130 x7 (x8 + 1)
        else
          (ld 36 g_list ((3 * x8) + 2)).bind fun y88 =>
          (fX8_greater x7 y88).bind fun r89 =>
          (ld 36 g_list ((3 * x8) + 1)).bind fun y109 =>
          if y109 ≤ x5 then
            fX8_bare_21 g_list g_listed x1 x5 n k x6 r89 (x8 + 1)
          else
            (ld 36 g_list ((3 * x8) + 1)).bind fun y127 =>
            (fX8_lesser x6 (y127 - 1)).bind fun r130 =>
            fX8_bare_21 g_list g_listed x1 x5 n k r130 r89 (x8 + 1)
      else
        fX8_bare_21 g_list g_listed x1 x5 n k x6 x7 (x8 + 1)
set_option maxRecDepth 100000 in
set_option maxHeartbeats 4000000 in
theorem wX8_bare_21 {p : Program} {l : Launch} {e : Env} {s : State} {m : MethodId} {args : Array Value} {below : List Frame} {meth : Method} {c : Code} {D : va_G} {cI : ClassId} {cS : GS} {A : Nat → Prop} {a : Nat → Nat} {g_undos : Int32} {g_list : Nat → Int32} {g_listed : Int32} {g_papers : Int32} {g_length : Int32} {g_besides : Int32} {g_gapFirst : Int32} {g_gapLast : Int32} {g_layings : Int32} {g_first : Int32} {g_behind : Int32} {g_clauses : Int32} {g_drafts : Int32} {x1 : Int32} {x3 : Int32} {x4 : Int32} {x5 : Int32} (C : MC p s m args meth c D cI cS A RX8 cX8_bare 9 (some .int)) (hA : ∀ q, s.heap.size ≤ q → A q) {s0 : Int32} (k : Int32 → Int32 → Int32 → Option (Int32)) (hk : ∀ (x6 : Int32) (x7 : Int32) (x8 : Int32) (H : Heap) (locs : List Loc) (ls : Array Slot), Wd D A s.heap H locs [oX8 a g_undos g_listed g_papers g_length g_besides g_gapFirst g_gapLast g_layings g_first g_behind g_clauses g_drafts, ar cI (a 3) 36 g_list] → lv_has ls 9 [(0, .ref (a 0)), (1, .int x1), (3, .int x3), (4, .int x4), (5, .int x5), (6, .int x6), (7, .int x7), (8, .int x8)] → k x6 x7 x8 = some s0 → W p l e rmX8_bare s m args below meth c H locs 0 0 (KQ D A below args s (some (.int s0)) [oX8 a g_undos g_listed g_papers g_length g_besides g_gapFirst g_gapLast g_layings g_first g_behind g_clauses g_drafts, ar cI (a 3) 36 g_list]) (F0 m 146 ls [])) :
    ∀ (n : Nat) (x6 : Int32) (x7 : Int32) (x8 : Int32) (H : Heap) (locs : List Loc) (ls : Array Slot), Wd D A s.heap H locs [oX8 a g_undos g_listed g_papers g_length g_besides g_gapFirst g_gapLast g_layings g_first g_behind g_clauses g_drafts, ar cI (a 3) 36 g_list] → lv_has ls 9 [(0, .ref (a 0)), (1, .int x1), (3, .int x3), (4, .int x4), (5, .int x5), (6, .int x6), (7, .int x7), (8, .int x8)] → fX8_bare_21 g_list g_listed x1 x5 n k x6 x7 x8 = some s0 → W p l e rmX8_bare s m args below meth c H locs 0 0 (KQ D A below args s (some (.int s0)) [oX8 a g_undos g_listed g_papers g_length g_besides g_gapFirst g_gapLast g_layings g_first g_behind g_clauses g_drafts, ar cI (a 3) 36 g_list]) (F0 m 21 ls []) := by
  have hx := C.1.1
  have hb := C.1.2.1
  intro n
  induction n with
  | zero =>
    intro x6 x7 x8 H locs ls hw hl h
    rw [fX8_bare_21] at h
    cases h
  | succ n ih =>
    intro x6 x7 x8 H locs ls hw hl h
    rw [fX8_bare_21] at h
    refine lv_iload hx hb dX8_bare_21 (lv_at hl 7 rfl) ?_
    refine lv_aload_n hx hb dX8_bare_23 rfl (lv_at hl 0 rfl) ?_
    refine k_get C inT_X8 hw 0 rfl rfl 3 (by decide) mF_X8_49 rfl dX8_bare_24 ?_
    refine lv_icmp_ge (tgt := 146) hx hb dX8_bare_27 (by decide) (fun c27 => ?_) (fun c27 => ?_)
    · replace h := br_t' h c27
      exact hk _ _ _ _ _ _ hw (lv_sub hl [0, 1, 2, 3, 4, 5, 6, 7] rfl) h
    · replace h := br_f' h c27
      refine lv_aload_n hx hb dX8_bare_30 rfl (lv_at hl 0 rfl) ?_
      refine k_get C inT_X8 hw 0 rfl rfl 2 (by decide) mF_X8_13 rfl dX8_bare_31 ?_
      refine lv_iconst (v := 3) hx hb dX8_bare_34 (by decide) ?_
      refine lv_iload hx hb dX8_bare_35 (lv_at hl 7 rfl) ?_
      refine lv_imul hx hb dX8_bare_37 ?_
      obtain ⟨y38, q38, h⟩ := bd h
      refine k_iald C hw 1 rfl q38 dX8_bare_38 ?_
      refine lv_iload_n hx hb dX8_bare_39 rfl (lv_at hl 1 rfl) ?_
      refine lv_icmp_ne (tgt := 140) hx hb dX8_bare_40 (by decide) (fun c40 => ?_) (fun c40 => ?_)
      · replace h := br_f' h c40
        refine lv_iinc (v := (x8 + 1)) (lv' := [(8, .int (x8 + 1)), (0, .ref (a 0)), (1, .int x1), (3, .int x3), (4, .int x4), (5, .int x5), (6, .int x6), (7, .int x7)]) hx hb dX8_bare_140 hl (k := 7) rfl rfl (by decide) rfl (fun ls hl => ?_)
        refine lv_goto (tgt := 21) hx hb dX8_bare_143 (by decide) ?_
        exact ih _ _ _ _ _ _ hw (lv_sub hl [1, 2, 3, 4, 5, 6, 7, 0] rfl) h
      · replace h := br_t' h c40
        refine lv_iload hx hb dX8_bare_43 (lv_at hl 4 rfl) ?_
        refine lv_i2l (v := x5.toInt64) hx hb dX8_bare_45 rfl ?_
        refine lv_aload_n hx hb dX8_bare_46 rfl (lv_at hl 0 rfl) ?_
        refine k_get C inT_X8 hw 0 rfl rfl 2 (by decide) mF_X8_13 rfl dX8_bare_47 ?_
        refine lv_iconst (v := 3) hx hb dX8_bare_50 (by decide) ?_
        refine lv_iload hx hb dX8_bare_51 (lv_at hl 7 rfl) ?_
        refine lv_imul hx hb dX8_bare_53 ?_
        refine lv_iconst (v := 1) hx hb dX8_bare_54 (by decide) ?_
        refine lv_iadd hx hb dX8_bare_55 ?_
        obtain ⟨y56, q56, h⟩ := bd h
        refine k_iald C hw 1 rfl q56 dX8_bare_56 ?_
        refine lv_i2l (v := y56.toInt64) hx hb dX8_bare_57 rfl ?_
        refine lv_aload_n hx hb dX8_bare_58 rfl (lv_at hl 0 rfl) ?_
        refine k_get C inT_X8 hw 0 rfl rfl 2 (by decide) mF_X8_13 rfl dX8_bare_59 ?_
        refine lv_iconst (v := 3) hx hb dX8_bare_62 (by decide) ?_
        refine lv_iload hx hb dX8_bare_63 (lv_at hl 7 rfl) ?_
        refine lv_imul hx hb dX8_bare_65 ?_
        refine lv_iconst (v := 2) hx hb dX8_bare_66 (by decide) ?_
        refine lv_iadd hx hb dX8_bare_67 ?_
        obtain ⟨y68, q68, h⟩ := bd h
        refine k_iald C hw 1 rfl q68 dX8_bare_68 ?_
        refine lv_i2l (v := y68.toInt64) hx hb dX8_bare_69 rfl ?_
        obtain ⟨r70, q70, h⟩ := bd h
        refine k_callS (nC := 2) [oX8 a g_undos g_listed g_papers g_length g_besides g_gapFirst g_gapLast g_layings g_first g_behind g_clauses g_drafts, ar cI (a 3) 36 g_list] C hl.1 (tX8_in q70) mL_X8_58 mmX8_in rfl rfl ⟨Nat.le_of_ble_eq_true rfl, Nat.le_of_ble_eq_true rfl⟩ rfl rfl (Nat.le_of_ble_eq_true rfl) hA hw [] [0, 1] rfl (by decide +kernel) rfl rfl rfl rfl dX8_bare_70 (fun H locs hw70 => ?_)
        refine lv_if_eq (tgt := 95) hx hb dX8_bare_73 (by decide) (fun c73 => ?_) (fun c73 => ?_)
        · replace h := br_t' h c73
          refine lv_iload hx hb dX8_bare_95 (lv_at hl 6 rfl) ?_
          refine lv_istore (lv' := [(7, .int x7), (0, .ref (a 0)), (1, .int x1), (3, .int x3), (4, .int x4), (5, .int x5), (6, .int x6), (8, .int x8)]) hx hb dX8_bare_97 hl (by decide) rfl (fun ls hl => ?_)
          refine lv_aload_n hx hb dX8_bare_99 rfl (lv_at hl 1 rfl) ?_
          refine k_get C inT_X8 hw70 0 rfl rfl 2 (by decide) mF_X8_13 rfl dX8_bare_100 ?_
          refine lv_iconst (v := 3) hx hb dX8_bare_103 (by decide) ?_
          refine lv_iload hx hb dX8_bare_104 (lv_at hl 7 rfl) ?_
          refine lv_imul hx hb dX8_bare_106 ?_
          refine lv_iconst (v := 1) hx hb dX8_bare_107 (by decide) ?_
          refine lv_iadd hx hb dX8_bare_108 ?_
          obtain ⟨y109, q109, h⟩ := bd h
          refine k_iald C hw70 1 rfl q109 dX8_bare_109 ?_
          refine lv_iload hx hb dX8_bare_110 (lv_at hl 5 rfl) ?_
          refine lv_icmp_le (tgt := 136) hx hb dX8_bare_112 (by decide) (fun c112 => ?_) (fun c112 => ?_)
          · replace h := br_t' h c112
            refine lv_iload hx hb dX8_bare_136 (lv_at hl 6 rfl) ?_
            refine lv_istore (lv' := [(6, .int x6), (7, .int x7), (0, .ref (a 0)), (1, .int x1), (3, .int x3), (4, .int x4), (5, .int x5), (8, .int x8)]) hx hb dX8_bare_138 hl (by decide) rfl (fun ls hl => ?_)
            refine lv_iinc (v := (x8 + 1)) (lv' := [(8, .int (x8 + 1)), (6, .int x6), (7, .int x7), (0, .ref (a 0)), (1, .int x1), (3, .int x3), (4, .int x4), (5, .int x5)]) hx hb dX8_bare_140 hl (k := 7) rfl rfl (by decide) rfl (fun ls hl => ?_)
            refine lv_goto (tgt := 21) hx hb dX8_bare_143 (by decide) ?_
            exact ih _ _ _ _ _ _ hw70 (lv_sub hl [3, 4, 5, 6, 7, 1, 2, 0] rfl) h
          · replace h := br_f' h c112
            refine lv_iload hx hb dX8_bare_115 (lv_at hl 6 rfl) ?_
            refine lv_aload_n hx hb dX8_bare_117 rfl (lv_at hl 1 rfl) ?_
            refine k_get C inT_X8 hw70 0 rfl rfl 2 (by decide) mF_X8_13 rfl dX8_bare_118 ?_
            refine lv_iconst (v := 3) hx hb dX8_bare_121 (by decide) ?_
            refine lv_iload hx hb dX8_bare_122 (lv_at hl 7 rfl) ?_
            refine lv_imul hx hb dX8_bare_124 ?_
            refine lv_iconst (v := 1) hx hb dX8_bare_125 (by decide) ?_
            refine lv_iadd hx hb dX8_bare_126 ?_
            obtain ⟨y127, q127, h⟩ := bd h
            refine k_iald C hw70 1 rfl q127 dX8_bare_127 ?_
            refine lv_iconst (v := 1) hx hb dX8_bare_128 (by decide) ?_
            refine lv_isub hx hb dX8_bare_129 ?_
            obtain ⟨r130, q130, h⟩ := bd h
            refine k_callS (nC := 2) [oX8 a g_undos g_listed g_papers g_length g_besides g_gapFirst g_gapLast g_layings g_first g_behind g_clauses g_drafts, ar cI (a 3) 36 g_list] C hl.1 (tX8_lesser q130) mL_X8_68 mmX8_lesser rfl rfl ⟨Nat.le_of_ble_eq_true rfl, Nat.le_of_ble_eq_true rfl⟩ rfl rfl (Nat.le_of_ble_eq_true rfl) hA hw70 [] [0, 1] rfl (by decide +kernel) rfl rfl rfl rfl dX8_bare_130 (fun H locs hw130 => ?_)
            refine lv_goto (tgt := 138) hx hb dX8_bare_133 (by decide) ?_
            refine lv_istore (lv' := [(6, .int r130), (7, .int x7), (0, .ref (a 0)), (1, .int x1), (3, .int x3), (4, .int x4), (5, .int x5), (8, .int x8)]) hx hb dX8_bare_138 hl (by decide) rfl (fun ls hl => ?_)
            refine lv_iinc (v := (x8 + 1)) (lv' := [(8, .int (x8 + 1)), (6, .int r130), (7, .int x7), (0, .ref (a 0)), (1, .int x1), (3, .int x3), (4, .int x4), (5, .int x5)]) hx hb dX8_bare_140 hl (k := 7) rfl rfl (by decide) rfl (fun ls hl => ?_)
            refine lv_goto (tgt := 21) hx hb dX8_bare_143 (by decide) ?_
            exact ih _ _ _ _ _ _ hw130 (lv_sub hl [3, 4, 5, 6, 7, 1, 2, 0] rfl) h
        · replace h := br_f' h c73
          refine lv_iload hx hb dX8_bare_76 (lv_at hl 6 rfl) ?_
          refine lv_aload_n hx hb dX8_bare_78 rfl (lv_at hl 0 rfl) ?_
          refine k_get C inT_X8 hw70 0 rfl rfl 2 (by decide) mF_X8_13 rfl dX8_bare_79 ?_
          refine lv_iconst (v := 3) hx hb dX8_bare_82 (by decide) ?_
          refine lv_iload hx hb dX8_bare_83 (lv_at hl 7 rfl) ?_
          refine lv_imul hx hb dX8_bare_85 ?_
          refine lv_iconst (v := 2) hx hb dX8_bare_86 (by decide) ?_
          refine lv_iadd hx hb dX8_bare_87 ?_
          obtain ⟨y88, q88, h⟩ := bd h
          refine k_iald C hw70 1 rfl q88 dX8_bare_88 ?_
          obtain ⟨r89, q89, h⟩ := bd h
          refine k_callS (nC := 2) [oX8 a g_undos g_listed g_papers g_length g_besides g_gapFirst g_gapLast g_layings g_first g_behind g_clauses g_drafts, ar cI (a 3) 36 g_list] C hl.1 (tX8_greater q89) mL_X8_64 mmX8_greater rfl rfl ⟨Nat.le_of_ble_eq_true rfl, Nat.le_of_ble_eq_true rfl⟩ rfl rfl (Nat.le_of_ble_eq_true rfl) hA hw70 [] [0, 1] rfl (by decide +kernel) rfl rfl rfl rfl dX8_bare_89 (fun H locs hw89 => ?_)
          refine lv_goto (tgt := 97) hx hb dX8_bare_92 (by decide) ?_
          refine lv_istore (lv' := [(7, .int r89), (0, .ref (a 0)), (1, .int x1), (3, .int x3), (4, .int x4), (5, .int x5), (6, .int x6), (8, .int x8)]) hx hb dX8_bare_97 hl (by decide) rfl (fun ls hl => ?_)
          refine lv_aload_n hx hb dX8_bare_99 rfl (lv_at hl 1 rfl) ?_
          refine k_get C inT_X8 hw89 0 rfl rfl 2 (by decide) mF_X8_13 rfl dX8_bare_100 ?_
          refine lv_iconst (v := 3) hx hb dX8_bare_103 (by decide) ?_
          refine lv_iload hx hb dX8_bare_104 (lv_at hl 7 rfl) ?_
          refine lv_imul hx hb dX8_bare_106 ?_
          refine lv_iconst (v := 1) hx hb dX8_bare_107 (by decide) ?_
          refine lv_iadd hx hb dX8_bare_108 ?_
          obtain ⟨y109, q109, h⟩ := bd h
          refine k_iald C hw89 1 rfl q109 dX8_bare_109 ?_
          refine lv_iload hx hb dX8_bare_110 (lv_at hl 5 rfl) ?_
          refine lv_icmp_le (tgt := 136) hx hb dX8_bare_112 (by decide) (fun c112 => ?_) (fun c112 => ?_)
          · replace h := br_t' h c112
            refine lv_iload hx hb dX8_bare_136 (lv_at hl 6 rfl) ?_
            refine lv_istore (lv' := [(6, .int x6), (7, .int r89), (0, .ref (a 0)), (1, .int x1), (3, .int x3), (4, .int x4), (5, .int x5), (8, .int x8)]) hx hb dX8_bare_138 hl (by decide) rfl (fun ls hl => ?_)
            refine lv_iinc (v := (x8 + 1)) (lv' := [(8, .int (x8 + 1)), (6, .int x6), (7, .int r89), (0, .ref (a 0)), (1, .int x1), (3, .int x3), (4, .int x4), (5, .int x5)]) hx hb dX8_bare_140 hl (k := 7) rfl rfl (by decide) rfl (fun ls hl => ?_)
            refine lv_goto (tgt := 21) hx hb dX8_bare_143 (by decide) ?_
            exact ih _ _ _ _ _ _ hw89 (lv_sub hl [3, 4, 5, 6, 7, 1, 2, 0] rfl) h
          · replace h := br_f' h c112
            refine lv_iload hx hb dX8_bare_115 (lv_at hl 6 rfl) ?_
            refine lv_aload_n hx hb dX8_bare_117 rfl (lv_at hl 1 rfl) ?_
            refine k_get C inT_X8 hw89 0 rfl rfl 2 (by decide) mF_X8_13 rfl dX8_bare_118 ?_
            refine lv_iconst (v := 3) hx hb dX8_bare_121 (by decide) ?_
            refine lv_iload hx hb dX8_bare_122 (lv_at hl 7 rfl) ?_
            refine lv_imul hx hb dX8_bare_124 ?_
            refine lv_iconst (v := 1) hx hb dX8_bare_125 (by decide) ?_
            refine lv_iadd hx hb dX8_bare_126 ?_
            obtain ⟨y127, q127, h⟩ := bd h
            refine k_iald C hw89 1 rfl q127 dX8_bare_127 ?_
            refine lv_iconst (v := 1) hx hb dX8_bare_128 (by decide) ?_
            refine lv_isub hx hb dX8_bare_129 ?_
            obtain ⟨r130, q130, h⟩ := bd h
            refine k_callS (nC := 2) [oX8 a g_undos g_listed g_papers g_length g_besides g_gapFirst g_gapLast g_layings g_first g_behind g_clauses g_drafts, ar cI (a 3) 36 g_list] C hl.1 (tX8_lesser q130) mL_X8_68 mmX8_lesser rfl rfl ⟨Nat.le_of_ble_eq_true rfl, Nat.le_of_ble_eq_true rfl⟩ rfl rfl (Nat.le_of_ble_eq_true rfl) hA hw89 [] [0, 1] rfl (by decide +kernel) rfl rfl rfl rfl dX8_bare_130 (fun H locs hw130 => ?_)
            refine lv_goto (tgt := 138) hx hb dX8_bare_133 (by decide) ?_
            refine lv_istore (lv' := [(6, .int r130), (7, .int r89), (0, .ref (a 0)), (1, .int x1), (3, .int x3), (4, .int x4), (5, .int x5), (8, .int x8)]) hx hb dX8_bare_138 hl (by decide) rfl (fun ls hl => ?_)
            refine lv_iinc (v := (x8 + 1)) (lv' := [(8, .int (x8 + 1)), (6, .int r130), (7, .int r89), (0, .ref (a 0)), (1, .int x1), (3, .int x3), (4, .int x4), (5, .int x5)]) hx hb dX8_bare_140 hl (k := 7) rfl rfl (by decide) rfl (fun ls hl => ?_)
            refine lv_goto (tgt := 21) hx hb dX8_bare_143 (by decide) ?_
            exact ih _ _ _ _ _ _ hw130 (lv_sub hl [3, 4, 5, 6, 7, 1, 2, 0] rfl) h
def fX8_bare_6 (g_list : Nat → Int32) (g_listed : Int32) (x1 : Int32) (x3 : Int32) : (n : Nat) → (k : Int32 → Int32 → Option (Int32)) → Int32 → Int32 → Option (Int32)
  | 0, _, _, _ => none
  | n + 1, k, x4, x5 =>
    if x3 < x5 then
      k x4 x5
    else
      fX8_bare_21 g_list g_listed x1 x5 FU (fun x6_21 x7_21 x8_21 =>
        if x7_21 = (-1) then
          if x7_21 = (-1) then
            fX8_bare_6 g_list g_listed x1 x3 n k (x4 + ((x6_21 - x5) + 1)) (x6_21 + 1)
          else
            fX8_bare_6 g_list g_listed x1 x3 n k (x4 + ((x6_21 - x5) + 1)) (x7_21 + 1)
        else
          if x7_21 = (-1) then
            fX8_bare_6 g_list g_listed x1 x3 n k (x4 + 0) (x6_21 + 1)
          else
            fX8_bare_6 g_list g_listed x1 x3 n k (x4 + 0) (x7_21 + 1)) x3 (-1) 0
set_option maxRecDepth 100000 in
set_option maxHeartbeats 4000000 in
theorem wX8_bare_6 {p : Program} {l : Launch} {e : Env} {s : State} {m : MethodId} {args : Array Value} {below : List Frame} {meth : Method} {c : Code} {D : va_G} {cI : ClassId} {cS : GS} {A : Nat → Prop} {a : Nat → Nat} {g_undos : Int32} {g_list : Nat → Int32} {g_listed : Int32} {g_papers : Int32} {g_length : Int32} {g_besides : Int32} {g_gapFirst : Int32} {g_gapLast : Int32} {g_layings : Int32} {g_first : Int32} {g_behind : Int32} {g_clauses : Int32} {g_drafts : Int32} {x1 : Int32} {x3 : Int32} (C : MC p s m args meth c D cI cS A RX8 cX8_bare 9 (some .int)) (hA : ∀ q, s.heap.size ≤ q → A q) {s0 : Int32} (k : Int32 → Int32 → Option (Int32)) (hk : ∀ (x4 : Int32) (x5 : Int32) (H : Heap) (locs : List Loc) (ls : Array Slot), Wd D A s.heap H locs [oX8 a g_undos g_listed g_papers g_length g_besides g_gapFirst g_gapLast g_layings g_first g_behind g_clauses g_drafts, ar cI (a 3) 36 g_list] → lv_has ls 9 [(0, .ref (a 0)), (1, .int x1), (3, .int x3), (4, .int x4), (5, .int x5)] → k x4 x5 = some s0 → W p l e rmX8_bare s m args below meth c H locs 0 0 (KQ D A below args s (some (.int s0)) [oX8 a g_undos g_listed g_papers g_length g_besides g_gapFirst g_gapLast g_layings g_first g_behind g_clauses g_drafts, ar cI (a 3) 36 g_list]) (F0 m 190 ls [])) :
    ∀ (n : Nat) (x4 : Int32) (x5 : Int32) (H : Heap) (locs : List Loc) (ls : Array Slot), Wd D A s.heap H locs [oX8 a g_undos g_listed g_papers g_length g_besides g_gapFirst g_gapLast g_layings g_first g_behind g_clauses g_drafts, ar cI (a 3) 36 g_list] → lv_has ls 9 [(0, .ref (a 0)), (1, .int x1), (3, .int x3), (4, .int x4), (5, .int x5)] → fX8_bare_6 g_list g_listed x1 x3 n k x4 x5 = some s0 → W p l e rmX8_bare s m args below meth c H locs 0 0 (KQ D A below args s (some (.int s0)) [oX8 a g_undos g_listed g_papers g_length g_besides g_gapFirst g_gapLast g_layings g_first g_behind g_clauses g_drafts, ar cI (a 3) 36 g_list]) (F0 m 6 ls []) := by
  have hx := C.1.1
  have hb := C.1.2.1
  intro n
  induction n with
  | zero =>
    intro x4 x5 H locs ls hw hl h
    rw [fX8_bare_6] at h
    cases h
  | succ n ih =>
    intro x4 x5 H locs ls hw hl h
    rw [fX8_bare_6] at h
    refine lv_iload hx hb dX8_bare_6 (lv_at hl 4 rfl) ?_
    refine lv_iload_n hx hb dX8_bare_8 rfl (lv_at hl 2 rfl) ?_
    refine lv_icmp_gt (tgt := 190) hx hb dX8_bare_9 (by decide) (fun c9 => ?_) (fun c9 => ?_)
    · replace h := br_t' h c9
      exact hk _ _ _ _ _ hw (lv_sub hl [0, 1, 2, 3, 4] rfl) h
    · replace h := br_f' h c9
      refine lv_iload_n hx hb dX8_bare_12 rfl (lv_at hl 2 rfl) ?_
      refine lv_istore (lv' := [(6, .int x3), (0, .ref (a 0)), (1, .int x1), (3, .int x3), (4, .int x4), (5, .int x5)]) hx hb dX8_bare_13 hl (by decide) rfl (fun ls hl => ?_)
      refine lv_iconst (v := (-1)) hx hb dX8_bare_15 (by decide) ?_
      refine lv_istore (lv' := [(7, .int (-1)), (6, .int x3), (0, .ref (a 0)), (1, .int x1), (3, .int x3), (4, .int x4), (5, .int x5)]) hx hb dX8_bare_16 hl (by decide) rfl (fun ls hl => ?_)
      refine lv_iconst (v := 0) hx hb dX8_bare_18 (by decide) ?_
      refine lv_istore (lv' := [(8, .int 0), (7, .int (-1)), (6, .int x3), (0, .ref (a 0)), (1, .int x1), (3, .int x3), (4, .int x4), (5, .int x5)]) hx hb dX8_bare_19 hl (by decide) rfl (fun ls hl => ?_)
      refine wX8_bare_21 C hA _ (fun x6_21 x7_21 x8_21 H locs ls hw21x hl h => ?_) FU _ _ _ _ _ _ hw (lv_sub hl [3, 4, 5, 6, 7, 2, 1, 0] rfl) h
      refine lv_iload hx hb dX8_bare_146 (lv_at hl 3 rfl) ?_
      refine lv_iload hx hb dX8_bare_148 (lv_at hl 6 rfl) ?_
      refine lv_iconst (v := (-1)) hx hb dX8_bare_150 (by decide) ?_
      refine lv_icmp_ne (tgt := 164) hx hb dX8_bare_151 (by decide) (fun c151 => ?_) (fun c151 => ?_)
      · replace h := br_f' h c151
        refine lv_iconst (v := 0) hx hb dX8_bare_164 (by decide) ?_
        refine lv_iadd hx hb dX8_bare_165 ?_
        refine lv_istore (lv' := [(4, .int (x4 + 0)), (0, .ref (a 0)), (1, .int x1), (3, .int x3), (5, .int x5), (6, .int x6_21), (7, .int x7_21), (8, .int x8_21)]) hx hb dX8_bare_166 hl (by decide) rfl (fun ls hl => ?_)
        refine lv_iload hx hb dX8_bare_168 (lv_at hl 6 rfl) ?_
        refine lv_iconst (v := (-1)) hx hb dX8_bare_170 (by decide) ?_
        refine lv_icmp_ne (tgt := 181) hx hb dX8_bare_171 (by decide) (fun c171 => ?_) (fun c171 => ?_)
        · replace h := br_f' h c171
          refine lv_iload hx hb dX8_bare_181 (lv_at hl 6 rfl) ?_
          refine lv_iconst (v := 1) hx hb dX8_bare_183 (by decide) ?_
          refine lv_iadd hx hb dX8_bare_184 ?_
          refine lv_istore (lv' := [(5, .int (x7_21 + 1)), (4, .int (x4 + 0)), (0, .ref (a 0)), (1, .int x1), (3, .int x3), (6, .int x6_21), (7, .int x7_21), (8, .int x8_21)]) hx hb dX8_bare_185 hl (by decide) rfl (fun ls hl => ?_)
          refine lv_goto (tgt := 6) hx hb dX8_bare_187 (by decide) ?_
          exact ih _ _ _ _ _ hw21x (lv_sub hl [2, 3, 4, 1, 0] rfl) h
        · replace h := br_t' h c171
          refine lv_iload hx hb dX8_bare_174 (lv_at hl 5 rfl) ?_
          refine lv_iconst (v := 1) hx hb dX8_bare_176 (by decide) ?_
          refine lv_iadd hx hb dX8_bare_177 ?_
          refine lv_goto (tgt := 185) hx hb dX8_bare_178 (by decide) ?_
          refine lv_istore (lv' := [(5, .int (x6_21 + 1)), (4, .int (x4 + 0)), (0, .ref (a 0)), (1, .int x1), (3, .int x3), (6, .int x6_21), (7, .int x7_21), (8, .int x8_21)]) hx hb dX8_bare_185 hl (by decide) rfl (fun ls hl => ?_)
          refine lv_goto (tgt := 6) hx hb dX8_bare_187 (by decide) ?_
          exact ih _ _ _ _ _ hw21x (lv_sub hl [2, 3, 4, 1, 0] rfl) h
      · replace h := br_t' h c151
        refine lv_iload hx hb dX8_bare_154 (lv_at hl 5 rfl) ?_
        refine lv_iload hx hb dX8_bare_156 (lv_at hl 4 rfl) ?_
        refine lv_isub hx hb dX8_bare_158 ?_
        refine lv_iconst (v := 1) hx hb dX8_bare_159 (by decide) ?_
        refine lv_iadd hx hb dX8_bare_160 ?_
        refine lv_goto (tgt := 165) hx hb dX8_bare_161 (by decide) ?_
        refine lv_iadd hx hb dX8_bare_165 ?_
        refine lv_istore (lv' := [(4, .int (x4 + ((x6_21 - x5) + 1))), (0, .ref (a 0)), (1, .int x1), (3, .int x3), (5, .int x5), (6, .int x6_21), (7, .int x7_21), (8, .int x8_21)]) hx hb dX8_bare_166 hl (by decide) rfl (fun ls hl => ?_)
        refine lv_iload hx hb dX8_bare_168 (lv_at hl 6 rfl) ?_
        refine lv_iconst (v := (-1)) hx hb dX8_bare_170 (by decide) ?_
        refine lv_icmp_ne (tgt := 181) hx hb dX8_bare_171 (by decide) (fun c171 => ?_) (fun c171 => ?_)
        · replace h := br_f' h c171
          refine lv_iload hx hb dX8_bare_181 (lv_at hl 6 rfl) ?_
          refine lv_iconst (v := 1) hx hb dX8_bare_183 (by decide) ?_
          refine lv_iadd hx hb dX8_bare_184 ?_
          refine lv_istore (lv' := [(5, .int (x7_21 + 1)), (4, .int (x4 + ((x6_21 - x5) + 1))), (0, .ref (a 0)), (1, .int x1), (3, .int x3), (6, .int x6_21), (7, .int x7_21), (8, .int x8_21)]) hx hb dX8_bare_185 hl (by decide) rfl (fun ls hl => ?_)
          refine lv_goto (tgt := 6) hx hb dX8_bare_187 (by decide) ?_
          exact ih _ _ _ _ _ hw21x (lv_sub hl [2, 3, 4, 1, 0] rfl) h
        · replace h := br_t' h c171
          refine lv_iload hx hb dX8_bare_174 (lv_at hl 5 rfl) ?_
          refine lv_iconst (v := 1) hx hb dX8_bare_176 (by decide) ?_
          refine lv_iadd hx hb dX8_bare_177 ?_
          refine lv_goto (tgt := 185) hx hb dX8_bare_178 (by decide) ?_
          refine lv_istore (lv' := [(5, .int (x6_21 + 1)), (4, .int (x4 + ((x6_21 - x5) + 1))), (0, .ref (a 0)), (1, .int x1), (3, .int x3), (6, .int x6_21), (7, .int x7_21), (8, .int x8_21)]) hx hb dX8_bare_185 hl (by decide) rfl (fun ls hl => ?_)
          refine lv_goto (tgt := 6) hx hb dX8_bare_187 (by decide) ?_
          exact ih _ _ _ _ _ hw21x (lv_sub hl [2, 3, 4, 1, 0] rfl) h
def fX8_bare (g_list : Nat → Int32) (g_listed : Int32) (x1 : Int32) (x2 : Int32) (x3 : Int32) : Option (Int32) :=
  fX8_bare_6 g_list g_listed x1 x3 FU (fun x4_6 x5_6 =>
    some x4_6) 0 x2
set_option maxRecDepth 100000 in
set_option maxHeartbeats 4000000 in
theorem tX8_bare {l : Launch} {D : va_G} {cI : ClassId} {cS : GS} {a : Nat → Nat} {g_undos : Int32} {g_list : Nat → Int32} {g_listed : Int32} {g_papers : Int32} {g_length : Int32} {g_besides : Int32} {g_gapFirst : Int32} {g_gapLast : Int32} {g_layings : Int32} {g_first : Int32} {g_behind : Int32} {g_clauses : Int32} {g_drafts : Int32} {x1 : Int32} {x2 : Int32} {x3 : Int32} {s0 : Int32} (h : fX8_bare g_list g_listed x1 x2 x3 = some s0) : CT l D cI cS yX8_bare cX8_bare 9 (some .int) rmX8_bare [.ref (a 0), .int x1, .int x2, .int x3] [oX8 a g_undos g_listed g_papers g_length g_besides g_gapFirst g_gapLast g_layings g_first g_behind g_clauses g_drafts, ar cI (a 3) 36 g_list] (some (.int s0)) [oX8 a g_undos g_listed g_papers g_length g_besides g_gapFirst g_gapLast g_layings g_first g_behind g_clauses g_drafts, ar cI (a 3) 36 g_list] := by
  refine CT.of RX8 (by decide) rfl (Nat.le_of_ble_eq_true rfl) (fun p e s m below meth c ls A C hA hl hw => ?_)
  have hx := C.1.1
  have hb := C.1.2.1
  have hl : lv_has ls 9 [(0, .ref (a 0)), (1, .int x1), (2, .int x2), (3, .int x3)] := hl
  unfold fX8_bare at h
  refine lv_iconst (v := 0) hx hb dX8_bare_0 (by decide) ?_
  refine lv_istore (lv' := [(4, .int 0), (0, .ref (a 0)), (1, .int x1), (2, .int x2), (3, .int x3)]) hx hb dX8_bare_1 hl (by decide) rfl (fun ls hl => ?_)
  refine lv_iload_n hx hb dX8_bare_3 rfl (lv_at hl 3 rfl) ?_
  refine lv_istore (lv' := [(5, .int x2), (4, .int 0), (0, .ref (a 0)), (1, .int x1), (2, .int x2), (3, .int x3)]) hx hb dX8_bare_4 hl (by decide) rfl (fun ls hl => ?_)
  refine wX8_bare_6 C hA _ (fun x4_6 x5_6 H locs ls hw6x hl h => ?_) FU _ _ _ _ _ hw (lv_sub hl [2, 3, 5, 1, 0] rfl) h
  refine lv_iload hx hb dX8_bare_190 (lv_at hl 3 rfl) ?_
  cases h
  exact k_iret C hw6x dX8_bare_192
def rmX8_unlisted : Room := { frames := 2, cells := 0, slots := 0, locals := 53 }
def fX8_unlisted_14 (g_row : Nat → Int32) (g_list : Nat → Int32) (g_listed : Int32) (x1 : Int32) : (n : Nat) → (k : Int32 → Int32 → Option (Int32)) → Int32 → Int32 → Option (Int32)
  | 0, _, _, _ => none
  | n + 1, k, x2, x3 =>
    (ld 5058 g_row 1).bind fun y20 =>
    if y20 ≤ x3 then
      k x2 x3
    else
      (fX8_pieceAt g_row x3 2).bind fun r28 =>
      if r28 = x1 then
        (fX8_pieceAt g_row x3 0).bind fun r40 =>
        (fX8_pieceAt g_row x3 1).bind fun r46 =>
        (fX8_bare g_list g_listed x1 r40 r46).bind fun r49 =>
        fX8_unlisted_14 g_row g_list g_listed x1 n k (x2 + r49) (x3 + 1)
      else
        fX8_unlisted_14 g_row g_list g_listed x1 n k (x2 + 0) (x3 + 1)
set_option maxRecDepth 100000 in
set_option maxHeartbeats 4000000 in
theorem wX8_unlisted_14 {p : Program} {l : Launch} {e : Env} {s : State} {m : MethodId} {args : Array Value} {below : List Frame} {meth : Method} {c : Code} {D : va_G} {cI : ClassId} {cS : GS} {A : Nat → Prop} {a : Nat → Nat} {g_row : Nat → Int32} {g_undos : Int32} {g_list : Nat → Int32} {g_listed : Int32} {g_papers : Int32} {g_length : Int32} {g_besides : Int32} {g_gapFirst : Int32} {g_gapLast : Int32} {g_layings : Int32} {g_first : Int32} {g_behind : Int32} {g_clauses : Int32} {g_drafts : Int32} {x1 : Int32} (C : MC p s m args meth c D cI cS A RX8 cX8_unlisted 4 (some .int)) (hA : ∀ q, s.heap.size ≤ q → A q) {s0 : Int32} (k : Int32 → Int32 → Option (Int32)) (hk : ∀ (x2 : Int32) (x3 : Int32) (H : Heap) (locs : List Loc) (ls : Array Slot), Wd D A s.heap H locs [oX8 a g_undos g_listed g_papers g_length g_besides g_gapFirst g_gapLast g_layings g_first g_behind g_clauses g_drafts, ar cI (a 1) 5058 g_row, ar cI (a 3) 36 g_list] → lv_has ls 4 [(0, .ref (a 0)), (1, .int x1), (2, .int x2), (3, .int x3)] → k x2 x3 = some s0 → W p l e rmX8_unlisted s m args below meth c H locs 0 0 (KQ D A below args s (some (.int s0)) [oX8 a g_undos g_listed g_papers g_length g_besides g_gapFirst g_gapLast g_layings g_first g_behind g_clauses g_drafts, ar cI (a 1) 5058 g_row, ar cI (a 3) 36 g_list]) (F0 m 64 ls [])) :
    ∀ (n : Nat) (x2 : Int32) (x3 : Int32) (H : Heap) (locs : List Loc) (ls : Array Slot), Wd D A s.heap H locs [oX8 a g_undos g_listed g_papers g_length g_besides g_gapFirst g_gapLast g_layings g_first g_behind g_clauses g_drafts, ar cI (a 1) 5058 g_row, ar cI (a 3) 36 g_list] → lv_has ls 4 [(0, .ref (a 0)), (1, .int x1), (2, .int x2), (3, .int x3)] → fX8_unlisted_14 g_row g_list g_listed x1 n k x2 x3 = some s0 → W p l e rmX8_unlisted s m args below meth c H locs 0 0 (KQ D A below args s (some (.int s0)) [oX8 a g_undos g_listed g_papers g_length g_besides g_gapFirst g_gapLast g_layings g_first g_behind g_clauses g_drafts, ar cI (a 1) 5058 g_row, ar cI (a 3) 36 g_list]) (F0 m 14 ls []) := by
  have hx := C.1.1
  have hb := C.1.2.1
  intro n
  induction n with
  | zero =>
    intro x2 x3 H locs ls hw hl h
    rw [fX8_unlisted_14] at h
    cases h
  | succ n ih =>
    intro x2 x3 H locs ls hw hl h
    rw [fX8_unlisted_14] at h
    refine lv_iload_n hx hb dX8_unlisted_14 rfl (lv_at hl 3 rfl) ?_
    refine lv_aload_n hx hb dX8_unlisted_15 rfl (lv_at hl 0 rfl) ?_
    refine k_get C inT_X8 hw 0 rfl rfl 0 (by decide) mF_X8_7 rfl dX8_unlisted_16 ?_
    refine lv_iconst (v := 1) hx hb dX8_unlisted_19 (by decide) ?_
    obtain ⟨y20, q20, h⟩ := bd h
    refine k_iald C hw 1 rfl q20 dX8_unlisted_20 ?_
    refine lv_icmp_ge (tgt := 64) hx hb dX8_unlisted_21 (by decide) (fun c21 => ?_) (fun c21 => ?_)
    · replace h := br_t' h c21
      exact hk _ _ _ _ _ hw (lv_sub hl [0, 1, 2, 3] rfl) h
    · replace h := br_f' h c21
      refine lv_iload_n hx hb dX8_unlisted_24 rfl (lv_at hl 2 rfl) ?_
      refine lv_aload_n hx hb dX8_unlisted_25 rfl (lv_at hl 0 rfl) ?_
      refine lv_iload_n hx hb dX8_unlisted_26 rfl (lv_at hl 3 rfl) ?_
      refine lv_iconst (v := 2) hx hb dX8_unlisted_27 (by decide) ?_
      obtain ⟨r28, q28, h⟩ := bd h
      refine k_callV (nC := 3) [oX8 a g_undos g_listed g_papers g_length g_besides g_gapFirst g_gapLast g_layings g_first g_behind g_clauses g_drafts, ar cI (a 1) 5058 g_row, ar cI (a 3) 36 g_list] C hl.1 (tX8_pieceAt (a := a) q28) mL_X8_71 mmX8_pieceAt rfl rfl ⟨Nat.le_of_ble_eq_true rfl, Nat.le_of_ble_eq_true rfl⟩ rfl rfl rfl rfl (Nat.le_of_ble_eq_true rfl) hA hw [0, 1] [2] rfl (by decide +kernel) rfl rfl rfl rfl dX8_unlisted_28 (fun H locs hw28 => ?_)
      refine lv_iload_n hx hb dX8_unlisted_31 rfl (lv_at hl 1 rfl) ?_
      refine lv_icmp_ne (tgt := 55) hx hb dX8_unlisted_32 (by decide) (fun c32 => ?_) (fun c32 => ?_)
      · replace h := br_f' h c32
        refine lv_iconst (v := 0) hx hb dX8_unlisted_55 (by decide) ?_
        refine lv_iadd hx hb dX8_unlisted_56 ?_
        refine lv_istore_n (lv' := [(2, .int (x2 + 0)), (0, .ref (a 0)), (1, .int x1), (3, .int x3)]) hx hb dX8_unlisted_57 rfl hl (by decide) rfl (fun ls hl => ?_)
        refine lv_iinc (v := (x3 + 1)) (lv' := [(3, .int (x3 + 1)), (2, .int (x2 + 0)), (0, .ref (a 0)), (1, .int x1)]) hx hb dX8_unlisted_58 hl (k := 3) rfl rfl (by decide) rfl (fun ls hl => ?_)
        refine lv_goto (tgt := 14) hx hb dX8_unlisted_61 (by decide) ?_
        exact ih _ _ _ _ _ hw28 (lv_sub hl [2, 3, 1, 0] rfl) h
      · replace h := br_t' h c32
        refine lv_aload_n hx hb dX8_unlisted_35 rfl (lv_at hl 0 rfl) ?_
        refine lv_iload_n hx hb dX8_unlisted_36 rfl (lv_at hl 1 rfl) ?_
        refine lv_aload_n hx hb dX8_unlisted_37 rfl (lv_at hl 0 rfl) ?_
        refine lv_iload_n hx hb dX8_unlisted_38 rfl (lv_at hl 3 rfl) ?_
        refine lv_iconst (v := 0) hx hb dX8_unlisted_39 (by decide) ?_
        obtain ⟨r40, q40, h⟩ := bd h
        refine k_callV (nC := 3) [oX8 a g_undos g_listed g_papers g_length g_besides g_gapFirst g_gapLast g_layings g_first g_behind g_clauses g_drafts, ar cI (a 1) 5058 g_row, ar cI (a 3) 36 g_list] C hl.1 (tX8_pieceAt (a := a) q40) mL_X8_71 mmX8_pieceAt rfl rfl ⟨Nat.le_of_ble_eq_true rfl, Nat.le_of_ble_eq_true rfl⟩ rfl rfl rfl rfl (Nat.le_of_ble_eq_true rfl) hA hw28 [0, 1] [2] rfl (by decide +kernel) rfl rfl rfl rfl dX8_unlisted_40 (fun H locs hw40 => ?_)
        refine lv_aload_n hx hb dX8_unlisted_43 rfl (lv_at hl 0 rfl) ?_
        refine lv_iload_n hx hb dX8_unlisted_44 rfl (lv_at hl 3 rfl) ?_
        refine lv_iconst (v := 1) hx hb dX8_unlisted_45 (by decide) ?_
        obtain ⟨r46, q46, h⟩ := bd h
        refine k_callV (nC := 3) [oX8 a g_undos g_listed g_papers g_length g_besides g_gapFirst g_gapLast g_layings g_first g_behind g_clauses g_drafts, ar cI (a 1) 5058 g_row, ar cI (a 3) 36 g_list] C hl.1 (tX8_pieceAt (a := a) q46) mL_X8_71 mmX8_pieceAt rfl rfl ⟨Nat.le_of_ble_eq_true rfl, Nat.le_of_ble_eq_true rfl⟩ rfl rfl rfl rfl (Nat.le_of_ble_eq_true rfl) hA hw40 [0, 1] [2] rfl (by decide +kernel) rfl rfl rfl rfl dX8_unlisted_46 (fun H locs hw46 => ?_)
        obtain ⟨r49, q49, h⟩ := bd h
        refine k_callV (nC := 3) [oX8 a g_undos g_listed g_papers g_length g_besides g_gapFirst g_gapLast g_layings g_first g_behind g_clauses g_drafts, ar cI (a 1) 5058 g_row, ar cI (a 3) 36 g_list] C hl.1 (tX8_bare (a := a) q49) mL_X8_277 mmX8_bare rfl rfl ⟨Nat.le_of_ble_eq_true rfl, Nat.le_of_ble_eq_true rfl⟩ rfl rfl rfl rfl (Nat.le_of_ble_eq_true rfl) hA hw46 [0, 2] [1] rfl (by decide +kernel) rfl rfl rfl rfl dX8_unlisted_49 (fun H locs hw49 => ?_)
        refine lv_goto (tgt := 56) hx hb dX8_unlisted_52 (by decide) ?_
        refine lv_iadd hx hb dX8_unlisted_56 ?_
        refine lv_istore_n (lv' := [(2, .int (x2 + r49)), (0, .ref (a 0)), (1, .int x1), (3, .int x3)]) hx hb dX8_unlisted_57 rfl hl (by decide) rfl (fun ls hl => ?_)
        refine lv_iinc (v := (x3 + 1)) (lv' := [(3, .int (x3 + 1)), (2, .int (x2 + r49)), (0, .ref (a 0)), (1, .int x1)]) hx hb dX8_unlisted_58 hl (k := 3) rfl rfl (by decide) rfl (fun ls hl => ?_)
        refine lv_goto (tgt := 14) hx hb dX8_unlisted_61 (by decide) ?_
        exact ih _ _ _ _ _ hw49 (lv_sub hl [2, 3, 1, 0] rfl) h
def fX8_unlisted (g_row : Nat → Int32) (g_list : Nat → Int32) (g_listed : Int32) (x1 : Int32) : Option (Int32) :=
  (fX8_isBox x1).bind fun r1 =>
  if r1 = 0 then
    some (-2)
  else
    fX8_unlisted_14 g_row g_list g_listed x1 FU (fun x2_14 x3_14 =>
      some x2_14) 0 0
set_option maxRecDepth 100000 in
set_option maxHeartbeats 4000000 in
theorem tX8_unlisted {l : Launch} {D : va_G} {cI : ClassId} {cS : GS} {a : Nat → Nat} {g_row : Nat → Int32} {g_undos : Int32} {g_list : Nat → Int32} {g_listed : Int32} {g_papers : Int32} {g_length : Int32} {g_besides : Int32} {g_gapFirst : Int32} {g_gapLast : Int32} {g_layings : Int32} {g_first : Int32} {g_behind : Int32} {g_clauses : Int32} {g_drafts : Int32} {x1 : Int32} {s0 : Int32} (h : fX8_unlisted g_row g_list g_listed x1 = some s0) : CT l D cI cS yX8_unlisted cX8_unlisted 4 (some .int) rmX8_unlisted [.ref (a 0), .int x1] [oX8 a g_undos g_listed g_papers g_length g_besides g_gapFirst g_gapLast g_layings g_first g_behind g_clauses g_drafts, ar cI (a 1) 5058 g_row, ar cI (a 3) 36 g_list] (some (.int s0)) [oX8 a g_undos g_listed g_papers g_length g_besides g_gapFirst g_gapLast g_layings g_first g_behind g_clauses g_drafts, ar cI (a 1) 5058 g_row, ar cI (a 3) 36 g_list] := by
  refine CT.of RX8 (by decide) rfl (Nat.le_of_ble_eq_true rfl) (fun p e s m below meth c ls A C hA hl hw => ?_)
  have hx := C.1.1
  have hb := C.1.2.1
  have hl : lv_has ls 4 [(0, .ref (a 0)), (1, .int x1)] := hl
  unfold fX8_unlisted at h
  refine lv_iload_n hx hb dX8_unlisted_0 rfl (lv_at hl 1 rfl) ?_
  obtain ⟨r1, q1, h⟩ := bd h
  refine k_callS (nC := 3) [oX8 a g_undos g_listed g_papers g_length g_besides g_gapFirst g_gapLast g_layings g_first g_behind g_clauses g_drafts, ar cI (a 1) 5058 g_row, ar cI (a 3) 36 g_list] C hl.1 (tX8_isBox q1) mL_X8_212 mmX8_isBox rfl rfl ⟨Nat.le_of_ble_eq_true rfl, Nat.le_of_ble_eq_true rfl⟩ rfl rfl (Nat.le_of_ble_eq_true rfl) hA hw [] [0, 1, 2] rfl (by decide +kernel) rfl rfl rfl rfl dX8_unlisted_1 (fun H locs hw1 => ?_)
  refine lv_if_ne (tgt := 10) hx hb dX8_unlisted_4 (by decide) (fun c4 => ?_) (fun c4 => ?_)
  · replace h := br_f' h c4
    refine lv_iconst (v := 0) hx hb dX8_unlisted_10 (by decide) ?_
    refine lv_istore_n (lv' := [(2, .int 0), (0, .ref (a 0)), (1, .int x1)]) hx hb dX8_unlisted_11 rfl hl (by decide) rfl (fun ls hl => ?_)
    refine lv_iconst (v := 0) hx hb dX8_unlisted_12 (by decide) ?_
    refine lv_istore_n (lv' := [(3, .int 0), (2, .int 0), (0, .ref (a 0)), (1, .int x1)]) hx hb dX8_unlisted_13 rfl hl (by decide) rfl (fun ls hl => ?_)
    refine wX8_unlisted_14 C hA _ (fun x2_14 x3_14 H locs ls hw14x hl h => ?_) FU _ _ _ _ _ hw1 (lv_sub hl [2, 3, 1, 0] rfl) h
    refine lv_iload_n hx hb dX8_unlisted_64 rfl (lv_at hl 2 rfl) ?_
    cases h
    exact k_iret C hw14x dX8_unlisted_65
  · replace h := br_t' h c4
    refine lv_bipush (v := (-2)) hx hb dX8_unlisted_7 (by decide) ?_
    cases h
    exact k_iret C hw1 dX8_unlisted_9
def rmX8_letter : Room := { frames := 0, cells := 0, slots := 0, locals := 0 }
def fX8_letter (g_draft : Nat → Int32) (g_drafts : Int32) (x1 : Int32) : Option ((Nat → Int32) × Int32) :=
  if 200 ≤ g_drafts then
    some (g_draft, (g_drafts + 1))
  else
    (sv 200 g_draft g_drafts x1).bind fun g19 =>
    some (g19, (g_drafts + 1))
set_option maxRecDepth 100000 in
set_option maxHeartbeats 4000000 in
theorem tX8_letter {l : Launch} {D : va_G} {cI : ClassId} {cS : GS} {a : Nat → Nat} {g_undos : Int32} {g_listed : Int32} {g_papers : Int32} {g_length : Int32} {g_besides : Int32} {g_gapFirst : Int32} {g_gapLast : Int32} {g_layings : Int32} {g_first : Int32} {g_behind : Int32} {g_clauses : Int32} {g_draft : Nat → Int32} {g_drafts : Int32} {x1 : Int32} {s0 : (Nat → Int32)} {s1 : Int32} (h : fX8_letter g_draft g_drafts x1 = some (s0, s1)) : CT l D cI cS yX8_letter cX8_letter 2 none rmX8_letter [.ref (a 0), .int x1] [oX8 a g_undos g_listed g_papers g_length g_besides g_gapFirst g_gapLast g_layings g_first g_behind g_clauses g_drafts, ar cI (a 24) 200 g_draft] none [oX8 a g_undos g_listed g_papers g_length g_besides g_gapFirst g_gapLast g_layings g_first g_behind g_clauses s1, ar cI (a 24) 200 s0] := by
  refine CT.of RX8 (by decide) rfl (Nat.le_of_ble_eq_true rfl) (fun p e s m below meth c ls A C hA hl hw => ?_)
  have hx := C.1.1
  have hb := C.1.2.1
  have hl : lv_has ls 2 [(0, .ref (a 0)), (1, .int x1)] := hl
  unfold fX8_letter at h
  refine lv_aload_n hx hb dX8_letter_0 rfl (lv_at hl 0 rfl) ?_
  refine k_get C inT_X8 hw 0 rfl rfl 24 (by decide) mF_X8_280 rfl dX8_letter_1 ?_
  refine lv_sipush (v := 200) hx hb dX8_letter_4 (by decide) ?_
  refine lv_icmp_ge (tgt := 20) hx hb dX8_letter_7 (by decide) (fun c7 => ?_) (fun c7 => ?_)
  · replace h := br_t' h c7
    refine lv_aload_n hx hb dX8_letter_20 rfl (lv_at hl 0 rfl) ?_
    refine lv_dup hx hb dX8_letter_21 rfl ?_
    refine k_get C inT_X8 hw 0 rfl rfl 24 (by decide) mF_X8_280 rfl dX8_letter_22 ?_
    refine lv_iconst (v := 1) hx hb dX8_letter_25 (by decide) ?_
    refine lv_iadd hx hb dX8_letter_26 ?_
    refine k_put C inT_X8 tyX8 tyX8_ok nmX8 hw 0 rfl rfl 24 (by decide) mF_X8_280 rfl rfl (Nat.le_of_ble_eq_true rfl) [oX8 a g_undos g_listed g_papers g_length g_besides g_gapFirst g_gapLast g_layings g_first g_behind g_clauses (g_drafts + 1), ar cI (a 24) 200 g_draft] rfl dX8_letter_27 (fun H locs hw27 => ?_)
    cases h
    exact k_vret C hw27 dX8_letter_30
  · replace h := br_f' h c7
    refine lv_aload_n hx hb dX8_letter_10 rfl (lv_at hl 0 rfl) ?_
    refine k_get C inT_X8 hw 0 rfl rfl 23 (by decide) mF_X8_46 rfl dX8_letter_11 ?_
    refine lv_aload_n hx hb dX8_letter_14 rfl (lv_at hl 0 rfl) ?_
    refine k_get C inT_X8 hw 0 rfl rfl 24 (by decide) mF_X8_280 rfl dX8_letter_15 ?_
    refine lv_iload_n hx hb dX8_letter_18 rfl (lv_at hl 1 rfl) ?_
    obtain ⟨g19, q19, h⟩ := bd h
    refine k_iast C hw 1 rfl q19 [oX8 a g_undos g_listed g_papers g_length g_besides g_gapFirst g_gapLast g_layings g_first g_behind g_clauses g_drafts, ar cI (a 24) 200 g19] rfl dX8_letter_19 (fun H locs hw19 => ?_)
    refine lv_aload_n hx hb dX8_letter_20 rfl (lv_at hl 0 rfl) ?_
    refine lv_dup hx hb dX8_letter_21 rfl ?_
    refine k_get C inT_X8 hw19 0 rfl rfl 24 (by decide) mF_X8_280 rfl dX8_letter_22 ?_
    refine lv_iconst (v := 1) hx hb dX8_letter_25 (by decide) ?_
    refine lv_iadd hx hb dX8_letter_26 ?_
    refine k_put C inT_X8 tyX8 tyX8_ok nmX8 hw19 0 rfl rfl 24 (by decide) mF_X8_280 rfl rfl (Nat.le_of_ble_eq_true rfl) [oX8 a g_undos g_listed g_papers g_length g_besides g_gapFirst g_gapLast g_layings g_first g_behind g_clauses (g_drafts + 1), ar cI (a 24) 200 g19] rfl dX8_letter_27 (fun H locs hw27 => ?_)
    cases h
    exact k_vret C hw27 dX8_letter_30
def rmX8_figures : Room := { frames := 1, cells := 0, slots := 0, locals := 21 }
def fX8_figures_2 (x1 : Int32) : (n : Nat) → (k : Int32 → Option ((Nat → Int32) × Int32)) → Int32 → Option ((Nat → Int32) × Int32)
  | 0, _, _ => none
  | n + 1, k, x2 =>
    (dv x1 x2).bind fun z4 =>
    if z4 ≤ 9 then
      k x2
    else
      fX8_figures_2 x1 n k (x2 * 10)
set_option maxRecDepth 100000 in
set_option maxHeartbeats 4000000 in
theorem wX8_figures_2 {p : Program} {l : Launch} {e : Env} {s : State} {m : MethodId} {args : Array Value} {below : List Frame} {meth : Method} {c : Code} {D : va_G} {cI : ClassId} {cS : GS} {A : Nat → Prop} {a : Nat → Nat} {g_undos : Int32} {g_listed : Int32} {g_papers : Int32} {g_length : Int32} {g_besides : Int32} {g_gapFirst : Int32} {g_gapLast : Int32} {g_layings : Int32} {g_first : Int32} {g_behind : Int32} {g_clauses : Int32} {g_draft : Nat → Int32} {g_drafts : Int32} {x1 : Int32} (C : MC p s m args meth c D cI cS A RX8 cX8_figures 4 none) (hA : ∀ q, s.heap.size ≤ q → A q) {s0 : (Nat → Int32)} {s1 : Int32} (k : Int32 → Option ((Nat → Int32) × Int32)) (hk : ∀ (x2 : Int32) (H : Heap) (locs : List Loc) (ls : Array Slot), Wd D A s.heap H locs [oX8 a g_undos g_listed g_papers g_length g_besides g_gapFirst g_gapLast g_layings g_first g_behind g_clauses g_drafts, ar cI (a 24) 200 g_draft] → lv_has ls 4 [(0, .ref (a 0)), (1, .int x1), (2, .int x2)] → k x2 = some (s0, s1) → W p l e rmX8_figures s m args below meth c H locs 0 0 (KQ D A below args s none [oX8 a g_undos g_listed g_papers g_length g_besides g_gapFirst g_gapLast g_layings g_first g_behind g_clauses s1, ar cI (a 24) 200 s0]) (F0 m 18 ls [])) :
    ∀ (n : Nat) (x2 : Int32) (H : Heap) (locs : List Loc) (ls : Array Slot), Wd D A s.heap H locs [oX8 a g_undos g_listed g_papers g_length g_besides g_gapFirst g_gapLast g_layings g_first g_behind g_clauses g_drafts, ar cI (a 24) 200 g_draft] → lv_has ls 4 [(0, .ref (a 0)), (1, .int x1), (2, .int x2)] → fX8_figures_2 x1 n k x2 = some (s0, s1) → W p l e rmX8_figures s m args below meth c H locs 0 0 (KQ D A below args s none [oX8 a g_undos g_listed g_papers g_length g_besides g_gapFirst g_gapLast g_layings g_first g_behind g_clauses s1, ar cI (a 24) 200 s0]) (F0 m 2 ls []) := by
  have hx := C.1.1
  have hb := C.1.2.1
  intro n
  induction n with
  | zero =>
    intro x2 H locs ls hw hl h
    rw [fX8_figures_2] at h
    cases h
  | succ n ih =>
    intro x2 H locs ls hw hl h
    rw [fX8_figures_2] at h
    refine lv_iload_n hx hb dX8_figures_2 rfl (lv_at hl 1 rfl) ?_
    refine lv_iload_n hx hb dX8_figures_3 rfl (lv_at hl 2 rfl) ?_
    obtain ⟨z4, q4, h⟩ := bd h
    refine k_idiv C q4 dX8_figures_4 ?_
    refine lv_bipush (v := 9) hx hb dX8_figures_5 (by decide) ?_
    refine lv_icmp_le (tgt := 18) hx hb dX8_figures_7 (by decide) (fun c7 => ?_) (fun c7 => ?_)
    · replace h := br_t' h c7
      exact hk _ _ _ _ hw (lv_sub hl [0, 1, 2] rfl) h
    · replace h := br_f' h c7
      refine lv_iload_n hx hb dX8_figures_10 rfl (lv_at hl 2 rfl) ?_
      refine lv_bipush (v := 10) hx hb dX8_figures_11 (by decide) ?_
      refine lv_imul hx hb dX8_figures_13 ?_
      refine lv_istore_n (lv' := [(2, .int (x2 * 10)), (0, .ref (a 0)), (1, .int x1)]) hx hb dX8_figures_14 rfl hl (by decide) rfl (fun ls hl => ?_)
      refine lv_goto (tgt := 2) hx hb dX8_figures_15 (by decide) ?_
      exact ih _ _ _ _ hw (lv_sub hl [1, 2, 0] rfl) h
def fX8_figures_20 (x1 : Int32) : (n : Nat) → (k : Int32 → (Nat → Int32) → Int32 → Option ((Nat → Int32) × Int32)) → Int32 → (Nat → Int32) → Int32 → Option ((Nat → Int32) × Int32)
  | 0, _, _, _, _ => none
  | n + 1, k, x3, g_draft, g_drafts =>
    if x3 ≤ 0 then
      k x3 g_draft g_drafts
    else
      (dv x1 x3).bind fun z29 =>
      (rmd z29 10).bind fun z32 =>
      (fX8_letter g_draft g_drafts (48 + z32)).bind fun r34 =>
      (dv x3 10).bind fun z40 =>
      fX8_figures_20 x1 n k z40 r34.1 r34.2
set_option maxRecDepth 100000 in
set_option maxHeartbeats 4000000 in
theorem wX8_figures_20 {p : Program} {l : Launch} {e : Env} {s : State} {m : MethodId} {args : Array Value} {below : List Frame} {meth : Method} {c : Code} {D : va_G} {cI : ClassId} {cS : GS} {A : Nat → Prop} {a : Nat → Nat} {g_undos : Int32} {g_listed : Int32} {g_papers : Int32} {g_length : Int32} {g_besides : Int32} {g_gapFirst : Int32} {g_gapLast : Int32} {g_layings : Int32} {g_first : Int32} {g_behind : Int32} {g_clauses : Int32} {x1 : Int32} (C : MC p s m args meth c D cI cS A RX8 cX8_figures 4 none) (hA : ∀ q, s.heap.size ≤ q → A q) {s0 : (Nat → Int32)} {s1 : Int32} (k : Int32 → (Nat → Int32) → Int32 → Option ((Nat → Int32) × Int32)) (hk : ∀ (x3 : Int32) (g_draft : Nat → Int32) (g_drafts : Int32) (H : Heap) (locs : List Loc) (ls : Array Slot), Wd D A s.heap H locs [oX8 a g_undos g_listed g_papers g_length g_besides g_gapFirst g_gapLast g_layings g_first g_behind g_clauses g_drafts, ar cI (a 24) 200 g_draft] → lv_has ls 4 [(0, .ref (a 0)), (1, .int x1), (3, .int x3)] → k x3 g_draft g_drafts = some (s0, s1) → W p l e rmX8_figures s m args below meth c H locs 0 0 (KQ D A below args s none [oX8 a g_undos g_listed g_papers g_length g_besides g_gapFirst g_gapLast g_layings g_first g_behind g_clauses s1, ar cI (a 24) 200 s0]) (F0 m 45 ls [])) :
    ∀ (n : Nat) (x3 : Int32) (g_draft : Nat → Int32) (g_drafts : Int32) (H : Heap) (locs : List Loc) (ls : Array Slot), Wd D A s.heap H locs [oX8 a g_undos g_listed g_papers g_length g_besides g_gapFirst g_gapLast g_layings g_first g_behind g_clauses g_drafts, ar cI (a 24) 200 g_draft] → lv_has ls 4 [(0, .ref (a 0)), (1, .int x1), (3, .int x3)] → fX8_figures_20 x1 n k x3 g_draft g_drafts = some (s0, s1) → W p l e rmX8_figures s m args below meth c H locs 0 0 (KQ D A below args s none [oX8 a g_undos g_listed g_papers g_length g_besides g_gapFirst g_gapLast g_layings g_first g_behind g_clauses s1, ar cI (a 24) 200 s0]) (F0 m 20 ls []) := by
  have hx := C.1.1
  have hb := C.1.2.1
  intro n
  induction n with
  | zero =>
    intro x3 g_draft g_drafts H locs ls hw hl h
    rw [fX8_figures_20] at h
    cases h
  | succ n ih =>
    intro x3 g_draft g_drafts H locs ls hw hl h
    rw [fX8_figures_20] at h
    refine lv_iload_n hx hb dX8_figures_20 rfl (lv_at hl 2 rfl) ?_
    refine lv_if_le (tgt := 45) hx hb dX8_figures_21 (by decide) (fun c21 => ?_) (fun c21 => ?_)
    · replace h := br_t' h c21
      exact hk _ _ _ _ _ _ hw (lv_sub hl [0, 1, 2] rfl) h
    · replace h := br_f' h c21
      refine lv_aload_n hx hb dX8_figures_24 rfl (lv_at hl 0 rfl) ?_
      refine lv_bipush (v := 48) hx hb dX8_figures_25 (by decide) ?_
      refine lv_iload_n hx hb dX8_figures_27 rfl (lv_at hl 1 rfl) ?_
      refine lv_iload_n hx hb dX8_figures_28 rfl (lv_at hl 2 rfl) ?_
      obtain ⟨z29, q29, h⟩ := bd h
      refine k_idiv C q29 dX8_figures_29 ?_
      refine lv_bipush (v := 10) hx hb dX8_figures_30 (by decide) ?_
      obtain ⟨z32, q32, h⟩ := bd h
      refine k_irem C q32 dX8_figures_32 ?_
      refine lv_iadd hx hb dX8_figures_33 ?_
      obtain ⟨r34, q34, h⟩ := bd h
      refine k_callV (nC := 2) [oX8 a g_undos g_listed g_papers g_length g_besides g_gapFirst g_gapLast g_layings g_first g_behind g_clauses r34.2, ar cI (a 24) 200 r34.1] C hl.1 (tX8_letter (a := a) q34) mL_X8_283 mmX8_letter rfl rfl ⟨Nat.le_of_ble_eq_true rfl, Nat.le_of_ble_eq_true rfl⟩ rfl rfl rfl rfl (Nat.le_of_ble_eq_true rfl) hA hw [0, 1] [] rfl (by decide +kernel) rfl rfl rfl rfl dX8_figures_34 (fun H locs hw34 => ?_)
      refine lv_iload_n hx hb dX8_figures_37 rfl (lv_at hl 2 rfl) ?_
      refine lv_bipush (v := 10) hx hb dX8_figures_38 (by decide) ?_
      obtain ⟨z40, q40, h⟩ := bd h
      refine k_idiv C q40 dX8_figures_40 ?_
      refine lv_istore_n (lv' := [(3, .int z40), (0, .ref (a 0)), (1, .int x1)]) hx hb dX8_figures_41 rfl hl (by decide) rfl (fun ls hl => ?_)
      refine lv_goto (tgt := 20) hx hb dX8_figures_42 (by decide) ?_
      exact ih _ _ _ _ _ _ hw34 (lv_sub hl [1, 2, 0] rfl) h
def fX8_figures (g_draft : Nat → Int32) (g_drafts : Int32) (x1 : Int32) : Option ((Nat → Int32) × Int32) :=
  fX8_figures_2 x1 FU (fun x2_2 =>
    fX8_figures_20 x1 FU (fun x3_20 g_draft_20 g_drafts_20 =>
      some (g_draft_20, g_drafts_20)) x2_2 g_draft g_drafts) 1
set_option maxRecDepth 100000 in
set_option maxHeartbeats 4000000 in
theorem tX8_figures {l : Launch} {D : va_G} {cI : ClassId} {cS : GS} {a : Nat → Nat} {g_undos : Int32} {g_listed : Int32} {g_papers : Int32} {g_length : Int32} {g_besides : Int32} {g_gapFirst : Int32} {g_gapLast : Int32} {g_layings : Int32} {g_first : Int32} {g_behind : Int32} {g_clauses : Int32} {g_draft : Nat → Int32} {g_drafts : Int32} {x1 : Int32} {s0 : (Nat → Int32)} {s1 : Int32} (h : fX8_figures g_draft g_drafts x1 = some (s0, s1)) : CT l D cI cS yX8_figures cX8_figures 4 none rmX8_figures [.ref (a 0), .int x1] [oX8 a g_undos g_listed g_papers g_length g_besides g_gapFirst g_gapLast g_layings g_first g_behind g_clauses g_drafts, ar cI (a 24) 200 g_draft] none [oX8 a g_undos g_listed g_papers g_length g_besides g_gapFirst g_gapLast g_layings g_first g_behind g_clauses s1, ar cI (a 24) 200 s0] := by
  refine CT.of RX8 (by decide) rfl (Nat.le_of_ble_eq_true rfl) (fun p e s m below meth c ls A C hA hl hw => ?_)
  have hx := C.1.1
  have hb := C.1.2.1
  have hl : lv_has ls 4 [(0, .ref (a 0)), (1, .int x1)] := hl
  unfold fX8_figures at h
  refine lv_iconst (v := 1) hx hb dX8_figures_0 (by decide) ?_
  refine lv_istore_n (lv' := [(2, .int 1), (0, .ref (a 0)), (1, .int x1)]) hx hb dX8_figures_1 rfl hl (by decide) rfl (fun ls hl => ?_)
  refine wX8_figures_2 C hA _ (fun x2_2 H locs ls hw2x hl h => ?_) FU _ _ _ _ hw (lv_sub hl [1, 2, 0] rfl) h
  refine lv_iload_n hx hb dX8_figures_18 rfl (lv_at hl 2 rfl) ?_
  refine lv_istore_n (lv' := [(3, .int x2_2), (0, .ref (a 0)), (1, .int x1), (2, .int x2_2)]) hx hb dX8_figures_19 rfl hl (by decide) rfl (fun ls hl => ?_)
  refine wX8_figures_20 C hA _ (fun x3_20 g_draft_20 g_drafts_20 H locs ls hw20x hl h => ?_) FU _ _ _ _ _ _ hw2x (lv_sub hl [1, 2, 0] rfl) h
  cases h
  exact k_vret C hw20x dX8_figures_45
def rmX8_writes : Room := { frames := 2, cells := 0, slots := 0, locals := 44 }
def fX8_writes_61 (g_row : Nat → Int32) (x1 : Int32) (x6 : Int32) : (n : Nat) → (k : Int32 → Int32 → Int32 → Option (Int32 × (Nat → Int32) × Int32)) → Int32 → Int32 → Int32 → Option (Int32 × (Nat → Int32) × Int32)
  | 0, _, _, _, _ => none
  | n + 1, k, x8, x9, x10 =>
    (ld 5058 g_row 0).bind fun y68 =>
    if y68 ≤ x10 then
      k x8 x9 x10
    else
      (fX8_parent g_row x10).bind fun r75 =>
      if r75 = x1 then
        (fX8_firstOf g_row x10).bind fun r88 =>
        (fX8_lastOf g_row x10).bind fun r95 =>
        (fX8_in x6.toInt64 r88.toInt64 r95.toInt64).bind fun r99 =>
        if r99 = 0 then
          (fX8_firstOf g_row x10).bind fun r121 =>
          if r121 ≤ x6 then
            fX8_writes_61 g_row x1 x6 n k x8 x9 (x10 + 1)
          else
            (fX8_firstOf g_row x10).bind fun r134 =>
            (fX8_lesser x8 (r134 - 1)).bind fun r139 =>
            fX8_writes_61 g_row x1 x6 n k r139 x9 (x10 + 1)
        else
          (fX8_lastOf g_row x10).bind fun r108 =>
          (fX8_firstOf g_row x10).bind fun r121 =>
          if r121 ≤ x6 then
            fX8_writes_61 g_row x1 x6 n k x8 r108 (x10 + 1)
          else
            (fX8_firstOf g_row x10).bind fun r134 =>
            (fX8_lesser x8 (r134 - 1)).bind fun r139 =>
            fX8_writes_61 g_row x1 x6 n k r139 r108 (x10 + 1)
      else
        fX8_writes_61 g_row x1 x6 n k x8 x9 (x10 + 1)
set_option maxRecDepth 100000 in
set_option maxHeartbeats 4000000 in
theorem wX8_writes_61 {p : Program} {l : Launch} {e : Env} {s : State} {m : MethodId} {args : Array Value} {below : List Frame} {meth : Method} {c : Code} {D : va_G} {cI : ClassId} {cS : GS} {A : Nat → Prop} {a : Nat → Nat} {g_row : Nat → Int32} {g_undos : Int32} {g_listed : Int32} {g_papers : Int32} {g_length : Int32} {g_besides : Int32} {g_gapFirst : Int32} {g_gapLast : Int32} {g_layings : Int32} {g_first : Int32} {g_behind : Int32} {g_clauses : Int32} {g_draft : Nat → Int32} {g_drafts : Int32} {x1 : Int32} {x5 : Int32} {x6 : Int32} {x7 : Int32} (C : MC p s m args meth c D cI cS A RX8 cX8_writes 11 (some .boolean)) (hA : ∀ q, s.heap.size ≤ q → A q) {s0 : Int32} {s1 : (Nat → Int32)} {s2 : Int32} (k : Int32 → Int32 → Int32 → Option (Int32 × (Nat → Int32) × Int32)) (hk : ∀ (x8 : Int32) (x9 : Int32) (x10 : Int32) (H : Heap) (locs : List Loc) (ls : Array Slot), Wd D A s.heap H locs [oX8 a g_undos g_listed g_papers g_length g_besides g_gapFirst g_gapLast g_layings g_first g_behind g_clauses g_drafts, ar cI (a 1) 5058 g_row, ar cI (a 24) 200 g_draft] → lv_has ls 11 [(0, .ref (a 0)), (1, .int x1), (5, .int x5), (6, .int x6), (7, .int x7), (8, .int x8), (9, .int x9), (10, .int x10)] → k x8 x9 x10 = some (s0, s1, s2) → W p l e rmX8_writes s m args below meth c H locs 0 0 (KQ D A below args s (some (.int s0)) [oX8 a g_undos g_listed g_papers g_length g_besides g_gapFirst g_gapLast g_layings g_first g_behind g_clauses s2, ar cI (a 1) 5058 g_row, ar cI (a 24) 200 s1]) (F0 m 155 ls [])) :
    ∀ (n : Nat) (x8 : Int32) (x9 : Int32) (x10 : Int32) (H : Heap) (locs : List Loc) (ls : Array Slot), Wd D A s.heap H locs [oX8 a g_undos g_listed g_papers g_length g_besides g_gapFirst g_gapLast g_layings g_first g_behind g_clauses g_drafts, ar cI (a 1) 5058 g_row, ar cI (a 24) 200 g_draft] → lv_has ls 11 [(0, .ref (a 0)), (1, .int x1), (5, .int x5), (6, .int x6), (7, .int x7), (8, .int x8), (9, .int x9), (10, .int x10)] → fX8_writes_61 g_row x1 x6 n k x8 x9 x10 = some (s0, s1, s2) → W p l e rmX8_writes s m args below meth c H locs 0 0 (KQ D A below args s (some (.int s0)) [oX8 a g_undos g_listed g_papers g_length g_besides g_gapFirst g_gapLast g_layings g_first g_behind g_clauses s2, ar cI (a 1) 5058 g_row, ar cI (a 24) 200 s1]) (F0 m 61 ls []) := by
  have hx := C.1.1
  have hb := C.1.2.1
  intro n
  induction n with
  | zero =>
    intro x8 x9 x10 H locs ls hw hl h
    rw [fX8_writes_61] at h
    cases h
  | succ n ih =>
    intro x8 x9 x10 H locs ls hw hl h
    rw [fX8_writes_61] at h
    refine lv_iload hx hb dX8_writes_61 (lv_at hl 7 rfl) ?_
    refine lv_aload_n hx hb dX8_writes_63 rfl (lv_at hl 0 rfl) ?_
    refine k_get C inT_X8 hw 0 rfl rfl 0 (by decide) mF_X8_7 rfl dX8_writes_64 ?_
    refine lv_iconst (v := 0) hx hb dX8_writes_67 (by decide) ?_
    obtain ⟨y68, q68, h⟩ := bd h
    refine k_iald C hw 1 rfl q68 dX8_writes_68 ?_
    refine lv_icmp_ge (tgt := 155) hx hb dX8_writes_69 (by decide) (fun c69 => ?_) (fun c69 => ?_)
    · replace h := br_t' h c69
      exact hk _ _ _ _ _ _ hw (lv_sub hl [0, 1, 2, 3, 4, 5, 6, 7] rfl) h
    · replace h := br_f' h c69
      refine lv_aload_n hx hb dX8_writes_72 rfl (lv_at hl 0 rfl) ?_
      refine lv_iload hx hb dX8_writes_73 (lv_at hl 7 rfl) ?_
      obtain ⟨r75, q75, h⟩ := bd h
      refine k_callV (nC := 3) [oX8 a g_undos g_listed g_papers g_length g_besides g_gapFirst g_gapLast g_layings g_first g_behind g_clauses g_drafts, ar cI (a 1) 5058 g_row, ar cI (a 24) 200 g_draft] C hl.1 (tX8_parent (a := a) q75) mL_X8_100 mmX8_parent rfl rfl ⟨Nat.le_of_ble_eq_true rfl, Nat.le_of_ble_eq_true rfl⟩ rfl rfl rfl rfl (Nat.le_of_ble_eq_true rfl) hA hw [0, 1] [2] rfl (by decide +kernel) rfl rfl rfl rfl dX8_writes_75 (fun H locs hw75 => ?_)
      refine lv_iload_n hx hb dX8_writes_78 rfl (lv_at hl 1 rfl) ?_
      refine lv_icmp_ne (tgt := 149) hx hb dX8_writes_79 (by decide) (fun c79 => ?_) (fun c79 => ?_)
      · replace h := br_f' h c79
        refine lv_iinc (v := (x10 + 1)) (lv' := [(10, .int (x10 + 1)), (0, .ref (a 0)), (1, .int x1), (5, .int x5), (6, .int x6), (7, .int x7), (8, .int x8), (9, .int x9)]) hx hb dX8_writes_149 hl (k := 7) rfl rfl (by decide) rfl (fun ls hl => ?_)
        refine lv_goto (tgt := 61) hx hb dX8_writes_152 (by decide) ?_
        exact ih _ _ _ _ _ _ hw75 (lv_sub hl [1, 2, 3, 4, 5, 6, 7, 0] rfl) h
      · replace h := br_t' h c79
        refine lv_iload hx hb dX8_writes_82 (lv_at hl 3 rfl) ?_
        refine lv_i2l (v := x6.toInt64) hx hb dX8_writes_84 rfl ?_
        refine lv_aload_n hx hb dX8_writes_85 rfl (lv_at hl 0 rfl) ?_
        refine lv_iload hx hb dX8_writes_86 (lv_at hl 7 rfl) ?_
        obtain ⟨r88, q88, h⟩ := bd h
        refine k_callV (nC := 3) [oX8 a g_undos g_listed g_papers g_length g_besides g_gapFirst g_gapLast g_layings g_first g_behind g_clauses g_drafts, ar cI (a 1) 5058 g_row, ar cI (a 24) 200 g_draft] C hl.1 (tX8_firstOf (a := a) q88) mL_X8_93 mmX8_firstOf rfl rfl ⟨Nat.le_of_ble_eq_true rfl, Nat.le_of_ble_eq_true rfl⟩ rfl rfl rfl rfl (Nat.le_of_ble_eq_true rfl) hA hw75 [0, 1] [2] rfl (by decide +kernel) rfl rfl rfl rfl dX8_writes_88 (fun H locs hw88 => ?_)
        refine lv_i2l (v := r88.toInt64) hx hb dX8_writes_91 rfl ?_
        refine lv_aload_n hx hb dX8_writes_92 rfl (lv_at hl 0 rfl) ?_
        refine lv_iload hx hb dX8_writes_93 (lv_at hl 7 rfl) ?_
        obtain ⟨r95, q95, h⟩ := bd h
        refine k_callV (nC := 3) [oX8 a g_undos g_listed g_papers g_length g_besides g_gapFirst g_gapLast g_layings g_first g_behind g_clauses g_drafts, ar cI (a 1) 5058 g_row, ar cI (a 24) 200 g_draft] C hl.1 (tX8_lastOf (a := a) q95) mL_X8_97 mmX8_lastOf rfl rfl ⟨Nat.le_of_ble_eq_true rfl, Nat.le_of_ble_eq_true rfl⟩ rfl rfl rfl rfl (Nat.le_of_ble_eq_true rfl) hA hw88 [0, 1] [2] rfl (by decide +kernel) rfl rfl rfl rfl dX8_writes_95 (fun H locs hw95 => ?_)
        refine lv_i2l (v := r95.toInt64) hx hb dX8_writes_98 rfl ?_
        obtain ⟨r99, q99, h⟩ := bd h
        refine k_callS (nC := 3) [oX8 a g_undos g_listed g_papers g_length g_besides g_gapFirst g_gapLast g_layings g_first g_behind g_clauses g_drafts, ar cI (a 1) 5058 g_row, ar cI (a 24) 200 g_draft] C hl.1 (tX8_in q99) mL_X8_58 mmX8_in rfl rfl ⟨Nat.le_of_ble_eq_true rfl, Nat.le_of_ble_eq_true rfl⟩ rfl rfl (Nat.le_of_ble_eq_true rfl) hA hw95 [] [0, 1, 2] rfl (by decide +kernel) rfl rfl rfl rfl dX8_writes_99 (fun H locs hw99 => ?_)
        refine lv_if_eq (tgt := 114) hx hb dX8_writes_102 (by decide) (fun c102 => ?_) (fun c102 => ?_)
        · replace h := br_t' h c102
          refine lv_iload hx hb dX8_writes_114 (lv_at hl 6 rfl) ?_
          refine lv_istore (lv' := [(9, .int x9), (0, .ref (a 0)), (1, .int x1), (5, .int x5), (6, .int x6), (7, .int x7), (8, .int x8), (10, .int x10)]) hx hb dX8_writes_116 hl (by decide) rfl (fun ls hl => ?_)
          refine lv_aload_n hx hb dX8_writes_118 rfl (lv_at hl 1 rfl) ?_
          refine lv_iload hx hb dX8_writes_119 (lv_at hl 7 rfl) ?_
          obtain ⟨r121, q121, h⟩ := bd h
          refine k_callV (nC := 3) [oX8 a g_undos g_listed g_papers g_length g_besides g_gapFirst g_gapLast g_layings g_first g_behind g_clauses g_drafts, ar cI (a 1) 5058 g_row, ar cI (a 24) 200 g_draft] C hl.1 (tX8_firstOf (a := a) q121) mL_X8_93 mmX8_firstOf rfl rfl ⟨Nat.le_of_ble_eq_true rfl, Nat.le_of_ble_eq_true rfl⟩ rfl rfl rfl rfl (Nat.le_of_ble_eq_true rfl) hA hw99 [0, 1] [2] rfl (by decide +kernel) rfl rfl rfl rfl dX8_writes_121 (fun H locs hw121 => ?_)
          refine lv_iload hx hb dX8_writes_124 (lv_at hl 4 rfl) ?_
          refine lv_icmp_le (tgt := 145) hx hb dX8_writes_126 (by decide) (fun c126 => ?_) (fun c126 => ?_)
          · replace h := br_t' h c126
            refine lv_iload hx hb dX8_writes_145 (lv_at hl 6 rfl) ?_
            refine lv_istore (lv' := [(8, .int x8), (9, .int x9), (0, .ref (a 0)), (1, .int x1), (5, .int x5), (6, .int x6), (7, .int x7), (10, .int x10)]) hx hb dX8_writes_147 hl (by decide) rfl (fun ls hl => ?_)
            refine lv_iinc (v := (x10 + 1)) (lv' := [(10, .int (x10 + 1)), (8, .int x8), (9, .int x9), (0, .ref (a 0)), (1, .int x1), (5, .int x5), (6, .int x6), (7, .int x7)]) hx hb dX8_writes_149 hl (k := 7) rfl rfl (by decide) rfl (fun ls hl => ?_)
            refine lv_goto (tgt := 61) hx hb dX8_writes_152 (by decide) ?_
            exact ih _ _ _ _ _ _ hw121 (lv_sub hl [3, 4, 5, 6, 7, 1, 2, 0] rfl) h
          · replace h := br_f' h c126
            refine lv_iload hx hb dX8_writes_129 (lv_at hl 6 rfl) ?_
            refine lv_aload_n hx hb dX8_writes_131 rfl (lv_at hl 1 rfl) ?_
            refine lv_iload hx hb dX8_writes_132 (lv_at hl 7 rfl) ?_
            obtain ⟨r134, q134, h⟩ := bd h
            refine k_callV (nC := 3) [oX8 a g_undos g_listed g_papers g_length g_besides g_gapFirst g_gapLast g_layings g_first g_behind g_clauses g_drafts, ar cI (a 1) 5058 g_row, ar cI (a 24) 200 g_draft] C hl.1 (tX8_firstOf (a := a) q134) mL_X8_93 mmX8_firstOf rfl rfl ⟨Nat.le_of_ble_eq_true rfl, Nat.le_of_ble_eq_true rfl⟩ rfl rfl rfl rfl (Nat.le_of_ble_eq_true rfl) hA hw121 [0, 1] [2] rfl (by decide +kernel) rfl rfl rfl rfl dX8_writes_134 (fun H locs hw134 => ?_)
            refine lv_iconst (v := 1) hx hb dX8_writes_137 (by decide) ?_
            refine lv_isub hx hb dX8_writes_138 ?_
            obtain ⟨r139, q139, h⟩ := bd h
            refine k_callS (nC := 3) [oX8 a g_undos g_listed g_papers g_length g_besides g_gapFirst g_gapLast g_layings g_first g_behind g_clauses g_drafts, ar cI (a 1) 5058 g_row, ar cI (a 24) 200 g_draft] C hl.1 (tX8_lesser q139) mL_X8_68 mmX8_lesser rfl rfl ⟨Nat.le_of_ble_eq_true rfl, Nat.le_of_ble_eq_true rfl⟩ rfl rfl (Nat.le_of_ble_eq_true rfl) hA hw134 [] [0, 1, 2] rfl (by decide +kernel) rfl rfl rfl rfl dX8_writes_139 (fun H locs hw139 => ?_)
            refine lv_goto (tgt := 147) hx hb dX8_writes_142 (by decide) ?_
            refine lv_istore (lv' := [(8, .int r139), (9, .int x9), (0, .ref (a 0)), (1, .int x1), (5, .int x5), (6, .int x6), (7, .int x7), (10, .int x10)]) hx hb dX8_writes_147 hl (by decide) rfl (fun ls hl => ?_)
            refine lv_iinc (v := (x10 + 1)) (lv' := [(10, .int (x10 + 1)), (8, .int r139), (9, .int x9), (0, .ref (a 0)), (1, .int x1), (5, .int x5), (6, .int x6), (7, .int x7)]) hx hb dX8_writes_149 hl (k := 7) rfl rfl (by decide) rfl (fun ls hl => ?_)
            refine lv_goto (tgt := 61) hx hb dX8_writes_152 (by decide) ?_
            exact ih _ _ _ _ _ _ hw139 (lv_sub hl [3, 4, 5, 6, 7, 1, 2, 0] rfl) h
        · replace h := br_f' h c102
          refine lv_aload_n hx hb dX8_writes_105 rfl (lv_at hl 0 rfl) ?_
          refine lv_iload hx hb dX8_writes_106 (lv_at hl 7 rfl) ?_
          obtain ⟨r108, q108, h⟩ := bd h
          refine k_callV (nC := 3) [oX8 a g_undos g_listed g_papers g_length g_besides g_gapFirst g_gapLast g_layings g_first g_behind g_clauses g_drafts, ar cI (a 1) 5058 g_row, ar cI (a 24) 200 g_draft] C hl.1 (tX8_lastOf (a := a) q108) mL_X8_97 mmX8_lastOf rfl rfl ⟨Nat.le_of_ble_eq_true rfl, Nat.le_of_ble_eq_true rfl⟩ rfl rfl rfl rfl (Nat.le_of_ble_eq_true rfl) hA hw99 [0, 1] [2] rfl (by decide +kernel) rfl rfl rfl rfl dX8_writes_108 (fun H locs hw108 => ?_)
          refine lv_goto (tgt := 116) hx hb dX8_writes_111 (by decide) ?_
          refine lv_istore (lv' := [(9, .int r108), (0, .ref (a 0)), (1, .int x1), (5, .int x5), (6, .int x6), (7, .int x7), (8, .int x8), (10, .int x10)]) hx hb dX8_writes_116 hl (by decide) rfl (fun ls hl => ?_)
          refine lv_aload_n hx hb dX8_writes_118 rfl (lv_at hl 1 rfl) ?_
          refine lv_iload hx hb dX8_writes_119 (lv_at hl 7 rfl) ?_
          obtain ⟨r121, q121, h⟩ := bd h
          refine k_callV (nC := 3) [oX8 a g_undos g_listed g_papers g_length g_besides g_gapFirst g_gapLast g_layings g_first g_behind g_clauses g_drafts, ar cI (a 1) 5058 g_row, ar cI (a 24) 200 g_draft] C hl.1 (tX8_firstOf (a := a) q121) mL_X8_93 mmX8_firstOf rfl rfl ⟨Nat.le_of_ble_eq_true rfl, Nat.le_of_ble_eq_true rfl⟩ rfl rfl rfl rfl (Nat.le_of_ble_eq_true rfl) hA hw108 [0, 1] [2] rfl (by decide +kernel) rfl rfl rfl rfl dX8_writes_121 (fun H locs hw121 => ?_)
          refine lv_iload hx hb dX8_writes_124 (lv_at hl 4 rfl) ?_
          refine lv_icmp_le (tgt := 145) hx hb dX8_writes_126 (by decide) (fun c126 => ?_) (fun c126 => ?_)
          · replace h := br_t' h c126
            refine lv_iload hx hb dX8_writes_145 (lv_at hl 6 rfl) ?_
            refine lv_istore (lv' := [(8, .int x8), (9, .int r108), (0, .ref (a 0)), (1, .int x1), (5, .int x5), (6, .int x6), (7, .int x7), (10, .int x10)]) hx hb dX8_writes_147 hl (by decide) rfl (fun ls hl => ?_)
            refine lv_iinc (v := (x10 + 1)) (lv' := [(10, .int (x10 + 1)), (8, .int x8), (9, .int r108), (0, .ref (a 0)), (1, .int x1), (5, .int x5), (6, .int x6), (7, .int x7)]) hx hb dX8_writes_149 hl (k := 7) rfl rfl (by decide) rfl (fun ls hl => ?_)
            refine lv_goto (tgt := 61) hx hb dX8_writes_152 (by decide) ?_
            exact ih _ _ _ _ _ _ hw121 (lv_sub hl [3, 4, 5, 6, 7, 1, 2, 0] rfl) h
          · replace h := br_f' h c126
            refine lv_iload hx hb dX8_writes_129 (lv_at hl 6 rfl) ?_
            refine lv_aload_n hx hb dX8_writes_131 rfl (lv_at hl 1 rfl) ?_
            refine lv_iload hx hb dX8_writes_132 (lv_at hl 7 rfl) ?_
            obtain ⟨r134, q134, h⟩ := bd h
            refine k_callV (nC := 3) [oX8 a g_undos g_listed g_papers g_length g_besides g_gapFirst g_gapLast g_layings g_first g_behind g_clauses g_drafts, ar cI (a 1) 5058 g_row, ar cI (a 24) 200 g_draft] C hl.1 (tX8_firstOf (a := a) q134) mL_X8_93 mmX8_firstOf rfl rfl ⟨Nat.le_of_ble_eq_true rfl, Nat.le_of_ble_eq_true rfl⟩ rfl rfl rfl rfl (Nat.le_of_ble_eq_true rfl) hA hw121 [0, 1] [2] rfl (by decide +kernel) rfl rfl rfl rfl dX8_writes_134 (fun H locs hw134 => ?_)
            refine lv_iconst (v := 1) hx hb dX8_writes_137 (by decide) ?_
            refine lv_isub hx hb dX8_writes_138 ?_
            obtain ⟨r139, q139, h⟩ := bd h
            refine k_callS (nC := 3) [oX8 a g_undos g_listed g_papers g_length g_besides g_gapFirst g_gapLast g_layings g_first g_behind g_clauses g_drafts, ar cI (a 1) 5058 g_row, ar cI (a 24) 200 g_draft] C hl.1 (tX8_lesser q139) mL_X8_68 mmX8_lesser rfl rfl ⟨Nat.le_of_ble_eq_true rfl, Nat.le_of_ble_eq_true rfl⟩ rfl rfl (Nat.le_of_ble_eq_true rfl) hA hw134 [] [0, 1, 2] rfl (by decide +kernel) rfl rfl rfl rfl dX8_writes_139 (fun H locs hw139 => ?_)
            refine lv_goto (tgt := 147) hx hb dX8_writes_142 (by decide) ?_
            refine lv_istore (lv' := [(8, .int r139), (9, .int r108), (0, .ref (a 0)), (1, .int x1), (5, .int x5), (6, .int x6), (7, .int x7), (10, .int x10)]) hx hb dX8_writes_147 hl (by decide) rfl (fun ls hl => ?_)
            refine lv_iinc (v := (x10 + 1)) (lv' := [(10, .int (x10 + 1)), (8, .int r139), (9, .int r108), (0, .ref (a 0)), (1, .int x1), (5, .int x5), (6, .int x6), (7, .int x7)]) hx hb dX8_writes_149 hl (k := 7) rfl rfl (by decide) rfl (fun ls hl => ?_)
            refine lv_goto (tgt := 61) hx hb dX8_writes_152 (by decide) ?_
            exact ih _ _ _ _ _ _ hw139 (lv_sub hl [3, 4, 5, 6, 7, 1, 2, 0] rfl) h
def fX8_writes_44 (g_row : Nat → Int32) (x1 : Int32) (x7 : Int32) : (n : Nat) → (k : Int32 → Int32 → (Nat → Int32) → Int32 → Option (Int32 × (Nat → Int32) × Int32)) → Int32 → Int32 → (Nat → Int32) → Int32 → Option (Int32 × (Nat → Int32) × Int32)
  | 0, _, _, _, _, _ => none
  | n + 1, k, x5, x6, g_draft, g_drafts =>
    if x7 < x6 then
      k x5 x6 g_draft g_drafts
    else
      fX8_writes_61 g_row x1 x6 FU (fun x8_61 x9_61 x10_61 =>
        if x9_61 = (-1) then
          if x5 = 0 then
            (fX8_figures g_draft g_drafts x6).bind fun r178 =>
            if x8_61 ≤ x6 then
              if x9_61 = (-1) then
                fX8_writes_44 g_row x1 x7 n k 1 (x8_61 + 1) r178.1 r178.2
              else
                fX8_writes_44 g_row x1 x7 n k 1 (x9_61 + 1) r178.1 r178.2
            else
              (fX8_letter r178.1 r178.2 45).bind fun r191 =>
              (fX8_figures r191.1 r191.2 x8_61).bind fun r197 =>
              if x9_61 = (-1) then
                fX8_writes_44 g_row x1 x7 n k 1 (x8_61 + 1) r197.1 r197.2
              else
                fX8_writes_44 g_row x1 x7 n k 1 (x9_61 + 1) r197.1 r197.2
          else
            (fX8_letter g_draft g_drafts 44).bind fun r169 =>
            (fX8_figures r169.1 r169.2 x6).bind fun r178 =>
            if x8_61 ≤ x6 then
              if x9_61 = (-1) then
                fX8_writes_44 g_row x1 x7 n k 1 (x8_61 + 1) r178.1 r178.2
              else
                fX8_writes_44 g_row x1 x7 n k 1 (x9_61 + 1) r178.1 r178.2
            else
              (fX8_letter r178.1 r178.2 45).bind fun r191 =>
              (fX8_figures r191.1 r191.2 x8_61).bind fun r197 =>
              if x9_61 = (-1) then
                fX8_writes_44 g_row x1 x7 n k 1 (x8_61 + 1) r197.1 r197.2
              else
                fX8_writes_44 g_row x1 x7 n k 1 (x9_61 + 1) r197.1 r197.2
        else
          if x9_61 = (-1) then
            fX8_writes_44 g_row x1 x7 n k x5 (x8_61 + 1) g_draft g_drafts
          else
            fX8_writes_44 g_row x1 x7 n k x5 (x9_61 + 1) g_draft g_drafts) x7 (-1) 0
set_option maxRecDepth 100000 in
set_option maxHeartbeats 4000000 in
theorem wX8_writes_44 {p : Program} {l : Launch} {e : Env} {s : State} {m : MethodId} {args : Array Value} {below : List Frame} {meth : Method} {c : Code} {D : va_G} {cI : ClassId} {cS : GS} {A : Nat → Prop} {a : Nat → Nat} {g_row : Nat → Int32} {g_undos : Int32} {g_listed : Int32} {g_papers : Int32} {g_length : Int32} {g_besides : Int32} {g_gapFirst : Int32} {g_gapLast : Int32} {g_layings : Int32} {g_first : Int32} {g_behind : Int32} {g_clauses : Int32} {x1 : Int32} {x7 : Int32} (C : MC p s m args meth c D cI cS A RX8 cX8_writes 11 (some .boolean)) (hA : ∀ q, s.heap.size ≤ q → A q) {s0 : Int32} {s1 : (Nat → Int32)} {s2 : Int32} (k : Int32 → Int32 → (Nat → Int32) → Int32 → Option (Int32 × (Nat → Int32) × Int32)) (hk : ∀ (x5 : Int32) (x6 : Int32) (g_draft : Nat → Int32) (g_drafts : Int32) (H : Heap) (locs : List Loc) (ls : Array Slot), Wd D A s.heap H locs [oX8 a g_undos g_listed g_papers g_length g_besides g_gapFirst g_gapLast g_layings g_first g_behind g_clauses g_drafts, ar cI (a 1) 5058 g_row, ar cI (a 24) 200 g_draft] → lv_has ls 11 [(0, .ref (a 0)), (1, .int x1), (5, .int x5), (6, .int x6), (7, .int x7)] → k x5 x6 g_draft g_drafts = some (s0, s1, s2) → W p l e rmX8_writes s m args below meth c H locs 0 0 (KQ D A below args s (some (.int s0)) [oX8 a g_undos g_listed g_papers g_length g_besides g_gapFirst g_gapLast g_layings g_first g_behind g_clauses s2, ar cI (a 1) 5058 g_row, ar cI (a 24) 200 s1]) (F0 m 222 ls [])) :
    ∀ (n : Nat) (x5 : Int32) (x6 : Int32) (g_draft : Nat → Int32) (g_drafts : Int32) (H : Heap) (locs : List Loc) (ls : Array Slot), Wd D A s.heap H locs [oX8 a g_undos g_listed g_papers g_length g_besides g_gapFirst g_gapLast g_layings g_first g_behind g_clauses g_drafts, ar cI (a 1) 5058 g_row, ar cI (a 24) 200 g_draft] → lv_has ls 11 [(0, .ref (a 0)), (1, .int x1), (5, .int x5), (6, .int x6), (7, .int x7)] → fX8_writes_44 g_row x1 x7 n k x5 x6 g_draft g_drafts = some (s0, s1, s2) → W p l e rmX8_writes s m args below meth c H locs 0 0 (KQ D A below args s (some (.int s0)) [oX8 a g_undos g_listed g_papers g_length g_besides g_gapFirst g_gapLast g_layings g_first g_behind g_clauses s2, ar cI (a 1) 5058 g_row, ar cI (a 24) 200 s1]) (F0 m 44 ls []) := by
  have hx := C.1.1
  have hb := C.1.2.1
  intro n
  induction n with
  | zero =>
    intro x5 x6 g_draft g_drafts H locs ls hw hl h
    rw [fX8_writes_44] at h
    cases h
  | succ n ih =>
    intro x5 x6 g_draft g_drafts H locs ls hw hl h
    rw [fX8_writes_44] at h
    refine lv_iload hx hb dX8_writes_44 (lv_at hl 3 rfl) ?_
    refine lv_iload hx hb dX8_writes_46 (lv_at hl 4 rfl) ?_
    refine lv_icmp_gt (tgt := 222) hx hb dX8_writes_48 (by decide) (fun c48 => ?_) (fun c48 => ?_)
    · replace h := br_t' h c48
      exact hk _ _ _ _ _ _ _ hw (lv_sub hl [0, 1, 2, 3, 4] rfl) h
    · replace h := br_f' h c48
      refine lv_iload hx hb dX8_writes_51 (lv_at hl 4 rfl) ?_
      refine lv_istore (lv' := [(8, .int x7), (0, .ref (a 0)), (1, .int x1), (5, .int x5), (6, .int x6), (7, .int x7)]) hx hb dX8_writes_53 hl (by decide) rfl (fun ls hl => ?_)
      refine lv_iconst (v := (-1)) hx hb dX8_writes_55 (by decide) ?_
      refine lv_istore (lv' := [(9, .int (-1)), (8, .int x7), (0, .ref (a 0)), (1, .int x1), (5, .int x5), (6, .int x6), (7, .int x7)]) hx hb dX8_writes_56 hl (by decide) rfl (fun ls hl => ?_)
      refine lv_iconst (v := 0) hx hb dX8_writes_58 (by decide) ?_
      refine lv_istore (lv' := [(10, .int 0), (9, .int (-1)), (8, .int x7), (0, .ref (a 0)), (1, .int x1), (5, .int x5), (6, .int x6), (7, .int x7)]) hx hb dX8_writes_59 hl (by decide) rfl (fun ls hl => ?_)
      refine wX8_writes_61 C hA _ (fun x8_61 x9_61 x10_61 H locs ls hw61x hl h => ?_) FU _ _ _ _ _ _ hw (lv_sub hl [3, 4, 5, 6, 7, 2, 1, 0] rfl) h
      refine lv_iload hx hb dX8_writes_155 (lv_at hl 6 rfl) ?_
      refine lv_iconst (v := (-1)) hx hb dX8_writes_157 (by decide) ?_
      refine lv_icmp_ne (tgt := 200) hx hb dX8_writes_158 (by decide) (fun c158 => ?_) (fun c158 => ?_)
      · replace h := br_f' h c158
        refine lv_iload hx hb dX8_writes_200 (lv_at hl 6 rfl) ?_
        refine lv_iconst (v := (-1)) hx hb dX8_writes_202 (by decide) ?_
        refine lv_icmp_ne (tgt := 213) hx hb dX8_writes_203 (by decide) (fun c203 => ?_) (fun c203 => ?_)
        · replace h := br_f' h c203
          refine lv_iload hx hb dX8_writes_213 (lv_at hl 6 rfl) ?_
          refine lv_iconst (v := 1) hx hb dX8_writes_215 (by decide) ?_
          refine lv_iadd hx hb dX8_writes_216 ?_
          refine lv_istore (lv' := [(6, .int (x9_61 + 1)), (0, .ref (a 0)), (1, .int x1), (5, .int x5), (7, .int x7), (8, .int x8_61), (9, .int x9_61), (10, .int x10_61)]) hx hb dX8_writes_217 hl (by decide) rfl (fun ls hl => ?_)
          refine lv_goto (tgt := 44) hx hb dX8_writes_219 (by decide) ?_
          exact ih _ _ _ _ _ _ _ hw61x (lv_sub hl [1, 2, 3, 0, 4] rfl) h
        · replace h := br_t' h c203
          refine lv_iload hx hb dX8_writes_206 (lv_at hl 5 rfl) ?_
          refine lv_iconst (v := 1) hx hb dX8_writes_208 (by decide) ?_
          refine lv_iadd hx hb dX8_writes_209 ?_
          refine lv_goto (tgt := 217) hx hb dX8_writes_210 (by decide) ?_
          refine lv_istore (lv' := [(6, .int (x8_61 + 1)), (0, .ref (a 0)), (1, .int x1), (5, .int x5), (7, .int x7), (8, .int x8_61), (9, .int x9_61), (10, .int x10_61)]) hx hb dX8_writes_217 hl (by decide) rfl (fun ls hl => ?_)
          refine lv_goto (tgt := 44) hx hb dX8_writes_219 (by decide) ?_
          exact ih _ _ _ _ _ _ _ hw61x (lv_sub hl [1, 2, 3, 0, 4] rfl) h
      · replace h := br_t' h c158
        refine lv_iload hx hb dX8_writes_161 (lv_at hl 2 rfl) ?_
        refine lv_if_eq (tgt := 172) hx hb dX8_writes_163 (by decide) (fun c163 => ?_) (fun c163 => ?_)
        · replace h := br_t' h c163
          refine lv_iconst (v := 1) hx hb dX8_writes_172 (by decide) ?_
          refine lv_istore (lv' := [(5, .int 1), (0, .ref (a 0)), (1, .int x1), (6, .int x6), (7, .int x7), (8, .int x8_61), (9, .int x9_61), (10, .int x10_61)]) hx hb dX8_writes_173 hl (by decide) rfl (fun ls hl => ?_)
          refine lv_aload_n hx hb dX8_writes_175 rfl (lv_at hl 1 rfl) ?_
          refine lv_iload hx hb dX8_writes_176 (lv_at hl 3 rfl) ?_
          obtain ⟨r178, q178, h⟩ := bd h
          refine k_callV (nC := 3) [oX8 a g_undos g_listed g_papers g_length g_besides g_gapFirst g_gapLast g_layings g_first g_behind g_clauses r178.2, ar cI (a 1) 5058 g_row, ar cI (a 24) 200 r178.1] C hl.1 (tX8_figures (a := a) q178) mL_X8_286 mmX8_figures rfl rfl ⟨Nat.le_of_ble_eq_true rfl, Nat.le_of_ble_eq_true rfl⟩ rfl rfl rfl rfl (Nat.le_of_ble_eq_true rfl) hA hw61x [0, 2] [1] rfl (by decide +kernel) rfl rfl rfl rfl dX8_writes_178 (fun H locs hw178 => ?_)
          refine lv_iload hx hb dX8_writes_181 (lv_at hl 5 rfl) ?_
          refine lv_iload hx hb dX8_writes_183 (lv_at hl 3 rfl) ?_
          refine lv_icmp_le (tgt := 200) hx hb dX8_writes_185 (by decide) (fun c185 => ?_) (fun c185 => ?_)
          · replace h := br_t' h c185
            refine lv_iload hx hb dX8_writes_200 (lv_at hl 6 rfl) ?_
            refine lv_iconst (v := (-1)) hx hb dX8_writes_202 (by decide) ?_
            refine lv_icmp_ne (tgt := 213) hx hb dX8_writes_203 (by decide) (fun c203 => ?_) (fun c203 => ?_)
            · replace h := br_f' h c203
              refine lv_iload hx hb dX8_writes_213 (lv_at hl 6 rfl) ?_
              refine lv_iconst (v := 1) hx hb dX8_writes_215 (by decide) ?_
              refine lv_iadd hx hb dX8_writes_216 ?_
              refine lv_istore (lv' := [(6, .int (x9_61 + 1)), (5, .int 1), (0, .ref (a 0)), (1, .int x1), (7, .int x7), (8, .int x8_61), (9, .int x9_61), (10, .int x10_61)]) hx hb dX8_writes_217 hl (by decide) rfl (fun ls hl => ?_)
              refine lv_goto (tgt := 44) hx hb dX8_writes_219 (by decide) ?_
              exact ih _ _ _ _ _ _ _ hw178 (lv_sub hl [2, 3, 1, 0, 4] rfl) h
            · replace h := br_t' h c203
              refine lv_iload hx hb dX8_writes_206 (lv_at hl 5 rfl) ?_
              refine lv_iconst (v := 1) hx hb dX8_writes_208 (by decide) ?_
              refine lv_iadd hx hb dX8_writes_209 ?_
              refine lv_goto (tgt := 217) hx hb dX8_writes_210 (by decide) ?_
              refine lv_istore (lv' := [(6, .int (x8_61 + 1)), (5, .int 1), (0, .ref (a 0)), (1, .int x1), (7, .int x7), (8, .int x8_61), (9, .int x9_61), (10, .int x10_61)]) hx hb dX8_writes_217 hl (by decide) rfl (fun ls hl => ?_)
              refine lv_goto (tgt := 44) hx hb dX8_writes_219 (by decide) ?_
              exact ih _ _ _ _ _ _ _ hw178 (lv_sub hl [2, 3, 1, 0, 4] rfl) h
          · replace h := br_f' h c185
            refine lv_aload_n hx hb dX8_writes_188 rfl (lv_at hl 1 rfl) ?_
            refine lv_bipush (v := 45) hx hb dX8_writes_189 (by decide) ?_
            obtain ⟨r191, q191, h⟩ := bd h
            refine k_callV (nC := 3) [oX8 a g_undos g_listed g_papers g_length g_besides g_gapFirst g_gapLast g_layings g_first g_behind g_clauses r191.2, ar cI (a 1) 5058 g_row, ar cI (a 24) 200 r191.1] C hl.1 (tX8_letter (a := a) q191) mL_X8_283 mmX8_letter rfl rfl ⟨Nat.le_of_ble_eq_true rfl, Nat.le_of_ble_eq_true rfl⟩ rfl rfl rfl rfl (Nat.le_of_ble_eq_true rfl) hA hw178 [0, 2] [1] rfl (by decide +kernel) rfl rfl rfl rfl dX8_writes_191 (fun H locs hw191 => ?_)
            refine lv_aload_n hx hb dX8_writes_194 rfl (lv_at hl 1 rfl) ?_
            refine lv_iload hx hb dX8_writes_195 (lv_at hl 5 rfl) ?_
            obtain ⟨r197, q197, h⟩ := bd h
            refine k_callV (nC := 3) [oX8 a g_undos g_listed g_papers g_length g_besides g_gapFirst g_gapLast g_layings g_first g_behind g_clauses r197.2, ar cI (a 1) 5058 g_row, ar cI (a 24) 200 r197.1] C hl.1 (tX8_figures (a := a) q197) mL_X8_286 mmX8_figures rfl rfl ⟨Nat.le_of_ble_eq_true rfl, Nat.le_of_ble_eq_true rfl⟩ rfl rfl rfl rfl (Nat.le_of_ble_eq_true rfl) hA hw191 [0, 2] [1] rfl (by decide +kernel) rfl rfl rfl rfl dX8_writes_197 (fun H locs hw197 => ?_)
            refine lv_iload hx hb dX8_writes_200 (lv_at hl 6 rfl) ?_
            refine lv_iconst (v := (-1)) hx hb dX8_writes_202 (by decide) ?_
            refine lv_icmp_ne (tgt := 213) hx hb dX8_writes_203 (by decide) (fun c203 => ?_) (fun c203 => ?_)
            · replace h := br_f' h c203
              refine lv_iload hx hb dX8_writes_213 (lv_at hl 6 rfl) ?_
              refine lv_iconst (v := 1) hx hb dX8_writes_215 (by decide) ?_
              refine lv_iadd hx hb dX8_writes_216 ?_
              refine lv_istore (lv' := [(6, .int (x9_61 + 1)), (5, .int 1), (0, .ref (a 0)), (1, .int x1), (7, .int x7), (8, .int x8_61), (9, .int x9_61), (10, .int x10_61)]) hx hb dX8_writes_217 hl (by decide) rfl (fun ls hl => ?_)
              refine lv_goto (tgt := 44) hx hb dX8_writes_219 (by decide) ?_
              exact ih _ _ _ _ _ _ _ hw197 (lv_sub hl [2, 3, 1, 0, 4] rfl) h
            · replace h := br_t' h c203
              refine lv_iload hx hb dX8_writes_206 (lv_at hl 5 rfl) ?_
              refine lv_iconst (v := 1) hx hb dX8_writes_208 (by decide) ?_
              refine lv_iadd hx hb dX8_writes_209 ?_
              refine lv_goto (tgt := 217) hx hb dX8_writes_210 (by decide) ?_
              refine lv_istore (lv' := [(6, .int (x8_61 + 1)), (5, .int 1), (0, .ref (a 0)), (1, .int x1), (7, .int x7), (8, .int x8_61), (9, .int x9_61), (10, .int x10_61)]) hx hb dX8_writes_217 hl (by decide) rfl (fun ls hl => ?_)
              refine lv_goto (tgt := 44) hx hb dX8_writes_219 (by decide) ?_
              exact ih _ _ _ _ _ _ _ hw197 (lv_sub hl [2, 3, 1, 0, 4] rfl) h
        · replace h := br_f' h c163
          refine lv_aload_n hx hb dX8_writes_166 rfl (lv_at hl 0 rfl) ?_
          refine lv_bipush (v := 44) hx hb dX8_writes_167 (by decide) ?_
          obtain ⟨r169, q169, h⟩ := bd h
          refine k_callV (nC := 3) [oX8 a g_undos g_listed g_papers g_length g_besides g_gapFirst g_gapLast g_layings g_first g_behind g_clauses r169.2, ar cI (a 1) 5058 g_row, ar cI (a 24) 200 r169.1] C hl.1 (tX8_letter (a := a) q169) mL_X8_283 mmX8_letter rfl rfl ⟨Nat.le_of_ble_eq_true rfl, Nat.le_of_ble_eq_true rfl⟩ rfl rfl rfl rfl (Nat.le_of_ble_eq_true rfl) hA hw61x [0, 2] [1] rfl (by decide +kernel) rfl rfl rfl rfl dX8_writes_169 (fun H locs hw169 => ?_)
          refine lv_iconst (v := 1) hx hb dX8_writes_172 (by decide) ?_
          refine lv_istore (lv' := [(5, .int 1), (0, .ref (a 0)), (1, .int x1), (6, .int x6), (7, .int x7), (8, .int x8_61), (9, .int x9_61), (10, .int x10_61)]) hx hb dX8_writes_173 hl (by decide) rfl (fun ls hl => ?_)
          refine lv_aload_n hx hb dX8_writes_175 rfl (lv_at hl 1 rfl) ?_
          refine lv_iload hx hb dX8_writes_176 (lv_at hl 3 rfl) ?_
          obtain ⟨r178, q178, h⟩ := bd h
          refine k_callV (nC := 3) [oX8 a g_undos g_listed g_papers g_length g_besides g_gapFirst g_gapLast g_layings g_first g_behind g_clauses r178.2, ar cI (a 1) 5058 g_row, ar cI (a 24) 200 r178.1] C hl.1 (tX8_figures (a := a) q178) mL_X8_286 mmX8_figures rfl rfl ⟨Nat.le_of_ble_eq_true rfl, Nat.le_of_ble_eq_true rfl⟩ rfl rfl rfl rfl (Nat.le_of_ble_eq_true rfl) hA hw169 [0, 2] [1] rfl (by decide +kernel) rfl rfl rfl rfl dX8_writes_178 (fun H locs hw178 => ?_)
          refine lv_iload hx hb dX8_writes_181 (lv_at hl 5 rfl) ?_
          refine lv_iload hx hb dX8_writes_183 (lv_at hl 3 rfl) ?_
          refine lv_icmp_le (tgt := 200) hx hb dX8_writes_185 (by decide) (fun c185 => ?_) (fun c185 => ?_)
          · replace h := br_t' h c185
            refine lv_iload hx hb dX8_writes_200 (lv_at hl 6 rfl) ?_
            refine lv_iconst (v := (-1)) hx hb dX8_writes_202 (by decide) ?_
            refine lv_icmp_ne (tgt := 213) hx hb dX8_writes_203 (by decide) (fun c203 => ?_) (fun c203 => ?_)
            · replace h := br_f' h c203
              refine lv_iload hx hb dX8_writes_213 (lv_at hl 6 rfl) ?_
              refine lv_iconst (v := 1) hx hb dX8_writes_215 (by decide) ?_
              refine lv_iadd hx hb dX8_writes_216 ?_
              refine lv_istore (lv' := [(6, .int (x9_61 + 1)), (5, .int 1), (0, .ref (a 0)), (1, .int x1), (7, .int x7), (8, .int x8_61), (9, .int x9_61), (10, .int x10_61)]) hx hb dX8_writes_217 hl (by decide) rfl (fun ls hl => ?_)
              refine lv_goto (tgt := 44) hx hb dX8_writes_219 (by decide) ?_
              exact ih _ _ _ _ _ _ _ hw178 (lv_sub hl [2, 3, 1, 0, 4] rfl) h
            · replace h := br_t' h c203
              refine lv_iload hx hb dX8_writes_206 (lv_at hl 5 rfl) ?_
              refine lv_iconst (v := 1) hx hb dX8_writes_208 (by decide) ?_
              refine lv_iadd hx hb dX8_writes_209 ?_
              refine lv_goto (tgt := 217) hx hb dX8_writes_210 (by decide) ?_
              refine lv_istore (lv' := [(6, .int (x8_61 + 1)), (5, .int 1), (0, .ref (a 0)), (1, .int x1), (7, .int x7), (8, .int x8_61), (9, .int x9_61), (10, .int x10_61)]) hx hb dX8_writes_217 hl (by decide) rfl (fun ls hl => ?_)
              refine lv_goto (tgt := 44) hx hb dX8_writes_219 (by decide) ?_
              exact ih _ _ _ _ _ _ _ hw178 (lv_sub hl [2, 3, 1, 0, 4] rfl) h
          · replace h := br_f' h c185
            refine lv_aload_n hx hb dX8_writes_188 rfl (lv_at hl 1 rfl) ?_
            refine lv_bipush (v := 45) hx hb dX8_writes_189 (by decide) ?_
            obtain ⟨r191, q191, h⟩ := bd h
            refine k_callV (nC := 3) [oX8 a g_undos g_listed g_papers g_length g_besides g_gapFirst g_gapLast g_layings g_first g_behind g_clauses r191.2, ar cI (a 1) 5058 g_row, ar cI (a 24) 200 r191.1] C hl.1 (tX8_letter (a := a) q191) mL_X8_283 mmX8_letter rfl rfl ⟨Nat.le_of_ble_eq_true rfl, Nat.le_of_ble_eq_true rfl⟩ rfl rfl rfl rfl (Nat.le_of_ble_eq_true rfl) hA hw178 [0, 2] [1] rfl (by decide +kernel) rfl rfl rfl rfl dX8_writes_191 (fun H locs hw191 => ?_)
            refine lv_aload_n hx hb dX8_writes_194 rfl (lv_at hl 1 rfl) ?_
            refine lv_iload hx hb dX8_writes_195 (lv_at hl 5 rfl) ?_
            obtain ⟨r197, q197, h⟩ := bd h
            refine k_callV (nC := 3) [oX8 a g_undos g_listed g_papers g_length g_besides g_gapFirst g_gapLast g_layings g_first g_behind g_clauses r197.2, ar cI (a 1) 5058 g_row, ar cI (a 24) 200 r197.1] C hl.1 (tX8_figures (a := a) q197) mL_X8_286 mmX8_figures rfl rfl ⟨Nat.le_of_ble_eq_true rfl, Nat.le_of_ble_eq_true rfl⟩ rfl rfl rfl rfl (Nat.le_of_ble_eq_true rfl) hA hw191 [0, 2] [1] rfl (by decide +kernel) rfl rfl rfl rfl dX8_writes_197 (fun H locs hw197 => ?_)
            refine lv_iload hx hb dX8_writes_200 (lv_at hl 6 rfl) ?_
            refine lv_iconst (v := (-1)) hx hb dX8_writes_202 (by decide) ?_
            refine lv_icmp_ne (tgt := 213) hx hb dX8_writes_203 (by decide) (fun c203 => ?_) (fun c203 => ?_)
            · replace h := br_f' h c203
              refine lv_iload hx hb dX8_writes_213 (lv_at hl 6 rfl) ?_
              refine lv_iconst (v := 1) hx hb dX8_writes_215 (by decide) ?_
              refine lv_iadd hx hb dX8_writes_216 ?_
              refine lv_istore (lv' := [(6, .int (x9_61 + 1)), (5, .int 1), (0, .ref (a 0)), (1, .int x1), (7, .int x7), (8, .int x8_61), (9, .int x9_61), (10, .int x10_61)]) hx hb dX8_writes_217 hl (by decide) rfl (fun ls hl => ?_)
              refine lv_goto (tgt := 44) hx hb dX8_writes_219 (by decide) ?_
              exact ih _ _ _ _ _ _ _ hw197 (lv_sub hl [2, 3, 1, 0, 4] rfl) h
            · replace h := br_t' h c203
              refine lv_iload hx hb dX8_writes_206 (lv_at hl 5 rfl) ?_
              refine lv_iconst (v := 1) hx hb dX8_writes_208 (by decide) ?_
              refine lv_iadd hx hb dX8_writes_209 ?_
              refine lv_goto (tgt := 217) hx hb dX8_writes_210 (by decide) ?_
              refine lv_istore (lv' := [(6, .int (x8_61 + 1)), (5, .int 1), (0, .ref (a 0)), (1, .int x1), (7, .int x7), (8, .int x8_61), (9, .int x9_61), (10, .int x10_61)]) hx hb dX8_writes_217 hl (by decide) rfl (fun ls hl => ?_)
              refine lv_goto (tgt := 44) hx hb dX8_writes_219 (by decide) ?_
              exact ih _ _ _ _ _ _ _ hw197 (lv_sub hl [2, 3, 1, 0, 4] rfl) h
def fX8_writes (g_row : Nat → Int32) (g_draft : Nat → Int32) (g_drafts : Int32) (x1 : Int32) (x2 : Int32) (x3 : Int32) (x4 : Int32) : Option (Int32 × (Nat → Int32) × Int32) :=
  if x1 = (-1) then
    if x1 = (-1) then
      fX8_writes_44 g_row x1 x3 FU (fun x5_44 x6_44 g_draft_44 g_drafts_44 =>
        (bz x5_44).bind fun b224 =>
        some (b224, g_draft_44, g_drafts_44)) x4 x2 g_draft g_drafts
    else
      (fX8_lastOf g_row x1).bind fun r36 =>
      (fX8_lesser x3 r36).bind fun r39 =>
      fX8_writes_44 g_row x1 r39 FU (fun x5_44 x6_44 g_draft_44 g_drafts_44 =>
        (bz x5_44).bind fun b224 =>
        some (b224, g_draft_44, g_drafts_44)) x4 x2 g_draft g_drafts
  else
    (fX8_firstOf g_row x1).bind fun r16 =>
    (fX8_greater x2 r16).bind fun r19 =>
    if x1 = (-1) then
      fX8_writes_44 g_row x1 x3 FU (fun x5_44 x6_44 g_draft_44 g_drafts_44 =>
        (bz x5_44).bind fun b224 =>
        some (b224, g_draft_44, g_drafts_44)) x4 r19 g_draft g_drafts
    else
      (fX8_lastOf g_row x1).bind fun r36 =>
      (fX8_lesser x3 r36).bind fun r39 =>
      fX8_writes_44 g_row x1 r39 FU (fun x5_44 x6_44 g_draft_44 g_drafts_44 =>
        (bz x5_44).bind fun b224 =>
        some (b224, g_draft_44, g_drafts_44)) x4 r19 g_draft g_drafts
set_option maxRecDepth 100000 in
set_option maxHeartbeats 4000000 in
theorem tX8_writes {l : Launch} {D : va_G} {cI : ClassId} {cS : GS} {a : Nat → Nat} {g_row : Nat → Int32} {g_undos : Int32} {g_listed : Int32} {g_papers : Int32} {g_length : Int32} {g_besides : Int32} {g_gapFirst : Int32} {g_gapLast : Int32} {g_layings : Int32} {g_first : Int32} {g_behind : Int32} {g_clauses : Int32} {g_draft : Nat → Int32} {g_drafts : Int32} {x1 : Int32} {x2 : Int32} {x3 : Int32} {x4 : Int32} {s0 : Int32} {s1 : (Nat → Int32)} {s2 : Int32} (h : fX8_writes g_row g_draft g_drafts x1 x2 x3 x4 = some (s0, s1, s2)) : CT l D cI cS yX8_writes cX8_writes 11 (some .boolean) rmX8_writes [.ref (a 0), .int x1, .int x2, .int x3, .int x4] [oX8 a g_undos g_listed g_papers g_length g_besides g_gapFirst g_gapLast g_layings g_first g_behind g_clauses g_drafts, ar cI (a 1) 5058 g_row, ar cI (a 24) 200 g_draft] (some (.int s0)) [oX8 a g_undos g_listed g_papers g_length g_besides g_gapFirst g_gapLast g_layings g_first g_behind g_clauses s2, ar cI (a 1) 5058 g_row, ar cI (a 24) 200 s1] := by
  refine CT.of RX8 (by decide) rfl (Nat.le_of_ble_eq_true rfl) (fun p e s m below meth c ls A C hA hl hw => ?_)
  have hx := C.1.1
  have hb := C.1.2.1
  have hl : lv_has ls 11 [(0, .ref (a 0)), (1, .int x1), (2, .int x2), (3, .int x3), (4, .int x4)] := hl
  unfold fX8_writes at h
  refine lv_iload hx hb dX8_writes_0 (lv_at hl 4 rfl) ?_
  refine lv_istore (lv' := [(5, .int x4), (0, .ref (a 0)), (1, .int x1), (2, .int x2), (3, .int x3), (4, .int x4)]) hx hb dX8_writes_2 hl (by decide) rfl (fun ls hl => ?_)
  refine lv_iload_n hx hb dX8_writes_4 rfl (lv_at hl 2 rfl) ?_
  refine lv_iconst (v := (-1)) hx hb dX8_writes_5 (by decide) ?_
  refine lv_icmp_ne (tgt := 13) hx hb dX8_writes_6 (by decide) (fun c6 => ?_) (fun c6 => ?_)
  · replace h := br_f' h c6
    refine lv_iload_n hx hb dX8_writes_13 rfl (lv_at hl 3 rfl) ?_
    refine lv_aload_n hx hb dX8_writes_14 rfl (lv_at hl 1 rfl) ?_
    refine lv_iload_n hx hb dX8_writes_15 rfl (lv_at hl 2 rfl) ?_
    obtain ⟨r16, q16, h⟩ := bd h
    refine k_callV (nC := 3) [oX8 a g_undos g_listed g_papers g_length g_besides g_gapFirst g_gapLast g_layings g_first g_behind g_clauses g_drafts, ar cI (a 1) 5058 g_row, ar cI (a 24) 200 g_draft] C hl.1 (tX8_firstOf (a := a) q16) mL_X8_93 mmX8_firstOf rfl rfl ⟨Nat.le_of_ble_eq_true rfl, Nat.le_of_ble_eq_true rfl⟩ rfl rfl rfl rfl (Nat.le_of_ble_eq_true rfl) hA hw [0, 1] [2] rfl (by decide +kernel) rfl rfl rfl rfl dX8_writes_16 (fun H locs hw16 => ?_)
    obtain ⟨r19, q19, h⟩ := bd h
    refine k_callS (nC := 3) [oX8 a g_undos g_listed g_papers g_length g_besides g_gapFirst g_gapLast g_layings g_first g_behind g_clauses g_drafts, ar cI (a 1) 5058 g_row, ar cI (a 24) 200 g_draft] C hl.1 (tX8_greater q19) mL_X8_64 mmX8_greater rfl rfl ⟨Nat.le_of_ble_eq_true rfl, Nat.le_of_ble_eq_true rfl⟩ rfl rfl (Nat.le_of_ble_eq_true rfl) hA hw16 [] [0, 1, 2] rfl (by decide +kernel) rfl rfl rfl rfl dX8_writes_19 (fun H locs hw19 => ?_)
    refine lv_istore (lv' := [(6, .int r19), (5, .int x4), (0, .ref (a 0)), (1, .int x1), (2, .int x2), (3, .int x3), (4, .int x4)]) hx hb dX8_writes_22 hl (by decide) rfl (fun ls hl => ?_)
    refine lv_iload_n hx hb dX8_writes_24 rfl (lv_at hl 3 rfl) ?_
    refine lv_iconst (v := (-1)) hx hb dX8_writes_25 (by decide) ?_
    refine lv_icmp_ne (tgt := 33) hx hb dX8_writes_26 (by decide) (fun c26 => ?_) (fun c26 => ?_)
    · replace h := br_f' h c26
      refine lv_iload_n hx hb dX8_writes_33 rfl (lv_at hl 5 rfl) ?_
      refine lv_aload_n hx hb dX8_writes_34 rfl (lv_at hl 2 rfl) ?_
      refine lv_iload_n hx hb dX8_writes_35 rfl (lv_at hl 3 rfl) ?_
      obtain ⟨r36, q36, h⟩ := bd h
      refine k_callV (nC := 3) [oX8 a g_undos g_listed g_papers g_length g_besides g_gapFirst g_gapLast g_layings g_first g_behind g_clauses g_drafts, ar cI (a 1) 5058 g_row, ar cI (a 24) 200 g_draft] C hl.1 (tX8_lastOf (a := a) q36) mL_X8_97 mmX8_lastOf rfl rfl ⟨Nat.le_of_ble_eq_true rfl, Nat.le_of_ble_eq_true rfl⟩ rfl rfl rfl rfl (Nat.le_of_ble_eq_true rfl) hA hw19 [0, 1] [2] rfl (by decide +kernel) rfl rfl rfl rfl dX8_writes_36 (fun H locs hw36 => ?_)
      obtain ⟨r39, q39, h⟩ := bd h
      refine k_callS (nC := 3) [oX8 a g_undos g_listed g_papers g_length g_besides g_gapFirst g_gapLast g_layings g_first g_behind g_clauses g_drafts, ar cI (a 1) 5058 g_row, ar cI (a 24) 200 g_draft] C hl.1 (tX8_lesser q39) mL_X8_68 mmX8_lesser rfl rfl ⟨Nat.le_of_ble_eq_true rfl, Nat.le_of_ble_eq_true rfl⟩ rfl rfl (Nat.le_of_ble_eq_true rfl) hA hw36 [] [0, 1, 2] rfl (by decide +kernel) rfl rfl rfl rfl dX8_writes_39 (fun H locs hw39 => ?_)
      refine lv_istore (lv' := [(7, .int r39), (6, .int r19), (5, .int x4), (0, .ref (a 0)), (1, .int x1), (2, .int x2), (3, .int x3), (4, .int x4)]) hx hb dX8_writes_42 hl (by decide) rfl (fun ls hl => ?_)
      refine wX8_writes_44 C hA _ (fun x5_44 x6_44 g_draft_44 g_drafts_44 H locs ls hw44x hl h => ?_) FU _ _ _ _ _ _ _ hw39 (lv_sub hl [3, 4, 2, 1, 0] rfl) h
      refine lv_iload hx hb dX8_writes_222 (lv_at hl 2 rfl) ?_
      obtain ⟨b224, q224, h⟩ := bd h
      cases h
      exact k_zretb C q224 hw44x dX8_writes_224
    · replace h := br_t' h c26
      refine lv_iload_n hx hb dX8_writes_29 rfl (lv_at hl 5 rfl) ?_
      refine lv_goto (tgt := 42) hx hb dX8_writes_30 (by decide) ?_
      refine lv_istore (lv' := [(7, .int x3), (6, .int r19), (5, .int x4), (0, .ref (a 0)), (1, .int x1), (2, .int x2), (3, .int x3), (4, .int x4)]) hx hb dX8_writes_42 hl (by decide) rfl (fun ls hl => ?_)
      refine wX8_writes_44 C hA _ (fun x5_44 x6_44 g_draft_44 g_drafts_44 H locs ls hw44x hl h => ?_) FU _ _ _ _ _ _ _ hw19 (lv_sub hl [3, 4, 2, 1, 0] rfl) h
      refine lv_iload hx hb dX8_writes_222 (lv_at hl 2 rfl) ?_
      obtain ⟨b224, q224, h⟩ := bd h
      cases h
      exact k_zretb C q224 hw44x dX8_writes_224
  · replace h := br_t' h c6
    refine lv_iload_n hx hb dX8_writes_9 rfl (lv_at hl 3 rfl) ?_
    refine lv_goto (tgt := 22) hx hb dX8_writes_10 (by decide) ?_
    refine lv_istore (lv' := [(6, .int x2), (5, .int x4), (0, .ref (a 0)), (1, .int x1), (2, .int x2), (3, .int x3), (4, .int x4)]) hx hb dX8_writes_22 hl (by decide) rfl (fun ls hl => ?_)
    refine lv_iload_n hx hb dX8_writes_24 rfl (lv_at hl 3 rfl) ?_
    refine lv_iconst (v := (-1)) hx hb dX8_writes_25 (by decide) ?_
    refine lv_icmp_ne (tgt := 33) hx hb dX8_writes_26 (by decide) (fun c26 => ?_) (fun c26 => ?_)
    · replace h := br_f' h c26
      refine lv_iload_n hx hb dX8_writes_33 rfl (lv_at hl 5 rfl) ?_
      refine lv_aload_n hx hb dX8_writes_34 rfl (lv_at hl 2 rfl) ?_
      refine lv_iload_n hx hb dX8_writes_35 rfl (lv_at hl 3 rfl) ?_
      obtain ⟨r36, q36, h⟩ := bd h
      refine k_callV (nC := 3) [oX8 a g_undos g_listed g_papers g_length g_besides g_gapFirst g_gapLast g_layings g_first g_behind g_clauses g_drafts, ar cI (a 1) 5058 g_row, ar cI (a 24) 200 g_draft] C hl.1 (tX8_lastOf (a := a) q36) mL_X8_97 mmX8_lastOf rfl rfl ⟨Nat.le_of_ble_eq_true rfl, Nat.le_of_ble_eq_true rfl⟩ rfl rfl rfl rfl (Nat.le_of_ble_eq_true rfl) hA hw [0, 1] [2] rfl (by decide +kernel) rfl rfl rfl rfl dX8_writes_36 (fun H locs hw36 => ?_)
      obtain ⟨r39, q39, h⟩ := bd h
      refine k_callS (nC := 3) [oX8 a g_undos g_listed g_papers g_length g_besides g_gapFirst g_gapLast g_layings g_first g_behind g_clauses g_drafts, ar cI (a 1) 5058 g_row, ar cI (a 24) 200 g_draft] C hl.1 (tX8_lesser q39) mL_X8_68 mmX8_lesser rfl rfl ⟨Nat.le_of_ble_eq_true rfl, Nat.le_of_ble_eq_true rfl⟩ rfl rfl (Nat.le_of_ble_eq_true rfl) hA hw36 [] [0, 1, 2] rfl (by decide +kernel) rfl rfl rfl rfl dX8_writes_39 (fun H locs hw39 => ?_)
      refine lv_istore (lv' := [(7, .int r39), (6, .int x2), (5, .int x4), (0, .ref (a 0)), (1, .int x1), (2, .int x2), (3, .int x3), (4, .int x4)]) hx hb dX8_writes_42 hl (by decide) rfl (fun ls hl => ?_)
      refine wX8_writes_44 C hA _ (fun x5_44 x6_44 g_draft_44 g_drafts_44 H locs ls hw44x hl h => ?_) FU _ _ _ _ _ _ _ hw39 (lv_sub hl [3, 4, 2, 1, 0] rfl) h
      refine lv_iload hx hb dX8_writes_222 (lv_at hl 2 rfl) ?_
      obtain ⟨b224, q224, h⟩ := bd h
      cases h
      exact k_zretb C q224 hw44x dX8_writes_224
    · replace h := br_t' h c26
      refine lv_iload_n hx hb dX8_writes_29 rfl (lv_at hl 5 rfl) ?_
      refine lv_goto (tgt := 42) hx hb dX8_writes_30 (by decide) ?_
      refine lv_istore (lv' := [(7, .int x3), (6, .int x2), (5, .int x4), (0, .ref (a 0)), (1, .int x1), (2, .int x2), (3, .int x3), (4, .int x4)]) hx hb dX8_writes_42 hl (by decide) rfl (fun ls hl => ?_)
      refine wX8_writes_44 C hA _ (fun x5_44 x6_44 g_draft_44 g_drafts_44 H locs ls hw44x hl h => ?_) FU _ _ _ _ _ _ _ hw (lv_sub hl [3, 4, 2, 1, 0] rfl) h
      refine lv_iload hx hb dX8_writes_222 (lv_at hl 2 rfl) ?_
      obtain ⟨b224, q224, h⟩ := bd h
      cases h
      exact k_zretb C q224 hw44x dX8_writes_224
def rmX8_labels : Room := { frames := 4, cells := 0, slots := 0, locals := 95 }
def fX8_labels_52 (g_row : Nat → Int32) (x1 : Int32) (x2 : Int32) : (n : Nat) → (k : Int32 → Int32 → (Nat → Int32) → Int32 → Option ((Nat → Int32) × Int32)) → Int32 → Int32 → (Nat → Int32) → Int32 → Option ((Nat → Int32) × Int32)
  | 0, _, _, _, _, _ => none
  | n + 1, k, x3, x4, g_draft, g_drafts =>
    (ld 5058 g_row 1).bind fun y59 =>
    if y59 ≤ x4 then
      k x3 x4 g_draft g_drafts
    else
      (fX8_pieceAt g_row x4 2).bind fun r67 =>
      if r67 = x2 then
        (fX8_pieceAt g_row x4 0).bind fun r80 =>
        (fX8_pieceAt g_row x4 1).bind fun r87 =>
        (fX8_writes g_row g_draft g_drafts x1 r80 r87 x3).bind fun r91 =>
        fX8_labels_52 g_row x1 x2 n k r91.1 (x4 + 1) r91.2.1 r91.2.2
      else
        fX8_labels_52 g_row x1 x2 n k x3 (x4 + 1) g_draft g_drafts
set_option maxRecDepth 100000 in
set_option maxHeartbeats 4000000 in
theorem wX8_labels_52 {p : Program} {l : Launch} {e : Env} {s : State} {m : MethodId} {args : Array Value} {below : List Frame} {meth : Method} {c : Code} {D : va_G} {cI : ClassId} {cS : GS} {A : Nat → Prop} {a : Nat → Nat} {g_row : Nat → Int32} {g_undos : Int32} {g_listed : Int32} {g_papers : Int32} {g_length : Int32} {g_besides : Int32} {g_gapFirst : Int32} {g_gapLast : Int32} {g_layings : Int32} {g_first : Int32} {g_behind : Int32} {g_clauses : Int32} {x1 : Int32} {x2 : Int32} (C : MC p s m args meth c D cI cS A RX8 cX8_labels 5 none) (hA : ∀ q, s.heap.size ≤ q → A q) {s0 : (Nat → Int32)} {s1 : Int32} (k : Int32 → Int32 → (Nat → Int32) → Int32 → Option ((Nat → Int32) × Int32)) (hk : ∀ (x3 : Int32) (x4 : Int32) (g_draft : Nat → Int32) (g_drafts : Int32) (H : Heap) (locs : List Loc) (ls : Array Slot), Wd D A s.heap H locs [oX8 a g_undos g_listed g_papers g_length g_besides g_gapFirst g_gapLast g_layings g_first g_behind g_clauses g_drafts, ar cI (a 1) 5058 g_row, ar cI (a 24) 200 g_draft] → lv_has ls 5 [(0, .ref (a 0)), (1, .int x1), (2, .int x2), (3, .int x3), (4, .int x4)] → k x3 x4 g_draft g_drafts = some (s0, s1) → W p l e rmX8_labels s m args below meth c H locs 0 0 (KQ D A below args s none [oX8 a g_undos g_listed g_papers g_length g_besides g_gapFirst g_gapLast g_layings g_first g_behind g_clauses s1, ar cI (a 1) 5058 g_row, ar cI (a 24) 200 s0]) (F0 m 105 ls [])) :
    ∀ (n : Nat) (x3 : Int32) (x4 : Int32) (g_draft : Nat → Int32) (g_drafts : Int32) (H : Heap) (locs : List Loc) (ls : Array Slot), Wd D A s.heap H locs [oX8 a g_undos g_listed g_papers g_length g_besides g_gapFirst g_gapLast g_layings g_first g_behind g_clauses g_drafts, ar cI (a 1) 5058 g_row, ar cI (a 24) 200 g_draft] → lv_has ls 5 [(0, .ref (a 0)), (1, .int x1), (2, .int x2), (3, .int x3), (4, .int x4)] → fX8_labels_52 g_row x1 x2 n k x3 x4 g_draft g_drafts = some (s0, s1) → W p l e rmX8_labels s m args below meth c H locs 0 0 (KQ D A below args s none [oX8 a g_undos g_listed g_papers g_length g_besides g_gapFirst g_gapLast g_layings g_first g_behind g_clauses s1, ar cI (a 1) 5058 g_row, ar cI (a 24) 200 s0]) (F0 m 52 ls []) := by
  have hx := C.1.1
  have hb := C.1.2.1
  intro n
  induction n with
  | zero =>
    intro x3 x4 g_draft g_drafts H locs ls hw hl h
    rw [fX8_labels_52] at h
    cases h
  | succ n ih =>
    intro x3 x4 g_draft g_drafts H locs ls hw hl h
    rw [fX8_labels_52] at h
    refine lv_iload hx hb dX8_labels_52 (lv_at hl 4 rfl) ?_
    refine lv_aload_n hx hb dX8_labels_54 rfl (lv_at hl 0 rfl) ?_
    refine k_get C inT_X8 hw 0 rfl rfl 0 (by decide) mF_X8_7 rfl dX8_labels_55 ?_
    refine lv_iconst (v := 1) hx hb dX8_labels_58 (by decide) ?_
    obtain ⟨y59, q59, h⟩ := bd h
    refine k_iald C hw 1 rfl q59 dX8_labels_59 ?_
    refine lv_icmp_ge (tgt := 105) hx hb dX8_labels_60 (by decide) (fun c60 => ?_) (fun c60 => ?_)
    · replace h := br_t' h c60
      exact hk _ _ _ _ _ _ _ hw (lv_sub hl [0, 1, 2, 3, 4] rfl) h
    · replace h := br_f' h c60
      refine lv_aload_n hx hb dX8_labels_63 rfl (lv_at hl 0 rfl) ?_
      refine lv_iload hx hb dX8_labels_64 (lv_at hl 4 rfl) ?_
      refine lv_iconst (v := 2) hx hb dX8_labels_66 (by decide) ?_
      obtain ⟨r67, q67, h⟩ := bd h
      refine k_callV (nC := 3) [oX8 a g_undos g_listed g_papers g_length g_besides g_gapFirst g_gapLast g_layings g_first g_behind g_clauses g_drafts, ar cI (a 1) 5058 g_row, ar cI (a 24) 200 g_draft] C hl.1 (tX8_pieceAt (a := a) q67) mL_X8_71 mmX8_pieceAt rfl rfl ⟨Nat.le_of_ble_eq_true rfl, Nat.le_of_ble_eq_true rfl⟩ rfl rfl rfl rfl (Nat.le_of_ble_eq_true rfl) hA hw [0, 1] [2] rfl (by decide +kernel) rfl rfl rfl rfl dX8_labels_67 (fun H locs hw67 => ?_)
      refine lv_iload_n hx hb dX8_labels_70 rfl (lv_at hl 2 rfl) ?_
      refine lv_icmp_ne (tgt := 97) hx hb dX8_labels_71 (by decide) (fun c71 => ?_) (fun c71 => ?_)
      · replace h := br_f' h c71
        refine lv_iload_n hx hb dX8_labels_97 rfl (lv_at hl 3 rfl) ?_
        refine lv_istore_n (lv' := [(3, .int x3), (0, .ref (a 0)), (1, .int x1), (2, .int x2), (4, .int x4)]) hx hb dX8_labels_98 rfl hl (by decide) rfl (fun ls hl => ?_)
        refine lv_iinc (v := (x4 + 1)) (lv' := [(4, .int (x4 + 1)), (3, .int x3), (0, .ref (a 0)), (1, .int x1), (2, .int x2)]) hx hb dX8_labels_99 hl (k := 4) rfl rfl (by decide) rfl (fun ls hl => ?_)
        refine lv_goto (tgt := 52) hx hb dX8_labels_102 (by decide) ?_
        exact ih _ _ _ _ _ _ _ hw67 (lv_sub hl [2, 3, 4, 1, 0] rfl) h
      · replace h := br_t' h c71
        refine lv_aload_n hx hb dX8_labels_74 rfl (lv_at hl 0 rfl) ?_
        refine lv_iload_n hx hb dX8_labels_75 rfl (lv_at hl 1 rfl) ?_
        refine lv_aload_n hx hb dX8_labels_76 rfl (lv_at hl 0 rfl) ?_
        refine lv_iload hx hb dX8_labels_77 (lv_at hl 4 rfl) ?_
        refine lv_iconst (v := 0) hx hb dX8_labels_79 (by decide) ?_
        obtain ⟨r80, q80, h⟩ := bd h
        refine k_callV (nC := 3) [oX8 a g_undos g_listed g_papers g_length g_besides g_gapFirst g_gapLast g_layings g_first g_behind g_clauses g_drafts, ar cI (a 1) 5058 g_row, ar cI (a 24) 200 g_draft] C hl.1 (tX8_pieceAt (a := a) q80) mL_X8_71 mmX8_pieceAt rfl rfl ⟨Nat.le_of_ble_eq_true rfl, Nat.le_of_ble_eq_true rfl⟩ rfl rfl rfl rfl (Nat.le_of_ble_eq_true rfl) hA hw67 [0, 1] [2] rfl (by decide +kernel) rfl rfl rfl rfl dX8_labels_80 (fun H locs hw80 => ?_)
        refine lv_aload_n hx hb dX8_labels_83 rfl (lv_at hl 0 rfl) ?_
        refine lv_iload hx hb dX8_labels_84 (lv_at hl 4 rfl) ?_
        refine lv_iconst (v := 1) hx hb dX8_labels_86 (by decide) ?_
        obtain ⟨r87, q87, h⟩ := bd h
        refine k_callV (nC := 3) [oX8 a g_undos g_listed g_papers g_length g_besides g_gapFirst g_gapLast g_layings g_first g_behind g_clauses g_drafts, ar cI (a 1) 5058 g_row, ar cI (a 24) 200 g_draft] C hl.1 (tX8_pieceAt (a := a) q87) mL_X8_71 mmX8_pieceAt rfl rfl ⟨Nat.le_of_ble_eq_true rfl, Nat.le_of_ble_eq_true rfl⟩ rfl rfl rfl rfl (Nat.le_of_ble_eq_true rfl) hA hw80 [0, 1] [2] rfl (by decide +kernel) rfl rfl rfl rfl dX8_labels_87 (fun H locs hw87 => ?_)
        refine lv_iload_n hx hb dX8_labels_90 rfl (lv_at hl 3 rfl) ?_
        obtain ⟨r91, q91, h⟩ := bd h
        refine k_callV (nC := 3) [oX8 a g_undos g_listed g_papers g_length g_besides g_gapFirst g_gapLast g_layings g_first g_behind g_clauses r91.2.2, ar cI (a 1) 5058 g_row, ar cI (a 24) 200 r91.2.1] C hl.1 (tX8_writes (a := a) q91) mL_X8_289 mmX8_writes rfl rfl ⟨Nat.le_of_ble_eq_true rfl, Nat.le_of_ble_eq_true rfl⟩ rfl rfl rfl rfl (Nat.le_of_ble_eq_true rfl) hA hw87 [0, 1, 2] [] rfl (by decide +kernel) rfl rfl rfl rfl dX8_labels_91 (fun H locs hw91 => ?_)
        refine lv_goto (tgt := 98) hx hb dX8_labels_94 (by decide) ?_
        refine lv_istore_n (lv' := [(3, .int r91.1), (0, .ref (a 0)), (1, .int x1), (2, .int x2), (4, .int x4)]) hx hb dX8_labels_98 rfl hl (by decide) rfl (fun ls hl => ?_)
        refine lv_iinc (v := (x4 + 1)) (lv' := [(4, .int (x4 + 1)), (3, .int r91.1), (0, .ref (a 0)), (1, .int x1), (2, .int x2)]) hx hb dX8_labels_99 hl (k := 4) rfl rfl (by decide) rfl (fun ls hl => ?_)
        refine lv_goto (tgt := 52) hx hb dX8_labels_102 (by decide) ?_
        exact ih _ _ _ _ _ _ _ hw91 (lv_sub hl [2, 3, 4, 1, 0] rfl) h
def fX8_labels (g_row : Nat → Int32) (g_draft : Nat → Int32) (g_drafts : Int32) (x1 : Int32) (x2 : Int32) : Option ((Nat → Int32) × Int32) :=
  (fX8_ownInBox g_row x1 x2).bind fun r3 =>
  if r3 = 0 then
    some (g_draft, g_drafts)
  else
    if g_drafts ≤ 0 then
      if x1 = (-1) then
        (fX8_letter g_draft g_drafts 120).bind fun r38 =>
        (fX8_letter r38.1 r38.2 58).bind fun r44 =>
        fX8_labels_52 g_row x1 x2 FU (fun x3_52 x4_52 g_draft_52 g_drafts_52 =>
          some (g_draft_52, g_drafts_52)) 0 0 r44.1 r44.2
      else
        (fX8_letter g_draft g_drafts (48 + x1)).bind fun r38 =>
        (fX8_letter r38.1 r38.2 58).bind fun r44 =>
        fX8_labels_52 g_row x1 x2 FU (fun x3_52 x4_52 g_draft_52 g_drafts_52 =>
          some (g_draft_52, g_drafts_52)) 0 0 r44.1 r44.2
    else
      (fX8_letter g_draft g_drafts 59).bind fun r20 =>
      if x1 = (-1) then
        (fX8_letter r20.1 r20.2 120).bind fun r38 =>
        (fX8_letter r38.1 r38.2 58).bind fun r44 =>
        fX8_labels_52 g_row x1 x2 FU (fun x3_52 x4_52 g_draft_52 g_drafts_52 =>
          some (g_draft_52, g_drafts_52)) 0 0 r44.1 r44.2
      else
        (fX8_letter r20.1 r20.2 (48 + x1)).bind fun r38 =>
        (fX8_letter r38.1 r38.2 58).bind fun r44 =>
        fX8_labels_52 g_row x1 x2 FU (fun x3_52 x4_52 g_draft_52 g_drafts_52 =>
          some (g_draft_52, g_drafts_52)) 0 0 r44.1 r44.2
set_option maxRecDepth 100000 in
set_option maxHeartbeats 4000000 in
theorem tX8_labels {l : Launch} {D : va_G} {cI : ClassId} {cS : GS} {a : Nat → Nat} {g_row : Nat → Int32} {g_undos : Int32} {g_listed : Int32} {g_papers : Int32} {g_length : Int32} {g_besides : Int32} {g_gapFirst : Int32} {g_gapLast : Int32} {g_layings : Int32} {g_first : Int32} {g_behind : Int32} {g_clauses : Int32} {g_draft : Nat → Int32} {g_drafts : Int32} {x1 : Int32} {x2 : Int32} {s0 : (Nat → Int32)} {s1 : Int32} (h : fX8_labels g_row g_draft g_drafts x1 x2 = some (s0, s1)) : CT l D cI cS yX8_labels cX8_labels 5 none rmX8_labels [.ref (a 0), .int x1, .int x2] [oX8 a g_undos g_listed g_papers g_length g_besides g_gapFirst g_gapLast g_layings g_first g_behind g_clauses g_drafts, ar cI (a 1) 5058 g_row, ar cI (a 24) 200 g_draft] none [oX8 a g_undos g_listed g_papers g_length g_besides g_gapFirst g_gapLast g_layings g_first g_behind g_clauses s1, ar cI (a 1) 5058 g_row, ar cI (a 24) 200 s0] := by
  refine CT.of RX8 (by decide) rfl (Nat.le_of_ble_eq_true rfl) (fun p e s m below meth c ls A C hA hl hw => ?_)
  have hx := C.1.1
  have hb := C.1.2.1
  have hl : lv_has ls 5 [(0, .ref (a 0)), (1, .int x1), (2, .int x2)] := hl
  unfold fX8_labels at h
  refine lv_aload_n hx hb dX8_labels_0 rfl (lv_at hl 0 rfl) ?_
  refine lv_iload_n hx hb dX8_labels_1 rfl (lv_at hl 1 rfl) ?_
  refine lv_iload_n hx hb dX8_labels_2 rfl (lv_at hl 2 rfl) ?_
  obtain ⟨r3, q3, h⟩ := bd h
  refine k_callV (nC := 3) [oX8 a g_undos g_listed g_papers g_length g_besides g_gapFirst g_gapLast g_layings g_first g_behind g_clauses g_drafts, ar cI (a 1) 5058 g_row, ar cI (a 24) 200 g_draft] C hl.1 (tX8_ownInBox (a := a) q3) mL_X8_245 mmX8_ownInBox rfl rfl ⟨Nat.le_of_ble_eq_true rfl, Nat.le_of_ble_eq_true rfl⟩ rfl rfl rfl rfl (Nat.le_of_ble_eq_true rfl) hA hw [0, 1] [2] rfl (by decide +kernel) rfl rfl rfl rfl dX8_labels_3 (fun H locs hw3 => ?_)
  refine lv_if_ne (tgt := 10) hx hb dX8_labels_6 (by decide) (fun c6 => ?_) (fun c6 => ?_)
  · replace h := br_f' h c6
    refine lv_aload_n hx hb dX8_labels_10 rfl (lv_at hl 0 rfl) ?_
    refine k_get C inT_X8 hw3 0 rfl rfl 24 (by decide) mF_X8_280 rfl dX8_labels_11 ?_
    refine lv_if_le (tgt := 23) hx hb dX8_labels_14 (by decide) (fun c14 => ?_) (fun c14 => ?_)
    · replace h := br_t' h c14
      refine lv_aload_n hx hb dX8_labels_23 rfl (lv_at hl 0 rfl) ?_
      refine lv_iload_n hx hb dX8_labels_24 rfl (lv_at hl 1 rfl) ?_
      refine lv_iconst (v := (-1)) hx hb dX8_labels_25 (by decide) ?_
      refine lv_icmp_ne (tgt := 34) hx hb dX8_labels_26 (by decide) (fun c26 => ?_) (fun c26 => ?_)
      · replace h := br_f' h c26
        refine lv_bipush (v := 48) hx hb dX8_labels_34 (by decide) ?_
        refine lv_iload_n hx hb dX8_labels_36 rfl (lv_at hl 1 rfl) ?_
        refine lv_iadd hx hb dX8_labels_37 ?_
        obtain ⟨r38, q38, h⟩ := bd h
        refine k_callV (nC := 3) [oX8 a g_undos g_listed g_papers g_length g_besides g_gapFirst g_gapLast g_layings g_first g_behind g_clauses r38.2, ar cI (a 1) 5058 g_row, ar cI (a 24) 200 r38.1] C hl.1 (tX8_letter (a := a) q38) mL_X8_283 mmX8_letter rfl rfl ⟨Nat.le_of_ble_eq_true rfl, Nat.le_of_ble_eq_true rfl⟩ rfl rfl rfl rfl (Nat.le_of_ble_eq_true rfl) hA hw3 [0, 2] [1] rfl (by decide +kernel) rfl rfl rfl rfl dX8_labels_38 (fun H locs hw38 => ?_)
        refine lv_aload_n hx hb dX8_labels_41 rfl (lv_at hl 0 rfl) ?_
        refine lv_bipush (v := 58) hx hb dX8_labels_42 (by decide) ?_
        obtain ⟨r44, q44, h⟩ := bd h
        refine k_callV (nC := 3) [oX8 a g_undos g_listed g_papers g_length g_besides g_gapFirst g_gapLast g_layings g_first g_behind g_clauses r44.2, ar cI (a 1) 5058 g_row, ar cI (a 24) 200 r44.1] C hl.1 (tX8_letter (a := a) q44) mL_X8_283 mmX8_letter rfl rfl ⟨Nat.le_of_ble_eq_true rfl, Nat.le_of_ble_eq_true rfl⟩ rfl rfl rfl rfl (Nat.le_of_ble_eq_true rfl) hA hw38 [0, 2] [1] rfl (by decide +kernel) rfl rfl rfl rfl dX8_labels_44 (fun H locs hw44 => ?_)
        refine lv_iconst (v := 0) hx hb dX8_labels_47 (by decide) ?_
        refine lv_istore_n (lv' := [(3, .int 0), (0, .ref (a 0)), (1, .int x1), (2, .int x2)]) hx hb dX8_labels_48 rfl hl (by decide) rfl (fun ls hl => ?_)
        refine lv_iconst (v := 0) hx hb dX8_labels_49 (by decide) ?_
        refine lv_istore (lv' := [(4, .int 0), (3, .int 0), (0, .ref (a 0)), (1, .int x1), (2, .int x2)]) hx hb dX8_labels_50 hl (by decide) rfl (fun ls hl => ?_)
        refine wX8_labels_52 C hA _ (fun x3_52 x4_52 g_draft_52 g_drafts_52 H locs ls hw52x hl h => ?_) FU _ _ _ _ _ _ _ hw44 (lv_sub hl [2, 3, 4, 1, 0] rfl) h
        cases h
        exact k_vret C hw52x dX8_labels_105
      · replace h := br_t' h c26
        refine lv_bipush (v := 120) hx hb dX8_labels_29 (by decide) ?_
        refine lv_goto (tgt := 38) hx hb dX8_labels_31 (by decide) ?_
        obtain ⟨r38, q38, h⟩ := bd h
        refine k_callV (nC := 3) [oX8 a g_undos g_listed g_papers g_length g_besides g_gapFirst g_gapLast g_layings g_first g_behind g_clauses r38.2, ar cI (a 1) 5058 g_row, ar cI (a 24) 200 r38.1] C hl.1 (tX8_letter (a := a) q38) mL_X8_283 mmX8_letter rfl rfl ⟨Nat.le_of_ble_eq_true rfl, Nat.le_of_ble_eq_true rfl⟩ rfl rfl rfl rfl (Nat.le_of_ble_eq_true rfl) hA hw3 [0, 2] [1] rfl (by decide +kernel) rfl rfl rfl rfl dX8_labels_38 (fun H locs hw38 => ?_)
        refine lv_aload_n hx hb dX8_labels_41 rfl (lv_at hl 0 rfl) ?_
        refine lv_bipush (v := 58) hx hb dX8_labels_42 (by decide) ?_
        obtain ⟨r44, q44, h⟩ := bd h
        refine k_callV (nC := 3) [oX8 a g_undos g_listed g_papers g_length g_besides g_gapFirst g_gapLast g_layings g_first g_behind g_clauses r44.2, ar cI (a 1) 5058 g_row, ar cI (a 24) 200 r44.1] C hl.1 (tX8_letter (a := a) q44) mL_X8_283 mmX8_letter rfl rfl ⟨Nat.le_of_ble_eq_true rfl, Nat.le_of_ble_eq_true rfl⟩ rfl rfl rfl rfl (Nat.le_of_ble_eq_true rfl) hA hw38 [0, 2] [1] rfl (by decide +kernel) rfl rfl rfl rfl dX8_labels_44 (fun H locs hw44 => ?_)
        refine lv_iconst (v := 0) hx hb dX8_labels_47 (by decide) ?_
        refine lv_istore_n (lv' := [(3, .int 0), (0, .ref (a 0)), (1, .int x1), (2, .int x2)]) hx hb dX8_labels_48 rfl hl (by decide) rfl (fun ls hl => ?_)
        refine lv_iconst (v := 0) hx hb dX8_labels_49 (by decide) ?_
        refine lv_istore (lv' := [(4, .int 0), (3, .int 0), (0, .ref (a 0)), (1, .int x1), (2, .int x2)]) hx hb dX8_labels_50 hl (by decide) rfl (fun ls hl => ?_)
        refine wX8_labels_52 C hA _ (fun x3_52 x4_52 g_draft_52 g_drafts_52 H locs ls hw52x hl h => ?_) FU _ _ _ _ _ _ _ hw44 (lv_sub hl [2, 3, 4, 1, 0] rfl) h
        cases h
        exact k_vret C hw52x dX8_labels_105
    · replace h := br_f' h c14
      refine lv_aload_n hx hb dX8_labels_17 rfl (lv_at hl 0 rfl) ?_
      refine lv_bipush (v := 59) hx hb dX8_labels_18 (by decide) ?_
      obtain ⟨r20, q20, h⟩ := bd h
      refine k_callV (nC := 3) [oX8 a g_undos g_listed g_papers g_length g_besides g_gapFirst g_gapLast g_layings g_first g_behind g_clauses r20.2, ar cI (a 1) 5058 g_row, ar cI (a 24) 200 r20.1] C hl.1 (tX8_letter (a := a) q20) mL_X8_283 mmX8_letter rfl rfl ⟨Nat.le_of_ble_eq_true rfl, Nat.le_of_ble_eq_true rfl⟩ rfl rfl rfl rfl (Nat.le_of_ble_eq_true rfl) hA hw3 [0, 2] [1] rfl (by decide +kernel) rfl rfl rfl rfl dX8_labels_20 (fun H locs hw20 => ?_)
      refine lv_aload_n hx hb dX8_labels_23 rfl (lv_at hl 0 rfl) ?_
      refine lv_iload_n hx hb dX8_labels_24 rfl (lv_at hl 1 rfl) ?_
      refine lv_iconst (v := (-1)) hx hb dX8_labels_25 (by decide) ?_
      refine lv_icmp_ne (tgt := 34) hx hb dX8_labels_26 (by decide) (fun c26 => ?_) (fun c26 => ?_)
      · replace h := br_f' h c26
        refine lv_bipush (v := 48) hx hb dX8_labels_34 (by decide) ?_
        refine lv_iload_n hx hb dX8_labels_36 rfl (lv_at hl 1 rfl) ?_
        refine lv_iadd hx hb dX8_labels_37 ?_
        obtain ⟨r38, q38, h⟩ := bd h
        refine k_callV (nC := 3) [oX8 a g_undos g_listed g_papers g_length g_besides g_gapFirst g_gapLast g_layings g_first g_behind g_clauses r38.2, ar cI (a 1) 5058 g_row, ar cI (a 24) 200 r38.1] C hl.1 (tX8_letter (a := a) q38) mL_X8_283 mmX8_letter rfl rfl ⟨Nat.le_of_ble_eq_true rfl, Nat.le_of_ble_eq_true rfl⟩ rfl rfl rfl rfl (Nat.le_of_ble_eq_true rfl) hA hw20 [0, 2] [1] rfl (by decide +kernel) rfl rfl rfl rfl dX8_labels_38 (fun H locs hw38 => ?_)
        refine lv_aload_n hx hb dX8_labels_41 rfl (lv_at hl 0 rfl) ?_
        refine lv_bipush (v := 58) hx hb dX8_labels_42 (by decide) ?_
        obtain ⟨r44, q44, h⟩ := bd h
        refine k_callV (nC := 3) [oX8 a g_undos g_listed g_papers g_length g_besides g_gapFirst g_gapLast g_layings g_first g_behind g_clauses r44.2, ar cI (a 1) 5058 g_row, ar cI (a 24) 200 r44.1] C hl.1 (tX8_letter (a := a) q44) mL_X8_283 mmX8_letter rfl rfl ⟨Nat.le_of_ble_eq_true rfl, Nat.le_of_ble_eq_true rfl⟩ rfl rfl rfl rfl (Nat.le_of_ble_eq_true rfl) hA hw38 [0, 2] [1] rfl (by decide +kernel) rfl rfl rfl rfl dX8_labels_44 (fun H locs hw44 => ?_)
        refine lv_iconst (v := 0) hx hb dX8_labels_47 (by decide) ?_
        refine lv_istore_n (lv' := [(3, .int 0), (0, .ref (a 0)), (1, .int x1), (2, .int x2)]) hx hb dX8_labels_48 rfl hl (by decide) rfl (fun ls hl => ?_)
        refine lv_iconst (v := 0) hx hb dX8_labels_49 (by decide) ?_
        refine lv_istore (lv' := [(4, .int 0), (3, .int 0), (0, .ref (a 0)), (1, .int x1), (2, .int x2)]) hx hb dX8_labels_50 hl (by decide) rfl (fun ls hl => ?_)
        refine wX8_labels_52 C hA _ (fun x3_52 x4_52 g_draft_52 g_drafts_52 H locs ls hw52x hl h => ?_) FU _ _ _ _ _ _ _ hw44 (lv_sub hl [2, 3, 4, 1, 0] rfl) h
        cases h
        exact k_vret C hw52x dX8_labels_105
      · replace h := br_t' h c26
        refine lv_bipush (v := 120) hx hb dX8_labels_29 (by decide) ?_
        refine lv_goto (tgt := 38) hx hb dX8_labels_31 (by decide) ?_
        obtain ⟨r38, q38, h⟩ := bd h
        refine k_callV (nC := 3) [oX8 a g_undos g_listed g_papers g_length g_besides g_gapFirst g_gapLast g_layings g_first g_behind g_clauses r38.2, ar cI (a 1) 5058 g_row, ar cI (a 24) 200 r38.1] C hl.1 (tX8_letter (a := a) q38) mL_X8_283 mmX8_letter rfl rfl ⟨Nat.le_of_ble_eq_true rfl, Nat.le_of_ble_eq_true rfl⟩ rfl rfl rfl rfl (Nat.le_of_ble_eq_true rfl) hA hw20 [0, 2] [1] rfl (by decide +kernel) rfl rfl rfl rfl dX8_labels_38 (fun H locs hw38 => ?_)
        refine lv_aload_n hx hb dX8_labels_41 rfl (lv_at hl 0 rfl) ?_
        refine lv_bipush (v := 58) hx hb dX8_labels_42 (by decide) ?_
        obtain ⟨r44, q44, h⟩ := bd h
        refine k_callV (nC := 3) [oX8 a g_undos g_listed g_papers g_length g_besides g_gapFirst g_gapLast g_layings g_first g_behind g_clauses r44.2, ar cI (a 1) 5058 g_row, ar cI (a 24) 200 r44.1] C hl.1 (tX8_letter (a := a) q44) mL_X8_283 mmX8_letter rfl rfl ⟨Nat.le_of_ble_eq_true rfl, Nat.le_of_ble_eq_true rfl⟩ rfl rfl rfl rfl (Nat.le_of_ble_eq_true rfl) hA hw38 [0, 2] [1] rfl (by decide +kernel) rfl rfl rfl rfl dX8_labels_44 (fun H locs hw44 => ?_)
        refine lv_iconst (v := 0) hx hb dX8_labels_47 (by decide) ?_
        refine lv_istore_n (lv' := [(3, .int 0), (0, .ref (a 0)), (1, .int x1), (2, .int x2)]) hx hb dX8_labels_48 rfl hl (by decide) rfl (fun ls hl => ?_)
        refine lv_iconst (v := 0) hx hb dX8_labels_49 (by decide) ?_
        refine lv_istore (lv' := [(4, .int 0), (3, .int 0), (0, .ref (a 0)), (1, .int x1), (2, .int x2)]) hx hb dX8_labels_50 hl (by decide) rfl (fun ls hl => ?_)
        refine wX8_labels_52 C hA _ (fun x3_52 x4_52 g_draft_52 g_drafts_52 H locs ls hw52x hl h => ?_) FU _ _ _ _ _ _ _ hw44 (lv_sub hl [2, 3, 4, 1, 0] rfl) h
        cases h
        exact k_vret C hw52x dX8_labels_105
  · replace h := br_t' h c6
    cases h
    exact k_vret C hw3 dX8_labels_9
def rmX8_label : Room := { frames := 5, cells := 0, slots := 0, locals := 119 }
def fX8_label_17 (g_row : Nat → Int32) (x1 : Int32) : (n : Nat) → (k : Int32 → (Nat → Int32) → Int32 → Option (Int32 × (Nat → Int32) × Int32 × (Nat → Int32) × Int32)) → Int32 → (Nat → Int32) → Int32 → Option (Int32 × (Nat → Int32) × Int32 × (Nat → Int32) × Int32)
  | 0, _, _, _, _ => none
  | n + 1, k, x2, g_draft, g_drafts =>
    (ld 5058 g_row 0).bind fun y23 =>
    if y23 ≤ x2 then
      k x2 g_draft g_drafts
    else
      (fX8_labels g_row g_draft g_drafts x2 x1).bind fun r30 =>
      fX8_label_17 g_row x1 n k (x2 + 1) r30.1 r30.2
set_option maxRecDepth 100000 in
set_option maxHeartbeats 4000000 in
theorem wX8_label_17 {p : Program} {l : Launch} {e : Env} {s : State} {m : MethodId} {args : Array Value} {below : List Frame} {meth : Method} {c : Code} {D : va_G} {cI : ClassId} {cS : GS} {A : Nat → Prop} {a : Nat → Nat} {g_row : Nat → Int32} {g_undos : Int32} {g_listed : Int32} {g_paper : Nat → Int32} {g_papers : Int32} {g_length : Int32} {g_besides : Int32} {g_gapFirst : Int32} {g_gapLast : Int32} {g_layings : Int32} {g_first : Int32} {g_behind : Int32} {g_clauses : Int32} {x1 : Int32} (C : MC p s m args meth c D cI cS A RX8 cX8_label 3 (some .int)) (hA : ∀ q, s.heap.size ≤ q → A q) {s0 : Int32} {s1 : (Nat → Int32)} {s2 : Int32} {s3 : (Nat → Int32)} {s4 : Int32} (k : Int32 → (Nat → Int32) → Int32 → Option (Int32 × (Nat → Int32) × Int32 × (Nat → Int32) × Int32)) (hk : ∀ (x2 : Int32) (g_draft : Nat → Int32) (g_drafts : Int32) (H : Heap) (locs : List Loc) (ls : Array Slot), Wd D A s.heap H locs [oX8 a g_undos g_listed g_papers g_length g_besides g_gapFirst g_gapLast g_layings g_first g_behind g_clauses g_drafts, ar cI (a 1) 5058 g_row, ar cI (a 5) 200 g_paper, ar cI (a 24) 200 g_draft] → lv_has ls 3 [(0, .ref (a 0)), (1, .int x1), (2, .int x2)] → k x2 g_draft g_drafts = some (s0, s1, s2, s3, s4) → W p l e rmX8_label s m args below meth c H locs 0 0 (KQ D A below args s (some (.int s0)) [oX8 a g_undos g_listed s2 g_length g_besides g_gapFirst g_gapLast g_layings g_first g_behind g_clauses s4, ar cI (a 1) 5058 g_row, ar cI (a 5) 200 s1, ar cI (a 24) 200 s3]) (F0 m 39 ls [])) :
    ∀ (n : Nat) (x2 : Int32) (g_draft : Nat → Int32) (g_drafts : Int32) (H : Heap) (locs : List Loc) (ls : Array Slot), Wd D A s.heap H locs [oX8 a g_undos g_listed g_papers g_length g_besides g_gapFirst g_gapLast g_layings g_first g_behind g_clauses g_drafts, ar cI (a 1) 5058 g_row, ar cI (a 5) 200 g_paper, ar cI (a 24) 200 g_draft] → lv_has ls 3 [(0, .ref (a 0)), (1, .int x1), (2, .int x2)] → fX8_label_17 g_row x1 n k x2 g_draft g_drafts = some (s0, s1, s2, s3, s4) → W p l e rmX8_label s m args below meth c H locs 0 0 (KQ D A below args s (some (.int s0)) [oX8 a g_undos g_listed s2 g_length g_besides g_gapFirst g_gapLast g_layings g_first g_behind g_clauses s4, ar cI (a 1) 5058 g_row, ar cI (a 5) 200 s1, ar cI (a 24) 200 s3]) (F0 m 17 ls []) := by
  have hx := C.1.1
  have hb := C.1.2.1
  intro n
  induction n with
  | zero =>
    intro x2 g_draft g_drafts H locs ls hw hl h
    rw [fX8_label_17] at h
    cases h
  | succ n ih =>
    intro x2 g_draft g_drafts H locs ls hw hl h
    rw [fX8_label_17] at h
    refine lv_iload_n hx hb dX8_label_17 rfl (lv_at hl 2 rfl) ?_
    refine lv_aload_n hx hb dX8_label_18 rfl (lv_at hl 0 rfl) ?_
    refine k_get C inT_X8 hw 0 rfl rfl 0 (by decide) mF_X8_7 rfl dX8_label_19 ?_
    refine lv_iconst (v := 0) hx hb dX8_label_22 (by decide) ?_
    obtain ⟨y23, q23, h⟩ := bd h
    refine k_iald C hw 1 rfl q23 dX8_label_23 ?_
    refine lv_icmp_ge (tgt := 39) hx hb dX8_label_24 (by decide) (fun c24 => ?_) (fun c24 => ?_)
    · replace h := br_t' h c24
      exact hk _ _ _ _ _ _ hw (lv_sub hl [0, 1, 2] rfl) h
    · replace h := br_f' h c24
      refine lv_aload_n hx hb dX8_label_27 rfl (lv_at hl 0 rfl) ?_
      refine lv_iload_n hx hb dX8_label_28 rfl (lv_at hl 2 rfl) ?_
      refine lv_iload_n hx hb dX8_label_29 rfl (lv_at hl 1 rfl) ?_
      obtain ⟨r30, q30, h⟩ := bd h
      refine k_callV (nC := 4) [oX8 a g_undos g_listed g_papers g_length g_besides g_gapFirst g_gapLast g_layings g_first g_behind g_clauses r30.2, ar cI (a 1) 5058 g_row, ar cI (a 5) 200 g_paper, ar cI (a 24) 200 r30.1] C hl.1 (tX8_labels (a := a) q30) mL_X8_293 mmX8_labels rfl rfl ⟨Nat.le_of_ble_eq_true rfl, Nat.le_of_ble_eq_true rfl⟩ rfl rfl rfl rfl (Nat.le_of_ble_eq_true rfl) hA hw [0, 1, 3] [2] rfl (by decide +kernel) rfl rfl rfl rfl dX8_label_30 (fun H locs hw30 => ?_)
      refine lv_iinc (v := (x2 + 1)) (lv' := [(2, .int (x2 + 1)), (0, .ref (a 0)), (1, .int x1)]) hx hb dX8_label_33 hl (k := 2) rfl rfl (by decide) rfl (fun ls hl => ?_)
      refine lv_goto (tgt := 17) hx hb dX8_label_36 (by decide) ?_
      exact ih _ _ _ _ _ _ hw30 (lv_sub hl [1, 2, 0] rfl) h
def fX8_label_60 (g_draft : Nat → Int32) (g_drafts : Int32) : (n : Nat) → (k : Int32 → (Nat → Int32) → Option (Int32 × (Nat → Int32) × Int32 × (Nat → Int32) × Int32)) → Int32 → (Nat → Int32) → Option (Int32 × (Nat → Int32) × Int32 × (Nat → Int32) × Int32)
  | 0, _, _, _ => none
  | n + 1, k, x2, g_paper =>
    if g_drafts ≤ x2 then
      k x2 g_paper
    else
      (ld 200 g_draft x2).bind fun y78 =>
      (sv 200 g_paper x2 y78).bind fun g79 =>
      fX8_label_60 g_draft g_drafts n k (x2 + 1) g79
set_option maxRecDepth 100000 in
set_option maxHeartbeats 4000000 in
theorem wX8_label_60 {p : Program} {l : Launch} {e : Env} {s : State} {m : MethodId} {args : Array Value} {below : List Frame} {meth : Method} {c : Code} {D : va_G} {cI : ClassId} {cS : GS} {A : Nat → Prop} {a : Nat → Nat} {g_row : Nat → Int32} {g_undos : Int32} {g_listed : Int32} {g_papers : Int32} {g_length : Int32} {g_besides : Int32} {g_gapFirst : Int32} {g_gapLast : Int32} {g_layings : Int32} {g_first : Int32} {g_behind : Int32} {g_clauses : Int32} {g_draft : Nat → Int32} {g_drafts : Int32} (C : MC p s m args meth c D cI cS A RX8 cX8_label 3 (some .int)) (hA : ∀ q, s.heap.size ≤ q → A q) {s0 : Int32} {s1 : (Nat → Int32)} {s2 : Int32} {s3 : (Nat → Int32)} {s4 : Int32} (k : Int32 → (Nat → Int32) → Option (Int32 × (Nat → Int32) × Int32 × (Nat → Int32) × Int32)) (hk : ∀ (x2 : Int32) (g_paper : Nat → Int32) (H : Heap) (locs : List Loc) (ls : Array Slot), Wd D A s.heap H locs [oX8 a g_undos g_listed g_papers g_length g_besides g_gapFirst g_gapLast g_layings g_first g_behind g_clauses g_drafts, ar cI (a 1) 5058 g_row, ar cI (a 5) 200 g_paper, ar cI (a 24) 200 g_draft] → lv_has ls 3 [(0, .ref (a 0)), (2, .int x2)] → k x2 g_paper = some (s0, s1, s2, s3, s4) → W p l e rmX8_label s m args below meth c H locs 0 0 (KQ D A below args s (some (.int s0)) [oX8 a g_undos g_listed s2 g_length g_besides g_gapFirst g_gapLast g_layings g_first g_behind g_clauses s4, ar cI (a 1) 5058 g_row, ar cI (a 5) 200 s1, ar cI (a 24) 200 s3]) (F0 m 86 ls [])) :
    ∀ (n : Nat) (x2 : Int32) (g_paper : Nat → Int32) (H : Heap) (locs : List Loc) (ls : Array Slot), Wd D A s.heap H locs [oX8 a g_undos g_listed g_papers g_length g_besides g_gapFirst g_gapLast g_layings g_first g_behind g_clauses g_drafts, ar cI (a 1) 5058 g_row, ar cI (a 5) 200 g_paper, ar cI (a 24) 200 g_draft] → lv_has ls 3 [(0, .ref (a 0)), (2, .int x2)] → fX8_label_60 g_draft g_drafts n k x2 g_paper = some (s0, s1, s2, s3, s4) → W p l e rmX8_label s m args below meth c H locs 0 0 (KQ D A below args s (some (.int s0)) [oX8 a g_undos g_listed s2 g_length g_besides g_gapFirst g_gapLast g_layings g_first g_behind g_clauses s4, ar cI (a 1) 5058 g_row, ar cI (a 5) 200 s1, ar cI (a 24) 200 s3]) (F0 m 60 ls []) := by
  have hx := C.1.1
  have hb := C.1.2.1
  intro n
  induction n with
  | zero =>
    intro x2 g_paper H locs ls hw hl h
    rw [fX8_label_60] at h
    cases h
  | succ n ih =>
    intro x2 g_paper H locs ls hw hl h
    rw [fX8_label_60] at h
    refine lv_iload_n hx hb dX8_label_60 rfl (lv_at hl 1 rfl) ?_
    refine lv_aload_n hx hb dX8_label_61 rfl (lv_at hl 0 rfl) ?_
    refine k_get C inT_X8 hw 0 rfl rfl 24 (by decide) mF_X8_280 rfl dX8_label_62 ?_
    refine lv_icmp_ge (tgt := 86) hx hb dX8_label_65 (by decide) (fun c65 => ?_) (fun c65 => ?_)
    · replace h := br_t' h c65
      exact hk _ _ _ _ _ hw (lv_sub hl [0, 1] rfl) h
    · replace h := br_f' h c65
      refine lv_aload_n hx hb dX8_label_68 rfl (lv_at hl 0 rfl) ?_
      refine k_get C inT_X8 hw 0 rfl rfl 4 (by decide) mF_X8_16 rfl dX8_label_69 ?_
      refine lv_iload_n hx hb dX8_label_72 rfl (lv_at hl 1 rfl) ?_
      refine lv_aload_n hx hb dX8_label_73 rfl (lv_at hl 0 rfl) ?_
      refine k_get C inT_X8 hw 0 rfl rfl 23 (by decide) mF_X8_46 rfl dX8_label_74 ?_
      refine lv_iload_n hx hb dX8_label_77 rfl (lv_at hl 1 rfl) ?_
      obtain ⟨y78, q78, h⟩ := bd h
      refine k_iald C hw 3 rfl q78 dX8_label_78 ?_
      obtain ⟨g79, q79, h⟩ := bd h
      refine k_iast C hw 2 rfl q79 [oX8 a g_undos g_listed g_papers g_length g_besides g_gapFirst g_gapLast g_layings g_first g_behind g_clauses g_drafts, ar cI (a 1) 5058 g_row, ar cI (a 5) 200 g79, ar cI (a 24) 200 g_draft] rfl dX8_label_79 (fun H locs hw79 => ?_)
      refine lv_iinc (v := (x2 + 1)) (lv' := [(2, .int (x2 + 1)), (0, .ref (a 0))]) hx hb dX8_label_80 hl (k := 1) rfl rfl (by decide) rfl (fun ls hl => ?_)
      refine lv_goto (tgt := 60) hx hb dX8_label_83 (by decide) ?_
      exact ih _ _ _ _ _ hw79 (lv_sub hl [1, 0] rfl) h
def fX8_label (g_row : Nat → Int32) (g_paper : Nat → Int32) (g_papers : Int32) (g_draft : Nat → Int32) (g_drafts : Int32) (x1 : Int32) : Option (Int32 × (Nat → Int32) × Int32 × (Nat → Int32) × Int32) :=
  (fX8_isBox x1).bind fun r1 =>
  if r1 = 0 then
    some ((-2), g_paper, g_papers, g_draft, g_drafts)
  else
    fX8_label_17 g_row x1 FU (fun x2_17 g_draft_17 g_drafts_17 =>
      (fX8_labels g_row g_draft_17 g_drafts_17 (-1) x1).bind fun r42 =>
      if r42.2 ≤ 200 then
        fX8_label_60 r42.1 r42.2 FU (fun x2_60 g_paper_60 =>
          some (r42.2, g_paper_60, r42.2, r42.1, r42.2)) 0 g_paper
      else
        some ((-5), g_paper, g_papers, r42.1, r42.2)) 0 g_draft 0
set_option maxRecDepth 100000 in
set_option maxHeartbeats 4000000 in
theorem tX8_label {l : Launch} {D : va_G} {cI : ClassId} {cS : GS} {a : Nat → Nat} {g_row : Nat → Int32} {g_undos : Int32} {g_listed : Int32} {g_paper : Nat → Int32} {g_papers : Int32} {g_length : Int32} {g_besides : Int32} {g_gapFirst : Int32} {g_gapLast : Int32} {g_layings : Int32} {g_first : Int32} {g_behind : Int32} {g_clauses : Int32} {g_draft : Nat → Int32} {g_drafts : Int32} {x1 : Int32} {s0 : Int32} {s1 : (Nat → Int32)} {s2 : Int32} {s3 : (Nat → Int32)} {s4 : Int32} (h : fX8_label g_row g_paper g_papers g_draft g_drafts x1 = some (s0, s1, s2, s3, s4)) : CT l D cI cS yX8_label cX8_label 3 (some .int) rmX8_label [.ref (a 0), .int x1] [oX8 a g_undos g_listed g_papers g_length g_besides g_gapFirst g_gapLast g_layings g_first g_behind g_clauses g_drafts, ar cI (a 1) 5058 g_row, ar cI (a 5) 200 g_paper, ar cI (a 24) 200 g_draft] (some (.int s0)) [oX8 a g_undos g_listed s2 g_length g_besides g_gapFirst g_gapLast g_layings g_first g_behind g_clauses s4, ar cI (a 1) 5058 g_row, ar cI (a 5) 200 s1, ar cI (a 24) 200 s3] := by
  refine CT.of RX8 (by decide) rfl (Nat.le_of_ble_eq_true rfl) (fun p e s m below meth c ls A C hA hl hw => ?_)
  have hx := C.1.1
  have hb := C.1.2.1
  have hl : lv_has ls 3 [(0, .ref (a 0)), (1, .int x1)] := hl
  unfold fX8_label at h
  refine lv_iload_n hx hb dX8_label_0 rfl (lv_at hl 1 rfl) ?_
  obtain ⟨r1, q1, h⟩ := bd h
  refine k_callS (nC := 4) [oX8 a g_undos g_listed g_papers g_length g_besides g_gapFirst g_gapLast g_layings g_first g_behind g_clauses g_drafts, ar cI (a 1) 5058 g_row, ar cI (a 5) 200 g_paper, ar cI (a 24) 200 g_draft] C hl.1 (tX8_isBox q1) mL_X8_212 mmX8_isBox rfl rfl ⟨Nat.le_of_ble_eq_true rfl, Nat.le_of_ble_eq_true rfl⟩ rfl rfl (Nat.le_of_ble_eq_true rfl) hA hw [] [0, 1, 2, 3] rfl (by decide +kernel) rfl rfl rfl rfl dX8_label_1 (fun H locs hw1 => ?_)
  refine lv_if_ne (tgt := 10) hx hb dX8_label_4 (by decide) (fun c4 => ?_) (fun c4 => ?_)
  · replace h := br_f' h c4
    refine lv_aload_n hx hb dX8_label_10 rfl (lv_at hl 0 rfl) ?_
    refine lv_iconst (v := 0) hx hb dX8_label_11 (by decide) ?_
    refine k_put C inT_X8 tyX8 tyX8_ok nmX8 hw1 0 rfl rfl 24 (by decide) mF_X8_280 rfl rfl (Nat.le_of_ble_eq_true rfl) [oX8 a g_undos g_listed g_papers g_length g_besides g_gapFirst g_gapLast g_layings g_first g_behind g_clauses 0, ar cI (a 1) 5058 g_row, ar cI (a 5) 200 g_paper, ar cI (a 24) 200 g_draft] rfl dX8_label_12 (fun H locs hw12 => ?_)
    refine lv_iconst (v := 0) hx hb dX8_label_15 (by decide) ?_
    refine lv_istore_n (lv' := [(2, .int 0), (0, .ref (a 0)), (1, .int x1)]) hx hb dX8_label_16 rfl hl (by decide) rfl (fun ls hl => ?_)
    refine wX8_label_17 C hA _ (fun x2_17 g_draft_17 g_drafts_17 H locs ls hw17x hl h => ?_) FU _ _ _ _ _ _ hw12 (lv_sub hl [1, 2, 0] rfl) h
    refine lv_aload_n hx hb dX8_label_39 rfl (lv_at hl 0 rfl) ?_
    refine lv_iconst (v := (-1)) hx hb dX8_label_40 (by decide) ?_
    refine lv_iload_n hx hb dX8_label_41 rfl (lv_at hl 1 rfl) ?_
    obtain ⟨r42, q42, h⟩ := bd h
    refine k_callV (nC := 4) [oX8 a g_undos g_listed g_papers g_length g_besides g_gapFirst g_gapLast g_layings g_first g_behind g_clauses r42.2, ar cI (a 1) 5058 g_row, ar cI (a 5) 200 g_paper, ar cI (a 24) 200 r42.1] C hl.1 (tX8_labels (a := a) q42) mL_X8_293 mmX8_labels rfl rfl ⟨Nat.le_of_ble_eq_true rfl, Nat.le_of_ble_eq_true rfl⟩ rfl rfl rfl rfl (Nat.le_of_ble_eq_true rfl) hA hw17x [0, 1, 3] [2] rfl (by decide +kernel) rfl rfl rfl rfl dX8_label_42 (fun H locs hw42 => ?_)
    refine lv_aload_n hx hb dX8_label_45 rfl (lv_at hl 0 rfl) ?_
    refine k_get C inT_X8 hw42 0 rfl rfl 24 (by decide) mF_X8_280 rfl dX8_label_46 ?_
    refine lv_sipush (v := 200) hx hb dX8_label_49 (by decide) ?_
    refine lv_icmp_le (tgt := 58) hx hb dX8_label_52 (by decide) (fun c52 => ?_) (fun c52 => ?_)
    · replace h := br_t' h c52
      refine lv_iconst (v := 0) hx hb dX8_label_58 (by decide) ?_
      refine lv_istore_n (lv' := [(2, .int 0), (0, .ref (a 0)), (1, .int x1)]) hx hb dX8_label_59 rfl hl (by decide) rfl (fun ls hl => ?_)
      refine wX8_label_60 C hA _ (fun x2_60 g_paper_60 H locs ls hw60x hl h => ?_) FU _ _ _ _ _ hw42 (lv_sub hl [1, 0] rfl) h
      refine lv_aload_n hx hb dX8_label_86 rfl (lv_at hl 0 rfl) ?_
      refine lv_aload_n hx hb dX8_label_87 rfl (lv_at hl 0 rfl) ?_
      refine k_get C inT_X8 hw60x 0 rfl rfl 24 (by decide) mF_X8_280 rfl dX8_label_88 ?_
      refine k_put C inT_X8 tyX8 tyX8_ok nmX8 hw60x 0 rfl rfl 5 (by decide) mF_X8_53 rfl rfl (Nat.le_of_ble_eq_true rfl) [oX8 a g_undos g_listed r42.2 g_length g_besides g_gapFirst g_gapLast g_layings g_first g_behind g_clauses r42.2, ar cI (a 1) 5058 g_row, ar cI (a 5) 200 g_paper_60, ar cI (a 24) 200 r42.1] rfl dX8_label_91 (fun H locs hw91 => ?_)
      refine lv_aload_n hx hb dX8_label_94 rfl (lv_at hl 0 rfl) ?_
      refine k_get C inT_X8 hw91 0 rfl rfl 5 (by decide) mF_X8_53 rfl dX8_label_95 ?_
      cases h
      exact k_iret C hw91 dX8_label_98
    · replace h := br_f' h c52
      refine lv_bipush (v := (-5)) hx hb dX8_label_55 (by decide) ?_
      cases h
      exact k_iret C hw42 dX8_label_57
  · replace h := br_t' h c4
    refine lv_bipush (v := (-2)) hx hb dX8_label_7 (by decide) ?_
    cases h
    exact k_iret C hw1 dX8_label_9
def rmX8_paper : Room := { frames := 1, cells := 0, slots := 0, locals := 25 }
def fX8_paper (g_paper : Nat → Int32) (g_papers : Int32) (x1 : Int32) : Option (Int32) :=
  (fX8_in x1.toInt64 0 ((g_papers - 1).toInt64)).bind fun r10 =>
  if r10 = 0 then
    some (-1)
  else
    (ld 200 g_paper x1).bind fun y21 =>
    some y21
set_option maxRecDepth 100000 in
set_option maxHeartbeats 4000000 in
theorem tX8_paper {l : Launch} {D : va_G} {cI : ClassId} {cS : GS} {a : Nat → Nat} {g_undos : Int32} {g_listed : Int32} {g_paper : Nat → Int32} {g_papers : Int32} {g_length : Int32} {g_besides : Int32} {g_gapFirst : Int32} {g_gapLast : Int32} {g_layings : Int32} {g_first : Int32} {g_behind : Int32} {g_clauses : Int32} {g_drafts : Int32} {x1 : Int32} {s0 : Int32} (h : fX8_paper g_paper g_papers x1 = some s0) : CT l D cI cS yX8_paper cX8_paper 2 (some .int) rmX8_paper [.ref (a 0), .int x1] [oX8 a g_undos g_listed g_papers g_length g_besides g_gapFirst g_gapLast g_layings g_first g_behind g_clauses g_drafts, ar cI (a 5) 200 g_paper] (some (.int s0)) [oX8 a g_undos g_listed g_papers g_length g_besides g_gapFirst g_gapLast g_layings g_first g_behind g_clauses g_drafts, ar cI (a 5) 200 g_paper] := by
  refine CT.of RX8 (by decide) rfl (Nat.le_of_ble_eq_true rfl) (fun p e s m below meth c ls A C hA hl hw => ?_)
  have hx := C.1.1
  have hb := C.1.2.1
  have hl : lv_has ls 2 [(0, .ref (a 0)), (1, .int x1)] := hl
  unfold fX8_paper at h
  refine lv_iload_n hx hb dX8_paper_0 rfl (lv_at hl 1 rfl) ?_
  refine lv_i2l (v := x1.toInt64) hx hb dX8_paper_1 rfl ?_
  refine lv_lconst (v := 0) hx hb dX8_paper_2 (by decide) ?_
  refine lv_aload_n hx hb dX8_paper_3 rfl (lv_at hl 0 rfl) ?_
  refine k_get C inT_X8 hw 0 rfl rfl 5 (by decide) mF_X8_53 rfl dX8_paper_4 ?_
  refine lv_iconst (v := 1) hx hb dX8_paper_7 (by decide) ?_
  refine lv_isub hx hb dX8_paper_8 ?_
  refine lv_i2l (v := (g_papers - 1).toInt64) hx hb dX8_paper_9 rfl ?_
  obtain ⟨r10, q10, h⟩ := bd h
  refine k_callS (nC := 2) [oX8 a g_undos g_listed g_papers g_length g_besides g_gapFirst g_gapLast g_layings g_first g_behind g_clauses g_drafts, ar cI (a 5) 200 g_paper] C hl.1 (tX8_in q10) mL_X8_58 mmX8_in rfl rfl ⟨Nat.le_of_ble_eq_true rfl, Nat.le_of_ble_eq_true rfl⟩ rfl rfl (Nat.le_of_ble_eq_true rfl) hA hw [] [0, 1] rfl (by decide +kernel) rfl rfl rfl rfl dX8_paper_10 (fun H locs hw10 => ?_)
  refine lv_if_eq (tgt := 25) hx hb dX8_paper_13 (by decide) (fun c13 => ?_) (fun c13 => ?_)
  · replace h := br_t' h c13
    refine lv_iconst (v := (-1)) hx hb dX8_paper_25 (by decide) ?_
    cases h
    exact k_iret C hw10 dX8_paper_26
  · replace h := br_f' h c13
    refine lv_aload_n hx hb dX8_paper_16 rfl (lv_at hl 0 rfl) ?_
    refine k_get C inT_X8 hw10 0 rfl rfl 4 (by decide) mF_X8_16 rfl dX8_paper_17 ?_
    refine lv_iload_n hx hb dX8_paper_20 rfl (lv_at hl 1 rfl) ?_
    obtain ⟨y21, q21, h⟩ := bd h
    refine k_iald C hw10 1 rfl q21 dX8_paper_21 ?_
    refine lv_goto (tgt := 26) hx hb dX8_paper_22 (by decide) ?_
    cases h
    exact k_iret C hw10 dX8_paper_26
def rmX8_plan : Room := { frames := 5, cells := 0, slots := 0, locals := 117 }
def fX8_plan (g_row : Nat → Int32) (g_gapFirst : Int32) (g_gapLast : Int32) (g_laying : Nat → Int32) (g_layings : Int32) (g_free : Nat → Int32) (x1 : Int32) (x2 : Int32) (x3 : Int32) : Option (Int32 × Int32 × Int32 × (Nat → Int32) × Int32 × (Nat → Int32)) :=
  (fX8_isSeries g_row x1).bind fun r2 =>
  if r2 = 0 then
    some ((-2), g_gapFirst, g_gapLast, g_laying, g_layings, g_free)
  else
    if x2 < (-1) then
      some ((-3), g_gapFirst, g_gapLast, g_laying, g_layings, g_free)
    else
      if x2 = (-1) then
        (fX8_plans g_row g_gapFirst g_gapLast g_laying g_layings g_free x1).bind fun r38 =>
        if x2 = (-1) then
          some (r38.2.2.2.1, r38.1, r38.2.1, r38.2.2.1, r38.2.2.2.1, r38.2.2.2.2)
        else
          if r38.2.2.2.1 ≤ x2 then
            some ((-1), r38.1, r38.2.1, r38.2.2.1, r38.2.2.2.1, r38.2.2.2.2)
          else
            (ld 192 r38.2.2.1 ((3 * x2) + x3)).bind fun y70 =>
            some (y70, r38.1, r38.2.1, r38.2.2.1, r38.2.2.2.1, r38.2.2.2.2)
      else
        (fX8_in x3.toInt64 0 2).bind fun r27 =>
        if r27 = 0 then
          some ((-3), g_gapFirst, g_gapLast, g_laying, g_layings, g_free)
        else
          (fX8_plans g_row g_gapFirst g_gapLast g_laying g_layings g_free x1).bind fun r38 =>
          if x2 = (-1) then
            some (r38.2.2.2.1, r38.1, r38.2.1, r38.2.2.1, r38.2.2.2.1, r38.2.2.2.2)
          else
            if r38.2.2.2.1 ≤ x2 then
              some ((-1), r38.1, r38.2.1, r38.2.2.1, r38.2.2.2.1, r38.2.2.2.2)
            else
              (ld 192 r38.2.2.1 ((3 * x2) + x3)).bind fun y70 =>
              some (y70, r38.1, r38.2.1, r38.2.2.1, r38.2.2.2.1, r38.2.2.2.2)
set_option maxRecDepth 100000 in
set_option maxHeartbeats 4000000 in
theorem tX8_plan {l : Launch} {D : va_G} {cI : ClassId} {cS : GS} {a : Nat → Nat} {g_row : Nat → Int32} {g_undos : Int32} {g_listed : Int32} {g_papers : Int32} {g_length : Int32} {g_besides : Int32} {g_gapFirst : Int32} {g_gapLast : Int32} {g_laying : Nat → Int32} {g_layings : Int32} {g_free : Nat → Int32} {g_first : Int32} {g_behind : Int32} {g_clauses : Int32} {g_drafts : Int32} {x1 : Int32} {x2 : Int32} {x3 : Int32} {s0 : Int32} {s1 : Int32} {s2 : Int32} {s3 : (Nat → Int32)} {s4 : Int32} {s5 : (Nat → Int32)} (h : fX8_plan g_row g_gapFirst g_gapLast g_laying g_layings g_free x1 x2 x3 = some (s0, s1, s2, s3, s4, s5)) : CT l D cI cS yX8_plan cX8_plan 4 (some .int) rmX8_plan [.ref (a 0), .int x1, .int x2, .int x3] [oX8 a g_undos g_listed g_papers g_length g_besides g_gapFirst g_gapLast g_layings g_first g_behind g_clauses g_drafts, ar cI (a 1) 5058 g_row, ar cI (a 13) 192 g_laying, ar cI (a 15) 8 g_free] (some (.int s0)) [oX8 a g_undos g_listed g_papers g_length g_besides s1 s2 s4 g_first g_behind g_clauses g_drafts, ar cI (a 1) 5058 g_row, ar cI (a 13) 192 s3, ar cI (a 15) 8 s5] := by
  refine CT.of RX8 (by decide) rfl (Nat.le_of_ble_eq_true rfl) (fun p e s m below meth c ls A C hA hl hw => ?_)
  have hx := C.1.1
  have hb := C.1.2.1
  have hl : lv_has ls 4 [(0, .ref (a 0)), (1, .int x1), (2, .int x2), (3, .int x3)] := hl
  unfold fX8_plan at h
  refine lv_aload_n hx hb dX8_plan_0 rfl (lv_at hl 0 rfl) ?_
  refine lv_iload_n hx hb dX8_plan_1 rfl (lv_at hl 1 rfl) ?_
  obtain ⟨r2, q2, h⟩ := bd h
  refine k_callV (nC := 4) [oX8 a g_undos g_listed g_papers g_length g_besides g_gapFirst g_gapLast g_layings g_first g_behind g_clauses g_drafts, ar cI (a 1) 5058 g_row, ar cI (a 13) 192 g_laying, ar cI (a 15) 8 g_free] C hl.1 (tX8_isSeries (a := a) q2) mL_X8_200 mmX8_isSeries rfl rfl ⟨Nat.le_of_ble_eq_true rfl, Nat.le_of_ble_eq_true rfl⟩ rfl rfl rfl rfl (Nat.le_of_ble_eq_true rfl) hA hw [0, 1] [2, 3] rfl (by decide +kernel) rfl rfl rfl rfl dX8_plan_2 (fun H locs hw2 => ?_)
  refine lv_if_ne (tgt := 11) hx hb dX8_plan_5 (by decide) (fun c5 => ?_) (fun c5 => ?_)
  · replace h := br_f' h c5
    refine lv_iload_n hx hb dX8_plan_11 rfl (lv_at hl 2 rfl) ?_
    refine lv_iconst (v := (-1)) hx hb dX8_plan_12 (by decide) ?_
    refine lv_icmp_lt (tgt := 33) hx hb dX8_plan_13 (by decide) (fun c13 => ?_) (fun c13 => ?_)
    · replace h := br_t' h c13
      refine lv_bipush (v := (-3)) hx hb dX8_plan_33 (by decide) ?_
      cases h
      exact k_iret C hw2 dX8_plan_35
    · replace h := br_f' h c13
      refine lv_iload_n hx hb dX8_plan_16 rfl (lv_at hl 2 rfl) ?_
      refine lv_iconst (v := (-1)) hx hb dX8_plan_17 (by decide) ?_
      refine lv_icmp_eq (tgt := 36) hx hb dX8_plan_18 (by decide) (fun c18 => ?_) (fun c18 => ?_)
      · replace h := br_t' h c18
        refine lv_aload_n hx hb dX8_plan_36 rfl (lv_at hl 0 rfl) ?_
        refine lv_iload_n hx hb dX8_plan_37 rfl (lv_at hl 1 rfl) ?_
        obtain ⟨r38, q38, h⟩ := bd h
        refine k_callV (nC := 4) [oX8 a g_undos g_listed g_papers g_length g_besides r38.1 r38.2.1 r38.2.2.2.1 g_first g_behind g_clauses g_drafts, ar cI (a 1) 5058 g_row, ar cI (a 13) 192 r38.2.2.1, ar cI (a 15) 8 r38.2.2.2.2] C hl.1 (tX8_plans (a := a) q38) mL_X8_225 mmX8_plans rfl rfl ⟨Nat.le_of_ble_eq_true rfl, Nat.le_of_ble_eq_true rfl⟩ rfl rfl rfl rfl (Nat.le_of_ble_eq_true rfl) hA hw2 [0, 1, 2, 3] [] rfl (by decide +kernel) rfl rfl rfl rfl dX8_plan_38 (fun H locs hw38 => ?_)
        refine lv_iload_n hx hb dX8_plan_41 rfl (lv_at hl 2 rfl) ?_
        refine lv_iconst (v := (-1)) hx hb dX8_plan_42 (by decide) ?_
        refine lv_icmp_ne (tgt := 53) hx hb dX8_plan_43 (by decide) (fun c43 => ?_) (fun c43 => ?_)
        · replace h := br_f' h c43
          refine lv_iload_n hx hb dX8_plan_53 rfl (lv_at hl 2 rfl) ?_
          refine lv_aload_n hx hb dX8_plan_54 rfl (lv_at hl 0 rfl) ?_
          refine k_get C inT_X8 hw38 0 rfl rfl 13 (by decide) mF_X8_116 rfl dX8_plan_55 ?_
          refine lv_icmp_ge (tgt := 74) hx hb dX8_plan_58 (by decide) (fun c58 => ?_) (fun c58 => ?_)
          · replace h := br_t' h c58
            refine lv_iconst (v := (-1)) hx hb dX8_plan_74 (by decide) ?_
            cases h
            exact k_iret C hw38 dX8_plan_75
          · replace h := br_f' h c58
            refine lv_aload_n hx hb dX8_plan_61 rfl (lv_at hl 0 rfl) ?_
            refine k_get C inT_X8 hw38 0 rfl rfl 12 (by decide) mF_X8_25 rfl dX8_plan_62 ?_
            refine lv_iconst (v := 3) hx hb dX8_plan_65 (by decide) ?_
            refine lv_iload_n hx hb dX8_plan_66 rfl (lv_at hl 2 rfl) ?_
            refine lv_imul hx hb dX8_plan_67 ?_
            refine lv_iload_n hx hb dX8_plan_68 rfl (lv_at hl 3 rfl) ?_
            refine lv_iadd hx hb dX8_plan_69 ?_
            obtain ⟨y70, q70, h⟩ := bd h
            refine k_iald C hw38 2 rfl q70 dX8_plan_70 ?_
            refine lv_goto (tgt := 75) hx hb dX8_plan_71 (by decide) ?_
            cases h
            exact k_iret C hw38 dX8_plan_75
        · replace h := br_t' h c43
          refine lv_aload_n hx hb dX8_plan_46 rfl (lv_at hl 0 rfl) ?_
          refine k_get C inT_X8 hw38 0 rfl rfl 13 (by decide) mF_X8_116 rfl dX8_plan_47 ?_
          refine lv_goto (tgt := 75) hx hb dX8_plan_50 (by decide) ?_
          cases h
          exact k_iret C hw38 dX8_plan_75
      · replace h := br_f' h c18
        refine lv_iload_n hx hb dX8_plan_21 rfl (lv_at hl 3 rfl) ?_
        refine lv_i2l (v := x3.toInt64) hx hb dX8_plan_22 rfl ?_
        refine lv_lconst (v := 0) hx hb dX8_plan_23 (by decide) ?_
        refine k_ldc2 C mD_X8_255 dX8_plan_24 ?_
        obtain ⟨r27, q27, h⟩ := bd h
        refine k_callS (nC := 4) [oX8 a g_undos g_listed g_papers g_length g_besides g_gapFirst g_gapLast g_layings g_first g_behind g_clauses g_drafts, ar cI (a 1) 5058 g_row, ar cI (a 13) 192 g_laying, ar cI (a 15) 8 g_free] C hl.1 (tX8_in q27) mL_X8_58 mmX8_in rfl rfl ⟨Nat.le_of_ble_eq_true rfl, Nat.le_of_ble_eq_true rfl⟩ rfl rfl (Nat.le_of_ble_eq_true rfl) hA hw2 [] [0, 1, 2, 3] rfl (by decide +kernel) rfl rfl rfl rfl dX8_plan_27 (fun H locs hw27 => ?_)
        refine lv_if_ne (tgt := 36) hx hb dX8_plan_30 (by decide) (fun c30 => ?_) (fun c30 => ?_)
        · replace h := br_f' h c30
          refine lv_aload_n hx hb dX8_plan_36 rfl (lv_at hl 0 rfl) ?_
          refine lv_iload_n hx hb dX8_plan_37 rfl (lv_at hl 1 rfl) ?_
          obtain ⟨r38, q38, h⟩ := bd h
          refine k_callV (nC := 4) [oX8 a g_undos g_listed g_papers g_length g_besides r38.1 r38.2.1 r38.2.2.2.1 g_first g_behind g_clauses g_drafts, ar cI (a 1) 5058 g_row, ar cI (a 13) 192 r38.2.2.1, ar cI (a 15) 8 r38.2.2.2.2] C hl.1 (tX8_plans (a := a) q38) mL_X8_225 mmX8_plans rfl rfl ⟨Nat.le_of_ble_eq_true rfl, Nat.le_of_ble_eq_true rfl⟩ rfl rfl rfl rfl (Nat.le_of_ble_eq_true rfl) hA hw27 [0, 1, 2, 3] [] rfl (by decide +kernel) rfl rfl rfl rfl dX8_plan_38 (fun H locs hw38 => ?_)
          refine lv_iload_n hx hb dX8_plan_41 rfl (lv_at hl 2 rfl) ?_
          refine lv_iconst (v := (-1)) hx hb dX8_plan_42 (by decide) ?_
          refine lv_icmp_ne (tgt := 53) hx hb dX8_plan_43 (by decide) (fun c43 => ?_) (fun c43 => ?_)
          · replace h := br_f' h c43
            refine lv_iload_n hx hb dX8_plan_53 rfl (lv_at hl 2 rfl) ?_
            refine lv_aload_n hx hb dX8_plan_54 rfl (lv_at hl 0 rfl) ?_
            refine k_get C inT_X8 hw38 0 rfl rfl 13 (by decide) mF_X8_116 rfl dX8_plan_55 ?_
            refine lv_icmp_ge (tgt := 74) hx hb dX8_plan_58 (by decide) (fun c58 => ?_) (fun c58 => ?_)
            · replace h := br_t' h c58
              refine lv_iconst (v := (-1)) hx hb dX8_plan_74 (by decide) ?_
              cases h
              exact k_iret C hw38 dX8_plan_75
            · replace h := br_f' h c58
              refine lv_aload_n hx hb dX8_plan_61 rfl (lv_at hl 0 rfl) ?_
              refine k_get C inT_X8 hw38 0 rfl rfl 12 (by decide) mF_X8_25 rfl dX8_plan_62 ?_
              refine lv_iconst (v := 3) hx hb dX8_plan_65 (by decide) ?_
              refine lv_iload_n hx hb dX8_plan_66 rfl (lv_at hl 2 rfl) ?_
              refine lv_imul hx hb dX8_plan_67 ?_
              refine lv_iload_n hx hb dX8_plan_68 rfl (lv_at hl 3 rfl) ?_
              refine lv_iadd hx hb dX8_plan_69 ?_
              obtain ⟨y70, q70, h⟩ := bd h
              refine k_iald C hw38 2 rfl q70 dX8_plan_70 ?_
              refine lv_goto (tgt := 75) hx hb dX8_plan_71 (by decide) ?_
              cases h
              exact k_iret C hw38 dX8_plan_75
          · replace h := br_t' h c43
            refine lv_aload_n hx hb dX8_plan_46 rfl (lv_at hl 0 rfl) ?_
            refine k_get C inT_X8 hw38 0 rfl rfl 13 (by decide) mF_X8_116 rfl dX8_plan_47 ?_
            refine lv_goto (tgt := 75) hx hb dX8_plan_50 (by decide) ?_
            cases h
            exact k_iret C hw38 dX8_plan_75
        · replace h := br_t' h c30
          refine lv_bipush (v := (-3)) hx hb dX8_plan_33 (by decide) ?_
          cases h
          exact k_iret C hw27 dX8_plan_35
  · replace h := br_t' h c5
    refine lv_bipush (v := (-2)) hx hb dX8_plan_8 (by decide) ?_
    cases h
    exact k_iret C hw2 dX8_plan_10
def rmX8_left : Room := { frames := 5, cells := 0, slots := 0, locals := 117 }
def fX8_left_48 (g_laying : Nat → Int32) (g_layings : Int32) : (n : Nat) → (k : Int32 → Int32 → Option (Int32 × Int32 × Int32 × (Nat → Int32) × Int32 × (Nat → Int32))) → Int32 → Int32 → Option (Int32 × Int32 × Int32 × (Nat → Int32) × Int32 × (Nat → Int32))
  | 0, _, _, _ => none
  | n + 1, k, x2, x3 =>
    if g_layings ≤ x3 then
      k x2 x3
    else
      (ld 192 g_laying ((3 * x3) + 1)).bind fun y66 =>
      (ld 192 g_laying (3 * x3)).bind fun y74 =>
      fX8_left_48 g_laying g_layings n k (x2 - ((y66 - y74) + 1)) (x3 + 1)
set_option maxRecDepth 100000 in
set_option maxHeartbeats 4000000 in
theorem wX8_left_48 {p : Program} {l : Launch} {e : Env} {s : State} {m : MethodId} {args : Array Value} {below : List Frame} {meth : Method} {c : Code} {D : va_G} {cI : ClassId} {cS : GS} {A : Nat → Prop} {a : Nat → Nat} {g_row : Nat → Int32} {g_undos : Int32} {g_listed : Int32} {g_papers : Int32} {g_length : Int32} {g_besides : Int32} {g_gapFirst : Int32} {g_gapLast : Int32} {g_laying : Nat → Int32} {g_layings : Int32} {g_free : Nat → Int32} {g_first : Int32} {g_behind : Int32} {g_clauses : Int32} {g_drafts : Int32} (C : MC p s m args meth c D cI cS A RX8 cX8_left 4 (some .int)) (hA : ∀ q, s.heap.size ≤ q → A q) {s0 : Int32} {s1 : Int32} {s2 : Int32} {s3 : (Nat → Int32)} {s4 : Int32} {s5 : (Nat → Int32)} (k : Int32 → Int32 → Option (Int32 × Int32 × Int32 × (Nat → Int32) × Int32 × (Nat → Int32))) (hk : ∀ (x2 : Int32) (x3 : Int32) (H : Heap) (locs : List Loc) (ls : Array Slot), Wd D A s.heap H locs [oX8 a g_undos g_listed g_papers g_length g_besides g_gapFirst g_gapLast g_layings g_first g_behind g_clauses g_drafts, ar cI (a 1) 5058 g_row, ar cI (a 13) 192 g_laying, ar cI (a 15) 8 g_free] → lv_has ls 4 [(0, .ref (a 0)), (2, .int x2), (3, .int x3)] → k x2 x3 = some (s0, s1, s2, s3, s4, s5) → W p l e rmX8_left s m args below meth c H locs 0 0 (KQ D A below args s (some (.int s0)) [oX8 a g_undos g_listed g_papers g_length g_besides s1 s2 s4 g_first g_behind g_clauses g_drafts, ar cI (a 1) 5058 g_row, ar cI (a 13) 192 s3, ar cI (a 15) 8 s5]) (F0 m 86 ls [])) :
    ∀ (n : Nat) (x2 : Int32) (x3 : Int32) (H : Heap) (locs : List Loc) (ls : Array Slot), Wd D A s.heap H locs [oX8 a g_undos g_listed g_papers g_length g_besides g_gapFirst g_gapLast g_layings g_first g_behind g_clauses g_drafts, ar cI (a 1) 5058 g_row, ar cI (a 13) 192 g_laying, ar cI (a 15) 8 g_free] → lv_has ls 4 [(0, .ref (a 0)), (2, .int x2), (3, .int x3)] → fX8_left_48 g_laying g_layings n k x2 x3 = some (s0, s1, s2, s3, s4, s5) → W p l e rmX8_left s m args below meth c H locs 0 0 (KQ D A below args s (some (.int s0)) [oX8 a g_undos g_listed g_papers g_length g_besides s1 s2 s4 g_first g_behind g_clauses g_drafts, ar cI (a 1) 5058 g_row, ar cI (a 13) 192 s3, ar cI (a 15) 8 s5]) (F0 m 48 ls []) := by
  have hx := C.1.1
  have hb := C.1.2.1
  intro n
  induction n with
  | zero =>
    intro x2 x3 H locs ls hw hl h
    rw [fX8_left_48] at h
    cases h
  | succ n ih =>
    intro x2 x3 H locs ls hw hl h
    rw [fX8_left_48] at h
    refine lv_iload_n hx hb dX8_left_48 rfl (lv_at hl 2 rfl) ?_
    refine lv_aload_n hx hb dX8_left_49 rfl (lv_at hl 0 rfl) ?_
    refine k_get C inT_X8 hw 0 rfl rfl 13 (by decide) mF_X8_116 rfl dX8_left_50 ?_
    refine lv_icmp_ge (tgt := 86) hx hb dX8_left_53 (by decide) (fun c53 => ?_) (fun c53 => ?_)
    · replace h := br_t' h c53
      exact hk _ _ _ _ _ hw (lv_sub hl [0, 1, 2] rfl) h
    · replace h := br_f' h c53
      refine lv_iload_n hx hb dX8_left_56 rfl (lv_at hl 1 rfl) ?_
      refine lv_aload_n hx hb dX8_left_57 rfl (lv_at hl 0 rfl) ?_
      refine k_get C inT_X8 hw 0 rfl rfl 12 (by decide) mF_X8_25 rfl dX8_left_58 ?_
      refine lv_iconst (v := 3) hx hb dX8_left_61 (by decide) ?_
      refine lv_iload_n hx hb dX8_left_62 rfl (lv_at hl 2 rfl) ?_
      refine lv_imul hx hb dX8_left_63 ?_
      refine lv_iconst (v := 1) hx hb dX8_left_64 (by decide) ?_
      refine lv_iadd hx hb dX8_left_65 ?_
      obtain ⟨y66, q66, h⟩ := bd h
      refine k_iald C hw 2 rfl q66 dX8_left_66 ?_
      refine lv_aload_n hx hb dX8_left_67 rfl (lv_at hl 0 rfl) ?_
      refine k_get C inT_X8 hw 0 rfl rfl 12 (by decide) mF_X8_25 rfl dX8_left_68 ?_
      refine lv_iconst (v := 3) hx hb dX8_left_71 (by decide) ?_
      refine lv_iload_n hx hb dX8_left_72 rfl (lv_at hl 2 rfl) ?_
      refine lv_imul hx hb dX8_left_73 ?_
      obtain ⟨y74, q74, h⟩ := bd h
      refine k_iald C hw 2 rfl q74 dX8_left_74 ?_
      refine lv_isub hx hb dX8_left_75 ?_
      refine lv_iconst (v := 1) hx hb dX8_left_76 (by decide) ?_
      refine lv_iadd hx hb dX8_left_77 ?_
      refine lv_isub hx hb dX8_left_78 ?_
      refine lv_istore_n (lv' := [(2, .int (x2 - ((y66 - y74) + 1))), (0, .ref (a 0)), (3, .int x3)]) hx hb dX8_left_79 rfl hl (by decide) rfl (fun ls hl => ?_)
      refine lv_iinc (v := (x3 + 1)) (lv' := [(3, .int (x3 + 1)), (2, .int (x2 - ((y66 - y74) + 1))), (0, .ref (a 0))]) hx hb dX8_left_80 hl (k := 2) rfl rfl (by decide) rfl (fun ls hl => ?_)
      refine lv_goto (tgt := 48) hx hb dX8_left_83 (by decide) ?_
      exact ih _ _ _ _ _ hw (lv_sub hl [2, 1, 0] rfl) h
def fX8_left (g_row : Nat → Int32) (g_gapFirst : Int32) (g_gapLast : Int32) (g_laying : Nat → Int32) (g_layings : Int32) (g_free : Nat → Int32) (x1 : Int32) : Option (Int32 × Int32 × Int32 × (Nat → Int32) × Int32 × (Nat → Int32)) :=
  (fX8_isSeries g_row x1).bind fun r2 =>
  if r2 = 0 then
    some ((-2), g_gapFirst, g_gapLast, g_laying, g_layings, g_free)
  else
    (fX8_plans g_row g_gapFirst g_gapLast g_laying g_layings g_free x1).bind fun r13 =>
    (fX8_lastOf g_row x1).bind fun r18 =>
    (fX8_firstOf g_row x1).bind fun r23 =>
    (fX8_firstOf g_row x1).bind fun r33 =>
    (fX8_lastOf g_row x1).bind fun r38 =>
    (fX8_inBox g_row (-1) r33 r38).bind fun r41 =>
    fX8_left_48 r13.2.2.1 r13.2.2.2.1 FU (fun x2_48 x3_48 =>
      some (x2_48, r13.1, r13.2.1, r13.2.2.1, r13.2.2.2.1, r13.2.2.2.2)) (((r18 - r23) + 1) - r41) 0
set_option maxRecDepth 100000 in
set_option maxHeartbeats 4000000 in
theorem tX8_left {l : Launch} {D : va_G} {cI : ClassId} {cS : GS} {a : Nat → Nat} {g_row : Nat → Int32} {g_undos : Int32} {g_listed : Int32} {g_papers : Int32} {g_length : Int32} {g_besides : Int32} {g_gapFirst : Int32} {g_gapLast : Int32} {g_laying : Nat → Int32} {g_layings : Int32} {g_free : Nat → Int32} {g_first : Int32} {g_behind : Int32} {g_clauses : Int32} {g_drafts : Int32} {x1 : Int32} {s0 : Int32} {s1 : Int32} {s2 : Int32} {s3 : (Nat → Int32)} {s4 : Int32} {s5 : (Nat → Int32)} (h : fX8_left g_row g_gapFirst g_gapLast g_laying g_layings g_free x1 = some (s0, s1, s2, s3, s4, s5)) : CT l D cI cS yX8_left cX8_left 4 (some .int) rmX8_left [.ref (a 0), .int x1] [oX8 a g_undos g_listed g_papers g_length g_besides g_gapFirst g_gapLast g_layings g_first g_behind g_clauses g_drafts, ar cI (a 1) 5058 g_row, ar cI (a 13) 192 g_laying, ar cI (a 15) 8 g_free] (some (.int s0)) [oX8 a g_undos g_listed g_papers g_length g_besides s1 s2 s4 g_first g_behind g_clauses g_drafts, ar cI (a 1) 5058 g_row, ar cI (a 13) 192 s3, ar cI (a 15) 8 s5] := by
  refine CT.of RX8 (by decide) rfl (Nat.le_of_ble_eq_true rfl) (fun p e s m below meth c ls A C hA hl hw => ?_)
  have hx := C.1.1
  have hb := C.1.2.1
  have hl : lv_has ls 4 [(0, .ref (a 0)), (1, .int x1)] := hl
  unfold fX8_left at h
  refine lv_aload_n hx hb dX8_left_0 rfl (lv_at hl 0 rfl) ?_
  refine lv_iload_n hx hb dX8_left_1 rfl (lv_at hl 1 rfl) ?_
  obtain ⟨r2, q2, h⟩ := bd h
  refine k_callV (nC := 4) [oX8 a g_undos g_listed g_papers g_length g_besides g_gapFirst g_gapLast g_layings g_first g_behind g_clauses g_drafts, ar cI (a 1) 5058 g_row, ar cI (a 13) 192 g_laying, ar cI (a 15) 8 g_free] C hl.1 (tX8_isSeries (a := a) q2) mL_X8_200 mmX8_isSeries rfl rfl ⟨Nat.le_of_ble_eq_true rfl, Nat.le_of_ble_eq_true rfl⟩ rfl rfl rfl rfl (Nat.le_of_ble_eq_true rfl) hA hw [0, 1] [2, 3] rfl (by decide +kernel) rfl rfl rfl rfl dX8_left_2 (fun H locs hw2 => ?_)
  refine lv_if_ne (tgt := 11) hx hb dX8_left_5 (by decide) (fun c5 => ?_) (fun c5 => ?_)
  · replace h := br_f' h c5
    refine lv_aload_n hx hb dX8_left_11 rfl (lv_at hl 0 rfl) ?_
    refine lv_iload_n hx hb dX8_left_12 rfl (lv_at hl 1 rfl) ?_
    obtain ⟨r13, q13, h⟩ := bd h
    refine k_callV (nC := 4) [oX8 a g_undos g_listed g_papers g_length g_besides r13.1 r13.2.1 r13.2.2.2.1 g_first g_behind g_clauses g_drafts, ar cI (a 1) 5058 g_row, ar cI (a 13) 192 r13.2.2.1, ar cI (a 15) 8 r13.2.2.2.2] C hl.1 (tX8_plans (a := a) q13) mL_X8_225 mmX8_plans rfl rfl ⟨Nat.le_of_ble_eq_true rfl, Nat.le_of_ble_eq_true rfl⟩ rfl rfl rfl rfl (Nat.le_of_ble_eq_true rfl) hA hw2 [0, 1, 2, 3] [] rfl (by decide +kernel) rfl rfl rfl rfl dX8_left_13 (fun H locs hw13 => ?_)
    refine lv_aload_n hx hb dX8_left_16 rfl (lv_at hl 0 rfl) ?_
    refine lv_iload_n hx hb dX8_left_17 rfl (lv_at hl 1 rfl) ?_
    obtain ⟨r18, q18, h⟩ := bd h
    refine k_callV (nC := 4) [oX8 a g_undos g_listed g_papers g_length g_besides r13.1 r13.2.1 r13.2.2.2.1 g_first g_behind g_clauses g_drafts, ar cI (a 1) 5058 g_row, ar cI (a 13) 192 r13.2.2.1, ar cI (a 15) 8 r13.2.2.2.2] C hl.1 (tX8_lastOf (a := a) q18) mL_X8_97 mmX8_lastOf rfl rfl ⟨Nat.le_of_ble_eq_true rfl, Nat.le_of_ble_eq_true rfl⟩ rfl rfl rfl rfl (Nat.le_of_ble_eq_true rfl) hA hw13 [0, 1] [2, 3] rfl (by decide +kernel) rfl rfl rfl rfl dX8_left_18 (fun H locs hw18 => ?_)
    refine lv_aload_n hx hb dX8_left_21 rfl (lv_at hl 0 rfl) ?_
    refine lv_iload_n hx hb dX8_left_22 rfl (lv_at hl 1 rfl) ?_
    obtain ⟨r23, q23, h⟩ := bd h
    refine k_callV (nC := 4) [oX8 a g_undos g_listed g_papers g_length g_besides r13.1 r13.2.1 r13.2.2.2.1 g_first g_behind g_clauses g_drafts, ar cI (a 1) 5058 g_row, ar cI (a 13) 192 r13.2.2.1, ar cI (a 15) 8 r13.2.2.2.2] C hl.1 (tX8_firstOf (a := a) q23) mL_X8_93 mmX8_firstOf rfl rfl ⟨Nat.le_of_ble_eq_true rfl, Nat.le_of_ble_eq_true rfl⟩ rfl rfl rfl rfl (Nat.le_of_ble_eq_true rfl) hA hw18 [0, 1] [2, 3] rfl (by decide +kernel) rfl rfl rfl rfl dX8_left_23 (fun H locs hw23 => ?_)
    refine lv_isub hx hb dX8_left_26 ?_
    refine lv_iconst (v := 1) hx hb dX8_left_27 (by decide) ?_
    refine lv_iadd hx hb dX8_left_28 ?_
    refine lv_aload_n hx hb dX8_left_29 rfl (lv_at hl 0 rfl) ?_
    refine lv_iconst (v := (-1)) hx hb dX8_left_30 (by decide) ?_
    refine lv_aload_n hx hb dX8_left_31 rfl (lv_at hl 0 rfl) ?_
    refine lv_iload_n hx hb dX8_left_32 rfl (lv_at hl 1 rfl) ?_
    obtain ⟨r33, q33, h⟩ := bd h
    refine k_callV (nC := 4) [oX8 a g_undos g_listed g_papers g_length g_besides r13.1 r13.2.1 r13.2.2.2.1 g_first g_behind g_clauses g_drafts, ar cI (a 1) 5058 g_row, ar cI (a 13) 192 r13.2.2.1, ar cI (a 15) 8 r13.2.2.2.2] C hl.1 (tX8_firstOf (a := a) q33) mL_X8_93 mmX8_firstOf rfl rfl ⟨Nat.le_of_ble_eq_true rfl, Nat.le_of_ble_eq_true rfl⟩ rfl rfl rfl rfl (Nat.le_of_ble_eq_true rfl) hA hw23 [0, 1] [2, 3] rfl (by decide +kernel) rfl rfl rfl rfl dX8_left_33 (fun H locs hw33 => ?_)
    refine lv_aload_n hx hb dX8_left_36 rfl (lv_at hl 0 rfl) ?_
    refine lv_iload_n hx hb dX8_left_37 rfl (lv_at hl 1 rfl) ?_
    obtain ⟨r38, q38, h⟩ := bd h
    refine k_callV (nC := 4) [oX8 a g_undos g_listed g_papers g_length g_besides r13.1 r13.2.1 r13.2.2.2.1 g_first g_behind g_clauses g_drafts, ar cI (a 1) 5058 g_row, ar cI (a 13) 192 r13.2.2.1, ar cI (a 15) 8 r13.2.2.2.2] C hl.1 (tX8_lastOf (a := a) q38) mL_X8_97 mmX8_lastOf rfl rfl ⟨Nat.le_of_ble_eq_true rfl, Nat.le_of_ble_eq_true rfl⟩ rfl rfl rfl rfl (Nat.le_of_ble_eq_true rfl) hA hw33 [0, 1] [2, 3] rfl (by decide +kernel) rfl rfl rfl rfl dX8_left_38 (fun H locs hw38 => ?_)
    obtain ⟨r41, q41, h⟩ := bd h
    refine k_callV (nC := 4) [oX8 a g_undos g_listed g_papers g_length g_besides r13.1 r13.2.1 r13.2.2.2.1 g_first g_behind g_clauses g_drafts, ar cI (a 1) 5058 g_row, ar cI (a 13) 192 r13.2.2.1, ar cI (a 15) 8 r13.2.2.2.2] C hl.1 (tX8_inBox (a := a) q41) mL_X8_79 mmX8_inBox rfl rfl ⟨Nat.le_of_ble_eq_true rfl, Nat.le_of_ble_eq_true rfl⟩ rfl rfl rfl rfl (Nat.le_of_ble_eq_true rfl) hA hw38 [0, 1] [2, 3] rfl (by decide +kernel) rfl rfl rfl rfl dX8_left_41 (fun H locs hw41 => ?_)
    refine lv_isub hx hb dX8_left_44 ?_
    refine lv_istore_n (lv' := [(2, .int (((r18 - r23) + 1) - r41)), (0, .ref (a 0)), (1, .int x1)]) hx hb dX8_left_45 rfl hl (by decide) rfl (fun ls hl => ?_)
    refine lv_iconst (v := 0) hx hb dX8_left_46 (by decide) ?_
    refine lv_istore_n (lv' := [(3, .int 0), (2, .int (((r18 - r23) + 1) - r41)), (0, .ref (a 0)), (1, .int x1)]) hx hb dX8_left_47 rfl hl (by decide) rfl (fun ls hl => ?_)
    refine wX8_left_48 C hA _ (fun x2_48 x3_48 H locs ls hw48x hl h => ?_) FU _ _ _ _ _ hw41 (lv_sub hl [2, 1, 0] rfl) h
    refine lv_iload_n hx hb dX8_left_86 rfl (lv_at hl 1 rfl) ?_
    cases h
    exact k_iret C hw48x dX8_left_87
  · replace h := br_t' h c5
    refine lv_bipush (v := (-2)) hx hb dX8_left_8 (by decide) ?_
    cases h
    exact k_iret C hw2 dX8_left_10
def rmX8_clashes : Room := { frames := 3, cells := 0, slots := 0, locals := 68 }
def fX8_clashes_14 (g_list : Nat → Int32) (x2 : Int32) : (n : Nat) → (k : Int32 → Int32 → Option (Int32)) → Int32 → Int32 → Option (Int32)
  | 0, _, _, _ => none
  | n + 1, k, x1, x3 =>
    if x2 ≤ x3 then
      k x1 x3
    else
      (fX8_clash g_list x2 x3).bind fun r23 =>
      if r23 = 0 then
        fX8_clashes_14 g_list x2 n k (x1 + 0) (x3 + 1)
      else
        fX8_clashes_14 g_list x2 n k (x1 + 1) (x3 + 1)
set_option maxRecDepth 100000 in
set_option maxHeartbeats 4000000 in
theorem wX8_clashes_14 {p : Program} {l : Launch} {e : Env} {s : State} {m : MethodId} {args : Array Value} {below : List Frame} {meth : Method} {c : Code} {D : va_G} {cI : ClassId} {cS : GS} {A : Nat → Prop} {a : Nat → Nat} {g_undos : Int32} {g_list : Nat → Int32} {g_listed : Int32} {g_papers : Int32} {g_length : Int32} {g_besides : Int32} {g_gapFirst : Int32} {g_gapLast : Int32} {g_layings : Int32} {g_first : Int32} {g_behind : Int32} {g_clauses : Int32} {g_drafts : Int32} {x2 : Int32} (C : MC p s m args meth c D cI cS A RX8 cX8_clashes 4 (some .int)) (hA : ∀ q, s.heap.size ≤ q → A q) {s0 : Int32} (k : Int32 → Int32 → Option (Int32)) (hk : ∀ (x1 : Int32) (x3 : Int32) (H : Heap) (locs : List Loc) (ls : Array Slot), Wd D A s.heap H locs [oX8 a g_undos g_listed g_papers g_length g_besides g_gapFirst g_gapLast g_layings g_first g_behind g_clauses g_drafts, ar cI (a 3) 36 g_list] → lv_has ls 4 [(0, .ref (a 0)), (1, .int x1), (2, .int x2), (3, .int x3)] → k x1 x3 = some s0 → W p l e rmX8_clashes s m args below meth c H locs 0 0 (KQ D A below args s (some (.int s0)) [oX8 a g_undos g_listed g_papers g_length g_besides g_gapFirst g_gapLast g_layings g_first g_behind g_clauses g_drafts, ar cI (a 3) 36 g_list]) (F0 m 42 ls [])) :
    ∀ (n : Nat) (x1 : Int32) (x3 : Int32) (H : Heap) (locs : List Loc) (ls : Array Slot), Wd D A s.heap H locs [oX8 a g_undos g_listed g_papers g_length g_besides g_gapFirst g_gapLast g_layings g_first g_behind g_clauses g_drafts, ar cI (a 3) 36 g_list] → lv_has ls 4 [(0, .ref (a 0)), (1, .int x1), (2, .int x2), (3, .int x3)] → fX8_clashes_14 g_list x2 n k x1 x3 = some s0 → W p l e rmX8_clashes s m args below meth c H locs 0 0 (KQ D A below args s (some (.int s0)) [oX8 a g_undos g_listed g_papers g_length g_besides g_gapFirst g_gapLast g_layings g_first g_behind g_clauses g_drafts, ar cI (a 3) 36 g_list]) (F0 m 14 ls []) := by
  have hx := C.1.1
  have hb := C.1.2.1
  intro n
  induction n with
  | zero =>
    intro x1 x3 H locs ls hw hl h
    rw [fX8_clashes_14] at h
    cases h
  | succ n ih =>
    intro x1 x3 H locs ls hw hl h
    rw [fX8_clashes_14] at h
    refine lv_iload_n hx hb dX8_clashes_14 rfl (lv_at hl 3 rfl) ?_
    refine lv_iload_n hx hb dX8_clashes_15 rfl (lv_at hl 2 rfl) ?_
    refine lv_icmp_ge (tgt := 42) hx hb dX8_clashes_16 (by decide) (fun c16 => ?_) (fun c16 => ?_)
    · replace h := br_t' h c16
      exact hk _ _ _ _ _ hw (lv_sub hl [0, 1, 2, 3] rfl) h
    · replace h := br_f' h c16
      refine lv_iload_n hx hb dX8_clashes_19 rfl (lv_at hl 1 rfl) ?_
      refine lv_aload_n hx hb dX8_clashes_20 rfl (lv_at hl 0 rfl) ?_
      refine lv_iload_n hx hb dX8_clashes_21 rfl (lv_at hl 2 rfl) ?_
      refine lv_iload_n hx hb dX8_clashes_22 rfl (lv_at hl 3 rfl) ?_
      obtain ⟨r23, q23, h⟩ := bd h
      refine k_callV (nC := 2) [oX8 a g_undos g_listed g_papers g_length g_besides g_gapFirst g_gapLast g_layings g_first g_behind g_clauses g_drafts, ar cI (a 3) 36 g_list] C hl.1 (tX8_clash (a := a) q23) mL_X8_271 mmX8_clash rfl rfl ⟨Nat.le_of_ble_eq_true rfl, Nat.le_of_ble_eq_true rfl⟩ rfl rfl rfl rfl (Nat.le_of_ble_eq_true rfl) hA hw [0, 1] [] rfl (by decide +kernel) rfl rfl rfl rfl dX8_clashes_23 (fun H locs hw23 => ?_)
      refine lv_if_eq (tgt := 33) hx hb dX8_clashes_26 (by decide) (fun c26 => ?_) (fun c26 => ?_)
      · replace h := br_t' h c26
        refine lv_iconst (v := 0) hx hb dX8_clashes_33 (by decide) ?_
        refine lv_iadd hx hb dX8_clashes_34 ?_
        refine lv_istore_n (lv' := [(1, .int (x1 + 0)), (0, .ref (a 0)), (2, .int x2), (3, .int x3)]) hx hb dX8_clashes_35 rfl hl (by decide) rfl (fun ls hl => ?_)
        refine lv_iinc (v := (x3 + 1)) (lv' := [(3, .int (x3 + 1)), (1, .int (x1 + 0)), (0, .ref (a 0)), (2, .int x2)]) hx hb dX8_clashes_36 hl (k := 3) rfl rfl (by decide) rfl (fun ls hl => ?_)
        refine lv_goto (tgt := 14) hx hb dX8_clashes_39 (by decide) ?_
        exact ih _ _ _ _ _ hw23 (lv_sub hl [2, 1, 3, 0] rfl) h
      · replace h := br_f' h c26
        refine lv_iconst (v := 1) hx hb dX8_clashes_29 (by decide) ?_
        refine lv_goto (tgt := 34) hx hb dX8_clashes_30 (by decide) ?_
        refine lv_iadd hx hb dX8_clashes_34 ?_
        refine lv_istore_n (lv' := [(1, .int (x1 + 1)), (0, .ref (a 0)), (2, .int x2), (3, .int x3)]) hx hb dX8_clashes_35 rfl hl (by decide) rfl (fun ls hl => ?_)
        refine lv_iinc (v := (x3 + 1)) (lv' := [(3, .int (x3 + 1)), (1, .int (x1 + 1)), (0, .ref (a 0)), (2, .int x2)]) hx hb dX8_clashes_36 hl (k := 3) rfl rfl (by decide) rfl (fun ls hl => ?_)
        refine lv_goto (tgt := 14) hx hb dX8_clashes_39 (by decide) ?_
        exact ih _ _ _ _ _ hw23 (lv_sub hl [2, 1, 3, 0] rfl) h
def fX8_clashes_4 (g_list : Nat → Int32) (g_listed : Int32) : (n : Nat) → (k : Int32 → Int32 → Option (Int32)) → Int32 → Int32 → Option (Int32)
  | 0, _, _, _ => none
  | n + 1, k, x1, x2 =>
    if g_listed ≤ x2 then
      k x1 x2
    else
      fX8_clashes_14 g_list x2 FU (fun x1_14 x3_14 =>
        fX8_clashes_4 g_list g_listed n k x1_14 (x2 + 1)) x1 0
set_option maxRecDepth 100000 in
set_option maxHeartbeats 4000000 in
theorem wX8_clashes_4 {p : Program} {l : Launch} {e : Env} {s : State} {m : MethodId} {args : Array Value} {below : List Frame} {meth : Method} {c : Code} {D : va_G} {cI : ClassId} {cS : GS} {A : Nat → Prop} {a : Nat → Nat} {g_undos : Int32} {g_list : Nat → Int32} {g_listed : Int32} {g_papers : Int32} {g_length : Int32} {g_besides : Int32} {g_gapFirst : Int32} {g_gapLast : Int32} {g_layings : Int32} {g_first : Int32} {g_behind : Int32} {g_clauses : Int32} {g_drafts : Int32} (C : MC p s m args meth c D cI cS A RX8 cX8_clashes 4 (some .int)) (hA : ∀ q, s.heap.size ≤ q → A q) {s0 : Int32} (k : Int32 → Int32 → Option (Int32)) (hk : ∀ (x1 : Int32) (x2 : Int32) (H : Heap) (locs : List Loc) (ls : Array Slot), Wd D A s.heap H locs [oX8 a g_undos g_listed g_papers g_length g_besides g_gapFirst g_gapLast g_layings g_first g_behind g_clauses g_drafts, ar cI (a 3) 36 g_list] → lv_has ls 4 [(0, .ref (a 0)), (1, .int x1), (2, .int x2)] → k x1 x2 = some s0 → W p l e rmX8_clashes s m args below meth c H locs 0 0 (KQ D A below args s (some (.int s0)) [oX8 a g_undos g_listed g_papers g_length g_besides g_gapFirst g_gapLast g_layings g_first g_behind g_clauses g_drafts, ar cI (a 3) 36 g_list]) (F0 m 48 ls [])) :
    ∀ (n : Nat) (x1 : Int32) (x2 : Int32) (H : Heap) (locs : List Loc) (ls : Array Slot), Wd D A s.heap H locs [oX8 a g_undos g_listed g_papers g_length g_besides g_gapFirst g_gapLast g_layings g_first g_behind g_clauses g_drafts, ar cI (a 3) 36 g_list] → lv_has ls 4 [(0, .ref (a 0)), (1, .int x1), (2, .int x2)] → fX8_clashes_4 g_list g_listed n k x1 x2 = some s0 → W p l e rmX8_clashes s m args below meth c H locs 0 0 (KQ D A below args s (some (.int s0)) [oX8 a g_undos g_listed g_papers g_length g_besides g_gapFirst g_gapLast g_layings g_first g_behind g_clauses g_drafts, ar cI (a 3) 36 g_list]) (F0 m 4 ls []) := by
  have hx := C.1.1
  have hb := C.1.2.1
  intro n
  induction n with
  | zero =>
    intro x1 x2 H locs ls hw hl h
    rw [fX8_clashes_4] at h
    cases h
  | succ n ih =>
    intro x1 x2 H locs ls hw hl h
    rw [fX8_clashes_4] at h
    refine lv_iload_n hx hb dX8_clashes_4 rfl (lv_at hl 2 rfl) ?_
    refine lv_aload_n hx hb dX8_clashes_5 rfl (lv_at hl 0 rfl) ?_
    refine k_get C inT_X8 hw 0 rfl rfl 3 (by decide) mF_X8_49 rfl dX8_clashes_6 ?_
    refine lv_icmp_ge (tgt := 48) hx hb dX8_clashes_9 (by decide) (fun c9 => ?_) (fun c9 => ?_)
    · replace h := br_t' h c9
      exact hk _ _ _ _ _ hw (lv_sub hl [0, 1, 2] rfl) h
    · replace h := br_f' h c9
      refine lv_iconst (v := 0) hx hb dX8_clashes_12 (by decide) ?_
      refine lv_istore_n (lv' := [(3, .int 0), (0, .ref (a 0)), (1, .int x1), (2, .int x2)]) hx hb dX8_clashes_13 rfl hl (by decide) rfl (fun ls hl => ?_)
      refine wX8_clashes_14 C hA _ (fun x1_14 x3_14 H locs ls hw14x hl h => ?_) FU _ _ _ _ _ hw (lv_sub hl [1, 2, 3, 0] rfl) h
      refine lv_iinc (v := (x2 + 1)) (lv' := [(2, .int (x2 + 1)), (0, .ref (a 0)), (1, .int x1_14), (3, .int x3_14)]) hx hb dX8_clashes_42 hl (k := 2) rfl rfl (by decide) rfl (fun ls hl => ?_)
      refine lv_goto (tgt := 4) hx hb dX8_clashes_45 (by decide) ?_
      exact ih _ _ _ _ _ hw14x (lv_sub hl [1, 2, 0] rfl) h
def fX8_clashes (g_list : Nat → Int32) (g_listed : Int32) : Option (Int32) :=
  fX8_clashes_4 g_list g_listed FU (fun x1_4 x2_4 =>
    some x1_4) 0 0
set_option maxRecDepth 100000 in
set_option maxHeartbeats 4000000 in
theorem tX8_clashes {l : Launch} {D : va_G} {cI : ClassId} {cS : GS} {a : Nat → Nat} {g_undos : Int32} {g_list : Nat → Int32} {g_listed : Int32} {g_papers : Int32} {g_length : Int32} {g_besides : Int32} {g_gapFirst : Int32} {g_gapLast : Int32} {g_layings : Int32} {g_first : Int32} {g_behind : Int32} {g_clauses : Int32} {g_drafts : Int32}  {s0 : Int32} (h : fX8_clashes g_list g_listed = some s0) : CT l D cI cS yX8_clashes cX8_clashes 4 (some .int) rmX8_clashes [.ref (a 0)] [oX8 a g_undos g_listed g_papers g_length g_besides g_gapFirst g_gapLast g_layings g_first g_behind g_clauses g_drafts, ar cI (a 3) 36 g_list] (some (.int s0)) [oX8 a g_undos g_listed g_papers g_length g_besides g_gapFirst g_gapLast g_layings g_first g_behind g_clauses g_drafts, ar cI (a 3) 36 g_list] := by
  refine CT.of RX8 (by decide) rfl (Nat.le_of_ble_eq_true rfl) (fun p e s m below meth c ls A C hA hl hw => ?_)
  have hx := C.1.1
  have hb := C.1.2.1
  have hl : lv_has ls 4 [(0, .ref (a 0))] := hl
  unfold fX8_clashes at h
  refine lv_iconst (v := 0) hx hb dX8_clashes_0 (by decide) ?_
  refine lv_istore_n (lv' := [(1, .int 0), (0, .ref (a 0))]) hx hb dX8_clashes_1 rfl hl (by decide) rfl (fun ls hl => ?_)
  refine lv_iconst (v := 0) hx hb dX8_clashes_2 (by decide) ?_
  refine lv_istore_n (lv' := [(2, .int 0), (1, .int 0), (0, .ref (a 0))]) hx hb dX8_clashes_3 rfl hl (by decide) rfl (fun ls hl => ?_)
  refine wX8_clashes_4 C hA _ (fun x1_4 x2_4 H locs ls hw4x hl h => ?_) FU _ _ _ _ _ hw (lv_sub hl [2, 1, 0] rfl) h
  refine lv_iload_n hx hb dX8_clashes_48 rfl (lv_at hl 1 rfl) ?_
  cases h
  exact k_iret C hw4x dX8_clashes_49
def rmX8_homeless : Room := { frames := 4, cells := 0, slots := 0, locals := 95 }
def fX8_homeless_4 (g_row : Nat → Int32) : (n : Nat) → (k : Int32 → Int32 → Option (Int32)) → Int32 → Int32 → Option (Int32)
  | 0, _, _, _ => none
  | n + 1, k, x1, x2 =>
    if 8 ≤ x2 then
      k x1 x2
    else
      (fX8_ownInBox g_row (-1) x2).bind fun r14 =>
      fX8_homeless_4 g_row n k (x1 + r14) (x2 + 1)
set_option maxRecDepth 100000 in
set_option maxHeartbeats 4000000 in
theorem wX8_homeless_4 {p : Program} {l : Launch} {e : Env} {s : State} {m : MethodId} {args : Array Value} {below : List Frame} {meth : Method} {c : Code} {D : va_G} {cI : ClassId} {cS : GS} {A : Nat → Prop} {a : Nat → Nat} {g_row : Nat → Int32} {g_undos : Int32} {g_listed : Int32} {g_papers : Int32} {g_length : Int32} {g_besides : Int32} {g_gapFirst : Int32} {g_gapLast : Int32} {g_layings : Int32} {g_first : Int32} {g_behind : Int32} {g_clauses : Int32} {g_drafts : Int32} (C : MC p s m args meth c D cI cS A RX8 cX8_homeless 3 (some .int)) (hA : ∀ q, s.heap.size ≤ q → A q) {s0 : Int32} (k : Int32 → Int32 → Option (Int32)) (hk : ∀ (x1 : Int32) (x2 : Int32) (H : Heap) (locs : List Loc) (ls : Array Slot), Wd D A s.heap H locs [oX8 a g_undos g_listed g_papers g_length g_besides g_gapFirst g_gapLast g_layings g_first g_behind g_clauses g_drafts, ar cI (a 1) 5058 g_row] → lv_has ls 3 [(0, .ref (a 0)), (1, .int x1), (2, .int x2)] → k x1 x2 = some s0 → W p l e rmX8_homeless s m args below meth c H locs 0 0 (KQ D A below args s (some (.int s0)) [oX8 a g_undos g_listed g_papers g_length g_besides g_gapFirst g_gapLast g_layings g_first g_behind g_clauses g_drafts, ar cI (a 1) 5058 g_row]) (F0 m 25 ls [])) :
    ∀ (n : Nat) (x1 : Int32) (x2 : Int32) (H : Heap) (locs : List Loc) (ls : Array Slot), Wd D A s.heap H locs [oX8 a g_undos g_listed g_papers g_length g_besides g_gapFirst g_gapLast g_layings g_first g_behind g_clauses g_drafts, ar cI (a 1) 5058 g_row] → lv_has ls 3 [(0, .ref (a 0)), (1, .int x1), (2, .int x2)] → fX8_homeless_4 g_row n k x1 x2 = some s0 → W p l e rmX8_homeless s m args below meth c H locs 0 0 (KQ D A below args s (some (.int s0)) [oX8 a g_undos g_listed g_papers g_length g_besides g_gapFirst g_gapLast g_layings g_first g_behind g_clauses g_drafts, ar cI (a 1) 5058 g_row]) (F0 m 4 ls []) := by
  have hx := C.1.1
  have hb := C.1.2.1
  intro n
  induction n with
  | zero =>
    intro x1 x2 H locs ls hw hl h
    rw [fX8_homeless_4] at h
    cases h
  | succ n ih =>
    intro x1 x2 H locs ls hw hl h
    rw [fX8_homeless_4] at h
    refine lv_iload_n hx hb dX8_homeless_4 rfl (lv_at hl 2 rfl) ?_
    refine lv_bipush (v := 8) hx hb dX8_homeless_5 (by decide) ?_
    refine lv_icmp_ge (tgt := 25) hx hb dX8_homeless_7 (by decide) (fun c7 => ?_) (fun c7 => ?_)
    · replace h := br_t' h c7
      exact hk _ _ _ _ _ hw (lv_sub hl [0, 1, 2] rfl) h
    · replace h := br_f' h c7
      refine lv_iload_n hx hb dX8_homeless_10 rfl (lv_at hl 1 rfl) ?_
      refine lv_aload_n hx hb dX8_homeless_11 rfl (lv_at hl 0 rfl) ?_
      refine lv_iconst (v := (-1)) hx hb dX8_homeless_12 (by decide) ?_
      refine lv_iload_n hx hb dX8_homeless_13 rfl (lv_at hl 2 rfl) ?_
      obtain ⟨r14, q14, h⟩ := bd h
      refine k_callV (nC := 2) [oX8 a g_undos g_listed g_papers g_length g_besides g_gapFirst g_gapLast g_layings g_first g_behind g_clauses g_drafts, ar cI (a 1) 5058 g_row] C hl.1 (tX8_ownInBox (a := a) q14) mL_X8_245 mmX8_ownInBox rfl rfl ⟨Nat.le_of_ble_eq_true rfl, Nat.le_of_ble_eq_true rfl⟩ rfl rfl rfl rfl (Nat.le_of_ble_eq_true rfl) hA hw [0, 1] [] rfl (by decide +kernel) rfl rfl rfl rfl dX8_homeless_14 (fun H locs hw14 => ?_)
      refine lv_iadd hx hb dX8_homeless_17 ?_
      refine lv_istore_n (lv' := [(1, .int (x1 + r14)), (0, .ref (a 0)), (2, .int x2)]) hx hb dX8_homeless_18 rfl hl (by decide) rfl (fun ls hl => ?_)
      refine lv_iinc (v := (x2 + 1)) (lv' := [(2, .int (x2 + 1)), (1, .int (x1 + r14)), (0, .ref (a 0))]) hx hb dX8_homeless_19 hl (k := 2) rfl rfl (by decide) rfl (fun ls hl => ?_)
      refine lv_goto (tgt := 4) hx hb dX8_homeless_22 (by decide) ?_
      exact ih _ _ _ _ _ hw14 (lv_sub hl [2, 1, 0] rfl) h
def fX8_homeless (g_row : Nat → Int32) : Option (Int32) :=
  fX8_homeless_4 g_row FU (fun x1_4 x2_4 =>
    some x1_4) 0 0
set_option maxRecDepth 100000 in
set_option maxHeartbeats 4000000 in
theorem tX8_homeless {l : Launch} {D : va_G} {cI : ClassId} {cS : GS} {a : Nat → Nat} {g_row : Nat → Int32} {g_undos : Int32} {g_listed : Int32} {g_papers : Int32} {g_length : Int32} {g_besides : Int32} {g_gapFirst : Int32} {g_gapLast : Int32} {g_layings : Int32} {g_first : Int32} {g_behind : Int32} {g_clauses : Int32} {g_drafts : Int32}  {s0 : Int32} (h : fX8_homeless g_row = some s0) : CT l D cI cS yX8_homeless cX8_homeless 3 (some .int) rmX8_homeless [.ref (a 0)] [oX8 a g_undos g_listed g_papers g_length g_besides g_gapFirst g_gapLast g_layings g_first g_behind g_clauses g_drafts, ar cI (a 1) 5058 g_row] (some (.int s0)) [oX8 a g_undos g_listed g_papers g_length g_besides g_gapFirst g_gapLast g_layings g_first g_behind g_clauses g_drafts, ar cI (a 1) 5058 g_row] := by
  refine CT.of RX8 (by decide) rfl (Nat.le_of_ble_eq_true rfl) (fun p e s m below meth c ls A C hA hl hw => ?_)
  have hx := C.1.1
  have hb := C.1.2.1
  have hl : lv_has ls 3 [(0, .ref (a 0))] := hl
  unfold fX8_homeless at h
  refine lv_iconst (v := 0) hx hb dX8_homeless_0 (by decide) ?_
  refine lv_istore_n (lv' := [(1, .int 0), (0, .ref (a 0))]) hx hb dX8_homeless_1 rfl hl (by decide) rfl (fun ls hl => ?_)
  refine lv_iconst (v := 0) hx hb dX8_homeless_2 (by decide) ?_
  refine lv_istore_n (lv' := [(2, .int 0), (1, .int 0), (0, .ref (a 0))]) hx hb dX8_homeless_3 rfl hl (by decide) rfl (fun ls hl => ?_)
  refine wX8_homeless_4 C hA _ (fun x1_4 x2_4 H locs ls hw4x hl h => ?_) FU _ _ _ _ _ hw (lv_sub hl [2, 1, 0] rfl) h
  refine lv_iload_n hx hb dX8_homeless_25 rfl (lv_at hl 1 rfl) ?_
  cases h
  exact k_iret C hw4x dX8_homeless_26
def rmX8_filled : Room := { frames := 4, cells := 0, slots := 0, locals := 92 }
def fX8_filled_4 (g_row : Nat → Int32) : (n : Nat) → (k : Int32 → Int32 → Option (Int32)) → Int32 → Int32 → Option (Int32)
  | 0, _, _, _ => none
  | n + 1, k, x1, x2 =>
    if 8 ≤ x2 then
      k x1 x2
    else
      (fX8_load g_row x2).bind fun r13 =>
      if r13 ≤ 0 then
        fX8_filled_4 g_row n k (x1 + 0) (x2 + 1)
      else
        fX8_filled_4 g_row n k (x1 + 1) (x2 + 1)
set_option maxRecDepth 100000 in
set_option maxHeartbeats 4000000 in
theorem wX8_filled_4 {p : Program} {l : Launch} {e : Env} {s : State} {m : MethodId} {args : Array Value} {below : List Frame} {meth : Method} {c : Code} {D : va_G} {cI : ClassId} {cS : GS} {A : Nat → Prop} {a : Nat → Nat} {g_row : Nat → Int32} {g_undos : Int32} {g_listed : Int32} {g_papers : Int32} {g_length : Int32} {g_besides : Int32} {g_gapFirst : Int32} {g_gapLast : Int32} {g_layings : Int32} {g_first : Int32} {g_behind : Int32} {g_clauses : Int32} {g_drafts : Int32} (C : MC p s m args meth c D cI cS A RX8 cX8_filled 3 (some .int)) (hA : ∀ q, s.heap.size ≤ q → A q) {s0 : Int32} (k : Int32 → Int32 → Option (Int32)) (hk : ∀ (x1 : Int32) (x2 : Int32) (H : Heap) (locs : List Loc) (ls : Array Slot), Wd D A s.heap H locs [oX8 a g_undos g_listed g_papers g_length g_besides g_gapFirst g_gapLast g_layings g_first g_behind g_clauses g_drafts, ar cI (a 1) 5058 g_row] → lv_has ls 3 [(0, .ref (a 0)), (1, .int x1), (2, .int x2)] → k x1 x2 = some s0 → W p l e rmX8_filled s m args below meth c H locs 0 0 (KQ D A below args s (some (.int s0)) [oX8 a g_undos g_listed g_papers g_length g_besides g_gapFirst g_gapLast g_layings g_first g_behind g_clauses g_drafts, ar cI (a 1) 5058 g_row]) (F0 m 32 ls [])) :
    ∀ (n : Nat) (x1 : Int32) (x2 : Int32) (H : Heap) (locs : List Loc) (ls : Array Slot), Wd D A s.heap H locs [oX8 a g_undos g_listed g_papers g_length g_besides g_gapFirst g_gapLast g_layings g_first g_behind g_clauses g_drafts, ar cI (a 1) 5058 g_row] → lv_has ls 3 [(0, .ref (a 0)), (1, .int x1), (2, .int x2)] → fX8_filled_4 g_row n k x1 x2 = some s0 → W p l e rmX8_filled s m args below meth c H locs 0 0 (KQ D A below args s (some (.int s0)) [oX8 a g_undos g_listed g_papers g_length g_besides g_gapFirst g_gapLast g_layings g_first g_behind g_clauses g_drafts, ar cI (a 1) 5058 g_row]) (F0 m 4 ls []) := by
  have hx := C.1.1
  have hb := C.1.2.1
  intro n
  induction n with
  | zero =>
    intro x1 x2 H locs ls hw hl h
    rw [fX8_filled_4] at h
    cases h
  | succ n ih =>
    intro x1 x2 H locs ls hw hl h
    rw [fX8_filled_4] at h
    refine lv_iload_n hx hb dX8_filled_4 rfl (lv_at hl 2 rfl) ?_
    refine lv_bipush (v := 8) hx hb dX8_filled_5 (by decide) ?_
    refine lv_icmp_ge (tgt := 32) hx hb dX8_filled_7 (by decide) (fun c7 => ?_) (fun c7 => ?_)
    · replace h := br_t' h c7
      exact hk _ _ _ _ _ hw (lv_sub hl [0, 1, 2] rfl) h
    · replace h := br_f' h c7
      refine lv_iload_n hx hb dX8_filled_10 rfl (lv_at hl 1 rfl) ?_
      refine lv_aload_n hx hb dX8_filled_11 rfl (lv_at hl 0 rfl) ?_
      refine lv_iload_n hx hb dX8_filled_12 rfl (lv_at hl 2 rfl) ?_
      obtain ⟨r13, q13, h⟩ := bd h
      refine k_callV (nC := 2) [oX8 a g_undos g_listed g_papers g_length g_besides g_gapFirst g_gapLast g_layings g_first g_behind g_clauses g_drafts, ar cI (a 1) 5058 g_row] C hl.1 (tX8_load (a := a) q13) mL_X8_119 mmX8_load rfl rfl ⟨Nat.le_of_ble_eq_true rfl, Nat.le_of_ble_eq_true rfl⟩ rfl rfl rfl rfl (Nat.le_of_ble_eq_true rfl) hA hw [0, 1] [] rfl (by decide +kernel) rfl rfl rfl rfl dX8_filled_13 (fun H locs hw13 => ?_)
      refine lv_if_le (tgt := 23) hx hb dX8_filled_16 (by decide) (fun c16 => ?_) (fun c16 => ?_)
      · replace h := br_t' h c16
        refine lv_iconst (v := 0) hx hb dX8_filled_23 (by decide) ?_
        refine lv_iadd hx hb dX8_filled_24 ?_
        refine lv_istore_n (lv' := [(1, .int (x1 + 0)), (0, .ref (a 0)), (2, .int x2)]) hx hb dX8_filled_25 rfl hl (by decide) rfl (fun ls hl => ?_)
        refine lv_iinc (v := (x2 + 1)) (lv' := [(2, .int (x2 + 1)), (1, .int (x1 + 0)), (0, .ref (a 0))]) hx hb dX8_filled_26 hl (k := 2) rfl rfl (by decide) rfl (fun ls hl => ?_)
        refine lv_goto (tgt := 4) hx hb dX8_filled_29 (by decide) ?_
        exact ih _ _ _ _ _ hw13 (lv_sub hl [2, 1, 0] rfl) h
      · replace h := br_f' h c16
        refine lv_iconst (v := 1) hx hb dX8_filled_19 (by decide) ?_
        refine lv_goto (tgt := 24) hx hb dX8_filled_20 (by decide) ?_
        refine lv_iadd hx hb dX8_filled_24 ?_
        refine lv_istore_n (lv' := [(1, .int (x1 + 1)), (0, .ref (a 0)), (2, .int x2)]) hx hb dX8_filled_25 rfl hl (by decide) rfl (fun ls hl => ?_)
        refine lv_iinc (v := (x2 + 1)) (lv' := [(2, .int (x2 + 1)), (1, .int (x1 + 1)), (0, .ref (a 0))]) hx hb dX8_filled_26 hl (k := 2) rfl rfl (by decide) rfl (fun ls hl => ?_)
        refine lv_goto (tgt := 4) hx hb dX8_filled_29 (by decide) ?_
        exact ih _ _ _ _ _ hw13 (lv_sub hl [2, 1, 0] rfl) h
def fX8_filled (g_row : Nat → Int32) : Option (Int32) :=
  fX8_filled_4 g_row FU (fun x1_4 x2_4 =>
    some x1_4) 0 0
set_option maxRecDepth 100000 in
set_option maxHeartbeats 4000000 in
theorem tX8_filled {l : Launch} {D : va_G} {cI : ClassId} {cS : GS} {a : Nat → Nat} {g_row : Nat → Int32} {g_undos : Int32} {g_listed : Int32} {g_papers : Int32} {g_length : Int32} {g_besides : Int32} {g_gapFirst : Int32} {g_gapLast : Int32} {g_layings : Int32} {g_first : Int32} {g_behind : Int32} {g_clauses : Int32} {g_drafts : Int32}  {s0 : Int32} (h : fX8_filled g_row = some s0) : CT l D cI cS yX8_filled cX8_filled 3 (some .int) rmX8_filled [.ref (a 0)] [oX8 a g_undos g_listed g_papers g_length g_besides g_gapFirst g_gapLast g_layings g_first g_behind g_clauses g_drafts, ar cI (a 1) 5058 g_row] (some (.int s0)) [oX8 a g_undos g_listed g_papers g_length g_besides g_gapFirst g_gapLast g_layings g_first g_behind g_clauses g_drafts, ar cI (a 1) 5058 g_row] := by
  refine CT.of RX8 (by decide) rfl (Nat.le_of_ble_eq_true rfl) (fun p e s m below meth c ls A C hA hl hw => ?_)
  have hx := C.1.1
  have hb := C.1.2.1
  have hl : lv_has ls 3 [(0, .ref (a 0))] := hl
  unfold fX8_filled at h
  refine lv_iconst (v := 0) hx hb dX8_filled_0 (by decide) ?_
  refine lv_istore_n (lv' := [(1, .int 0), (0, .ref (a 0))]) hx hb dX8_filled_1 rfl hl (by decide) rfl (fun ls hl => ?_)
  refine lv_iconst (v := 0) hx hb dX8_filled_2 (by decide) ?_
  refine lv_istore_n (lv' := [(2, .int 0), (1, .int 0), (0, .ref (a 0))]) hx hb dX8_filled_3 rfl hl (by decide) rfl (fun ls hl => ?_)
  refine wX8_filled_4 C hA _ (fun x1_4 x2_4 H locs ls hw4x hl h => ?_) FU _ _ _ _ _ hw (lv_sub hl [2, 1, 0] rfl) h
  refine lv_iload_n hx hb dX8_filled_32 rfl (lv_at hl 1 rfl) ?_
  cases h
  exact k_iret C hw4x dX8_filled_33
def rmX8_count : Room := { frames := 5, cells := 0, slots := 0, locals := 117 }
def fX8_count (g_row : Nat → Int32) (g_undos : Int32) (g_list : Nat → Int32) (g_listed : Int32) (g_papers : Int32) (g_length : Int32) (x1 : Int32) : Option (Int32) :=
  if x1 = 0 then
    (ld 5058 g_row x1).bind fun y69 =>
    some y69
  else
  if x1 = 1 then
    (ld 5058 g_row x1).bind fun y69 =>
    some y69
  else
  if x1 = 2 then
    (ld 5058 g_row x1).bind fun y69 =>
    some y69
  else
  if x1 = 3 then
    (ld 5058 g_row x1).bind fun y69 =>
    some y69
  else
  if x1 = 4 then
    some g_listed
  else
  if x1 = 5 then
    (fX8_inBox g_row (-1) 1 2000000000).bind fun r81 =>
    some r81
  else
  if x1 = 6 then
    (fX8_homeless g_row).bind fun r86 =>
    some r86
  else
  if x1 = 7 then
    (fX8_filled g_row).bind fun r91 =>
    some r91
  else
  if x1 = 8 then
    (fX8_clashes g_list g_listed).bind fun r96 =>
    some r96
  else
  if x1 = 9 then
    some g_papers
  else
  if x1 = 10 then
    some g_undos
  else
  if x1 = 11 then
    some g_length
  else
    some (-3)
set_option maxRecDepth 100000 in
set_option maxHeartbeats 4000000 in
theorem tX8_count {l : Launch} {D : va_G} {cI : ClassId} {cS : GS} {a : Nat → Nat} {g_row : Nat → Int32} {g_undos : Int32} {g_list : Nat → Int32} {g_listed : Int32} {g_papers : Int32} {g_length : Int32} {g_besides : Int32} {g_gapFirst : Int32} {g_gapLast : Int32} {g_layings : Int32} {g_first : Int32} {g_behind : Int32} {g_clauses : Int32} {g_drafts : Int32} {x1 : Int32} {s0 : Int32} (h : fX8_count g_row g_undos g_list g_listed g_papers g_length x1 = some s0) : CT l D cI cS yX8_count cX8_count 2 (some .int) rmX8_count [.ref (a 0), .int x1] [oX8 a g_undos g_listed g_papers g_length g_besides g_gapFirst g_gapLast g_layings g_first g_behind g_clauses g_drafts, ar cI (a 1) 5058 g_row, ar cI (a 3) 36 g_list] (some (.int s0)) [oX8 a g_undos g_listed g_papers g_length g_besides g_gapFirst g_gapLast g_layings g_first g_behind g_clauses g_drafts, ar cI (a 1) 5058 g_row, ar cI (a 3) 36 g_list] := by
  refine CT.of RX8 (by decide) rfl (Nat.le_of_ble_eq_true rfl) (fun p e s m below meth c ls A C hA hl hw => ?_)
  have hx := C.1.1
  have hb := C.1.2.1
  have hl : lv_has ls 2 [(0, .ref (a 0)), (1, .int x1)] := hl
  unfold fX8_count at h
  refine lv_iload_n hx hb dX8_count_0 rfl (lv_at hl 1 rfl) ?_
  by_cases c1_0 : x1 = 0
  · replace h := br_t' h c1_0
    refine lv_tableIn (tgt := 64) hx hb dX8_count_1 (by rw [c1_0]; decide) (by rw [c1_0]; decide) (off := 63) (by rw [c1_0]; decide) (by decide) ?_
    refine lv_aload_n hx hb dX8_count_64 rfl (lv_at hl 0 rfl) ?_
    refine k_get C inT_X8 hw 0 rfl rfl 0 (by decide) mF_X8_7 rfl dX8_count_65 ?_
    refine lv_iload_n hx hb dX8_count_68 rfl (lv_at hl 1 rfl) ?_
    obtain ⟨y69, q69, h⟩ := bd h
    refine k_iald C hw 1 rfl q69 dX8_count_69 ?_
    cases h
    exact k_iret C hw dX8_count_70
  replace h := br_f' h c1_0
  by_cases c1_1 : x1 = 1
  · replace h := br_t' h c1_1
    refine lv_tableIn (tgt := 64) hx hb dX8_count_1 (by rw [c1_1]; decide) (by rw [c1_1]; decide) (off := 63) (by rw [c1_1]; decide) (by decide) ?_
    refine lv_aload_n hx hb dX8_count_64 rfl (lv_at hl 0 rfl) ?_
    refine k_get C inT_X8 hw 0 rfl rfl 0 (by decide) mF_X8_7 rfl dX8_count_65 ?_
    refine lv_iload_n hx hb dX8_count_68 rfl (lv_at hl 1 rfl) ?_
    obtain ⟨y69, q69, h⟩ := bd h
    refine k_iald C hw 1 rfl q69 dX8_count_69 ?_
    cases h
    exact k_iret C hw dX8_count_70
  replace h := br_f' h c1_1
  by_cases c1_2 : x1 = 2
  · replace h := br_t' h c1_2
    refine lv_tableIn (tgt := 64) hx hb dX8_count_1 (by rw [c1_2]; decide) (by rw [c1_2]; decide) (off := 63) (by rw [c1_2]; decide) (by decide) ?_
    refine lv_aload_n hx hb dX8_count_64 rfl (lv_at hl 0 rfl) ?_
    refine k_get C inT_X8 hw 0 rfl rfl 0 (by decide) mF_X8_7 rfl dX8_count_65 ?_
    refine lv_iload_n hx hb dX8_count_68 rfl (lv_at hl 1 rfl) ?_
    obtain ⟨y69, q69, h⟩ := bd h
    refine k_iald C hw 1 rfl q69 dX8_count_69 ?_
    cases h
    exact k_iret C hw dX8_count_70
  replace h := br_f' h c1_2
  by_cases c1_3 : x1 = 3
  · replace h := br_t' h c1_3
    refine lv_tableIn (tgt := 64) hx hb dX8_count_1 (by rw [c1_3]; decide) (by rw [c1_3]; decide) (off := 63) (by rw [c1_3]; decide) (by decide) ?_
    refine lv_aload_n hx hb dX8_count_64 rfl (lv_at hl 0 rfl) ?_
    refine k_get C inT_X8 hw 0 rfl rfl 0 (by decide) mF_X8_7 rfl dX8_count_65 ?_
    refine lv_iload_n hx hb dX8_count_68 rfl (lv_at hl 1 rfl) ?_
    obtain ⟨y69, q69, h⟩ := bd h
    refine k_iald C hw 1 rfl q69 dX8_count_69 ?_
    cases h
    exact k_iret C hw dX8_count_70
  replace h := br_f' h c1_3
  by_cases c1_4 : x1 = 4
  · replace h := br_t' h c1_4
    refine lv_tableIn (tgt := 71) hx hb dX8_count_1 (by rw [c1_4]; decide) (by rw [c1_4]; decide) (off := 70) (by rw [c1_4]; decide) (by decide) ?_
    refine lv_aload_n hx hb dX8_count_71 rfl (lv_at hl 0 rfl) ?_
    refine k_get C inT_X8 hw 0 rfl rfl 3 (by decide) mF_X8_49 rfl dX8_count_72 ?_
    cases h
    exact k_iret C hw dX8_count_75
  replace h := br_f' h c1_4
  by_cases c1_5 : x1 = 5
  · replace h := br_t' h c1_5
    refine lv_tableIn (tgt := 76) hx hb dX8_count_1 (by rw [c1_5]; decide) (by rw [c1_5]; decide) (off := 75) (by rw [c1_5]; decide) (by decide) ?_
    refine lv_aload_n hx hb dX8_count_76 rfl (lv_at hl 0 rfl) ?_
    refine lv_iconst (v := (-1)) hx hb dX8_count_77 (by decide) ?_
    refine lv_iconst (v := 1) hx hb dX8_count_78 (by decide) ?_
    refine k_ldc C mC_X8_78 dX8_count_79 ?_
    obtain ⟨r81, q81, h⟩ := bd h
    refine k_callV (nC := 3) [oX8 a g_undos g_listed g_papers g_length g_besides g_gapFirst g_gapLast g_layings g_first g_behind g_clauses g_drafts, ar cI (a 1) 5058 g_row, ar cI (a 3) 36 g_list] C hl.1 (tX8_inBox (a := a) q81) mL_X8_79 mmX8_inBox rfl rfl ⟨Nat.le_of_ble_eq_true rfl, Nat.le_of_ble_eq_true rfl⟩ rfl rfl rfl rfl (Nat.le_of_ble_eq_true rfl) hA hw [0, 1] [2] rfl (by decide +kernel) rfl rfl rfl rfl dX8_count_81 (fun H locs hw81 => ?_)
    cases h
    exact k_iret C hw81 dX8_count_84
  replace h := br_f' h c1_5
  by_cases c1_6 : x1 = 6
  · replace h := br_t' h c1_6
    refine lv_tableIn (tgt := 85) hx hb dX8_count_1 (by rw [c1_6]; decide) (by rw [c1_6]; decide) (off := 84) (by rw [c1_6]; decide) (by decide) ?_
    refine lv_aload_n hx hb dX8_count_85 rfl (lv_at hl 0 rfl) ?_
    obtain ⟨r86, q86, h⟩ := bd h
    refine k_callV (nC := 3) [oX8 a g_undos g_listed g_papers g_length g_besides g_gapFirst g_gapLast g_layings g_first g_behind g_clauses g_drafts, ar cI (a 1) 5058 g_row, ar cI (a 3) 36 g_list] C hl.1 (tX8_homeless (a := a) q86) mL_X8_296 mmX8_homeless rfl rfl ⟨Nat.le_of_ble_eq_true rfl, Nat.le_of_ble_eq_true rfl⟩ rfl rfl rfl rfl (Nat.le_of_ble_eq_true rfl) hA hw [0, 1] [2] rfl (by decide +kernel) rfl rfl rfl rfl dX8_count_86 (fun H locs hw86 => ?_)
    cases h
    exact k_iret C hw86 dX8_count_89
  replace h := br_f' h c1_6
  by_cases c1_7 : x1 = 7
  · replace h := br_t' h c1_7
    refine lv_tableIn (tgt := 90) hx hb dX8_count_1 (by rw [c1_7]; decide) (by rw [c1_7]; decide) (off := 89) (by rw [c1_7]; decide) (by decide) ?_
    refine lv_aload_n hx hb dX8_count_90 rfl (lv_at hl 0 rfl) ?_
    obtain ⟨r91, q91, h⟩ := bd h
    refine k_callV (nC := 3) [oX8 a g_undos g_listed g_papers g_length g_besides g_gapFirst g_gapLast g_layings g_first g_behind g_clauses g_drafts, ar cI (a 1) 5058 g_row, ar cI (a 3) 36 g_list] C hl.1 (tX8_filled (a := a) q91) mL_X8_299 mmX8_filled rfl rfl ⟨Nat.le_of_ble_eq_true rfl, Nat.le_of_ble_eq_true rfl⟩ rfl rfl rfl rfl (Nat.le_of_ble_eq_true rfl) hA hw [0, 1] [2] rfl (by decide +kernel) rfl rfl rfl rfl dX8_count_91 (fun H locs hw91 => ?_)
    cases h
    exact k_iret C hw91 dX8_count_94
  replace h := br_f' h c1_7
  by_cases c1_8 : x1 = 8
  · replace h := br_t' h c1_8
    refine lv_tableIn (tgt := 95) hx hb dX8_count_1 (by rw [c1_8]; decide) (by rw [c1_8]; decide) (off := 94) (by rw [c1_8]; decide) (by decide) ?_
    refine lv_aload_n hx hb dX8_count_95 rfl (lv_at hl 0 rfl) ?_
    obtain ⟨r96, q96, h⟩ := bd h
    refine k_callV (nC := 3) [oX8 a g_undos g_listed g_papers g_length g_besides g_gapFirst g_gapLast g_layings g_first g_behind g_clauses g_drafts, ar cI (a 1) 5058 g_row, ar cI (a 3) 36 g_list] C hl.1 (tX8_clashes (a := a) q96) mL_X8_302 mmX8_clashes rfl rfl ⟨Nat.le_of_ble_eq_true rfl, Nat.le_of_ble_eq_true rfl⟩ rfl rfl rfl rfl (Nat.le_of_ble_eq_true rfl) hA hw [0, 2] [1] rfl (by decide +kernel) rfl rfl rfl rfl dX8_count_96 (fun H locs hw96 => ?_)
    cases h
    exact k_iret C hw96 dX8_count_99
  replace h := br_f' h c1_8
  by_cases c1_9 : x1 = 9
  · replace h := br_t' h c1_9
    refine lv_tableIn (tgt := 100) hx hb dX8_count_1 (by rw [c1_9]; decide) (by rw [c1_9]; decide) (off := 99) (by rw [c1_9]; decide) (by decide) ?_
    refine lv_aload_n hx hb dX8_count_100 rfl (lv_at hl 0 rfl) ?_
    refine k_get C inT_X8 hw 0 rfl rfl 5 (by decide) mF_X8_53 rfl dX8_count_101 ?_
    cases h
    exact k_iret C hw dX8_count_104
  replace h := br_f' h c1_9
  by_cases c1_10 : x1 = 10
  · replace h := br_t' h c1_10
    refine lv_tableIn (tgt := 105) hx hb dX8_count_1 (by rw [c1_10]; decide) (by rw [c1_10]; decide) (off := 104) (by rw [c1_10]; decide) (by decide) ?_
    refine lv_aload_n hx hb dX8_count_105 rfl (lv_at hl 0 rfl) ?_
    refine k_get C inT_X8 hw 0 rfl rfl 1 (by decide) mF_X8_197 rfl dX8_count_106 ?_
    cases h
    exact k_iret C hw dX8_count_109
  replace h := br_f' h c1_10
  by_cases c1_11 : x1 = 11
  · replace h := br_t' h c1_11
    refine lv_tableIn (tgt := 110) hx hb dX8_count_1 (by rw [c1_11]; decide) (by rw [c1_11]; decide) (off := 109) (by rw [c1_11]; decide) (by decide) ?_
    refine lv_aload_n hx hb dX8_count_110 rfl (lv_at hl 0 rfl) ?_
    refine k_get C inT_X8 hw 0 rfl rfl 7 (by decide) mF_X8_127 rfl dX8_count_111 ?_
    cases h
    exact k_iret C hw dX8_count_114
  replace h := br_f' h c1_11
  refine lv_tableOut (tgt := 115) hx hb dX8_count_1 (by have t0 := ti_ne (i := 0) c1_0 (by decide); have t1 := ti_ne (i := 1) c1_1 (by decide); have t2 := ti_ne (i := 2) c1_2 (by decide); have t3 := ti_ne (i := 3) c1_3 (by decide); have t4 := ti_ne (i := 4) c1_4 (by decide); have t5 := ti_ne (i := 5) c1_5 (by decide); have t6 := ti_ne (i := 6) c1_6 (by decide); have t7 := ti_ne (i := 7) c1_7 (by decide); have t8 := ti_ne (i := 8) c1_8 (by decide); have t9 := ti_ne (i := 9) c1_9 (by decide); have t10 := ti_ne (i := 10) c1_10 (by decide); have t11 := ti_ne (i := 11) c1_11 (by decide); omega) (by decide) ?_
  refine lv_bipush (v := (-3)) hx hb dX8_count_115 (by decide) ?_
  cases h
  exact k_iret C hw dX8_count_117
