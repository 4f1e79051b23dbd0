def rmX1_stepBack : Room := { frames := 4, cells := 0, slots := 0, locals := 91 }
def fX1_stepBack (g_slots : Nat → Sn) (g_top : Int32) (g_steps : Int32) (g_p1_rooms : Nat → Int32) (g_p1_day : Int32) (v_p1_series : Rg) (v_p1_pieces : Rg) (v_p1_moves : Rg) : Option (Int32 × Int32 × Int32 × (Nat → Int32) × Int32 × Rg × Rg × Rg) :=
  if g_steps = 0 then
    some (0, g_top, g_steps, g_p1_rooms, g_p1_day, v_p1_series, v_p1_pieces, v_p1_moves)
  else
    if g_top ≤ 0 then
      (fX1_giveBack g_slots 8 g_p1_rooms g_p1_day v_p1_series v_p1_pieces v_p1_moves).bind fun r43 =>
      some (1, 8, (g_steps - 1), r43.1, r43.2.1, r43.2.2.1, r43.2.2.2.1, r43.2.2.2.2)
    else
      (fX1_giveBack g_slots (g_top - 1) g_p1_rooms g_p1_day v_p1_series v_p1_pieces v_p1_moves).bind fun r43 =>
      some (1, (g_top - 1), (g_steps - 1), r43.1, r43.2.1, r43.2.2.1, r43.2.2.2.1, r43.2.2.2.2)
set_option maxRecDepth 100000 in
set_option maxHeartbeats 4000000 in
theorem tX1_stepBack {l : Launch} {D : va_G} {cI : ClassId} {cS : GS} {a : Nat → Nat} {a_slots : Nat → Nat → Nat} {a_p1 : Nat → Nat} {a_p1_series : Nat → Nat} {a_p1_pieces : Nat → Nat} {a_p1_trial : Nat → Nat} {a_p1_moves : Nat → Nat} {g_slots : Nat → Sn} {g_top : Int32} {g_steps : Int32} {g_p1_rooms : Nat → Int32} {g_p1_day : Int32} {v_p1_series : Rg} {v_p1_pieces : Rg} {v_p1_moves : Rg}  {s0 : Int32} {s1 : Int32} {s2 : Int32} {s3 : (Nat → Int32)} {s4 : Int32} {s5 : Rg} {s6 : Rg} {s7 : Rg} (h : fX1_stepBack g_slots g_top g_steps g_p1_rooms g_p1_day v_p1_series v_p1_pieces v_p1_moves = some (s0, s1, s2, s3, s4, s5, s6, s7)) : CT l D cI cS yX1_stepBack cX1_stepBack 2 (some .boolean) rmX1_stepBack [.ref (a 0), .ref (a_p1 0)] [oX1 a g_top g_steps, cSl cI cS (a 1) a_slots g_slots, oX0 a_p1 a_p1_series a_p1_pieces a_p1_trial a_p1_moves g_p1_day, ar cI (a_p1 2) 8 g_p1_rooms, cR cI a_p1_series 10 v_p1_series, cR cI a_p1_pieces 42 v_p1_pieces, cR cI a_p1_moves 100 v_p1_moves] (some (.int s0)) [oX1 a s1 s2, cSl cI cS (a 1) a_slots g_slots, oX0 a_p1 a_p1_series a_p1_pieces a_p1_trial a_p1_moves s4, ar cI (a_p1 2) 8 s3, cR cI a_p1_series 10 s5, cR cI a_p1_pieces 42 s6, cR cI a_p1_moves 100 s7] := by
  refine CT.of RX1 (by decide) rfl (Nat.le_of_ble_eq_true rfl) (fun p e s m below meth c ls A C hA hl hw => ?_)
  have hx := C.1.1
  have hb := C.1.2.1
  have hl : lv_has ls 2 [(0, .ref (a 0)), (1, .ref (a_p1 0))] := hl
  unfold fX1_stepBack at h
  refine lv_aload_n hx hb dX1_stepBack_0 rfl (lv_at hl 0 rfl) ?_
  refine k_get C inT_X1 hw 0 rfl rfl 2 (by decide) mF_X1_22 rfl dX1_stepBack_1 ?_
  refine lv_if_ne (tgt := 9) hx hb dX1_stepBack_4 (by decide) (fun c4 => ?_) (fun c4 => ?_)
  · replace h := br_f' h c4
    refine lv_aload_n hx hb dX1_stepBack_9 rfl (lv_at hl 0 rfl) ?_
    refine lv_aload_n hx hb dX1_stepBack_10 rfl (lv_at hl 0 rfl) ?_
    refine k_get C inT_X1 hw 0 rfl rfl 1 (by decide) mF_X1_18 rfl dX1_stepBack_11 ?_
    refine lv_if_le (tgt := 26) hx hb dX1_stepBack_14 (by decide) (fun c14 => ?_) (fun c14 => ?_)
    · replace h := br_t' h c14
      refine lv_bipush (v := 8) hx hb dX1_stepBack_26 (by decide) ?_
      refine k_put C inT_X1 tyX1 tyX1_ok nmX1 hw 0 rfl rfl 1 (by decide) mF_X1_18 rfl rfl (Nat.le_of_ble_eq_true rfl) [oX1 a 8 g_steps, cSl cI cS (a 1) a_slots g_slots, oX0 a_p1 a_p1_series a_p1_pieces a_p1_trial a_p1_moves g_p1_day, ar cI (a_p1 2) 8 g_p1_rooms, cR cI a_p1_series 10 v_p1_series, cR cI a_p1_pieces 42 v_p1_pieces, cR cI a_p1_moves 100 v_p1_moves] rfl dX1_stepBack_28 (fun H locs hw28 => ?_)
      refine lv_aload_n hx hb dX1_stepBack_31 rfl (lv_at hl 0 rfl) ?_
      refine lv_dup hx hb dX1_stepBack_32 rfl ?_
      refine k_get C inT_X1 hw28 0 rfl rfl 2 (by decide) mF_X1_22 rfl dX1_stepBack_33 ?_
      refine lv_iconst (v := 1) hx hb dX1_stepBack_36 (by decide) ?_
      refine lv_isub hx hb dX1_stepBack_37 ?_
      refine k_put C inT_X1 tyX1 tyX1_ok nmX1 hw28 0 rfl rfl 2 (by decide) mF_X1_22 rfl rfl (Nat.le_of_ble_eq_true rfl) [oX1 a 8 (g_steps - 1), cSl cI cS (a 1) a_slots g_slots, oX0 a_p1 a_p1_series a_p1_pieces a_p1_trial a_p1_moves g_p1_day, ar cI (a_p1 2) 8 g_p1_rooms, cR cI a_p1_series 10 v_p1_series, cR cI a_p1_pieces 42 v_p1_pieces, cR cI a_p1_moves 100 v_p1_moves] rfl dX1_stepBack_38 (fun H locs hw38 => ?_)
      refine lv_aload_n hx hb dX1_stepBack_41 rfl (lv_at hl 0 rfl) ?_
      refine lv_aload_n hx hb dX1_stepBack_42 rfl (lv_at hl 1 rfl) ?_
      obtain ⟨r43, q43, h⟩ := bd h
      refine k_callV (nC := 7) [oX1 a 8 (g_steps - 1), cSl cI cS (a 1) a_slots g_slots, oX0 a_p1 a_p1_series a_p1_pieces a_p1_trial a_p1_moves r43.2.1, ar cI (a_p1 2) 8 r43.1, cR cI a_p1_series 10 r43.2.2.1, cR cI a_p1_pieces 42 r43.2.2.2.1, cR cI a_p1_moves 100 r43.2.2.2.2] C hl.1 (tX1_giveBack (a := a) (a_slots := a_slots) (a_p1 := a_p1) (a_p1_series := a_p1_series) (a_p1_pieces := a_p1_pieces) (a_p1_trial := a_p1_trial) (a_p1_moves := a_p1_moves) q43) mL_X1_44 mmX1_giveBack rfl rfl ⟨Nat.le_of_ble_eq_true rfl, Nat.le_of_ble_eq_true rfl⟩ rfl rfl rfl rfl (Nat.le_of_ble_eq_true rfl) hA hw38 [0, 1, 2, 3, 4, 5, 6] [] rfl (by decide +kernel) rfl rfl rfl rfl dX1_stepBack_43 (fun H locs hw43 => ?_)
      refine lv_iconst (v := 1) hx hb dX1_stepBack_46 (by decide) ?_
      cases h
      exact k_zret (v := 1) C rfl hw43 dX1_stepBack_47
    · replace h := br_f' h c14
      refine lv_aload_n hx hb dX1_stepBack_17 rfl (lv_at hl 0 rfl) ?_
      refine k_get C inT_X1 hw 0 rfl rfl 1 (by decide) mF_X1_18 rfl dX1_stepBack_18 ?_
      refine lv_iconst (v := 1) hx hb dX1_stepBack_21 (by decide) ?_
      refine lv_isub hx hb dX1_stepBack_22 ?_
      refine lv_goto (tgt := 28) hx hb dX1_stepBack_23 (by decide) ?_
      refine k_put C inT_X1 tyX1 tyX1_ok nmX1 hw 0 rfl rfl 1 (by decide) mF_X1_18 rfl rfl (Nat.le_of_ble_eq_true rfl) [oX1 a (g_top - 1) g_steps, cSl cI cS (a 1) a_slots g_slots, oX0 a_p1 a_p1_series a_p1_pieces a_p1_trial a_p1_moves g_p1_day, ar cI (a_p1 2) 8 g_p1_rooms, cR cI a_p1_series 10 v_p1_series, cR cI a_p1_pieces 42 v_p1_pieces, cR cI a_p1_moves 100 v_p1_moves] rfl dX1_stepBack_28 (fun H locs hw28 => ?_)
      refine lv_aload_n hx hb dX1_stepBack_31 rfl (lv_at hl 0 rfl) ?_
      refine lv_dup hx hb dX1_stepBack_32 rfl ?_
      refine k_get C inT_X1 hw28 0 rfl rfl 2 (by decide) mF_X1_22 rfl dX1_stepBack_33 ?_
      refine lv_iconst (v := 1) hx hb dX1_stepBack_36 (by decide) ?_
      refine lv_isub hx hb dX1_stepBack_37 ?_
      refine k_put C inT_X1 tyX1 tyX1_ok nmX1 hw28 0 rfl rfl 2 (by decide) mF_X1_22 rfl rfl (Nat.le_of_ble_eq_true rfl) [oX1 a (g_top - 1) (g_steps - 1), cSl cI cS (a 1) a_slots g_slots, oX0 a_p1 a_p1_series a_p1_pieces a_p1_trial a_p1_moves g_p1_day, ar cI (a_p1 2) 8 g_p1_rooms, cR cI a_p1_series 10 v_p1_series, cR cI a_p1_pieces 42 v_p1_pieces, cR cI a_p1_moves 100 v_p1_moves] rfl dX1_stepBack_38 (fun H locs hw38 => ?_)
      refine lv_aload_n hx hb dX1_stepBack_41 rfl (lv_at hl 0 rfl) ?_
      refine lv_aload_n hx hb dX1_stepBack_42 rfl (lv_at hl 1 rfl) ?_
      obtain ⟨r43, q43, h⟩ := bd h
      refine k_callV (nC := 7) [oX1 a (g_top - 1) (g_steps - 1), cSl cI cS (a 1) a_slots g_slots, oX0 a_p1 a_p1_series a_p1_pieces a_p1_trial a_p1_moves r43.2.1, ar cI (a_p1 2) 8 r43.1, cR cI a_p1_series 10 r43.2.2.1, cR cI a_p1_pieces 42 r43.2.2.2.1, cR cI a_p1_moves 100 r43.2.2.2.2] C hl.1 (tX1_giveBack (a := a) (a_slots := a_slots) (a_p1 := a_p1) (a_p1_series := a_p1_series) (a_p1_pieces := a_p1_pieces) (a_p1_trial := a_p1_trial) (a_p1_moves := a_p1_moves) q43) mL_X1_44 mmX1_giveBack rfl rfl ⟨Nat.le_of_ble_eq_true rfl, Nat.le_of_ble_eq_true rfl⟩ rfl rfl rfl rfl (Nat.le_of_ble_eq_true rfl) hA hw38 [0, 1, 2, 3, 4, 5, 6] [] rfl (by decide +kernel) rfl rfl rfl rfl dX1_stepBack_43 (fun H locs hw43 => ?_)
      refine lv_iconst (v := 1) hx hb dX1_stepBack_46 (by decide) ?_
      cases h
      exact k_zret (v := 1) C rfl hw43 dX1_stepBack_47
  · replace h := br_t' h c4
    refine lv_iconst (v := 0) hx hb dX1_stepBack_7 (by decide) ?_
    cases h
    exact k_zret (v := 0) C rfl hw dX1_stepBack_8
def rmX7_settle : Room := { frames := 4, cells := 0, slots := 0, locals := 91 }
def fX7_settle (g_archive_rooms : Nat → Int32) (g_archive_day : Int32) (v_archive_series : Rg) (v_archive_pieces : Rg) (v_archive_moves : Rg) (g_history_slots : Nat → Sn) (g_history_top : Int32) (g_history_steps : Int32) (x1 : Int32) : Option (Int32 × (Nat → Int32) × Int32 × Rg × Rg × Rg × Int32 × Int32) :=
  if 0 ≤ x1 then
    (fX1_keep g_history_top g_history_steps).bind fun r22 =>
    some (x1, g_archive_rooms, g_archive_day, v_archive_series, v_archive_pieces, v_archive_moves, r22.1, r22.2)
  else
    (fX1_giveBack g_history_slots g_history_top g_archive_rooms g_archive_day v_archive_series v_archive_pieces v_archive_moves).bind fun r12 =>
    some (x1, r12.1, r12.2.1, r12.2.2.1, r12.2.2.2.1, r12.2.2.2.2, g_history_top, g_history_steps)
set_option maxRecDepth 100000 in
set_option maxHeartbeats 4000000 in
theorem tX7_settle {l : Launch} {D : va_G} {cI : ClassId} {cS : GS} {a : Nat → Nat} {a_archive : Nat → Nat} {a_history : Nat → Nat} {a_planner : Nat → Nat} {a_rows : Nat → Nat} {a_text : Nat → Nat} {a_page : Nat → Nat} {a_draft : Nat → Nat} {a_archive_series : Nat → Nat} {a_archive_pieces : Nat → Nat} {a_archive_trial : Nat → Nat} {a_archive_moves : Nat → Nat} {a_history_slots : Nat → Nat → Nat} {g_archive_rooms : Nat → Int32} {g_archive_day : Int32} {v_archive_series : Rg} {v_archive_pieces : Rg} {v_archive_moves : Rg} {g_history_slots : Nat → Sn} {g_history_top : Int32} {g_history_steps : Int32} {x1 : Int32} {s0 : Int32} {s1 : (Nat → Int32)} {s2 : Int32} {s3 : Rg} {s4 : Rg} {s5 : Rg} {s6 : Int32} {s7 : Int32} (h : fX7_settle g_archive_rooms g_archive_day v_archive_series v_archive_pieces v_archive_moves g_history_slots g_history_top g_history_steps x1 = some (s0, s1, s2, s3, s4, s5, s6, s7)) : CT l D cI cS yX7_settle cX7_settle 2 (some .int) rmX7_settle [.ref (a 0), .int x1] [oX7 a a_archive a_history a_planner a_rows a_text a_page a_draft, oX0 a_archive a_archive_series a_archive_pieces a_archive_trial a_archive_moves g_archive_day, ar cI (a_archive 2) 8 g_archive_rooms, cR cI a_archive_series 10 v_archive_series, cR cI a_archive_pieces 42 v_archive_pieces, cR cI a_archive_moves 100 v_archive_moves, oX1 a_history g_history_top g_history_steps, cSl cI cS (a_history 1) a_history_slots g_history_slots] (some (.int s0)) [oX7 a a_archive a_history a_planner a_rows a_text a_page a_draft, oX0 a_archive a_archive_series a_archive_pieces a_archive_trial a_archive_moves s2, ar cI (a_archive 2) 8 s1, cR cI a_archive_series 10 s3, cR cI a_archive_pieces 42 s4, cR cI a_archive_moves 100 s5, oX1 a_history s6 s7, cSl cI cS (a_history 1) a_history_slots g_history_slots] := by
  refine CT.of RX7 (by decide) rfl (Nat.le_of_ble_eq_true rfl) (fun p e s m below meth c ls A C hA hl hw => ?_)
  have hx := C.1.1
  have hb := C.1.2.1
  have hl : lv_has ls 2 [(0, .ref (a 0)), (1, .int x1)] := hl
  unfold fX7_settle at h
  refine lv_iload_n hx hb dX7_settle_0 rfl (lv_at hl 1 rfl) ?_
  refine lv_if_ge (tgt := 18) hx hb dX7_settle_1 (by decide) (fun c1 => ?_) (fun c1 => ?_)
  · replace h := br_t' h c1
    refine lv_aload_n hx hb dX7_settle_18 rfl (lv_at hl 0 rfl) ?_
    refine k_get C inT_X7 hw 0 rfl rfl 1 (by decide) mF_X7_19 rfl dX7_settle_19 ?_
    obtain ⟨r22, q22, h⟩ := bd h
    refine k_callV (nC := 8) [oX7 a a_archive a_history a_planner a_rows a_text a_page a_draft, oX0 a_archive a_archive_series a_archive_pieces a_archive_trial a_archive_moves g_archive_day, ar cI (a_archive 2) 8 g_archive_rooms, cR cI a_archive_series 10 v_archive_series, cR cI a_archive_pieces 42 v_archive_pieces, cR cI a_archive_moves 100 v_archive_moves, oX1 a_history r22.1 r22.2, cSl cI cS (a_history 1) a_history_slots g_history_slots] C hl.1 (tX1_keep (a := a_history) q22) mL_X7_144 mmX1_keep rfl rfl ⟨Nat.le_of_ble_eq_true rfl, Nat.le_of_ble_eq_true rfl⟩ rfl rfl rfl rfl (Nat.le_of_ble_eq_true rfl) hA hw [6] [0, 1, 2, 3, 4, 5, 7] rfl (by decide +kernel) rfl rfl rfl rfl dX7_settle_22 (fun H locs hw22 => ?_)
    refine lv_iload_n hx hb dX7_settle_25 rfl (lv_at hl 1 rfl) ?_
    cases h
    exact k_iret C hw22 dX7_settle_26
  · replace h := br_f' h c1
    refine lv_aload_n hx hb dX7_settle_4 rfl (lv_at hl 0 rfl) ?_
    refine k_get C inT_X7 hw 0 rfl rfl 1 (by decide) mF_X7_19 rfl dX7_settle_5 ?_
    refine lv_aload_n hx hb dX7_settle_8 rfl (lv_at hl 0 rfl) ?_
    refine k_get C inT_X7 hw 0 rfl rfl 0 (by decide) mF_X7_12 rfl dX7_settle_9 ?_
    obtain ⟨r12, q12, h⟩ := bd h
    refine k_callV (nC := 8) [oX7 a a_archive a_history a_planner a_rows a_text a_page a_draft, oX0 a_archive a_archive_series a_archive_pieces a_archive_trial a_archive_moves r12.2.1, ar cI (a_archive 2) 8 r12.1, cR cI a_archive_series 10 r12.2.2.1, cR cI a_archive_pieces 42 r12.2.2.2.1, cR cI a_archive_moves 100 r12.2.2.2.2, oX1 a_history g_history_top g_history_steps, cSl cI cS (a_history 1) a_history_slots g_history_slots] C hl.1 (tX1_giveBack (a := a_history) (a_slots := a_history_slots) (a_p1 := a_archive) (a_p1_series := a_archive_series) (a_p1_pieces := a_archive_pieces) (a_p1_trial := a_archive_trial) (a_p1_moves := a_archive_moves) q12) mL_X7_141 mmX1_giveBack rfl rfl ⟨Nat.le_of_ble_eq_true rfl, Nat.le_of_ble_eq_true rfl⟩ rfl rfl rfl rfl (Nat.le_of_ble_eq_true rfl) hA hw [6, 7, 1, 2, 3, 4, 5] [0] rfl (by decide +kernel) rfl rfl rfl rfl dX7_settle_12 (fun H locs hw12 => ?_)
    refine lv_goto (tgt := 25) hx hb dX7_settle_15 (by decide) ?_
    refine lv_iload_n hx hb dX7_settle_25 rfl (lv_at hl 1 rfl) ?_
    cases h
    exact k_iret C hw12 dX7_settle_26
def rmX7_series : Room := { frames := 5, cells := 0, slots := 0, locals := 112 }
def fX7_series (g_archive_rooms : Nat → Int32) (g_archive_day : Int32) (v_archive_series : Rg) (v_archive_pieces : Rg) (v_archive_moves : Rg) (g_history_slots : Nat → Sn) (g_history_top : Int32) (g_history_steps : Int32) (x1 : Int32) (x2 : Int32) (x3 : Int32) : Option (Int32 × (Nat → Int32) × Int32 × Rg × Rg × Rg × (Nat → Sn) × Int32 × Int32) :=
  (fX1_remember g_history_slots g_history_top g_archive_rooms g_archive_day v_archive_series v_archive_pieces v_archive_moves).bind fun r8 =>
  (fX0_addSeries v_archive_series x1 x2 x3).bind fun r19 =>
  (fX7_settle g_archive_rooms g_archive_day r19.2 v_archive_pieces v_archive_moves r8 g_history_top g_history_steps r19.1).bind fun r22 =>
  some (r22.1, r22.2.1, r22.2.2.1, r22.2.2.2.1, r22.2.2.2.2.1, r22.2.2.2.2.2.1, r8, r22.2.2.2.2.2.2.1, r22.2.2.2.2.2.2.2)
set_option maxRecDepth 100000 in
set_option maxHeartbeats 4000000 in
theorem tX7_series {l : Launch} {D : va_G} {cI : ClassId} {cS : GS} {a : Nat → Nat} {a_archive : Nat → Nat} {a_history : Nat → Nat} {a_planner : Nat → Nat} {a_rows : Nat → Nat} {a_text : Nat → Nat} {a_page : Nat → Nat} {a_draft : Nat → Nat} {a_archive_series : Nat → Nat} {a_archive_pieces : Nat → Nat} {a_archive_trial : Nat → Nat} {a_archive_moves : Nat → Nat} {a_history_slots : Nat → Nat → Nat} {g_archive_rooms : Nat → Int32} {g_archive_day : Int32} {v_archive_series : Rg} {v_archive_pieces : Rg} {v_archive_moves : Rg} {g_history_slots : Nat → Sn} {g_history_top : Int32} {g_history_steps : Int32} {x1 : Int32} {x2 : Int32} {x3 : Int32} {s0 : Int32} {s1 : (Nat → Int32)} {s2 : Int32} {s3 : Rg} {s4 : Rg} {s5 : Rg} {s6 : (Nat → Sn)} {s7 : Int32} {s8 : Int32} (h : fX7_series g_archive_rooms g_archive_day v_archive_series v_archive_pieces v_archive_moves g_history_slots g_history_top g_history_steps x1 x2 x3 = some (s0, s1, s2, s3, s4, s5, s6, s7, s8)) : CT l D cI cS yX7_series cX7_series 4 (some .int) rmX7_series [.ref (a 0), .int x1, .int x2, .int x3] [oX7 a a_archive a_history a_planner a_rows a_text a_page a_draft, oX0 a_archive a_archive_series a_archive_pieces a_archive_trial a_archive_moves g_archive_day, ar cI (a_archive 2) 8 g_archive_rooms, cR cI a_archive_series 10 v_archive_series, cR cI a_archive_pieces 42 v_archive_pieces, cR cI a_archive_moves 100 v_archive_moves, oX1 a_history g_history_top g_history_steps, cSl cI cS (a_history 1) a_history_slots g_history_slots] (some (.int s0)) [oX7 a a_archive a_history a_planner a_rows a_text a_page a_draft, oX0 a_archive a_archive_series a_archive_pieces a_archive_trial a_archive_moves s2, ar cI (a_archive 2) 8 s1, cR cI a_archive_series 10 s3, cR cI a_archive_pieces 42 s4, cR cI a_archive_moves 100 s5, oX1 a_history s7 s8, cSl cI cS (a_history 1) a_history_slots s6] := by
  refine CT.of RX7 (by decide) rfl (Nat.le_of_ble_eq_true rfl) (fun p e s m below meth c ls A C hA hl hw => ?_)
  have hx := C.1.1
  have hb := C.1.2.1
  have hl : lv_has ls 4 [(0, .ref (a 0)), (1, .int x1), (2, .int x2), (3, .int x3)] := hl
  unfold fX7_series at h
  refine lv_aload_n hx hb dX7_series_0 rfl (lv_at hl 0 rfl) ?_
  refine k_get C inT_X7 hw 0 rfl rfl 1 (by decide) mF_X7_19 rfl dX7_series_1 ?_
  refine lv_aload_n hx hb dX7_series_4 rfl (lv_at hl 0 rfl) ?_
  refine k_get C inT_X7 hw 0 rfl rfl 0 (by decide) mF_X7_12 rfl dX7_series_5 ?_
  obtain ⟨r8, q8, h⟩ := bd h
  refine k_callV (nC := 8) [oX7 a a_archive a_history a_planner a_rows a_text a_page a_draft, oX0 a_archive a_archive_series a_archive_pieces a_archive_trial a_archive_moves g_archive_day, ar cI (a_archive 2) 8 g_archive_rooms, cR cI a_archive_series 10 v_archive_series, cR cI a_archive_pieces 42 v_archive_pieces, cR cI a_archive_moves 100 v_archive_moves, oX1 a_history g_history_top g_history_steps, cSl cI cS (a_history 1) a_history_slots r8] C hl.1 (tX1_remember (a := a_history) (a_slots := a_history_slots) (a_p1 := a_archive) (a_p1_series := a_archive_series) (a_p1_pieces := a_archive_pieces) (a_p1_trial := a_archive_trial) (a_p1_moves := a_archive_moves) q8) mL_X7_116 mmX1_remember rfl rfl ⟨Nat.le_of_ble_eq_true rfl, Nat.le_of_ble_eq_true rfl⟩ rfl rfl rfl rfl (Nat.le_of_ble_eq_true rfl) hA hw [6, 7, 1, 2, 3, 4, 5] [0] rfl (by decide +kernel) rfl rfl rfl rfl dX7_series_8 (fun H locs hw8 => ?_)
  refine lv_aload_n hx hb dX7_series_11 rfl (lv_at hl 0 rfl) ?_
  refine lv_aload_n hx hb dX7_series_12 rfl (lv_at hl 0 rfl) ?_
  refine k_get C inT_X7 hw8 0 rfl rfl 0 (by decide) mF_X7_12 rfl dX7_series_13 ?_
  refine lv_iload_n hx hb dX7_series_16 rfl (lv_at hl 1 rfl) ?_
  refine lv_iload_n hx hb dX7_series_17 rfl (lv_at hl 2 rfl) ?_
  refine lv_iload_n hx hb dX7_series_18 rfl (lv_at hl 3 rfl) ?_
  obtain ⟨r19, q19, h⟩ := bd h
  refine k_callV (nC := 8) [oX7 a a_archive a_history a_planner a_rows a_text a_page a_draft, oX0 a_archive a_archive_series a_archive_pieces a_archive_trial a_archive_moves g_archive_day, ar cI (a_archive 2) 8 g_archive_rooms, cR cI a_archive_series 10 r19.2, cR cI a_archive_pieces 42 v_archive_pieces, cR cI a_archive_moves 100 v_archive_moves, oX1 a_history g_history_top g_history_steps, cSl cI cS (a_history 1) a_history_slots r8] C hl.1 (tX0_addSeries (a := a_archive) (a_series := a_archive_series) (a_pieces := a_archive_pieces) (a_trial := a_archive_trial) (a_moves := a_archive_moves) q19) mL_X7_90 mmX0_addSeries rfl rfl ⟨Nat.le_of_ble_eq_true rfl, Nat.le_of_ble_eq_true rfl⟩ rfl rfl rfl rfl (Nat.le_of_ble_eq_true rfl) hA hw8 [1, 3] [0, 2, 4, 5, 6, 7] rfl (by decide +kernel) rfl rfl rfl rfl dX7_series_19 (fun H locs hw19 => ?_)
  obtain ⟨r22, q22, h⟩ := bd h
  refine k_callV (nC := 8) [oX7 a a_archive a_history a_planner a_rows a_text a_page a_draft, oX0 a_archive a_archive_series a_archive_pieces a_archive_trial a_archive_moves r22.2.2.1, ar cI (a_archive 2) 8 r22.2.1, cR cI a_archive_series 10 r22.2.2.2.1, cR cI a_archive_pieces 42 r22.2.2.2.2.1, cR cI a_archive_moves 100 r22.2.2.2.2.2.1, oX1 a_history r22.2.2.2.2.2.2.1 r22.2.2.2.2.2.2.2, cSl cI cS (a_history 1) a_history_slots r8] C hl.1 (tX7_settle (a := a) (a_archive := a_archive) (a_history := a_history) (a_planner := a_planner) (a_rows := a_rows) (a_text := a_text) (a_page := a_page) (a_draft := a_draft) (a_archive_series := a_archive_series) (a_archive_pieces := a_archive_pieces) (a_archive_trial := a_archive_trial) (a_archive_moves := a_archive_moves) (a_history_slots := a_history_slots) q22) mL_X7_120 mmX7_settle rfl rfl ⟨Nat.le_of_ble_eq_true rfl, Nat.le_of_ble_eq_true rfl⟩ rfl rfl rfl rfl (Nat.le_of_ble_eq_true rfl) hA hw19 [0, 1, 2, 3, 4, 5, 6, 7] [] rfl (by decide +kernel) rfl rfl rfl rfl dX7_series_22 (fun H locs hw22 => ?_)
  cases h
  exact k_iret C hw22 dX7_series_25
def rmX7_room : Room := { frames := 5, cells := 0, slots := 0, locals := 112 }
def fX7_room (g_archive_rooms : Nat → Int32) (g_archive_day : Int32) (v_archive_series : Rg) (v_archive_pieces : Rg) (v_archive_moves : Rg) (g_history_slots : Nat → Sn) (g_history_top : Int32) (g_history_steps : Int32) (x1 : Int32) (x2 : Int32) : Option (Int32 × (Nat → Int32) × Int32 × Rg × Rg × Rg × (Nat → Sn) × Int32 × Int32) :=
  (fX1_remember g_history_slots g_history_top g_archive_rooms g_archive_day v_archive_series v_archive_pieces v_archive_moves).bind fun r8 =>
  (fX0_setRoom g_archive_rooms v_archive_pieces x1 x2).bind fun r18 =>
  (fX7_settle r18.2 g_archive_day v_archive_series v_archive_pieces v_archive_moves r8 g_history_top g_history_steps r18.1).bind fun r21 =>
  some (r21.1, r21.2.1, r21.2.2.1, r21.2.2.2.1, r21.2.2.2.2.1, r21.2.2.2.2.2.1, r8, r21.2.2.2.2.2.2.1, r21.2.2.2.2.2.2.2)
set_option maxRecDepth 100000 in
set_option maxHeartbeats 4000000 in
theorem tX7_room {l : Launch} {D : va_G} {cI : ClassId} {cS : GS} {a : Nat → Nat} {a_archive : Nat → Nat} {a_history : Nat → Nat} {a_planner : Nat → Nat} {a_rows : Nat → Nat} {a_text : Nat → Nat} {a_page : Nat → Nat} {a_draft : Nat → Nat} {a_archive_series : Nat → Nat} {a_archive_pieces : Nat → Nat} {a_archive_trial : Nat → Nat} {a_archive_moves : Nat → Nat} {a_history_slots : Nat → Nat → Nat} {g_archive_rooms : Nat → Int32} {g_archive_day : Int32} {v_archive_series : Rg} {v_archive_pieces : Rg} {v_archive_moves : Rg} {g_history_slots : Nat → Sn} {g_history_top : Int32} {g_history_steps : Int32} {x1 : Int32} {x2 : Int32} {s0 : Int32} {s1 : (Nat → Int32)} {s2 : Int32} {s3 : Rg} {s4 : Rg} {s5 : Rg} {s6 : (Nat → Sn)} {s7 : Int32} {s8 : Int32} (h : fX7_room g_archive_rooms g_archive_day v_archive_series v_archive_pieces v_archive_moves g_history_slots g_history_top g_history_steps x1 x2 = some (s0, s1, s2, s3, s4, s5, s6, s7, s8)) : CT l D cI cS yX7_room cX7_room 3 (some .int) rmX7_room [.ref (a 0), .int x1, .int x2] [oX7 a a_archive a_history a_planner a_rows a_text a_page a_draft, oX0 a_archive a_archive_series a_archive_pieces a_archive_trial a_archive_moves g_archive_day, ar cI (a_archive 2) 8 g_archive_rooms, cR cI a_archive_series 10 v_archive_series, cR cI a_archive_pieces 42 v_archive_pieces, cR cI a_archive_moves 100 v_archive_moves, oX1 a_history g_history_top g_history_steps, cSl cI cS (a_history 1) a_history_slots g_history_slots] (some (.int s0)) [oX7 a a_archive a_history a_planner a_rows a_text a_page a_draft, oX0 a_archive a_archive_series a_archive_pieces a_archive_trial a_archive_moves s2, ar cI (a_archive 2) 8 s1, cR cI a_archive_series 10 s3, cR cI a_archive_pieces 42 s4, cR cI a_archive_moves 100 s5, oX1 a_history s7 s8, cSl cI cS (a_history 1) a_history_slots s6] := by
  refine CT.of RX7 (by decide) rfl (Nat.le_of_ble_eq_true rfl) (fun p e s m below meth c ls A C hA hl hw => ?_)
  have hx := C.1.1
  have hb := C.1.2.1
  have hl : lv_has ls 3 [(0, .ref (a 0)), (1, .int x1), (2, .int x2)] := hl
  unfold fX7_room at h
  refine lv_aload_n hx hb dX7_room_0 rfl (lv_at hl 0 rfl) ?_
  refine k_get C inT_X7 hw 0 rfl rfl 1 (by decide) mF_X7_19 rfl dX7_room_1 ?_
  refine lv_aload_n hx hb dX7_room_4 rfl (lv_at hl 0 rfl) ?_
  refine k_get C inT_X7 hw 0 rfl rfl 0 (by decide) mF_X7_12 rfl dX7_room_5 ?_
  obtain ⟨r8, q8, h⟩ := bd h
  refine k_callV (nC := 8) [oX7 a a_archive a_history a_planner a_rows a_text a_page a_draft, oX0 a_archive a_archive_series a_archive_pieces a_archive_trial a_archive_moves g_archive_day, ar cI (a_archive 2) 8 g_archive_rooms, cR cI a_archive_series 10 v_archive_series, cR cI a_archive_pieces 42 v_archive_pieces, cR cI a_archive_moves 100 v_archive_moves, oX1 a_history g_history_top g_history_steps, cSl cI cS (a_history 1) a_history_slots r8] C hl.1 (tX1_remember (a := a_history) (a_slots := a_history_slots) (a_p1 := a_archive) (a_p1_series := a_archive_series) (a_p1_pieces := a_archive_pieces) (a_p1_trial := a_archive_trial) (a_p1_moves := a_archive_moves) q8) mL_X7_116 mmX1_remember rfl rfl ⟨Nat.le_of_ble_eq_true rfl, Nat.le_of_ble_eq_true rfl⟩ rfl rfl rfl rfl (Nat.le_of_ble_eq_true rfl) hA hw [6, 7, 1, 2, 3, 4, 5] [0] rfl (by decide +kernel) rfl rfl rfl rfl dX7_room_8 (fun H locs hw8 => ?_)
  refine lv_aload_n hx hb dX7_room_11 rfl (lv_at hl 0 rfl) ?_
  refine lv_aload_n hx hb dX7_room_12 rfl (lv_at hl 0 rfl) ?_
  refine k_get C inT_X7 hw8 0 rfl rfl 0 (by decide) mF_X7_12 rfl dX7_room_13 ?_
  refine lv_iload_n hx hb dX7_room_16 rfl (lv_at hl 1 rfl) ?_
  refine lv_iload_n hx hb dX7_room_17 rfl (lv_at hl 2 rfl) ?_
  obtain ⟨r18, q18, h⟩ := bd h
  refine k_callV (nC := 8) [oX7 a a_archive a_history a_planner a_rows a_text a_page a_draft, oX0 a_archive a_archive_series a_archive_pieces a_archive_trial a_archive_moves g_archive_day, ar cI (a_archive 2) 8 r18.2, cR cI a_archive_series 10 v_archive_series, cR cI a_archive_pieces 42 v_archive_pieces, cR cI a_archive_moves 100 v_archive_moves, oX1 a_history g_history_top g_history_steps, cSl cI cS (a_history 1) a_history_slots r8] C hl.1 (tX0_setRoom (a := a_archive) (a_series := a_archive_series) (a_pieces := a_archive_pieces) (a_trial := a_archive_trial) (a_moves := a_archive_moves) q18) mL_X7_94 mmX0_setRoom rfl rfl ⟨Nat.le_of_ble_eq_true rfl, Nat.le_of_ble_eq_true rfl⟩ rfl rfl rfl rfl (Nat.le_of_ble_eq_true rfl) hA hw8 [1, 2, 4] [0, 3, 5, 6, 7] rfl (by decide +kernel) rfl rfl rfl rfl dX7_room_18 (fun H locs hw18 => ?_)
  obtain ⟨r21, q21, h⟩ := bd h
  refine k_callV (nC := 8) [oX7 a a_archive a_history a_planner a_rows a_text a_page a_draft, oX0 a_archive a_archive_series a_archive_pieces a_archive_trial a_archive_moves r21.2.2.1, ar cI (a_archive 2) 8 r21.2.1, cR cI a_archive_series 10 r21.2.2.2.1, cR cI a_archive_pieces 42 r21.2.2.2.2.1, cR cI a_archive_moves 100 r21.2.2.2.2.2.1, oX1 a_history r21.2.2.2.2.2.2.1 r21.2.2.2.2.2.2.2, cSl cI cS (a_history 1) a_history_slots r8] C hl.1 (tX7_settle (a := a) (a_archive := a_archive) (a_history := a_history) (a_planner := a_planner) (a_rows := a_rows) (a_text := a_text) (a_page := a_page) (a_draft := a_draft) (a_archive_series := a_archive_series) (a_archive_pieces := a_archive_pieces) (a_archive_trial := a_archive_trial) (a_archive_moves := a_archive_moves) (a_history_slots := a_history_slots) q21) mL_X7_120 mmX7_settle rfl rfl ⟨Nat.le_of_ble_eq_true rfl, Nat.le_of_ble_eq_true rfl⟩ rfl rfl rfl rfl (Nat.le_of_ble_eq_true rfl) hA hw18 [0, 1, 2, 3, 4, 5, 6, 7] [] rfl (by decide +kernel) rfl rfl rfl rfl dX7_room_21 (fun H locs hw21 => ?_)
  cases h
  exact k_iret C hw21 dX7_room_24
def rmX7_lay : Room := { frames := 5, cells := 0, slots := 0, locals := 119 }
def fX7_lay (g_archive_rooms : Nat → Int32) (g_archive_moveDays : Nat → Int32) (g_archive_day : Int32) (v_archive_series : Rg) (v_archive_pieces : Rg) (v_archive_trial : Rg) (v_archive_moves : Rg) (g_history_slots : Nat → Sn) (g_history_top : Int32) (g_history_steps : Int32) (x1 : Int32) (x2 : Int32) (x3 : Int32) : Option (Int32 × (Nat → Int32) × (Nat → Int32) × Int32 × Rg × Rg × Rg × Rg × (Nat → Sn) × Int32 × Int32) :=
  (fX1_remember g_history_slots g_history_top g_archive_rooms g_archive_day v_archive_series v_archive_pieces v_archive_moves).bind fun r8 =>
  (fX0_layInto g_archive_rooms g_archive_moveDays g_archive_day v_archive_pieces v_archive_trial v_archive_moves x1 x2 x3).bind fun r19 =>
  (fX7_settle g_archive_rooms g_archive_day v_archive_series r19.2.2.1 r19.2.2.2.2 r8 g_history_top g_history_steps r19.1).bind fun r22 =>
  some (r22.1, r22.2.1, r19.2.1, r22.2.2.1, r22.2.2.2.1, r22.2.2.2.2.1, r19.2.2.2.1, r22.2.2.2.2.2.1, r8, r22.2.2.2.2.2.2.1, r22.2.2.2.2.2.2.2)
set_option maxRecDepth 100000 in
set_option maxHeartbeats 4000000 in
theorem tX7_lay {l : Launch} {D : va_G} {cI : ClassId} {cS : GS} {a : Nat → Nat} {a_archive : Nat → Nat} {a_history : Nat → Nat} {a_planner : Nat → Nat} {a_rows : Nat → Nat} {a_text : Nat → Nat} {a_page : Nat → Nat} {a_draft : Nat → Nat} {a_archive_series : Nat → Nat} {a_archive_pieces : Nat → Nat} {a_archive_trial : Nat → Nat} {a_archive_moves : Nat → Nat} {a_history_slots : Nat → Nat → Nat} {g_archive_rooms : Nat → Int32} {g_archive_moveDays : Nat → Int32} {g_archive_day : Int32} {v_archive_series : Rg} {v_archive_pieces : Rg} {v_archive_trial : Rg} {v_archive_moves : Rg} {g_history_slots : Nat → Sn} {g_history_top : Int32} {g_history_steps : Int32} {x1 : Int32} {x2 : Int32} {x3 : Int32} {s0 : Int32} {s1 : (Nat → Int32)} {s2 : (Nat → Int32)} {s3 : Int32} {s4 : Rg} {s5 : Rg} {s6 : Rg} {s7 : Rg} {s8 : (Nat → Sn)} {s9 : Int32} {s10 : Int32} (h : fX7_lay g_archive_rooms g_archive_moveDays g_archive_day v_archive_series v_archive_pieces v_archive_trial v_archive_moves g_history_slots g_history_top g_history_steps x1 x2 x3 = some (s0, s1, s2, s3, s4, s5, s6, s7, s8, s9, s10)) : CT l D cI cS yX7_lay cX7_lay 4 (some .int) rmX7_lay [.ref (a 0), .int x1, .int x2, .int x3] [oX7 a a_archive a_history a_planner a_rows a_text a_page a_draft, oX0 a_archive a_archive_series a_archive_pieces a_archive_trial a_archive_moves g_archive_day, ar cI (a_archive 2) 8 g_archive_rooms, ar cI (a_archive 6) 100 g_archive_moveDays, cR cI a_archive_series 10 v_archive_series, cR cI a_archive_pieces 42 v_archive_pieces, cR cI a_archive_trial 42 v_archive_trial, cR cI a_archive_moves 100 v_archive_moves, oX1 a_history g_history_top g_history_steps, cSl cI cS (a_history 1) a_history_slots g_history_slots] (some (.int s0)) [oX7 a a_archive a_history a_planner a_rows a_text a_page a_draft, oX0 a_archive a_archive_series a_archive_pieces a_archive_trial a_archive_moves s3, ar cI (a_archive 2) 8 s1, ar cI (a_archive 6) 100 s2, cR cI a_archive_series 10 s4, cR cI a_archive_pieces 42 s5, cR cI a_archive_trial 42 s6, cR cI a_archive_moves 100 s7, oX1 a_history s9 s10, cSl cI cS (a_history 1) a_history_slots s8] := by
  refine CT.of RX7 (by decide) rfl (Nat.le_of_ble_eq_true rfl) (fun p e s m below meth c ls A C hA hl hw => ?_)
  have hx := C.1.1
  have hb := C.1.2.1
  have hl : lv_has ls 4 [(0, .ref (a 0)), (1, .int x1), (2, .int x2), (3, .int x3)] := hl
  unfold fX7_lay at h
  refine lv_aload_n hx hb dX7_lay_0 rfl (lv_at hl 0 rfl) ?_
  refine k_get C inT_X7 hw 0 rfl rfl 1 (by decide) mF_X7_19 rfl dX7_lay_1 ?_
  refine lv_aload_n hx hb dX7_lay_4 rfl (lv_at hl 0 rfl) ?_
  refine k_get C inT_X7 hw 0 rfl rfl 0 (by decide) mF_X7_12 rfl dX7_lay_5 ?_
  obtain ⟨r8, q8, h⟩ := bd h
  refine k_callV (nC := 10) [oX7 a a_archive a_history a_planner a_rows a_text a_page a_draft, oX0 a_archive a_archive_series a_archive_pieces a_archive_trial a_archive_moves g_archive_day, ar cI (a_archive 2) 8 g_archive_rooms, ar cI (a_archive 6) 100 g_archive_moveDays, cR cI a_archive_series 10 v_archive_series, cR cI a_archive_pieces 42 v_archive_pieces, cR cI a_archive_trial 42 v_archive_trial, cR cI a_archive_moves 100 v_archive_moves, oX1 a_history g_history_top g_history_steps, cSl cI cS (a_history 1) a_history_slots r8] C hl.1 (tX1_remember (a := a_history) (a_slots := a_history_slots) (a_p1 := a_archive) (a_p1_series := a_archive_series) (a_p1_pieces := a_archive_pieces) (a_p1_trial := a_archive_trial) (a_p1_moves := a_archive_moves) q8) mL_X7_116 mmX1_remember rfl rfl ⟨Nat.le_of_ble_eq_true rfl, Nat.le_of_ble_eq_true rfl⟩ rfl rfl rfl rfl (Nat.le_of_ble_eq_true rfl) hA hw [8, 9, 1, 2, 4, 5, 7] [0, 3, 6] rfl (by decide +kernel) rfl rfl rfl rfl dX7_lay_8 (fun H locs hw8 => ?_)
  refine lv_aload_n hx hb dX7_lay_11 rfl (lv_at hl 0 rfl) ?_
  refine lv_aload_n hx hb dX7_lay_12 rfl (lv_at hl 0 rfl) ?_
  refine k_get C inT_X7 hw8 0 rfl rfl 0 (by decide) mF_X7_12 rfl dX7_lay_13 ?_
  refine lv_iload_n hx hb dX7_lay_16 rfl (lv_at hl 1 rfl) ?_
  refine lv_iload_n hx hb dX7_lay_17 rfl (lv_at hl 2 rfl) ?_
  refine lv_iload_n hx hb dX7_lay_18 rfl (lv_at hl 3 rfl) ?_
  obtain ⟨r19, q19, h⟩ := bd h
  refine k_callV (nC := 10) [oX7 a a_archive a_history a_planner a_rows a_text a_page a_draft, oX0 a_archive a_archive_series a_archive_pieces a_archive_trial a_archive_moves g_archive_day, ar cI (a_archive 2) 8 g_archive_rooms, ar cI (a_archive 6) 100 r19.2.1, cR cI a_archive_series 10 v_archive_series, cR cI a_archive_pieces 42 r19.2.2.1, cR cI a_archive_trial 42 r19.2.2.2.1, cR cI a_archive_moves 100 r19.2.2.2.2, oX1 a_history g_history_top g_history_steps, cSl cI cS (a_history 1) a_history_slots r8] C hl.1 (tX0_layInto (a := a_archive) (a_series := a_archive_series) (a_pieces := a_archive_pieces) (a_trial := a_archive_trial) (a_moves := a_archive_moves) q19) mL_X7_97 mmX0_layInto rfl rfl ⟨Nat.le_of_ble_eq_true rfl, Nat.le_of_ble_eq_true rfl⟩ rfl rfl rfl rfl (Nat.le_of_ble_eq_true rfl) hA hw8 [1, 2, 3, 5, 6, 7] [0, 4, 8, 9] rfl (by decide +kernel) rfl rfl rfl rfl dX7_lay_19 (fun H locs hw19 => ?_)
  obtain ⟨r22, q22, h⟩ := bd h
  refine k_callV (nC := 10) [oX7 a a_archive a_history a_planner a_rows a_text a_page a_draft, oX0 a_archive a_archive_series a_archive_pieces a_archive_trial a_archive_moves r22.2.2.1, ar cI (a_archive 2) 8 r22.2.1, ar cI (a_archive 6) 100 r19.2.1, cR cI a_archive_series 10 r22.2.2.2.1, cR cI a_archive_pieces 42 r22.2.2.2.2.1, cR cI a_archive_trial 42 r19.2.2.2.1, cR cI a_archive_moves 100 r22.2.2.2.2.2.1, oX1 a_history r22.2.2.2.2.2.2.1 r22.2.2.2.2.2.2.2, cSl cI cS (a_history 1) a_history_slots r8] C hl.1 (tX7_settle (a := a) (a_archive := a_archive) (a_history := a_history) (a_planner := a_planner) (a_rows := a_rows) (a_text := a_text) (a_page := a_page) (a_draft := a_draft) (a_archive_series := a_archive_series) (a_archive_pieces := a_archive_pieces) (a_archive_trial := a_archive_trial) (a_archive_moves := a_archive_moves) (a_history_slots := a_history_slots) q22) mL_X7_120 mmX7_settle rfl rfl ⟨Nat.le_of_ble_eq_true rfl, Nat.le_of_ble_eq_true rfl⟩ rfl rfl rfl rfl (Nat.le_of_ble_eq_true rfl) hA hw19 [0, 1, 2, 4, 5, 7, 8, 9] [3, 6] rfl (by decide +kernel) rfl rfl rfl rfl dX7_lay_22 (fun H locs hw22 => ?_)
  cases h
  exact k_iret C hw22 dX7_lay_25
def rmX7_take : Room := { frames := 5, cells := 0, slots := 0, locals := 118 }
def fX7_take (g_archive_rooms : Nat → Int32) (g_archive_moveDays : Nat → Int32) (g_archive_day : Int32) (v_archive_series : Rg) (v_archive_pieces : Rg) (v_archive_trial : Rg) (v_archive_moves : Rg) (g_history_slots : Nat → Sn) (g_history_top : Int32) (g_history_steps : Int32) (x1 : Int32) (x2 : Int32) : Option (Int32 × (Nat → Int32) × (Nat → Int32) × Int32 × Rg × Rg × Rg × Rg × (Nat → Sn) × Int32 × Int32) :=
  (fX1_remember g_history_slots g_history_top g_archive_rooms g_archive_day v_archive_series v_archive_pieces v_archive_moves).bind fun r8 =>
  (fX0_takeOut g_archive_moveDays g_archive_day v_archive_pieces v_archive_trial v_archive_moves x1 x2).bind fun r18 =>
  (fX7_settle g_archive_rooms g_archive_day v_archive_series r18.2.2.1 r18.2.2.2.2 r8 g_history_top g_history_steps r18.1).bind fun r21 =>
  some (r21.1, r21.2.1, r18.2.1, r21.2.2.1, r21.2.2.2.1, r21.2.2.2.2.1, r18.2.2.2.1, r21.2.2.2.2.2.1, r8, r21.2.2.2.2.2.2.1, r21.2.2.2.2.2.2.2)
set_option maxRecDepth 100000 in
set_option maxHeartbeats 4000000 in
theorem tX7_take {l : Launch} {D : va_G} {cI : ClassId} {cS : GS} {a : Nat → Nat} {a_archive : Nat → Nat} {a_history : Nat → Nat} {a_planner : Nat → Nat} {a_rows : Nat → Nat} {a_text : Nat → Nat} {a_page : Nat → Nat} {a_draft : Nat → Nat} {a_archive_series : Nat → Nat} {a_archive_pieces : Nat → Nat} {a_archive_trial : Nat → Nat} {a_archive_moves : Nat → Nat} {a_history_slots : Nat → Nat → Nat} {g_archive_rooms : Nat → Int32} {g_archive_moveDays : Nat → Int32} {g_archive_day : Int32} {v_archive_series : Rg} {v_archive_pieces : Rg} {v_archive_trial : Rg} {v_archive_moves : Rg} {g_history_slots : Nat → Sn} {g_history_top : Int32} {g_history_steps : Int32} {x1 : Int32} {x2 : Int32} {s0 : Int32} {s1 : (Nat → Int32)} {s2 : (Nat → Int32)} {s3 : Int32} {s4 : Rg} {s5 : Rg} {s6 : Rg} {s7 : Rg} {s8 : (Nat → Sn)} {s9 : Int32} {s10 : Int32} (h : fX7_take g_archive_rooms g_archive_moveDays g_archive_day v_archive_series v_archive_pieces v_archive_trial v_archive_moves g_history_slots g_history_top g_history_steps x1 x2 = some (s0, s1, s2, s3, s4, s5, s6, s7, s8, s9, s10)) : CT l D cI cS yX7_take cX7_take 3 (some .int) rmX7_take [.ref (a 0), .int x1, .int x2] [oX7 a a_archive a_history a_planner a_rows a_text a_page a_draft, oX0 a_archive a_archive_series a_archive_pieces a_archive_trial a_archive_moves g_archive_day, ar cI (a_archive 2) 8 g_archive_rooms, ar cI (a_archive 6) 100 g_archive_moveDays, cR cI a_archive_series 10 v_archive_series, cR cI a_archive_pieces 42 v_archive_pieces, cR cI a_archive_trial 42 v_archive_trial, cR cI a_archive_moves 100 v_archive_moves, oX1 a_history g_history_top g_history_steps, cSl cI cS (a_history 1) a_history_slots g_history_slots] (some (.int s0)) [oX7 a a_archive a_history a_planner a_rows a_text a_page a_draft, oX0 a_archive a_archive_series a_archive_pieces a_archive_trial a_archive_moves s3, ar cI (a_archive 2) 8 s1, ar cI (a_archive 6) 100 s2, cR cI a_archive_series 10 s4, cR cI a_archive_pieces 42 s5, cR cI a_archive_trial 42 s6, cR cI a_archive_moves 100 s7, oX1 a_history s9 s10, cSl cI cS (a_history 1) a_history_slots s8] := by
  refine CT.of RX7 (by decide) rfl (Nat.le_of_ble_eq_true rfl) (fun p e s m below meth c ls A C hA hl hw => ?_)
  have hx := C.1.1
  have hb := C.1.2.1
  have hl : lv_has ls 3 [(0, .ref (a 0)), (1, .int x1), (2, .int x2)] := hl
  unfold fX7_take at h
  refine lv_aload_n hx hb dX7_take_0 rfl (lv_at hl 0 rfl) ?_
  refine k_get C inT_X7 hw 0 rfl rfl 1 (by decide) mF_X7_19 rfl dX7_take_1 ?_
  refine lv_aload_n hx hb dX7_take_4 rfl (lv_at hl 0 rfl) ?_
  refine k_get C inT_X7 hw 0 rfl rfl 0 (by decide) mF_X7_12 rfl dX7_take_5 ?_
  obtain ⟨r8, q8, h⟩ := bd h
  refine k_callV (nC := 10) [oX7 a a_archive a_history a_planner a_rows a_text a_page a_draft, oX0 a_archive a_archive_series a_archive_pieces a_archive_trial a_archive_moves g_archive_day, ar cI (a_archive 2) 8 g_archive_rooms, ar cI (a_archive 6) 100 g_archive_moveDays, cR cI a_archive_series 10 v_archive_series, cR cI a_archive_pieces 42 v_archive_pieces, cR cI a_archive_trial 42 v_archive_trial, cR cI a_archive_moves 100 v_archive_moves, oX1 a_history g_history_top g_history_steps, cSl cI cS (a_history 1) a_history_slots r8] C hl.1 (tX1_remember (a := a_history) (a_slots := a_history_slots) (a_p1 := a_archive) (a_p1_series := a_archive_series) (a_p1_pieces := a_archive_pieces) (a_p1_trial := a_archive_trial) (a_p1_moves := a_archive_moves) q8) mL_X7_116 mmX1_remember rfl rfl ⟨Nat.le_of_ble_eq_true rfl, Nat.le_of_ble_eq_true rfl⟩ rfl rfl rfl rfl (Nat.le_of_ble_eq_true rfl) hA hw [8, 9, 1, 2, 4, 5, 7] [0, 3, 6] rfl (by decide +kernel) rfl rfl rfl rfl dX7_take_8 (fun H locs hw8 => ?_)
  refine lv_aload_n hx hb dX7_take_11 rfl (lv_at hl 0 rfl) ?_
  refine lv_aload_n hx hb dX7_take_12 rfl (lv_at hl 0 rfl) ?_
  refine k_get C inT_X7 hw8 0 rfl rfl 0 (by decide) mF_X7_12 rfl dX7_take_13 ?_
  refine lv_iload_n hx hb dX7_take_16 rfl (lv_at hl 1 rfl) ?_
  refine lv_iload_n hx hb dX7_take_17 rfl (lv_at hl 2 rfl) ?_
  obtain ⟨r18, q18, h⟩ := bd h
  refine k_callV (nC := 10) [oX7 a a_archive a_history a_planner a_rows a_text a_page a_draft, oX0 a_archive a_archive_series a_archive_pieces a_archive_trial a_archive_moves g_archive_day, ar cI (a_archive 2) 8 g_archive_rooms, ar cI (a_archive 6) 100 r18.2.1, cR cI a_archive_series 10 v_archive_series, cR cI a_archive_pieces 42 r18.2.2.1, cR cI a_archive_trial 42 r18.2.2.2.1, cR cI a_archive_moves 100 r18.2.2.2.2, oX1 a_history g_history_top g_history_steps, cSl cI cS (a_history 1) a_history_slots r8] C hl.1 (tX0_takeOut (a := a_archive) (a_series := a_archive_series) (a_pieces := a_archive_pieces) (a_trial := a_archive_trial) (a_moves := a_archive_moves) q18) mL_X7_100 mmX0_takeOut rfl rfl ⟨Nat.le_of_ble_eq_true rfl, Nat.le_of_ble_eq_true rfl⟩ rfl rfl rfl rfl (Nat.le_of_ble_eq_true rfl) hA hw8 [1, 3, 5, 6, 7] [0, 2, 4, 8, 9] rfl (by decide +kernel) rfl rfl rfl rfl dX7_take_18 (fun H locs hw18 => ?_)
  obtain ⟨r21, q21, h⟩ := bd h
  refine k_callV (nC := 10) [oX7 a a_archive a_history a_planner a_rows a_text a_page a_draft, oX0 a_archive a_archive_series a_archive_pieces a_archive_trial a_archive_moves r21.2.2.1, ar cI (a_archive 2) 8 r21.2.1, ar cI (a_archive 6) 100 r18.2.1, cR cI a_archive_series 10 r21.2.2.2.1, cR cI a_archive_pieces 42 r21.2.2.2.2.1, cR cI a_archive_trial 42 r18.2.2.2.1, cR cI a_archive_moves 100 r21.2.2.2.2.2.1, oX1 a_history r21.2.2.2.2.2.2.1 r21.2.2.2.2.2.2.2, cSl cI cS (a_history 1) a_history_slots r8] C hl.1 (tX7_settle (a := a) (a_archive := a_archive) (a_history := a_history) (a_planner := a_planner) (a_rows := a_rows) (a_text := a_text) (a_page := a_page) (a_draft := a_draft) (a_archive_series := a_archive_series) (a_archive_pieces := a_archive_pieces) (a_archive_trial := a_archive_trial) (a_archive_moves := a_archive_moves) (a_history_slots := a_history_slots) q21) mL_X7_120 mmX7_settle rfl rfl ⟨Nat.le_of_ble_eq_true rfl, Nat.le_of_ble_eq_true rfl⟩ rfl rfl rfl rfl (Nat.le_of_ble_eq_true rfl) hA hw18 [0, 1, 2, 4, 5, 7, 8, 9] [3, 6] rfl (by decide +kernel) rfl rfl rfl rfl dX7_take_21 (fun H locs hw21 => ?_)
  cases h
  exact k_iret C hw21 dX7_take_24
def rmX7_shift : Room := { frames := 5, cells := 0, slots := 0, locals := 117 }
def fX7_shift (g_archive_rooms : Nat → Int32) (g_archive_moveDays : Nat → Int32) (g_archive_day : Int32) (v_archive_series : Rg) (v_archive_pieces : Rg) (v_archive_trial : Rg) (v_archive_moves : Rg) (g_history_slots : Nat → Sn) (g_history_top : Int32) (g_history_steps : Int32) (x1 : Int32) (x2 : Int32) : Option (Int32 × (Nat → Int32) × (Nat → Int32) × Int32 × Rg × Rg × Rg × Rg × (Nat → Sn) × Int32 × Int32) :=
  (fX1_remember g_history_slots g_history_top g_archive_rooms g_archive_day v_archive_series v_archive_pieces v_archive_moves).bind fun r8 =>
  (fX0_shiftAll g_archive_rooms g_archive_moveDays g_archive_day v_archive_pieces v_archive_trial v_archive_moves x1 x2).bind fun r18 =>
  (fX7_settle g_archive_rooms g_archive_day v_archive_series r18.2.2.1 r18.2.2.2.2 r8 g_history_top g_history_steps r18.1).bind fun r21 =>
  some (r21.1, r21.2.1, r18.2.1, r21.2.2.1, r21.2.2.2.1, r21.2.2.2.2.1, r18.2.2.2.1, r21.2.2.2.2.2.1, r8, r21.2.2.2.2.2.2.1, r21.2.2.2.2.2.2.2)
set_option maxRecDepth 100000 in
set_option maxHeartbeats 4000000 in
theorem tX7_shift {l : Launch} {D : va_G} {cI : ClassId} {cS : GS} {a : Nat → Nat} {a_archive : Nat → Nat} {a_history : Nat → Nat} {a_planner : Nat → Nat} {a_rows : Nat → Nat} {a_text : Nat → Nat} {a_page : Nat → Nat} {a_draft : Nat → Nat} {a_archive_series : Nat → Nat} {a_archive_pieces : Nat → Nat} {a_archive_trial : Nat → Nat} {a_archive_moves : Nat → Nat} {a_history_slots : Nat → Nat → Nat} {g_archive_rooms : Nat → Int32} {g_archive_moveDays : Nat → Int32} {g_archive_day : Int32} {v_archive_series : Rg} {v_archive_pieces : Rg} {v_archive_trial : Rg} {v_archive_moves : Rg} {g_history_slots : Nat → Sn} {g_history_top : Int32} {g_history_steps : Int32} {x1 : Int32} {x2 : Int32} {s0 : Int32} {s1 : (Nat → Int32)} {s2 : (Nat → Int32)} {s3 : Int32} {s4 : Rg} {s5 : Rg} {s6 : Rg} {s7 : Rg} {s8 : (Nat → Sn)} {s9 : Int32} {s10 : Int32} (h : fX7_shift g_archive_rooms g_archive_moveDays g_archive_day v_archive_series v_archive_pieces v_archive_trial v_archive_moves g_history_slots g_history_top g_history_steps x1 x2 = some (s0, s1, s2, s3, s4, s5, s6, s7, s8, s9, s10)) : CT l D cI cS yX7_shift cX7_shift 3 (some .int) rmX7_shift [.ref (a 0), .int x1, .int x2] [oX7 a a_archive a_history a_planner a_rows a_text a_page a_draft, oX0 a_archive a_archive_series a_archive_pieces a_archive_trial a_archive_moves g_archive_day, ar cI (a_archive 2) 8 g_archive_rooms, ar cI (a_archive 6) 100 g_archive_moveDays, cR cI a_archive_series 10 v_archive_series, cR cI a_archive_pieces 42 v_archive_pieces, cR cI a_archive_trial 42 v_archive_trial, cR cI a_archive_moves 100 v_archive_moves, oX1 a_history g_history_top g_history_steps, cSl cI cS (a_history 1) a_history_slots g_history_slots] (some (.int s0)) [oX7 a a_archive a_history a_planner a_rows a_text a_page a_draft, oX0 a_archive a_archive_series a_archive_pieces a_archive_trial a_archive_moves s3, ar cI (a_archive 2) 8 s1, ar cI (a_archive 6) 100 s2, cR cI a_archive_series 10 s4, cR cI a_archive_pieces 42 s5, cR cI a_archive_trial 42 s6, cR cI a_archive_moves 100 s7, oX1 a_history s9 s10, cSl cI cS (a_history 1) a_history_slots s8] := by
  refine CT.of RX7 (by decide) rfl (Nat.le_of_ble_eq_true rfl) (fun p e s m below meth c ls A C hA hl hw => ?_)
  have hx := C.1.1
  have hb := C.1.2.1
  have hl : lv_has ls 3 [(0, .ref (a 0)), (1, .int x1), (2, .int x2)] := hl
  unfold fX7_shift at h
  refine lv_aload_n hx hb dX7_shift_0 rfl (lv_at hl 0 rfl) ?_
  refine k_get C inT_X7 hw 0 rfl rfl 1 (by decide) mF_X7_19 rfl dX7_shift_1 ?_
  refine lv_aload_n hx hb dX7_shift_4 rfl (lv_at hl 0 rfl) ?_
  refine k_get C inT_X7 hw 0 rfl rfl 0 (by decide) mF_X7_12 rfl dX7_shift_5 ?_
  obtain ⟨r8, q8, h⟩ := bd h
  refine k_callV (nC := 10) [oX7 a a_archive a_history a_planner a_rows a_text a_page a_draft, oX0 a_archive a_archive_series a_archive_pieces a_archive_trial a_archive_moves g_archive_day, ar cI (a_archive 2) 8 g_archive_rooms, ar cI (a_archive 6) 100 g_archive_moveDays, cR cI a_archive_series 10 v_archive_series, cR cI a_archive_pieces 42 v_archive_pieces, cR cI a_archive_trial 42 v_archive_trial, cR cI a_archive_moves 100 v_archive_moves, oX1 a_history g_history_top g_history_steps, cSl cI cS (a_history 1) a_history_slots r8] C hl.1 (tX1_remember (a := a_history) (a_slots := a_history_slots) (a_p1 := a_archive) (a_p1_series := a_archive_series) (a_p1_pieces := a_archive_pieces) (a_p1_trial := a_archive_trial) (a_p1_moves := a_archive_moves) q8) mL_X7_116 mmX1_remember rfl rfl ⟨Nat.le_of_ble_eq_true rfl, Nat.le_of_ble_eq_true rfl⟩ rfl rfl rfl rfl (Nat.le_of_ble_eq_true rfl) hA hw [8, 9, 1, 2, 4, 5, 7] [0, 3, 6] rfl (by decide +kernel) rfl rfl rfl rfl dX7_shift_8 (fun H locs hw8 => ?_)
  refine lv_aload_n hx hb dX7_shift_11 rfl (lv_at hl 0 rfl) ?_
  refine lv_aload_n hx hb dX7_shift_12 rfl (lv_at hl 0 rfl) ?_
  refine k_get C inT_X7 hw8 0 rfl rfl 0 (by decide) mF_X7_12 rfl dX7_shift_13 ?_
  refine lv_iload_n hx hb dX7_shift_16 rfl (lv_at hl 1 rfl) ?_
  refine lv_iload_n hx hb dX7_shift_17 rfl (lv_at hl 2 rfl) ?_
  obtain ⟨r18, q18, h⟩ := bd h
  refine k_callV (nC := 10) [oX7 a a_archive a_history a_planner a_rows a_text a_page a_draft, oX0 a_archive a_archive_series a_archive_pieces a_archive_trial a_archive_moves g_archive_day, ar cI (a_archive 2) 8 g_archive_rooms, ar cI (a_archive 6) 100 r18.2.1, cR cI a_archive_series 10 v_archive_series, cR cI a_archive_pieces 42 r18.2.2.1, cR cI a_archive_trial 42 r18.2.2.2.1, cR cI a_archive_moves 100 r18.2.2.2.2, oX1 a_history g_history_top g_history_steps, cSl cI cS (a_history 1) a_history_slots r8] C hl.1 (tX0_shiftAll (a := a_archive) (a_series := a_archive_series) (a_pieces := a_archive_pieces) (a_trial := a_archive_trial) (a_moves := a_archive_moves) q18) mL_X7_123 mmX0_shiftAll rfl rfl ⟨Nat.le_of_ble_eq_true rfl, Nat.le_of_ble_eq_true rfl⟩ rfl rfl rfl rfl (Nat.le_of_ble_eq_true rfl) hA hw8 [1, 2, 3, 5, 6, 7] [0, 4, 8, 9] rfl (by decide +kernel) rfl rfl rfl rfl dX7_shift_18 (fun H locs hw18 => ?_)
  obtain ⟨r21, q21, h⟩ := bd h
  refine k_callV (nC := 10) [oX7 a a_archive a_history a_planner a_rows a_text a_page a_draft, oX0 a_archive a_archive_series a_archive_pieces a_archive_trial a_archive_moves r21.2.2.1, ar cI (a_archive 2) 8 r21.2.1, ar cI (a_archive 6) 100 r18.2.1, cR cI a_archive_series 10 r21.2.2.2.1, cR cI a_archive_pieces 42 r21.2.2.2.2.1, cR cI a_archive_trial 42 r18.2.2.2.1, cR cI a_archive_moves 100 r21.2.2.2.2.2.1, oX1 a_history r21.2.2.2.2.2.2.1 r21.2.2.2.2.2.2.2, cSl cI cS (a_history 1) a_history_slots r8] C hl.1 (tX7_settle (a := a) (a_archive := a_archive) (a_history := a_history) (a_planner := a_planner) (a_rows := a_rows) (a_text := a_text) (a_page := a_page) (a_draft := a_draft) (a_archive_series := a_archive_series) (a_archive_pieces := a_archive_pieces) (a_archive_trial := a_archive_trial) (a_archive_moves := a_archive_moves) (a_history_slots := a_history_slots) q21) mL_X7_120 mmX7_settle rfl rfl ⟨Nat.le_of_ble_eq_true rfl, Nat.le_of_ble_eq_true rfl⟩ rfl rfl rfl rfl (Nat.le_of_ble_eq_true rfl) hA hw18 [0, 1, 2, 4, 5, 7, 8, 9] [3, 6] rfl (by decide +kernel) rfl rfl rfl rfl dX7_shift_21 (fun H locs hw21 => ?_)
  cases h
  exact k_iret C hw21 dX7_shift_24
def rmX7_stow : Room := { frames := 5, cells := 0, slots := 0, locals := 117 }
def fX7_stow (g_archive_rooms : Nat → Int32) (g_archive_moveDays : Nat → Int32) (g_archive_day : Int32) (v_archive_series : Rg) (v_archive_pieces : Rg) (v_archive_trial : Rg) (v_archive_moves : Rg) (g_history_slots : Nat → Sn) (g_history_top : Int32) (g_history_steps : Int32) (g_planner_free : Nat → Int32) (g_planner_remaining : Int32) (v_planner_gaps : Rg) (v_planner_layings : Rg) (x1 : Int32) : Option (Int32 × (Nat → Int32) × (Nat → Int32) × Int32 × Rg × Rg × Rg × Rg × (Nat → Sn) × Int32 × Int32 × (Nat → Int32) × Int32 × Rg × Rg) :=
  (fX0_isSeries v_archive_series x1).bind fun r5 =>
  if r5 = 0 then
    some ((-2), g_archive_rooms, g_archive_moveDays, g_archive_day, v_archive_series, v_archive_pieces, v_archive_trial, v_archive_moves, g_history_slots, g_history_top, g_history_steps, g_planner_free, g_planner_remaining, v_planner_gaps, v_planner_layings)
  else
    (fX3_makePlan g_planner_free g_planner_remaining v_planner_gaps v_planner_layings g_archive_rooms v_archive_series v_archive_pieces x1).bind fun r23 =>
    (fX1_remember g_history_slots g_history_top g_archive_rooms g_archive_day v_archive_series v_archive_pieces v_archive_moves).bind fun r34 =>
    (fX3_layings).bind fun r46 =>
    (fX0_layEach 49 g_archive_moveDays g_archive_day v_archive_pieces v_archive_trial v_archive_moves r23.2.2.2).bind fun r49 =>
    (fX7_settle g_archive_rooms g_archive_day v_archive_series r49.2.2.1 r49.2.2.2.2 r34 g_history_top g_history_steps r49.1).bind fun r52 =>
    some (r52.1, r52.2.1, r49.2.1, r52.2.2.1, r52.2.2.2.1, r52.2.2.2.2.1, r49.2.2.2.1, r52.2.2.2.2.2.1, r34, r52.2.2.2.2.2.2.1, r52.2.2.2.2.2.2.2, r23.1, r23.2.1, r23.2.2.1, r23.2.2.2)
set_option maxRecDepth 100000 in
set_option maxHeartbeats 4000000 in
theorem tX7_stow {l : Launch} {D : va_G} {cI : ClassId} {cS : GS} {a : Nat → Nat} {a_archive : Nat → Nat} {a_history : Nat → Nat} {a_planner : Nat → Nat} {a_rows : Nat → Nat} {a_text : Nat → Nat} {a_page : Nat → Nat} {a_draft : Nat → Nat} {a_archive_series : Nat → Nat} {a_archive_pieces : Nat → Nat} {a_archive_trial : Nat → Nat} {a_archive_moves : Nat → Nat} {a_history_slots : Nat → Nat → Nat} {a_planner_gaps : Nat → Nat} {a_planner_layings : Nat → Nat} {g_archive_rooms : Nat → Int32} {g_archive_moveDays : Nat → Int32} {g_archive_day : Int32} {v_archive_series : Rg} {v_archive_pieces : Rg} {v_archive_trial : Rg} {v_archive_moves : Rg} {g_history_slots : Nat → Sn} {g_history_top : Int32} {g_history_steps : Int32} {g_planner_free : Nat → Int32} {g_planner_remaining : Int32} {v_planner_gaps : Rg} {v_planner_layings : Rg} {x1 : Int32} {s0 : Int32} {s1 : (Nat → Int32)} {s2 : (Nat → Int32)} {s3 : Int32} {s4 : Rg} {s5 : Rg} {s6 : Rg} {s7 : Rg} {s8 : (Nat → Sn)} {s9 : Int32} {s10 : Int32} {s11 : (Nat → Int32)} {s12 : Int32} {s13 : Rg} {s14 : Rg} (h : fX7_stow g_archive_rooms g_archive_moveDays g_archive_day v_archive_series v_archive_pieces v_archive_trial v_archive_moves g_history_slots g_history_top g_history_steps g_planner_free g_planner_remaining v_planner_gaps v_planner_layings x1 = some (s0, s1, s2, s3, s4, s5, s6, s7, s8, s9, s10, s11, s12, s13, s14)) : CT l D cI cS yX7_stow cX7_stow 2 (some .int) rmX7_stow [.ref (a 0), .int x1] [oX7 a a_archive a_history a_planner a_rows a_text a_page a_draft, oX0 a_archive a_archive_series a_archive_pieces a_archive_trial a_archive_moves g_archive_day, ar cI (a_archive 2) 8 g_archive_rooms, ar cI (a_archive 6) 100 g_archive_moveDays, cR cI a_archive_series 10 v_archive_series, cR cI a_archive_pieces 42 v_archive_pieces, cR cI a_archive_trial 42 v_archive_trial, cR cI a_archive_moves 100 v_archive_moves, oX1 a_history g_history_top g_history_steps, cSl cI cS (a_history 1) a_history_slots g_history_slots, oX3 a_planner a_planner_gaps a_planner_layings g_planner_remaining, ar cI (a_planner 3) 8 g_planner_free, cR cI a_planner_gaps 41 v_planner_gaps, cR cI a_planner_layings 49 v_planner_layings] (some (.int s0)) [oX7 a a_archive a_history a_planner a_rows a_text a_page a_draft, oX0 a_archive a_archive_series a_archive_pieces a_archive_trial a_archive_moves s3, ar cI (a_archive 2) 8 s1, ar cI (a_archive 6) 100 s2, cR cI a_archive_series 10 s4, cR cI a_archive_pieces 42 s5, cR cI a_archive_trial 42 s6, cR cI a_archive_moves 100 s7, oX1 a_history s9 s10, cSl cI cS (a_history 1) a_history_slots s8, oX3 a_planner a_planner_gaps a_planner_layings s12, ar cI (a_planner 3) 8 s11, cR cI a_planner_gaps 41 s13, cR cI a_planner_layings 49 s14] := by
  refine CT.of RX7 (by decide) rfl (Nat.le_of_ble_eq_true rfl) (fun p e s m below meth c ls A C hA hl hw => ?_)
  have hx := C.1.1
  have hb := C.1.2.1
  have hl : lv_has ls 2 [(0, .ref (a 0)), (1, .int x1)] := hl
  unfold fX7_stow at h
  refine lv_aload_n hx hb dX7_stow_0 rfl (lv_at hl 0 rfl) ?_
  refine k_get C inT_X7 hw 0 rfl rfl 0 (by decide) mF_X7_12 rfl dX7_stow_1 ?_
  refine lv_iload_n hx hb dX7_stow_4 rfl (lv_at hl 1 rfl) ?_
  obtain ⟨r5, q5, h⟩ := bd h
  refine k_callV (nC := 14) [oX7 a a_archive a_history a_planner a_rows a_text a_page a_draft, oX0 a_archive a_archive_series a_archive_pieces a_archive_trial a_archive_moves g_archive_day, ar cI (a_archive 2) 8 g_archive_rooms, ar cI (a_archive 6) 100 g_archive_moveDays, cR cI a_archive_series 10 v_archive_series, cR cI a_archive_pieces 42 v_archive_pieces, cR cI a_archive_trial 42 v_archive_trial, cR cI a_archive_moves 100 v_archive_moves, oX1 a_history g_history_top g_history_steps, cSl cI cS (a_history 1) a_history_slots g_history_slots, oX3 a_planner a_planner_gaps a_planner_layings g_planner_remaining, ar cI (a_planner 3) 8 g_planner_free, cR cI a_planner_gaps 41 v_planner_gaps, cR cI a_planner_layings 49 v_planner_layings] C hl.1 (tX0_isSeries (a := a_archive) (a_series := a_archive_series) (a_pieces := a_archive_pieces) (a_trial := a_archive_trial) (a_moves := a_archive_moves) q5) mL_X7_126 mmX0_isSeries rfl rfl ⟨Nat.le_of_ble_eq_true rfl, Nat.le_of_ble_eq_true rfl⟩ rfl rfl rfl rfl (Nat.le_of_ble_eq_true rfl) hA hw [1, 4] [0, 2, 3, 5, 6, 7, 8, 9, 10, 11, 12, 13] rfl (by decide +kernel) rfl rfl rfl rfl dX7_stow_5 (fun H locs hw5 => ?_)
  refine lv_if_ne (tgt := 14) hx hb dX7_stow_8 (by decide) (fun c8 => ?_) (fun c8 => ?_)
  · replace h := br_f' h c8
    refine lv_aload_n hx hb dX7_stow_14 rfl (lv_at hl 0 rfl) ?_
    refine k_get C inT_X7 hw5 0 rfl rfl 2 (by decide) mF_X7_26 rfl dX7_stow_15 ?_
    refine lv_aload_n hx hb dX7_stow_18 rfl (lv_at hl 0 rfl) ?_
    refine k_get C inT_X7 hw5 0 rfl rfl 0 (by decide) mF_X7_12 rfl dX7_stow_19 ?_
    refine lv_iload_n hx hb dX7_stow_22 rfl (lv_at hl 1 rfl) ?_
    obtain ⟨r23, q23, h⟩ := bd h
    refine k_callV (nC := 14) [oX7 a a_archive a_history a_planner a_rows a_text a_page a_draft, oX0 a_archive a_archive_series a_archive_pieces a_archive_trial a_archive_moves g_archive_day, ar cI (a_archive 2) 8 g_archive_rooms, ar cI (a_archive 6) 100 g_archive_moveDays, cR cI a_archive_series 10 v_archive_series, cR cI a_archive_pieces 42 v_archive_pieces, cR cI a_archive_trial 42 v_archive_trial, cR cI a_archive_moves 100 v_archive_moves, oX1 a_history g_history_top g_history_steps, cSl cI cS (a_history 1) a_history_slots g_history_slots, oX3 a_planner a_planner_gaps a_planner_layings r23.2.1, ar cI (a_planner 3) 8 r23.1, cR cI a_planner_gaps 41 r23.2.2.1, cR cI a_planner_layings 49 r23.2.2.2] C hl.1 (tX3_makePlan (a := a_planner) (a_gaps := a_planner_gaps) (a_layings := a_planner_layings) (a_p1 := a_archive) (a_p1_series := a_archive_series) (a_p1_pieces := a_archive_pieces) (a_p1_trial := a_archive_trial) (a_p1_moves := a_archive_moves) q23) mL_X7_129 mmX3_makePlan rfl rfl ⟨Nat.le_of_ble_eq_true rfl, Nat.le_of_ble_eq_true rfl⟩ rfl rfl rfl rfl (Nat.le_of_ble_eq_true rfl) hA hw5 [10, 11, 12, 13, 1, 2, 4, 5] [0, 3, 6, 7, 8, 9] rfl (by decide +kernel) rfl rfl rfl rfl dX7_stow_23 (fun H locs hw23 => ?_)
    refine lv_aload_n hx hb dX7_stow_26 rfl (lv_at hl 0 rfl) ?_
    refine k_get C inT_X7 hw23 0 rfl rfl 1 (by decide) mF_X7_19 rfl dX7_stow_27 ?_
    refine lv_aload_n hx hb dX7_stow_30 rfl (lv_at hl 0 rfl) ?_
    refine k_get C inT_X7 hw23 0 rfl rfl 0 (by decide) mF_X7_12 rfl dX7_stow_31 ?_
    obtain ⟨r34, q34, h⟩ := bd h
    refine k_callV (nC := 14) [oX7 a a_archive a_history a_planner a_rows a_text a_page a_draft, oX0 a_archive a_archive_series a_archive_pieces a_archive_trial a_archive_moves g_archive_day, ar cI (a_archive 2) 8 g_archive_rooms, ar cI (a_archive 6) 100 g_archive_moveDays, cR cI a_archive_series 10 v_archive_series, cR cI a_archive_pieces 42 v_archive_pieces, cR cI a_archive_trial 42 v_archive_trial, cR cI a_archive_moves 100 v_archive_moves, oX1 a_history g_history_top g_history_steps, cSl cI cS (a_history 1) a_history_slots r34, oX3 a_planner a_planner_gaps a_planner_layings r23.2.1, ar cI (a_planner 3) 8 r23.1, cR cI a_planner_gaps 41 r23.2.2.1, cR cI a_planner_layings 49 r23.2.2.2] C hl.1 (tX1_remember (a := a_history) (a_slots := a_history_slots) (a_p1 := a_archive) (a_p1_series := a_archive_series) (a_p1_pieces := a_archive_pieces) (a_p1_trial := a_archive_trial) (a_p1_moves := a_archive_moves) q34) mL_X7_116 mmX1_remember rfl rfl ⟨Nat.le_of_ble_eq_true rfl, Nat.le_of_ble_eq_true rfl⟩ rfl rfl rfl rfl (Nat.le_of_ble_eq_true rfl) hA hw23 [8, 9, 1, 2, 4, 5, 7] [0, 3, 6, 10, 11, 12, 13] rfl (by decide +kernel) rfl rfl rfl rfl dX7_stow_34 (fun H locs hw34 => ?_)
    refine lv_aload_n hx hb dX7_stow_37 rfl (lv_at hl 0 rfl) ?_
    refine lv_aload_n hx hb dX7_stow_38 rfl (lv_at hl 0 rfl) ?_
    refine k_get C inT_X7 hw34 0 rfl rfl 0 (by decide) mF_X7_12 rfl dX7_stow_39 ?_
    refine lv_aload_n hx hb dX7_stow_42 rfl (lv_at hl 0 rfl) ?_
    refine k_get C inT_X7 hw34 0 rfl rfl 2 (by decide) mF_X7_26 rfl dX7_stow_43 ?_
    obtain ⟨r46, q46, h⟩ := bd h
    refine k_callV (nC := 14) [oX7 a a_archive a_history a_planner a_rows a_text a_page a_draft, oX0 a_archive a_archive_series a_archive_pieces a_archive_trial a_archive_moves g_archive_day, ar cI (a_archive 2) 8 g_archive_rooms, ar cI (a_archive 6) 100 g_archive_moveDays, cR cI a_archive_series 10 v_archive_series, cR cI a_archive_pieces 42 v_archive_pieces, cR cI a_archive_trial 42 v_archive_trial, cR cI a_archive_moves 100 v_archive_moves, oX1 a_history g_history_top g_history_steps, cSl cI cS (a_history 1) a_history_slots r34, oX3 a_planner a_planner_gaps a_planner_layings r23.2.1, ar cI (a_planner 3) 8 r23.1, cR cI a_planner_gaps 41 r23.2.2.1, cR cI a_planner_layings 49 r23.2.2.2] C hl.1 (tX3_layings (a := a_planner) (a_gaps := a_planner_gaps) (a_layings := a_planner_layings) q46) mL_X7_133 mmX3_layings rfl rfl ⟨Nat.le_of_ble_eq_true rfl, Nat.le_of_ble_eq_true rfl⟩ rfl rfl rfl rfl (Nat.le_of_ble_eq_true rfl) hA hw34 [10] [0, 1, 2, 3, 4, 5, 6, 7, 8, 9, 11, 12, 13] rfl (by decide +kernel) rfl rfl rfl rfl dX7_stow_46 (fun H locs hw46 => ?_)
    obtain ⟨r49, q49, h⟩ := bd h
    refine k_callV (nC := 14) [oX7 a a_archive a_history a_planner a_rows a_text a_page a_draft, oX0 a_archive a_archive_series a_archive_pieces a_archive_trial a_archive_moves g_archive_day, ar cI (a_archive 2) 8 g_archive_rooms, ar cI (a_archive 6) 100 r49.2.1, cR cI a_archive_series 10 v_archive_series, cR cI a_archive_pieces 42 r49.2.2.1, cR cI a_archive_trial 42 r49.2.2.2.1, cR cI a_archive_moves 100 r49.2.2.2.2, oX1 a_history g_history_top g_history_steps, cSl cI cS (a_history 1) a_history_slots r34, oX3 a_planner a_planner_gaps a_planner_layings r23.2.1, ar cI (a_planner 3) 8 r23.1, cR cI a_planner_gaps 41 r23.2.2.1, cR cI a_planner_layings 49 r23.2.2.2] C hl.1 (tX0_layEach (a := a_archive) (a_series := a_archive_series) (a_pieces := a_archive_pieces) (a_trial := a_archive_trial) (a_moves := a_archive_moves) (a_p1 := a_planner_layings) q49) mL_X7_137 mmX0_layEach rfl rfl ⟨Nat.le_of_ble_eq_true rfl, Nat.le_of_ble_eq_true rfl⟩ rfl rfl rfl rfl (Nat.le_of_ble_eq_true rfl) hA hw46 [1, 3, 5, 6, 7, 13] [0, 2, 4, 8, 9, 10, 11, 12] rfl (by decide +kernel) rfl rfl rfl rfl dX7_stow_49 (fun H locs hw49 => ?_)
    obtain ⟨r52, q52, h⟩ := bd h
    refine k_callV (nC := 14) [oX7 a a_archive a_history a_planner a_rows a_text a_page a_draft, oX0 a_archive a_archive_series a_archive_pieces a_archive_trial a_archive_moves r52.2.2.1, ar cI (a_archive 2) 8 r52.2.1, ar cI (a_archive 6) 100 r49.2.1, cR cI a_archive_series 10 r52.2.2.2.1, cR cI a_archive_pieces 42 r52.2.2.2.2.1, cR cI a_archive_trial 42 r49.2.2.2.1, cR cI a_archive_moves 100 r52.2.2.2.2.2.1, oX1 a_history r52.2.2.2.2.2.2.1 r52.2.2.2.2.2.2.2, cSl cI cS (a_history 1) a_history_slots r34, oX3 a_planner a_planner_gaps a_planner_layings r23.2.1, ar cI (a_planner 3) 8 r23.1, cR cI a_planner_gaps 41 r23.2.2.1, cR cI a_planner_layings 49 r23.2.2.2] C hl.1 (tX7_settle (a := a) (a_archive := a_archive) (a_history := a_history) (a_planner := a_planner) (a_rows := a_rows) (a_text := a_text) (a_page := a_page) (a_draft := a_draft) (a_archive_series := a_archive_series) (a_archive_pieces := a_archive_pieces) (a_archive_trial := a_archive_trial) (a_archive_moves := a_archive_moves) (a_history_slots := a_history_slots) q52) mL_X7_120 mmX7_settle rfl rfl ⟨Nat.le_of_ble_eq_true rfl, Nat.le_of_ble_eq_true rfl⟩ rfl rfl rfl rfl (Nat.le_of_ble_eq_true rfl) hA hw49 [0, 1, 2, 4, 5, 7, 8, 9] [3, 6, 10, 11, 12, 13] rfl (by decide +kernel) rfl rfl rfl rfl dX7_stow_52 (fun H locs hw52 => ?_)
    cases h
    exact k_iret C hw52 dX7_stow_55
  · replace h := br_t' h c8
    refine lv_bipush (v := (-2)) hx hb dX7_stow_11 (by decide) ?_
    cases h
    exact k_iret C hw5 dX7_stow_13
def rmX7_pass : Room := { frames := 5, cells := 0, slots := 0, locals := 112 }
def fX7_pass (g_archive_rooms : Nat → Int32) (g_archive_day : Int32) (v_archive_series : Rg) (v_archive_pieces : Rg) (v_archive_moves : Rg) (g_history_slots : Nat → Sn) (g_history_top : Int32) (g_history_steps : Int32) (x1 : Int32) : Option (Int32 × (Nat → Int32) × Int32 × Rg × Rg × Rg × (Nat → Sn) × Int32 × Int32) :=
  (fX1_remember g_history_slots g_history_top g_archive_rooms g_archive_day v_archive_series v_archive_pieces v_archive_moves).bind fun r8 =>
  (fX0_letPass g_archive_day x1).bind fun r17 =>
  (fX7_settle g_archive_rooms r17.2 v_archive_series v_archive_pieces v_archive_moves r8 g_history_top g_history_steps r17.1).bind fun r20 =>
  some (r20.1, r20.2.1, r20.2.2.1, r20.2.2.2.1, r20.2.2.2.2.1, r20.2.2.2.2.2.1, r8, r20.2.2.2.2.2.2.1, r20.2.2.2.2.2.2.2)
set_option maxRecDepth 100000 in
set_option maxHeartbeats 4000000 in
theorem tX7_pass {l : Launch} {D : va_G} {cI : ClassId} {cS : GS} {a : Nat → Nat} {a_archive : Nat → Nat} {a_history : Nat → Nat} {a_planner : Nat → Nat} {a_rows : Nat → Nat} {a_text : Nat → Nat} {a_page : Nat → Nat} {a_draft : Nat → Nat} {a_archive_series : Nat → Nat} {a_archive_pieces : Nat → Nat} {a_archive_trial : Nat → Nat} {a_archive_moves : Nat → Nat} {a_history_slots : Nat → Nat → Nat} {g_archive_rooms : Nat → Int32} {g_archive_day : Int32} {v_archive_series : Rg} {v_archive_pieces : Rg} {v_archive_moves : Rg} {g_history_slots : Nat → Sn} {g_history_top : Int32} {g_history_steps : Int32} {x1 : Int32} {s0 : Int32} {s1 : (Nat → Int32)} {s2 : Int32} {s3 : Rg} {s4 : Rg} {s5 : Rg} {s6 : (Nat → Sn)} {s7 : Int32} {s8 : Int32} (h : fX7_pass g_archive_rooms g_archive_day v_archive_series v_archive_pieces v_archive_moves g_history_slots g_history_top g_history_steps x1 = some (s0, s1, s2, s3, s4, s5, s6, s7, s8)) : CT l D cI cS yX7_pass cX7_pass 2 (some .int) rmX7_pass [.ref (a 0), .int x1] [oX7 a a_archive a_history a_planner a_rows a_text a_page a_draft, oX0 a_archive a_archive_series a_archive_pieces a_archive_trial a_archive_moves g_archive_day, ar cI (a_archive 2) 8 g_archive_rooms, cR cI a_archive_series 10 v_archive_series, cR cI a_archive_pieces 42 v_archive_pieces, cR cI a_archive_moves 100 v_archive_moves, oX1 a_history g_history_top g_history_steps, cSl cI cS (a_history 1) a_history_slots g_history_slots] (some (.int s0)) [oX7 a a_archive a_history a_planner a_rows a_text a_page a_draft, oX0 a_archive a_archive_series a_archive_pieces a_archive_trial a_archive_moves s2, ar cI (a_archive 2) 8 s1, cR cI a_archive_series 10 s3, cR cI a_archive_pieces 42 s4, cR cI a_archive_moves 100 s5, oX1 a_history s7 s8, cSl cI cS (a_history 1) a_history_slots s6] := by
  refine CT.of RX7 (by decide) rfl (Nat.le_of_ble_eq_true rfl) (fun p e s m below meth c ls A C hA hl hw => ?_)
  have hx := C.1.1
  have hb := C.1.2.1
  have hl : lv_has ls 2 [(0, .ref (a 0)), (1, .int x1)] := hl
  unfold fX7_pass at h
  refine lv_aload_n hx hb dX7_pass_0 rfl (lv_at hl 0 rfl) ?_
  refine k_get C inT_X7 hw 0 rfl rfl 1 (by decide) mF_X7_19 rfl dX7_pass_1 ?_
  refine lv_aload_n hx hb dX7_pass_4 rfl (lv_at hl 0 rfl) ?_
  refine k_get C inT_X7 hw 0 rfl rfl 0 (by decide) mF_X7_12 rfl dX7_pass_5 ?_
  obtain ⟨r8, q8, h⟩ := bd h
  refine k_callV (nC := 8) [oX7 a a_archive a_history a_planner a_rows a_text a_page a_draft, oX0 a_archive a_archive_series a_archive_pieces a_archive_trial a_archive_moves g_archive_day, ar cI (a_archive 2) 8 g_archive_rooms, cR cI a_archive_series 10 v_archive_series, cR cI a_archive_pieces 42 v_archive_pieces, cR cI a_archive_moves 100 v_archive_moves, oX1 a_history g_history_top g_history_steps, cSl cI cS (a_history 1) a_history_slots r8] C hl.1 (tX1_remember (a := a_history) (a_slots := a_history_slots) (a_p1 := a_archive) (a_p1_series := a_archive_series) (a_p1_pieces := a_archive_pieces) (a_p1_trial := a_archive_trial) (a_p1_moves := a_archive_moves) q8) mL_X7_116 mmX1_remember rfl rfl ⟨Nat.le_of_ble_eq_true rfl, Nat.le_of_ble_eq_true rfl⟩ rfl rfl rfl rfl (Nat.le_of_ble_eq_true rfl) hA hw [6, 7, 1, 2, 3, 4, 5] [0] rfl (by decide +kernel) rfl rfl rfl rfl dX7_pass_8 (fun H locs hw8 => ?_)
  refine lv_aload_n hx hb dX7_pass_11 rfl (lv_at hl 0 rfl) ?_
  refine lv_aload_n hx hb dX7_pass_12 rfl (lv_at hl 0 rfl) ?_
  refine k_get C inT_X7 hw8 0 rfl rfl 0 (by decide) mF_X7_12 rfl dX7_pass_13 ?_
  refine lv_iload_n hx hb dX7_pass_16 rfl (lv_at hl 1 rfl) ?_
  obtain ⟨r17, q17, h⟩ := bd h
  refine k_callV (nC := 8) [oX7 a a_archive a_history a_planner a_rows a_text a_page a_draft, oX0 a_archive a_archive_series a_archive_pieces a_archive_trial a_archive_moves r17.2, ar cI (a_archive 2) 8 g_archive_rooms, cR cI a_archive_series 10 v_archive_series, cR cI a_archive_pieces 42 v_archive_pieces, cR cI a_archive_moves 100 v_archive_moves, oX1 a_history g_history_top g_history_steps, cSl cI cS (a_history 1) a_history_slots r8] C hl.1 (tX0_letPass (a := a_archive) (a_series := a_archive_series) (a_pieces := a_archive_pieces) (a_trial := a_archive_trial) (a_moves := a_archive_moves) q17) mL_X7_106 mmX0_letPass rfl rfl ⟨Nat.le_of_ble_eq_true rfl, Nat.le_of_ble_eq_true rfl⟩ rfl rfl rfl rfl (Nat.le_of_ble_eq_true rfl) hA hw8 [1] [0, 2, 3, 4, 5, 6, 7] rfl (by decide +kernel) rfl rfl rfl rfl dX7_pass_17 (fun H locs hw17 => ?_)
  obtain ⟨r20, q20, h⟩ := bd h
  refine k_callV (nC := 8) [oX7 a a_archive a_history a_planner a_rows a_text a_page a_draft, oX0 a_archive a_archive_series a_archive_pieces a_archive_trial a_archive_moves r20.2.2.1, ar cI (a_archive 2) 8 r20.2.1, cR cI a_archive_series 10 r20.2.2.2.1, cR cI a_archive_pieces 42 r20.2.2.2.2.1, cR cI a_archive_moves 100 r20.2.2.2.2.2.1, oX1 a_history r20.2.2.2.2.2.2.1 r20.2.2.2.2.2.2.2, cSl cI cS (a_history 1) a_history_slots r8] C hl.1 (tX7_settle (a := a) (a_archive := a_archive) (a_history := a_history) (a_planner := a_planner) (a_rows := a_rows) (a_text := a_text) (a_page := a_page) (a_draft := a_draft) (a_archive_series := a_archive_series) (a_archive_pieces := a_archive_pieces) (a_archive_trial := a_archive_trial) (a_archive_moves := a_archive_moves) (a_history_slots := a_history_slots) q20) mL_X7_120 mmX7_settle rfl rfl ⟨Nat.le_of_ble_eq_true rfl, Nat.le_of_ble_eq_true rfl⟩ rfl rfl rfl rfl (Nat.le_of_ble_eq_true rfl) hA hw17 [0, 1, 2, 3, 4, 5, 6, 7] [] rfl (by decide +kernel) rfl rfl rfl rfl dX7_pass_20 (fun H locs hw20 => ?_)
  cases h
  exact k_iret C hw20 dX7_pass_23
def rmX7_undo : Room := { frames := 5, cells := 0, slots := 0, locals := 112 }
def fX7_undo (g_archive_rooms : Nat → Int32) (g_archive_day : Int32) (v_archive_series : Rg) (v_archive_pieces : Rg) (v_archive_moves : Rg) (g_history_slots : Nat → Sn) (g_history_top : Int32) (g_history_steps : Int32) : Option (Int32 × (Nat → Int32) × Int32 × Rg × Rg × Rg × Int32 × Int32) :=
  (fX1_stepBack g_history_slots g_history_top g_history_steps g_archive_rooms g_archive_day v_archive_series v_archive_pieces v_archive_moves).bind fun r8 =>
  if r8.1 = 0 then
    some ((-4), r8.2.2.2.1, r8.2.2.2.2.1, r8.2.2.2.2.2.1, r8.2.2.2.2.2.2.1, r8.2.2.2.2.2.2.2, r8.2.1, r8.2.2.1)
  else
    (fX1_steps r8.2.2.1).bind fun r18 =>
    some (r18, r8.2.2.2.1, r8.2.2.2.2.1, r8.2.2.2.2.2.1, r8.2.2.2.2.2.2.1, r8.2.2.2.2.2.2.2, r8.2.1, r8.2.2.1)
set_option maxRecDepth 100000 in
set_option maxHeartbeats 4000000 in
theorem tX7_undo {l : Launch} {D : va_G} {cI : ClassId} {cS : GS} {a : Nat → Nat} {a_archive : Nat → Nat} {a_history : Nat → Nat} {a_planner : Nat → Nat} {a_rows : Nat → Nat} {a_text : Nat → Nat} {a_page : Nat → Nat} {a_draft : Nat → Nat} {a_archive_series : Nat → Nat} {a_archive_pieces : Nat → Nat} {a_archive_trial : Nat → Nat} {a_archive_moves : Nat → Nat} {a_history_slots : Nat → Nat → Nat} {g_archive_rooms : Nat → Int32} {g_archive_day : Int32} {v_archive_series : Rg} {v_archive_pieces : Rg} {v_archive_moves : Rg} {g_history_slots : Nat → Sn} {g_history_top : Int32} {g_history_steps : Int32}  {s0 : Int32} {s1 : (Nat → Int32)} {s2 : Int32} {s3 : Rg} {s4 : Rg} {s5 : Rg} {s6 : Int32} {s7 : Int32} (h : fX7_undo g_archive_rooms g_archive_day v_archive_series v_archive_pieces v_archive_moves g_history_slots g_history_top g_history_steps = some (s0, s1, s2, s3, s4, s5, s6, s7)) : CT l D cI cS yX7_undo cX7_undo 1 (some .int) rmX7_undo [.ref (a 0)] [oX7 a a_archive a_history a_planner a_rows a_text a_page a_draft, oX0 a_archive a_archive_series a_archive_pieces a_archive_trial a_archive_moves g_archive_day, ar cI (a_archive 2) 8 g_archive_rooms, cR cI a_archive_series 10 v_archive_series, cR cI a_archive_pieces 42 v_archive_pieces, cR cI a_archive_moves 100 v_archive_moves, oX1 a_history g_history_top g_history_steps, cSl cI cS (a_history 1) a_history_slots g_history_slots] (some (.int s0)) [oX7 a a_archive a_history a_planner a_rows a_text a_page a_draft, oX0 a_archive a_archive_series a_archive_pieces a_archive_trial a_archive_moves s2, ar cI (a_archive 2) 8 s1, cR cI a_archive_series 10 s3, cR cI a_archive_pieces 42 s4, cR cI a_archive_moves 100 s5, oX1 a_history s6 s7, cSl cI cS (a_history 1) a_history_slots g_history_slots] := by
  refine CT.of RX7 (by decide) rfl (Nat.le_of_ble_eq_true rfl) (fun p e s m below meth c ls A C hA hl hw => ?_)
  have hx := C.1.1
  have hb := C.1.2.1
  have hl : lv_has ls 1 [(0, .ref (a 0))] := hl
  unfold fX7_undo at h
  refine lv_aload_n hx hb dX7_undo_0 rfl (lv_at hl 0 rfl) ?_
  refine k_get C inT_X7 hw 0 rfl rfl 1 (by decide) mF_X7_19 rfl dX7_undo_1 ?_
  refine lv_aload_n hx hb dX7_undo_4 rfl (lv_at hl 0 rfl) ?_
  refine k_get C inT_X7 hw 0 rfl rfl 0 (by decide) mF_X7_12 rfl dX7_undo_5 ?_
  obtain ⟨r8, q8, h⟩ := bd h
  refine k_callV (nC := 8) [oX7 a a_archive a_history a_planner a_rows a_text a_page a_draft, oX0 a_archive a_archive_series a_archive_pieces a_archive_trial a_archive_moves r8.2.2.2.2.1, ar cI (a_archive 2) 8 r8.2.2.2.1, cR cI a_archive_series 10 r8.2.2.2.2.2.1, cR cI a_archive_pieces 42 r8.2.2.2.2.2.2.1, cR cI a_archive_moves 100 r8.2.2.2.2.2.2.2, oX1 a_history r8.2.1 r8.2.2.1, cSl cI cS (a_history 1) a_history_slots g_history_slots] C hl.1 (tX1_stepBack (a := a_history) (a_slots := a_history_slots) (a_p1 := a_archive) (a_p1_series := a_archive_series) (a_p1_pieces := a_archive_pieces) (a_p1_trial := a_archive_trial) (a_p1_moves := a_archive_moves) q8) mL_X7_147 mmX1_stepBack rfl rfl ⟨Nat.le_of_ble_eq_true rfl, Nat.le_of_ble_eq_true rfl⟩ rfl rfl rfl rfl (Nat.le_of_ble_eq_true rfl) hA hw [6, 7, 1, 2, 3, 4, 5] [0] rfl (by decide +kernel) rfl rfl rfl rfl dX7_undo_8 (fun H locs hw8 => ?_)
  refine lv_if_eq (tgt := 24) hx hb dX7_undo_11 (by decide) (fun c11 => ?_) (fun c11 => ?_)
  · replace h := br_t' h c11
    refine lv_bipush (v := (-4)) hx hb dX7_undo_24 (by decide) ?_
    cases h
    exact k_iret C hw8 dX7_undo_26
  · replace h := br_f' h c11
    refine lv_aload_n hx hb dX7_undo_14 rfl (lv_at hl 0 rfl) ?_
    refine k_get C inT_X7 hw8 0 rfl rfl 1 (by decide) mF_X7_19 rfl dX7_undo_15 ?_
    obtain ⟨r18, q18, h⟩ := bd h
    refine k_callV (nC := 8) [oX7 a a_archive a_history a_planner a_rows a_text a_page a_draft, oX0 a_archive a_archive_series a_archive_pieces a_archive_trial a_archive_moves r8.2.2.2.2.1, ar cI (a_archive 2) 8 r8.2.2.2.1, cR cI a_archive_series 10 r8.2.2.2.2.2.1, cR cI a_archive_pieces 42 r8.2.2.2.2.2.2.1, cR cI a_archive_moves 100 r8.2.2.2.2.2.2.2, oX1 a_history r8.2.1 r8.2.2.1, cSl cI cS (a_history 1) a_history_slots g_history_slots] C hl.1 (tX1_steps (a := a_history) q18) mL_X7_151 mmX1_steps rfl rfl ⟨Nat.le_of_ble_eq_true rfl, Nat.le_of_ble_eq_true rfl⟩ rfl rfl rfl rfl (Nat.le_of_ble_eq_true rfl) hA hw8 [6] [0, 1, 2, 3, 4, 5, 7] rfl (by decide +kernel) rfl rfl rfl rfl dX7_undo_18 (fun H locs hw18 => ?_)
    refine lv_goto (tgt := 26) hx hb dX7_undo_21 (by decide) ?_
    cases h
    exact k_iret C hw18 dX7_undo_26
