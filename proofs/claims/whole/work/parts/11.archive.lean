def rmX0_empty : Room := { frames := 1, cells := 0, slots := 0, locals := 21 }
def fX0_empty_31  : (n : Nat) → (k : Int32 → (Nat → Int32) → Option ((Nat → Int32) × Int32 × Rg × Rg × Rg)) → Int32 → (Nat → Int32) → Option ((Nat → Int32) × Int32 × Rg × Rg × Rg)
  | 0, _, _, _ => none
  | n + 1, k, x1, g_rooms =>
    if 8 ≤ x1 then
      k x1 g_rooms
    else
      (sv 8 g_rooms x1 0).bind fun g43 =>
      fX0_empty_31 n k (x1 + 1) g43
set_option maxRecDepth 100000 in
set_option maxHeartbeats 4000000 in
theorem wX0_empty_31 {p : Program} {l : Launch} {e : Env} {s : State} {m : MethodId} {args : Array Value} {below : List Frame} {meth : Method} {c : Code} {D : va_G} {cI : ClassId} {cS : GS} {A : Nat → Prop} {a : Nat → Nat} {a_series : Nat → Nat} {a_pieces : Nat → Nat} {a_trial : Nat → Nat} {a_moves : Nat → Nat} {g_day : Int32} {v_series : Rg} {v_pieces : Rg} {v_moves : Rg} (C : MC p s m args meth c D cI cS A RX0 cX0_empty 2 none) (hA : ∀ q, s.heap.size ≤ q → A q) {s0 : (Nat → Int32)} {s1 : Int32} {s2 : Rg} {s3 : Rg} {s4 : Rg} (k : Int32 → (Nat → Int32) → Option ((Nat → Int32) × Int32 × Rg × Rg × Rg)) (hk : ∀ (x1 : Int32) (g_rooms : Nat → Int32) (H : Heap) (locs : List Loc) (ls : Array Slot), Wd D A s.heap H locs [oX0 a a_series a_pieces a_trial a_moves g_day, ar cI (a 2) 8 g_rooms, cR cI a_series 10 v_series, cR cI a_pieces 42 v_pieces, cR cI a_moves 100 v_moves] → lv_has ls 2 [(0, .ref (a 0)), (1, .int x1)] → k x1 g_rooms = some (s0, s1, s2, s3, s4) → W p l e rmX0_empty s m args below meth c H locs 0 0 (KQ D A below args s none [oX0 a a_series a_pieces a_trial a_moves s1, ar cI (a 2) 8 s0, cR cI a_series 10 s2, cR cI a_pieces 42 s3, cR cI a_moves 100 s4]) (F0 m 50 ls [])) :
    ∀ (n : Nat) (x1 : Int32) (g_rooms : Nat → Int32) (H : Heap) (locs : List Loc) (ls : Array Slot), Wd D A s.heap H locs [oX0 a a_series a_pieces a_trial a_moves g_day, ar cI (a 2) 8 g_rooms, cR cI a_series 10 v_series, cR cI a_pieces 42 v_pieces, cR cI a_moves 100 v_moves] → lv_has ls 2 [(0, .ref (a 0)), (1, .int x1)] → fX0_empty_31  n k x1 g_rooms = some (s0, s1, s2, s3, s4) → W p l e rmX0_empty s m args below meth c H locs 0 0 (KQ D A below args s none [oX0 a a_series a_pieces a_trial a_moves s1, ar cI (a 2) 8 s0, cR cI a_series 10 s2, cR cI a_pieces 42 s3, cR cI a_moves 100 s4]) (F0 m 31 ls []) := by
  have hx := C.1.1
  have hb := C.1.2.1
  intro n
  induction n with
  | zero =>
    intro x1 g_rooms H locs ls hw hl h
    rw [fX0_empty_31] at h
    cases h
  | succ n ih =>
    intro x1 g_rooms H locs ls hw hl h
    rw [fX0_empty_31] at h
    refine lv_iload_n hx hb dX0_empty_31 rfl (lv_at hl 1 rfl) ?_
    refine lv_bipush (v := 8) hx hb dX0_empty_32 (by decide) ?_
    refine lv_icmp_ge (tgt := 50) hx hb dX0_empty_34 (by decide) (fun c34 => ?_) (fun c34 => ?_)
    · replace h := br_t' h c34
      exact hk _ _ _ _ _ hw (lv_sub hl [0, 1] rfl) h
    · replace h := br_f' h c34
      refine lv_aload_n hx hb dX0_empty_37 rfl (lv_at hl 0 rfl) ?_
      refine k_get C inT_X0 hw 0 rfl rfl 1 (by decide) mF_X0_20 rfl dX0_empty_38 ?_
      refine lv_iload_n hx hb dX0_empty_41 rfl (lv_at hl 1 rfl) ?_
      refine lv_iconst (v := 0) hx hb dX0_empty_42 (by decide) ?_
      obtain ⟨g43, q43, h⟩ := bd h
      refine k_iast C hw 1 rfl q43 [oX0 a a_series a_pieces a_trial a_moves g_day, ar cI (a 2) 8 g43, cR cI a_series 10 v_series, cR cI a_pieces 42 v_pieces, cR cI a_moves 100 v_moves] rfl dX0_empty_43 (fun H locs hw43 => ?_)
      refine lv_iinc (v := (x1 + 1)) (lv' := [(1, .int (x1 + 1)), (0, .ref (a 0))]) hx hb dX0_empty_44 hl (k := 1) rfl rfl (by decide) rfl (fun ls hl => ?_)
      refine lv_goto (tgt := 31) hx hb dX0_empty_47 (by decide) ?_
      exact ih _ _ _ _ _ hw43 (lv_sub hl [1, 0] rfl) h
def fX0_empty (g_rooms : Nat → Int32) (g_day : Int32) (v_series : Rg) (v_pieces : Rg) (v_moves : Rg) : Option ((Nat → Int32) × Int32 × Rg × Rg × Rg) :=
  (fX4_cutTo 10 v_series 0).bind fun r5 =>
  (fX4_cutTo 42 v_pieces 0).bind fun r13 =>
  (fX4_cutTo 100 v_moves 0).bind fun r21 =>
  fX0_empty_31  FU (fun x1_31 g_rooms_31 =>
    some (g_rooms_31, 0, r5, r13, r21)) 0 g_rooms
set_option maxRecDepth 100000 in
set_option maxHeartbeats 4000000 in
theorem tX0_empty {l : Launch} {D : va_G} {cI : ClassId} {cS : GS} {a : Nat → Nat} {a_series : Nat → Nat} {a_pieces : Nat → Nat} {a_trial : Nat → Nat} {a_moves : Nat → Nat} {g_rooms : Nat → Int32} {g_day : Int32} {v_series : Rg} {v_pieces : Rg} {v_moves : Rg}  {s0 : (Nat → Int32)} {s1 : Int32} {s2 : Rg} {s3 : Rg} {s4 : Rg} (h : fX0_empty g_rooms g_day v_series v_pieces v_moves = some (s0, s1, s2, s3, s4)) : CT l D cI cS yX0_empty cX0_empty 2 none rmX0_empty [.ref (a 0)] [oX0 a a_series a_pieces a_trial a_moves g_day, ar cI (a 2) 8 g_rooms, cR cI a_series 10 v_series, cR cI a_pieces 42 v_pieces, cR cI a_moves 100 v_moves] none [oX0 a a_series a_pieces a_trial a_moves s1, ar cI (a 2) 8 s0, cR cI a_series 10 s2, cR cI a_pieces 42 s3, cR cI a_moves 100 s4] := by
  refine CT.of RX0 (by decide) rfl (Nat.le_of_ble_eq_true rfl) (fun p e s m below meth c ls A C hA hl hw => ?_)
  have hx := C.1.1
  have hb := C.1.2.1
  have hl : lv_has ls 2 [(0, .ref (a 0))] := hl
  unfold fX0_empty at h
  refine lv_aload_n hx hb dX0_empty_0 rfl (lv_at hl 0 rfl) ?_
  refine k_get C inT_X0 hw 0 rfl rfl 0 (by decide) mF_X0_14 rfl dX0_empty_1 ?_
  refine lv_iconst (v := 0) hx hb dX0_empty_4 (by decide) ?_
  obtain ⟨r5, q5, h⟩ := bd h
  refine k_callV (nC := 5) [oX0 a a_series a_pieces a_trial a_moves g_day, ar cI (a 2) 8 g_rooms, cR cI a_series 10 r5, cR cI a_pieces 42 v_pieces, cR cI a_moves 100 v_moves] C hl.1 (tX4_cutTo (a := a_series) q5) mL_X0_40 mmX4_cutTo rfl rfl ⟨Nat.le_of_ble_eq_true rfl, Nat.le_of_ble_eq_true rfl⟩ rfl rfl rfl rfl (Nat.le_of_ble_eq_true rfl) hA hw [2] [0, 1, 3, 4] rfl (by decide +kernel) rfl rfl rfl rfl dX0_empty_5 (fun H locs hw5 => ?_)
  refine lv_aload_n hx hb dX0_empty_8 rfl (lv_at hl 0 rfl) ?_
  refine k_get C inT_X0 hw5 0 rfl rfl 2 (by decide) mF_X0_24 rfl dX0_empty_9 ?_
  refine lv_iconst (v := 0) hx hb dX0_empty_12 (by decide) ?_
  obtain ⟨r13, q13, h⟩ := bd h
  refine k_callV (nC := 5) [oX0 a a_series a_pieces a_trial a_moves g_day, ar cI (a 2) 8 g_rooms, cR cI a_series 10 r5, cR cI a_pieces 42 r13, cR cI a_moves 100 v_moves] C hl.1 (tX4_cutTo (a := a_pieces) q13) mL_X0_40 mmX4_cutTo rfl rfl ⟨Nat.le_of_ble_eq_true rfl, Nat.le_of_ble_eq_true rfl⟩ rfl rfl rfl rfl (Nat.le_of_ble_eq_true rfl) hA hw5 [3] [0, 1, 2, 4] rfl (by decide +kernel) rfl rfl rfl rfl dX0_empty_13 (fun H locs hw13 => ?_)
  refine lv_aload_n hx hb dX0_empty_16 rfl (lv_at hl 0 rfl) ?_
  refine k_get C inT_X0 hw13 0 rfl rfl 4 (by decide) mF_X0_30 rfl dX0_empty_17 ?_
  refine lv_iconst (v := 0) hx hb dX0_empty_20 (by decide) ?_
  obtain ⟨r21, q21, h⟩ := bd h
  refine k_callV (nC := 5) [oX0 a a_series a_pieces a_trial a_moves g_day, ar cI (a 2) 8 g_rooms, cR cI a_series 10 r5, cR cI a_pieces 42 r13, cR cI a_moves 100 r21] C hl.1 (tX4_cutTo (a := a_moves) q21) mL_X0_40 mmX4_cutTo rfl rfl ⟨Nat.le_of_ble_eq_true rfl, Nat.le_of_ble_eq_true rfl⟩ rfl rfl rfl rfl (Nat.le_of_ble_eq_true rfl) hA hw13 [4] [0, 1, 2, 3] rfl (by decide +kernel) rfl rfl rfl rfl dX0_empty_21 (fun H locs hw21 => ?_)
  refine lv_aload_n hx hb dX0_empty_24 rfl (lv_at hl 0 rfl) ?_
  refine lv_iconst (v := 0) hx hb dX0_empty_25 (by decide) ?_
  refine k_put C inT_X0 tyX0 tyX0_ok nmX0 hw21 0 rfl rfl 6 (by decide) mF_X0_36 rfl rfl (Nat.le_of_ble_eq_true rfl) [oX0 a a_series a_pieces a_trial a_moves 0, ar cI (a 2) 8 g_rooms, cR cI a_series 10 r5, cR cI a_pieces 42 r13, cR cI a_moves 100 r21] rfl dX0_empty_26 (fun H locs hw26 => ?_)
  refine lv_iconst (v := 0) hx hb dX0_empty_29 (by decide) ?_
  refine lv_istore_n (lv' := [(1, .int 0), (0, .ref (a 0))]) hx hb dX0_empty_30 rfl hl (by decide) rfl (fun ls hl => ?_)
  refine wX0_empty_31 C hA _ (fun x1_31 g_rooms_31 H locs ls hw31x hl h => ?_) FU _ _ _ _ _ hw26 (lv_sub hl [1, 0] rfl) h
  cases h
  exact k_vret C hw31x dX0_empty_50
def rmX0_saveTo : Room := { frames := 2, cells := 0, slots := 0, locals := 48 }
def fX0_saveTo (g_rooms : Nat → Int32) (g_day : Int32) (v_series : Rg) (v_pieces : Rg) (v_moves : Rg) (g_p1_rooms : Nat → Int32) (g_p1_seriesCount : Int32) (g_p1_moveCount : Int32) (g_p1_day : Int32) (v_p1_pieces : Rg) : Option ((Nat → Int32) × Int32 × Int32 × Int32 × Rg) :=
  (fX4_size 10 v_series).bind fun r5 =>
  (fX4_size 100 v_moves).bind fun r16 =>
  (fX4_copyFrom 40 42 v_p1_pieces v_pieces).bind fun r38 =>
  (cpy 8 g_rooms 0 8 g_p1_rooms 0 8).bind fun g53 =>
  some (g53, r5, r16, g_day, r38)
set_option maxRecDepth 100000 in
set_option maxHeartbeats 4000000 in
theorem tX0_saveTo {l : Launch} {D : va_G} {cI : ClassId} {cS : GS} {a : Nat → Nat} {a_series : Nat → Nat} {a_pieces : Nat → Nat} {a_trial : Nat → Nat} {a_moves : Nat → Nat} {a_p1 : Nat → Nat} {a_p1_pieces : Nat → Nat} {g_rooms : Nat → Int32} {g_day : Int32} {v_series : Rg} {v_pieces : Rg} {v_moves : Rg} {g_p1_rooms : Nat → Int32} {g_p1_seriesCount : Int32} {g_p1_moveCount : Int32} {g_p1_day : Int32} {v_p1_pieces : Rg}  {s0 : (Nat → Int32)} {s1 : Int32} {s2 : Int32} {s3 : Int32} {s4 : Rg} (h : fX0_saveTo g_rooms g_day v_series v_pieces v_moves g_p1_rooms g_p1_seriesCount g_p1_moveCount g_p1_day v_p1_pieces = some (s0, s1, s2, s3, s4)) : CT l D cI cS yX0_saveTo cX0_saveTo 2 none rmX0_saveTo [.ref (a 0), .ref (a_p1 0)] [oX0 a a_series a_pieces a_trial a_moves g_day, ar cI (a 2) 8 g_rooms, cR cI a_series 10 v_series, cR cI a_pieces 42 v_pieces, cR cI a_moves 100 v_moves, oX5 a_p1 a_p1_pieces g_p1_seriesCount g_p1_moveCount g_p1_day, ar cI (a_p1 1) 8 g_p1_rooms, cR cI a_p1_pieces 40 v_p1_pieces] none [oX0 a a_series a_pieces a_trial a_moves g_day, ar cI (a 2) 8 g_rooms, cR cI a_series 10 v_series, cR cI a_pieces 42 v_pieces, cR cI a_moves 100 v_moves, oX5 a_p1 a_p1_pieces s1 s2 s3, ar cI (a_p1 1) 8 s0, cR cI a_p1_pieces 40 s4] := by
  refine CT.of RX0 (by decide) rfl (Nat.le_of_ble_eq_true rfl) (fun p e s m below meth c ls A C hA hl hw => ?_)
  have hx := C.1.1
  have hb := C.1.2.1
  have hl : lv_has ls 2 [(0, .ref (a 0)), (1, .ref (a_p1 0))] := hl
  unfold fX0_saveTo at h
  refine lv_aload_n hx hb dX0_saveTo_0 rfl (lv_at hl 1 rfl) ?_
  refine lv_aload_n hx hb dX0_saveTo_1 rfl (lv_at hl 0 rfl) ?_
  refine k_get C inT_X0 hw 0 rfl rfl 0 (by decide) mF_X0_14 rfl dX0_saveTo_2 ?_
  obtain ⟨r5, q5, h⟩ := bd h
  refine k_callV (nC := 8) [oX0 a a_series a_pieces a_trial a_moves g_day, ar cI (a 2) 8 g_rooms, cR cI a_series 10 v_series, cR cI a_pieces 42 v_pieces, cR cI a_moves 100 v_moves, oX5 a_p1 a_p1_pieces g_p1_seriesCount g_p1_moveCount g_p1_day, ar cI (a_p1 1) 8 g_p1_rooms, cR cI a_p1_pieces 40 v_p1_pieces] C hl.1 (tX4_size (a := a_series) q5) mL_X0_43 mmX4_size rfl rfl ⟨Nat.le_of_ble_eq_true rfl, Nat.le_of_ble_eq_true rfl⟩ rfl rfl rfl rfl (Nat.le_of_ble_eq_true rfl) hA hw [2] [0, 1, 3, 4, 5, 6, 7] rfl (by decide +kernel) rfl rfl rfl rfl dX0_saveTo_5 (fun H locs hw5 => ?_)
  refine k_putN C inT_X5 tyX5 tyX5_ok nmX5 hw5 14 rfl rfl 2 (by decide) C.2.2.2.1.2.1.2.2.1 rfl rfl (Nat.le_of_ble_eq_true rfl) [oX0 a a_series a_pieces a_trial a_moves g_day, ar cI (a 2) 8 g_rooms, cR cI a_series 10 v_series, cR cI a_pieces 42 v_pieces, cR cI a_moves 100 v_moves, oX5 a_p1 a_p1_pieces r5 g_p1_moveCount g_p1_day, ar cI (a_p1 1) 8 g_p1_rooms, cR cI a_p1_pieces 40 v_p1_pieces] rfl dX0_saveTo_8 (fun H locs hw8 => ?_)
  refine lv_aload_n hx hb dX0_saveTo_11 rfl (lv_at hl 1 rfl) ?_
  refine lv_aload_n hx hb dX0_saveTo_12 rfl (lv_at hl 0 rfl) ?_
  refine k_get C inT_X0 hw8 0 rfl rfl 4 (by decide) mF_X0_30 rfl dX0_saveTo_13 ?_
  obtain ⟨r16, q16, h⟩ := bd h
  refine k_callV (nC := 8) [oX0 a a_series a_pieces a_trial a_moves g_day, ar cI (a 2) 8 g_rooms, cR cI a_series 10 v_series, cR cI a_pieces 42 v_pieces, cR cI a_moves 100 v_moves, oX5 a_p1 a_p1_pieces r5 g_p1_moveCount g_p1_day, ar cI (a_p1 1) 8 g_p1_rooms, cR cI a_p1_pieces 40 v_p1_pieces] C hl.1 (tX4_size (a := a_moves) q16) mL_X0_43 mmX4_size rfl rfl ⟨Nat.le_of_ble_eq_true rfl, Nat.le_of_ble_eq_true rfl⟩ rfl rfl rfl rfl (Nat.le_of_ble_eq_true rfl) hA hw8 [4] [0, 1, 2, 3, 5, 6, 7] rfl (by decide +kernel) rfl rfl rfl rfl dX0_saveTo_16 (fun H locs hw16 => ?_)
  refine k_putN C inT_X5 tyX5 tyX5_ok nmX5 hw16 14 rfl rfl 3 (by decide) C.2.2.2.1.2.1.2.2.2.1 rfl rfl (Nat.le_of_ble_eq_true rfl) [oX0 a a_series a_pieces a_trial a_moves g_day, ar cI (a 2) 8 g_rooms, cR cI a_series 10 v_series, cR cI a_pieces 42 v_pieces, cR cI a_moves 100 v_moves, oX5 a_p1 a_p1_pieces r5 r16 g_p1_day, ar cI (a_p1 1) 8 g_p1_rooms, cR cI a_p1_pieces 40 v_p1_pieces] rfl dX0_saveTo_19 (fun H locs hw19 => ?_)
  refine lv_aload_n hx hb dX0_saveTo_22 rfl (lv_at hl 1 rfl) ?_
  refine lv_aload_n hx hb dX0_saveTo_23 rfl (lv_at hl 0 rfl) ?_
  refine k_get C inT_X0 hw19 0 rfl rfl 6 (by decide) mF_X0_36 rfl dX0_saveTo_24 ?_
  refine k_putN C inT_X5 tyX5 tyX5_ok nmX5 hw19 14 rfl rfl 4 (by decide) C.2.2.2.1.2.1.2.2.2.2 rfl rfl (Nat.le_of_ble_eq_true rfl) [oX0 a a_series a_pieces a_trial a_moves g_day, ar cI (a 2) 8 g_rooms, cR cI a_series 10 v_series, cR cI a_pieces 42 v_pieces, cR cI a_moves 100 v_moves, oX5 a_p1 a_p1_pieces r5 r16 g_day, ar cI (a_p1 1) 8 g_p1_rooms, cR cI a_p1_pieces 40 v_p1_pieces] rfl dX0_saveTo_27 (fun H locs hw27 => ?_)
  refine lv_aload_n hx hb dX0_saveTo_30 rfl (lv_at hl 1 rfl) ?_
  refine k_getN C inT_X5 hw27 14 rfl rfl 1 (by decide) C.2.2.2.1.2.1.2.1 rfl dX0_saveTo_31 ?_
  refine lv_aload_n hx hb dX0_saveTo_34 rfl (lv_at hl 0 rfl) ?_
  refine k_get C inT_X0 hw27 0 rfl rfl 2 (by decide) mF_X0_24 rfl dX0_saveTo_35 ?_
  obtain ⟨r38, q38, h⟩ := bd h
  refine k_callV (nC := 8) [oX0 a a_series a_pieces a_trial a_moves g_day, ar cI (a 2) 8 g_rooms, cR cI a_series 10 v_series, cR cI a_pieces 42 v_pieces, cR cI a_moves 100 v_moves, oX5 a_p1 a_p1_pieces r5 r16 g_day, ar cI (a_p1 1) 8 g_p1_rooms, cR cI a_p1_pieces 40 r38] C hl.1 (tX4_copyFrom (a := a_p1_pieces) (a_p1 := a_pieces) q38) mL_X0_57 mmX4_copyFrom rfl rfl ⟨Nat.le_of_ble_eq_true rfl, Nat.le_of_ble_eq_true rfl⟩ rfl rfl rfl rfl (Nat.le_of_ble_eq_true rfl) hA hw27 [7, 3] [0, 1, 2, 4, 5, 6] rfl (by decide +kernel) rfl rfl rfl rfl dX0_saveTo_38 (fun H locs hw38 => ?_)
  refine lv_aload_n hx hb dX0_saveTo_41 rfl (lv_at hl 0 rfl) ?_
  refine k_get C inT_X0 hw38 0 rfl rfl 1 (by decide) mF_X0_20 rfl dX0_saveTo_42 ?_
  refine lv_iconst (v := 0) hx hb dX0_saveTo_45 (by decide) ?_
  refine lv_aload_n hx hb dX0_saveTo_46 rfl (lv_at hl 1 rfl) ?_
  refine k_getN C inT_X5 hw38 14 rfl rfl 0 (by decide) C.2.2.2.1.2.1.1 rfl dX0_saveTo_47 ?_
  refine lv_iconst (v := 0) hx hb dX0_saveTo_50 (by decide) ?_
  refine lv_bipush (v := 8) hx hb dX0_saveTo_51 (by decide) ?_
  obtain ⟨g53, q53, h⟩ := bd h
  refine k_copy C hl.1 mL_X0_62 mm_copy hw38 1 15 rfl rfl q53 (Nat.le_of_ble_eq_true rfl) (Nat.le_of_ble_eq_true rfl) [oX0 a a_series a_pieces a_trial a_moves g_day, ar cI (a 2) 8 g_rooms, cR cI a_series 10 v_series, cR cI a_pieces 42 v_pieces, cR cI a_moves 100 v_moves, oX5 a_p1 a_p1_pieces r5 r16 g_day, ar cI (a_p1 1) 8 g53, cR cI a_p1_pieces 40 r38] rfl dX0_saveTo_53 (fun H locs hw53 => ?_)
  cases h
  exact k_vret C hw53 dX0_saveTo_56
def rmX0_restoreFrom : Room := { frames := 2, cells := 0, slots := 0, locals := 48 }
def fX0_restoreFrom (g_rooms : Nat → Int32) (g_day : Int32) (v_series : Rg) (v_pieces : Rg) (v_moves : Rg) (g_p1_rooms : Nat → Int32) (g_p1_seriesCount : Int32) (g_p1_moveCount : Int32) (g_p1_day : Int32) (v_p1_pieces : Rg) : Option ((Nat → Int32) × Int32 × Rg × Rg × Rg) :=
  (fX4_cutTo 10 v_series g_p1_seriesCount).bind fun r8 =>
  (fX4_cutTo 100 v_moves g_p1_moveCount).bind fun r19 =>
  (fX4_copyFrom 42 40 v_pieces v_p1_pieces).bind fun r38 =>
  (cpy 8 g_p1_rooms 0 8 g_rooms 0 8).bind fun g53 =>
  some (g53, g_p1_day, r8, r38, r19)
set_option maxRecDepth 100000 in
set_option maxHeartbeats 4000000 in
theorem tX0_restoreFrom {l : Launch} {D : va_G} {cI : ClassId} {cS : GS} {a : Nat → Nat} {a_series : Nat → Nat} {a_pieces : Nat → Nat} {a_trial : Nat → Nat} {a_moves : Nat → Nat} {a_p1 : Nat → Nat} {a_p1_pieces : Nat → Nat} {g_rooms : Nat → Int32} {g_day : Int32} {v_series : Rg} {v_pieces : Rg} {v_moves : Rg} {g_p1_rooms : Nat → Int32} {g_p1_seriesCount : Int32} {g_p1_moveCount : Int32} {g_p1_day : Int32} {v_p1_pieces : Rg}  {s0 : (Nat → Int32)} {s1 : Int32} {s2 : Rg} {s3 : Rg} {s4 : Rg} (h : fX0_restoreFrom g_rooms g_day v_series v_pieces v_moves g_p1_rooms g_p1_seriesCount g_p1_moveCount g_p1_day v_p1_pieces = some (s0, s1, s2, s3, s4)) : CT l D cI cS yX0_restoreFrom cX0_restoreFrom 2 none rmX0_restoreFrom [.ref (a 0), .ref (a_p1 0)] [oX0 a a_series a_pieces a_trial a_moves g_day, ar cI (a 2) 8 g_rooms, cR cI a_series 10 v_series, cR cI a_pieces 42 v_pieces, cR cI a_moves 100 v_moves, oX5 a_p1 a_p1_pieces g_p1_seriesCount g_p1_moveCount g_p1_day, ar cI (a_p1 1) 8 g_p1_rooms, cR cI a_p1_pieces 40 v_p1_pieces] none [oX0 a a_series a_pieces a_trial a_moves s1, ar cI (a 2) 8 s0, cR cI a_series 10 s2, cR cI a_pieces 42 s3, cR cI a_moves 100 s4, oX5 a_p1 a_p1_pieces g_p1_seriesCount g_p1_moveCount g_p1_day, ar cI (a_p1 1) 8 g_p1_rooms, cR cI a_p1_pieces 40 v_p1_pieces] := by
  refine CT.of RX0 (by decide) rfl (Nat.le_of_ble_eq_true rfl) (fun p e s m below meth c ls A C hA hl hw => ?_)
  have hx := C.1.1
  have hb := C.1.2.1
  have hl : lv_has ls 2 [(0, .ref (a 0)), (1, .ref (a_p1 0))] := hl
  unfold fX0_restoreFrom at h
  refine lv_aload_n hx hb dX0_restoreFrom_0 rfl (lv_at hl 0 rfl) ?_
  refine k_get C inT_X0 hw 0 rfl rfl 0 (by decide) mF_X0_14 rfl dX0_restoreFrom_1 ?_
  refine lv_aload_n hx hb dX0_restoreFrom_4 rfl (lv_at hl 1 rfl) ?_
  refine k_getN C inT_X5 hw 14 rfl rfl 2 (by decide) C.2.2.2.1.2.1.2.2.1 rfl dX0_restoreFrom_5 ?_
  obtain ⟨r8, q8, h⟩ := bd h
  refine k_callV (nC := 8) [oX0 a a_series a_pieces a_trial a_moves g_day, ar cI (a 2) 8 g_rooms, cR cI a_series 10 r8, cR cI a_pieces 42 v_pieces, cR cI a_moves 100 v_moves, oX5 a_p1 a_p1_pieces g_p1_seriesCount g_p1_moveCount g_p1_day, ar cI (a_p1 1) 8 g_p1_rooms, cR cI a_p1_pieces 40 v_p1_pieces] C hl.1 (tX4_cutTo (a := a_series) q8) mL_X0_40 mmX4_cutTo rfl rfl ⟨Nat.le_of_ble_eq_true rfl, Nat.le_of_ble_eq_true rfl⟩ rfl rfl rfl rfl (Nat.le_of_ble_eq_true rfl) hA hw [2] [0, 1, 3, 4, 5, 6, 7] rfl (by decide +kernel) rfl rfl rfl rfl dX0_restoreFrom_8 (fun H locs hw8 => ?_)
  refine lv_aload_n hx hb dX0_restoreFrom_11 rfl (lv_at hl 0 rfl) ?_
  refine k_get C inT_X0 hw8 0 rfl rfl 4 (by decide) mF_X0_30 rfl dX0_restoreFrom_12 ?_
  refine lv_aload_n hx hb dX0_restoreFrom_15 rfl (lv_at hl 1 rfl) ?_
  refine k_getN C inT_X5 hw8 14 rfl rfl 3 (by decide) C.2.2.2.1.2.1.2.2.2.1 rfl dX0_restoreFrom_16 ?_
  obtain ⟨r19, q19, h⟩ := bd h
  refine k_callV (nC := 8) [oX0 a a_series a_pieces a_trial a_moves g_day, ar cI (a 2) 8 g_rooms, cR cI a_series 10 r8, cR cI a_pieces 42 v_pieces, cR cI a_moves 100 r19, oX5 a_p1 a_p1_pieces g_p1_seriesCount g_p1_moveCount g_p1_day, ar cI (a_p1 1) 8 g_p1_rooms, cR cI a_p1_pieces 40 v_p1_pieces] C hl.1 (tX4_cutTo (a := a_moves) q19) mL_X0_40 mmX4_cutTo rfl rfl ⟨Nat.le_of_ble_eq_true rfl, Nat.le_of_ble_eq_true rfl⟩ rfl rfl rfl rfl (Nat.le_of_ble_eq_true rfl) hA hw8 [4] [0, 1, 2, 3, 5, 6, 7] rfl (by decide +kernel) rfl rfl rfl rfl dX0_restoreFrom_19 (fun H locs hw19 => ?_)
  refine lv_aload_n hx hb dX0_restoreFrom_22 rfl (lv_at hl 0 rfl) ?_
  refine lv_aload_n hx hb dX0_restoreFrom_23 rfl (lv_at hl 1 rfl) ?_
  refine k_getN C inT_X5 hw19 14 rfl rfl 4 (by decide) C.2.2.2.1.2.1.2.2.2.2 rfl dX0_restoreFrom_24 ?_
  refine k_put C inT_X0 tyX0 tyX0_ok nmX0 hw19 0 rfl rfl 6 (by decide) mF_X0_36 rfl rfl (Nat.le_of_ble_eq_true rfl) [oX0 a a_series a_pieces a_trial a_moves g_p1_day, ar cI (a 2) 8 g_rooms, cR cI a_series 10 r8, cR cI a_pieces 42 v_pieces, cR cI a_moves 100 r19, oX5 a_p1 a_p1_pieces g_p1_seriesCount g_p1_moveCount g_p1_day, ar cI (a_p1 1) 8 g_p1_rooms, cR cI a_p1_pieces 40 v_p1_pieces] rfl dX0_restoreFrom_27 (fun H locs hw27 => ?_)
  refine lv_aload_n hx hb dX0_restoreFrom_30 rfl (lv_at hl 0 rfl) ?_
  refine k_get C inT_X0 hw27 0 rfl rfl 2 (by decide) mF_X0_24 rfl dX0_restoreFrom_31 ?_
  refine lv_aload_n hx hb dX0_restoreFrom_34 rfl (lv_at hl 1 rfl) ?_
  refine k_getN C inT_X5 hw27 14 rfl rfl 1 (by decide) C.2.2.2.1.2.1.2.1 rfl dX0_restoreFrom_35 ?_
  obtain ⟨r38, q38, h⟩ := bd h
  refine k_callV (nC := 8) [oX0 a a_series a_pieces a_trial a_moves g_p1_day, ar cI (a 2) 8 g_rooms, cR cI a_series 10 r8, cR cI a_pieces 42 r38, cR cI a_moves 100 r19, oX5 a_p1 a_p1_pieces g_p1_seriesCount g_p1_moveCount g_p1_day, ar cI (a_p1 1) 8 g_p1_rooms, cR cI a_p1_pieces 40 v_p1_pieces] C hl.1 (tX4_copyFrom (a := a_pieces) (a_p1 := a_p1_pieces) q38) mL_X0_57 mmX4_copyFrom rfl rfl ⟨Nat.le_of_ble_eq_true rfl, Nat.le_of_ble_eq_true rfl⟩ rfl rfl rfl rfl (Nat.le_of_ble_eq_true rfl) hA hw27 [3, 7] [0, 1, 2, 4, 5, 6] rfl (by decide +kernel) rfl rfl rfl rfl dX0_restoreFrom_38 (fun H locs hw38 => ?_)
  refine lv_aload_n hx hb dX0_restoreFrom_41 rfl (lv_at hl 1 rfl) ?_
  refine k_getN C inT_X5 hw38 14 rfl rfl 0 (by decide) C.2.2.2.1.2.1.1 rfl dX0_restoreFrom_42 ?_
  refine lv_iconst (v := 0) hx hb dX0_restoreFrom_45 (by decide) ?_
  refine lv_aload_n hx hb dX0_restoreFrom_46 rfl (lv_at hl 0 rfl) ?_
  refine k_get C inT_X0 hw38 0 rfl rfl 1 (by decide) mF_X0_20 rfl dX0_restoreFrom_47 ?_
  refine lv_iconst (v := 0) hx hb dX0_restoreFrom_50 (by decide) ?_
  refine lv_bipush (v := 8) hx hb dX0_restoreFrom_51 (by decide) ?_
  obtain ⟨g53, q53, h⟩ := bd h
  refine k_copy C hl.1 mL_X0_62 mm_copy hw38 15 1 rfl rfl q53 (Nat.le_of_ble_eq_true rfl) (Nat.le_of_ble_eq_true rfl) [oX0 a a_series a_pieces a_trial a_moves g_p1_day, ar cI (a 2) 8 g53, cR cI a_series 10 r8, cR cI a_pieces 42 r38, cR cI a_moves 100 r19, oX5 a_p1 a_p1_pieces g_p1_seriesCount g_p1_moveCount g_p1_day, ar cI (a_p1 1) 8 g_p1_rooms, cR cI a_p1_pieces 40 v_p1_pieces] rfl dX0_restoreFrom_53 (fun H locs hw53 => ?_)
  cases h
  exact k_vret C hw53 dX0_restoreFrom_56
def rmX0_firstIn : Room := { frames := 2, cells := 0, slots := 0, locals := 42 }
def fX0_firstIn (v_series : Rg) (x1 : Int32) : Option (Int32) :=
  if x1 = (-1) then
    some 1
  else
    (fX4_firstOf 10 v_series x1).bind fun r14 =>
    some r14
set_option maxRecDepth 100000 in
set_option maxHeartbeats 4000000 in
theorem tX0_firstIn {l : Launch} {D : va_G} {cI : ClassId} {cS : GS} {a : Nat → Nat} {a_series : Nat → Nat} {a_pieces : Nat → Nat} {a_trial : Nat → Nat} {a_moves : Nat → Nat} {g_day : Int32} {v_series : Rg} {x1 : Int32} {s0 : Int32} (h : fX0_firstIn v_series x1 = some s0) : CT l D cI cS yX0_firstIn cX0_firstIn 2 (some .int) rmX0_firstIn [.ref (a 0), .int x1] [oX0 a a_series a_pieces a_trial a_moves g_day, cR cI a_series 10 v_series] (some (.int s0)) [oX0 a a_series a_pieces a_trial a_moves g_day, cR cI a_series 10 v_series] := by
  refine CT.of RX0 (by decide) rfl (Nat.le_of_ble_eq_true rfl) (fun p e s m below meth c ls A C hA hl hw => ?_)
  have hx := C.1.1
  have hb := C.1.2.1
  have hl : lv_has ls 2 [(0, .ref (a 0)), (1, .int x1)] := hl
  unfold fX0_firstIn at h
  refine lv_iload_n hx hb dX0_firstIn_0 rfl (lv_at hl 1 rfl) ?_
  refine lv_iconst (v := (-1)) hx hb dX0_firstIn_1 (by decide) ?_
  refine lv_icmp_ne (tgt := 9) hx hb dX0_firstIn_2 (by decide) (fun c2 => ?_) (fun c2 => ?_)
  · replace h := br_f' h c2
    refine lv_aload_n hx hb dX0_firstIn_9 rfl (lv_at hl 0 rfl) ?_
    refine k_get C inT_X0 hw 0 rfl rfl 0 (by decide) mF_X0_14 rfl dX0_firstIn_10 ?_
    refine lv_iload_n hx hb dX0_firstIn_13 rfl (lv_at hl 1 rfl) ?_
    obtain ⟨r14, q14, h⟩ := bd h
    refine k_callV (nC := 2) [oX0 a a_series a_pieces a_trial a_moves g_day, cR cI a_series 10 v_series] C hl.1 (tX4_firstOf (a := a_series) q14) mL_X0_118 mmX4_firstOf rfl rfl ⟨Nat.le_of_ble_eq_true rfl, Nat.le_of_ble_eq_true rfl⟩ rfl rfl rfl rfl (Nat.le_of_ble_eq_true rfl) hA hw [1] [0] rfl (by decide +kernel) rfl rfl rfl rfl dX0_firstIn_14 (fun H locs hw14 => ?_)
    cases h
    exact k_iret C hw14 dX0_firstIn_17
  · replace h := br_t' h c2
    refine lv_iconst (v := 1) hx hb dX0_firstIn_5 (by decide) ?_
    refine lv_goto (tgt := 17) hx hb dX0_firstIn_6 (by decide) ?_
    cases h
    exact k_iret C hw dX0_firstIn_17
def rmX0_isSeries : Room := { frames := 1, cells := 0, slots := 0, locals := 21 }
def fX0_isSeries (v_series : Rg) (x1 : Int32) : Option (Int32) :=
  (fX4_has 10 v_series x1).bind fun r5 =>
  (bz r5).bind fun b8 =>
  some b8
set_option maxRecDepth 100000 in
set_option maxHeartbeats 4000000 in
theorem tX0_isSeries {l : Launch} {D : va_G} {cI : ClassId} {cS : GS} {a : Nat → Nat} {a_series : Nat → Nat} {a_pieces : Nat → Nat} {a_trial : Nat → Nat} {a_moves : Nat → Nat} {g_day : Int32} {v_series : Rg} {x1 : Int32} {s0 : Int32} (h : fX0_isSeries v_series x1 = some s0) : CT l D cI cS yX0_isSeries cX0_isSeries 2 (some .boolean) rmX0_isSeries [.ref (a 0), .int x1] [oX0 a a_series a_pieces a_trial a_moves g_day, cR cI a_series 10 v_series] (some (.int s0)) [oX0 a a_series a_pieces a_trial a_moves g_day, cR cI a_series 10 v_series] := by
  refine CT.of RX0 (by decide) rfl (Nat.le_of_ble_eq_true rfl) (fun p e s m below meth c ls A C hA hl hw => ?_)
  have hx := C.1.1
  have hb := C.1.2.1
  have hl : lv_has ls 2 [(0, .ref (a 0)), (1, .int x1)] := hl
  unfold fX0_isSeries at h
  refine lv_aload_n hx hb dX0_isSeries_0 rfl (lv_at hl 0 rfl) ?_
  refine k_get C inT_X0 hw 0 rfl rfl 0 (by decide) mF_X0_14 rfl dX0_isSeries_1 ?_
  refine lv_iload_n hx hb dX0_isSeries_4 rfl (lv_at hl 1 rfl) ?_
  obtain ⟨r5, q5, h⟩ := bd h
  refine k_callV (nC := 2) [oX0 a a_series a_pieces a_trial a_moves g_day, cR cI a_series 10 v_series] C hl.1 (tX4_has (a := a_series) q5) mL_X0_131 mmX4_has rfl rfl ⟨Nat.le_of_ble_eq_true rfl, Nat.le_of_ble_eq_true rfl⟩ rfl rfl rfl rfl (Nat.le_of_ble_eq_true rfl) hA hw [1] [0] rfl (by decide +kernel) rfl rfl rfl rfl dX0_isSeries_5 (fun H locs hw5 => ?_)
  obtain ⟨b8, q8, h⟩ := bd h
  cases h
  exact k_zretb C q8 hw5 dX0_isSeries_8
def rmX0_lastIn : Room := { frames := 2, cells := 0, slots := 0, locals := 42 }
def fX0_lastIn (v_series : Rg) (x1 : Int32) : Option (Int32) :=
  if x1 = (-1) then
    some 2000000000
  else
    (fX4_lastOf 10 v_series x1).bind fun r15 =>
    some r15
set_option maxRecDepth 100000 in
set_option maxHeartbeats 4000000 in
theorem tX0_lastIn {l : Launch} {D : va_G} {cI : ClassId} {cS : GS} {a : Nat → Nat} {a_series : Nat → Nat} {a_pieces : Nat → Nat} {a_trial : Nat → Nat} {a_moves : Nat → Nat} {g_day : Int32} {v_series : Rg} {x1 : Int32} {s0 : Int32} (h : fX0_lastIn v_series x1 = some s0) : CT l D cI cS yX0_lastIn cX0_lastIn 2 (some .int) rmX0_lastIn [.ref (a 0), .int x1] [oX0 a a_series a_pieces a_trial a_moves g_day, cR cI a_series 10 v_series] (some (.int s0)) [oX0 a a_series a_pieces a_trial a_moves g_day, cR cI a_series 10 v_series] := by
  refine CT.of RX0 (by decide) rfl (Nat.le_of_ble_eq_true rfl) (fun p e s m below meth c ls A C hA hl hw => ?_)
  have hx := C.1.1
  have hb := C.1.2.1
  have hl : lv_has ls 2 [(0, .ref (a 0)), (1, .int x1)] := hl
  unfold fX0_lastIn at h
  refine lv_iload_n hx hb dX0_lastIn_0 rfl (lv_at hl 1 rfl) ?_
  refine lv_iconst (v := (-1)) hx hb dX0_lastIn_1 (by decide) ?_
  refine lv_icmp_ne (tgt := 10) hx hb dX0_lastIn_2 (by decide) (fun c2 => ?_) (fun c2 => ?_)
  · replace h := br_f' h c2
    refine lv_aload_n hx hb dX0_lastIn_10 rfl (lv_at hl 0 rfl) ?_
    refine k_get C inT_X0 hw 0 rfl rfl 0 (by decide) mF_X0_14 rfl dX0_lastIn_11 ?_
    refine lv_iload_n hx hb dX0_lastIn_14 rfl (lv_at hl 1 rfl) ?_
    obtain ⟨r15, q15, h⟩ := bd h
    refine k_callV (nC := 2) [oX0 a a_series a_pieces a_trial a_moves g_day, cR cI a_series 10 v_series] C hl.1 (tX4_lastOf (a := a_series) q15) mL_X0_121 mmX4_lastOf rfl rfl ⟨Nat.le_of_ble_eq_true rfl, Nat.le_of_ble_eq_true rfl⟩ rfl rfl rfl rfl (Nat.le_of_ble_eq_true rfl) hA hw [1] [0] rfl (by decide +kernel) rfl rfl rfl rfl dX0_lastIn_15 (fun H locs hw15 => ?_)
    cases h
    exact k_iret C hw15 dX0_lastIn_18
  · replace h := br_t' h c2
    refine k_ldc C mC_X0_94 dX0_lastIn_5 ?_
    refine lv_goto (tgt := 18) hx hb dX0_lastIn_7 (by decide) ?_
    cases h
    exact k_iret C hw dX0_lastIn_18
def rmX7_isSheet : Room := { frames := 0, cells := 0, slots := 0, locals := 0 }
def fX7_isSheet (x0 : Int32) : Option (Int32) :=
  if x0 < 1 then
    some 0
  else
    if 2000000000 < x0 then
      some 0
    else
      some 1
set_option maxRecDepth 100000 in
set_option maxHeartbeats 4000000 in
theorem tX7_isSheet {l : Launch} {D : va_G} {cI : ClassId} {cS : GS}  {x0 : Int32} {s0 : Int32} (h : fX7_isSheet x0 = some s0) : CT l D cI cS yX7_isSheet cX7_isSheet 1 (some .boolean) rmX7_isSheet [.int x0] [] (some (.int s0)) [] := by
  refine CT.of RX7 (by decide) rfl (Nat.le_of_ble_eq_true rfl) (fun p e s m below meth c ls A C hA hl hw => ?_)
  have hx := C.1.1
  have hb := C.1.2.1
  have hl : lv_has ls 1 [(0, .int x0)] := hl
  unfold fX7_isSheet at h
  refine lv_iload_n hx hb dX7_isSheet_0 rfl (lv_at hl 0 rfl) ?_
  refine lv_iconst (v := 1) hx hb dX7_isSheet_1 (by decide) ?_
  refine lv_icmp_lt (tgt := 16) hx hb dX7_isSheet_2 (by decide) (fun c2 => ?_) (fun c2 => ?_)
  · replace h := br_t' h c2
    refine lv_iconst (v := 0) hx hb dX7_isSheet_16 (by decide) ?_
    cases h
    exact k_zret (v := 0) C rfl hw dX7_isSheet_17
  · replace h := br_f' h c2
    refine lv_iload_n hx hb dX7_isSheet_5 rfl (lv_at hl 0 rfl) ?_
    refine k_ldc_w C mC_X7_285 dX7_isSheet_6 ?_
    refine lv_icmp_gt (tgt := 16) hx hb dX7_isSheet_9 (by decide) (fun c9 => ?_) (fun c9 => ?_)
    · replace h := br_t' h c9
      refine lv_iconst (v := 0) hx hb dX7_isSheet_16 (by decide) ?_
      cases h
      exact k_zret (v := 0) C rfl hw dX7_isSheet_17
    · replace h := br_f' h c9
      refine lv_iconst (v := 1) hx hb dX7_isSheet_12 (by decide) ?_
      refine lv_goto (tgt := 17) hx hb dX7_isSheet_13 (by decide) ?_
      cases h
      exact k_zret (v := 1) C rfl hw dX7_isSheet_17
def rmX7_isRange : Room := { frames := 1, cells := 0, slots := 0, locals := 20 }
def fX7_isRange (x0 : Int32) (x1 : Int32) : Option (Int32) :=
  (fX7_isSheet x0).bind fun r1 =>
  if r1 = 0 then
    some 0
  else
    (fX7_isSheet x1).bind fun r8 =>
    if r8 = 0 then
      some 0
    else
      if x1 < x0 then
        some 0
      else
        some 1
set_option maxRecDepth 100000 in
set_option maxHeartbeats 4000000 in
theorem tX7_isRange {l : Launch} {D : va_G} {cI : ClassId} {cS : GS}  {x0 : Int32} {x1 : Int32} {s0 : Int32} (h : fX7_isRange x0 x1 = some s0) : CT l D cI cS yX7_isRange cX7_isRange 2 (some .boolean) rmX7_isRange [.int x0, .int x1] [] (some (.int s0)) [] := by
  refine CT.of RX7 (by decide) rfl (Nat.le_of_ble_eq_true rfl) (fun p e s m below meth c ls A C hA hl hw => ?_)
  have hx := C.1.1
  have hb := C.1.2.1
  have hl : lv_has ls 2 [(0, .int x0), (1, .int x1)] := hl
  unfold fX7_isRange at h
  refine lv_iload_n hx hb dX7_isRange_0 rfl (lv_at hl 0 rfl) ?_
  obtain ⟨r1, q1, h⟩ := bd h
  refine k_callS (nC := 0) [] C hl.1 (tX7_isSheet q1) mL_X7_221 mmX7_isSheet rfl rfl ⟨Nat.le_of_ble_eq_true rfl, Nat.le_of_ble_eq_true rfl⟩ rfl rfl (Nat.le_of_ble_eq_true rfl) hA hw [] [] rfl (by decide +kernel) rfl rfl rfl rfl dX7_isRange_1 (fun H locs hw1 => ?_)
  refine lv_if_eq (tgt := 23) hx hb dX7_isRange_4 (by decide) (fun c4 => ?_) (fun c4 => ?_)
  · replace h := br_t' h c4
    refine lv_iconst (v := 0) hx hb dX7_isRange_23 (by decide) ?_
    cases h
    exact k_zret (v := 0) C rfl hw1 dX7_isRange_24
  · replace h := br_f' h c4
    refine lv_iload_n hx hb dX7_isRange_7 rfl (lv_at hl 1 rfl) ?_
    obtain ⟨r8, q8, h⟩ := bd h
    refine k_callS (nC := 0) [] C hl.1 (tX7_isSheet q8) mL_X7_221 mmX7_isSheet rfl rfl ⟨Nat.le_of_ble_eq_true rfl, Nat.le_of_ble_eq_true rfl⟩ rfl rfl (Nat.le_of_ble_eq_true rfl) hA hw1 [] [] rfl (by decide +kernel) rfl rfl rfl rfl dX7_isRange_8 (fun H locs hw8 => ?_)
    refine lv_if_eq (tgt := 23) hx hb dX7_isRange_11 (by decide) (fun c11 => ?_) (fun c11 => ?_)
    · replace h := br_t' h c11
      refine lv_iconst (v := 0) hx hb dX7_isRange_23 (by decide) ?_
      cases h
      exact k_zret (v := 0) C rfl hw8 dX7_isRange_24
    · replace h := br_f' h c11
      refine lv_iload_n hx hb dX7_isRange_14 rfl (lv_at hl 0 rfl) ?_
      refine lv_iload_n hx hb dX7_isRange_15 rfl (lv_at hl 1 rfl) ?_
      refine lv_icmp_gt (tgt := 23) hx hb dX7_isRange_16 (by decide) (fun c16 => ?_) (fun c16 => ?_)
      · replace h := br_t' h c16
        refine lv_iconst (v := 0) hx hb dX7_isRange_23 (by decide) ?_
        cases h
        exact k_zret (v := 0) C rfl hw8 dX7_isRange_24
      · replace h := br_f' h c16
        refine lv_iconst (v := 1) hx hb dX7_isRange_19 (by decide) ?_
        refine lv_goto (tgt := 24) hx hb dX7_isRange_20 (by decide) ?_
        cases h
        exact k_zret (v := 1) C rfl hw8 dX7_isRange_24
def rmX0_addSeries : Room := { frames := 3, cells := 0, slots := 0, locals := 63 }
def fX0_addSeries (v_series : Rg) (x1 : Int32) (x2 : Int32) (x3 : Int32) : Option (Int32 × Rg) :=
  if x1 = (-1) then
    (fX7_isRange x2 x3).bind fun r18 =>
    if r18 = 0 then
      some ((-3), v_series)
    else
      (fX0_firstIn v_series x1).bind fun r30 =>
      if x2 < r30 then
        some ((-4), v_series)
      else
        (fX0_lastIn v_series x1).bind fun r39 =>
        if r39 < x3 then
          some ((-4), v_series)
        else
          (fX4_sheetsIn 10 v_series x1 x2 x3).bind fun r52 =>
          if r52 ≤ 0 then
            (fX4_add 10 v_series x1 x2 x3).bind fun r68 =>
            if r68.1 = 0 then
              some ((-5), r68.2)
            else
              (fX4_size 10 r68.2).bind fun r78 =>
              some ((r78 - 1), r68.2)
          else
            some ((-4), v_series)
  else
    (fX0_isSeries v_series x1).bind fun r7 =>
    if r7 = 0 then
      some ((-2), v_series)
    else
      (fX7_isRange x2 x3).bind fun r18 =>
      if r18 = 0 then
        some ((-3), v_series)
      else
        (fX0_firstIn v_series x1).bind fun r30 =>
        if x2 < r30 then
          some ((-4), v_series)
        else
          (fX0_lastIn v_series x1).bind fun r39 =>
          if r39 < x3 then
            some ((-4), v_series)
          else
            (fX4_sheetsIn 10 v_series x1 x2 x3).bind fun r52 =>
            if r52 ≤ 0 then
              (fX4_add 10 v_series x1 x2 x3).bind fun r68 =>
              if r68.1 = 0 then
                some ((-5), r68.2)
              else
                (fX4_size 10 r68.2).bind fun r78 =>
                some ((r78 - 1), r68.2)
            else
              some ((-4), v_series)
set_option maxRecDepth 100000 in
set_option maxHeartbeats 4000000 in
theorem tX0_addSeries {l : Launch} {D : va_G} {cI : ClassId} {cS : GS} {a : Nat → Nat} {a_series : Nat → Nat} {a_pieces : Nat → Nat} {a_trial : Nat → Nat} {a_moves : Nat → Nat} {g_day : Int32} {v_series : Rg} {x1 : Int32} {x2 : Int32} {x3 : Int32} {s0 : Int32} {s1 : Rg} (h : fX0_addSeries v_series x1 x2 x3 = some (s0, s1)) : CT l D cI cS yX0_addSeries cX0_addSeries 4 (some .int) rmX0_addSeries [.ref (a 0), .int x1, .int x2, .int x3] [oX0 a a_series a_pieces a_trial a_moves g_day, cR cI a_series 10 v_series] (some (.int s0)) [oX0 a a_series a_pieces a_trial a_moves g_day, cR cI a_series 10 s1] := by
  refine CT.of RX0 (by decide) rfl (Nat.le_of_ble_eq_true rfl) (fun p e s m below meth c ls A C hA hl hw => ?_)
  have hx := C.1.1
  have hb := C.1.2.1
  have hl : lv_has ls 4 [(0, .ref (a 0)), (1, .int x1), (2, .int x2), (3, .int x3)] := hl
  unfold fX0_addSeries at h
  refine lv_iload_n hx hb dX0_addSeries_0 rfl (lv_at hl 1 rfl) ?_
  refine lv_iconst (v := (-1)) hx hb dX0_addSeries_1 (by decide) ?_
  refine lv_icmp_eq (tgt := 16) hx hb dX0_addSeries_2 (by decide) (fun c2 => ?_) (fun c2 => ?_)
  · replace h := br_t' h c2
    refine lv_iload_n hx hb dX0_addSeries_16 rfl (lv_at hl 2 rfl) ?_
    refine lv_iload_n hx hb dX0_addSeries_17 rfl (lv_at hl 3 rfl) ?_
    obtain ⟨r18, q18, h⟩ := bd h
    refine k_callSN (nC := 2) [oX0 a a_series a_pieces a_trial a_moves g_day, cR cI a_series 10 v_series] C hl.1 (tX7_isRange q18) C.2.2.2.1.2.2.1.1 mmX7_isRange rfl rfl ⟨Nat.le_of_ble_eq_true rfl, Nat.le_of_ble_eq_true rfl⟩ rfl rfl (Nat.le_of_ble_eq_true rfl) hA hw [] [0, 1] rfl (by decide +kernel) rfl rfl rfl rfl dX0_addSeries_18 (fun H locs hw18 => ?_)
    refine lv_if_ne (tgt := 27) hx hb dX0_addSeries_21 (by decide) (fun c21 => ?_) (fun c21 => ?_)
    · replace h := br_f' h c21
      refine lv_iload_n hx hb dX0_addSeries_27 rfl (lv_at hl 2 rfl) ?_
      refine lv_aload_n hx hb dX0_addSeries_28 rfl (lv_at hl 0 rfl) ?_
      refine lv_iload_n hx hb dX0_addSeries_29 rfl (lv_at hl 1 rfl) ?_
      obtain ⟨r30, q30, h⟩ := bd h
      refine k_callV (nC := 2) [oX0 a a_series a_pieces a_trial a_moves g_day, cR cI a_series 10 v_series] C hl.1 (tX0_firstIn (a := a) (a_series := a_series) (a_pieces := a_pieces) (a_trial := a_trial) (a_moves := a_moves) q30) mL_X0_76 mmX0_firstIn rfl rfl ⟨Nat.le_of_ble_eq_true rfl, Nat.le_of_ble_eq_true rfl⟩ rfl rfl rfl rfl (Nat.le_of_ble_eq_true rfl) hA hw18 [0, 1] [] rfl (by decide +kernel) rfl rfl rfl rfl dX0_addSeries_30 (fun H locs hw30 => ?_)
      refine lv_icmp_lt (tgt := 58) hx hb dX0_addSeries_33 (by decide) (fun c33 => ?_) (fun c33 => ?_)
      · replace h := br_t' h c33
        refine lv_bipush (v := (-4)) hx hb dX0_addSeries_58 (by decide) ?_
        cases h
        exact k_iret C hw30 dX0_addSeries_60
      · replace h := br_f' h c33
        refine lv_iload_n hx hb dX0_addSeries_36 rfl (lv_at hl 3 rfl) ?_
        refine lv_aload_n hx hb dX0_addSeries_37 rfl (lv_at hl 0 rfl) ?_
        refine lv_iload_n hx hb dX0_addSeries_38 rfl (lv_at hl 1 rfl) ?_
        obtain ⟨r39, q39, h⟩ := bd h
        refine k_callV (nC := 2) [oX0 a a_series a_pieces a_trial a_moves g_day, cR cI a_series 10 v_series] C hl.1 (tX0_lastIn (a := a) (a_series := a_series) (a_pieces := a_pieces) (a_trial := a_trial) (a_moves := a_moves) q39) mL_X0_80 mmX0_lastIn rfl rfl ⟨Nat.le_of_ble_eq_true rfl, Nat.le_of_ble_eq_true rfl⟩ rfl rfl rfl rfl (Nat.le_of_ble_eq_true rfl) hA hw30 [0, 1] [] rfl (by decide +kernel) rfl rfl rfl rfl dX0_addSeries_39 (fun H locs hw39 => ?_)
        refine lv_icmp_gt (tgt := 58) hx hb dX0_addSeries_42 (by decide) (fun c42 => ?_) (fun c42 => ?_)
        · replace h := br_t' h c42
          refine lv_bipush (v := (-4)) hx hb dX0_addSeries_58 (by decide) ?_
          cases h
          exact k_iret C hw39 dX0_addSeries_60
        · replace h := br_f' h c42
          refine lv_aload_n hx hb dX0_addSeries_45 rfl (lv_at hl 0 rfl) ?_
          refine k_get C inT_X0 hw39 0 rfl rfl 0 (by decide) mF_X0_14 rfl dX0_addSeries_46 ?_
          refine lv_iload_n hx hb dX0_addSeries_49 rfl (lv_at hl 1 rfl) ?_
          refine lv_iload_n hx hb dX0_addSeries_50 rfl (lv_at hl 2 rfl) ?_
          refine lv_iload_n hx hb dX0_addSeries_51 rfl (lv_at hl 3 rfl) ?_
          obtain ⟨r52, q52, h⟩ := bd h
          refine k_callV (nC := 2) [oX0 a a_series a_pieces a_trial a_moves g_day, cR cI a_series 10 v_series] C hl.1 (tX4_sheetsIn (a := a_series) q52) mL_X0_83 mmX4_sheetsIn rfl rfl ⟨Nat.le_of_ble_eq_true rfl, Nat.le_of_ble_eq_true rfl⟩ rfl rfl rfl rfl (Nat.le_of_ble_eq_true rfl) hA hw39 [1] [0] rfl (by decide +kernel) rfl rfl rfl rfl dX0_addSeries_52 (fun H locs hw52 => ?_)
          refine lv_if_le (tgt := 61) hx hb dX0_addSeries_55 (by decide) (fun c55 => ?_) (fun c55 => ?_)
          · replace h := br_t' h c55
            refine lv_aload_n hx hb dX0_addSeries_61 rfl (lv_at hl 0 rfl) ?_
            refine k_get C inT_X0 hw52 0 rfl rfl 0 (by decide) mF_X0_14 rfl dX0_addSeries_62 ?_
            refine lv_iload_n hx hb dX0_addSeries_65 rfl (lv_at hl 1 rfl) ?_
            refine lv_iload_n hx hb dX0_addSeries_66 rfl (lv_at hl 2 rfl) ?_
            refine lv_iload_n hx hb dX0_addSeries_67 rfl (lv_at hl 3 rfl) ?_
            obtain ⟨r68, q68, h⟩ := bd h
            refine k_callV (nC := 2) [oX0 a a_series a_pieces a_trial a_moves g_day, cR cI a_series 10 r68.2] C hl.1 (tX4_add (a := a_series) q68) mL_X0_87 mmX4_add rfl rfl ⟨Nat.le_of_ble_eq_true rfl, Nat.le_of_ble_eq_true rfl⟩ rfl rfl rfl rfl (Nat.le_of_ble_eq_true rfl) hA hw52 [1] [0] rfl (by decide +kernel) rfl rfl rfl rfl dX0_addSeries_68 (fun H locs hw68 => ?_)
            refine lv_if_eq (tgt := 86) hx hb dX0_addSeries_71 (by decide) (fun c71 => ?_) (fun c71 => ?_)
            · replace h := br_t' h c71
              refine lv_bipush (v := (-5)) hx hb dX0_addSeries_86 (by decide) ?_
              cases h
              exact k_iret C hw68 dX0_addSeries_88
            · replace h := br_f' h c71
              refine lv_aload_n hx hb dX0_addSeries_74 rfl (lv_at hl 0 rfl) ?_
              refine k_get C inT_X0 hw68 0 rfl rfl 0 (by decide) mF_X0_14 rfl dX0_addSeries_75 ?_
              obtain ⟨r78, q78, h⟩ := bd h
              refine k_callV (nC := 2) [oX0 a a_series a_pieces a_trial a_moves g_day, cR cI a_series 10 r68.2] C hl.1 (tX4_size (a := a_series) q78) mL_X0_43 mmX4_size rfl rfl ⟨Nat.le_of_ble_eq_true rfl, Nat.le_of_ble_eq_true rfl⟩ rfl rfl rfl rfl (Nat.le_of_ble_eq_true rfl) hA hw68 [1] [0] rfl (by decide +kernel) rfl rfl rfl rfl dX0_addSeries_78 (fun H locs hw78 => ?_)
              refine lv_iconst (v := 1) hx hb dX0_addSeries_81 (by decide) ?_
              refine lv_isub hx hb dX0_addSeries_82 ?_
              refine lv_goto (tgt := 88) hx hb dX0_addSeries_83 (by decide) ?_
              cases h
              exact k_iret C hw78 dX0_addSeries_88
          · replace h := br_f' h c55
            refine lv_bipush (v := (-4)) hx hb dX0_addSeries_58 (by decide) ?_
            cases h
            exact k_iret C hw52 dX0_addSeries_60
    · replace h := br_t' h c21
      refine lv_bipush (v := (-3)) hx hb dX0_addSeries_24 (by decide) ?_
      cases h
      exact k_iret C hw18 dX0_addSeries_26
  · replace h := br_f' h c2
    refine lv_aload_n hx hb dX0_addSeries_5 rfl (lv_at hl 0 rfl) ?_
    refine lv_iload_n hx hb dX0_addSeries_6 rfl (lv_at hl 1 rfl) ?_
    obtain ⟨r7, q7, h⟩ := bd h
    refine k_callV (nC := 2) [oX0 a a_series a_pieces a_trial a_moves g_day, cR cI a_series 10 v_series] C hl.1 (tX0_isSeries (a := a) (a_series := a_series) (a_pieces := a_pieces) (a_trial := a_trial) (a_moves := a_moves) q7) mL_X0_68 mmX0_isSeries rfl rfl ⟨Nat.le_of_ble_eq_true rfl, Nat.le_of_ble_eq_true rfl⟩ rfl rfl rfl rfl (Nat.le_of_ble_eq_true rfl) hA hw [0, 1] [] rfl (by decide +kernel) rfl rfl rfl rfl dX0_addSeries_7 (fun H locs hw7 => ?_)
    refine lv_if_ne (tgt := 16) hx hb dX0_addSeries_10 (by decide) (fun c10 => ?_) (fun c10 => ?_)
    · replace h := br_f' h c10
      refine lv_iload_n hx hb dX0_addSeries_16 rfl (lv_at hl 2 rfl) ?_
      refine lv_iload_n hx hb dX0_addSeries_17 rfl (lv_at hl 3 rfl) ?_
      obtain ⟨r18, q18, h⟩ := bd h
      refine k_callSN (nC := 2) [oX0 a a_series a_pieces a_trial a_moves g_day, cR cI a_series 10 v_series] C hl.1 (tX7_isRange q18) C.2.2.2.1.2.2.1.1 mmX7_isRange rfl rfl ⟨Nat.le_of_ble_eq_true rfl, Nat.le_of_ble_eq_true rfl⟩ rfl rfl (Nat.le_of_ble_eq_true rfl) hA hw7 [] [0, 1] rfl (by decide +kernel) rfl rfl rfl rfl dX0_addSeries_18 (fun H locs hw18 => ?_)
      refine lv_if_ne (tgt := 27) hx hb dX0_addSeries_21 (by decide) (fun c21 => ?_) (fun c21 => ?_)
      · replace h := br_f' h c21
        refine lv_iload_n hx hb dX0_addSeries_27 rfl (lv_at hl 2 rfl) ?_
        refine lv_aload_n hx hb dX0_addSeries_28 rfl (lv_at hl 0 rfl) ?_
        refine lv_iload_n hx hb dX0_addSeries_29 rfl (lv_at hl 1 rfl) ?_
        obtain ⟨r30, q30, h⟩ := bd h
        refine k_callV (nC := 2) [oX0 a a_series a_pieces a_trial a_moves g_day, cR cI a_series 10 v_series] C hl.1 (tX0_firstIn (a := a) (a_series := a_series) (a_pieces := a_pieces) (a_trial := a_trial) (a_moves := a_moves) q30) mL_X0_76 mmX0_firstIn rfl rfl ⟨Nat.le_of_ble_eq_true rfl, Nat.le_of_ble_eq_true rfl⟩ rfl rfl rfl rfl (Nat.le_of_ble_eq_true rfl) hA hw18 [0, 1] [] rfl (by decide +kernel) rfl rfl rfl rfl dX0_addSeries_30 (fun H locs hw30 => ?_)
        refine lv_icmp_lt (tgt := 58) hx hb dX0_addSeries_33 (by decide) (fun c33 => ?_) (fun c33 => ?_)
        · replace h := br_t' h c33
          refine lv_bipush (v := (-4)) hx hb dX0_addSeries_58 (by decide) ?_
          cases h
          exact k_iret C hw30 dX0_addSeries_60
        · replace h := br_f' h c33
          refine lv_iload_n hx hb dX0_addSeries_36 rfl (lv_at hl 3 rfl) ?_
          refine lv_aload_n hx hb dX0_addSeries_37 rfl (lv_at hl 0 rfl) ?_
          refine lv_iload_n hx hb dX0_addSeries_38 rfl (lv_at hl 1 rfl) ?_
          obtain ⟨r39, q39, h⟩ := bd h
          refine k_callV (nC := 2) [oX0 a a_series a_pieces a_trial a_moves g_day, cR cI a_series 10 v_series] C hl.1 (tX0_lastIn (a := a) (a_series := a_series) (a_pieces := a_pieces) (a_trial := a_trial) (a_moves := a_moves) q39) mL_X0_80 mmX0_lastIn rfl rfl ⟨Nat.le_of_ble_eq_true rfl, Nat.le_of_ble_eq_true rfl⟩ rfl rfl rfl rfl (Nat.le_of_ble_eq_true rfl) hA hw30 [0, 1] [] rfl (by decide +kernel) rfl rfl rfl rfl dX0_addSeries_39 (fun H locs hw39 => ?_)
          refine lv_icmp_gt (tgt := 58) hx hb dX0_addSeries_42 (by decide) (fun c42 => ?_) (fun c42 => ?_)
          · replace h := br_t' h c42
            refine lv_bipush (v := (-4)) hx hb dX0_addSeries_58 (by decide) ?_
            cases h
            exact k_iret C hw39 dX0_addSeries_60
          · replace h := br_f' h c42
            refine lv_aload_n hx hb dX0_addSeries_45 rfl (lv_at hl 0 rfl) ?_
            refine k_get C inT_X0 hw39 0 rfl rfl 0 (by decide) mF_X0_14 rfl dX0_addSeries_46 ?_
            refine lv_iload_n hx hb dX0_addSeries_49 rfl (lv_at hl 1 rfl) ?_
            refine lv_iload_n hx hb dX0_addSeries_50 rfl (lv_at hl 2 rfl) ?_
            refine lv_iload_n hx hb dX0_addSeries_51 rfl (lv_at hl 3 rfl) ?_
            obtain ⟨r52, q52, h⟩ := bd h
            refine k_callV (nC := 2) [oX0 a a_series a_pieces a_trial a_moves g_day, cR cI a_series 10 v_series] C hl.1 (tX4_sheetsIn (a := a_series) q52) mL_X0_83 mmX4_sheetsIn rfl rfl ⟨Nat.le_of_ble_eq_true rfl, Nat.le_of_ble_eq_true rfl⟩ rfl rfl rfl rfl (Nat.le_of_ble_eq_true rfl) hA hw39 [1] [0] rfl (by decide +kernel) rfl rfl rfl rfl dX0_addSeries_52 (fun H locs hw52 => ?_)
            refine lv_if_le (tgt := 61) hx hb dX0_addSeries_55 (by decide) (fun c55 => ?_) (fun c55 => ?_)
            · replace h := br_t' h c55
              refine lv_aload_n hx hb dX0_addSeries_61 rfl (lv_at hl 0 rfl) ?_
              refine k_get C inT_X0 hw52 0 rfl rfl 0 (by decide) mF_X0_14 rfl dX0_addSeries_62 ?_
              refine lv_iload_n hx hb dX0_addSeries_65 rfl (lv_at hl 1 rfl) ?_
              refine lv_iload_n hx hb dX0_addSeries_66 rfl (lv_at hl 2 rfl) ?_
              refine lv_iload_n hx hb dX0_addSeries_67 rfl (lv_at hl 3 rfl) ?_
              obtain ⟨r68, q68, h⟩ := bd h
              refine k_callV (nC := 2) [oX0 a a_series a_pieces a_trial a_moves g_day, cR cI a_series 10 r68.2] C hl.1 (tX4_add (a := a_series) q68) mL_X0_87 mmX4_add rfl rfl ⟨Nat.le_of_ble_eq_true rfl, Nat.le_of_ble_eq_true rfl⟩ rfl rfl rfl rfl (Nat.le_of_ble_eq_true rfl) hA hw52 [1] [0] rfl (by decide +kernel) rfl rfl rfl rfl dX0_addSeries_68 (fun H locs hw68 => ?_)
              refine lv_if_eq (tgt := 86) hx hb dX0_addSeries_71 (by decide) (fun c71 => ?_) (fun c71 => ?_)
              · replace h := br_t' h c71
                refine lv_bipush (v := (-5)) hx hb dX0_addSeries_86 (by decide) ?_
                cases h
                exact k_iret C hw68 dX0_addSeries_88
              · replace h := br_f' h c71
                refine lv_aload_n hx hb dX0_addSeries_74 rfl (lv_at hl 0 rfl) ?_
                refine k_get C inT_X0 hw68 0 rfl rfl 0 (by decide) mF_X0_14 rfl dX0_addSeries_75 ?_
                obtain ⟨r78, q78, h⟩ := bd h
                refine k_callV (nC := 2) [oX0 a a_series a_pieces a_trial a_moves g_day, cR cI a_series 10 r68.2] C hl.1 (tX4_size (a := a_series) q78) mL_X0_43 mmX4_size rfl rfl ⟨Nat.le_of_ble_eq_true rfl, Nat.le_of_ble_eq_true rfl⟩ rfl rfl rfl rfl (Nat.le_of_ble_eq_true rfl) hA hw68 [1] [0] rfl (by decide +kernel) rfl rfl rfl rfl dX0_addSeries_78 (fun H locs hw78 => ?_)
                refine lv_iconst (v := 1) hx hb dX0_addSeries_81 (by decide) ?_
                refine lv_isub hx hb dX0_addSeries_82 ?_
                refine lv_goto (tgt := 88) hx hb dX0_addSeries_83 (by decide) ?_
                cases h
                exact k_iret C hw78 dX0_addSeries_88
            · replace h := br_f' h c55
              refine lv_bipush (v := (-4)) hx hb dX0_addSeries_58 (by decide) ?_
              cases h
              exact k_iret C hw52 dX0_addSeries_60
      · replace h := br_t' h c21
        refine lv_bipush (v := (-3)) hx hb dX0_addSeries_24 (by decide) ?_
        cases h
        exact k_iret C hw18 dX0_addSeries_26
    · replace h := br_t' h c10
      refine lv_bipush (v := (-2)) hx hb dX0_addSeries_13 (by decide) ?_
      cases h
      exact k_iret C hw7 dX0_addSeries_15
def rmX0_loadOf : Room := { frames := 2, cells := 0, slots := 0, locals := 51 }
def fX0_loadOf (v_pieces : Rg) (x1 : Int32) : Option (Int32) :=
  (fX4_sheetsIn 42 v_pieces x1 1 2000000000).bind fun r8 =>
  some r8
set_option maxRecDepth 100000 in
set_option maxHeartbeats 4000000 in
theorem tX0_loadOf {l : Launch} {D : va_G} {cI : ClassId} {cS : GS} {a : Nat → Nat} {a_series : Nat → Nat} {a_pieces : Nat → Nat} {a_trial : Nat → Nat} {a_moves : Nat → Nat} {g_day : Int32} {v_pieces : Rg} {x1 : Int32} {s0 : Int32} (h : fX0_loadOf v_pieces x1 = some s0) : CT l D cI cS yX0_loadOf cX0_loadOf 2 (some .int) rmX0_loadOf [.ref (a 0), .int x1] [oX0 a a_series a_pieces a_trial a_moves g_day, cR cI a_pieces 42 v_pieces] (some (.int s0)) [oX0 a a_series a_pieces a_trial a_moves g_day, cR cI a_pieces 42 v_pieces] := by
  refine CT.of RX0 (by decide) rfl (Nat.le_of_ble_eq_true rfl) (fun p e s m below meth c ls A C hA hl hw => ?_)
  have hx := C.1.1
  have hb := C.1.2.1
  have hl : lv_has ls 2 [(0, .ref (a 0)), (1, .int x1)] := hl
  unfold fX0_loadOf at h
  refine lv_aload_n hx hb dX0_loadOf_0 rfl (lv_at hl 0 rfl) ?_
  refine k_get C inT_X0 hw 0 rfl rfl 2 (by decide) mF_X0_24 rfl dX0_loadOf_1 ?_
  refine lv_iload_n hx hb dX0_loadOf_4 rfl (lv_at hl 1 rfl) ?_
  refine lv_iconst (v := 1) hx hb dX0_loadOf_5 (by decide) ?_
  refine k_ldc C mC_X0_94 dX0_loadOf_6 ?_
  obtain ⟨r8, q8, h⟩ := bd h
  refine k_callV (nC := 2) [oX0 a a_series a_pieces a_trial a_moves g_day, cR cI a_pieces 42 v_pieces] C hl.1 (tX4_sheetsIn (a := a_pieces) q8) mL_X0_83 mmX4_sheetsIn rfl rfl ⟨Nat.le_of_ble_eq_true rfl, Nat.le_of_ble_eq_true rfl⟩ rfl rfl rfl rfl (Nat.le_of_ble_eq_true rfl) hA hw [1] [0] rfl (by decide +kernel) rfl rfl rfl rfl dX0_loadOf_8 (fun H locs hw8 => ?_)
  cases h
  exact k_iret C hw8 dX0_loadOf_11
def rmX7_isBox : Room := { frames := 0, cells := 0, slots := 0, locals := 0 }
def fX7_isBox (x0 : Int32) : Option (Int32) :=
  if x0 < 0 then
    some 0
  else
    if 8 ≤ x0 then
      some 0
    else
      some 1
set_option maxRecDepth 100000 in
set_option maxHeartbeats 4000000 in
theorem tX7_isBox {l : Launch} {D : va_G} {cI : ClassId} {cS : GS}  {x0 : Int32} {s0 : Int32} (h : fX7_isBox x0 = some s0) : CT l D cI cS yX7_isBox cX7_isBox 1 (some .boolean) rmX7_isBox [.int x0] [] (some (.int s0)) [] := by
  refine CT.of RX7 (by decide) rfl (Nat.le_of_ble_eq_true rfl) (fun p e s m below meth c ls A C hA hl hw => ?_)
  have hx := C.1.1
  have hb := C.1.2.1
  have hl : lv_has ls 1 [(0, .int x0)] := hl
  unfold fX7_isBox at h
  refine lv_iload_n hx hb dX7_isBox_0 rfl (lv_at hl 0 rfl) ?_
  refine lv_if_lt (tgt := 14) hx hb dX7_isBox_1 (by decide) (fun c1 => ?_) (fun c1 => ?_)
  · replace h := br_t' h c1
    refine lv_iconst (v := 0) hx hb dX7_isBox_14 (by decide) ?_
    cases h
    exact k_zret (v := 0) C rfl hw dX7_isBox_15
  · replace h := br_f' h c1
    refine lv_iload_n hx hb dX7_isBox_4 rfl (lv_at hl 0 rfl) ?_
    refine lv_bipush (v := 8) hx hb dX7_isBox_5 (by decide) ?_
    refine lv_icmp_ge (tgt := 14) hx hb dX7_isBox_7 (by decide) (fun c7 => ?_) (fun c7 => ?_)
    · replace h := br_t' h c7
      refine lv_iconst (v := 0) hx hb dX7_isBox_14 (by decide) ?_
      cases h
      exact k_zret (v := 0) C rfl hw dX7_isBox_15
    · replace h := br_f' h c7
      refine lv_iconst (v := 1) hx hb dX7_isBox_10 (by decide) ?_
      refine lv_goto (tgt := 15) hx hb dX7_isBox_11 (by decide) ?_
      cases h
      exact k_zret (v := 1) C rfl hw dX7_isBox_15
def rmX0_setRoom : Room := { frames := 3, cells := 0, slots := 0, locals := 72 }
def fX0_setRoom (g_rooms : Nat → Int32) (v_pieces : Rg) (x1 : Int32) (x2 : Int32) : Option (Int32 × (Nat → Int32)) :=
  (fX7_isBox x1).bind fun r1 =>
  if r1 = 0 then
    some ((-2), g_rooms)
  else
    if x2 < 0 then
      some ((-3), g_rooms)
    else
      if x2 ≤ 2000000000 then
        (fX0_loadOf v_pieces x1).bind fun r25 =>
        if r25 ≤ x2 then
          (ld 8 g_rooms x1).bind fun y40 =>
          (sv 8 g_rooms x1 x2).bind fun g48 =>
          some (y40, g48)
        else
          some ((-4), g_rooms)
      else
        some ((-3), g_rooms)
set_option maxRecDepth 100000 in
set_option maxHeartbeats 4000000 in
theorem tX0_setRoom {l : Launch} {D : va_G} {cI : ClassId} {cS : GS} {a : Nat → Nat} {a_series : Nat → Nat} {a_pieces : Nat → Nat} {a_trial : Nat → Nat} {a_moves : Nat → Nat} {g_rooms : Nat → Int32} {g_day : Int32} {v_pieces : Rg} {x1 : Int32} {x2 : Int32} {s0 : Int32} {s1 : (Nat → Int32)} (h : fX0_setRoom g_rooms v_pieces x1 x2 = some (s0, s1)) : CT l D cI cS yX0_setRoom cX0_setRoom 4 (some .int) rmX0_setRoom [.ref (a 0), .int x1, .int x2] [oX0 a a_series a_pieces a_trial a_moves g_day, ar cI (a 2) 8 g_rooms, cR cI a_pieces 42 v_pieces] (some (.int s0)) [oX0 a a_series a_pieces a_trial a_moves g_day, ar cI (a 2) 8 s1, cR cI a_pieces 42 v_pieces] := by
  refine CT.of RX0 (by decide) rfl (Nat.le_of_ble_eq_true rfl) (fun p e s m below meth c ls A C hA hl hw => ?_)
  have hx := C.1.1
  have hb := C.1.2.1
  have hl : lv_has ls 4 [(0, .ref (a 0)), (1, .int x1), (2, .int x2)] := hl
  unfold fX0_setRoom at h
  refine lv_iload_n hx hb dX0_setRoom_0 rfl (lv_at hl 1 rfl) ?_
  obtain ⟨r1, q1, h⟩ := bd h
  refine k_callSN (nC := 3) [oX0 a a_series a_pieces a_trial a_moves g_day, ar cI (a 2) 8 g_rooms, cR cI a_pieces 42 v_pieces] C hl.1 (tX7_isBox q1) C.2.2.2.1.2.2.1.2.1 mmX7_isBox rfl rfl ⟨Nat.le_of_ble_eq_true rfl, Nat.le_of_ble_eq_true rfl⟩ rfl rfl (Nat.le_of_ble_eq_true rfl) hA hw [] [0, 1, 2] rfl (by decide +kernel) rfl rfl rfl rfl dX0_setRoom_1 (fun H locs hw1 => ?_)
  refine lv_if_ne (tgt := 10) hx hb dX0_setRoom_4 (by decide) (fun c4 => ?_) (fun c4 => ?_)
  · replace h := br_f' h c4
    refine lv_iload_n hx hb dX0_setRoom_10 rfl (lv_at hl 2 rfl) ?_
    refine lv_if_lt (tgt := 20) hx hb dX0_setRoom_11 (by decide) (fun c11 => ?_) (fun c11 => ?_)
    · replace h := br_t' h c11
      refine lv_bipush (v := (-3)) hx hb dX0_setRoom_20 (by decide) ?_
      cases h
      exact k_iret C hw1 dX0_setRoom_22
    · replace h := br_f' h c11
      refine lv_iload_n hx hb dX0_setRoom_14 rfl (lv_at hl 2 rfl) ?_
      refine k_ldc C mC_X0_94 dX0_setRoom_15 ?_
      refine lv_icmp_le (tgt := 23) hx hb dX0_setRoom_17 (by decide) (fun c17 => ?_) (fun c17 => ?_)
      · replace h := br_t' h c17
        refine lv_aload_n hx hb dX0_setRoom_23 rfl (lv_at hl 0 rfl) ?_
        refine lv_iload_n hx hb dX0_setRoom_24 rfl (lv_at hl 1 rfl) ?_
        obtain ⟨r25, q25, h⟩ := bd h
        refine k_callV (nC := 3) [oX0 a a_series a_pieces a_trial a_moves g_day, ar cI (a 2) 8 g_rooms, cR cI a_pieces 42 v_pieces] C hl.1 (tX0_loadOf (a := a) (a_series := a_series) (a_pieces := a_pieces) (a_trial := a_trial) (a_moves := a_moves) q25) mL_X0_95 mmX0_loadOf rfl rfl ⟨Nat.le_of_ble_eq_true rfl, Nat.le_of_ble_eq_true rfl⟩ rfl rfl rfl rfl (Nat.le_of_ble_eq_true rfl) hA hw1 [0, 2] [1] rfl (by decide +kernel) rfl rfl rfl rfl dX0_setRoom_25 (fun H locs hw25 => ?_)
        refine lv_iload_n hx hb dX0_setRoom_28 rfl (lv_at hl 2 rfl) ?_
        refine lv_icmp_le (tgt := 35) hx hb dX0_setRoom_29 (by decide) (fun c29 => ?_) (fun c29 => ?_)
        · replace h := br_t' h c29
          refine lv_aload_n hx hb dX0_setRoom_35 rfl (lv_at hl 0 rfl) ?_
          refine k_get C inT_X0 hw25 0 rfl rfl 1 (by decide) mF_X0_20 rfl dX0_setRoom_36 ?_
          refine lv_iload_n hx hb dX0_setRoom_39 rfl (lv_at hl 1 rfl) ?_
          obtain ⟨y40, q40, h⟩ := bd h
          refine k_iald C hw25 1 rfl q40 dX0_setRoom_40 ?_
          refine lv_istore_n (lv' := [(3, .int y40), (0, .ref (a 0)), (1, .int x1), (2, .int x2)]) hx hb dX0_setRoom_41 rfl hl (by decide) rfl (fun ls hl => ?_)
          refine lv_aload_n hx hb dX0_setRoom_42 rfl (lv_at hl 1 rfl) ?_
          refine k_get C inT_X0 hw25 0 rfl rfl 1 (by decide) mF_X0_20 rfl dX0_setRoom_43 ?_
          refine lv_iload_n hx hb dX0_setRoom_46 rfl (lv_at hl 2 rfl) ?_
          refine lv_iload_n hx hb dX0_setRoom_47 rfl (lv_at hl 3 rfl) ?_
          obtain ⟨g48, q48, h⟩ := bd h
          refine k_iast C hw25 1 rfl q48 [oX0 a a_series a_pieces a_trial a_moves g_day, ar cI (a 2) 8 g48, cR cI a_pieces 42 v_pieces] rfl dX0_setRoom_48 (fun H locs hw48 => ?_)
          refine lv_iload_n hx hb dX0_setRoom_49 rfl (lv_at hl 0 rfl) ?_
          cases h
          exact k_iret C hw48 dX0_setRoom_50
        · replace h := br_f' h c29
          refine lv_bipush (v := (-4)) hx hb dX0_setRoom_32 (by decide) ?_
          cases h
          exact k_iret C hw25 dX0_setRoom_34
      · replace h := br_f' h c17
        refine lv_bipush (v := (-3)) hx hb dX0_setRoom_20 (by decide) ?_
        cases h
        exact k_iret C hw1 dX0_setRoom_22
  · replace h := br_t' h c4
    refine lv_bipush (v := (-2)) hx hb dX0_setRoom_7 (by decide) ?_
    cases h
    exact k_iret C hw1 dX0_setRoom_9
def rmX0_enter : Room := { frames := 1, cells := 0, slots := 0, locals := 23 }
def fX0_enter (g_moveDays : Nat → Int32) (g_day : Int32) (v_moves : Rg) (x1 : Int32) (x2 : Int32) (x3 : Int32) : Option ((Nat → Int32) × Rg) :=
  (fX4_size 100 v_moves).bind fun r4 =>
  if 100 ≤ r4 then
    some (g_moveDays, v_moves)
  else
    (sv 100 g_moveDays r4 g_day).bind fun g26 =>
    (fX4_add 100 v_moves x1 x2 x3).bind fun r34 =>
    some (g26, r34.2)
set_option maxRecDepth 100000 in
set_option maxHeartbeats 4000000 in
theorem tX0_enter {l : Launch} {D : va_G} {cI : ClassId} {cS : GS} {a : Nat → Nat} {a_series : Nat → Nat} {a_pieces : Nat → Nat} {a_trial : Nat → Nat} {a_moves : Nat → Nat} {g_moveDays : Nat → Int32} {g_day : Int32} {v_moves : Rg} {x1 : Int32} {x2 : Int32} {x3 : Int32} {s0 : (Nat → Int32)} {s1 : Rg} (h : fX0_enter g_moveDays g_day v_moves x1 x2 x3 = some (s0, s1)) : CT l D cI cS yX0_enter cX0_enter 5 none rmX0_enter [.ref (a 0), .int x1, .int x2, .int x3] [oX0 a a_series a_pieces a_trial a_moves g_day, ar cI (a 6) 100 g_moveDays, cR cI a_moves 100 v_moves] none [oX0 a a_series a_pieces a_trial a_moves g_day, ar cI (a 6) 100 s0, cR cI a_moves 100 s1] := by
  refine CT.of RX0 (by decide) rfl (Nat.le_of_ble_eq_true rfl) (fun p e s m below meth c ls A C hA hl hw => ?_)
  have hx := C.1.1
  have hb := C.1.2.1
  have hl : lv_has ls 5 [(0, .ref (a 0)), (1, .int x1), (2, .int x2), (3, .int x3)] := hl
  unfold fX0_enter at h
  refine lv_aload_n hx hb dX0_enter_0 rfl (lv_at hl 0 rfl) ?_
  refine k_get C inT_X0 hw 0 rfl rfl 4 (by decide) mF_X0_30 rfl dX0_enter_1 ?_
  obtain ⟨r4, q4, h⟩ := bd h
  refine k_callV (nC := 3) [oX0 a a_series a_pieces a_trial a_moves g_day, ar cI (a 6) 100 g_moveDays, cR cI a_moves 100 v_moves] C hl.1 (tX4_size (a := a_moves) q4) mL_X0_43 mmX4_size rfl rfl ⟨Nat.le_of_ble_eq_true rfl, Nat.le_of_ble_eq_true rfl⟩ rfl rfl rfl rfl (Nat.le_of_ble_eq_true rfl) hA hw [2] [0, 1] rfl (by decide +kernel) rfl rfl rfl rfl dX0_enter_4 (fun H locs hw4 => ?_)
  refine lv_istore (lv' := [(4, .int r4), (0, .ref (a 0)), (1, .int x1), (2, .int x2), (3, .int x3)]) hx hb dX0_enter_7 hl (by decide) rfl (fun ls hl => ?_)
  refine lv_iload hx hb dX0_enter_9 (lv_at hl 0 rfl) ?_
  refine lv_bipush (v := 100) hx hb dX0_enter_11 (by decide) ?_
  refine lv_icmp_ge (tgt := 38) hx hb dX0_enter_13 (by decide) (fun c13 => ?_) (fun c13 => ?_)
  · replace h := br_t' h c13
    cases h
    exact k_vret C hw4 dX0_enter_38
  · replace h := br_f' h c13
    refine lv_aload_n hx hb dX0_enter_16 rfl (lv_at hl 1 rfl) ?_
    refine k_get C inT_X0 hw4 0 rfl rfl 5 (by decide) mF_X0_33 rfl dX0_enter_17 ?_
    refine lv_iload hx hb dX0_enter_20 (lv_at hl 0 rfl) ?_
    refine lv_aload_n hx hb dX0_enter_22 rfl (lv_at hl 1 rfl) ?_
    refine k_get C inT_X0 hw4 0 rfl rfl 6 (by decide) mF_X0_36 rfl dX0_enter_23 ?_
    obtain ⟨g26, q26, h⟩ := bd h
    refine k_iast C hw4 1 rfl q26 [oX0 a a_series a_pieces a_trial a_moves g_day, ar cI (a 6) 100 g26, cR cI a_moves 100 v_moves] rfl dX0_enter_26 (fun H locs hw26 => ?_)
    refine lv_aload_n hx hb dX0_enter_27 rfl (lv_at hl 1 rfl) ?_
    refine k_get C inT_X0 hw26 0 rfl rfl 4 (by decide) mF_X0_30 rfl dX0_enter_28 ?_
    refine lv_iload_n hx hb dX0_enter_31 rfl (lv_at hl 2 rfl) ?_
    refine lv_iload_n hx hb dX0_enter_32 rfl (lv_at hl 3 rfl) ?_
    refine lv_iload_n hx hb dX0_enter_33 rfl (lv_at hl 4 rfl) ?_
    obtain ⟨r34, q34, h⟩ := bd h
    refine k_callV (nC := 3) [oX0 a a_series a_pieces a_trial a_moves g_day, ar cI (a 6) 100 g26, cR cI a_moves 100 r34.2] C hl.1 (tX4_add (a := a_moves) q34) mL_X0_87 mmX4_add rfl rfl ⟨Nat.le_of_ble_eq_true rfl, Nat.le_of_ble_eq_true rfl⟩ rfl rfl rfl rfl (Nat.le_of_ble_eq_true rfl) hA hw26 [2] [0, 1] rfl (by decide +kernel) rfl rfl rfl rfl dX0_enter_34 (fun H locs hw34 => ?_)
    refine lv_pop hx hb dX0_enter_37 rfl ?_
    cases h
    exact k_vret C hw34 dX0_enter_38
def rmX0_bring : Room := { frames := 3, cells := 0, slots := 0, locals := 72 }
def fX0_bring (g_moveDays : Nat → Int32) (g_day : Int32) (v_pieces : Rg) (v_trial : Rg) (v_moves : Rg) (x1 : Int32) (x2 : Int32) (x3 : Int32) : Option (Int32 × (Nat → Int32) × Rg × Rg × Rg) :=
  (fX4_size 100 v_moves).bind fun r4 =>
  if r4 < 100 then
    (fX4_becomeWith 42 42 v_trial v_pieces x1 x2 x3).bind fun r25 =>
    (fX4_size 42 r25).bind fun r32 =>
    if r32 ≤ 40 then
      (fX4_copyFrom 42 42 v_pieces r25).bind fun r50 =>
      (fX0_enter g_moveDays g_day v_moves x1 x2 x3).bind fun r57 =>
      some (1, r57.1, r50, r25, r57.2)
    else
      some (0, g_moveDays, v_pieces, r25, v_moves)
  else
    some (0, g_moveDays, v_pieces, v_trial, v_moves)
set_option maxRecDepth 100000 in
set_option maxHeartbeats 4000000 in
theorem tX0_bring {l : Launch} {D : va_G} {cI : ClassId} {cS : GS} {a : Nat → Nat} {a_series : Nat → Nat} {a_pieces : Nat → Nat} {a_trial : Nat → Nat} {a_moves : Nat → Nat} {g_moveDays : Nat → Int32} {g_day : Int32} {v_pieces : Rg} {v_trial : Rg} {v_moves : Rg} {x1 : Int32} {x2 : Int32} {x3 : Int32} {s0 : Int32} {s1 : (Nat → Int32)} {s2 : Rg} {s3 : Rg} {s4 : Rg} (h : fX0_bring g_moveDays g_day v_pieces v_trial v_moves x1 x2 x3 = some (s0, s1, s2, s3, s4)) : CT l D cI cS yX0_bring cX0_bring 4 (some .boolean) rmX0_bring [.ref (a 0), .int x1, .int x2, .int x3] [oX0 a a_series a_pieces a_trial a_moves g_day, ar cI (a 6) 100 g_moveDays, cR cI a_pieces 42 v_pieces, cR cI a_trial 42 v_trial, cR cI a_moves 100 v_moves] (some (.int s0)) [oX0 a a_series a_pieces a_trial a_moves g_day, ar cI (a 6) 100 s1, cR cI a_pieces 42 s2, cR cI a_trial 42 s3, cR cI a_moves 100 s4] := by
  refine CT.of RX0 (by decide) rfl (Nat.le_of_ble_eq_true rfl) (fun p e s m below meth c ls A C hA hl hw => ?_)
  have hx := C.1.1
  have hb := C.1.2.1
  have hl : lv_has ls 4 [(0, .ref (a 0)), (1, .int x1), (2, .int x2), (3, .int x3)] := hl
  unfold fX0_bring at h
  refine lv_aload_n hx hb dX0_bring_0 rfl (lv_at hl 0 rfl) ?_
  refine k_get C inT_X0 hw 0 rfl rfl 4 (by decide) mF_X0_30 rfl dX0_bring_1 ?_
  obtain ⟨r4, q4, h⟩ := bd h
  refine k_callV (nC := 5) [oX0 a a_series a_pieces a_trial a_moves g_day, ar cI (a 6) 100 g_moveDays, cR cI a_pieces 42 v_pieces, cR cI a_trial 42 v_trial, cR cI a_moves 100 v_moves] C hl.1 (tX4_size (a := a_moves) q4) mL_X0_43 mmX4_size rfl rfl ⟨Nat.le_of_ble_eq_true rfl, Nat.le_of_ble_eq_true rfl⟩ rfl rfl rfl rfl (Nat.le_of_ble_eq_true rfl) hA hw [4] [0, 1, 2, 3] rfl (by decide +kernel) rfl rfl rfl rfl dX0_bring_4 (fun H locs hw4 => ?_)
  refine lv_bipush (v := 100) hx hb dX0_bring_7 (by decide) ?_
  refine lv_icmp_lt (tgt := 14) hx hb dX0_bring_9 (by decide) (fun c9 => ?_) (fun c9 => ?_)
  · replace h := br_t' h c9
    refine lv_aload_n hx hb dX0_bring_14 rfl (lv_at hl 0 rfl) ?_
    refine k_get C inT_X0 hw4 0 rfl rfl 3 (by decide) mF_X0_27 rfl dX0_bring_15 ?_
    refine lv_aload_n hx hb dX0_bring_18 rfl (lv_at hl 0 rfl) ?_
    refine k_get C inT_X0 hw4 0 rfl rfl 2 (by decide) mF_X0_24 rfl dX0_bring_19 ?_
    refine lv_iload_n hx hb dX0_bring_22 rfl (lv_at hl 1 rfl) ?_
    refine lv_iload_n hx hb dX0_bring_23 rfl (lv_at hl 2 rfl) ?_
    refine lv_iload_n hx hb dX0_bring_24 rfl (lv_at hl 3 rfl) ?_
    obtain ⟨r25, q25, h⟩ := bd h
    refine k_callV (nC := 5) [oX0 a a_series a_pieces a_trial a_moves g_day, ar cI (a 6) 100 g_moveDays, cR cI a_pieces 42 v_pieces, cR cI a_trial 42 r25, cR cI a_moves 100 v_moves] C hl.1 (tX4_becomeWith (a := a_trial) (a_p1 := a_pieces) q25) mL_X0_104 mmX4_becomeWith rfl rfl ⟨Nat.le_of_ble_eq_true rfl, Nat.le_of_ble_eq_true rfl⟩ rfl rfl rfl rfl (Nat.le_of_ble_eq_true rfl) hA hw4 [3, 2] [0, 1, 4] rfl (by decide +kernel) rfl rfl rfl rfl dX0_bring_25 (fun H locs hw25 => ?_)
    refine lv_aload_n hx hb dX0_bring_28 rfl (lv_at hl 0 rfl) ?_
    refine k_get C inT_X0 hw25 0 rfl rfl 3 (by decide) mF_X0_27 rfl dX0_bring_29 ?_
    obtain ⟨r32, q32, h⟩ := bd h
    refine k_callV (nC := 5) [oX0 a a_series a_pieces a_trial a_moves g_day, ar cI (a 6) 100 g_moveDays, cR cI a_pieces 42 v_pieces, cR cI a_trial 42 r25, cR cI a_moves 100 v_moves] C hl.1 (tX4_size (a := a_trial) q32) mL_X0_43 mmX4_size rfl rfl ⟨Nat.le_of_ble_eq_true rfl, Nat.le_of_ble_eq_true rfl⟩ rfl rfl rfl rfl (Nat.le_of_ble_eq_true rfl) hA hw25 [3] [0, 1, 2, 4] rfl (by decide +kernel) rfl rfl rfl rfl dX0_bring_32 (fun H locs hw32 => ?_)
    refine lv_bipush (v := 40) hx hb dX0_bring_35 (by decide) ?_
    refine lv_icmp_le (tgt := 42) hx hb dX0_bring_37 (by decide) (fun c37 => ?_) (fun c37 => ?_)
    · replace h := br_t' h c37
      refine lv_aload_n hx hb dX0_bring_42 rfl (lv_at hl 0 rfl) ?_
      refine k_get C inT_X0 hw32 0 rfl rfl 2 (by decide) mF_X0_24 rfl dX0_bring_43 ?_
      refine lv_aload_n hx hb dX0_bring_46 rfl (lv_at hl 0 rfl) ?_
      refine k_get C inT_X0 hw32 0 rfl rfl 3 (by decide) mF_X0_27 rfl dX0_bring_47 ?_
      obtain ⟨r50, q50, h⟩ := bd h
      refine k_callV (nC := 5) [oX0 a a_series a_pieces a_trial a_moves g_day, ar cI (a 6) 100 g_moveDays, cR cI a_pieces 42 r50, cR cI a_trial 42 r25, cR cI a_moves 100 v_moves] C hl.1 (tX4_copyFrom (a := a_pieces) (a_p1 := a_trial) q50) mL_X0_57 mmX4_copyFrom rfl rfl ⟨Nat.le_of_ble_eq_true rfl, Nat.le_of_ble_eq_true rfl⟩ rfl rfl rfl rfl (Nat.le_of_ble_eq_true rfl) hA hw32 [2, 3] [0, 1, 4] rfl (by decide +kernel) rfl rfl rfl rfl dX0_bring_50 (fun H locs hw50 => ?_)
      refine lv_aload_n hx hb dX0_bring_53 rfl (lv_at hl 0 rfl) ?_
      refine lv_iload_n hx hb dX0_bring_54 rfl (lv_at hl 1 rfl) ?_
      refine lv_iload_n hx hb dX0_bring_55 rfl (lv_at hl 2 rfl) ?_
      refine lv_iload_n hx hb dX0_bring_56 rfl (lv_at hl 3 rfl) ?_
      obtain ⟨r57, q57, h⟩ := bd h
      refine k_callV (nC := 5) [oX0 a a_series a_pieces a_trial a_moves g_day, ar cI (a 6) 100 r57.1, cR cI a_pieces 42 r50, cR cI a_trial 42 r25, cR cI a_moves 100 r57.2] C hl.1 (tX0_enter (a := a) (a_series := a_series) (a_pieces := a_pieces) (a_trial := a_trial) (a_moves := a_moves) q57) mL_X0_108 mmX0_enter rfl rfl ⟨Nat.le_of_ble_eq_true rfl, Nat.le_of_ble_eq_true rfl⟩ rfl rfl rfl rfl (Nat.le_of_ble_eq_true rfl) hA hw50 [0, 1, 4] [2, 3] rfl (by decide +kernel) rfl rfl rfl rfl dX0_bring_57 (fun H locs hw57 => ?_)
      refine lv_iconst (v := 1) hx hb dX0_bring_60 (by decide) ?_
      cases h
      exact k_zret (v := 1) C rfl hw57 dX0_bring_61
    · replace h := br_f' h c37
      refine lv_iconst (v := 0) hx hb dX0_bring_40 (by decide) ?_
      cases h
      exact k_zret (v := 0) C rfl hw32 dX0_bring_41
  · replace h := br_f' h c9
    refine lv_iconst (v := 0) hx hb dX0_bring_12 (by decide) ?_
    cases h
    exact k_zret (v := 0) C rfl hw4 dX0_bring_13
def rmX0_roomOf : Room := { frames := 1, cells := 0, slots := 0, locals := 20 }
def fX0_roomOf (g_rooms : Nat → Int32) (x1 : Int32) : Option (Int32) :=
  (fX7_isBox x1).bind fun r1 =>
  if r1 = 0 then
    some 0
  else
    (ld 8 g_rooms x1).bind fun y12 =>
    some y12
set_option maxRecDepth 100000 in
set_option maxHeartbeats 4000000 in
theorem tX0_roomOf {l : Launch} {D : va_G} {cI : ClassId} {cS : GS} {a : Nat → Nat} {a_series : Nat → Nat} {a_pieces : Nat → Nat} {a_trial : Nat → Nat} {a_moves : Nat → Nat} {g_rooms : Nat → Int32} {g_day : Int32} {x1 : Int32} {s0 : Int32} (h : fX0_roomOf g_rooms x1 = some s0) : CT l D cI cS yX0_roomOf cX0_roomOf 2 (some .int) rmX0_roomOf [.ref (a 0), .int x1] [oX0 a a_series a_pieces a_trial a_moves g_day, ar cI (a 2) 8 g_rooms] (some (.int s0)) [oX0 a a_series a_pieces a_trial a_moves g_day, ar cI (a 2) 8 g_rooms] := by
  refine CT.of RX0 (by decide) rfl (Nat.le_of_ble_eq_true rfl) (fun p e s m below meth c ls A C hA hl hw => ?_)
  have hx := C.1.1
  have hb := C.1.2.1
  have hl : lv_has ls 2 [(0, .ref (a 0)), (1, .int x1)] := hl
  unfold fX0_roomOf at h
  refine lv_iload_n hx hb dX0_roomOf_0 rfl (lv_at hl 1 rfl) ?_
  obtain ⟨r1, q1, h⟩ := bd h
  refine k_callSN (nC := 2) [oX0 a a_series a_pieces a_trial a_moves g_day, ar cI (a 2) 8 g_rooms] C hl.1 (tX7_isBox q1) C.2.2.2.1.2.2.1.2.1 mmX7_isBox rfl rfl ⟨Nat.le_of_ble_eq_true rfl, Nat.le_of_ble_eq_true rfl⟩ rfl rfl (Nat.le_of_ble_eq_true rfl) hA hw [] [0, 1] rfl (by decide +kernel) rfl rfl rfl rfl dX0_roomOf_1 (fun H locs hw1 => ?_)
  refine lv_if_eq (tgt := 16) hx hb dX0_roomOf_4 (by decide) (fun c4 => ?_) (fun c4 => ?_)
  · replace h := br_t' h c4
    refine lv_iconst (v := 0) hx hb dX0_roomOf_16 (by decide) ?_
    cases h
    exact k_iret C hw1 dX0_roomOf_17
  · replace h := br_f' h c4
    refine lv_aload_n hx hb dX0_roomOf_7 rfl (lv_at hl 0 rfl) ?_
    refine k_get C inT_X0 hw1 0 rfl rfl 1 (by decide) mF_X0_20 rfl dX0_roomOf_8 ?_
    refine lv_iload_n hx hb dX0_roomOf_11 rfl (lv_at hl 1 rfl) ?_
    obtain ⟨y12, q12, h⟩ := bd h
    refine k_iald C hw1 1 rfl q12 dX0_roomOf_12 ?_
    refine lv_goto (tgt := 17) hx hb dX0_roomOf_13 (by decide) ?_
    cases h
    exact k_iret C hw1 dX0_roomOf_17
def rmX0_freeIn : Room := { frames := 3, cells := 0, slots := 0, locals := 72 }
def fX0_freeIn (g_rooms : Nat → Int32) (v_pieces : Rg) (x1 : Int32) : Option (Int32) :=
  (fX0_roomOf g_rooms x1).bind fun r2 =>
  (fX0_loadOf v_pieces x1).bind fun r7 =>
  some (r2 - r7)
set_option maxRecDepth 100000 in
set_option maxHeartbeats 4000000 in
theorem tX0_freeIn {l : Launch} {D : va_G} {cI : ClassId} {cS : GS} {a : Nat → Nat} {a_series : Nat → Nat} {a_pieces : Nat → Nat} {a_trial : Nat → Nat} {a_moves : Nat → Nat} {g_rooms : Nat → Int32} {g_day : Int32} {v_pieces : Rg} {x1 : Int32} {s0 : Int32} (h : fX0_freeIn g_rooms v_pieces x1 = some s0) : CT l D cI cS yX0_freeIn cX0_freeIn 2 (some .int) rmX0_freeIn [.ref (a 0), .int x1] [oX0 a a_series a_pieces a_trial a_moves g_day, ar cI (a 2) 8 g_rooms, cR cI a_pieces 42 v_pieces] (some (.int s0)) [oX0 a a_series a_pieces a_trial a_moves g_day, ar cI (a 2) 8 g_rooms, cR cI a_pieces 42 v_pieces] := by
  refine CT.of RX0 (by decide) rfl (Nat.le_of_ble_eq_true rfl) (fun p e s m below meth c ls A C hA hl hw => ?_)
  have hx := C.1.1
  have hb := C.1.2.1
  have hl : lv_has ls 2 [(0, .ref (a 0)), (1, .int x1)] := hl
  unfold fX0_freeIn at h
  refine lv_aload_n hx hb dX0_freeIn_0 rfl (lv_at hl 0 rfl) ?_
  refine lv_iload_n hx hb dX0_freeIn_1 rfl (lv_at hl 1 rfl) ?_
  obtain ⟨r2, q2, h⟩ := bd h
  refine k_callV (nC := 3) [oX0 a a_series a_pieces a_trial a_moves g_day, ar cI (a 2) 8 g_rooms, cR cI a_pieces 42 v_pieces] C hl.1 (tX0_roomOf (a := a) (a_series := a_series) (a_pieces := a_pieces) (a_trial := a_trial) (a_moves := a_moves) q2) mL_X0_128 mmX0_roomOf rfl rfl ⟨Nat.le_of_ble_eq_true rfl, Nat.le_of_ble_eq_true rfl⟩ rfl rfl rfl rfl (Nat.le_of_ble_eq_true rfl) hA hw [0, 1] [2] rfl (by decide +kernel) rfl rfl rfl rfl dX0_freeIn_2 (fun H locs hw2 => ?_)
  refine lv_aload_n hx hb dX0_freeIn_5 rfl (lv_at hl 0 rfl) ?_
  refine lv_iload_n hx hb dX0_freeIn_6 rfl (lv_at hl 1 rfl) ?_
  obtain ⟨r7, q7, h⟩ := bd h
  refine k_callV (nC := 3) [oX0 a a_series a_pieces a_trial a_moves g_day, ar cI (a 2) 8 g_rooms, cR cI a_pieces 42 v_pieces] C hl.1 (tX0_loadOf (a := a) (a_series := a_series) (a_pieces := a_pieces) (a_trial := a_trial) (a_moves := a_moves) q7) mL_X0_95 mmX0_loadOf rfl rfl ⟨Nat.le_of_ble_eq_true rfl, Nat.le_of_ble_eq_true rfl⟩ rfl rfl rfl rfl (Nat.le_of_ble_eq_true rfl) hA hw2 [0, 2] [1] rfl (by decide +kernel) rfl rfl rfl rfl dX0_freeIn_7 (fun H locs hw7 => ?_)
  refine lv_isub hx hb dX0_freeIn_10 ?_
  cases h
  exact k_iret C hw7 dX0_freeIn_11
def rmX0_layInto : Room := { frames := 4, cells := 0, slots := 0, locals := 95 }
def fX0_layInto (g_rooms : Nat → Int32) (g_moveDays : Nat → Int32) (g_day : Int32) (v_pieces : Rg) (v_trial : Rg) (v_moves : Rg) (x1 : Int32) (x2 : Int32) (x3 : Int32) : Option (Int32 × (Nat → Int32) × Rg × Rg × Rg) :=
  (fX7_isBox x1).bind fun r1 =>
  if r1 = 0 then
    some ((-2), g_moveDays, v_pieces, v_trial, v_moves)
  else
    (fX7_isRange x2 x3).bind fun r12 =>
    if r12 = 0 then
      some ((-3), g_moveDays, v_pieces, v_trial, v_moves)
    else
      (fX4_sheetsIn 42 v_pieces x1 x2 x3).bind fun r33 =>
      (fX0_freeIn g_rooms v_pieces x1).bind fun r43 =>
      if (((x3 - x2) + 1) - r33) ≤ r43 then
        (fX0_bring g_moveDays g_day v_pieces v_trial v_moves x1 x2 x3).bind fun r56 =>
        if r56.1 = 0 then
          some ((-5), r56.2.1, r56.2.2.1, r56.2.2.2.1, r56.2.2.2.2)
        else
          some ((((x3 - x2) + 1) - r33), r56.2.1, r56.2.2.1, r56.2.2.2.1, r56.2.2.2.2)
      else
        some ((-5), g_moveDays, v_pieces, v_trial, v_moves)
set_option maxRecDepth 100000 in
set_option maxHeartbeats 4000000 in
theorem tX0_layInto {l : Launch} {D : va_G} {cI : ClassId} {cS : GS} {a : Nat → Nat} {a_series : Nat → Nat} {a_pieces : Nat → Nat} {a_trial : Nat → Nat} {a_moves : Nat → Nat} {g_rooms : Nat → Int32} {g_moveDays : Nat → Int32} {g_day : Int32} {v_pieces : Rg} {v_trial : Rg} {v_moves : Rg} {x1 : Int32} {x2 : Int32} {x3 : Int32} {s0 : Int32} {s1 : (Nat → Int32)} {s2 : Rg} {s3 : Rg} {s4 : Rg} (h : fX0_layInto g_rooms g_moveDays g_day v_pieces v_trial v_moves x1 x2 x3 = some (s0, s1, s2, s3, s4)) : CT l D cI cS yX0_layInto cX0_layInto 5 (some .int) rmX0_layInto [.ref (a 0), .int x1, .int x2, .int x3] [oX0 a a_series a_pieces a_trial a_moves g_day, ar cI (a 2) 8 g_rooms, ar cI (a 6) 100 g_moveDays, cR cI a_pieces 42 v_pieces, cR cI a_trial 42 v_trial, cR cI a_moves 100 v_moves] (some (.int s0)) [oX0 a a_series a_pieces a_trial a_moves g_day, ar cI (a 2) 8 g_rooms, ar cI (a 6) 100 s1, cR cI a_pieces 42 s2, cR cI a_trial 42 s3, cR cI a_moves 100 s4] := by
  refine CT.of RX0 (by decide) rfl (Nat.le_of_ble_eq_true rfl) (fun p e s m below meth c ls A C hA hl hw => ?_)
  have hx := C.1.1
  have hb := C.1.2.1
  have hl : lv_has ls 5 [(0, .ref (a 0)), (1, .int x1), (2, .int x2), (3, .int x3)] := hl
  unfold fX0_layInto at h
  refine lv_iload_n hx hb dX0_layInto_0 rfl (lv_at hl 1 rfl) ?_
  obtain ⟨r1, q1, h⟩ := bd h
  refine k_callSN (nC := 6) [oX0 a a_series a_pieces a_trial a_moves g_day, ar cI (a 2) 8 g_rooms, ar cI (a 6) 100 g_moveDays, cR cI a_pieces 42 v_pieces, cR cI a_trial 42 v_trial, cR cI a_moves 100 v_moves] C hl.1 (tX7_isBox q1) C.2.2.2.1.2.2.1.2.1 mmX7_isBox rfl rfl ⟨Nat.le_of_ble_eq_true rfl, Nat.le_of_ble_eq_true rfl⟩ rfl rfl (Nat.le_of_ble_eq_true rfl) hA hw [] [0, 1, 2, 3, 4, 5] rfl (by decide +kernel) rfl rfl rfl rfl dX0_layInto_1 (fun H locs hw1 => ?_)
  refine lv_if_ne (tgt := 10) hx hb dX0_layInto_4 (by decide) (fun c4 => ?_) (fun c4 => ?_)
  · replace h := br_f' h c4
    refine lv_iload_n hx hb dX0_layInto_10 rfl (lv_at hl 2 rfl) ?_
    refine lv_iload_n hx hb dX0_layInto_11 rfl (lv_at hl 3 rfl) ?_
    obtain ⟨r12, q12, h⟩ := bd h
    refine k_callSN (nC := 6) [oX0 a a_series a_pieces a_trial a_moves g_day, ar cI (a 2) 8 g_rooms, ar cI (a 6) 100 g_moveDays, cR cI a_pieces 42 v_pieces, cR cI a_trial 42 v_trial, cR cI a_moves 100 v_moves] C hl.1 (tX7_isRange q12) C.2.2.2.1.2.2.1.1 mmX7_isRange rfl rfl ⟨Nat.le_of_ble_eq_true rfl, Nat.le_of_ble_eq_true rfl⟩ rfl rfl (Nat.le_of_ble_eq_true rfl) hA hw1 [] [0, 1, 2, 3, 4, 5] rfl (by decide +kernel) rfl rfl rfl rfl dX0_layInto_12 (fun H locs hw12 => ?_)
    refine lv_if_ne (tgt := 21) hx hb dX0_layInto_15 (by decide) (fun c15 => ?_) (fun c15 => ?_)
    · replace h := br_f' h c15
      refine lv_iload_n hx hb dX0_layInto_21 rfl (lv_at hl 3 rfl) ?_
      refine lv_iload_n hx hb dX0_layInto_22 rfl (lv_at hl 2 rfl) ?_
      refine lv_isub hx hb dX0_layInto_23 ?_
      refine lv_iconst (v := 1) hx hb dX0_layInto_24 (by decide) ?_
      refine lv_iadd hx hb dX0_layInto_25 ?_
      refine lv_aload_n hx hb dX0_layInto_26 rfl (lv_at hl 0 rfl) ?_
      refine k_get C inT_X0 hw12 0 rfl rfl 2 (by decide) mF_X0_24 rfl dX0_layInto_27 ?_
      refine lv_iload_n hx hb dX0_layInto_30 rfl (lv_at hl 1 rfl) ?_
      refine lv_iload_n hx hb dX0_layInto_31 rfl (lv_at hl 2 rfl) ?_
      refine lv_iload_n hx hb dX0_layInto_32 rfl (lv_at hl 3 rfl) ?_
      obtain ⟨r33, q33, h⟩ := bd h
      refine k_callV (nC := 6) [oX0 a a_series a_pieces a_trial a_moves g_day, ar cI (a 2) 8 g_rooms, ar cI (a 6) 100 g_moveDays, cR cI a_pieces 42 v_pieces, cR cI a_trial 42 v_trial, cR cI a_moves 100 v_moves] C hl.1 (tX4_sheetsIn (a := a_pieces) q33) mL_X0_83 mmX4_sheetsIn rfl rfl ⟨Nat.le_of_ble_eq_true rfl, Nat.le_of_ble_eq_true rfl⟩ rfl rfl rfl rfl (Nat.le_of_ble_eq_true rfl) hA hw12 [3] [0, 1, 2, 4, 5] rfl (by decide +kernel) rfl rfl rfl rfl dX0_layInto_33 (fun H locs hw33 => ?_)
      refine lv_isub hx hb dX0_layInto_36 ?_
      refine lv_istore (lv' := [(4, .int (((x3 - x2) + 1) - r33)), (0, .ref (a 0)), (1, .int x1), (2, .int x2), (3, .int x3)]) hx hb dX0_layInto_37 hl (by decide) rfl (fun ls hl => ?_)
      refine lv_iload hx hb dX0_layInto_39 (lv_at hl 0 rfl) ?_
      refine lv_aload_n hx hb dX0_layInto_41 rfl (lv_at hl 1 rfl) ?_
      refine lv_iload_n hx hb dX0_layInto_42 rfl (lv_at hl 2 rfl) ?_
      obtain ⟨r43, q43, h⟩ := bd h
      refine k_callV (nC := 6) [oX0 a a_series a_pieces a_trial a_moves g_day, ar cI (a 2) 8 g_rooms, ar cI (a 6) 100 g_moveDays, cR cI a_pieces 42 v_pieces, cR cI a_trial 42 v_trial, cR cI a_moves 100 v_moves] C hl.1 (tX0_freeIn (a := a) (a_series := a_series) (a_pieces := a_pieces) (a_trial := a_trial) (a_moves := a_moves) q43) mL_X0_98 mmX0_freeIn rfl rfl ⟨Nat.le_of_ble_eq_true rfl, Nat.le_of_ble_eq_true rfl⟩ rfl rfl rfl rfl (Nat.le_of_ble_eq_true rfl) hA hw33 [0, 1, 3] [2, 4, 5] rfl (by decide +kernel) rfl rfl rfl rfl dX0_layInto_43 (fun H locs hw43 => ?_)
      refine lv_icmp_le (tgt := 52) hx hb dX0_layInto_46 (by decide) (fun c46 => ?_) (fun c46 => ?_)
      · replace h := br_t' h c46
        refine lv_aload_n hx hb dX0_layInto_52 rfl (lv_at hl 1 rfl) ?_
        refine lv_iload_n hx hb dX0_layInto_53 rfl (lv_at hl 2 rfl) ?_
        refine lv_iload_n hx hb dX0_layInto_54 rfl (lv_at hl 3 rfl) ?_
        refine lv_iload_n hx hb dX0_layInto_55 rfl (lv_at hl 4 rfl) ?_
        obtain ⟨r56, q56, h⟩ := bd h
        refine k_callV (nC := 6) [oX0 a a_series a_pieces a_trial a_moves g_day, ar cI (a 2) 8 g_rooms, ar cI (a 6) 100 r56.2.1, cR cI a_pieces 42 r56.2.2.1, cR cI a_trial 42 r56.2.2.2.1, cR cI a_moves 100 r56.2.2.2.2] C hl.1 (tX0_bring (a := a) (a_series := a_series) (a_pieces := a_pieces) (a_trial := a_trial) (a_moves := a_moves) q56) mL_X0_101 mmX0_bring rfl rfl ⟨Nat.le_of_ble_eq_true rfl, Nat.le_of_ble_eq_true rfl⟩ rfl rfl rfl rfl (Nat.le_of_ble_eq_true rfl) hA hw43 [0, 2, 3, 4, 5] [1] rfl (by decide +kernel) rfl rfl rfl rfl dX0_layInto_56 (fun H locs hw56 => ?_)
        refine lv_if_eq (tgt := 67) hx hb dX0_layInto_59 (by decide) (fun c59 => ?_) (fun c59 => ?_)
        · replace h := br_t' h c59
          refine lv_bipush (v := (-5)) hx hb dX0_layInto_67 (by decide) ?_
          cases h
          exact k_iret C hw56 dX0_layInto_69
        · replace h := br_f' h c59
          refine lv_iload hx hb dX0_layInto_62 (lv_at hl 0 rfl) ?_
          refine lv_goto (tgt := 69) hx hb dX0_layInto_64 (by decide) ?_
          cases h
          exact k_iret C hw56 dX0_layInto_69
      · replace h := br_f' h c46
        refine lv_bipush (v := (-5)) hx hb dX0_layInto_49 (by decide) ?_
        cases h
        exact k_iret C hw43 dX0_layInto_51
    · replace h := br_t' h c15
      refine lv_bipush (v := (-3)) hx hb dX0_layInto_18 (by decide) ?_
      cases h
      exact k_iret C hw12 dX0_layInto_20
  · replace h := br_t' h c4
    refine lv_bipush (v := (-2)) hx hb dX0_layInto_7 (by decide) ?_
    cases h
    exact k_iret C hw1 dX0_layInto_9
def rmX0_takeOut : Room := { frames := 4, cells := 0, slots := 0, locals := 95 }
def fX0_takeOut (g_moveDays : Nat → Int32) (g_day : Int32) (v_pieces : Rg) (v_trial : Rg) (v_moves : Rg) (x1 : Int32) (x2 : Int32) : Option (Int32 × (Nat → Int32) × Rg × Rg × Rg) :=
  (fX7_isRange x1 x2).bind fun r2 =>
  if r2 = 0 then
    some ((-3), g_moveDays, v_pieces, v_trial, v_moves)
  else
    (fX4_sheetsIn 42 v_pieces (-100) x1 x2).bind fun r19 =>
    (fX0_bring g_moveDays g_day v_pieces v_trial v_moves (-1) x1 x2).bind fun r27 =>
    if r27.1 = 0 then
      some ((-5), r27.2.1, r27.2.2.1, r27.2.2.2.1, r27.2.2.2.2)
    else
      some (r19, r27.2.1, r27.2.2.1, r27.2.2.2.1, r27.2.2.2.2)
set_option maxRecDepth 100000 in
set_option maxHeartbeats 4000000 in
theorem tX0_takeOut {l : Launch} {D : va_G} {cI : ClassId} {cS : GS} {a : Nat → Nat} {a_series : Nat → Nat} {a_pieces : Nat → Nat} {a_trial : Nat → Nat} {a_moves : Nat → Nat} {g_moveDays : Nat → Int32} {g_day : Int32} {v_pieces : Rg} {v_trial : Rg} {v_moves : Rg} {x1 : Int32} {x2 : Int32} {s0 : Int32} {s1 : (Nat → Int32)} {s2 : Rg} {s3 : Rg} {s4 : Rg} (h : fX0_takeOut g_moveDays g_day v_pieces v_trial v_moves x1 x2 = some (s0, s1, s2, s3, s4)) : CT l D cI cS yX0_takeOut cX0_takeOut 4 (some .int) rmX0_takeOut [.ref (a 0), .int x1, .int x2] [oX0 a a_series a_pieces a_trial a_moves g_day, ar cI (a 6) 100 g_moveDays, cR cI a_pieces 42 v_pieces, cR cI a_trial 42 v_trial, cR cI a_moves 100 v_moves] (some (.int s0)) [oX0 a a_series a_pieces a_trial a_moves g_day, ar cI (a 6) 100 s1, cR cI a_pieces 42 s2, cR cI a_trial 42 s3, cR cI a_moves 100 s4] := by
  refine CT.of RX0 (by decide) rfl (Nat.le_of_ble_eq_true rfl) (fun p e s m below meth c ls A C hA hl hw => ?_)
  have hx := C.1.1
  have hb := C.1.2.1
  have hl : lv_has ls 4 [(0, .ref (a 0)), (1, .int x1), (2, .int x2)] := hl
  unfold fX0_takeOut at h
  refine lv_iload_n hx hb dX0_takeOut_0 rfl (lv_at hl 1 rfl) ?_
  refine lv_iload_n hx hb dX0_takeOut_1 rfl (lv_at hl 2 rfl) ?_
  obtain ⟨r2, q2, h⟩ := bd h
  refine k_callSN (nC := 5) [oX0 a a_series a_pieces a_trial a_moves g_day, ar cI (a 6) 100 g_moveDays, cR cI a_pieces 42 v_pieces, cR cI a_trial 42 v_trial, cR cI a_moves 100 v_moves] C hl.1 (tX7_isRange q2) C.2.2.2.1.2.2.1.1 mmX7_isRange rfl rfl ⟨Nat.le_of_ble_eq_true rfl, Nat.le_of_ble_eq_true rfl⟩ rfl rfl (Nat.le_of_ble_eq_true rfl) hA hw [] [0, 1, 2, 3, 4] rfl (by decide +kernel) rfl rfl rfl rfl dX0_takeOut_2 (fun H locs hw2 => ?_)
  refine lv_if_ne (tgt := 11) hx hb dX0_takeOut_5 (by decide) (fun c5 => ?_) (fun c5 => ?_)
  · replace h := br_f' h c5
    refine lv_aload_n hx hb dX0_takeOut_11 rfl (lv_at hl 0 rfl) ?_
    refine k_get C inT_X0 hw2 0 rfl rfl 2 (by decide) mF_X0_24 rfl dX0_takeOut_12 ?_
    refine lv_bipush (v := (-100)) hx hb dX0_takeOut_15 (by decide) ?_
    refine lv_iload_n hx hb dX0_takeOut_17 rfl (lv_at hl 1 rfl) ?_
    refine lv_iload_n hx hb dX0_takeOut_18 rfl (lv_at hl 2 rfl) ?_
    obtain ⟨r19, q19, h⟩ := bd h
    refine k_callV (nC := 5) [oX0 a a_series a_pieces a_trial a_moves g_day, ar cI (a 6) 100 g_moveDays, cR cI a_pieces 42 v_pieces, cR cI a_trial 42 v_trial, cR cI a_moves 100 v_moves] C hl.1 (tX4_sheetsIn (a := a_pieces) q19) mL_X0_83 mmX4_sheetsIn rfl rfl ⟨Nat.le_of_ble_eq_true rfl, Nat.le_of_ble_eq_true rfl⟩ rfl rfl rfl rfl (Nat.le_of_ble_eq_true rfl) hA hw2 [2] [0, 1, 3, 4] rfl (by decide +kernel) rfl rfl rfl rfl dX0_takeOut_19 (fun H locs hw19 => ?_)
    refine lv_istore_n (lv' := [(3, .int r19), (0, .ref (a 0)), (1, .int x1), (2, .int x2)]) hx hb dX0_takeOut_22 rfl hl (by decide) rfl (fun ls hl => ?_)
    refine lv_aload_n hx hb dX0_takeOut_23 rfl (lv_at hl 1 rfl) ?_
    refine lv_iconst (v := (-1)) hx hb dX0_takeOut_24 (by decide) ?_
    refine lv_iload_n hx hb dX0_takeOut_25 rfl (lv_at hl 2 rfl) ?_
    refine lv_iload_n hx hb dX0_takeOut_26 rfl (lv_at hl 3 rfl) ?_
    obtain ⟨r27, q27, h⟩ := bd h
    refine k_callV (nC := 5) [oX0 a a_series a_pieces a_trial a_moves g_day, ar cI (a 6) 100 r27.2.1, cR cI a_pieces 42 r27.2.2.1, cR cI a_trial 42 r27.2.2.2.1, cR cI a_moves 100 r27.2.2.2.2] C hl.1 (tX0_bring (a := a) (a_series := a_series) (a_pieces := a_pieces) (a_trial := a_trial) (a_moves := a_moves) q27) mL_X0_101 mmX0_bring rfl rfl ⟨Nat.le_of_ble_eq_true rfl, Nat.le_of_ble_eq_true rfl⟩ rfl rfl rfl rfl (Nat.le_of_ble_eq_true rfl) hA hw19 [0, 1, 2, 3, 4] [] rfl (by decide +kernel) rfl rfl rfl rfl dX0_takeOut_27 (fun H locs hw27 => ?_)
    refine lv_if_eq (tgt := 37) hx hb dX0_takeOut_30 (by decide) (fun c30 => ?_) (fun c30 => ?_)
    · replace h := br_t' h c30
      refine lv_bipush (v := (-5)) hx hb dX0_takeOut_37 (by decide) ?_
      cases h
      exact k_iret C hw27 dX0_takeOut_39
    · replace h := br_f' h c30
      refine lv_iload_n hx hb dX0_takeOut_33 rfl (lv_at hl 0 rfl) ?_
      refine lv_goto (tgt := 39) hx hb dX0_takeOut_34 (by decide) ?_
      cases h
      exact k_iret C hw27 dX0_takeOut_39
  · replace h := br_t' h c5
    refine lv_bipush (v := (-3)) hx hb dX0_takeOut_8 (by decide) ?_
    cases h
    exact k_iret C hw2 dX0_takeOut_10
def rmX0_shiftAll : Room := { frames := 4, cells := 0, slots := 0, locals := 93 }
def fX0_shiftAll_64 (g_day : Int32) (v_pieces : Rg) (x1 : Int32) (x2 : Int32) : (n : Nat) → (k : Int32 → (Nat → Int32) → Rg → Option (Int32 × (Nat → Int32) × Rg × Rg × Rg)) → Int32 → (Nat → Int32) → Rg → Option (Int32 × (Nat → Int32) × Rg × Rg × Rg)
  | 0, _, _, _, _ => none
  | n + 1, k, x4, g_moveDays, v_moves =>
    (fX4_size 42 v_pieces).bind fun r70 =>
    if r70 ≤ x4 then
      k x4 g_moveDays v_moves
    else
      (fX4_markOf 42 v_pieces x4).bind fun r82 =>
      if r82 = x1 then
        (fX4_firstOf 42 v_pieces x4).bind fun r97 =>
        (fX4_lastOf 42 v_pieces x4).bind fun r106 =>
        (fX0_enter g_moveDays g_day v_moves x2 r97 r106).bind fun r109 =>
        fX0_shiftAll_64 g_day v_pieces x1 x2 n k (x4 + 1) r109.1 r109.2
      else
        fX0_shiftAll_64 g_day v_pieces x1 x2 n k (x4 + 1) g_moveDays v_moves
set_option maxRecDepth 100000 in
set_option maxHeartbeats 4000000 in
theorem wX0_shiftAll_64 {p : Program} {l : Launch} {e : Env} {s : State} {m : MethodId} {args : Array Value} {below : List Frame} {meth : Method} {c : Code} {D : va_G} {cI : ClassId} {cS : GS} {A : Nat → Prop} {a : Nat → Nat} {a_series : Nat → Nat} {a_pieces : Nat → Nat} {a_trial : Nat → Nat} {a_moves : Nat → Nat} {g_rooms : Nat → Int32} {g_day : Int32} {v_pieces : Rg} {v_trial : Rg} {x1 : Int32} {x2 : Int32} {x3 : Int32} (C : MC p s m args meth c D cI cS A RX0 cX0_shiftAll 5 (some .int)) (hA : ∀ q, s.heap.size ≤ q → A q) {s0 : Int32} {s1 : (Nat → Int32)} {s2 : Rg} {s3 : Rg} {s4 : Rg} (k : Int32 → (Nat → Int32) → Rg → Option (Int32 × (Nat → Int32) × Rg × Rg × Rg)) (hk : ∀ (x4 : Int32) (g_moveDays : Nat → Int32) (v_moves : Rg) (H : Heap) (locs : List Loc) (ls : Array Slot), Wd D A s.heap H locs [oX0 a a_series a_pieces a_trial a_moves g_day, ar cI (a 2) 8 g_rooms, ar cI (a 6) 100 g_moveDays, cR cI a_pieces 42 v_pieces, cR cI a_trial 42 v_trial, cR cI a_moves 100 v_moves] → lv_has ls 5 [(0, .ref (a 0)), (1, .int x1), (2, .int x2), (3, .int x3), (4, .int x4)] → k x4 g_moveDays v_moves = some (s0, s1, s2, s3, s4) → W p l e rmX0_shiftAll s m args below meth c H locs 0 0 (KQ D A below args s (some (.int s0)) [oX0 a a_series a_pieces a_trial a_moves g_day, ar cI (a 2) 8 g_rooms, ar cI (a 6) 100 s1, cR cI a_pieces 42 s2, cR cI a_trial 42 s3, cR cI a_moves 100 s4]) (F0 m 118 ls [])) :
    ∀ (n : Nat) (x4 : Int32) (g_moveDays : Nat → Int32) (v_moves : Rg) (H : Heap) (locs : List Loc) (ls : Array Slot), Wd D A s.heap H locs [oX0 a a_series a_pieces a_trial a_moves g_day, ar cI (a 2) 8 g_rooms, ar cI (a 6) 100 g_moveDays, cR cI a_pieces 42 v_pieces, cR cI a_trial 42 v_trial, cR cI a_moves 100 v_moves] → lv_has ls 5 [(0, .ref (a 0)), (1, .int x1), (2, .int x2), (3, .int x3), (4, .int x4)] → fX0_shiftAll_64 g_day v_pieces x1 x2 n k x4 g_moveDays v_moves = some (s0, s1, s2, s3, s4) → W p l e rmX0_shiftAll s m args below meth c H locs 0 0 (KQ D A below args s (some (.int s0)) [oX0 a a_series a_pieces a_trial a_moves g_day, ar cI (a 2) 8 g_rooms, ar cI (a 6) 100 s1, cR cI a_pieces 42 s2, cR cI a_trial 42 s3, cR cI a_moves 100 s4]) (F0 m 64 ls []) := by
  have hx := C.1.1
  have hb := C.1.2.1
  intro n
  induction n with
  | zero =>
    intro x4 g_moveDays v_moves H locs ls hw hl h
    rw [fX0_shiftAll_64] at h
    cases h
  | succ n ih =>
    intro x4 g_moveDays v_moves H locs ls hw hl h
    rw [fX0_shiftAll_64] at h
    refine lv_iload hx hb dX0_shiftAll_64 (lv_at hl 4 rfl) ?_
    refine lv_aload_n hx hb dX0_shiftAll_66 rfl (lv_at hl 0 rfl) ?_
    refine k_get C inT_X0 hw 0 rfl rfl 2 (by decide) mF_X0_24 rfl dX0_shiftAll_67 ?_
    obtain ⟨r70, q70, h⟩ := bd h
    refine k_callV (nC := 6) [oX0 a a_series a_pieces a_trial a_moves g_day, ar cI (a 2) 8 g_rooms, ar cI (a 6) 100 g_moveDays, cR cI a_pieces 42 v_pieces, cR cI a_trial 42 v_trial, cR cI a_moves 100 v_moves] C hl.1 (tX4_size (a := a_pieces) q70) mL_X0_43 mmX4_size rfl rfl ⟨Nat.le_of_ble_eq_true rfl, Nat.le_of_ble_eq_true rfl⟩ rfl rfl rfl rfl (Nat.le_of_ble_eq_true rfl) hA hw [3] [0, 1, 2, 4, 5] rfl (by decide +kernel) rfl rfl rfl rfl dX0_shiftAll_70 (fun H locs hw70 => ?_)
    refine lv_icmp_ge (tgt := 118) hx hb dX0_shiftAll_73 (by decide) (fun c73 => ?_) (fun c73 => ?_)
    · replace h := br_t' h c73
      exact hk _ _ _ _ _ _ hw70 (lv_sub hl [0, 1, 2, 3, 4] rfl) h
    · replace h := br_f' h c73
      refine lv_aload_n hx hb dX0_shiftAll_76 rfl (lv_at hl 0 rfl) ?_
      refine k_get C inT_X0 hw70 0 rfl rfl 2 (by decide) mF_X0_24 rfl dX0_shiftAll_77 ?_
      refine lv_iload hx hb dX0_shiftAll_80 (lv_at hl 4 rfl) ?_
      obtain ⟨r82, q82, h⟩ := bd h
      refine k_callV (nC := 6) [oX0 a a_series a_pieces a_trial a_moves g_day, ar cI (a 2) 8 g_rooms, ar cI (a 6) 100 g_moveDays, cR cI a_pieces 42 v_pieces, cR cI a_trial 42 v_trial, cR cI a_moves 100 v_moves] C hl.1 (tX4_markOf (a := a_pieces) q82) mL_X0_115 mmX4_markOf rfl rfl ⟨Nat.le_of_ble_eq_true rfl, Nat.le_of_ble_eq_true rfl⟩ rfl rfl rfl rfl (Nat.le_of_ble_eq_true rfl) hA hw70 [3] [0, 1, 2, 4, 5] rfl (by decide +kernel) rfl rfl rfl rfl dX0_shiftAll_82 (fun H locs hw82 => ?_)
      refine lv_iload_n hx hb dX0_shiftAll_85 rfl (lv_at hl 1 rfl) ?_
      refine lv_icmp_ne (tgt := 112) hx hb dX0_shiftAll_86 (by decide) (fun c86 => ?_) (fun c86 => ?_)
      · replace h := br_f' h c86
        refine lv_iinc (v := (x4 + 1)) (lv' := [(4, .int (x4 + 1)), (0, .ref (a 0)), (1, .int x1), (2, .int x2), (3, .int x3)]) hx hb dX0_shiftAll_112 hl (k := 4) rfl rfl (by decide) rfl (fun ls hl => ?_)
        refine lv_goto (tgt := 64) hx hb dX0_shiftAll_115 (by decide) ?_
        exact ih _ _ _ _ _ _ hw82 (lv_sub hl [1, 2, 3, 4, 0] rfl) h
      · replace h := br_t' h c86
        refine lv_aload_n hx hb dX0_shiftAll_89 rfl (lv_at hl 0 rfl) ?_
        refine lv_iload_n hx hb dX0_shiftAll_90 rfl (lv_at hl 2 rfl) ?_
        refine lv_aload_n hx hb dX0_shiftAll_91 rfl (lv_at hl 0 rfl) ?_
        refine k_get C inT_X0 hw82 0 rfl rfl 2 (by decide) mF_X0_24 rfl dX0_shiftAll_92 ?_
        refine lv_iload hx hb dX0_shiftAll_95 (lv_at hl 4 rfl) ?_
        obtain ⟨r97, q97, h⟩ := bd h
        refine k_callV (nC := 6) [oX0 a a_series a_pieces a_trial a_moves g_day, ar cI (a 2) 8 g_rooms, ar cI (a 6) 100 g_moveDays, cR cI a_pieces 42 v_pieces, cR cI a_trial 42 v_trial, cR cI a_moves 100 v_moves] C hl.1 (tX4_firstOf (a := a_pieces) q97) mL_X0_118 mmX4_firstOf rfl rfl ⟨Nat.le_of_ble_eq_true rfl, Nat.le_of_ble_eq_true rfl⟩ rfl rfl rfl rfl (Nat.le_of_ble_eq_true rfl) hA hw82 [3] [0, 1, 2, 4, 5] rfl (by decide +kernel) rfl rfl rfl rfl dX0_shiftAll_97 (fun H locs hw97 => ?_)
        refine lv_aload_n hx hb dX0_shiftAll_100 rfl (lv_at hl 0 rfl) ?_
        refine k_get C inT_X0 hw97 0 rfl rfl 2 (by decide) mF_X0_24 rfl dX0_shiftAll_101 ?_
        refine lv_iload hx hb dX0_shiftAll_104 (lv_at hl 4 rfl) ?_
        obtain ⟨r106, q106, h⟩ := bd h
        refine k_callV (nC := 6) [oX0 a a_series a_pieces a_trial a_moves g_day, ar cI (a 2) 8 g_rooms, ar cI (a 6) 100 g_moveDays, cR cI a_pieces 42 v_pieces, cR cI a_trial 42 v_trial, cR cI a_moves 100 v_moves] C hl.1 (tX4_lastOf (a := a_pieces) q106) mL_X0_121 mmX4_lastOf rfl rfl ⟨Nat.le_of_ble_eq_true rfl, Nat.le_of_ble_eq_true rfl⟩ rfl rfl rfl rfl (Nat.le_of_ble_eq_true rfl) hA hw97 [3] [0, 1, 2, 4, 5] rfl (by decide +kernel) rfl rfl rfl rfl dX0_shiftAll_106 (fun H locs hw106 => ?_)
        obtain ⟨r109, q109, h⟩ := bd h
        refine k_callV (nC := 6) [oX0 a a_series a_pieces a_trial a_moves g_day, ar cI (a 2) 8 g_rooms, ar cI (a 6) 100 r109.1, cR cI a_pieces 42 v_pieces, cR cI a_trial 42 v_trial, cR cI a_moves 100 r109.2] C hl.1 (tX0_enter (a := a) (a_series := a_series) (a_pieces := a_pieces) (a_trial := a_trial) (a_moves := a_moves) q109) mL_X0_108 mmX0_enter rfl rfl ⟨Nat.le_of_ble_eq_true rfl, Nat.le_of_ble_eq_true rfl⟩ rfl rfl rfl rfl (Nat.le_of_ble_eq_true rfl) hA hw106 [0, 2, 5] [1, 3, 4] rfl (by decide +kernel) rfl rfl rfl rfl dX0_shiftAll_109 (fun H locs hw109 => ?_)
        refine lv_iinc (v := (x4 + 1)) (lv' := [(4, .int (x4 + 1)), (0, .ref (a 0)), (1, .int x1), (2, .int x2), (3, .int x3)]) hx hb dX0_shiftAll_112 hl (k := 4) rfl rfl (by decide) rfl (fun ls hl => ?_)
        refine lv_goto (tgt := 64) hx hb dX0_shiftAll_115 (by decide) ?_
        exact ih _ _ _ _ _ _ hw109 (lv_sub hl [1, 2, 3, 4, 0] rfl) h
def fX0_shiftAll (g_rooms : Nat → Int32) (g_moveDays : Nat → Int32) (g_day : Int32) (v_pieces : Rg) (v_trial : Rg) (v_moves : Rg) (x1 : Int32) (x2 : Int32) : Option (Int32 × (Nat → Int32) × Rg × Rg × Rg) :=
  (fX7_isBox x1).bind fun r1 =>
  if r1 = 0 then
    some ((-2), g_moveDays, v_pieces, v_trial, v_moves)
  else
    (fX7_isBox x2).bind fun r8 =>
    if r8 = 0 then
      some ((-2), g_moveDays, v_pieces, v_trial, v_moves)
    else
      if x1 = x2 then
        some ((-2), g_moveDays, v_pieces, v_trial, v_moves)
      else
        (fX4_countOf 42 v_pieces x1).bind fun r27 =>
        (fX0_loadOf v_pieces x1).bind fun r33 =>
        (fX0_freeIn g_rooms v_pieces x2).bind fun r38 =>
        if r38 < r33 then
          some ((-5), g_moveDays, v_pieces, v_trial, v_moves)
        else
          (fX4_size 100 v_moves).bind fun r48 =>
          if (r48 + r27) ≤ 100 then
            fX0_shiftAll_64 g_day v_pieces x1 x2 FU (fun x4_64 g_moveDays_64 v_moves_64 =>
              (fX4_becomeRemarked 42 42 v_trial v_pieces x1 x2).bind fun r128 =>
              (fX4_copyFrom 42 42 v_pieces r128).bind fun r139 =>
              some (r27, g_moveDays_64, r139, r128, v_moves_64)) 0 g_moveDays v_moves
          else
            some ((-5), g_moveDays, v_pieces, v_trial, v_moves)
set_option maxRecDepth 100000 in
set_option maxHeartbeats 4000000 in
theorem tX0_shiftAll {l : Launch} {D : va_G} {cI : ClassId} {cS : GS} {a : Nat → Nat} {a_series : Nat → Nat} {a_pieces : Nat → Nat} {a_trial : Nat → Nat} {a_moves : Nat → Nat} {g_rooms : Nat → Int32} {g_moveDays : Nat → Int32} {g_day : Int32} {v_pieces : Rg} {v_trial : Rg} {v_moves : Rg} {x1 : Int32} {x2 : Int32} {s0 : Int32} {s1 : (Nat → Int32)} {s2 : Rg} {s3 : Rg} {s4 : Rg} (h : fX0_shiftAll g_rooms g_moveDays g_day v_pieces v_trial v_moves x1 x2 = some (s0, s1, s2, s3, s4)) : CT l D cI cS yX0_shiftAll cX0_shiftAll 5 (some .int) rmX0_shiftAll [.ref (a 0), .int x1, .int x2] [oX0 a a_series a_pieces a_trial a_moves g_day, ar cI (a 2) 8 g_rooms, ar cI (a 6) 100 g_moveDays, cR cI a_pieces 42 v_pieces, cR cI a_trial 42 v_trial, cR cI a_moves 100 v_moves] (some (.int s0)) [oX0 a a_series a_pieces a_trial a_moves g_day, ar cI (a 2) 8 g_rooms, ar cI (a 6) 100 s1, cR cI a_pieces 42 s2, cR cI a_trial 42 s3, cR cI a_moves 100 s4] := by
  refine CT.of RX0 (by decide) rfl (Nat.le_of_ble_eq_true rfl) (fun p e s m below meth c ls A C hA hl hw => ?_)
  have hx := C.1.1
  have hb := C.1.2.1
  have hl : lv_has ls 5 [(0, .ref (a 0)), (1, .int x1), (2, .int x2)] := hl
  unfold fX0_shiftAll at h
  refine lv_iload_n hx hb dX0_shiftAll_0 rfl (lv_at hl 1 rfl) ?_
  obtain ⟨r1, q1, h⟩ := bd h
  refine k_callSN (nC := 6) [oX0 a a_series a_pieces a_trial a_moves g_day, ar cI (a 2) 8 g_rooms, ar cI (a 6) 100 g_moveDays, cR cI a_pieces 42 v_pieces, cR cI a_trial 42 v_trial, cR cI a_moves 100 v_moves] C hl.1 (tX7_isBox q1) C.2.2.2.1.2.2.1.2.1 mmX7_isBox rfl rfl ⟨Nat.le_of_ble_eq_true rfl, Nat.le_of_ble_eq_true rfl⟩ rfl rfl (Nat.le_of_ble_eq_true rfl) hA hw [] [0, 1, 2, 3, 4, 5] rfl (by decide +kernel) rfl rfl rfl rfl dX0_shiftAll_1 (fun H locs hw1 => ?_)
  refine lv_if_eq (tgt := 19) hx hb dX0_shiftAll_4 (by decide) (fun c4 => ?_) (fun c4 => ?_)
  · replace h := br_t' h c4
    refine lv_bipush (v := (-2)) hx hb dX0_shiftAll_19 (by decide) ?_
    cases h
    exact k_iret C hw1 dX0_shiftAll_21
  · replace h := br_f' h c4
    refine lv_iload_n hx hb dX0_shiftAll_7 rfl (lv_at hl 2 rfl) ?_
    obtain ⟨r8, q8, h⟩ := bd h
    refine k_callSN (nC := 6) [oX0 a a_series a_pieces a_trial a_moves g_day, ar cI (a 2) 8 g_rooms, ar cI (a 6) 100 g_moveDays, cR cI a_pieces 42 v_pieces, cR cI a_trial 42 v_trial, cR cI a_moves 100 v_moves] C hl.1 (tX7_isBox q8) C.2.2.2.1.2.2.1.2.1 mmX7_isBox rfl rfl ⟨Nat.le_of_ble_eq_true rfl, Nat.le_of_ble_eq_true rfl⟩ rfl rfl (Nat.le_of_ble_eq_true rfl) hA hw1 [] [0, 1, 2, 3, 4, 5] rfl (by decide +kernel) rfl rfl rfl rfl dX0_shiftAll_8 (fun H locs hw8 => ?_)
    refine lv_if_eq (tgt := 19) hx hb dX0_shiftAll_11 (by decide) (fun c11 => ?_) (fun c11 => ?_)
    · replace h := br_t' h c11
      refine lv_bipush (v := (-2)) hx hb dX0_shiftAll_19 (by decide) ?_
      cases h
      exact k_iret C hw8 dX0_shiftAll_21
    · replace h := br_f' h c11
      refine lv_iload_n hx hb dX0_shiftAll_14 rfl (lv_at hl 1 rfl) ?_
      refine lv_iload_n hx hb dX0_shiftAll_15 rfl (lv_at hl 2 rfl) ?_
      refine lv_icmp_ne (tgt := 22) hx hb dX0_shiftAll_16 (by decide) (fun c16 => ?_) (fun c16 => ?_)
      · replace h := br_f' h c16
        refine lv_aload_n hx hb dX0_shiftAll_22 rfl (lv_at hl 0 rfl) ?_
        refine k_get C inT_X0 hw8 0 rfl rfl 2 (by decide) mF_X0_24 rfl dX0_shiftAll_23 ?_
        refine lv_iload_n hx hb dX0_shiftAll_26 rfl (lv_at hl 1 rfl) ?_
        obtain ⟨r27, q27, h⟩ := bd h
        refine k_callV (nC := 6) [oX0 a a_series a_pieces a_trial a_moves g_day, ar cI (a 2) 8 g_rooms, ar cI (a 6) 100 g_moveDays, cR cI a_pieces 42 v_pieces, cR cI a_trial 42 v_trial, cR cI a_moves 100 v_moves] C hl.1 (tX4_countOf (a := a_pieces) q27) mL_X0_112 mmX4_countOf rfl rfl ⟨Nat.le_of_ble_eq_true rfl, Nat.le_of_ble_eq_true rfl⟩ rfl rfl rfl rfl (Nat.le_of_ble_eq_true rfl) hA hw8 [3] [0, 1, 2, 4, 5] rfl (by decide +kernel) rfl rfl rfl rfl dX0_shiftAll_27 (fun H locs hw27 => ?_)
        refine lv_istore_n (lv' := [(3, .int r27), (0, .ref (a 0)), (1, .int x1), (2, .int x2)]) hx hb dX0_shiftAll_30 rfl hl (by decide) rfl (fun ls hl => ?_)
        refine lv_aload_n hx hb dX0_shiftAll_31 rfl (lv_at hl 1 rfl) ?_
        refine lv_iload_n hx hb dX0_shiftAll_32 rfl (lv_at hl 2 rfl) ?_
        obtain ⟨r33, q33, h⟩ := bd h
        refine k_callV (nC := 6) [oX0 a a_series a_pieces a_trial a_moves g_day, ar cI (a 2) 8 g_rooms, ar cI (a 6) 100 g_moveDays, cR cI a_pieces 42 v_pieces, cR cI a_trial 42 v_trial, cR cI a_moves 100 v_moves] C hl.1 (tX0_loadOf (a := a) (a_series := a_series) (a_pieces := a_pieces) (a_trial := a_trial) (a_moves := a_moves) q33) mL_X0_95 mmX0_loadOf rfl rfl ⟨Nat.le_of_ble_eq_true rfl, Nat.le_of_ble_eq_true rfl⟩ rfl rfl rfl rfl (Nat.le_of_ble_eq_true rfl) hA hw27 [0, 3] [1, 2, 4, 5] rfl (by decide +kernel) rfl rfl rfl rfl dX0_shiftAll_33 (fun H locs hw33 => ?_)
        refine lv_aload_n hx hb dX0_shiftAll_36 rfl (lv_at hl 1 rfl) ?_
        refine lv_iload_n hx hb dX0_shiftAll_37 rfl (lv_at hl 3 rfl) ?_
        obtain ⟨r38, q38, h⟩ := bd h
        refine k_callV (nC := 6) [oX0 a a_series a_pieces a_trial a_moves g_day, ar cI (a 2) 8 g_rooms, ar cI (a 6) 100 g_moveDays, cR cI a_pieces 42 v_pieces, cR cI a_trial 42 v_trial, cR cI a_moves 100 v_moves] C hl.1 (tX0_freeIn (a := a) (a_series := a_series) (a_pieces := a_pieces) (a_trial := a_trial) (a_moves := a_moves) q38) mL_X0_98 mmX0_freeIn rfl rfl ⟨Nat.le_of_ble_eq_true rfl, Nat.le_of_ble_eq_true rfl⟩ rfl rfl rfl rfl (Nat.le_of_ble_eq_true rfl) hA hw33 [0, 1, 3] [2, 4, 5] rfl (by decide +kernel) rfl rfl rfl rfl dX0_shiftAll_38 (fun H locs hw38 => ?_)
        refine lv_icmp_gt (tgt := 58) hx hb dX0_shiftAll_41 (by decide) (fun c41 => ?_) (fun c41 => ?_)
        · replace h := br_t' h c41
          refine lv_bipush (v := (-5)) hx hb dX0_shiftAll_58 (by decide) ?_
          cases h
          exact k_iret C hw38 dX0_shiftAll_60
        · replace h := br_f' h c41
          refine lv_aload_n hx hb dX0_shiftAll_44 rfl (lv_at hl 1 rfl) ?_
          refine k_get C inT_X0 hw38 0 rfl rfl 4 (by decide) mF_X0_30 rfl dX0_shiftAll_45 ?_
          obtain ⟨r48, q48, h⟩ := bd h
          refine k_callV (nC := 6) [oX0 a a_series a_pieces a_trial a_moves g_day, ar cI (a 2) 8 g_rooms, ar cI (a 6) 100 g_moveDays, cR cI a_pieces 42 v_pieces, cR cI a_trial 42 v_trial, cR cI a_moves 100 v_moves] C hl.1 (tX4_size (a := a_moves) q48) mL_X0_43 mmX4_size rfl rfl ⟨Nat.le_of_ble_eq_true rfl, Nat.le_of_ble_eq_true rfl⟩ rfl rfl rfl rfl (Nat.le_of_ble_eq_true rfl) hA hw38 [5] [0, 1, 2, 3, 4] rfl (by decide +kernel) rfl rfl rfl rfl dX0_shiftAll_48 (fun H locs hw48 => ?_)
          refine lv_iload_n hx hb dX0_shiftAll_51 rfl (lv_at hl 0 rfl) ?_
          refine lv_iadd hx hb dX0_shiftAll_52 ?_
          refine lv_bipush (v := 100) hx hb dX0_shiftAll_53 (by decide) ?_
          refine lv_icmp_le (tgt := 61) hx hb dX0_shiftAll_55 (by decide) (fun c55 => ?_) (fun c55 => ?_)
          · replace h := br_t' h c55
            refine lv_iconst (v := 0) hx hb dX0_shiftAll_61 (by decide) ?_
            refine lv_istore (lv' := [(4, .int 0), (3, .int r27), (0, .ref (a 0)), (1, .int x1), (2, .int x2)]) hx hb dX0_shiftAll_62 hl (by decide) rfl (fun ls hl => ?_)
            refine wX0_shiftAll_64 C hA _ (fun x4_64 g_moveDays_64 v_moves_64 H locs ls hw64x hl h => ?_) FU _ _ _ _ _ _ hw48 (lv_sub hl [2, 3, 4, 1, 0] rfl) h
            refine lv_aload_n hx hb dX0_shiftAll_118 rfl (lv_at hl 0 rfl) ?_
            refine k_get C inT_X0 hw64x 0 rfl rfl 3 (by decide) mF_X0_27 rfl dX0_shiftAll_119 ?_
            refine lv_aload_n hx hb dX0_shiftAll_122 rfl (lv_at hl 0 rfl) ?_
            refine k_get C inT_X0 hw64x 0 rfl rfl 2 (by decide) mF_X0_24 rfl dX0_shiftAll_123 ?_
            refine lv_iload_n hx hb dX0_shiftAll_126 rfl (lv_at hl 1 rfl) ?_
            refine lv_iload_n hx hb dX0_shiftAll_127 rfl (lv_at hl 2 rfl) ?_
            obtain ⟨r128, q128, h⟩ := bd h
            refine k_callV (nC := 6) [oX0 a a_series a_pieces a_trial a_moves g_day, ar cI (a 2) 8 g_rooms, ar cI (a 6) 100 g_moveDays_64, cR cI a_pieces 42 v_pieces, cR cI a_trial 42 r128, cR cI a_moves 100 v_moves_64] C hl.1 (tX4_becomeRemarked (a := a_trial) (a_p1 := a_pieces) q128) mL_X0_124 mmX4_becomeRemarked rfl rfl ⟨Nat.le_of_ble_eq_true rfl, Nat.le_of_ble_eq_true rfl⟩ rfl rfl rfl rfl (Nat.le_of_ble_eq_true rfl) hA hw64x [4, 3] [0, 1, 2, 5] rfl (by decide +kernel) rfl rfl rfl rfl dX0_shiftAll_128 (fun H locs hw128 => ?_)
            refine lv_aload_n hx hb dX0_shiftAll_131 rfl (lv_at hl 0 rfl) ?_
            refine k_get C inT_X0 hw128 0 rfl rfl 2 (by decide) mF_X0_24 rfl dX0_shiftAll_132 ?_
            refine lv_aload_n hx hb dX0_shiftAll_135 rfl (lv_at hl 0 rfl) ?_
            refine k_get C inT_X0 hw128 0 rfl rfl 3 (by decide) mF_X0_27 rfl dX0_shiftAll_136 ?_
            obtain ⟨r139, q139, h⟩ := bd h
            refine k_callV (nC := 6) [oX0 a a_series a_pieces a_trial a_moves g_day, ar cI (a 2) 8 g_rooms, ar cI (a 6) 100 g_moveDays_64, cR cI a_pieces 42 r139, cR cI a_trial 42 r128, cR cI a_moves 100 v_moves_64] C hl.1 (tX4_copyFrom (a := a_pieces) (a_p1 := a_trial) q139) mL_X0_57 mmX4_copyFrom rfl rfl ⟨Nat.le_of_ble_eq_true rfl, Nat.le_of_ble_eq_true rfl⟩ rfl rfl rfl rfl (Nat.le_of_ble_eq_true rfl) hA hw128 [3, 4] [0, 1, 2, 5] rfl (by decide +kernel) rfl rfl rfl rfl dX0_shiftAll_139 (fun H locs hw139 => ?_)
            refine lv_iload_n hx hb dX0_shiftAll_142 rfl (lv_at hl 3 rfl) ?_
            cases h
            exact k_iret C hw139 dX0_shiftAll_143
          · replace h := br_f' h c55
            refine lv_bipush (v := (-5)) hx hb dX0_shiftAll_58 (by decide) ?_
            cases h
            exact k_iret C hw48 dX0_shiftAll_60
      · replace h := br_t' h c16
        refine lv_bipush (v := (-2)) hx hb dX0_shiftAll_19 (by decide) ?_
        cases h
        exact k_iret C hw8 dX0_shiftAll_21
def rmX0_layEach : Room := { frames := 4, cells := 0, slots := 0, locals := 95 }
def fX0_layEach_2 (Np1 : Nat) (g_day : Int32) (v_p1 : Rg) : (n : Nat) → (k : Int32 → (Nat → Int32) → Rg → Rg → Rg → Option (Int32 × (Nat → Int32) × Rg × Rg × Rg)) → Int32 → (Nat → Int32) → Rg → Rg → Rg → Option (Int32 × (Nat → Int32) × Rg × Rg × Rg)
  | 0, _, _, _, _, _, _ => none
  | n + 1, k, x2, g_moveDays, v_pieces, v_trial, v_moves =>
    (fX4_size Np1 v_p1).bind fun r4 =>
    if r4 ≤ x2 then
      k x2 g_moveDays v_pieces v_trial v_moves
    else
      (fX4_markOf Np1 v_p1 x2).bind fun r13 =>
      (fX4_firstOf Np1 v_p1 x2).bind fun r18 =>
      (fX4_lastOf Np1 v_p1 x2).bind fun r23 =>
      (fX0_bring g_moveDays g_day v_pieces v_trial v_moves r13 r18 r23).bind fun r26 =>
      if r26.1 = 0 then
        some ((-5), r26.2.1, r26.2.2.1, r26.2.2.2.1, r26.2.2.2.2)
      else
        fX0_layEach_2 Np1 g_day v_p1 n k (x2 + 1) r26.2.1 r26.2.2.1 r26.2.2.2.1 r26.2.2.2.2
set_option maxRecDepth 100000 in
set_option maxHeartbeats 4000000 in
theorem wX0_layEach_2 {p : Program} {l : Launch} {e : Env} {s : State} {m : MethodId} {args : Array Value} {below : List Frame} {meth : Method} {c : Code} {D : va_G} {cI : ClassId} {cS : GS} {A : Nat → Prop} {a : Nat → Nat} {a_series : Nat → Nat} {a_pieces : Nat → Nat} {a_trial : Nat → Nat} {a_moves : Nat → Nat} {a_p1 : Nat → Nat} {Np1 : Nat} {g_day : Int32} {v_p1 : Rg} (C : MC p s m args meth c D cI cS A RX0 cX0_layEach 3 (some .int)) (hA : ∀ q, s.heap.size ≤ q → A q) {s0 : Int32} {s1 : (Nat → Int32)} {s2 : Rg} {s3 : Rg} {s4 : Rg} (k : Int32 → (Nat → Int32) → Rg → Rg → Rg → Option (Int32 × (Nat → Int32) × Rg × Rg × Rg)) (hk : ∀ (x2 : Int32) (g_moveDays : Nat → Int32) (v_pieces : Rg) (v_trial : Rg) (v_moves : Rg) (H : Heap) (locs : List Loc) (ls : Array Slot), Wd D A s.heap H locs [oX0 a a_series a_pieces a_trial a_moves g_day, ar cI (a 6) 100 g_moveDays, cR cI a_pieces 42 v_pieces, cR cI a_trial 42 v_trial, cR cI a_moves 100 v_moves, cR cI a_p1 Np1 v_p1] → lv_has ls 3 [(0, .ref (a 0)), (1, .ref (a_p1 0)), (2, .int x2)] → k x2 g_moveDays v_pieces v_trial v_moves = some (s0, s1, s2, s3, s4) → W p l e rmX0_layEach s m args below meth c H locs 0 0 (KQ D A below args s (some (.int s0)) [oX0 a a_series a_pieces a_trial a_moves g_day, ar cI (a 6) 100 s1, cR cI a_pieces 42 s2, cR cI a_trial 42 s3, cR cI a_moves 100 s4, cR cI a_p1 Np1 v_p1]) (F0 m 41 ls [])) :
    ∀ (n : Nat) (x2 : Int32) (g_moveDays : Nat → Int32) (v_pieces : Rg) (v_trial : Rg) (v_moves : Rg) (H : Heap) (locs : List Loc) (ls : Array Slot), Wd D A s.heap H locs [oX0 a a_series a_pieces a_trial a_moves g_day, ar cI (a 6) 100 g_moveDays, cR cI a_pieces 42 v_pieces, cR cI a_trial 42 v_trial, cR cI a_moves 100 v_moves, cR cI a_p1 Np1 v_p1] → lv_has ls 3 [(0, .ref (a 0)), (1, .ref (a_p1 0)), (2, .int x2)] → fX0_layEach_2 Np1 g_day v_p1 n k x2 g_moveDays v_pieces v_trial v_moves = some (s0, s1, s2, s3, s4) → W p l e rmX0_layEach s m args below meth c H locs 0 0 (KQ D A below args s (some (.int s0)) [oX0 a a_series a_pieces a_trial a_moves g_day, ar cI (a 6) 100 s1, cR cI a_pieces 42 s2, cR cI a_trial 42 s3, cR cI a_moves 100 s4, cR cI a_p1 Np1 v_p1]) (F0 m 2 ls []) := by
  have hx := C.1.1
  have hb := C.1.2.1
  intro n
  induction n with
  | zero =>
    intro x2 g_moveDays v_pieces v_trial v_moves H locs ls hw hl h
    rw [fX0_layEach_2] at h
    cases h
  | succ n ih =>
    intro x2 g_moveDays v_pieces v_trial v_moves H locs ls hw hl h
    rw [fX0_layEach_2] at h
    refine lv_iload_n hx hb dX0_layEach_2 rfl (lv_at hl 2 rfl) ?_
    refine lv_aload_n hx hb dX0_layEach_3 rfl (lv_at hl 1 rfl) ?_
    obtain ⟨r4, q4, h⟩ := bd h
    refine k_callV (nC := 6) [oX0 a a_series a_pieces a_trial a_moves g_day, ar cI (a 6) 100 g_moveDays, cR cI a_pieces 42 v_pieces, cR cI a_trial 42 v_trial, cR cI a_moves 100 v_moves, cR cI a_p1 Np1 v_p1] C hl.1 (tX4_size (a := a_p1) q4) mL_X0_43 mmX4_size rfl rfl ⟨Nat.le_of_ble_eq_true rfl, Nat.le_of_ble_eq_true rfl⟩ rfl rfl rfl rfl (Nat.le_of_ble_eq_true rfl) hA hw [5] [0, 1, 2, 3, 4] rfl (by decide +kernel) rfl rfl rfl rfl dX0_layEach_4 (fun H locs hw4 => ?_)
    refine lv_icmp_ge (tgt := 41) hx hb dX0_layEach_7 (by decide) (fun c7 => ?_) (fun c7 => ?_)
    · replace h := br_t' h c7
      exact hk _ _ _ _ _ _ _ _ hw4 (lv_sub hl [0, 1, 2] rfl) h
    · replace h := br_f' h c7
      refine lv_aload_n hx hb dX0_layEach_10 rfl (lv_at hl 0 rfl) ?_
      refine lv_aload_n hx hb dX0_layEach_11 rfl (lv_at hl 1 rfl) ?_
      refine lv_iload_n hx hb dX0_layEach_12 rfl (lv_at hl 2 rfl) ?_
      obtain ⟨r13, q13, h⟩ := bd h
      refine k_callV (nC := 6) [oX0 a a_series a_pieces a_trial a_moves g_day, ar cI (a 6) 100 g_moveDays, cR cI a_pieces 42 v_pieces, cR cI a_trial 42 v_trial, cR cI a_moves 100 v_moves, cR cI a_p1 Np1 v_p1] C hl.1 (tX4_markOf (a := a_p1) q13) mL_X0_115 mmX4_markOf rfl rfl ⟨Nat.le_of_ble_eq_true rfl, Nat.le_of_ble_eq_true rfl⟩ rfl rfl rfl rfl (Nat.le_of_ble_eq_true rfl) hA hw4 [5] [0, 1, 2, 3, 4] rfl (by decide +kernel) rfl rfl rfl rfl dX0_layEach_13 (fun H locs hw13 => ?_)
      refine lv_aload_n hx hb dX0_layEach_16 rfl (lv_at hl 1 rfl) ?_
      refine lv_iload_n hx hb dX0_layEach_17 rfl (lv_at hl 2 rfl) ?_
      obtain ⟨r18, q18, h⟩ := bd h
      refine k_callV (nC := 6) [oX0 a a_series a_pieces a_trial a_moves g_day, ar cI (a 6) 100 g_moveDays, cR cI a_pieces 42 v_pieces, cR cI a_trial 42 v_trial, cR cI a_moves 100 v_moves, cR cI a_p1 Np1 v_p1] C hl.1 (tX4_firstOf (a := a_p1) q18) mL_X0_118 mmX4_firstOf rfl rfl ⟨Nat.le_of_ble_eq_true rfl, Nat.le_of_ble_eq_true rfl⟩ rfl rfl rfl rfl (Nat.le_of_ble_eq_true rfl) hA hw13 [5] [0, 1, 2, 3, 4] rfl (by decide +kernel) rfl rfl rfl rfl dX0_layEach_18 (fun H locs hw18 => ?_)
      refine lv_aload_n hx hb dX0_layEach_21 rfl (lv_at hl 1 rfl) ?_
      refine lv_iload_n hx hb dX0_layEach_22 rfl (lv_at hl 2 rfl) ?_
      obtain ⟨r23, q23, h⟩ := bd h
      refine k_callV (nC := 6) [oX0 a a_series a_pieces a_trial a_moves g_day, ar cI (a 6) 100 g_moveDays, cR cI a_pieces 42 v_pieces, cR cI a_trial 42 v_trial, cR cI a_moves 100 v_moves, cR cI a_p1 Np1 v_p1] C hl.1 (tX4_lastOf (a := a_p1) q23) mL_X0_121 mmX4_lastOf rfl rfl ⟨Nat.le_of_ble_eq_true rfl, Nat.le_of_ble_eq_true rfl⟩ rfl rfl rfl rfl (Nat.le_of_ble_eq_true rfl) hA hw18 [5] [0, 1, 2, 3, 4] rfl (by decide +kernel) rfl rfl rfl rfl dX0_layEach_23 (fun H locs hw23 => ?_)
      obtain ⟨r26, q26, h⟩ := bd h
      refine k_callV (nC := 6) [oX0 a a_series a_pieces a_trial a_moves g_day, ar cI (a 6) 100 r26.2.1, cR cI a_pieces 42 r26.2.2.1, cR cI a_trial 42 r26.2.2.2.1, cR cI a_moves 100 r26.2.2.2.2, cR cI a_p1 Np1 v_p1] C hl.1 (tX0_bring (a := a) (a_series := a_series) (a_pieces := a_pieces) (a_trial := a_trial) (a_moves := a_moves) q26) mL_X0_101 mmX0_bring rfl rfl ⟨Nat.le_of_ble_eq_true rfl, Nat.le_of_ble_eq_true rfl⟩ rfl rfl rfl rfl (Nat.le_of_ble_eq_true rfl) hA hw23 [0, 1, 2, 3, 4] [5] rfl (by decide +kernel) rfl rfl rfl rfl dX0_layEach_26 (fun H locs hw26 => ?_)
      refine lv_if_ne (tgt := 35) hx hb dX0_layEach_29 (by decide) (fun c29 => ?_) (fun c29 => ?_)
      · replace h := br_f' h c29
        refine lv_iinc (v := (x2 + 1)) (lv' := [(2, .int (x2 + 1)), (0, .ref (a 0)), (1, .ref (a_p1 0))]) hx hb dX0_layEach_35 hl (k := 2) rfl rfl (by decide) rfl (fun ls hl => ?_)
        refine lv_goto (tgt := 2) hx hb dX0_layEach_38 (by decide) ?_
        exact ih _ _ _ _ _ _ _ _ hw26 (lv_sub hl [1, 2, 0] rfl) h
      · replace h := br_t' h c29
        refine lv_bipush (v := (-5)) hx hb dX0_layEach_32 (by decide) ?_
        cases h
        exact k_iret C hw26 dX0_layEach_34
def fX0_layEach (Np1 : Nat) (g_moveDays : Nat → Int32) (g_day : Int32) (v_pieces : Rg) (v_trial : Rg) (v_moves : Rg) (v_p1 : Rg) : Option (Int32 × (Nat → Int32) × Rg × Rg × Rg) :=
  fX0_layEach_2 Np1 g_day v_p1 FU (fun x2_2 g_moveDays_2 v_pieces_2 v_trial_2 v_moves_2 =>
    (fX4_size Np1 v_p1).bind fun r42 =>
    some (r42, g_moveDays_2, v_pieces_2, v_trial_2, v_moves_2)) 0 g_moveDays v_pieces v_trial v_moves
set_option maxRecDepth 100000 in
set_option maxHeartbeats 4000000 in
theorem tX0_layEach {l : Launch} {D : va_G} {cI : ClassId} {cS : GS} {a : Nat → Nat} {a_series : Nat → Nat} {a_pieces : Nat → Nat} {a_trial : Nat → Nat} {a_moves : Nat → Nat} {a_p1 : Nat → Nat} {Np1 : Nat} {g_moveDays : Nat → Int32} {g_day : Int32} {v_pieces : Rg} {v_trial : Rg} {v_moves : Rg} {v_p1 : Rg}  {s0 : Int32} {s1 : (Nat → Int32)} {s2 : Rg} {s3 : Rg} {s4 : Rg} (h : fX0_layEach Np1 g_moveDays g_day v_pieces v_trial v_moves v_p1 = some (s0, s1, s2, s3, s4)) : CT l D cI cS yX0_layEach cX0_layEach 3 (some .int) rmX0_layEach [.ref (a 0), .ref (a_p1 0)] [oX0 a a_series a_pieces a_trial a_moves g_day, ar cI (a 6) 100 g_moveDays, cR cI a_pieces 42 v_pieces, cR cI a_trial 42 v_trial, cR cI a_moves 100 v_moves, cR cI a_p1 Np1 v_p1] (some (.int s0)) [oX0 a a_series a_pieces a_trial a_moves g_day, ar cI (a 6) 100 s1, cR cI a_pieces 42 s2, cR cI a_trial 42 s3, cR cI a_moves 100 s4, cR cI a_p1 Np1 v_p1] := by
  refine CT.of RX0 (by decide) rfl (Nat.le_of_ble_eq_true rfl) (fun p e s m below meth c ls A C hA hl hw => ?_)
  have hx := C.1.1
  have hb := C.1.2.1
  have hl : lv_has ls 3 [(0, .ref (a 0)), (1, .ref (a_p1 0))] := hl
  unfold fX0_layEach at h
  refine lv_iconst (v := 0) hx hb dX0_layEach_0 (by decide) ?_
  refine lv_istore_n (lv' := [(2, .int 0), (0, .ref (a 0)), (1, .ref (a_p1 0))]) hx hb dX0_layEach_1 rfl hl (by decide) rfl (fun ls hl => ?_)
  refine wX0_layEach_2 C hA _ (fun x2_2 g_moveDays_2 v_pieces_2 v_trial_2 v_moves_2 H locs ls hw2x hl h => ?_) FU _ _ _ _ _ _ _ _ hw (lv_sub hl [1, 2, 0] rfl) h
  refine lv_aload_n hx hb dX0_layEach_41 rfl (lv_at hl 1 rfl) ?_
  obtain ⟨r42, q42, h⟩ := bd h
  refine k_callV (nC := 6) [oX0 a a_series a_pieces a_trial a_moves g_day, ar cI (a 6) 100 g_moveDays_2, cR cI a_pieces 42 v_pieces_2, cR cI a_trial 42 v_trial_2, cR cI a_moves 100 v_moves_2, cR cI a_p1 Np1 v_p1] C hl.1 (tX4_size (a := a_p1) q42) mL_X0_43 mmX4_size rfl rfl ⟨Nat.le_of_ble_eq_true rfl, Nat.le_of_ble_eq_true rfl⟩ rfl rfl rfl rfl (Nat.le_of_ble_eq_true rfl) hA hw2x [5] [0, 1, 2, 3, 4] rfl (by decide +kernel) rfl rfl rfl rfl dX0_layEach_42 (fun H locs hw42 => ?_)
  cases h
  exact k_iret C hw42 dX0_layEach_45
def rmX0_letPass : Room := { frames := 0, cells := 0, slots := 0, locals := 0 }
def fX0_letPass (g_day : Int32) (x1 : Int32) : Option (Int32 × Int32) :=
  if x1 < 1 then
    some ((-3), g_day)
  else
    if x1 ≤ 999 then
      some ((g_day + x1), (g_day + x1))
    else
      some ((-3), g_day)
set_option maxRecDepth 100000 in
set_option maxHeartbeats 4000000 in
theorem tX0_letPass {l : Launch} {D : va_G} {cI : ClassId} {cS : GS} {a : Nat → Nat} {a_series : Nat → Nat} {a_pieces : Nat → Nat} {a_trial : Nat → Nat} {a_moves : Nat → Nat} {g_day : Int32} {x1 : Int32} {s0 : Int32} {s1 : Int32} (h : fX0_letPass g_day x1 = some (s0, s1)) : CT l D cI cS yX0_letPass cX0_letPass 2 (some .int) rmX0_letPass [.ref (a 0), .int x1] [oX0 a a_series a_pieces a_trial a_moves g_day] (some (.int s0)) [oX0 a a_series a_pieces a_trial a_moves s1] := by
  refine CT.of RX0 (by decide) rfl (Nat.le_of_ble_eq_true rfl) (fun p e s m below meth c ls A C hA hl hw => ?_)
  have hx := C.1.1
  have hb := C.1.2.1
  have hl : lv_has ls 2 [(0, .ref (a 0)), (1, .int x1)] := hl
  unfold fX0_letPass at h
  refine lv_iload_n hx hb dX0_letPass_0 rfl (lv_at hl 1 rfl) ?_
  refine lv_iconst (v := 1) hx hb dX0_letPass_1 (by decide) ?_
  refine lv_icmp_lt (tgt := 12) hx hb dX0_letPass_2 (by decide) (fun c2 => ?_) (fun c2 => ?_)
  · replace h := br_t' h c2
    refine lv_bipush (v := (-3)) hx hb dX0_letPass_12 (by decide) ?_
    cases h
    exact k_iret C hw dX0_letPass_14
  · replace h := br_f' h c2
    refine lv_iload_n hx hb dX0_letPass_5 rfl (lv_at hl 1 rfl) ?_
    refine lv_sipush (v := 999) hx hb dX0_letPass_6 (by decide) ?_
    refine lv_icmp_le (tgt := 15) hx hb dX0_letPass_9 (by decide) (fun c9 => ?_) (fun c9 => ?_)
    · replace h := br_t' h c9
      refine lv_aload_n hx hb dX0_letPass_15 rfl (lv_at hl 0 rfl) ?_
      refine lv_dup hx hb dX0_letPass_16 rfl ?_
      refine k_get C inT_X0 hw 0 rfl rfl 6 (by decide) mF_X0_36 rfl dX0_letPass_17 ?_
      refine lv_iload_n hx hb dX0_letPass_20 rfl (lv_at hl 1 rfl) ?_
      refine lv_iadd hx hb dX0_letPass_21 ?_
      refine k_put C inT_X0 tyX0 tyX0_ok nmX0 hw 0 rfl rfl 6 (by decide) mF_X0_36 rfl rfl (Nat.le_of_ble_eq_true rfl) [oX0 a a_series a_pieces a_trial a_moves (g_day + x1)] rfl dX0_letPass_22 (fun H locs hw22 => ?_)
      refine lv_aload_n hx hb dX0_letPass_25 rfl (lv_at hl 0 rfl) ?_
      refine k_get C inT_X0 hw22 0 rfl rfl 6 (by decide) mF_X0_36 rfl dX0_letPass_26 ?_
      cases h
      exact k_iret C hw22 dX0_letPass_29
    · replace h := br_f' h c9
      refine lv_bipush (v := (-3)) hx hb dX0_letPass_12 (by decide) ?_
      cases h
      exact k_iret C hw dX0_letPass_14
def rmX0_pieces : Room := { frames := 0, cells := 0, slots := 0, locals := 0 }
def fX0_pieces  : Option (Unit) :=
  some ()
set_option maxRecDepth 100000 in
set_option maxHeartbeats 4000000 in
theorem tX0_pieces {l : Launch} {D : va_G} {cI : ClassId} {cS : GS} {a : Nat → Nat} {a_series : Nat → Nat} {a_pieces : Nat → Nat} {a_trial : Nat → Nat} {a_moves : Nat → Nat} {g_day : Int32}   (h : fX0_pieces  = some ()) : CT l D cI cS yX0_pieces cX0_pieces 1 (some (.object "BoxedPapers$Ranges")) rmX0_pieces [.ref (a 0)] [oX0 a a_series a_pieces a_trial a_moves g_day] (some (.ref (a_pieces 0))) [oX0 a a_series a_pieces a_trial a_moves g_day] := by
  refine CT.of RX0 (by decide) rfl (Nat.le_of_ble_eq_true rfl) (fun p e s m below meth c ls A C hA hl hw => ?_)
  have hx := C.1.1
  have hb := C.1.2.1
  have hl : lv_has ls 1 [(0, .ref (a 0))] := hl
  unfold fX0_pieces at h
  refine lv_aload_n hx hb dX0_pieces_0 rfl (lv_at hl 0 rfl) ?_
  refine k_get C inT_X0 hw 0 rfl rfl 2 (by decide) mF_X0_24 rfl dX0_pieces_1 ?_
  cases h
  exact k_aret C (Or.inr ⟨_, rfl⟩) hw dX0_pieces_4
def rmX0_moves : Room := { frames := 0, cells := 0, slots := 0, locals := 0 }
def fX0_moves  : Option (Unit) :=
  some ()
set_option maxRecDepth 100000 in
set_option maxHeartbeats 4000000 in
theorem tX0_moves {l : Launch} {D : va_G} {cI : ClassId} {cS : GS} {a : Nat → Nat} {a_series : Nat → Nat} {a_pieces : Nat → Nat} {a_trial : Nat → Nat} {a_moves : Nat → Nat} {g_day : Int32}   (h : fX0_moves  = some ()) : CT l D cI cS yX0_moves cX0_moves 1 (some (.object "BoxedPapers$Ranges")) rmX0_moves [.ref (a 0)] [oX0 a a_series a_pieces a_trial a_moves g_day] (some (.ref (a_moves 0))) [oX0 a a_series a_pieces a_trial a_moves g_day] := by
  refine CT.of RX0 (by decide) rfl (Nat.le_of_ble_eq_true rfl) (fun p e s m below meth c ls A C hA hl hw => ?_)
  have hx := C.1.1
  have hb := C.1.2.1
  have hl : lv_has ls 1 [(0, .ref (a 0))] := hl
  unfold fX0_moves at h
  refine lv_aload_n hx hb dX0_moves_0 rfl (lv_at hl 0 rfl) ?_
  refine k_get C inT_X0 hw 0 rfl rfl 4 (by decide) mF_X0_30 rfl dX0_moves_1 ?_
  cases h
  exact k_aret C (Or.inr ⟨_, rfl⟩) hw dX0_moves_4
def rmX0_allSeries : Room := { frames := 0, cells := 0, slots := 0, locals := 0 }
def fX0_allSeries  : Option (Unit) :=
  some ()
set_option maxRecDepth 100000 in
set_option maxHeartbeats 4000000 in
theorem tX0_allSeries {l : Launch} {D : va_G} {cI : ClassId} {cS : GS} {a : Nat → Nat} {a_series : Nat → Nat} {a_pieces : Nat → Nat} {a_trial : Nat → Nat} {a_moves : Nat → Nat} {g_day : Int32}   (h : fX0_allSeries  = some ()) : CT l D cI cS yX0_allSeries cX0_allSeries 1 (some (.object "BoxedPapers$Ranges")) rmX0_allSeries [.ref (a 0)] [oX0 a a_series a_pieces a_trial a_moves g_day] (some (.ref (a_series 0))) [oX0 a a_series a_pieces a_trial a_moves g_day] := by
  refine CT.of RX0 (by decide) rfl (Nat.le_of_ble_eq_true rfl) (fun p e s m below meth c ls A C hA hl hw => ?_)
  have hx := C.1.1
  have hb := C.1.2.1
  have hl : lv_has ls 1 [(0, .ref (a 0))] := hl
  unfold fX0_allSeries at h
  refine lv_aload_n hx hb dX0_allSeries_0 rfl (lv_at hl 0 rfl) ?_
  refine k_get C inT_X0 hw 0 rfl rfl 0 (by decide) mF_X0_14 rfl dX0_allSeries_1 ?_
  cases h
  exact k_aret C (Or.inr ⟨_, rfl⟩) hw dX0_allSeries_4
def rmX0_today : Room := { frames := 0, cells := 0, slots := 0, locals := 0 }
def fX0_today (g_day : Int32) : Option (Int32) :=
  some g_day
set_option maxRecDepth 100000 in
set_option maxHeartbeats 4000000 in
theorem tX0_today {l : Launch} {D : va_G} {cI : ClassId} {cS : GS} {a : Nat → Nat} {a_series : Nat → Nat} {a_pieces : Nat → Nat} {a_trial : Nat → Nat} {a_moves : Nat → Nat} {g_day : Int32}  {s0 : Int32} (h : fX0_today g_day = some s0) : CT l D cI cS yX0_today cX0_today 1 (some .int) rmX0_today [.ref (a 0)] [oX0 a a_series a_pieces a_trial a_moves g_day] (some (.int s0)) [oX0 a a_series a_pieces a_trial a_moves g_day] := by
  refine CT.of RX0 (by decide) rfl (Nat.le_of_ble_eq_true rfl) (fun p e s m below meth c ls A C hA hl hw => ?_)
  have hx := C.1.1
  have hb := C.1.2.1
  have hl : lv_has ls 1 [(0, .ref (a 0))] := hl
  unfold fX0_today at h
  refine lv_aload_n hx hb dX0_today_0 rfl (lv_at hl 0 rfl) ?_
  refine k_get C inT_X0 hw 0 rfl rfl 6 (by decide) mF_X0_36 rfl dX0_today_1 ?_
  cases h
  exact k_iret C hw dX0_today_4
def rmX0_dayOf : Room := { frames := 0, cells := 0, slots := 0, locals := 0 }
def fX0_dayOf (g_moveDays : Nat → Int32) (x1 : Int32) : Option (Int32) :=
  if x1 < 0 then
    some (-1)
  else
    if (nI 100) ≤ x1 then
      some (-1)
    else
      (ld 100 g_moveDays x1).bind fun y18 =>
      some y18
set_option maxRecDepth 100000 in
set_option maxHeartbeats 4000000 in
theorem tX0_dayOf {l : Launch} {D : va_G} {cI : ClassId} {cS : GS} {a : Nat → Nat} {a_series : Nat → Nat} {a_pieces : Nat → Nat} {a_trial : Nat → Nat} {a_moves : Nat → Nat} {g_moveDays : Nat → Int32} {g_day : Int32} {x1 : Int32} {s0 : Int32} (h : fX0_dayOf g_moveDays x1 = some s0) : CT l D cI cS yX0_dayOf cX0_dayOf 2 (some .int) rmX0_dayOf [.ref (a 0), .int x1] [oX0 a a_series a_pieces a_trial a_moves g_day, ar cI (a 6) 100 g_moveDays] (some (.int s0)) [oX0 a a_series a_pieces a_trial a_moves g_day, ar cI (a 6) 100 g_moveDays] := by
  refine CT.of RX0 (by decide) rfl (Nat.le_of_ble_eq_true rfl) (fun p e s m below meth c ls A C hA hl hw => ?_)
  have hx := C.1.1
  have hb := C.1.2.1
  have hl : lv_has ls 2 [(0, .ref (a 0)), (1, .int x1)] := hl
  unfold fX0_dayOf at h
  refine lv_iload_n hx hb dX0_dayOf_0 rfl (lv_at hl 1 rfl) ?_
  refine lv_if_lt (tgt := 22) hx hb dX0_dayOf_1 (by decide) (fun c1 => ?_) (fun c1 => ?_)
  · replace h := br_t' h c1
    refine lv_iconst (v := (-1)) hx hb dX0_dayOf_22 (by decide) ?_
    cases h
    exact k_iret C hw dX0_dayOf_23
  · replace h := br_f' h c1
    refine lv_iload_n hx hb dX0_dayOf_4 rfl (lv_at hl 1 rfl) ?_
    refine lv_aload_n hx hb dX0_dayOf_5 rfl (lv_at hl 0 rfl) ?_
    refine k_get C inT_X0 hw 0 rfl rfl 5 (by decide) mF_X0_33 rfl dX0_dayOf_6 ?_
    refine k_alen C hw 1 rfl dX0_dayOf_9 ?_
    refine lv_icmp_ge (tgt := 22) hx hb dX0_dayOf_10 (by decide) (fun c10 => ?_) (fun c10 => ?_)
    · replace h := br_t' h c10
      refine lv_iconst (v := (-1)) hx hb dX0_dayOf_22 (by decide) ?_
      cases h
      exact k_iret C hw dX0_dayOf_23
    · replace h := br_f' h c10
      refine lv_aload_n hx hb dX0_dayOf_13 rfl (lv_at hl 0 rfl) ?_
      refine k_get C inT_X0 hw 0 rfl rfl 5 (by decide) mF_X0_33 rfl dX0_dayOf_14 ?_
      refine lv_iload_n hx hb dX0_dayOf_17 rfl (lv_at hl 1 rfl) ?_
      obtain ⟨y18, q18, h⟩ := bd h
      refine k_iald C hw 1 rfl q18 dX0_dayOf_18 ?_
      refine lv_goto (tgt := 23) hx hb dX0_dayOf_19 (by decide) ?_
      cases h
      exact k_iret C hw dX0_dayOf_23
def rmX0_seriesCount : Room := { frames := 1, cells := 0, slots := 0, locals := 20 }
def fX0_seriesCount (v_series : Rg) : Option (Int32) :=
  (fX4_size 10 v_series).bind fun r4 =>
  some r4
set_option maxRecDepth 100000 in
set_option maxHeartbeats 4000000 in
theorem tX0_seriesCount {l : Launch} {D : va_G} {cI : ClassId} {cS : GS} {a : Nat → Nat} {a_series : Nat → Nat} {a_pieces : Nat → Nat} {a_trial : Nat → Nat} {a_moves : Nat → Nat} {g_day : Int32} {v_series : Rg}  {s0 : Int32} (h : fX0_seriesCount v_series = some s0) : CT l D cI cS yX0_seriesCount cX0_seriesCount 1 (some .int) rmX0_seriesCount [.ref (a 0)] [oX0 a a_series a_pieces a_trial a_moves g_day, cR cI a_series 10 v_series] (some (.int s0)) [oX0 a a_series a_pieces a_trial a_moves g_day, cR cI a_series 10 v_series] := by
  refine CT.of RX0 (by decide) rfl (Nat.le_of_ble_eq_true rfl) (fun p e s m below meth c ls A C hA hl hw => ?_)
  have hx := C.1.1
  have hb := C.1.2.1
  have hl : lv_has ls 1 [(0, .ref (a 0))] := hl
  unfold fX0_seriesCount at h
  refine lv_aload_n hx hb dX0_seriesCount_0 rfl (lv_at hl 0 rfl) ?_
  refine k_get C inT_X0 hw 0 rfl rfl 0 (by decide) mF_X0_14 rfl dX0_seriesCount_1 ?_
  obtain ⟨r4, q4, h⟩ := bd h
  refine k_callV (nC := 2) [oX0 a a_series a_pieces a_trial a_moves g_day, cR cI a_series 10 v_series] C hl.1 (tX4_size (a := a_series) q4) mL_X0_43 mmX4_size rfl rfl ⟨Nat.le_of_ble_eq_true rfl, Nat.le_of_ble_eq_true rfl⟩ rfl rfl rfl rfl (Nat.le_of_ble_eq_true rfl) hA hw [1] [0] rfl (by decide +kernel) rfl rfl rfl rfl dX0_seriesCount_4 (fun H locs hw4 => ?_)
  cases h
  exact k_iret C hw4 dX0_seriesCount_7
def rmX0_parentOf : Room := { frames := 2, cells := 0, slots := 0, locals := 42 }
def fX0_parentOf (v_series : Rg) (x1 : Int32) : Option (Int32) :=
  (fX4_markOf 10 v_series x1).bind fun r5 =>
  some r5
set_option maxRecDepth 100000 in
set_option maxHeartbeats 4000000 in
theorem tX0_parentOf {l : Launch} {D : va_G} {cI : ClassId} {cS : GS} {a : Nat → Nat} {a_series : Nat → Nat} {a_pieces : Nat → Nat} {a_trial : Nat → Nat} {a_moves : Nat → Nat} {g_day : Int32} {v_series : Rg} {x1 : Int32} {s0 : Int32} (h : fX0_parentOf v_series x1 = some s0) : CT l D cI cS yX0_parentOf cX0_parentOf 2 (some .int) rmX0_parentOf [.ref (a 0), .int x1] [oX0 a a_series a_pieces a_trial a_moves g_day, cR cI a_series 10 v_series] (some (.int s0)) [oX0 a a_series a_pieces a_trial a_moves g_day, cR cI a_series 10 v_series] := by
  refine CT.of RX0 (by decide) rfl (Nat.le_of_ble_eq_true rfl) (fun p e s m below meth c ls A C hA hl hw => ?_)
  have hx := C.1.1
  have hb := C.1.2.1
  have hl : lv_has ls 2 [(0, .ref (a 0)), (1, .int x1)] := hl
  unfold fX0_parentOf at h
  refine lv_aload_n hx hb dX0_parentOf_0 rfl (lv_at hl 0 rfl) ?_
  refine k_get C inT_X0 hw 0 rfl rfl 0 (by decide) mF_X0_14 rfl dX0_parentOf_1 ?_
  refine lv_iload_n hx hb dX0_parentOf_4 rfl (lv_at hl 1 rfl) ?_
  obtain ⟨r5, q5, h⟩ := bd h
  refine k_callV (nC := 2) [oX0 a a_series a_pieces a_trial a_moves g_day, cR cI a_series 10 v_series] C hl.1 (tX4_markOf (a := a_series) q5) mL_X0_115 mmX4_markOf rfl rfl ⟨Nat.le_of_ble_eq_true rfl, Nat.le_of_ble_eq_true rfl⟩ rfl rfl rfl rfl (Nat.le_of_ble_eq_true rfl) hA hw [1] [0] rfl (by decide +kernel) rfl rfl rfl rfl dX0_parentOf_5 (fun H locs hw5 => ?_)
  cases h
  exact k_iret C hw5 dX0_parentOf_8
def rmX0_childrenOf : Room := { frames := 2, cells := 0, slots := 0, locals := 42 }
def fX0_childrenOf_4 (v_series : Rg) (x1 : Int32) : (n : Nat) → (k : Int32 → Int32 → Option (Int32)) → Int32 → Int32 → Option (Int32)
  | 0, _, _, _ => none
  | n + 1, k, x2, x3 =>
    (fX4_size 10 v_series).bind fun r9 =>
    if r9 ≤ x3 then
      k x2 x3
    else
      (fX4_markOf 10 v_series x3).bind fun r20 =>
      if r20 = x1 then
        fX0_childrenOf_4 v_series x1 n k (x2 ||| (1 <<< (x3 &&& 31))) (x3 + 1)
      else
        fX0_childrenOf_4 v_series x1 n k x2 (x3 + 1)
set_option maxRecDepth 100000 in
set_option maxHeartbeats 4000000 in
theorem wX0_childrenOf_4 {p : Program} {l : Launch} {e : Env} {s : State} {m : MethodId} {args : Array Value} {below : List Frame} {meth : Method} {c : Code} {D : va_G} {cI : ClassId} {cS : GS} {A : Nat → Prop} {a : Nat → Nat} {a_series : Nat → Nat} {a_pieces : Nat → Nat} {a_trial : Nat → Nat} {a_moves : Nat → Nat} {g_day : Int32} {v_series : Rg} {x1 : Int32} (C : MC p s m args meth c D cI cS A RX0 cX0_childrenOf 4 (some .int)) (hA : ∀ q, s.heap.size ≤ q → A q) {s0 : Int32} (k : Int32 → Int32 → Option (Int32)) (hk : ∀ (x2 : Int32) (x3 : Int32) (H : Heap) (locs : List Loc) (ls : Array Slot), Wd D A s.heap H locs [oX0 a a_series a_pieces a_trial a_moves g_day, cR cI a_series 10 v_series] → lv_has ls 4 [(0, .ref (a 0)), (1, .int x1), (2, .int x2), (3, .int x3)] → k x2 x3 = some s0 → W p l e rmX0_childrenOf s m args below meth c H locs 0 0 (KQ D A below args s (some (.int s0)) [oX0 a a_series a_pieces a_trial a_moves g_day, cR cI a_series 10 v_series]) (F0 m 39 ls [])) :
    ∀ (n : Nat) (x2 : Int32) (x3 : Int32) (H : Heap) (locs : List Loc) (ls : Array Slot), Wd D A s.heap H locs [oX0 a a_series a_pieces a_trial a_moves g_day, cR cI a_series 10 v_series] → lv_has ls 4 [(0, .ref (a 0)), (1, .int x1), (2, .int x2), (3, .int x3)] → fX0_childrenOf_4 v_series x1 n k x2 x3 = some s0 → W p l e rmX0_childrenOf s m args below meth c H locs 0 0 (KQ D A below args s (some (.int s0)) [oX0 a a_series a_pieces a_trial a_moves g_day, cR cI a_series 10 v_series]) (F0 m 4 ls []) := by
  have hx := C.1.1
  have hb := C.1.2.1
  intro n
  induction n with
  | zero =>
    intro x2 x3 H locs ls hw hl h
    rw [fX0_childrenOf_4] at h
    cases h
  | succ n ih =>
    intro x2 x3 H locs ls hw hl h
    rw [fX0_childrenOf_4] at h
    refine lv_iload_n hx hb dX0_childrenOf_4 rfl (lv_at hl 3 rfl) ?_
    refine lv_aload_n hx hb dX0_childrenOf_5 rfl (lv_at hl 0 rfl) ?_
    refine k_get C inT_X0 hw 0 rfl rfl 0 (by decide) mF_X0_14 rfl dX0_childrenOf_6 ?_
    obtain ⟨r9, q9, h⟩ := bd h
    refine k_callV (nC := 2) [oX0 a a_series a_pieces a_trial a_moves g_day, cR cI a_series 10 v_series] C hl.1 (tX4_size (a := a_series) q9) mL_X0_43 mmX4_size rfl rfl ⟨Nat.le_of_ble_eq_true rfl, Nat.le_of_ble_eq_true rfl⟩ rfl rfl rfl rfl (Nat.le_of_ble_eq_true rfl) hA hw [1] [0] rfl (by decide +kernel) rfl rfl rfl rfl dX0_childrenOf_9 (fun H locs hw9 => ?_)
    refine lv_icmp_ge (tgt := 39) hx hb dX0_childrenOf_12 (by decide) (fun c12 => ?_) (fun c12 => ?_)
    · replace h := br_t' h c12
      exact hk _ _ _ _ _ hw9 (lv_sub hl [0, 1, 2, 3] rfl) h
    · replace h := br_f' h c12
      refine lv_aload_n hx hb dX0_childrenOf_15 rfl (lv_at hl 0 rfl) ?_
      refine k_get C inT_X0 hw9 0 rfl rfl 0 (by decide) mF_X0_14 rfl dX0_childrenOf_16 ?_
      refine lv_iload_n hx hb dX0_childrenOf_19 rfl (lv_at hl 3 rfl) ?_
      obtain ⟨r20, q20, h⟩ := bd h
      refine k_callV (nC := 2) [oX0 a a_series a_pieces a_trial a_moves g_day, cR cI a_series 10 v_series] C hl.1 (tX4_markOf (a := a_series) q20) mL_X0_115 mmX4_markOf rfl rfl ⟨Nat.le_of_ble_eq_true rfl, Nat.le_of_ble_eq_true rfl⟩ rfl rfl rfl rfl (Nat.le_of_ble_eq_true rfl) hA hw9 [1] [0] rfl (by decide +kernel) rfl rfl rfl rfl dX0_childrenOf_20 (fun H locs hw20 => ?_)
      refine lv_iload_n hx hb dX0_childrenOf_23 rfl (lv_at hl 1 rfl) ?_
      refine lv_icmp_ne (tgt := 33) hx hb dX0_childrenOf_24 (by decide) (fun c24 => ?_) (fun c24 => ?_)
      · replace h := br_f' h c24
        refine lv_iinc (v := (x3 + 1)) (lv' := [(3, .int (x3 + 1)), (0, .ref (a 0)), (1, .int x1), (2, .int x2)]) hx hb dX0_childrenOf_33 hl (k := 3) rfl rfl (by decide) rfl (fun ls hl => ?_)
        refine lv_goto (tgt := 4) hx hb dX0_childrenOf_36 (by decide) ?_
        exact ih _ _ _ _ _ hw20 (lv_sub hl [1, 2, 3, 0] rfl) h
      · replace h := br_t' h c24
        refine lv_iload_n hx hb dX0_childrenOf_27 rfl (lv_at hl 2 rfl) ?_
        refine lv_iconst (v := 1) hx hb dX0_childrenOf_28 (by decide) ?_
        refine lv_iload_n hx hb dX0_childrenOf_29 rfl (lv_at hl 3 rfl) ?_
        refine lv_ishl hx hb dX0_childrenOf_30 ?_
        refine lv_ior hx hb dX0_childrenOf_31 ?_
        refine lv_istore_n (lv' := [(2, .int (x2 ||| (1 <<< (x3 &&& 31)))), (0, .ref (a 0)), (1, .int x1), (3, .int x3)]) hx hb dX0_childrenOf_32 rfl hl (by decide) rfl (fun ls hl => ?_)
        refine lv_iinc (v := (x3 + 1)) (lv' := [(3, .int (x3 + 1)), (2, .int (x2 ||| (1 <<< (x3 &&& 31)))), (0, .ref (a 0)), (1, .int x1)]) hx hb dX0_childrenOf_33 hl (k := 3) rfl rfl (by decide) rfl (fun ls hl => ?_)
        refine lv_goto (tgt := 4) hx hb dX0_childrenOf_36 (by decide) ?_
        exact ih _ _ _ _ _ hw20 (lv_sub hl [2, 3, 1, 0] rfl) h
def fX0_childrenOf (v_series : Rg) (x1 : Int32) : Option (Int32) :=
  fX0_childrenOf_4 v_series x1 FU (fun x2_4 x3_4 =>
    some x2_4) 0 0
set_option maxRecDepth 100000 in
set_option maxHeartbeats 4000000 in
theorem tX0_childrenOf {l : Launch} {D : va_G} {cI : ClassId} {cS : GS} {a : Nat → Nat} {a_series : Nat → Nat} {a_pieces : Nat → Nat} {a_trial : Nat → Nat} {a_moves : Nat → Nat} {g_day : Int32} {v_series : Rg} {x1 : Int32} {s0 : Int32} (h : fX0_childrenOf v_series x1 = some s0) : CT l D cI cS yX0_childrenOf cX0_childrenOf 4 (some .int) rmX0_childrenOf [.ref (a 0), .int x1] [oX0 a a_series a_pieces a_trial a_moves g_day, cR cI a_series 10 v_series] (some (.int s0)) [oX0 a a_series a_pieces a_trial a_moves g_day, cR cI a_series 10 v_series] := by
  refine CT.of RX0 (by decide) rfl (Nat.le_of_ble_eq_true rfl) (fun p e s m below meth c ls A C hA hl hw => ?_)
  have hx := C.1.1
  have hb := C.1.2.1
  have hl : lv_has ls 4 [(0, .ref (a 0)), (1, .int x1)] := hl
  unfold fX0_childrenOf at h
  refine lv_iconst (v := 0) hx hb dX0_childrenOf_0 (by decide) ?_
  refine lv_istore_n (lv' := [(2, .int 0), (0, .ref (a 0)), (1, .int x1)]) hx hb dX0_childrenOf_1 rfl hl (by decide) rfl (fun ls hl => ?_)
  refine lv_iconst (v := 0) hx hb dX0_childrenOf_2 (by decide) ?_
  refine lv_istore_n (lv' := [(3, .int 0), (2, .int 0), (0, .ref (a 0)), (1, .int x1)]) hx hb dX0_childrenOf_3 rfl hl (by decide) rfl (fun ls hl => ?_)
  refine wX0_childrenOf_4 C hA _ (fun x2_4 x3_4 H locs ls hw4x hl h => ?_) FU _ _ _ _ _ hw (lv_sub hl [2, 3, 1, 0] rfl) h
  refine lv_iload_n hx hb dX0_childrenOf_39 rfl (lv_at hl 2 rfl) ?_
  cases h
  exact k_iret C hw4x dX0_childrenOf_40
def rmX0_ownCount : Room := { frames := 3, cells := 0, slots := 0, locals := 63 }
def fX0_ownCount (v_series : Rg) (x1 : Int32) : Option (Int32) :=
  (fX0_firstIn v_series x1).bind fun r2 =>
  (fX0_lastIn v_series x1).bind fun r8 =>
  (fX4_sheetsIn 10 v_series x1 r2 r8).bind fun r24 =>
  some (((r8 - r2) + 1) - r24)
set_option maxRecDepth 100000 in
set_option maxHeartbeats 4000000 in
theorem tX0_ownCount {l : Launch} {D : va_G} {cI : ClassId} {cS : GS} {a : Nat → Nat} {a_series : Nat → Nat} {a_pieces : Nat → Nat} {a_trial : Nat → Nat} {a_moves : Nat → Nat} {g_day : Int32} {v_series : Rg} {x1 : Int32} {s0 : Int32} (h : fX0_ownCount v_series x1 = some s0) : CT l D cI cS yX0_ownCount cX0_ownCount 4 (some .int) rmX0_ownCount [.ref (a 0), .int x1] [oX0 a a_series a_pieces a_trial a_moves g_day, cR cI a_series 10 v_series] (some (.int s0)) [oX0 a a_series a_pieces a_trial a_moves g_day, cR cI a_series 10 v_series] := by
  refine CT.of RX0 (by decide) rfl (Nat.le_of_ble_eq_true rfl) (fun p e s m below meth c ls A C hA hl hw => ?_)
  have hx := C.1.1
  have hb := C.1.2.1
  have hl : lv_has ls 4 [(0, .ref (a 0)), (1, .int x1)] := hl
  unfold fX0_ownCount at h
  refine lv_aload_n hx hb dX0_ownCount_0 rfl (lv_at hl 0 rfl) ?_
  refine lv_iload_n hx hb dX0_ownCount_1 rfl (lv_at hl 1 rfl) ?_
  obtain ⟨r2, q2, h⟩ := bd h
  refine k_callV (nC := 2) [oX0 a a_series a_pieces a_trial a_moves g_day, cR cI a_series 10 v_series] C hl.1 (tX0_firstIn (a := a) (a_series := a_series) (a_pieces := a_pieces) (a_trial := a_trial) (a_moves := a_moves) q2) mL_X0_76 mmX0_firstIn rfl rfl ⟨Nat.le_of_ble_eq_true rfl, Nat.le_of_ble_eq_true rfl⟩ rfl rfl rfl rfl (Nat.le_of_ble_eq_true rfl) hA hw [0, 1] [] rfl (by decide +kernel) rfl rfl rfl rfl dX0_ownCount_2 (fun H locs hw2 => ?_)
  refine lv_istore_n (lv' := [(2, .int r2), (0, .ref (a 0)), (1, .int x1)]) hx hb dX0_ownCount_5 rfl hl (by decide) rfl (fun ls hl => ?_)
  refine lv_aload_n hx hb dX0_ownCount_6 rfl (lv_at hl 1 rfl) ?_
  refine lv_iload_n hx hb dX0_ownCount_7 rfl (lv_at hl 2 rfl) ?_
  obtain ⟨r8, q8, h⟩ := bd h
  refine k_callV (nC := 2) [oX0 a a_series a_pieces a_trial a_moves g_day, cR cI a_series 10 v_series] C hl.1 (tX0_lastIn (a := a) (a_series := a_series) (a_pieces := a_pieces) (a_trial := a_trial) (a_moves := a_moves) q8) mL_X0_80 mmX0_lastIn rfl rfl ⟨Nat.le_of_ble_eq_true rfl, Nat.le_of_ble_eq_true rfl⟩ rfl rfl rfl rfl (Nat.le_of_ble_eq_true rfl) hA hw2 [0, 1] [] rfl (by decide +kernel) rfl rfl rfl rfl dX0_ownCount_8 (fun H locs hw8 => ?_)
  refine lv_istore_n (lv' := [(3, .int r8), (2, .int r2), (0, .ref (a 0)), (1, .int x1)]) hx hb dX0_ownCount_11 rfl hl (by decide) rfl (fun ls hl => ?_)
  refine lv_iload_n hx hb dX0_ownCount_12 rfl (lv_at hl 0 rfl) ?_
  refine lv_iload_n hx hb dX0_ownCount_13 rfl (lv_at hl 1 rfl) ?_
  refine lv_isub hx hb dX0_ownCount_14 ?_
  refine lv_iconst (v := 1) hx hb dX0_ownCount_15 (by decide) ?_
  refine lv_iadd hx hb dX0_ownCount_16 ?_
  refine lv_aload_n hx hb dX0_ownCount_17 rfl (lv_at hl 2 rfl) ?_
  refine k_get C inT_X0 hw8 0 rfl rfl 0 (by decide) mF_X0_14 rfl dX0_ownCount_18 ?_
  refine lv_iload_n hx hb dX0_ownCount_21 rfl (lv_at hl 3 rfl) ?_
  refine lv_iload_n hx hb dX0_ownCount_22 rfl (lv_at hl 1 rfl) ?_
  refine lv_iload_n hx hb dX0_ownCount_23 rfl (lv_at hl 0 rfl) ?_
  obtain ⟨r24, q24, h⟩ := bd h
  refine k_callV (nC := 2) [oX0 a a_series a_pieces a_trial a_moves g_day, cR cI a_series 10 v_series] C hl.1 (tX4_sheetsIn (a := a_series) q24) mL_X0_83 mmX4_sheetsIn rfl rfl ⟨Nat.le_of_ble_eq_true rfl, Nat.le_of_ble_eq_true rfl⟩ rfl rfl rfl rfl (Nat.le_of_ble_eq_true rfl) hA hw8 [1] [0] rfl (by decide +kernel) rfl rfl rfl rfl dX0_ownCount_24 (fun H locs hw24 => ?_)
  refine lv_isub hx hb dX0_ownCount_27 ?_
  cases h
  exact k_iret C hw24 dX0_ownCount_28
def rmX0_ownIn : Room := { frames := 3, cells := 0, slots := 0, locals := 63 }
def fX0_ownIn_22 (v_series : Rg) (v_pieces : Rg) (x1 : Int32) (x2 : Int32) : (n : Nat) → (k : Int32 → Int32 → Option (Int32)) → Int32 → Int32 → Option (Int32)
  | 0, _, _, _ => none
  | n + 1, k, x3, x4 =>
    (fX4_size 10 v_series).bind fun r28 =>
    if r28 ≤ x4 then
      k x3 x4
    else
      (fX4_markOf 10 v_series x4).bind fun r40 =>
      if r40 = x1 then
        (fX4_firstOf 10 v_series x4).bind fun r59 =>
        (fX4_lastOf 10 v_series x4).bind fun r68 =>
        (fX4_sheetsIn 42 v_pieces x2 r59 r68).bind fun r71 =>
        fX0_ownIn_22 v_series v_pieces x1 x2 n k (x3 - r71) (x4 + 1)
      else
        fX0_ownIn_22 v_series v_pieces x1 x2 n k x3 (x4 + 1)
set_option maxRecDepth 100000 in
set_option maxHeartbeats 4000000 in
theorem wX0_ownIn_22 {p : Program} {l : Launch} {e : Env} {s : State} {m : MethodId} {args : Array Value} {below : List Frame} {meth : Method} {c : Code} {D : va_G} {cI : ClassId} {cS : GS} {A : Nat → Prop} {a : Nat → Nat} {a_series : Nat → Nat} {a_pieces : Nat → Nat} {a_trial : Nat → Nat} {a_moves : Nat → Nat} {g_day : Int32} {v_series : Rg} {v_pieces : Rg} {x1 : Int32} {x2 : Int32} (C : MC p s m args meth c D cI cS A RX0 cX0_ownIn 5 (some .int)) (hA : ∀ q, s.heap.size ≤ q → A q) {s0 : Int32} (k : Int32 → Int32 → Option (Int32)) (hk : ∀ (x3 : Int32) (x4 : Int32) (H : Heap) (locs : List Loc) (ls : Array Slot), Wd D A s.heap H locs [oX0 a a_series a_pieces a_trial a_moves g_day, cR cI a_series 10 v_series, cR cI a_pieces 42 v_pieces] → lv_has ls 5 [(0, .ref (a 0)), (1, .int x1), (2, .int x2), (3, .int x3), (4, .int x4)] → k x3 x4 = some s0 → W p l e rmX0_ownIn s m args below meth c H locs 0 0 (KQ D A below args s (some (.int s0)) [oX0 a a_series a_pieces a_trial a_moves g_day, cR cI a_series 10 v_series, cR cI a_pieces 42 v_pieces]) (F0 m 82 ls [])) :
    ∀ (n : Nat) (x3 : Int32) (x4 : Int32) (H : Heap) (locs : List Loc) (ls : Array Slot), Wd D A s.heap H locs [oX0 a a_series a_pieces a_trial a_moves g_day, cR cI a_series 10 v_series, cR cI a_pieces 42 v_pieces] → lv_has ls 5 [(0, .ref (a 0)), (1, .int x1), (2, .int x2), (3, .int x3), (4, .int x4)] → fX0_ownIn_22 v_series v_pieces x1 x2 n k x3 x4 = some s0 → W p l e rmX0_ownIn s m args below meth c H locs 0 0 (KQ D A below args s (some (.int s0)) [oX0 a a_series a_pieces a_trial a_moves g_day, cR cI a_series 10 v_series, cR cI a_pieces 42 v_pieces]) (F0 m 22 ls []) := by
  have hx := C.1.1
  have hb := C.1.2.1
  intro n
  induction n with
  | zero =>
    intro x3 x4 H locs ls hw hl h
    rw [fX0_ownIn_22] at h
    cases h
  | succ n ih =>
    intro x3 x4 H locs ls hw hl h
    rw [fX0_ownIn_22] at h
    refine lv_iload hx hb dX0_ownIn_22 (lv_at hl 4 rfl) ?_
    refine lv_aload_n hx hb dX0_ownIn_24 rfl (lv_at hl 0 rfl) ?_
    refine k_get C inT_X0 hw 0 rfl rfl 0 (by decide) mF_X0_14 rfl dX0_ownIn_25 ?_
    obtain ⟨r28, q28, h⟩ := bd h
    refine k_callV (nC := 3) [oX0 a a_series a_pieces a_trial a_moves g_day, cR cI a_series 10 v_series, cR cI a_pieces 42 v_pieces] C hl.1 (tX4_size (a := a_series) q28) mL_X0_43 mmX4_size rfl rfl ⟨Nat.le_of_ble_eq_true rfl, Nat.le_of_ble_eq_true rfl⟩ rfl rfl rfl rfl (Nat.le_of_ble_eq_true rfl) hA hw [1] [0, 2] rfl (by decide +kernel) rfl rfl rfl rfl dX0_ownIn_28 (fun H locs hw28 => ?_)
    refine lv_icmp_ge (tgt := 82) hx hb dX0_ownIn_31 (by decide) (fun c31 => ?_) (fun c31 => ?_)
    · replace h := br_t' h c31
      exact hk _ _ _ _ _ hw28 (lv_sub hl [0, 1, 2, 3, 4] rfl) h
    · replace h := br_f' h c31
      refine lv_aload_n hx hb dX0_ownIn_34 rfl (lv_at hl 0 rfl) ?_
      refine k_get C inT_X0 hw28 0 rfl rfl 0 (by decide) mF_X0_14 rfl dX0_ownIn_35 ?_
      refine lv_iload hx hb dX0_ownIn_38 (lv_at hl 4 rfl) ?_
      obtain ⟨r40, q40, h⟩ := bd h
      refine k_callV (nC := 3) [oX0 a a_series a_pieces a_trial a_moves g_day, cR cI a_series 10 v_series, cR cI a_pieces 42 v_pieces] C hl.1 (tX4_markOf (a := a_series) q40) mL_X0_115 mmX4_markOf rfl rfl ⟨Nat.le_of_ble_eq_true rfl, Nat.le_of_ble_eq_true rfl⟩ rfl rfl rfl rfl (Nat.le_of_ble_eq_true rfl) hA hw28 [1] [0, 2] rfl (by decide +kernel) rfl rfl rfl rfl dX0_ownIn_40 (fun H locs hw40 => ?_)
      refine lv_iload_n hx hb dX0_ownIn_43 rfl (lv_at hl 1 rfl) ?_
      refine lv_icmp_ne (tgt := 76) hx hb dX0_ownIn_44 (by decide) (fun c44 => ?_) (fun c44 => ?_)
      · replace h := br_f' h c44
        refine lv_iinc (v := (x4 + 1)) (lv' := [(4, .int (x4 + 1)), (0, .ref (a 0)), (1, .int x1), (2, .int x2), (3, .int x3)]) hx hb dX0_ownIn_76 hl (k := 4) rfl rfl (by decide) rfl (fun ls hl => ?_)
        refine lv_goto (tgt := 22) hx hb dX0_ownIn_79 (by decide) ?_
        exact ih _ _ _ _ _ hw40 (lv_sub hl [1, 2, 3, 4, 0] rfl) h
      · replace h := br_t' h c44
        refine lv_iload_n hx hb dX0_ownIn_47 rfl (lv_at hl 3 rfl) ?_
        refine lv_aload_n hx hb dX0_ownIn_48 rfl (lv_at hl 0 rfl) ?_
        refine k_get C inT_X0 hw40 0 rfl rfl 2 (by decide) mF_X0_24 rfl dX0_ownIn_49 ?_
        refine lv_iload_n hx hb dX0_ownIn_52 rfl (lv_at hl 2 rfl) ?_
        refine lv_aload_n hx hb dX0_ownIn_53 rfl (lv_at hl 0 rfl) ?_
        refine k_get C inT_X0 hw40 0 rfl rfl 0 (by decide) mF_X0_14 rfl dX0_ownIn_54 ?_
        refine lv_iload hx hb dX0_ownIn_57 (lv_at hl 4 rfl) ?_
        obtain ⟨r59, q59, h⟩ := bd h
        refine k_callV (nC := 3) [oX0 a a_series a_pieces a_trial a_moves g_day, cR cI a_series 10 v_series, cR cI a_pieces 42 v_pieces] C hl.1 (tX4_firstOf (a := a_series) q59) mL_X0_118 mmX4_firstOf rfl rfl ⟨Nat.le_of_ble_eq_true rfl, Nat.le_of_ble_eq_true rfl⟩ rfl rfl rfl rfl (Nat.le_of_ble_eq_true rfl) hA hw40 [1] [0, 2] rfl (by decide +kernel) rfl rfl rfl rfl dX0_ownIn_59 (fun H locs hw59 => ?_)
        refine lv_aload_n hx hb dX0_ownIn_62 rfl (lv_at hl 0 rfl) ?_
        refine k_get C inT_X0 hw59 0 rfl rfl 0 (by decide) mF_X0_14 rfl dX0_ownIn_63 ?_
        refine lv_iload hx hb dX0_ownIn_66 (lv_at hl 4 rfl) ?_
        obtain ⟨r68, q68, h⟩ := bd h
        refine k_callV (nC := 3) [oX0 a a_series a_pieces a_trial a_moves g_day, cR cI a_series 10 v_series, cR cI a_pieces 42 v_pieces] C hl.1 (tX4_lastOf (a := a_series) q68) mL_X0_121 mmX4_lastOf rfl rfl ⟨Nat.le_of_ble_eq_true rfl, Nat.le_of_ble_eq_true rfl⟩ rfl rfl rfl rfl (Nat.le_of_ble_eq_true rfl) hA hw59 [1] [0, 2] rfl (by decide +kernel) rfl rfl rfl rfl dX0_ownIn_68 (fun H locs hw68 => ?_)
        obtain ⟨r71, q71, h⟩ := bd h
        refine k_callV (nC := 3) [oX0 a a_series a_pieces a_trial a_moves g_day, cR cI a_series 10 v_series, cR cI a_pieces 42 v_pieces] C hl.1 (tX4_sheetsIn (a := a_pieces) q71) mL_X0_83 mmX4_sheetsIn rfl rfl ⟨Nat.le_of_ble_eq_true rfl, Nat.le_of_ble_eq_true rfl⟩ rfl rfl rfl rfl (Nat.le_of_ble_eq_true rfl) hA hw68 [2] [0, 1] rfl (by decide +kernel) rfl rfl rfl rfl dX0_ownIn_71 (fun H locs hw71 => ?_)
        refine lv_isub hx hb dX0_ownIn_74 ?_
        refine lv_istore_n (lv' := [(3, .int (x3 - r71)), (0, .ref (a 0)), (1, .int x1), (2, .int x2), (4, .int x4)]) hx hb dX0_ownIn_75 rfl hl (by decide) rfl (fun ls hl => ?_)
        refine lv_iinc (v := (x4 + 1)) (lv' := [(4, .int (x4 + 1)), (3, .int (x3 - r71)), (0, .ref (a 0)), (1, .int x1), (2, .int x2)]) hx hb dX0_ownIn_76 hl (k := 4) rfl rfl (by decide) rfl (fun ls hl => ?_)
        refine lv_goto (tgt := 22) hx hb dX0_ownIn_79 (by decide) ?_
        exact ih _ _ _ _ _ hw71 (lv_sub hl [2, 3, 4, 1, 0] rfl) h
def fX0_ownIn (v_series : Rg) (v_pieces : Rg) (x1 : Int32) (x2 : Int32) : Option (Int32) :=
  (fX0_firstIn v_series x1).bind fun r7 =>
  (fX0_lastIn v_series x1).bind fun r12 =>
  (fX4_sheetsIn 42 v_pieces x2 r7 r12).bind fun r15 =>
  fX0_ownIn_22 v_series v_pieces x1 x2 FU (fun x3_22 x4_22 =>
    some x3_22) r15 0
set_option maxRecDepth 100000 in
set_option maxHeartbeats 4000000 in
theorem tX0_ownIn {l : Launch} {D : va_G} {cI : ClassId} {cS : GS} {a : Nat → Nat} {a_series : Nat → Nat} {a_pieces : Nat → Nat} {a_trial : Nat → Nat} {a_moves : Nat → Nat} {g_day : Int32} {v_series : Rg} {v_pieces : Rg} {x1 : Int32} {x2 : Int32} {s0 : Int32} (h : fX0_ownIn v_series v_pieces x1 x2 = some s0) : CT l D cI cS yX0_ownIn cX0_ownIn 5 (some .int) rmX0_ownIn [.ref (a 0), .int x1, .int x2] [oX0 a a_series a_pieces a_trial a_moves g_day, cR cI a_series 10 v_series, cR cI a_pieces 42 v_pieces] (some (.int s0)) [oX0 a a_series a_pieces a_trial a_moves g_day, cR cI a_series 10 v_series, cR cI a_pieces 42 v_pieces] := by
  refine CT.of RX0 (by decide) rfl (Nat.le_of_ble_eq_true rfl) (fun p e s m below meth c ls A C hA hl hw => ?_)
  have hx := C.1.1
  have hb := C.1.2.1
  have hl : lv_has ls 5 [(0, .ref (a 0)), (1, .int x1), (2, .int x2)] := hl
  unfold fX0_ownIn at h
  refine lv_aload_n hx hb dX0_ownIn_0 rfl (lv_at hl 0 rfl) ?_
  refine k_get C inT_X0 hw 0 rfl rfl 2 (by decide) mF_X0_24 rfl dX0_ownIn_1 ?_
  refine lv_iload_n hx hb dX0_ownIn_4 rfl (lv_at hl 2 rfl) ?_
  refine lv_aload_n hx hb dX0_ownIn_5 rfl (lv_at hl 0 rfl) ?_
  refine lv_iload_n hx hb dX0_ownIn_6 rfl (lv_at hl 1 rfl) ?_
  obtain ⟨r7, q7, h⟩ := bd h
  refine k_callV (nC := 3) [oX0 a a_series a_pieces a_trial a_moves g_day, cR cI a_series 10 v_series, cR cI a_pieces 42 v_pieces] C hl.1 (tX0_firstIn (a := a) (a_series := a_series) (a_pieces := a_pieces) (a_trial := a_trial) (a_moves := a_moves) q7) mL_X0_76 mmX0_firstIn rfl rfl ⟨Nat.le_of_ble_eq_true rfl, Nat.le_of_ble_eq_true rfl⟩ rfl rfl rfl rfl (Nat.le_of_ble_eq_true rfl) hA hw [0, 1] [2] rfl (by decide +kernel) rfl rfl rfl rfl dX0_ownIn_7 (fun H locs hw7 => ?_)
  refine lv_aload_n hx hb dX0_ownIn_10 rfl (lv_at hl 0 rfl) ?_
  refine lv_iload_n hx hb dX0_ownIn_11 rfl (lv_at hl 1 rfl) ?_
  obtain ⟨r12, q12, h⟩ := bd h
  refine k_callV (nC := 3) [oX0 a a_series a_pieces a_trial a_moves g_day, cR cI a_series 10 v_series, cR cI a_pieces 42 v_pieces] C hl.1 (tX0_lastIn (a := a) (a_series := a_series) (a_pieces := a_pieces) (a_trial := a_trial) (a_moves := a_moves) q12) mL_X0_80 mmX0_lastIn rfl rfl ⟨Nat.le_of_ble_eq_true rfl, Nat.le_of_ble_eq_true rfl⟩ rfl rfl rfl rfl (Nat.le_of_ble_eq_true rfl) hA hw7 [0, 1] [2] rfl (by decide +kernel) rfl rfl rfl rfl dX0_ownIn_12 (fun H locs hw12 => ?_)
  obtain ⟨r15, q15, h⟩ := bd h
  refine k_callV (nC := 3) [oX0 a a_series a_pieces a_trial a_moves g_day, cR cI a_series 10 v_series, cR cI a_pieces 42 v_pieces] C hl.1 (tX4_sheetsIn (a := a_pieces) q15) mL_X0_83 mmX4_sheetsIn rfl rfl ⟨Nat.le_of_ble_eq_true rfl, Nat.le_of_ble_eq_true rfl⟩ rfl rfl rfl rfl (Nat.le_of_ble_eq_true rfl) hA hw12 [2] [0, 1] rfl (by decide +kernel) rfl rfl rfl rfl dX0_ownIn_15 (fun H locs hw15 => ?_)
  refine lv_istore_n (lv' := [(3, .int r15), (0, .ref (a 0)), (1, .int x1), (2, .int x2)]) hx hb dX0_ownIn_18 rfl hl (by decide) rfl (fun ls hl => ?_)
  refine lv_iconst (v := 0) hx hb dX0_ownIn_19 (by decide) ?_
  refine lv_istore (lv' := [(4, .int 0), (3, .int r15), (0, .ref (a 0)), (1, .int x1), (2, .int x2)]) hx hb dX0_ownIn_20 hl (by decide) rfl (fun ls hl => ?_)
  refine wX0_ownIn_22 C hA _ (fun x3_22 x4_22 H locs ls hw22x hl h => ?_) FU _ _ _ _ _ hw15 (lv_sub hl [2, 3, 4, 1, 0] rfl) h
  refine lv_iload_n hx hb dX0_ownIn_82 rfl (lv_at hl 3 rfl) ?_
  cases h
  exact k_iret C hw22x dX0_ownIn_83
def rmX0_seriesIn : Room := { frames := 4, cells := 0, slots := 0, locals := 87 }
def fX0_seriesIn_4 (v_series : Rg) (v_pieces : Rg) (x1 : Int32) : (n : Nat) → (k : Int32 → Int32 → Option (Int32)) → Int32 → Int32 → Option (Int32)
  | 0, _, _, _ => none
  | n + 1, k, x2, x3 =>
    (fX4_size 10 v_series).bind fun r9 =>
    if r9 ≤ x3 then
      k x2 x3
    else
      (fX0_ownIn v_series v_pieces x3 x1).bind fun r18 =>
      if r18 ≤ 0 then
        fX0_seriesIn_4 v_series v_pieces x1 n k x2 (x3 + 1)
      else
        fX0_seriesIn_4 v_series v_pieces x1 n k (x2 ||| (1 <<< (x3 &&& 31))) (x3 + 1)
set_option maxRecDepth 100000 in
set_option maxHeartbeats 4000000 in
theorem wX0_seriesIn_4 {p : Program} {l : Launch} {e : Env} {s : State} {m : MethodId} {args : Array Value} {below : List Frame} {meth : Method} {c : Code} {D : va_G} {cI : ClassId} {cS : GS} {A : Nat → Prop} {a : Nat → Nat} {a_series : Nat → Nat} {a_pieces : Nat → Nat} {a_trial : Nat → Nat} {a_moves : Nat → Nat} {g_day : Int32} {v_series : Rg} {v_pieces : Rg} {x1 : Int32} (C : MC p s m args meth c D cI cS A RX0 cX0_seriesIn 4 (some .int)) (hA : ∀ q, s.heap.size ≤ q → A q) {s0 : Int32} (k : Int32 → Int32 → Option (Int32)) (hk : ∀ (x2 : Int32) (x3 : Int32) (H : Heap) (locs : List Loc) (ls : Array Slot), Wd D A s.heap H locs [oX0 a a_series a_pieces a_trial a_moves g_day, cR cI a_series 10 v_series, cR cI a_pieces 42 v_pieces] → lv_has ls 4 [(0, .ref (a 0)), (1, .int x1), (2, .int x2), (3, .int x3)] → k x2 x3 = some s0 → W p l e rmX0_seriesIn s m args below meth c H locs 0 0 (KQ D A below args s (some (.int s0)) [oX0 a a_series a_pieces a_trial a_moves g_day, cR cI a_series 10 v_series, cR cI a_pieces 42 v_pieces]) (F0 m 36 ls [])) :
    ∀ (n : Nat) (x2 : Int32) (x3 : Int32) (H : Heap) (locs : List Loc) (ls : Array Slot), Wd D A s.heap H locs [oX0 a a_series a_pieces a_trial a_moves g_day, cR cI a_series 10 v_series, cR cI a_pieces 42 v_pieces] → lv_has ls 4 [(0, .ref (a 0)), (1, .int x1), (2, .int x2), (3, .int x3)] → fX0_seriesIn_4 v_series v_pieces x1 n k x2 x3 = some s0 → W p l e rmX0_seriesIn s m args below meth c H locs 0 0 (KQ D A below args s (some (.int s0)) [oX0 a a_series a_pieces a_trial a_moves g_day, cR cI a_series 10 v_series, cR cI a_pieces 42 v_pieces]) (F0 m 4 ls []) := by
  have hx := C.1.1
  have hb := C.1.2.1
  intro n
  induction n with
  | zero =>
    intro x2 x3 H locs ls hw hl h
    rw [fX0_seriesIn_4] at h
    cases h
  | succ n ih =>
    intro x2 x3 H locs ls hw hl h
    rw [fX0_seriesIn_4] at h
    refine lv_iload_n hx hb dX0_seriesIn_4 rfl (lv_at hl 3 rfl) ?_
    refine lv_aload_n hx hb dX0_seriesIn_5 rfl (lv_at hl 0 rfl) ?_
    refine k_get C inT_X0 hw 0 rfl rfl 0 (by decide) mF_X0_14 rfl dX0_seriesIn_6 ?_
    obtain ⟨r9, q9, h⟩ := bd h
    refine k_callV (nC := 3) [oX0 a a_series a_pieces a_trial a_moves g_day, cR cI a_series 10 v_series, cR cI a_pieces 42 v_pieces] C hl.1 (tX4_size (a := a_series) q9) mL_X0_43 mmX4_size rfl rfl ⟨Nat.le_of_ble_eq_true rfl, Nat.le_of_ble_eq_true rfl⟩ rfl rfl rfl rfl (Nat.le_of_ble_eq_true rfl) hA hw [1] [0, 2] rfl (by decide +kernel) rfl rfl rfl rfl dX0_seriesIn_9 (fun H locs hw9 => ?_)
    refine lv_icmp_ge (tgt := 36) hx hb dX0_seriesIn_12 (by decide) (fun c12 => ?_) (fun c12 => ?_)
    · replace h := br_t' h c12
      exact hk _ _ _ _ _ hw9 (lv_sub hl [0, 1, 2, 3] rfl) h
    · replace h := br_f' h c12
      refine lv_aload_n hx hb dX0_seriesIn_15 rfl (lv_at hl 0 rfl) ?_
      refine lv_iload_n hx hb dX0_seriesIn_16 rfl (lv_at hl 3 rfl) ?_
      refine lv_iload_n hx hb dX0_seriesIn_17 rfl (lv_at hl 1 rfl) ?_
      obtain ⟨r18, q18, h⟩ := bd h
      refine k_callV (nC := 3) [oX0 a a_series a_pieces a_trial a_moves g_day, cR cI a_series 10 v_series, cR cI a_pieces 42 v_pieces] C hl.1 (tX0_ownIn (a := a) (a_series := a_series) (a_pieces := a_pieces) (a_trial := a_trial) (a_moves := a_moves) q18) mL_X0_134 mmX0_ownIn rfl rfl ⟨Nat.le_of_ble_eq_true rfl, Nat.le_of_ble_eq_true rfl⟩ rfl rfl rfl rfl (Nat.le_of_ble_eq_true rfl) hA hw9 [0, 1, 2] [] rfl (by decide +kernel) rfl rfl rfl rfl dX0_seriesIn_18 (fun H locs hw18 => ?_)
      refine lv_if_le (tgt := 30) hx hb dX0_seriesIn_21 (by decide) (fun c21 => ?_) (fun c21 => ?_)
      · replace h := br_t' h c21
        refine lv_iinc (v := (x3 + 1)) (lv' := [(3, .int (x3 + 1)), (0, .ref (a 0)), (1, .int x1), (2, .int x2)]) hx hb dX0_seriesIn_30 hl (k := 3) rfl rfl (by decide) rfl (fun ls hl => ?_)
        refine lv_goto (tgt := 4) hx hb dX0_seriesIn_33 (by decide) ?_
        exact ih _ _ _ _ _ hw18 (lv_sub hl [1, 2, 3, 0] rfl) h
      · replace h := br_f' h c21
        refine lv_iload_n hx hb dX0_seriesIn_24 rfl (lv_at hl 2 rfl) ?_
        refine lv_iconst (v := 1) hx hb dX0_seriesIn_25 (by decide) ?_
        refine lv_iload_n hx hb dX0_seriesIn_26 rfl (lv_at hl 3 rfl) ?_
        refine lv_ishl hx hb dX0_seriesIn_27 ?_
        refine lv_ior hx hb dX0_seriesIn_28 ?_
        refine lv_istore_n (lv' := [(2, .int (x2 ||| (1 <<< (x3 &&& 31)))), (0, .ref (a 0)), (1, .int x1), (3, .int x3)]) hx hb dX0_seriesIn_29 rfl hl (by decide) rfl (fun ls hl => ?_)
        refine lv_iinc (v := (x3 + 1)) (lv' := [(3, .int (x3 + 1)), (2, .int (x2 ||| (1 <<< (x3 &&& 31)))), (0, .ref (a 0)), (1, .int x1)]) hx hb dX0_seriesIn_30 hl (k := 3) rfl rfl (by decide) rfl (fun ls hl => ?_)
        refine lv_goto (tgt := 4) hx hb dX0_seriesIn_33 (by decide) ?_
        exact ih _ _ _ _ _ hw18 (lv_sub hl [2, 3, 1, 0] rfl) h
def fX0_seriesIn (v_series : Rg) (v_pieces : Rg) (x1 : Int32) : Option (Int32) :=
  fX0_seriesIn_4 v_series v_pieces x1 FU (fun x2_4 x3_4 =>
    some x2_4) 0 0
set_option maxRecDepth 100000 in
set_option maxHeartbeats 4000000 in
theorem tX0_seriesIn {l : Launch} {D : va_G} {cI : ClassId} {cS : GS} {a : Nat → Nat} {a_series : Nat → Nat} {a_pieces : Nat → Nat} {a_trial : Nat → Nat} {a_moves : Nat → Nat} {g_day : Int32} {v_series : Rg} {v_pieces : Rg} {x1 : Int32} {s0 : Int32} (h : fX0_seriesIn v_series v_pieces x1 = some s0) : CT l D cI cS yX0_seriesIn cX0_seriesIn 4 (some .int) rmX0_seriesIn [.ref (a 0), .int x1] [oX0 a a_series a_pieces a_trial a_moves g_day, cR cI a_series 10 v_series, cR cI a_pieces 42 v_pieces] (some (.int s0)) [oX0 a a_series a_pieces a_trial a_moves g_day, cR cI a_series 10 v_series, cR cI a_pieces 42 v_pieces] := by
  refine CT.of RX0 (by decide) rfl (Nat.le_of_ble_eq_true rfl) (fun p e s m below meth c ls A C hA hl hw => ?_)
  have hx := C.1.1
  have hb := C.1.2.1
  have hl : lv_has ls 4 [(0, .ref (a 0)), (1, .int x1)] := hl
  unfold fX0_seriesIn at h
  refine lv_iconst (v := 0) hx hb dX0_seriesIn_0 (by decide) ?_
  refine lv_istore_n (lv' := [(2, .int 0), (0, .ref (a 0)), (1, .int x1)]) hx hb dX0_seriesIn_1 rfl hl (by decide) rfl (fun ls hl => ?_)
  refine lv_iconst (v := 0) hx hb dX0_seriesIn_2 (by decide) ?_
  refine lv_istore_n (lv' := [(3, .int 0), (2, .int 0), (0, .ref (a 0)), (1, .int x1)]) hx hb dX0_seriesIn_3 rfl hl (by decide) rfl (fun ls hl => ?_)
  refine wX0_seriesIn_4 C hA _ (fun x2_4 x3_4 H locs ls hw4x hl h => ?_) FU _ _ _ _ _ hw (lv_sub hl [2, 3, 1, 0] rfl) h
  refine lv_iload_n hx hb dX0_seriesIn_36 rfl (lv_at hl 2 rfl) ?_
  cases h
  exact k_iret C hw4x dX0_seriesIn_37
def rmX0_homeOf : Room := { frames := 1, cells := 0, slots := 0, locals := 22 }
def fX0_homeOf_10 (v_series : Rg) (x1 : Int32) : (n : Nat) → (k : Int32 → Option (Int32)) → Int32 → Option (Int32)
  | 0, _, _ => none
  | n + 1, k, x2 =>
    if x2 < 0 then
      k x2
    else
      (fX4_includes 10 v_series x2 x1).bind fun r20 =>
      if r20 = 0 then
        fX0_homeOf_10 v_series x1 n k (x2 + (-1))
      else
        some x2
set_option maxRecDepth 100000 in
set_option maxHeartbeats 4000000 in
theorem wX0_homeOf_10 {p : Program} {l : Launch} {e : Env} {s : State} {m : MethodId} {args : Array Value} {below : List Frame} {meth : Method} {c : Code} {D : va_G} {cI : ClassId} {cS : GS} {A : Nat → Prop} {a : Nat → Nat} {a_series : Nat → Nat} {a_pieces : Nat → Nat} {a_trial : Nat → Nat} {a_moves : Nat → Nat} {g_day : Int32} {v_series : Rg} {x1 : Int32} (C : MC p s m args meth c D cI cS A RX0 cX0_homeOf 3 (some .int)) (hA : ∀ q, s.heap.size ≤ q → A q) {s0 : Int32} (k : Int32 → Option (Int32)) (hk : ∀ (x2 : Int32) (H : Heap) (locs : List Loc) (ls : Array Slot), Wd D A s.heap H locs [oX0 a a_series a_pieces a_trial a_moves g_day, cR cI a_series 10 v_series] → lv_has ls 3 [(0, .ref (a 0)), (1, .int x1), (2, .int x2)] → k x2 = some s0 → W p l e rmX0_homeOf s m args below meth c H locs 0 0 (KQ D A below args s (some (.int s0)) [oX0 a a_series a_pieces a_trial a_moves g_day, cR cI a_series 10 v_series]) (F0 m 34 ls [])) :
    ∀ (n : Nat) (x2 : Int32) (H : Heap) (locs : List Loc) (ls : Array Slot), Wd D A s.heap H locs [oX0 a a_series a_pieces a_trial a_moves g_day, cR cI a_series 10 v_series] → lv_has ls 3 [(0, .ref (a 0)), (1, .int x1), (2, .int x2)] → fX0_homeOf_10 v_series x1 n k x2 = some s0 → W p l e rmX0_homeOf s m args below meth c H locs 0 0 (KQ D A below args s (some (.int s0)) [oX0 a a_series a_pieces a_trial a_moves g_day, cR cI a_series 10 v_series]) (F0 m 10 ls []) := by
  have hx := C.1.1
  have hb := C.1.2.1
  intro n
  induction n with
  | zero =>
    intro x2 H locs ls hw hl h
    rw [fX0_homeOf_10] at h
    cases h
  | succ n ih =>
    intro x2 H locs ls hw hl h
    rw [fX0_homeOf_10] at h
    refine lv_iload_n hx hb dX0_homeOf_10 rfl (lv_at hl 2 rfl) ?_
    refine lv_if_lt (tgt := 34) hx hb dX0_homeOf_11 (by decide) (fun c11 => ?_) (fun c11 => ?_)
    · replace h := br_t' h c11
      exact hk _ _ _ _ hw (lv_sub hl [0, 1, 2] rfl) h
    · replace h := br_f' h c11
      refine lv_aload_n hx hb dX0_homeOf_14 rfl (lv_at hl 0 rfl) ?_
      refine k_get C inT_X0 hw 0 rfl rfl 0 (by decide) mF_X0_14 rfl dX0_homeOf_15 ?_
      refine lv_iload_n hx hb dX0_homeOf_18 rfl (lv_at hl 2 rfl) ?_
      refine lv_iload_n hx hb dX0_homeOf_19 rfl (lv_at hl 1 rfl) ?_
      obtain ⟨r20, q20, h⟩ := bd h
      refine k_callV (nC := 2) [oX0 a a_series a_pieces a_trial a_moves g_day, cR cI a_series 10 v_series] C hl.1 (tX4_includes (a := a_series) q20) mL_X0_138 mmX4_includes rfl rfl ⟨Nat.le_of_ble_eq_true rfl, Nat.le_of_ble_eq_true rfl⟩ rfl rfl rfl rfl (Nat.le_of_ble_eq_true rfl) hA hw [1] [0] rfl (by decide +kernel) rfl rfl rfl rfl dX0_homeOf_20 (fun H locs hw20 => ?_)
      refine lv_if_eq (tgt := 28) hx hb dX0_homeOf_23 (by decide) (fun c23 => ?_) (fun c23 => ?_)
      · replace h := br_t' h c23
        refine lv_iinc (v := (x2 + (-1))) (lv' := [(2, .int (x2 + (-1))), (0, .ref (a 0)), (1, .int x1)]) hx hb dX0_homeOf_28 hl (k := 2) rfl rfl (by decide) rfl (fun ls hl => ?_)
        refine lv_goto (tgt := 10) hx hb dX0_homeOf_31 (by decide) ?_
        exact ih _ _ _ _ hw20 (lv_sub hl [1, 2, 0] rfl) h
      · replace h := br_f' h c23
        refine lv_iload_n hx hb dX0_homeOf_26 rfl (lv_at hl 2 rfl) ?_
        cases h
        exact k_iret C hw20 dX0_homeOf_27
def fX0_homeOf (v_series : Rg) (x1 : Int32) : Option (Int32) :=
  (fX4_size 10 v_series).bind fun r4 =>
  fX0_homeOf_10 v_series x1 FU (fun x2_10 =>
    some (-1)) (r4 - 1)
set_option maxRecDepth 100000 in
set_option maxHeartbeats 4000000 in
theorem tX0_homeOf {l : Launch} {D : va_G} {cI : ClassId} {cS : GS} {a : Nat → Nat} {a_series : Nat → Nat} {a_pieces : Nat → Nat} {a_trial : Nat → Nat} {a_moves : Nat → Nat} {g_day : Int32} {v_series : Rg} {x1 : Int32} {s0 : Int32} (h : fX0_homeOf v_series x1 = some s0) : CT l D cI cS yX0_homeOf cX0_homeOf 3 (some .int) rmX0_homeOf [.ref (a 0), .int x1] [oX0 a a_series a_pieces a_trial a_moves g_day, cR cI a_series 10 v_series] (some (.int s0)) [oX0 a a_series a_pieces a_trial a_moves g_day, cR cI a_series 10 v_series] := by
  refine CT.of RX0 (by decide) rfl (Nat.le_of_ble_eq_true rfl) (fun p e s m below meth c ls A C hA hl hw => ?_)
  have hx := C.1.1
  have hb := C.1.2.1
  have hl : lv_has ls 3 [(0, .ref (a 0)), (1, .int x1)] := hl
  unfold fX0_homeOf at h
  refine lv_aload_n hx hb dX0_homeOf_0 rfl (lv_at hl 0 rfl) ?_
  refine k_get C inT_X0 hw 0 rfl rfl 0 (by decide) mF_X0_14 rfl dX0_homeOf_1 ?_
  obtain ⟨r4, q4, h⟩ := bd h
  refine k_callV (nC := 2) [oX0 a a_series a_pieces a_trial a_moves g_day, cR cI a_series 10 v_series] C hl.1 (tX4_size (a := a_series) q4) mL_X0_43 mmX4_size rfl rfl ⟨Nat.le_of_ble_eq_true rfl, Nat.le_of_ble_eq_true rfl⟩ rfl rfl rfl rfl (Nat.le_of_ble_eq_true rfl) hA hw [1] [0] rfl (by decide +kernel) rfl rfl rfl rfl dX0_homeOf_4 (fun H locs hw4 => ?_)
  refine lv_iconst (v := 1) hx hb dX0_homeOf_7 (by decide) ?_
  refine lv_isub hx hb dX0_homeOf_8 ?_
  refine lv_istore_n (lv' := [(2, .int (r4 - 1)), (0, .ref (a 0)), (1, .int x1)]) hx hb dX0_homeOf_9 rfl hl (by decide) rfl (fun ls hl => ?_)
  refine wX0_homeOf_10 C hA _ (fun x2_10 H locs ls hw10x hl h => ?_) FU _ _ _ _ hw4 (lv_sub hl [1, 2, 0] rfl) h
  refine lv_iconst (v := (-1)) hx hb dX0_homeOf_34 (by decide) ?_
  cases h
  exact k_iret C hw10x dX0_homeOf_35
def rmX0_placeOf : Room := { frames := 2, cells := 0, slots := 0, locals := 42 }
def fX0_placeOf_2 (v_pieces : Rg) (x1 : Int32) : (n : Nat) → (k : Int32 → Option (Int32)) → Int32 → Option (Int32)
  | 0, _, _ => none
  | n + 1, k, x2 =>
    (fX4_size 42 v_pieces).bind fun r7 =>
    if r7 ≤ x2 then
      k x2
    else
      (fX4_includes 42 v_pieces x2 x1).bind fun r19 =>
      if r19 = 0 then
        fX0_placeOf_2 v_pieces x1 n k (x2 + 1)
      else
        (fX4_markOf 42 v_pieces x2).bind fun r30 =>
        some r30
set_option maxRecDepth 100000 in
set_option maxHeartbeats 4000000 in
theorem wX0_placeOf_2 {p : Program} {l : Launch} {e : Env} {s : State} {m : MethodId} {args : Array Value} {below : List Frame} {meth : Method} {c : Code} {D : va_G} {cI : ClassId} {cS : GS} {A : Nat → Prop} {a : Nat → Nat} {a_series : Nat → Nat} {a_pieces : Nat → Nat} {a_trial : Nat → Nat} {a_moves : Nat → Nat} {g_day : Int32} {v_pieces : Rg} {x1 : Int32} (C : MC p s m args meth c D cI cS A RX0 cX0_placeOf 3 (some .int)) (hA : ∀ q, s.heap.size ≤ q → A q) {s0 : Int32} (k : Int32 → Option (Int32)) (hk : ∀ (x2 : Int32) (H : Heap) (locs : List Loc) (ls : Array Slot), Wd D A s.heap H locs [oX0 a a_series a_pieces a_trial a_moves g_day, cR cI a_pieces 42 v_pieces] → lv_has ls 3 [(0, .ref (a 0)), (1, .int x1), (2, .int x2)] → k x2 = some s0 → W p l e rmX0_placeOf s m args below meth c H locs 0 0 (KQ D A below args s (some (.int s0)) [oX0 a a_series a_pieces a_trial a_moves g_day, cR cI a_pieces 42 v_pieces]) (F0 m 40 ls [])) :
    ∀ (n : Nat) (x2 : Int32) (H : Heap) (locs : List Loc) (ls : Array Slot), Wd D A s.heap H locs [oX0 a a_series a_pieces a_trial a_moves g_day, cR cI a_pieces 42 v_pieces] → lv_has ls 3 [(0, .ref (a 0)), (1, .int x1), (2, .int x2)] → fX0_placeOf_2 v_pieces x1 n k x2 = some s0 → W p l e rmX0_placeOf s m args below meth c H locs 0 0 (KQ D A below args s (some (.int s0)) [oX0 a a_series a_pieces a_trial a_moves g_day, cR cI a_pieces 42 v_pieces]) (F0 m 2 ls []) := by
  have hx := C.1.1
  have hb := C.1.2.1
  intro n
  induction n with
  | zero =>
    intro x2 H locs ls hw hl h
    rw [fX0_placeOf_2] at h
    cases h
  | succ n ih =>
    intro x2 H locs ls hw hl h
    rw [fX0_placeOf_2] at h
    refine lv_iload_n hx hb dX0_placeOf_2 rfl (lv_at hl 2 rfl) ?_
    refine lv_aload_n hx hb dX0_placeOf_3 rfl (lv_at hl 0 rfl) ?_
    refine k_get C inT_X0 hw 0 rfl rfl 2 (by decide) mF_X0_24 rfl dX0_placeOf_4 ?_
    obtain ⟨r7, q7, h⟩ := bd h
    refine k_callV (nC := 2) [oX0 a a_series a_pieces a_trial a_moves g_day, cR cI a_pieces 42 v_pieces] C hl.1 (tX4_size (a := a_pieces) q7) mL_X0_43 mmX4_size rfl rfl ⟨Nat.le_of_ble_eq_true rfl, Nat.le_of_ble_eq_true rfl⟩ rfl rfl rfl rfl (Nat.le_of_ble_eq_true rfl) hA hw [1] [0] rfl (by decide +kernel) rfl rfl rfl rfl dX0_placeOf_7 (fun H locs hw7 => ?_)
    refine lv_icmp_ge (tgt := 40) hx hb dX0_placeOf_10 (by decide) (fun c10 => ?_) (fun c10 => ?_)
    · replace h := br_t' h c10
      exact hk _ _ _ _ hw7 (lv_sub hl [0, 1, 2] rfl) h
    · replace h := br_f' h c10
      refine lv_aload_n hx hb dX0_placeOf_13 rfl (lv_at hl 0 rfl) ?_
      refine k_get C inT_X0 hw7 0 rfl rfl 2 (by decide) mF_X0_24 rfl dX0_placeOf_14 ?_
      refine lv_iload_n hx hb dX0_placeOf_17 rfl (lv_at hl 2 rfl) ?_
      refine lv_iload_n hx hb dX0_placeOf_18 rfl (lv_at hl 1 rfl) ?_
      obtain ⟨r19, q19, h⟩ := bd h
      refine k_callV (nC := 2) [oX0 a a_series a_pieces a_trial a_moves g_day, cR cI a_pieces 42 v_pieces] C hl.1 (tX4_includes (a := a_pieces) q19) mL_X0_138 mmX4_includes rfl rfl ⟨Nat.le_of_ble_eq_true rfl, Nat.le_of_ble_eq_true rfl⟩ rfl rfl rfl rfl (Nat.le_of_ble_eq_true rfl) hA hw7 [1] [0] rfl (by decide +kernel) rfl rfl rfl rfl dX0_placeOf_19 (fun H locs hw19 => ?_)
      refine lv_if_eq (tgt := 34) hx hb dX0_placeOf_22 (by decide) (fun c22 => ?_) (fun c22 => ?_)
      · replace h := br_t' h c22
        refine lv_iinc (v := (x2 + 1)) (lv' := [(2, .int (x2 + 1)), (0, .ref (a 0)), (1, .int x1)]) hx hb dX0_placeOf_34 hl (k := 2) rfl rfl (by decide) rfl (fun ls hl => ?_)
        refine lv_goto (tgt := 2) hx hb dX0_placeOf_37 (by decide) ?_
        exact ih _ _ _ _ hw19 (lv_sub hl [1, 2, 0] rfl) h
      · replace h := br_f' h c22
        refine lv_aload_n hx hb dX0_placeOf_25 rfl (lv_at hl 0 rfl) ?_
        refine k_get C inT_X0 hw19 0 rfl rfl 2 (by decide) mF_X0_24 rfl dX0_placeOf_26 ?_
        refine lv_iload_n hx hb dX0_placeOf_29 rfl (lv_at hl 2 rfl) ?_
        obtain ⟨r30, q30, h⟩ := bd h
        refine k_callV (nC := 2) [oX0 a a_series a_pieces a_trial a_moves g_day, cR cI a_pieces 42 v_pieces] C hl.1 (tX4_markOf (a := a_pieces) q30) mL_X0_115 mmX4_markOf rfl rfl ⟨Nat.le_of_ble_eq_true rfl, Nat.le_of_ble_eq_true rfl⟩ rfl rfl rfl rfl (Nat.le_of_ble_eq_true rfl) hA hw19 [1] [0] rfl (by decide +kernel) rfl rfl rfl rfl dX0_placeOf_30 (fun H locs hw30 => ?_)
        cases h
        exact k_iret C hw30 dX0_placeOf_33
def fX0_placeOf (v_pieces : Rg) (x1 : Int32) : Option (Int32) :=
  fX0_placeOf_2 v_pieces x1 FU (fun x2_2 =>
    some (-1)) 0
set_option maxRecDepth 100000 in
set_option maxHeartbeats 4000000 in
theorem tX0_placeOf {l : Launch} {D : va_G} {cI : ClassId} {cS : GS} {a : Nat → Nat} {a_series : Nat → Nat} {a_pieces : Nat → Nat} {a_trial : Nat → Nat} {a_moves : Nat → Nat} {g_day : Int32} {v_pieces : Rg} {x1 : Int32} {s0 : Int32} (h : fX0_placeOf v_pieces x1 = some s0) : CT l D cI cS yX0_placeOf cX0_placeOf 3 (some .int) rmX0_placeOf [.ref (a 0), .int x1] [oX0 a a_series a_pieces a_trial a_moves g_day, cR cI a_pieces 42 v_pieces] (some (.int s0)) [oX0 a a_series a_pieces a_trial a_moves g_day, cR cI a_pieces 42 v_pieces] := by
  refine CT.of RX0 (by decide) rfl (Nat.le_of_ble_eq_true rfl) (fun p e s m below meth c ls A C hA hl hw => ?_)
  have hx := C.1.1
  have hb := C.1.2.1
  have hl : lv_has ls 3 [(0, .ref (a 0)), (1, .int x1)] := hl
  unfold fX0_placeOf at h
  refine lv_iconst (v := 0) hx hb dX0_placeOf_0 (by decide) ?_
  refine lv_istore_n (lv' := [(2, .int 0), (0, .ref (a 0)), (1, .int x1)]) hx hb dX0_placeOf_1 rfl hl (by decide) rfl (fun ls hl => ?_)
  refine wX0_placeOf_2 C hA _ (fun x2_2 H locs ls hw2x hl h => ?_) FU _ _ _ _ hw (lv_sub hl [1, 2, 0] rfl) h
  refine lv_iconst (v := (-1)) hx hb dX0_placeOf_40 (by decide) ?_
  cases h
  exact k_iret C hw2x dX0_placeOf_41
def rmX0_placeOn : Room := { frames := 2, cells := 0, slots := 0, locals := 42 }
def fX0_placeOn_10 (g_moveDays : Nat → Int32) (v_moves : Rg) (x1 : Int32) (x2 : Int32) : (n : Nat) → (k : Int32 → Option (Int32)) → Int32 → Option (Int32)
  | 0, _, _ => none
  | n + 1, k, x3 =>
    if x3 < 0 then
      k x3
    else
      (fX0_dayOf g_moveDays x3).bind fun r16 =>
      if x2 < r16 then
        fX0_placeOn_10 g_moveDays v_moves x1 x2 n k (x3 + (-1))
      else
        (fX4_includes 100 v_moves x3 x1).bind fun r29 =>
        if r29 = 0 then
          fX0_placeOn_10 g_moveDays v_moves x1 x2 n k (x3 + (-1))
        else
          (fX4_markOf 100 v_moves x3).bind fun r40 =>
          some r40
set_option maxRecDepth 100000 in
set_option maxHeartbeats 4000000 in
theorem wX0_placeOn_10 {p : Program} {l : Launch} {e : Env} {s : State} {m : MethodId} {args : Array Value} {below : List Frame} {meth : Method} {c : Code} {D : va_G} {cI : ClassId} {cS : GS} {A : Nat → Prop} {a : Nat → Nat} {a_series : Nat → Nat} {a_pieces : Nat → Nat} {a_trial : Nat → Nat} {a_moves : Nat → Nat} {g_moveDays : Nat → Int32} {g_day : Int32} {v_moves : Rg} {x1 : Int32} {x2 : Int32} (C : MC p s m args meth c D cI cS A RX0 cX0_placeOn 4 (some .int)) (hA : ∀ q, s.heap.size ≤ q → A q) {s0 : Int32} (k : Int32 → Option (Int32)) (hk : ∀ (x3 : Int32) (H : Heap) (locs : List Loc) (ls : Array Slot), Wd D A s.heap H locs [oX0 a a_series a_pieces a_trial a_moves g_day, ar cI (a 6) 100 g_moveDays, cR cI a_moves 100 v_moves] → lv_has ls 4 [(0, .ref (a 0)), (1, .int x1), (2, .int x2), (3, .int x3)] → k x3 = some s0 → W p l e rmX0_placeOn s m args below meth c H locs 0 0 (KQ D A below args s (some (.int s0)) [oX0 a a_series a_pieces a_trial a_moves g_day, ar cI (a 6) 100 g_moveDays, cR cI a_moves 100 v_moves]) (F0 m 50 ls [])) :
    ∀ (n : Nat) (x3 : Int32) (H : Heap) (locs : List Loc) (ls : Array Slot), Wd D A s.heap H locs [oX0 a a_series a_pieces a_trial a_moves g_day, ar cI (a 6) 100 g_moveDays, cR cI a_moves 100 v_moves] → lv_has ls 4 [(0, .ref (a 0)), (1, .int x1), (2, .int x2), (3, .int x3)] → fX0_placeOn_10 g_moveDays v_moves x1 x2 n k x3 = some s0 → W p l e rmX0_placeOn s m args below meth c H locs 0 0 (KQ D A below args s (some (.int s0)) [oX0 a a_series a_pieces a_trial a_moves g_day, ar cI (a 6) 100 g_moveDays, cR cI a_moves 100 v_moves]) (F0 m 10 ls []) := by
  have hx := C.1.1
  have hb := C.1.2.1
  intro n
  induction n with
  | zero =>
    intro x3 H locs ls hw hl h
    rw [fX0_placeOn_10] at h
    cases h
  | succ n ih =>
    intro x3 H locs ls hw hl h
    rw [fX0_placeOn_10] at h
    refine lv_iload_n hx hb dX0_placeOn_10 rfl (lv_at hl 3 rfl) ?_
    refine lv_if_lt (tgt := 50) hx hb dX0_placeOn_11 (by decide) (fun c11 => ?_) (fun c11 => ?_)
    · replace h := br_t' h c11
      exact hk _ _ _ _ hw (lv_sub hl [0, 1, 2, 3] rfl) h
    · replace h := br_f' h c11
      refine lv_aload_n hx hb dX0_placeOn_14 rfl (lv_at hl 0 rfl) ?_
      refine lv_iload_n hx hb dX0_placeOn_15 rfl (lv_at hl 3 rfl) ?_
      obtain ⟨r16, q16, h⟩ := bd h
      refine k_callV (nC := 3) [oX0 a a_series a_pieces a_trial a_moves g_day, ar cI (a 6) 100 g_moveDays, cR cI a_moves 100 v_moves] C hl.1 (tX0_dayOf (a := a) (a_series := a_series) (a_pieces := a_pieces) (a_trial := a_trial) (a_moves := a_moves) q16) mL_X0_141 mmX0_dayOf rfl rfl ⟨Nat.le_of_ble_eq_true rfl, Nat.le_of_ble_eq_true rfl⟩ rfl rfl rfl rfl (Nat.le_of_ble_eq_true rfl) hA hw [0, 1] [2] rfl (by decide +kernel) rfl rfl rfl rfl dX0_placeOn_16 (fun H locs hw16 => ?_)
      refine lv_iload_n hx hb dX0_placeOn_19 rfl (lv_at hl 2 rfl) ?_
      refine lv_icmp_gt (tgt := 44) hx hb dX0_placeOn_20 (by decide) (fun c20 => ?_) (fun c20 => ?_)
      · replace h := br_t' h c20
        refine lv_iinc (v := (x3 + (-1))) (lv' := [(3, .int (x3 + (-1))), (0, .ref (a 0)), (1, .int x1), (2, .int x2)]) hx hb dX0_placeOn_44 hl (k := 3) rfl rfl (by decide) rfl (fun ls hl => ?_)
        refine lv_goto (tgt := 10) hx hb dX0_placeOn_47 (by decide) ?_
        exact ih _ _ _ _ hw16 (lv_sub hl [1, 2, 3, 0] rfl) h
      · replace h := br_f' h c20
        refine lv_aload_n hx hb dX0_placeOn_23 rfl (lv_at hl 0 rfl) ?_
        refine k_get C inT_X0 hw16 0 rfl rfl 4 (by decide) mF_X0_30 rfl dX0_placeOn_24 ?_
        refine lv_iload_n hx hb dX0_placeOn_27 rfl (lv_at hl 3 rfl) ?_
        refine lv_iload_n hx hb dX0_placeOn_28 rfl (lv_at hl 1 rfl) ?_
        obtain ⟨r29, q29, h⟩ := bd h
        refine k_callV (nC := 3) [oX0 a a_series a_pieces a_trial a_moves g_day, ar cI (a 6) 100 g_moveDays, cR cI a_moves 100 v_moves] C hl.1 (tX4_includes (a := a_moves) q29) mL_X0_138 mmX4_includes rfl rfl ⟨Nat.le_of_ble_eq_true rfl, Nat.le_of_ble_eq_true rfl⟩ rfl rfl rfl rfl (Nat.le_of_ble_eq_true rfl) hA hw16 [2] [0, 1] rfl (by decide +kernel) rfl rfl rfl rfl dX0_placeOn_29 (fun H locs hw29 => ?_)
        refine lv_if_eq (tgt := 44) hx hb dX0_placeOn_32 (by decide) (fun c32 => ?_) (fun c32 => ?_)
        · replace h := br_t' h c32
          refine lv_iinc (v := (x3 + (-1))) (lv' := [(3, .int (x3 + (-1))), (0, .ref (a 0)), (1, .int x1), (2, .int x2)]) hx hb dX0_placeOn_44 hl (k := 3) rfl rfl (by decide) rfl (fun ls hl => ?_)
          refine lv_goto (tgt := 10) hx hb dX0_placeOn_47 (by decide) ?_
          exact ih _ _ _ _ hw29 (lv_sub hl [1, 2, 3, 0] rfl) h
        · replace h := br_f' h c32
          refine lv_aload_n hx hb dX0_placeOn_35 rfl (lv_at hl 0 rfl) ?_
          refine k_get C inT_X0 hw29 0 rfl rfl 4 (by decide) mF_X0_30 rfl dX0_placeOn_36 ?_
          refine lv_iload_n hx hb dX0_placeOn_39 rfl (lv_at hl 3 rfl) ?_
          obtain ⟨r40, q40, h⟩ := bd h
          refine k_callV (nC := 3) [oX0 a a_series a_pieces a_trial a_moves g_day, ar cI (a 6) 100 g_moveDays, cR cI a_moves 100 v_moves] C hl.1 (tX4_markOf (a := a_moves) q40) mL_X0_115 mmX4_markOf rfl rfl ⟨Nat.le_of_ble_eq_true rfl, Nat.le_of_ble_eq_true rfl⟩ rfl rfl rfl rfl (Nat.le_of_ble_eq_true rfl) hA hw29 [2] [0, 1] rfl (by decide +kernel) rfl rfl rfl rfl dX0_placeOn_40 (fun H locs hw40 => ?_)
          cases h
          exact k_iret C hw40 dX0_placeOn_43
def fX0_placeOn (g_moveDays : Nat → Int32) (v_moves : Rg) (x1 : Int32) (x2 : Int32) : Option (Int32) :=
  (fX4_size 100 v_moves).bind fun r4 =>
  fX0_placeOn_10 g_moveDays v_moves x1 x2 FU (fun x3_10 =>
    some (-1)) (r4 - 1)
set_option maxRecDepth 100000 in
set_option maxHeartbeats 4000000 in
theorem tX0_placeOn {l : Launch} {D : va_G} {cI : ClassId} {cS : GS} {a : Nat → Nat} {a_series : Nat → Nat} {a_pieces : Nat → Nat} {a_trial : Nat → Nat} {a_moves : Nat → Nat} {g_moveDays : Nat → Int32} {g_day : Int32} {v_moves : Rg} {x1 : Int32} {x2 : Int32} {s0 : Int32} (h : fX0_placeOn g_moveDays v_moves x1 x2 = some s0) : CT l D cI cS yX0_placeOn cX0_placeOn 4 (some .int) rmX0_placeOn [.ref (a 0), .int x1, .int x2] [oX0 a a_series a_pieces a_trial a_moves g_day, ar cI (a 6) 100 g_moveDays, cR cI a_moves 100 v_moves] (some (.int s0)) [oX0 a a_series a_pieces a_trial a_moves g_day, ar cI (a 6) 100 g_moveDays, cR cI a_moves 100 v_moves] := by
  refine CT.of RX0 (by decide) rfl (Nat.le_of_ble_eq_true rfl) (fun p e s m below meth c ls A C hA hl hw => ?_)
  have hx := C.1.1
  have hb := C.1.2.1
  have hl : lv_has ls 4 [(0, .ref (a 0)), (1, .int x1), (2, .int x2)] := hl
  unfold fX0_placeOn at h
  refine lv_aload_n hx hb dX0_placeOn_0 rfl (lv_at hl 0 rfl) ?_
  refine k_get C inT_X0 hw 0 rfl rfl 4 (by decide) mF_X0_30 rfl dX0_placeOn_1 ?_
  obtain ⟨r4, q4, h⟩ := bd h
  refine k_callV (nC := 3) [oX0 a a_series a_pieces a_trial a_moves g_day, ar cI (a 6) 100 g_moveDays, cR cI a_moves 100 v_moves] C hl.1 (tX4_size (a := a_moves) q4) mL_X0_43 mmX4_size rfl rfl ⟨Nat.le_of_ble_eq_true rfl, Nat.le_of_ble_eq_true rfl⟩ rfl rfl rfl rfl (Nat.le_of_ble_eq_true rfl) hA hw [2] [0, 1] rfl (by decide +kernel) rfl rfl rfl rfl dX0_placeOn_4 (fun H locs hw4 => ?_)
  refine lv_iconst (v := 1) hx hb dX0_placeOn_7 (by decide) ?_
  refine lv_isub hx hb dX0_placeOn_8 ?_
  refine lv_istore_n (lv' := [(3, .int (r4 - 1)), (0, .ref (a 0)), (1, .int x1), (2, .int x2)]) hx hb dX0_placeOn_9 rfl hl (by decide) rfl (fun ls hl => ?_)
  refine wX0_placeOn_10 C hA _ (fun x3_10 H locs ls hw10x hl h => ?_) FU _ _ _ _ hw4 (lv_sub hl [1, 2, 3, 0] rfl) h
  refine lv_iconst (v := (-1)) hx hb dX0_placeOn_50 (by decide) ?_
  cases h
  exact k_iret C hw10x dX0_placeOn_51
def rmX0_trailOf : Room := { frames := 2, cells := 0, slots := 0, locals := 42 }
def fX0_trailOf_8 (v_moves : Rg) (x1 : Int32) (x2 : Int32) : (n : Nat) → (k : Int32 → Int32 → Int32 → Option (Int32)) → Int32 → Int32 → Int32 → Option (Int32)
  | 0, _, _, _, _ => none
  | n + 1, k, x3, x4, x5 =>
    (fX4_size 100 v_moves).bind fun r14 =>
    if r14 ≤ x5 then
      k x3 x4 x5
    else
      (fX4_includes 100 v_moves x5 x1).bind fun r27 =>
      if r27 = 0 then
        fX0_trailOf_8 v_moves x1 x2 n k x3 x4 (x5 + 1)
      else
        (fX4_markOf 100 v_moves x5).bind fun r39 =>
        if r39 = x3 then
          fX0_trailOf_8 v_moves x1 x2 n k x3 x4 (x5 + 1)
        else
          if x4 = x2 then
            some x5
          else
            (fX4_markOf 100 v_moves x5).bind fun r61 =>
            fX0_trailOf_8 v_moves x1 x2 n k r61 (x4 + 1) (x5 + 1)
set_option maxRecDepth 100000 in
set_option maxHeartbeats 4000000 in
theorem wX0_trailOf_8 {p : Program} {l : Launch} {e : Env} {s : State} {m : MethodId} {args : Array Value} {below : List Frame} {meth : Method} {c : Code} {D : va_G} {cI : ClassId} {cS : GS} {A : Nat → Prop} {a : Nat → Nat} {a_series : Nat → Nat} {a_pieces : Nat → Nat} {a_trial : Nat → Nat} {a_moves : Nat → Nat} {g_day : Int32} {v_moves : Rg} {x1 : Int32} {x2 : Int32} (C : MC p s m args meth c D cI cS A RX0 cX0_trailOf 6 (some .int)) (hA : ∀ q, s.heap.size ≤ q → A q) {s0 : Int32} (k : Int32 → Int32 → Int32 → Option (Int32)) (hk : ∀ (x3 : Int32) (x4 : Int32) (x5 : Int32) (H : Heap) (locs : List Loc) (ls : Array Slot), Wd D A s.heap H locs [oX0 a a_series a_pieces a_trial a_moves g_day, cR cI a_moves 100 v_moves] → lv_has ls 6 [(0, .ref (a 0)), (1, .int x1), (2, .int x2), (3, .int x3), (4, .int x4), (5, .int x5)] → k x3 x4 x5 = some s0 → W p l e rmX0_trailOf s m args below meth c H locs 0 0 (KQ D A below args s (some (.int s0)) [oX0 a a_series a_pieces a_trial a_moves g_day, cR cI a_moves 100 v_moves]) (F0 m 74 ls [])) :
    ∀ (n : Nat) (x3 : Int32) (x4 : Int32) (x5 : Int32) (H : Heap) (locs : List Loc) (ls : Array Slot), Wd D A s.heap H locs [oX0 a a_series a_pieces a_trial a_moves g_day, cR cI a_moves 100 v_moves] → lv_has ls 6 [(0, .ref (a 0)), (1, .int x1), (2, .int x2), (3, .int x3), (4, .int x4), (5, .int x5)] → fX0_trailOf_8 v_moves x1 x2 n k x3 x4 x5 = some s0 → W p l e rmX0_trailOf s m args below meth c H locs 0 0 (KQ D A below args s (some (.int s0)) [oX0 a a_series a_pieces a_trial a_moves g_day, cR cI a_moves 100 v_moves]) (F0 m 8 ls []) := by
  have hx := C.1.1
  have hb := C.1.2.1
  intro n
  induction n with
  | zero =>
    intro x3 x4 x5 H locs ls hw hl h
    rw [fX0_trailOf_8] at h
    cases h
  | succ n ih =>
    intro x3 x4 x5 H locs ls hw hl h
    rw [fX0_trailOf_8] at h
    refine lv_iload hx hb dX0_trailOf_8 (lv_at hl 5 rfl) ?_
    refine lv_aload_n hx hb dX0_trailOf_10 rfl (lv_at hl 0 rfl) ?_
    refine k_get C inT_X0 hw 0 rfl rfl 4 (by decide) mF_X0_30 rfl dX0_trailOf_11 ?_
    obtain ⟨r14, q14, h⟩ := bd h
    refine k_callV (nC := 2) [oX0 a a_series a_pieces a_trial a_moves g_day, cR cI a_moves 100 v_moves] C hl.1 (tX4_size (a := a_moves) q14) mL_X0_43 mmX4_size rfl rfl ⟨Nat.le_of_ble_eq_true rfl, Nat.le_of_ble_eq_true rfl⟩ rfl rfl rfl rfl (Nat.le_of_ble_eq_true rfl) hA hw [1] [0] rfl (by decide +kernel) rfl rfl rfl rfl dX0_trailOf_14 (fun H locs hw14 => ?_)
    refine lv_icmp_ge (tgt := 74) hx hb dX0_trailOf_17 (by decide) (fun c17 => ?_) (fun c17 => ?_)
    · replace h := br_t' h c17
      exact hk _ _ _ _ _ _ hw14 (lv_sub hl [0, 1, 2, 3, 4, 5] rfl) h
    · replace h := br_f' h c17
      refine lv_aload_n hx hb dX0_trailOf_20 rfl (lv_at hl 0 rfl) ?_
      refine k_get C inT_X0 hw14 0 rfl rfl 4 (by decide) mF_X0_30 rfl dX0_trailOf_21 ?_
      refine lv_iload hx hb dX0_trailOf_24 (lv_at hl 5 rfl) ?_
      refine lv_iload_n hx hb dX0_trailOf_26 rfl (lv_at hl 1 rfl) ?_
      obtain ⟨r27, q27, h⟩ := bd h
      refine k_callV (nC := 2) [oX0 a a_series a_pieces a_trial a_moves g_day, cR cI a_moves 100 v_moves] C hl.1 (tX4_includes (a := a_moves) q27) mL_X0_138 mmX4_includes rfl rfl ⟨Nat.le_of_ble_eq_true rfl, Nat.le_of_ble_eq_true rfl⟩ rfl rfl rfl rfl (Nat.le_of_ble_eq_true rfl) hA hw14 [1] [0] rfl (by decide +kernel) rfl rfl rfl rfl dX0_trailOf_27 (fun H locs hw27 => ?_)
      refine lv_if_eq (tgt := 68) hx hb dX0_trailOf_30 (by decide) (fun c30 => ?_) (fun c30 => ?_)
      · replace h := br_t' h c30
        refine lv_iinc (v := (x5 + 1)) (lv' := [(5, .int (x5 + 1)), (0, .ref (a 0)), (1, .int x1), (2, .int x2), (3, .int x3), (4, .int x4)]) hx hb dX0_trailOf_68 hl (k := 5) rfl rfl (by decide) rfl (fun ls hl => ?_)
        refine lv_goto (tgt := 8) hx hb dX0_trailOf_71 (by decide) ?_
        exact ih _ _ _ _ _ _ hw27 (lv_sub hl [1, 2, 3, 4, 5, 0] rfl) h
      · replace h := br_f' h c30
        refine lv_aload_n hx hb dX0_trailOf_33 rfl (lv_at hl 0 rfl) ?_
        refine k_get C inT_X0 hw27 0 rfl rfl 4 (by decide) mF_X0_30 rfl dX0_trailOf_34 ?_
        refine lv_iload hx hb dX0_trailOf_37 (lv_at hl 5 rfl) ?_
        obtain ⟨r39, q39, h⟩ := bd h
        refine k_callV (nC := 2) [oX0 a a_series a_pieces a_trial a_moves g_day, cR cI a_moves 100 v_moves] C hl.1 (tX4_markOf (a := a_moves) q39) mL_X0_115 mmX4_markOf rfl rfl ⟨Nat.le_of_ble_eq_true rfl, Nat.le_of_ble_eq_true rfl⟩ rfl rfl rfl rfl (Nat.le_of_ble_eq_true rfl) hA hw27 [1] [0] rfl (by decide +kernel) rfl rfl rfl rfl dX0_trailOf_39 (fun H locs hw39 => ?_)
        refine lv_iload_n hx hb dX0_trailOf_42 rfl (lv_at hl 3 rfl) ?_
        refine lv_icmp_eq (tgt := 68) hx hb dX0_trailOf_43 (by decide) (fun c43 => ?_) (fun c43 => ?_)
        · replace h := br_t' h c43
          refine lv_iinc (v := (x5 + 1)) (lv' := [(5, .int (x5 + 1)), (0, .ref (a 0)), (1, .int x1), (2, .int x2), (3, .int x3), (4, .int x4)]) hx hb dX0_trailOf_68 hl (k := 5) rfl rfl (by decide) rfl (fun ls hl => ?_)
          refine lv_goto (tgt := 8) hx hb dX0_trailOf_71 (by decide) ?_
          exact ih _ _ _ _ _ _ hw39 (lv_sub hl [1, 2, 3, 4, 5, 0] rfl) h
        · replace h := br_f' h c43
          refine lv_iload hx hb dX0_trailOf_46 (lv_at hl 4 rfl) ?_
          refine lv_iload_n hx hb dX0_trailOf_48 rfl (lv_at hl 2 rfl) ?_
          refine lv_icmp_ne (tgt := 55) hx hb dX0_trailOf_49 (by decide) (fun c49 => ?_) (fun c49 => ?_)
          · replace h := br_f' h c49
            refine lv_aload_n hx hb dX0_trailOf_55 rfl (lv_at hl 0 rfl) ?_
            refine k_get C inT_X0 hw39 0 rfl rfl 4 (by decide) mF_X0_30 rfl dX0_trailOf_56 ?_
            refine lv_iload hx hb dX0_trailOf_59 (lv_at hl 5 rfl) ?_
            obtain ⟨r61, q61, h⟩ := bd h
            refine k_callV (nC := 2) [oX0 a a_series a_pieces a_trial a_moves g_day, cR cI a_moves 100 v_moves] C hl.1 (tX4_markOf (a := a_moves) q61) mL_X0_115 mmX4_markOf rfl rfl ⟨Nat.le_of_ble_eq_true rfl, Nat.le_of_ble_eq_true rfl⟩ rfl rfl rfl rfl (Nat.le_of_ble_eq_true rfl) hA hw39 [1] [0] rfl (by decide +kernel) rfl rfl rfl rfl dX0_trailOf_61 (fun H locs hw61 => ?_)
            refine lv_istore_n (lv' := [(3, .int r61), (0, .ref (a 0)), (1, .int x1), (2, .int x2), (4, .int x4), (5, .int x5)]) hx hb dX0_trailOf_64 rfl hl (by decide) rfl (fun ls hl => ?_)
            refine lv_iinc (v := (x4 + 1)) (lv' := [(4, .int (x4 + 1)), (3, .int r61), (0, .ref (a 0)), (1, .int x1), (2, .int x2), (5, .int x5)]) hx hb dX0_trailOf_65 hl (k := 4) rfl rfl (by decide) rfl (fun ls hl => ?_)
            refine lv_iinc (v := (x5 + 1)) (lv' := [(5, .int (x5 + 1)), (4, .int (x4 + 1)), (3, .int r61), (0, .ref (a 0)), (1, .int x1), (2, .int x2)]) hx hb dX0_trailOf_68 hl (k := 5) rfl rfl (by decide) rfl (fun ls hl => ?_)
            refine lv_goto (tgt := 8) hx hb dX0_trailOf_71 (by decide) ?_
            exact ih _ _ _ _ _ _ hw61 (lv_sub hl [3, 4, 5, 2, 1, 0] rfl) h
          · replace h := br_t' h c49
            refine lv_iload hx hb dX0_trailOf_52 (lv_at hl 5 rfl) ?_
            cases h
            exact k_iret C hw39 dX0_trailOf_54
def fX0_trailOf (v_moves : Rg) (x1 : Int32) (x2 : Int32) : Option (Int32) :=
  fX0_trailOf_8 v_moves x1 x2 FU (fun x3_8 x4_8 x5_8 =>
    if x2 = (-1) then
      some x4_8
    else
      some (-1)) (-1) 0 0
set_option maxRecDepth 100000 in
set_option maxHeartbeats 4000000 in
theorem tX0_trailOf {l : Launch} {D : va_G} {cI : ClassId} {cS : GS} {a : Nat → Nat} {a_series : Nat → Nat} {a_pieces : Nat → Nat} {a_trial : Nat → Nat} {a_moves : Nat → Nat} {g_day : Int32} {v_moves : Rg} {x1 : Int32} {x2 : Int32} {s0 : Int32} (h : fX0_trailOf v_moves x1 x2 = some s0) : CT l D cI cS yX0_trailOf cX0_trailOf 6 (some .int) rmX0_trailOf [.ref (a 0), .int x1, .int x2] [oX0 a a_series a_pieces a_trial a_moves g_day, cR cI a_moves 100 v_moves] (some (.int s0)) [oX0 a a_series a_pieces a_trial a_moves g_day, cR cI a_moves 100 v_moves] := by
  refine CT.of RX0 (by decide) rfl (Nat.le_of_ble_eq_true rfl) (fun p e s m below meth c ls A C hA hl hw => ?_)
  have hx := C.1.1
  have hb := C.1.2.1
  have hl : lv_has ls 6 [(0, .ref (a 0)), (1, .int x1), (2, .int x2)] := hl
  unfold fX0_trailOf at h
  refine lv_iconst (v := (-1)) hx hb dX0_trailOf_0 (by decide) ?_
  refine lv_istore_n (lv' := [(3, .int (-1)), (0, .ref (a 0)), (1, .int x1), (2, .int x2)]) hx hb dX0_trailOf_1 rfl hl (by decide) rfl (fun ls hl => ?_)
  refine lv_iconst (v := 0) hx hb dX0_trailOf_2 (by decide) ?_
  refine lv_istore (lv' := [(4, .int 0), (3, .int (-1)), (0, .ref (a 0)), (1, .int x1), (2, .int x2)]) hx hb dX0_trailOf_3 hl (by decide) rfl (fun ls hl => ?_)
  refine lv_iconst (v := 0) hx hb dX0_trailOf_5 (by decide) ?_
  refine lv_istore (lv' := [(5, .int 0), (4, .int 0), (3, .int (-1)), (0, .ref (a 0)), (1, .int x1), (2, .int x2)]) hx hb dX0_trailOf_6 hl (by decide) rfl (fun ls hl => ?_)
  refine wX0_trailOf_8 C hA _ (fun x3_8 x4_8 x5_8 H locs ls hw8x hl h => ?_) FU _ _ _ _ _ _ hw (lv_sub hl [3, 4, 5, 2, 1, 0] rfl) h
  refine lv_iload_n hx hb dX0_trailOf_74 rfl (lv_at hl 2 rfl) ?_
  refine lv_iconst (v := (-1)) hx hb dX0_trailOf_75 (by decide) ?_
  refine lv_icmp_ne (tgt := 84) hx hb dX0_trailOf_76 (by decide) (fun c76 => ?_) (fun c76 => ?_)
  · replace h := br_f' h c76
    refine lv_iconst (v := (-1)) hx hb dX0_trailOf_84 (by decide) ?_
    cases h
    exact k_iret C hw8x dX0_trailOf_85
  · replace h := br_t' h c76
    refine lv_iload hx hb dX0_trailOf_79 (lv_at hl 4 rfl) ?_
    refine lv_goto (tgt := 85) hx hb dX0_trailOf_81 (by decide) ?_
    cases h
    exact k_iret C hw8x dX0_trailOf_85
