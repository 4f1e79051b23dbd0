def rmX3_gaps : Room := { frames := 0, cells := 0, slots := 0, locals := 0 }
def fX3_gaps  : Option (Unit) :=
  some ()
set_option maxRecDepth 100000 in
set_option maxHeartbeats 4000000 in
theorem tX3_gaps {l : Launch} {D : va_G} {cI : ClassId} {cS : GS} {a : Nat → Nat} {a_gaps : Nat → Nat} {a_layings : Nat → Nat} {g_remaining : Int32}   (h : fX3_gaps  = some ()) : CT l D cI cS yX3_gaps cX3_gaps 1 (some (.object "BoxedPapers$Ranges")) rmX3_gaps [.ref (a 0)] [oX3 a a_gaps a_layings g_remaining] (some (.ref (a_gaps 0))) [oX3 a a_gaps a_layings g_remaining] := by
  refine CT.of RX3 (by decide) rfl (Nat.le_of_ble_eq_true rfl) (fun p e s m below meth c ls A C hA hl hw => ?_)
  have hx := C.1.1
  have hb := C.1.2.1
  have hl : lv_has ls 1 [(0, .ref (a 0))] := hl
  unfold fX3_gaps at h
  refine lv_aload_n hx hb dX3_gaps_0 rfl (lv_at hl 0 rfl) ?_
  refine k_get C inT_X3 hw 0 rfl rfl 0 (by decide) mF_X3_14 rfl dX3_gaps_1 ?_
  cases h
  exact k_aret C (Or.inr ⟨_, rfl⟩) hw dX3_gaps_4
def rmX3_layings : Room := { frames := 0, cells := 0, slots := 0, locals := 0 }
def fX3_layings  : Option (Unit) :=
  some ()
set_option maxRecDepth 100000 in
set_option maxHeartbeats 4000000 in
theorem tX3_layings {l : Launch} {D : va_G} {cI : ClassId} {cS : GS} {a : Nat → Nat} {a_gaps : Nat → Nat} {a_layings : Nat → Nat} {g_remaining : Int32}   (h : fX3_layings  = some ()) : CT l D cI cS yX3_layings cX3_layings 1 (some (.object "BoxedPapers$Ranges")) rmX3_layings [.ref (a 0)] [oX3 a a_gaps a_layings g_remaining] (some (.ref (a_layings 0))) [oX3 a a_gaps a_layings g_remaining] := by
  refine CT.of RX3 (by decide) rfl (Nat.le_of_ble_eq_true rfl) (fun p e s m below meth c ls A C hA hl hw => ?_)
  have hx := C.1.1
  have hb := C.1.2.1
  have hl : lv_has ls 1 [(0, .ref (a 0))] := hl
  unfold fX3_layings at h
  refine lv_aload_n hx hb dX3_layings_0 rfl (lv_at hl 0 rfl) ?_
  refine k_get C inT_X3 hw 0 rfl rfl 1 (by decide) mF_X3_20 rfl dX3_layings_1 ?_
  cases h
  exact k_aret C (Or.inr ⟨_, rfl⟩) hw dX3_layings_4
def rmX3_remaining : Room := { frames := 0, cells := 0, slots := 0, locals := 0 }
def fX3_remaining (g_remaining : Int32) : Option (Int32) :=
  some g_remaining
set_option maxRecDepth 100000 in
set_option maxHeartbeats 4000000 in
theorem tX3_remaining {l : Launch} {D : va_G} {cI : ClassId} {cS : GS} {a : Nat → Nat} {a_gaps : Nat → Nat} {a_layings : Nat → Nat} {g_remaining : Int32}  {s0 : Int32} (h : fX3_remaining g_remaining = some s0) : CT l D cI cS yX3_remaining cX3_remaining 1 (some .int) rmX3_remaining [.ref (a 0)] [oX3 a a_gaps a_layings g_remaining] (some (.int s0)) [oX3 a a_gaps a_layings g_remaining] := by
  refine CT.of RX3 (by decide) rfl (Nat.le_of_ble_eq_true rfl) (fun p e s m below meth c ls A C hA hl hw => ?_)
  have hx := C.1.1
  have hb := C.1.2.1
  have hl : lv_has ls 1 [(0, .ref (a 0))] := hl
  unfold fX3_remaining at h
  refine lv_aload_n hx hb dX3_remaining_0 rfl (lv_at hl 0 rfl) ?_
  refine k_get C inT_X3 hw 0 rfl rfl 3 (by decide) mF_X3_27 rfl dX3_remaining_1 ?_
  cases h
  exact k_iret C hw dX3_remaining_4
def rmX3_findGaps : Room := { frames := 3, cells := 0, slots := 0, locals := 63 }
def fX3_findGaps_30 (v_p1_pieces : Rg) (x4 : Int32) : (n : Nat) → (k : Int32 → Int32 → Rg → Option (Rg)) → Int32 → Int32 → Rg → Option (Rg)
  | 0, _, _, _, _ => none
  | n + 1, k, x5, x6, v_gaps =>
    (fX4_size 42 v_p1_pieces).bind fun r33 =>
    if r33 ≤ x6 then
      k x5 x6 v_gaps
    else
      (fX4_meets 42 v_p1_pieces x6 x5 x4).bind fun r46 =>
      if r46 = 0 then
        fX3_findGaps_30 v_p1_pieces x4 n k x5 (x6 + 1) v_gaps
      else
        (fX4_firstOf 42 v_p1_pieces x6).bind fun r55 =>
        if r55 ≤ x5 then
          (fX4_lastOf 42 v_p1_pieces x6).bind fun r85 =>
          fX3_findGaps_30 v_p1_pieces x4 n k (r85 + 1) (x6 + 1) v_gaps
        else
          (fX4_firstOf 42 v_p1_pieces x6).bind fun r73 =>
          (fX4_add 41 v_gaps (-1) x5 (r73 - 1)).bind fun r78 =>
          (fX4_lastOf 42 v_p1_pieces x6).bind fun r85 =>
          fX3_findGaps_30 v_p1_pieces x4 n k (r85 + 1) (x6 + 1) r78.2
set_option maxRecDepth 100000 in
set_option maxHeartbeats 4000000 in
theorem wX3_findGaps_30 {p : Program} {l : Launch} {e : Env} {s : State} {m : MethodId} {args : Array Value} {below : List Frame} {meth : Method} {c : Code} {D : va_G} {cI : ClassId} {cS : GS} {A : Nat → Prop} {a : Nat → Nat} {a_gaps : Nat → Nat} {a_layings : Nat → Nat} {a_p1 : Nat → Nat} {a_p1_series : Nat → Nat} {a_p1_pieces : Nat → Nat} {a_p1_trial : Nat → Nat} {a_p1_moves : Nat → Nat} {g_remaining : Int32} {g_p1_day : Int32} {v_p1_series : Rg} {v_p1_pieces : Rg} {x4 : Int32} (C : MC p s m args meth c D cI cS A RX3 cX3_findGaps 7 none) (hA : ∀ q, s.heap.size ≤ q → A q) {s0 : Rg} (k : Int32 → Int32 → Rg → Option (Rg)) (hk : ∀ (x5 : Int32) (x6 : Int32) (v_gaps : Rg) (H : Heap) (locs : List Loc) (ls : Array Slot), Wd D A s.heap H locs [oX3 a a_gaps a_layings g_remaining, cR cI a_gaps 41 v_gaps, oX0 a_p1 a_p1_series a_p1_pieces a_p1_trial a_p1_moves g_p1_day, cR cI a_p1_series 10 v_p1_series, cR cI a_p1_pieces 42 v_p1_pieces] → lv_has ls 7 [(0, .ref (a 0)), (3, .ref (a_p1_pieces 0)), (4, .int x4), (5, .int x5), (6, .int x6)] → k x5 x6 v_gaps = some s0 → W p l e rmX3_findGaps s m args below meth c H locs 0 0 (KQ D A below args s none [oX3 a a_gaps a_layings g_remaining, cR cI a_gaps 41 s0, oX0 a_p1 a_p1_series a_p1_pieces a_p1_trial a_p1_moves g_p1_day, cR cI a_p1_series 10 v_p1_series, cR cI a_p1_pieces 42 v_p1_pieces]) (F0 m 98 ls [])) :
    ∀ (n : Nat) (x5 : Int32) (x6 : Int32) (v_gaps : Rg) (H : Heap) (locs : List Loc) (ls : Array Slot), Wd D A s.heap H locs [oX3 a a_gaps a_layings g_remaining, cR cI a_gaps 41 v_gaps, oX0 a_p1 a_p1_series a_p1_pieces a_p1_trial a_p1_moves g_p1_day, cR cI a_p1_series 10 v_p1_series, cR cI a_p1_pieces 42 v_p1_pieces] → lv_has ls 7 [(0, .ref (a 0)), (3, .ref (a_p1_pieces 0)), (4, .int x4), (5, .int x5), (6, .int x6)] → fX3_findGaps_30 v_p1_pieces x4 n k x5 x6 v_gaps = some s0 → W p l e rmX3_findGaps s m args below meth c H locs 0 0 (KQ D A below args s none [oX3 a a_gaps a_layings g_remaining, cR cI a_gaps 41 s0, oX0 a_p1 a_p1_series a_p1_pieces a_p1_trial a_p1_moves g_p1_day, cR cI a_p1_series 10 v_p1_series, cR cI a_p1_pieces 42 v_p1_pieces]) (F0 m 30 ls []) := by
  have hx := C.1.1
  have hb := C.1.2.1
  intro n
  induction n with
  | zero =>
    intro x5 x6 v_gaps H locs ls hw hl h
    rw [fX3_findGaps_30] at h
    cases h
  | succ n ih =>
    intro x5 x6 v_gaps H locs ls hw hl h
    rw [fX3_findGaps_30] at h
    refine lv_iload hx hb dX3_findGaps_30 (lv_at hl 4 rfl) ?_
    refine lv_aload_n hx hb dX3_findGaps_32 rfl (lv_at hl 1 rfl) ?_
    obtain ⟨r33, q33, h⟩ := bd h
    refine k_callV (nC := 5) [oX3 a a_gaps a_layings g_remaining, cR cI a_gaps 41 v_gaps, oX0 a_p1 a_p1_series a_p1_pieces a_p1_trial a_p1_moves g_p1_day, cR cI a_p1_series 10 v_p1_series, cR cI a_p1_pieces 42 v_p1_pieces] C hl.1 (tX4_size (a := a_p1_pieces) q33) mL_X3_47 mmX4_size rfl rfl ⟨Nat.le_of_ble_eq_true rfl, Nat.le_of_ble_eq_true rfl⟩ rfl rfl rfl rfl (Nat.le_of_ble_eq_true rfl) hA hw [4] [0, 1, 2, 3] rfl (by decide +kernel) rfl rfl rfl rfl dX3_findGaps_33 (fun H locs hw33 => ?_)
    refine lv_icmp_ge (tgt := 98) hx hb dX3_findGaps_36 (by decide) (fun c36 => ?_) (fun c36 => ?_)
    · replace h := br_t' h c36
      exact hk _ _ _ _ _ _ hw33 (lv_sub hl [0, 1, 2, 3, 4] rfl) h
    · replace h := br_f' h c36
      refine lv_aload_n hx hb dX3_findGaps_39 rfl (lv_at hl 1 rfl) ?_
      refine lv_iload hx hb dX3_findGaps_40 (lv_at hl 4 rfl) ?_
      refine lv_iload hx hb dX3_findGaps_42 (lv_at hl 3 rfl) ?_
      refine lv_iload hx hb dX3_findGaps_44 (lv_at hl 2 rfl) ?_
      obtain ⟨r46, q46, h⟩ := bd h
      refine k_callV (nC := 5) [oX3 a a_gaps a_layings g_remaining, cR cI a_gaps 41 v_gaps, oX0 a_p1 a_p1_series a_p1_pieces a_p1_trial a_p1_moves g_p1_day, cR cI a_p1_series 10 v_p1_series, cR cI a_p1_pieces 42 v_p1_pieces] C hl.1 (tX4_meets (a := a_p1_pieces) q46) mL_X3_51 mmX4_meets rfl rfl ⟨Nat.le_of_ble_eq_true rfl, Nat.le_of_ble_eq_true rfl⟩ rfl rfl rfl rfl (Nat.le_of_ble_eq_true rfl) hA hw33 [4] [0, 1, 2, 3] rfl (by decide +kernel) rfl rfl rfl rfl dX3_findGaps_46 (fun H locs hw46 => ?_)
      refine lv_if_eq (tgt := 92) hx hb dX3_findGaps_49 (by decide) (fun c49 => ?_) (fun c49 => ?_)
      · replace h := br_t' h c49
        refine lv_iinc (v := (x6 + 1)) (lv' := [(6, .int (x6 + 1)), (0, .ref (a 0)), (3, .ref (a_p1_pieces 0)), (4, .int x4), (5, .int x5)]) hx hb dX3_findGaps_92 hl (k := 4) rfl rfl (by decide) rfl (fun ls hl => ?_)
        refine lv_goto (tgt := 30) hx hb dX3_findGaps_95 (by decide) ?_
        exact ih _ _ _ _ _ _ hw46 (lv_sub hl [1, 2, 3, 4, 0] rfl) h
      · replace h := br_f' h c49
        refine lv_aload_n hx hb dX3_findGaps_52 rfl (lv_at hl 1 rfl) ?_
        refine lv_iload hx hb dX3_findGaps_53 (lv_at hl 4 rfl) ?_
        obtain ⟨r55, q55, h⟩ := bd h
        refine k_callV (nC := 5) [oX3 a a_gaps a_layings g_remaining, cR cI a_gaps 41 v_gaps, oX0 a_p1 a_p1_series a_p1_pieces a_p1_trial a_p1_moves g_p1_day, cR cI a_p1_series 10 v_p1_series, cR cI a_p1_pieces 42 v_p1_pieces] C hl.1 (tX4_firstOf (a := a_p1_pieces) q55) mL_X3_55 mmX4_firstOf rfl rfl ⟨Nat.le_of_ble_eq_true rfl, Nat.le_of_ble_eq_true rfl⟩ rfl rfl rfl rfl (Nat.le_of_ble_eq_true rfl) hA hw46 [4] [0, 1, 2, 3] rfl (by decide +kernel) rfl rfl rfl rfl dX3_findGaps_55 (fun H locs hw55 => ?_)
        refine lv_iload hx hb dX3_findGaps_58 (lv_at hl 3 rfl) ?_
        refine lv_icmp_le (tgt := 82) hx hb dX3_findGaps_60 (by decide) (fun c60 => ?_) (fun c60 => ?_)
        · replace h := br_t' h c60
          refine lv_aload_n hx hb dX3_findGaps_82 rfl (lv_at hl 1 rfl) ?_
          refine lv_iload hx hb dX3_findGaps_83 (lv_at hl 4 rfl) ?_
          obtain ⟨r85, q85, h⟩ := bd h
          refine k_callV (nC := 5) [oX3 a a_gaps a_layings g_remaining, cR cI a_gaps 41 v_gaps, oX0 a_p1 a_p1_series a_p1_pieces a_p1_trial a_p1_moves g_p1_day, cR cI a_p1_series 10 v_p1_series, cR cI a_p1_pieces 42 v_p1_pieces] C hl.1 (tX4_lastOf (a := a_p1_pieces) q85) mL_X3_61 mmX4_lastOf rfl rfl ⟨Nat.le_of_ble_eq_true rfl, Nat.le_of_ble_eq_true rfl⟩ rfl rfl rfl rfl (Nat.le_of_ble_eq_true rfl) hA hw55 [4] [0, 1, 2, 3] rfl (by decide +kernel) rfl rfl rfl rfl dX3_findGaps_85 (fun H locs hw85 => ?_)
          refine lv_iconst (v := 1) hx hb dX3_findGaps_88 (by decide) ?_
          refine lv_iadd hx hb dX3_findGaps_89 ?_
          refine lv_istore (lv' := [(5, .int (r85 + 1)), (0, .ref (a 0)), (3, .ref (a_p1_pieces 0)), (4, .int x4), (6, .int x6)]) hx hb dX3_findGaps_90 hl (by decide) rfl (fun ls hl => ?_)
          refine lv_iinc (v := (x6 + 1)) (lv' := [(6, .int (x6 + 1)), (5, .int (r85 + 1)), (0, .ref (a 0)), (3, .ref (a_p1_pieces 0)), (4, .int x4)]) hx hb dX3_findGaps_92 hl (k := 4) rfl rfl (by decide) rfl (fun ls hl => ?_)
          refine lv_goto (tgt := 30) hx hb dX3_findGaps_95 (by decide) ?_
          exact ih _ _ _ _ _ _ hw85 (lv_sub hl [2, 3, 4, 1, 0] rfl) h
        · replace h := br_f' h c60
          refine lv_aload_n hx hb dX3_findGaps_63 rfl (lv_at hl 0 rfl) ?_
          refine k_get C inT_X3 hw55 0 rfl rfl 0 (by decide) mF_X3_14 rfl dX3_findGaps_64 ?_
          refine lv_iconst (v := (-1)) hx hb dX3_findGaps_67 (by decide) ?_
          refine lv_iload hx hb dX3_findGaps_68 (lv_at hl 3 rfl) ?_
          refine lv_aload_n hx hb dX3_findGaps_70 rfl (lv_at hl 1 rfl) ?_
          refine lv_iload hx hb dX3_findGaps_71 (lv_at hl 4 rfl) ?_
          obtain ⟨r73, q73, h⟩ := bd h
          refine k_callV (nC := 5) [oX3 a a_gaps a_layings g_remaining, cR cI a_gaps 41 v_gaps, oX0 a_p1 a_p1_series a_p1_pieces a_p1_trial a_p1_moves g_p1_day, cR cI a_p1_series 10 v_p1_series, cR cI a_p1_pieces 42 v_p1_pieces] C hl.1 (tX4_firstOf (a := a_p1_pieces) q73) mL_X3_55 mmX4_firstOf rfl rfl ⟨Nat.le_of_ble_eq_true rfl, Nat.le_of_ble_eq_true rfl⟩ rfl rfl rfl rfl (Nat.le_of_ble_eq_true rfl) hA hw55 [4] [0, 1, 2, 3] rfl (by decide +kernel) rfl rfl rfl rfl dX3_findGaps_73 (fun H locs hw73 => ?_)
          refine lv_iconst (v := 1) hx hb dX3_findGaps_76 (by decide) ?_
          refine lv_isub hx hb dX3_findGaps_77 ?_
          obtain ⟨r78, q78, h⟩ := bd h
          refine k_callV (nC := 5) [oX3 a a_gaps a_layings g_remaining, cR cI a_gaps 41 r78.2, oX0 a_p1 a_p1_series a_p1_pieces a_p1_trial a_p1_moves g_p1_day, cR cI a_p1_series 10 v_p1_series, cR cI a_p1_pieces 42 v_p1_pieces] C hl.1 (tX4_add (a := a_gaps) q78) mL_X3_58 mmX4_add rfl rfl ⟨Nat.le_of_ble_eq_true rfl, Nat.le_of_ble_eq_true rfl⟩ rfl rfl rfl rfl (Nat.le_of_ble_eq_true rfl) hA hw73 [1] [0, 2, 3, 4] rfl (by decide +kernel) rfl rfl rfl rfl dX3_findGaps_78 (fun H locs hw78 => ?_)
          refine lv_pop hx hb dX3_findGaps_81 rfl ?_
          refine lv_aload_n hx hb dX3_findGaps_82 rfl (lv_at hl 1 rfl) ?_
          refine lv_iload hx hb dX3_findGaps_83 (lv_at hl 4 rfl) ?_
          obtain ⟨r85, q85, h⟩ := bd h
          refine k_callV (nC := 5) [oX3 a a_gaps a_layings g_remaining, cR cI a_gaps 41 r78.2, oX0 a_p1 a_p1_series a_p1_pieces a_p1_trial a_p1_moves g_p1_day, cR cI a_p1_series 10 v_p1_series, cR cI a_p1_pieces 42 v_p1_pieces] C hl.1 (tX4_lastOf (a := a_p1_pieces) q85) mL_X3_61 mmX4_lastOf rfl rfl ⟨Nat.le_of_ble_eq_true rfl, Nat.le_of_ble_eq_true rfl⟩ rfl rfl rfl rfl (Nat.le_of_ble_eq_true rfl) hA hw78 [4] [0, 1, 2, 3] rfl (by decide +kernel) rfl rfl rfl rfl dX3_findGaps_85 (fun H locs hw85 => ?_)
          refine lv_iconst (v := 1) hx hb dX3_findGaps_88 (by decide) ?_
          refine lv_iadd hx hb dX3_findGaps_89 ?_
          refine lv_istore (lv' := [(5, .int (r85 + 1)), (0, .ref (a 0)), (3, .ref (a_p1_pieces 0)), (4, .int x4), (6, .int x6)]) hx hb dX3_findGaps_90 hl (by decide) rfl (fun ls hl => ?_)
          refine lv_iinc (v := (x6 + 1)) (lv' := [(6, .int (x6 + 1)), (5, .int (r85 + 1)), (0, .ref (a 0)), (3, .ref (a_p1_pieces 0)), (4, .int x4)]) hx hb dX3_findGaps_92 hl (k := 4) rfl rfl (by decide) rfl (fun ls hl => ?_)
          refine lv_goto (tgt := 30) hx hb dX3_findGaps_95 (by decide) ?_
          exact ih _ _ _ _ _ _ hw85 (lv_sub hl [2, 3, 4, 1, 0] rfl) h
def fX3_findGaps (v_gaps : Rg) (v_p1_series : Rg) (v_p1_pieces : Rg) (x2 : Int32) : Option (Rg) :=
  (fX0_pieces).bind fun r1 =>
  (fX0_lastIn v_p1_series x2).bind fun r7 =>
  (fX0_firstIn v_p1_series x2).bind fun r14 =>
  (fX4_cutTo 41 v_gaps 0).bind fun r24 =>
  fX3_findGaps_30 v_p1_pieces r7 FU (fun x5_30 x6_30 v_gaps_30 =>
    if r7 < x5_30 then
      some v_gaps_30
    else
      (fX4_add 41 v_gaps_30 (-1) x5_30 r7).bind fun r114 =>
      some r114.2) r14 0 r24
set_option maxRecDepth 100000 in
set_option maxHeartbeats 4000000 in
theorem tX3_findGaps {l : Launch} {D : va_G} {cI : ClassId} {cS : GS} {a : Nat → Nat} {a_gaps : Nat → Nat} {a_layings : Nat → Nat} {a_p1 : Nat → Nat} {a_p1_series : Nat → Nat} {a_p1_pieces : Nat → Nat} {a_p1_trial : Nat → Nat} {a_p1_moves : Nat → Nat} {g_remaining : Int32} {v_gaps : Rg} {g_p1_day : Int32} {v_p1_series : Rg} {v_p1_pieces : Rg} {x2 : Int32} {s0 : Rg} (h : fX3_findGaps v_gaps v_p1_series v_p1_pieces x2 = some s0) : CT l D cI cS yX3_findGaps cX3_findGaps 7 none rmX3_findGaps [.ref (a 0), .ref (a_p1 0), .int x2] [oX3 a a_gaps a_layings g_remaining, cR cI a_gaps 41 v_gaps, oX0 a_p1 a_p1_series a_p1_pieces a_p1_trial a_p1_moves g_p1_day, cR cI a_p1_series 10 v_p1_series, cR cI a_p1_pieces 42 v_p1_pieces] none [oX3 a a_gaps a_layings g_remaining, cR cI a_gaps 41 s0, oX0 a_p1 a_p1_series a_p1_pieces a_p1_trial a_p1_moves g_p1_day, cR cI a_p1_series 10 v_p1_series, cR cI a_p1_pieces 42 v_p1_pieces] := by
  refine CT.of RX3 (by decide) rfl (Nat.le_of_ble_eq_true rfl) (fun p e s m below meth c ls A C hA hl hw => ?_)
  have hx := C.1.1
  have hb := C.1.2.1
  have hl : lv_has ls 7 [(0, .ref (a 0)), (1, .ref (a_p1 0)), (2, .int x2)] := hl
  unfold fX3_findGaps at h
  refine lv_aload_n hx hb dX3_findGaps_0 rfl (lv_at hl 1 rfl) ?_
  obtain ⟨r1, q1, h⟩ := bd h
  refine k_callV (nC := 5) [oX3 a a_gaps a_layings g_remaining, cR cI a_gaps 41 v_gaps, oX0 a_p1 a_p1_series a_p1_pieces a_p1_trial a_p1_moves g_p1_day, cR cI a_p1_series 10 v_p1_series, cR cI a_p1_pieces 42 v_p1_pieces] C hl.1 (tX0_pieces (a := a_p1) (a_series := a_p1_series) (a_pieces := a_p1_pieces) (a_trial := a_p1_trial) (a_moves := a_p1_moves) q1) mL_X3_31 mmX0_pieces rfl rfl ⟨Nat.le_of_ble_eq_true rfl, Nat.le_of_ble_eq_true rfl⟩ rfl rfl rfl rfl (Nat.le_of_ble_eq_true rfl) hA hw [2] [0, 1, 3, 4] rfl (by decide +kernel) rfl rfl rfl rfl dX3_findGaps_1 (fun H locs hw1 => ?_)
  refine lv_astore_n (lv' := [(3, .ref (a_p1_pieces 0)), (0, .ref (a 0)), (1, .ref (a_p1 0)), (2, .int x2)]) hx hb dX3_findGaps_4 rfl hl (by decide) rfl (fun ls hl => ?_)
  refine lv_aload_n hx hb dX3_findGaps_5 rfl (lv_at hl 2 rfl) ?_
  refine lv_iload_n hx hb dX3_findGaps_6 rfl (lv_at hl 3 rfl) ?_
  obtain ⟨r7, q7, h⟩ := bd h
  refine k_callV (nC := 5) [oX3 a a_gaps a_layings g_remaining, cR cI a_gaps 41 v_gaps, oX0 a_p1 a_p1_series a_p1_pieces a_p1_trial a_p1_moves g_p1_day, cR cI a_p1_series 10 v_p1_series, cR cI a_p1_pieces 42 v_p1_pieces] C hl.1 (tX0_lastIn (a := a_p1) (a_series := a_p1_series) (a_pieces := a_p1_pieces) (a_trial := a_p1_trial) (a_moves := a_p1_moves) q7) mL_X3_37 mmX0_lastIn rfl rfl ⟨Nat.le_of_ble_eq_true rfl, Nat.le_of_ble_eq_true rfl⟩ rfl rfl rfl rfl (Nat.le_of_ble_eq_true rfl) hA hw1 [2, 3] [0, 1, 4] rfl (by decide +kernel) rfl rfl rfl rfl dX3_findGaps_7 (fun H locs hw7 => ?_)
  refine lv_istore (lv' := [(4, .int r7), (3, .ref (a_p1_pieces 0)), (0, .ref (a 0)), (1, .ref (a_p1 0)), (2, .int x2)]) hx hb dX3_findGaps_10 hl (by decide) rfl (fun ls hl => ?_)
  refine lv_aload_n hx hb dX3_findGaps_12 rfl (lv_at hl 3 rfl) ?_
  refine lv_iload_n hx hb dX3_findGaps_13 rfl (lv_at hl 4 rfl) ?_
  obtain ⟨r14, q14, h⟩ := bd h
  refine k_callV (nC := 5) [oX3 a a_gaps a_layings g_remaining, cR cI a_gaps 41 v_gaps, oX0 a_p1 a_p1_series a_p1_pieces a_p1_trial a_p1_moves g_p1_day, cR cI a_p1_series 10 v_p1_series, cR cI a_p1_pieces 42 v_p1_pieces] C hl.1 (tX0_firstIn (a := a_p1) (a_series := a_p1_series) (a_pieces := a_p1_pieces) (a_trial := a_p1_trial) (a_moves := a_p1_moves) q14) mL_X3_41 mmX0_firstIn rfl rfl ⟨Nat.le_of_ble_eq_true rfl, Nat.le_of_ble_eq_true rfl⟩ rfl rfl rfl rfl (Nat.le_of_ble_eq_true rfl) hA hw7 [2, 3] [0, 1, 4] rfl (by decide +kernel) rfl rfl rfl rfl dX3_findGaps_14 (fun H locs hw14 => ?_)
  refine lv_istore (lv' := [(5, .int r14), (4, .int r7), (3, .ref (a_p1_pieces 0)), (0, .ref (a 0)), (1, .ref (a_p1 0)), (2, .int x2)]) hx hb dX3_findGaps_17 hl (by decide) rfl (fun ls hl => ?_)
  refine lv_aload_n hx hb dX3_findGaps_19 rfl (lv_at hl 3 rfl) ?_
  refine k_get C inT_X3 hw14 0 rfl rfl 0 (by decide) mF_X3_14 rfl dX3_findGaps_20 ?_
  refine lv_iconst (v := 0) hx hb dX3_findGaps_23 (by decide) ?_
  obtain ⟨r24, q24, h⟩ := bd h
  refine k_callV (nC := 5) [oX3 a a_gaps a_layings g_remaining, cR cI a_gaps 41 r24, oX0 a_p1 a_p1_series a_p1_pieces a_p1_trial a_p1_moves g_p1_day, cR cI a_p1_series 10 v_p1_series, cR cI a_p1_pieces 42 v_p1_pieces] C hl.1 (tX4_cutTo (a := a_gaps) q24) mL_X3_44 mmX4_cutTo rfl rfl ⟨Nat.le_of_ble_eq_true rfl, Nat.le_of_ble_eq_true rfl⟩ rfl rfl rfl rfl (Nat.le_of_ble_eq_true rfl) hA hw14 [1] [0, 2, 3, 4] rfl (by decide +kernel) rfl rfl rfl rfl dX3_findGaps_24 (fun H locs hw24 => ?_)
  refine lv_iconst (v := 0) hx hb dX3_findGaps_27 (by decide) ?_
  refine lv_istore (lv' := [(6, .int 0), (5, .int r14), (4, .int r7), (3, .ref (a_p1_pieces 0)), (0, .ref (a 0)), (1, .ref (a_p1 0)), (2, .int x2)]) hx hb dX3_findGaps_28 hl (by decide) rfl (fun ls hl => ?_)
  refine wX3_findGaps_30 C hA _ (fun x5_30 x6_30 v_gaps_30 H locs ls hw30x hl h => ?_) FU _ _ _ _ _ _ hw24 (lv_sub hl [4, 3, 2, 1, 0] rfl) h
  refine lv_iload hx hb dX3_findGaps_98 (lv_at hl 3 rfl) ?_
  refine lv_iload hx hb dX3_findGaps_100 (lv_at hl 2 rfl) ?_
  refine lv_icmp_gt (tgt := 118) hx hb dX3_findGaps_102 (by decide) (fun c102 => ?_) (fun c102 => ?_)
  · replace h := br_t' h c102
    cases h
    exact k_vret C hw30x dX3_findGaps_118
  · replace h := br_f' h c102
    refine lv_aload_n hx hb dX3_findGaps_105 rfl (lv_at hl 0 rfl) ?_
    refine k_get C inT_X3 hw30x 0 rfl rfl 0 (by decide) mF_X3_14 rfl dX3_findGaps_106 ?_
    refine lv_iconst (v := (-1)) hx hb dX3_findGaps_109 (by decide) ?_
    refine lv_iload hx hb dX3_findGaps_110 (lv_at hl 3 rfl) ?_
    refine lv_iload hx hb dX3_findGaps_112 (lv_at hl 2 rfl) ?_
    obtain ⟨r114, q114, h⟩ := bd h
    refine k_callV (nC := 5) [oX3 a a_gaps a_layings g_remaining, cR cI a_gaps 41 r114.2, oX0 a_p1 a_p1_series a_p1_pieces a_p1_trial a_p1_moves g_p1_day, cR cI a_p1_series 10 v_p1_series, cR cI a_p1_pieces 42 v_p1_pieces] C hl.1 (tX4_add (a := a_gaps) q114) mL_X3_58 mmX4_add rfl rfl ⟨Nat.le_of_ble_eq_true rfl, Nat.le_of_ble_eq_true rfl⟩ rfl rfl rfl rfl (Nat.le_of_ble_eq_true rfl) hA hw30x [1] [0, 2, 3, 4] rfl (by decide +kernel) rfl rfl rfl rfl dX3_findGaps_114 (fun H locs hw114 => ?_)
    refine lv_pop hx hb dX3_findGaps_117 rfl ?_
    cases h
    exact k_vret C hw114 dX3_findGaps_118
def rmX3_tightestFor : Room := { frames := 0, cells := 0, slots := 0, locals := 0 }
def fX3_tightestFor_4 (g_free : Nat → Int32) (x1 : Int32) : (n : Nat) → (k : Int32 → Int32 → Option (Int32)) → Int32 → Int32 → Option (Int32)
  | 0, _, _, _ => none
  | n + 1, k, x2, x3 =>
    if 8 ≤ x3 then
      k x2 x3
    else
      (ld 8 g_free x3).bind fun y15 =>
      if y15 < x1 then
        fX3_tightestFor_4 g_free x1 n k x2 (x3 + 1)
      else
        if x2 = (-1) then
          fX3_tightestFor_4 g_free x1 n k x3 (x3 + 1)
        else
          (ld 8 g_free x3).bind fun y30 =>
          (ld 8 g_free x2).bind fun y36 =>
          if y36 ≤ y30 then
            fX3_tightestFor_4 g_free x1 n k x2 (x3 + 1)
          else
            fX3_tightestFor_4 g_free x1 n k x3 (x3 + 1)
set_option maxRecDepth 100000 in
set_option maxHeartbeats 4000000 in
theorem wX3_tightestFor_4 {p : Program} {l : Launch} {e : Env} {s : State} {m : MethodId} {args : Array Value} {below : List Frame} {meth : Method} {c : Code} {D : va_G} {cI : ClassId} {cS : GS} {A : Nat → Prop} {a : Nat → Nat} {a_gaps : Nat → Nat} {a_layings : Nat → Nat} {g_free : Nat → Int32} {g_remaining : Int32} {x1 : Int32} (C : MC p s m args meth c D cI cS A RX3 cX3_tightestFor 4 (some .int)) (hA : ∀ q, s.heap.size ≤ q → A q) {s0 : Int32} (k : Int32 → Int32 → Option (Int32)) (hk : ∀ (x2 : Int32) (x3 : Int32) (H : Heap) (locs : List Loc) (ls : Array Slot), Wd D A s.heap H locs [oX3 a a_gaps a_layings g_remaining, ar cI (a 3) 8 g_free] → lv_has ls 4 [(0, .ref (a 0)), (1, .int x1), (2, .int x2), (3, .int x3)] → k x2 x3 = some s0 → W p l e rmX3_tightestFor s m args below meth c H locs 0 0 (KQ D A below args s (some (.int s0)) [oX3 a a_gaps a_layings g_remaining, ar cI (a 3) 8 g_free]) (F0 m 48 ls [])) :
    ∀ (n : Nat) (x2 : Int32) (x3 : Int32) (H : Heap) (locs : List Loc) (ls : Array Slot), Wd D A s.heap H locs [oX3 a a_gaps a_layings g_remaining, ar cI (a 3) 8 g_free] → lv_has ls 4 [(0, .ref (a 0)), (1, .int x1), (2, .int x2), (3, .int x3)] → fX3_tightestFor_4 g_free x1 n k x2 x3 = some s0 → W p l e rmX3_tightestFor s m args below meth c H locs 0 0 (KQ D A below args s (some (.int s0)) [oX3 a a_gaps a_layings g_remaining, ar cI (a 3) 8 g_free]) (F0 m 4 ls []) := by
  have hx := C.1.1
  have hb := C.1.2.1
  intro n
  induction n with
  | zero =>
    intro x2 x3 H locs ls hw hl h
    rw [fX3_tightestFor_4] at h
    cases h
  | succ n ih =>
    intro x2 x3 H locs ls hw hl h
    rw [fX3_tightestFor_4] at h
    refine lv_iload_n hx hb dX3_tightestFor_4 rfl (lv_at hl 3 rfl) ?_
    refine lv_bipush (v := 8) hx hb dX3_tightestFor_5 (by decide) ?_
    refine lv_icmp_ge (tgt := 48) hx hb dX3_tightestFor_7 (by decide) (fun c7 => ?_) (fun c7 => ?_)
    · replace h := br_t' h c7
      exact hk _ _ _ _ _ hw (lv_sub hl [0, 1, 2, 3] rfl) h
    · replace h := br_f' h c7
      refine lv_aload_n hx hb dX3_tightestFor_10 rfl (lv_at hl 0 rfl) ?_
      refine k_get C inT_X3 hw 0 rfl rfl 2 (by decide) mF_X3_23 rfl dX3_tightestFor_11 ?_
      refine lv_iload_n hx hb dX3_tightestFor_14 rfl (lv_at hl 3 rfl) ?_
      obtain ⟨y15, q15, h⟩ := bd h
      refine k_iald C hw 1 rfl q15 dX3_tightestFor_15 ?_
      refine lv_iload_n hx hb dX3_tightestFor_16 rfl (lv_at hl 1 rfl) ?_
      refine lv_icmp_lt (tgt := 42) hx hb dX3_tightestFor_17 (by decide) (fun c17 => ?_) (fun c17 => ?_)
      · replace h := br_t' h c17
        refine lv_iinc (v := (x3 + 1)) (lv' := [(3, .int (x3 + 1)), (0, .ref (a 0)), (1, .int x1), (2, .int x2)]) hx hb dX3_tightestFor_42 hl (k := 3) rfl rfl (by decide) rfl (fun ls hl => ?_)
        refine lv_goto (tgt := 4) hx hb dX3_tightestFor_45 (by decide) ?_
        exact ih _ _ _ _ _ hw (lv_sub hl [1, 2, 3, 0] rfl) h
      · replace h := br_f' h c17
        refine lv_iload_n hx hb dX3_tightestFor_20 rfl (lv_at hl 2 rfl) ?_
        refine lv_iconst (v := (-1)) hx hb dX3_tightestFor_21 (by decide) ?_
        refine lv_icmp_eq (tgt := 40) hx hb dX3_tightestFor_22 (by decide) (fun c22 => ?_) (fun c22 => ?_)
        · replace h := br_t' h c22
          refine lv_iload_n hx hb dX3_tightestFor_40 rfl (lv_at hl 3 rfl) ?_
          refine lv_istore_n (lv' := [(2, .int x3), (0, .ref (a 0)), (1, .int x1), (3, .int x3)]) hx hb dX3_tightestFor_41 rfl hl (by decide) rfl (fun ls hl => ?_)
          refine lv_iinc (v := (x3 + 1)) (lv' := [(3, .int (x3 + 1)), (2, .int x3), (0, .ref (a 0)), (1, .int x1)]) hx hb dX3_tightestFor_42 hl (k := 3) rfl rfl (by decide) rfl (fun ls hl => ?_)
          refine lv_goto (tgt := 4) hx hb dX3_tightestFor_45 (by decide) ?_
          exact ih _ _ _ _ _ hw (lv_sub hl [2, 3, 1, 0] rfl) h
        · replace h := br_f' h c22
          refine lv_aload_n hx hb dX3_tightestFor_25 rfl (lv_at hl 0 rfl) ?_
          refine k_get C inT_X3 hw 0 rfl rfl 2 (by decide) mF_X3_23 rfl dX3_tightestFor_26 ?_
          refine lv_iload_n hx hb dX3_tightestFor_29 rfl (lv_at hl 3 rfl) ?_
          obtain ⟨y30, q30, h⟩ := bd h
          refine k_iald C hw 1 rfl q30 dX3_tightestFor_30 ?_
          refine lv_aload_n hx hb dX3_tightestFor_31 rfl (lv_at hl 0 rfl) ?_
          refine k_get C inT_X3 hw 0 rfl rfl 2 (by decide) mF_X3_23 rfl dX3_tightestFor_32 ?_
          refine lv_iload_n hx hb dX3_tightestFor_35 rfl (lv_at hl 2 rfl) ?_
          obtain ⟨y36, q36, h⟩ := bd h
          refine k_iald C hw 1 rfl q36 dX3_tightestFor_36 ?_
          refine lv_icmp_ge (tgt := 42) hx hb dX3_tightestFor_37 (by decide) (fun c37 => ?_) (fun c37 => ?_)
          · replace h := br_t' h c37
            refine lv_iinc (v := (x3 + 1)) (lv' := [(3, .int (x3 + 1)), (0, .ref (a 0)), (1, .int x1), (2, .int x2)]) hx hb dX3_tightestFor_42 hl (k := 3) rfl rfl (by decide) rfl (fun ls hl => ?_)
            refine lv_goto (tgt := 4) hx hb dX3_tightestFor_45 (by decide) ?_
            exact ih _ _ _ _ _ hw (lv_sub hl [1, 2, 3, 0] rfl) h
          · replace h := br_f' h c37
            refine lv_iload_n hx hb dX3_tightestFor_40 rfl (lv_at hl 3 rfl) ?_
            refine lv_istore_n (lv' := [(2, .int x3), (0, .ref (a 0)), (1, .int x1), (3, .int x3)]) hx hb dX3_tightestFor_41 rfl hl (by decide) rfl (fun ls hl => ?_)
            refine lv_iinc (v := (x3 + 1)) (lv' := [(3, .int (x3 + 1)), (2, .int x3), (0, .ref (a 0)), (1, .int x1)]) hx hb dX3_tightestFor_42 hl (k := 3) rfl rfl (by decide) rfl (fun ls hl => ?_)
            refine lv_goto (tgt := 4) hx hb dX3_tightestFor_45 (by decide) ?_
            exact ih _ _ _ _ _ hw (lv_sub hl [2, 3, 1, 0] rfl) h
def fX3_tightestFor (g_free : Nat → Int32) (x1 : Int32) : Option (Int32) :=
  fX3_tightestFor_4 g_free x1 FU (fun x2_4 x3_4 =>
    some x2_4) (-1) 0
set_option maxRecDepth 100000 in
set_option maxHeartbeats 4000000 in
theorem tX3_tightestFor {l : Launch} {D : va_G} {cI : ClassId} {cS : GS} {a : Nat → Nat} {a_gaps : Nat → Nat} {a_layings : Nat → Nat} {g_free : Nat → Int32} {g_remaining : Int32} {x1 : Int32} {s0 : Int32} (h : fX3_tightestFor g_free x1 = some s0) : CT l D cI cS yX3_tightestFor cX3_tightestFor 4 (some .int) rmX3_tightestFor [.ref (a 0), .int x1] [oX3 a a_gaps a_layings g_remaining, ar cI (a 3) 8 g_free] (some (.int s0)) [oX3 a a_gaps a_layings g_remaining, ar cI (a 3) 8 g_free] := by
  refine CT.of RX3 (by decide) rfl (Nat.le_of_ble_eq_true rfl) (fun p e s m below meth c ls A C hA hl hw => ?_)
  have hx := C.1.1
  have hb := C.1.2.1
  have hl : lv_has ls 4 [(0, .ref (a 0)), (1, .int x1)] := hl
  unfold fX3_tightestFor at h
  refine lv_iconst (v := (-1)) hx hb dX3_tightestFor_0 (by decide) ?_
  refine lv_istore_n (lv' := [(2, .int (-1)), (0, .ref (a 0)), (1, .int x1)]) hx hb dX3_tightestFor_1 rfl hl (by decide) rfl (fun ls hl => ?_)
  refine lv_iconst (v := 0) hx hb dX3_tightestFor_2 (by decide) ?_
  refine lv_istore_n (lv' := [(3, .int 0), (2, .int (-1)), (0, .ref (a 0)), (1, .int x1)]) hx hb dX3_tightestFor_3 rfl hl (by decide) rfl (fun ls hl => ?_)
  refine wX3_tightestFor_4 C hA _ (fun x2_4 x3_4 H locs ls hw4x hl h => ?_) FU _ _ _ _ _ hw (lv_sub hl [2, 3, 1, 0] rfl) h
  refine lv_iload_n hx hb dX3_tightestFor_48 rfl (lv_at hl 2 rfl) ?_
  cases h
  exact k_iret C hw4x dX3_tightestFor_49
def rmX3_widest : Room := { frames := 0, cells := 0, slots := 0, locals := 0 }
def fX3_widest_4 (g_free : Nat → Int32) : (n : Nat) → (k : Int32 → Int32 → Option (Int32)) → Int32 → Int32 → Option (Int32)
  | 0, _, _, _ => none
  | n + 1, k, x1, x2 =>
    if 8 ≤ x2 then
      k x1 x2
    else
      (ld 8 g_free x2).bind fun y15 =>
      if y15 ≤ 0 then
        fX3_widest_4 g_free n k x1 (x2 + 1)
      else
        if x1 = (-1) then
          fX3_widest_4 g_free n k x2 (x2 + 1)
        else
          (ld 8 g_free x2).bind fun y29 =>
          (ld 8 g_free x1).bind fun y35 =>
          if y29 ≤ y35 then
            fX3_widest_4 g_free n k x1 (x2 + 1)
          else
            fX3_widest_4 g_free n k x2 (x2 + 1)
set_option maxRecDepth 100000 in
set_option maxHeartbeats 4000000 in
theorem wX3_widest_4 {p : Program} {l : Launch} {e : Env} {s : State} {m : MethodId} {args : Array Value} {below : List Frame} {meth : Method} {c : Code} {D : va_G} {cI : ClassId} {cS : GS} {A : Nat → Prop} {a : Nat → Nat} {a_gaps : Nat → Nat} {a_layings : Nat → Nat} {g_free : Nat → Int32} {g_remaining : Int32} (C : MC p s m args meth c D cI cS A RX3 cX3_widest 3 (some .int)) (hA : ∀ q, s.heap.size ≤ q → A q) {s0 : Int32} (k : Int32 → Int32 → Option (Int32)) (hk : ∀ (x1 : Int32) (x2 : Int32) (H : Heap) (locs : List Loc) (ls : Array Slot), Wd D A s.heap H locs [oX3 a a_gaps a_layings g_remaining, ar cI (a 3) 8 g_free] → lv_has ls 3 [(0, .ref (a 0)), (1, .int x1), (2, .int x2)] → k x1 x2 = some s0 → W p l e rmX3_widest s m args below meth c H locs 0 0 (KQ D A below args s (some (.int s0)) [oX3 a a_gaps a_layings g_remaining, ar cI (a 3) 8 g_free]) (F0 m 47 ls [])) :
    ∀ (n : Nat) (x1 : Int32) (x2 : Int32) (H : Heap) (locs : List Loc) (ls : Array Slot), Wd D A s.heap H locs [oX3 a a_gaps a_layings g_remaining, ar cI (a 3) 8 g_free] → lv_has ls 3 [(0, .ref (a 0)), (1, .int x1), (2, .int x2)] → fX3_widest_4 g_free n k x1 x2 = some s0 → W p l e rmX3_widest s m args below meth c H locs 0 0 (KQ D A below args s (some (.int s0)) [oX3 a a_gaps a_layings g_remaining, ar cI (a 3) 8 g_free]) (F0 m 4 ls []) := by
  have hx := C.1.1
  have hb := C.1.2.1
  intro n
  induction n with
  | zero =>
    intro x1 x2 H locs ls hw hl h
    rw [fX3_widest_4] at h
    cases h
  | succ n ih =>
    intro x1 x2 H locs ls hw hl h
    rw [fX3_widest_4] at h
    refine lv_iload_n hx hb dX3_widest_4 rfl (lv_at hl 2 rfl) ?_
    refine lv_bipush (v := 8) hx hb dX3_widest_5 (by decide) ?_
    refine lv_icmp_ge (tgt := 47) hx hb dX3_widest_7 (by decide) (fun c7 => ?_) (fun c7 => ?_)
    · replace h := br_t' h c7
      exact hk _ _ _ _ _ hw (lv_sub hl [0, 1, 2] rfl) h
    · replace h := br_f' h c7
      refine lv_aload_n hx hb dX3_widest_10 rfl (lv_at hl 0 rfl) ?_
      refine k_get C inT_X3 hw 0 rfl rfl 2 (by decide) mF_X3_23 rfl dX3_widest_11 ?_
      refine lv_iload_n hx hb dX3_widest_14 rfl (lv_at hl 2 rfl) ?_
      obtain ⟨y15, q15, h⟩ := bd h
      refine k_iald C hw 1 rfl q15 dX3_widest_15 ?_
      refine lv_if_le (tgt := 41) hx hb dX3_widest_16 (by decide) (fun c16 => ?_) (fun c16 => ?_)
      · replace h := br_t' h c16
        refine lv_iinc (v := (x2 + 1)) (lv' := [(2, .int (x2 + 1)), (0, .ref (a 0)), (1, .int x1)]) hx hb dX3_widest_41 hl (k := 2) rfl rfl (by decide) rfl (fun ls hl => ?_)
        refine lv_goto (tgt := 4) hx hb dX3_widest_44 (by decide) ?_
        exact ih _ _ _ _ _ hw (lv_sub hl [1, 2, 0] rfl) h
      · replace h := br_f' h c16
        refine lv_iload_n hx hb dX3_widest_19 rfl (lv_at hl 1 rfl) ?_
        refine lv_iconst (v := (-1)) hx hb dX3_widest_20 (by decide) ?_
        refine lv_icmp_eq (tgt := 39) hx hb dX3_widest_21 (by decide) (fun c21 => ?_) (fun c21 => ?_)
        · replace h := br_t' h c21
          refine lv_iload_n hx hb dX3_widest_39 rfl (lv_at hl 2 rfl) ?_
          refine lv_istore_n (lv' := [(1, .int x2), (0, .ref (a 0)), (2, .int x2)]) hx hb dX3_widest_40 rfl hl (by decide) rfl (fun ls hl => ?_)
          refine lv_iinc (v := (x2 + 1)) (lv' := [(2, .int (x2 + 1)), (1, .int x2), (0, .ref (a 0))]) hx hb dX3_widest_41 hl (k := 2) rfl rfl (by decide) rfl (fun ls hl => ?_)
          refine lv_goto (tgt := 4) hx hb dX3_widest_44 (by decide) ?_
          exact ih _ _ _ _ _ hw (lv_sub hl [2, 1, 0] rfl) h
        · replace h := br_f' h c21
          refine lv_aload_n hx hb dX3_widest_24 rfl (lv_at hl 0 rfl) ?_
          refine k_get C inT_X3 hw 0 rfl rfl 2 (by decide) mF_X3_23 rfl dX3_widest_25 ?_
          refine lv_iload_n hx hb dX3_widest_28 rfl (lv_at hl 2 rfl) ?_
          obtain ⟨y29, q29, h⟩ := bd h
          refine k_iald C hw 1 rfl q29 dX3_widest_29 ?_
          refine lv_aload_n hx hb dX3_widest_30 rfl (lv_at hl 0 rfl) ?_
          refine k_get C inT_X3 hw 0 rfl rfl 2 (by decide) mF_X3_23 rfl dX3_widest_31 ?_
          refine lv_iload_n hx hb dX3_widest_34 rfl (lv_at hl 1 rfl) ?_
          obtain ⟨y35, q35, h⟩ := bd h
          refine k_iald C hw 1 rfl q35 dX3_widest_35 ?_
          refine lv_icmp_le (tgt := 41) hx hb dX3_widest_36 (by decide) (fun c36 => ?_) (fun c36 => ?_)
          · replace h := br_t' h c36
            refine lv_iinc (v := (x2 + 1)) (lv' := [(2, .int (x2 + 1)), (0, .ref (a 0)), (1, .int x1)]) hx hb dX3_widest_41 hl (k := 2) rfl rfl (by decide) rfl (fun ls hl => ?_)
            refine lv_goto (tgt := 4) hx hb dX3_widest_44 (by decide) ?_
            exact ih _ _ _ _ _ hw (lv_sub hl [1, 2, 0] rfl) h
          · replace h := br_f' h c36
            refine lv_iload_n hx hb dX3_widest_39 rfl (lv_at hl 2 rfl) ?_
            refine lv_istore_n (lv' := [(1, .int x2), (0, .ref (a 0)), (2, .int x2)]) hx hb dX3_widest_40 rfl hl (by decide) rfl (fun ls hl => ?_)
            refine lv_iinc (v := (x2 + 1)) (lv' := [(2, .int (x2 + 1)), (1, .int x2), (0, .ref (a 0))]) hx hb dX3_widest_41 hl (k := 2) rfl rfl (by decide) rfl (fun ls hl => ?_)
            refine lv_goto (tgt := 4) hx hb dX3_widest_44 (by decide) ?_
            exact ih _ _ _ _ _ hw (lv_sub hl [2, 1, 0] rfl) h
def fX3_widest (g_free : Nat → Int32) : Option (Int32) :=
  fX3_widest_4 g_free FU (fun x1_4 x2_4 =>
    some x1_4) (-1) 0
set_option maxRecDepth 100000 in
set_option maxHeartbeats 4000000 in
theorem tX3_widest {l : Launch} {D : va_G} {cI : ClassId} {cS : GS} {a : Nat → Nat} {a_gaps : Nat → Nat} {a_layings : Nat → Nat} {g_free : Nat → Int32} {g_remaining : Int32}  {s0 : Int32} (h : fX3_widest g_free = some s0) : CT l D cI cS yX3_widest cX3_widest 3 (some .int) rmX3_widest [.ref (a 0)] [oX3 a a_gaps a_layings g_remaining, ar cI (a 3) 8 g_free] (some (.int s0)) [oX3 a a_gaps a_layings g_remaining, ar cI (a 3) 8 g_free] := by
  refine CT.of RX3 (by decide) rfl (Nat.le_of_ble_eq_true rfl) (fun p e s m below meth c ls A C hA hl hw => ?_)
  have hx := C.1.1
  have hb := C.1.2.1
  have hl : lv_has ls 3 [(0, .ref (a 0))] := hl
  unfold fX3_widest at h
  refine lv_iconst (v := (-1)) hx hb dX3_widest_0 (by decide) ?_
  refine lv_istore_n (lv' := [(1, .int (-1)), (0, .ref (a 0))]) hx hb dX3_widest_1 rfl hl (by decide) rfl (fun ls hl => ?_)
  refine lv_iconst (v := 0) hx hb dX3_widest_2 (by decide) ?_
  refine lv_istore_n (lv' := [(2, .int 0), (1, .int (-1)), (0, .ref (a 0))]) hx hb dX3_widest_3 rfl hl (by decide) rfl (fun ls hl => ?_)
  refine wX3_widest_4 C hA _ (fun x1_4 x2_4 H locs ls hw4x hl h => ?_) FU _ _ _ _ _ hw (lv_sub hl [2, 1, 0] rfl) h
  refine lv_iload_n hx hb dX3_widest_47 rfl (lv_at hl 1 rfl) ?_
  cases h
  exact k_iret C hw4x dX3_widest_48
def rmX3_chooseBox : Room := { frames := 1, cells := 0, slots := 0, locals := 23 }
def fX3_chooseBox (g_free : Nat → Int32) (x1 : Int32) : Option (Int32) :=
  (fX3_tightestFor g_free x1).bind fun r2 =>
  if r2 = (-1) then
    (fX3_widest g_free).bind fun r16 =>
    some r16
  else
    some r2
set_option maxRecDepth 100000 in
set_option maxHeartbeats 4000000 in
theorem tX3_chooseBox {l : Launch} {D : va_G} {cI : ClassId} {cS : GS} {a : Nat → Nat} {a_gaps : Nat → Nat} {a_layings : Nat → Nat} {g_free : Nat → Int32} {g_remaining : Int32} {x1 : Int32} {s0 : Int32} (h : fX3_chooseBox g_free x1 = some s0) : CT l D cI cS yX3_chooseBox cX3_chooseBox 3 (some .int) rmX3_chooseBox [.ref (a 0), .int x1] [oX3 a a_gaps a_layings g_remaining, ar cI (a 3) 8 g_free] (some (.int s0)) [oX3 a a_gaps a_layings g_remaining, ar cI (a 3) 8 g_free] := by
  refine CT.of RX3 (by decide) rfl (Nat.le_of_ble_eq_true rfl) (fun p e s m below meth c ls A C hA hl hw => ?_)
  have hx := C.1.1
  have hb := C.1.2.1
  have hl : lv_has ls 3 [(0, .ref (a 0)), (1, .int x1)] := hl
  unfold fX3_chooseBox at h
  refine lv_aload_n hx hb dX3_chooseBox_0 rfl (lv_at hl 0 rfl) ?_
  refine lv_iload_n hx hb dX3_chooseBox_1 rfl (lv_at hl 1 rfl) ?_
  obtain ⟨r2, q2, h⟩ := bd h
  refine k_callV (nC := 2) [oX3 a a_gaps a_layings g_remaining, ar cI (a 3) 8 g_free] C hl.1 (tX3_tightestFor (a := a) (a_gaps := a_gaps) (a_layings := a_layings) q2) mL_X3_88 mmX3_tightestFor rfl rfl ⟨Nat.le_of_ble_eq_true rfl, Nat.le_of_ble_eq_true rfl⟩ rfl rfl rfl rfl (Nat.le_of_ble_eq_true rfl) hA hw [0, 1] [] rfl (by decide +kernel) rfl rfl rfl rfl dX3_chooseBox_2 (fun H locs hw2 => ?_)
  refine lv_istore_n (lv' := [(2, .int r2), (0, .ref (a 0)), (1, .int x1)]) hx hb dX3_chooseBox_5 rfl hl (by decide) rfl (fun ls hl => ?_)
  refine lv_iload_n hx hb dX3_chooseBox_6 rfl (lv_at hl 0 rfl) ?_
  refine lv_iconst (v := (-1)) hx hb dX3_chooseBox_7 (by decide) ?_
  refine lv_icmp_eq (tgt := 15) hx hb dX3_chooseBox_8 (by decide) (fun c8 => ?_) (fun c8 => ?_)
  · replace h := br_t' h c8
    refine lv_aload_n hx hb dX3_chooseBox_15 rfl (lv_at hl 1 rfl) ?_
    obtain ⟨r16, q16, h⟩ := bd h
    refine k_callV (nC := 2) [oX3 a a_gaps a_layings g_remaining, ar cI (a 3) 8 g_free] C hl.1 (tX3_widest (a := a) (a_gaps := a_gaps) (a_layings := a_layings) q16) mL_X3_91 mmX3_widest rfl rfl ⟨Nat.le_of_ble_eq_true rfl, Nat.le_of_ble_eq_true rfl⟩ rfl rfl rfl rfl (Nat.le_of_ble_eq_true rfl) hA hw2 [0, 1] [] rfl (by decide +kernel) rfl rfl rfl rfl dX3_chooseBox_16 (fun H locs hw16 => ?_)
    cases h
    exact k_iret C hw16 dX3_chooseBox_19
  · replace h := br_f' h c8
    refine lv_iload_n hx hb dX3_chooseBox_11 rfl (lv_at hl 0 rfl) ?_
    refine lv_goto (tgt := 19) hx hb dX3_chooseBox_12 (by decide) ?_
    cases h
    exact k_iret C hw2 dX3_chooseBox_19
def rmX3_place : Room := { frames := 2, cells := 0, slots := 0, locals := 45 }
def fX3_place_5 (x2 : Int32) : (n : Nat) → (k : Int32 → Int32 → (Nat → Int32) → Rg → Option ((Nat → Int32) × Int32 × Rg)) → Int32 → Int32 → (Nat → Int32) → Rg → Option ((Nat → Int32) × Int32 × Rg)
  | 0, _, _, _, _, _ => none
  | n + 1, k, x3, x4, g_free, v_layings =>
    if 8 < x4 then
      k x3 x4 g_free v_layings
    else
      if x2 < x3 then
        k x3 x4 g_free v_layings
      else
        (fX3_chooseBox g_free ((x2 - x3) + 1)).bind fun r23 =>
        (fX7_isBox r23).bind fun r30 =>
        if r30 = 0 then
          k x3 x4 g_free v_layings
        else
          (ld 8 g_free r23).bind fun y45 =>
          (fX4_add 49 v_layings r23 x3 ((x3 + (imin y45 ((x2 - x3) + 1))) - 1)).bind fun r69 =>
          (ld 8 g_free r23).bind fun y80 =>
          (sv 8 g_free r23 (y80 - (imin y45 ((x2 - x3) + 1)))).bind fun g84 =>
          fX3_place_5 x2 n k (x3 + (imin y45 ((x2 - x3) + 1))) (x4 + 1) g84 r69.2
set_option maxRecDepth 100000 in
set_option maxHeartbeats 4000000 in
theorem wX3_place_5 {p : Program} {l : Launch} {e : Env} {s : State} {m : MethodId} {args : Array Value} {below : List Frame} {meth : Method} {c : Code} {D : va_G} {cI : ClassId} {cS : GS} {A : Nat → Prop} {a : Nat → Nat} {a_gaps : Nat → Nat} {a_layings : Nat → Nat} {g_remaining : Int32} {x2 : Int32} (C : MC p s m args meth c D cI cS A RX3 cX3_place 7 none) (hA : ∀ q, s.heap.size ≤ q → A q) {s0 : (Nat → Int32)} {s1 : Int32} {s2 : Rg} (k : Int32 → Int32 → (Nat → Int32) → Rg → Option ((Nat → Int32) × Int32 × Rg)) (hk : ∀ (x3 : Int32) (x4 : Int32) (g_free : Nat → Int32) (v_layings : Rg) (H : Heap) (locs : List Loc) (ls : Array Slot), Wd D A s.heap H locs [oX3 a a_gaps a_layings g_remaining, ar cI (a 3) 8 g_free, cR cI a_layings 49 v_layings] → lv_has ls 7 [(0, .ref (a 0)), (2, .int x2), (3, .int x3), (4, .int x4)] → k x3 x4 g_free v_layings = some (s0, s1, s2) → W p l e rmX3_place s m args below meth c H locs 0 0 (KQ D A below args s none [oX3 a a_gaps a_layings s1, ar cI (a 3) 8 s0, cR cI a_layings 49 s2]) (F0 m 96 ls [])) :
    ∀ (n : Nat) (x3 : Int32) (x4 : Int32) (g_free : Nat → Int32) (v_layings : Rg) (H : Heap) (locs : List Loc) (ls : Array Slot), Wd D A s.heap H locs [oX3 a a_gaps a_layings g_remaining, ar cI (a 3) 8 g_free, cR cI a_layings 49 v_layings] → lv_has ls 7 [(0, .ref (a 0)), (2, .int x2), (3, .int x3), (4, .int x4)] → fX3_place_5 x2 n k x3 x4 g_free v_layings = some (s0, s1, s2) → W p l e rmX3_place s m args below meth c H locs 0 0 (KQ D A below args s none [oX3 a a_gaps a_layings s1, ar cI (a 3) 8 s0, cR cI a_layings 49 s2]) (F0 m 5 ls []) := by
  have hx := C.1.1
  have hb := C.1.2.1
  intro n
  induction n with
  | zero =>
    intro x3 x4 g_free v_layings H locs ls hw hl h
    rw [fX3_place_5] at h
    cases h
  | succ n ih =>
    intro x3 x4 g_free v_layings H locs ls hw hl h
    rw [fX3_place_5] at h
    refine lv_iload hx hb dX3_place_5 (lv_at hl 3 rfl) ?_
    refine lv_bipush (v := 8) hx hb dX3_place_7 (by decide) ?_
    refine lv_icmp_gt (tgt := 96) hx hb dX3_place_9 (by decide) (fun c9 => ?_) (fun c9 => ?_)
    · replace h := br_t' h c9
      exact hk _ _ _ _ _ _ _ hw (lv_sub hl [0, 1, 2, 3] rfl) h
    · replace h := br_f' h c9
      refine lv_iload_n hx hb dX3_place_12 rfl (lv_at hl 2 rfl) ?_
      refine lv_iload_n hx hb dX3_place_13 rfl (lv_at hl 1 rfl) ?_
      refine lv_icmp_gt (tgt := 96) hx hb dX3_place_14 (by decide) (fun c14 => ?_) (fun c14 => ?_)
      · replace h := br_t' h c14
        exact hk _ _ _ _ _ _ _ hw (lv_sub hl [0, 1, 2, 3] rfl) h
      · replace h := br_f' h c14
        refine lv_aload_n hx hb dX3_place_17 rfl (lv_at hl 0 rfl) ?_
        refine lv_iload_n hx hb dX3_place_18 rfl (lv_at hl 1 rfl) ?_
        refine lv_iload_n hx hb dX3_place_19 rfl (lv_at hl 2 rfl) ?_
        refine lv_isub hx hb dX3_place_20 ?_
        refine lv_iconst (v := 1) hx hb dX3_place_21 (by decide) ?_
        refine lv_iadd hx hb dX3_place_22 ?_
        obtain ⟨r23, q23, h⟩ := bd h
        refine k_callV (nC := 3) [oX3 a a_gaps a_layings g_remaining, ar cI (a 3) 8 g_free, cR cI a_layings 49 v_layings] C hl.1 (tX3_chooseBox (a := a) (a_gaps := a_gaps) (a_layings := a_layings) q23) mL_X3_75 mmX3_chooseBox rfl rfl ⟨Nat.le_of_ble_eq_true rfl, Nat.le_of_ble_eq_true rfl⟩ rfl rfl rfl rfl (Nat.le_of_ble_eq_true rfl) hA hw [0, 1] [2] rfl (by decide +kernel) rfl rfl rfl rfl dX3_place_23 (fun H locs hw23 => ?_)
        refine lv_istore (lv' := [(5, .int r23), (0, .ref (a 0)), (2, .int x2), (3, .int x3), (4, .int x4)]) hx hb dX3_place_26 hl (by decide) rfl (fun ls hl => ?_)
        refine lv_iload hx hb dX3_place_28 (lv_at hl 0 rfl) ?_
        obtain ⟨r30, q30, h⟩ := bd h
        refine k_callSN (nC := 3) [oX3 a a_gaps a_layings g_remaining, ar cI (a 3) 8 g_free, cR cI a_layings 49 v_layings] C hl.1 (tX7_isBox q30) C.2.2.2.1.2.2.1.2.2 mmX7_isBox rfl rfl ⟨Nat.le_of_ble_eq_true rfl, Nat.le_of_ble_eq_true rfl⟩ rfl rfl (Nat.le_of_ble_eq_true rfl) hA hw23 [] [0, 1, 2] rfl (by decide +kernel) rfl rfl rfl rfl dX3_place_30 (fun H locs hw30 => ?_)
        refine lv_if_ne (tgt := 39) hx hb dX3_place_33 (by decide) (fun c33 => ?_) (fun c33 => ?_)
        · replace h := br_f' h c33
          refine lv_aload_n hx hb dX3_place_39 rfl (lv_at hl 1 rfl) ?_
          refine k_get C inT_X3 hw30 0 rfl rfl 2 (by decide) mF_X3_23 rfl dX3_place_40 ?_
          refine lv_iload hx hb dX3_place_43 (lv_at hl 0 rfl) ?_
          obtain ⟨y45, q45, h⟩ := bd h
          refine k_iald C hw30 1 rfl q45 dX3_place_45 ?_
          refine lv_iload_n hx hb dX3_place_46 rfl (lv_at hl 2 rfl) ?_
          refine lv_iload_n hx hb dX3_place_47 rfl (lv_at hl 3 rfl) ?_
          refine lv_isub hx hb dX3_place_48 ?_
          refine lv_iconst (v := 1) hx hb dX3_place_49 (by decide) ?_
          refine lv_iadd hx hb dX3_place_50 ?_
          refine k_mmin C hl.1 mL_X3_82 mm_min (Nat.le_of_ble_eq_true rfl) (Nat.le_of_ble_eq_true rfl) dX3_place_51 ?_
          refine lv_istore (lv' := [(6, .int (imin y45 ((x2 - x3) + 1))), (5, .int r23), (0, .ref (a 0)), (2, .int x2), (3, .int x3), (4, .int x4)]) hx hb dX3_place_54 hl (by decide) rfl (fun ls hl => ?_)
          refine lv_aload_n hx hb dX3_place_56 rfl (lv_at hl 2 rfl) ?_
          refine k_get C inT_X3 hw30 0 rfl rfl 1 (by decide) mF_X3_20 rfl dX3_place_57 ?_
          refine lv_iload hx hb dX3_place_60 (lv_at hl 1 rfl) ?_
          refine lv_iload_n hx hb dX3_place_62 rfl (lv_at hl 4 rfl) ?_
          refine lv_iload_n hx hb dX3_place_63 rfl (lv_at hl 4 rfl) ?_
          refine lv_iload hx hb dX3_place_64 (lv_at hl 0 rfl) ?_
          refine lv_iadd hx hb dX3_place_66 ?_
          refine lv_iconst (v := 1) hx hb dX3_place_67 (by decide) ?_
          refine lv_isub hx hb dX3_place_68 ?_
          obtain ⟨r69, q69, h⟩ := bd h
          refine k_callV (nC := 3) [oX3 a a_gaps a_layings g_remaining, ar cI (a 3) 8 g_free, cR cI a_layings 49 r69.2] C hl.1 (tX4_add (a := a_layings) q69) mL_X3_58 mmX4_add rfl rfl ⟨Nat.le_of_ble_eq_true rfl, Nat.le_of_ble_eq_true rfl⟩ rfl rfl rfl rfl (Nat.le_of_ble_eq_true rfl) hA hw30 [2] [0, 1] rfl (by decide +kernel) rfl rfl rfl rfl dX3_place_69 (fun H locs hw69 => ?_)
          refine lv_pop hx hb dX3_place_72 rfl ?_
          refine lv_aload_n hx hb dX3_place_73 rfl (lv_at hl 2 rfl) ?_
          refine k_get C inT_X3 hw69 0 rfl rfl 2 (by decide) mF_X3_23 rfl dX3_place_74 ?_
          refine lv_iload hx hb dX3_place_77 (lv_at hl 1 rfl) ?_
          refine lv_dup2_11 hx hb dX3_place_79 rfl rfl ?_
          obtain ⟨y80, q80, h⟩ := bd h
          refine k_iald C hw69 1 rfl q80 dX3_place_80 ?_
          refine lv_iload hx hb dX3_place_81 (lv_at hl 0 rfl) ?_
          refine lv_isub hx hb dX3_place_83 ?_
          obtain ⟨g84, q84, h⟩ := bd h
          refine k_iast C hw69 1 rfl q84 [oX3 a a_gaps a_layings g_remaining, ar cI (a 3) 8 g84, cR cI a_layings 49 r69.2] rfl dX3_place_84 (fun H locs hw84 => ?_)
          refine lv_iload_n hx hb dX3_place_85 rfl (lv_at hl 4 rfl) ?_
          refine lv_iload hx hb dX3_place_86 (lv_at hl 0 rfl) ?_
          refine lv_iadd hx hb dX3_place_88 ?_
          refine lv_istore_n (lv' := [(3, .int (x3 + (imin y45 ((x2 - x3) + 1)))), (6, .int (imin y45 ((x2 - x3) + 1))), (5, .int r23), (0, .ref (a 0)), (2, .int x2), (4, .int x4)]) hx hb dX3_place_89 rfl hl (by decide) rfl (fun ls hl => ?_)
          refine lv_iinc (v := (x4 + 1)) (lv' := [(4, .int (x4 + 1)), (3, .int (x3 + (imin y45 ((x2 - x3) + 1)))), (6, .int (imin y45 ((x2 - x3) + 1))), (5, .int r23), (0, .ref (a 0)), (2, .int x2)]) hx hb dX3_place_90 hl (k := 5) rfl rfl (by decide) rfl (fun ls hl => ?_)
          refine lv_goto (tgt := 5) hx hb dX3_place_93 (by decide) ?_
          exact ih _ _ _ _ _ _ _ hw84 (lv_sub hl [4, 5, 1, 0] rfl) h
        · replace h := br_t' h c33
          refine lv_goto (tgt := 96) hx hb dX3_place_36 (by decide) ?_
          exact hk _ _ _ _ _ _ _ hw30 (lv_sub hl [1, 2, 3, 4] rfl) h
def fX3_place (g_free : Nat → Int32) (g_remaining : Int32) (v_layings : Rg) (x1 : Int32) (x2 : Int32) : Option ((Nat → Int32) × Int32 × Rg) :=
  fX3_place_5 x2 FU (fun x3_5 x4_5 g_free_5 v_layings_5 =>
    some (g_free_5, (g_remaining + ((x2 - x3_5) + 1)), v_layings_5)) x1 0 g_free v_layings
set_option maxRecDepth 100000 in
set_option maxHeartbeats 4000000 in
theorem tX3_place {l : Launch} {D : va_G} {cI : ClassId} {cS : GS} {a : Nat → Nat} {a_gaps : Nat → Nat} {a_layings : Nat → Nat} {g_free : Nat → Int32} {g_remaining : Int32} {v_layings : Rg} {x1 : Int32} {x2 : Int32} {s0 : (Nat → Int32)} {s1 : Int32} {s2 : Rg} (h : fX3_place g_free g_remaining v_layings x1 x2 = some (s0, s1, s2)) : CT l D cI cS yX3_place cX3_place 7 none rmX3_place [.ref (a 0), .int x1, .int x2] [oX3 a a_gaps a_layings g_remaining, ar cI (a 3) 8 g_free, cR cI a_layings 49 v_layings] none [oX3 a a_gaps a_layings s1, ar cI (a 3) 8 s0, cR cI a_layings 49 s2] := by
  refine CT.of RX3 (by decide) rfl (Nat.le_of_ble_eq_true rfl) (fun p e s m below meth c ls A C hA hl hw => ?_)
  have hx := C.1.1
  have hb := C.1.2.1
  have hl : lv_has ls 7 [(0, .ref (a 0)), (1, .int x1), (2, .int x2)] := hl
  unfold fX3_place at h
  refine lv_iload_n hx hb dX3_place_0 rfl (lv_at hl 1 rfl) ?_
  refine lv_istore_n (lv' := [(3, .int x1), (0, .ref (a 0)), (1, .int x1), (2, .int x2)]) hx hb dX3_place_1 rfl hl (by decide) rfl (fun ls hl => ?_)
  refine lv_iconst (v := 0) hx hb dX3_place_2 (by decide) ?_
  refine lv_istore (lv' := [(4, .int 0), (3, .int x1), (0, .ref (a 0)), (1, .int x1), (2, .int x2)]) hx hb dX3_place_3 hl (by decide) rfl (fun ls hl => ?_)
  refine wX3_place_5 C hA _ (fun x3_5 x4_5 g_free_5 v_layings_5 H locs ls hw5x hl h => ?_) FU _ _ _ _ _ _ _ hw (lv_sub hl [2, 4, 1, 0] rfl) h
  refine lv_aload_n hx hb dX3_place_96 rfl (lv_at hl 0 rfl) ?_
  refine lv_dup hx hb dX3_place_97 rfl ?_
  refine k_get C inT_X3 hw5x 0 rfl rfl 3 (by decide) mF_X3_27 rfl dX3_place_98 ?_
  refine lv_iload_n hx hb dX3_place_101 rfl (lv_at hl 1 rfl) ?_
  refine lv_iload_n hx hb dX3_place_102 rfl (lv_at hl 2 rfl) ?_
  refine lv_isub hx hb dX3_place_103 ?_
  refine lv_iconst (v := 1) hx hb dX3_place_104 (by decide) ?_
  refine lv_iadd hx hb dX3_place_105 ?_
  refine lv_iadd hx hb dX3_place_106 ?_
  refine k_put C inT_X3 tyX3 tyX3_ok nmX3 hw5x 0 rfl rfl 3 (by decide) mF_X3_27 rfl rfl (Nat.le_of_ble_eq_true rfl) [oX3 a a_gaps a_layings (g_remaining + ((x2 - x3_5) + 1)), ar cI (a 3) 8 g_free_5, cR cI a_layings 49 v_layings_5] rfl dX3_place_107 (fun H locs hw107 => ?_)
  cases h
  exact k_vret C hw107 dX3_place_110
def rmX3_makePlan : Room := { frames := 4, cells := 0, slots := 0, locals := 93 }
def fX3_makePlan_8 (g_p1_rooms : Nat → Int32) (v_p1_pieces : Rg) : (n : Nat) → (k : Int32 → (Nat → Int32) → Option ((Nat → Int32) × Int32 × Rg × Rg)) → Int32 → (Nat → Int32) → Option ((Nat → Int32) × Int32 × Rg × Rg)
  | 0, _, _, _ => none
  | n + 1, k, x3, g_free =>
    if 8 ≤ x3 then
      k x3 g_free
    else
      (fX0_freeIn g_p1_rooms v_p1_pieces x3).bind fun r21 =>
      (sv 8 g_free x3 r21).bind fun g24 =>
      fX3_makePlan_8 g_p1_rooms v_p1_pieces n k (x3 + 1) g24
set_option maxRecDepth 100000 in
set_option maxHeartbeats 4000000 in
theorem wX3_makePlan_8 {p : Program} {l : Launch} {e : Env} {s : State} {m : MethodId} {args : Array Value} {below : List Frame} {meth : Method} {c : Code} {D : va_G} {cI : ClassId} {cS : GS} {A : Nat → Prop} {a : Nat → Nat} {a_gaps : Nat → Nat} {a_layings : Nat → Nat} {a_p1 : Nat → Nat} {a_p1_series : Nat → Nat} {a_p1_pieces : Nat → Nat} {a_p1_trial : Nat → Nat} {a_p1_moves : Nat → Nat} {g_remaining : Int32} {v_gaps : Rg} {v_layings : Rg} {g_p1_rooms : Nat → Int32} {g_p1_day : Int32} {v_p1_series : Rg} {v_p1_pieces : Rg} (C : MC p s m args meth c D cI cS A RX3 cX3_makePlan 4 none) (hA : ∀ q, s.heap.size ≤ q → A q) {s0 : (Nat → Int32)} {s1 : Int32} {s2 : Rg} {s3 : Rg} (k : Int32 → (Nat → Int32) → Option ((Nat → Int32) × Int32 × Rg × Rg)) (hk : ∀ (x3 : Int32) (g_free : Nat → Int32) (H : Heap) (locs : List Loc) (ls : Array Slot), Wd D A s.heap H locs [oX3 a a_gaps a_layings g_remaining, ar cI (a 3) 8 g_free, cR cI a_gaps 41 v_gaps, cR cI a_layings 49 v_layings, oX0 a_p1 a_p1_series a_p1_pieces a_p1_trial a_p1_moves g_p1_day, ar cI (a_p1 2) 8 g_p1_rooms, cR cI a_p1_series 10 v_p1_series, cR cI a_p1_pieces 42 v_p1_pieces] → lv_has ls 4 [(0, .ref (a 0)), (1, .ref (a_p1 0)), (3, .int x3)] → k x3 g_free = some (s0, s1, s2, s3) → W p l e rmX3_makePlan s m args below meth c H locs 0 0 (KQ D A below args s none [oX3 a a_gaps a_layings s1, ar cI (a 3) 8 s0, cR cI a_gaps 41 s2, cR cI a_layings 49 s3, oX0 a_p1 a_p1_series a_p1_pieces a_p1_trial a_p1_moves g_p1_day, ar cI (a_p1 2) 8 g_p1_rooms, cR cI a_p1_series 10 v_p1_series, cR cI a_p1_pieces 42 v_p1_pieces]) (F0 m 31 ls [])) :
    ∀ (n : Nat) (x3 : Int32) (g_free : Nat → Int32) (H : Heap) (locs : List Loc) (ls : Array Slot), Wd D A s.heap H locs [oX3 a a_gaps a_layings g_remaining, ar cI (a 3) 8 g_free, cR cI a_gaps 41 v_gaps, cR cI a_layings 49 v_layings, oX0 a_p1 a_p1_series a_p1_pieces a_p1_trial a_p1_moves g_p1_day, ar cI (a_p1 2) 8 g_p1_rooms, cR cI a_p1_series 10 v_p1_series, cR cI a_p1_pieces 42 v_p1_pieces] → lv_has ls 4 [(0, .ref (a 0)), (1, .ref (a_p1 0)), (3, .int x3)] → fX3_makePlan_8 g_p1_rooms v_p1_pieces n k x3 g_free = some (s0, s1, s2, s3) → W p l e rmX3_makePlan s m args below meth c H locs 0 0 (KQ D A below args s none [oX3 a a_gaps a_layings s1, ar cI (a 3) 8 s0, cR cI a_gaps 41 s2, cR cI a_layings 49 s3, oX0 a_p1 a_p1_series a_p1_pieces a_p1_trial a_p1_moves g_p1_day, ar cI (a_p1 2) 8 g_p1_rooms, cR cI a_p1_series 10 v_p1_series, cR cI a_p1_pieces 42 v_p1_pieces]) (F0 m 8 ls []) := by
  have hx := C.1.1
  have hb := C.1.2.1
  intro n
  induction n with
  | zero =>
    intro x3 g_free H locs ls hw hl h
    rw [fX3_makePlan_8] at h
    cases h
  | succ n ih =>
    intro x3 g_free H locs ls hw hl h
    rw [fX3_makePlan_8] at h
    refine lv_iload_n hx hb dX3_makePlan_8 rfl (lv_at hl 2 rfl) ?_
    refine lv_bipush (v := 8) hx hb dX3_makePlan_9 (by decide) ?_
    refine lv_icmp_ge (tgt := 31) hx hb dX3_makePlan_11 (by decide) (fun c11 => ?_) (fun c11 => ?_)
    · replace h := br_t' h c11
      exact hk _ _ _ _ _ hw (lv_sub hl [0, 1, 2] rfl) h
    · replace h := br_f' h c11
      refine lv_aload_n hx hb dX3_makePlan_14 rfl (lv_at hl 0 rfl) ?_
      refine k_get C inT_X3 hw 0 rfl rfl 2 (by decide) mF_X3_23 rfl dX3_makePlan_15 ?_
      refine lv_iload_n hx hb dX3_makePlan_18 rfl (lv_at hl 2 rfl) ?_
      refine lv_aload_n hx hb dX3_makePlan_19 rfl (lv_at hl 1 rfl) ?_
      refine lv_iload_n hx hb dX3_makePlan_20 rfl (lv_at hl 2 rfl) ?_
      obtain ⟨r21, q21, h⟩ := bd h
      refine k_callV (nC := 8) [oX3 a a_gaps a_layings g_remaining, ar cI (a 3) 8 g_free, cR cI a_gaps 41 v_gaps, cR cI a_layings 49 v_layings, oX0 a_p1 a_p1_series a_p1_pieces a_p1_trial a_p1_moves g_p1_day, ar cI (a_p1 2) 8 g_p1_rooms, cR cI a_p1_series 10 v_p1_series, cR cI a_p1_pieces 42 v_p1_pieces] C hl.1 (tX0_freeIn (a := a_p1) (a_series := a_p1_series) (a_pieces := a_p1_pieces) (a_trial := a_p1_trial) (a_moves := a_p1_moves) q21) mL_X3_68 mmX0_freeIn rfl rfl ⟨Nat.le_of_ble_eq_true rfl, Nat.le_of_ble_eq_true rfl⟩ rfl rfl rfl rfl (Nat.le_of_ble_eq_true rfl) hA hw [4, 5, 7] [0, 1, 2, 3, 6] rfl (by decide +kernel) rfl rfl rfl rfl dX3_makePlan_21 (fun H locs hw21 => ?_)
      obtain ⟨g24, q24, h⟩ := bd h
      refine k_iast C hw21 1 rfl q24 [oX3 a a_gaps a_layings g_remaining, ar cI (a 3) 8 g24, cR cI a_gaps 41 v_gaps, cR cI a_layings 49 v_layings, oX0 a_p1 a_p1_series a_p1_pieces a_p1_trial a_p1_moves g_p1_day, ar cI (a_p1 2) 8 g_p1_rooms, cR cI a_p1_series 10 v_p1_series, cR cI a_p1_pieces 42 v_p1_pieces] rfl dX3_makePlan_24 (fun H locs hw24 => ?_)
      refine lv_iinc (v := (x3 + 1)) (lv' := [(3, .int (x3 + 1)), (0, .ref (a 0)), (1, .ref (a_p1 0))]) hx hb dX3_makePlan_25 hl (k := 2) rfl rfl (by decide) rfl (fun ls hl => ?_)
      refine lv_goto (tgt := 8) hx hb dX3_makePlan_28 (by decide) ?_
      exact ih _ _ _ _ _ hw24 (lv_sub hl [1, 2, 0] rfl) h
def fX3_makePlan_46 (v_gaps : Rg) : (n : Nat) → (k : Int32 → (Nat → Int32) → Int32 → Rg → Option ((Nat → Int32) × Int32 × Rg × Rg)) → Int32 → (Nat → Int32) → Int32 → Rg → Option ((Nat → Int32) × Int32 × Rg × Rg)
  | 0, _, _, _, _, _ => none
  | n + 1, k, x3, g_free, g_remaining, v_layings =>
    (fX4_size 41 v_gaps).bind fun r51 =>
    if r51 ≤ x3 then
      k x3 g_free g_remaining v_layings
    else
      (fX4_firstOf 41 v_gaps x3).bind fun r63 =>
      (fX4_lastOf 41 v_gaps x3).bind fun r71 =>
      (fX3_place g_free g_remaining v_layings r63 r71).bind fun r74 =>
      fX3_makePlan_46 v_gaps n k (x3 + 1) r74.1 r74.2.1 r74.2.2
set_option maxRecDepth 100000 in
set_option maxHeartbeats 4000000 in
theorem wX3_makePlan_46 {p : Program} {l : Launch} {e : Env} {s : State} {m : MethodId} {args : Array Value} {below : List Frame} {meth : Method} {c : Code} {D : va_G} {cI : ClassId} {cS : GS} {A : Nat → Prop} {a : Nat → Nat} {a_gaps : Nat → Nat} {a_layings : Nat → Nat} {a_p1 : Nat → Nat} {a_p1_series : Nat → Nat} {a_p1_pieces : Nat → Nat} {a_p1_trial : Nat → Nat} {a_p1_moves : Nat → Nat} {v_gaps : Rg} {g_p1_rooms : Nat → Int32} {g_p1_day : Int32} {v_p1_series : Rg} {v_p1_pieces : Rg} (C : MC p s m args meth c D cI cS A RX3 cX3_makePlan 4 none) (hA : ∀ q, s.heap.size ≤ q → A q) {s0 : (Nat → Int32)} {s1 : Int32} {s2 : Rg} {s3 : Rg} (k : Int32 → (Nat → Int32) → Int32 → Rg → Option ((Nat → Int32) × Int32 × Rg × Rg)) (hk : ∀ (x3 : Int32) (g_free : Nat → Int32) (g_remaining : Int32) (v_layings : Rg) (H : Heap) (locs : List Loc) (ls : Array Slot), Wd D A s.heap H locs [oX3 a a_gaps a_layings g_remaining, ar cI (a 3) 8 g_free, cR cI a_gaps 41 v_gaps, cR cI a_layings 49 v_layings, oX0 a_p1 a_p1_series a_p1_pieces a_p1_trial a_p1_moves g_p1_day, ar cI (a_p1 2) 8 g_p1_rooms, cR cI a_p1_series 10 v_p1_series, cR cI a_p1_pieces 42 v_p1_pieces] → lv_has ls 4 [(0, .ref (a 0)), (3, .int x3)] → k x3 g_free g_remaining v_layings = some (s0, s1, s2, s3) → W p l e rmX3_makePlan s m args below meth c H locs 0 0 (KQ D A below args s none [oX3 a a_gaps a_layings s1, ar cI (a 3) 8 s0, cR cI a_gaps 41 s2, cR cI a_layings 49 s3, oX0 a_p1 a_p1_series a_p1_pieces a_p1_trial a_p1_moves g_p1_day, ar cI (a_p1 2) 8 g_p1_rooms, cR cI a_p1_series 10 v_p1_series, cR cI a_p1_pieces 42 v_p1_pieces]) (F0 m 83 ls [])) :
    ∀ (n : Nat) (x3 : Int32) (g_free : Nat → Int32) (g_remaining : Int32) (v_layings : Rg) (H : Heap) (locs : List Loc) (ls : Array Slot), Wd D A s.heap H locs [oX3 a a_gaps a_layings g_remaining, ar cI (a 3) 8 g_free, cR cI a_gaps 41 v_gaps, cR cI a_layings 49 v_layings, oX0 a_p1 a_p1_series a_p1_pieces a_p1_trial a_p1_moves g_p1_day, ar cI (a_p1 2) 8 g_p1_rooms, cR cI a_p1_series 10 v_p1_series, cR cI a_p1_pieces 42 v_p1_pieces] → lv_has ls 4 [(0, .ref (a 0)), (3, .int x3)] → fX3_makePlan_46 v_gaps n k x3 g_free g_remaining v_layings = some (s0, s1, s2, s3) → W p l e rmX3_makePlan s m args below meth c H locs 0 0 (KQ D A below args s none [oX3 a a_gaps a_layings s1, ar cI (a 3) 8 s0, cR cI a_gaps 41 s2, cR cI a_layings 49 s3, oX0 a_p1 a_p1_series a_p1_pieces a_p1_trial a_p1_moves g_p1_day, ar cI (a_p1 2) 8 g_p1_rooms, cR cI a_p1_series 10 v_p1_series, cR cI a_p1_pieces 42 v_p1_pieces]) (F0 m 46 ls []) := by
  have hx := C.1.1
  have hb := C.1.2.1
  intro n
  induction n with
  | zero =>
    intro x3 g_free g_remaining v_layings H locs ls hw hl h
    rw [fX3_makePlan_46] at h
    cases h
  | succ n ih =>
    intro x3 g_free g_remaining v_layings H locs ls hw hl h
    rw [fX3_makePlan_46] at h
    refine lv_iload_n hx hb dX3_makePlan_46 rfl (lv_at hl 1 rfl) ?_
    refine lv_aload_n hx hb dX3_makePlan_47 rfl (lv_at hl 0 rfl) ?_
    refine k_get C inT_X3 hw 0 rfl rfl 0 (by decide) mF_X3_14 rfl dX3_makePlan_48 ?_
    obtain ⟨r51, q51, h⟩ := bd h
    refine k_callV (nC := 8) [oX3 a a_gaps a_layings g_remaining, ar cI (a 3) 8 g_free, cR cI a_gaps 41 v_gaps, cR cI a_layings 49 v_layings, oX0 a_p1 a_p1_series a_p1_pieces a_p1_trial a_p1_moves g_p1_day, ar cI (a_p1 2) 8 g_p1_rooms, cR cI a_p1_series 10 v_p1_series, cR cI a_p1_pieces 42 v_p1_pieces] C hl.1 (tX4_size (a := a_gaps) q51) mL_X3_47 mmX4_size rfl rfl ⟨Nat.le_of_ble_eq_true rfl, Nat.le_of_ble_eq_true rfl⟩ rfl rfl rfl rfl (Nat.le_of_ble_eq_true rfl) hA hw [2] [0, 1, 3, 4, 5, 6, 7] rfl (by decide +kernel) rfl rfl rfl rfl dX3_makePlan_51 (fun H locs hw51 => ?_)
    refine lv_icmp_ge (tgt := 83) hx hb dX3_makePlan_54 (by decide) (fun c54 => ?_) (fun c54 => ?_)
    · replace h := br_t' h c54
      exact hk _ _ _ _ _ _ _ hw51 (lv_sub hl [0, 1] rfl) h
    · replace h := br_f' h c54
      refine lv_aload_n hx hb dX3_makePlan_57 rfl (lv_at hl 0 rfl) ?_
      refine lv_aload_n hx hb dX3_makePlan_58 rfl (lv_at hl 0 rfl) ?_
      refine k_get C inT_X3 hw51 0 rfl rfl 0 (by decide) mF_X3_14 rfl dX3_makePlan_59 ?_
      refine lv_iload_n hx hb dX3_makePlan_62 rfl (lv_at hl 1 rfl) ?_
      obtain ⟨r63, q63, h⟩ := bd h
      refine k_callV (nC := 8) [oX3 a a_gaps a_layings g_remaining, ar cI (a 3) 8 g_free, cR cI a_gaps 41 v_gaps, cR cI a_layings 49 v_layings, oX0 a_p1 a_p1_series a_p1_pieces a_p1_trial a_p1_moves g_p1_day, ar cI (a_p1 2) 8 g_p1_rooms, cR cI a_p1_series 10 v_p1_series, cR cI a_p1_pieces 42 v_p1_pieces] C hl.1 (tX4_firstOf (a := a_gaps) q63) mL_X3_55 mmX4_firstOf rfl rfl ⟨Nat.le_of_ble_eq_true rfl, Nat.le_of_ble_eq_true rfl⟩ rfl rfl rfl rfl (Nat.le_of_ble_eq_true rfl) hA hw51 [2] [0, 1, 3, 4, 5, 6, 7] rfl (by decide +kernel) rfl rfl rfl rfl dX3_makePlan_63 (fun H locs hw63 => ?_)
      refine lv_aload_n hx hb dX3_makePlan_66 rfl (lv_at hl 0 rfl) ?_
      refine k_get C inT_X3 hw63 0 rfl rfl 0 (by decide) mF_X3_14 rfl dX3_makePlan_67 ?_
      refine lv_iload_n hx hb dX3_makePlan_70 rfl (lv_at hl 1 rfl) ?_
      obtain ⟨r71, q71, h⟩ := bd h
      refine k_callV (nC := 8) [oX3 a a_gaps a_layings g_remaining, ar cI (a 3) 8 g_free, cR cI a_gaps 41 v_gaps, cR cI a_layings 49 v_layings, oX0 a_p1 a_p1_series a_p1_pieces a_p1_trial a_p1_moves g_p1_day, ar cI (a_p1 2) 8 g_p1_rooms, cR cI a_p1_series 10 v_p1_series, cR cI a_p1_pieces 42 v_p1_pieces] C hl.1 (tX4_lastOf (a := a_gaps) q71) mL_X3_61 mmX4_lastOf rfl rfl ⟨Nat.le_of_ble_eq_true rfl, Nat.le_of_ble_eq_true rfl⟩ rfl rfl rfl rfl (Nat.le_of_ble_eq_true rfl) hA hw63 [2] [0, 1, 3, 4, 5, 6, 7] rfl (by decide +kernel) rfl rfl rfl rfl dX3_makePlan_71 (fun H locs hw71 => ?_)
      obtain ⟨r74, q74, h⟩ := bd h
      refine k_callV (nC := 8) [oX3 a a_gaps a_layings r74.2.1, ar cI (a 3) 8 r74.1, cR cI a_gaps 41 v_gaps, cR cI a_layings 49 r74.2.2, oX0 a_p1 a_p1_series a_p1_pieces a_p1_trial a_p1_moves g_p1_day, ar cI (a_p1 2) 8 g_p1_rooms, cR cI a_p1_series 10 v_p1_series, cR cI a_p1_pieces 42 v_p1_pieces] C hl.1 (tX3_place (a := a) (a_gaps := a_gaps) (a_layings := a_layings) q74) mL_X3_71 mmX3_place rfl rfl ⟨Nat.le_of_ble_eq_true rfl, Nat.le_of_ble_eq_true rfl⟩ rfl rfl rfl rfl (Nat.le_of_ble_eq_true rfl) hA hw71 [0, 1, 3] [2, 4, 5, 6, 7] rfl (by decide +kernel) rfl rfl rfl rfl dX3_makePlan_74 (fun H locs hw74 => ?_)
      refine lv_iinc (v := (x3 + 1)) (lv' := [(3, .int (x3 + 1)), (0, .ref (a 0))]) hx hb dX3_makePlan_77 hl (k := 1) rfl rfl (by decide) rfl (fun ls hl => ?_)
      refine lv_goto (tgt := 46) hx hb dX3_makePlan_80 (by decide) ?_
      exact ih _ _ _ _ _ _ _ hw74 (lv_sub hl [1, 0] rfl) h
def fX3_makePlan (g_free : Nat → Int32) (g_remaining : Int32) (v_gaps : Rg) (v_layings : Rg) (g_p1_rooms : Nat → Int32) (v_p1_series : Rg) (v_p1_pieces : Rg) (x2 : Int32) : Option ((Nat → Int32) × Int32 × Rg × Rg) :=
  (fX3_findGaps v_gaps v_p1_series v_p1_pieces x2).bind fun r3 =>
  fX3_makePlan_8 g_p1_rooms v_p1_pieces FU (fun x3_8 g_free_8 =>
    (fX4_cutTo 49 v_layings 0).bind fun r36 =>
    fX3_makePlan_46 r3 FU (fun x3_46 g_free_46 g_remaining_46 v_layings_46 =>
      some (g_free_46, g_remaining_46, r3, v_layings_46)) 0 g_free_8 0 r36) 0 g_free
set_option maxRecDepth 100000 in
set_option maxHeartbeats 4000000 in
theorem tX3_makePlan {l : Launch} {D : va_G} {cI : ClassId} {cS : GS} {a : Nat → Nat} {a_gaps : Nat → Nat} {a_layings : Nat → Nat} {a_p1 : Nat → Nat} {a_p1_series : Nat → Nat} {a_p1_pieces : Nat → Nat} {a_p1_trial : Nat → Nat} {a_p1_moves : Nat → Nat} {g_free : Nat → Int32} {g_remaining : Int32} {v_gaps : Rg} {v_layings : Rg} {g_p1_rooms : Nat → Int32} {g_p1_day : Int32} {v_p1_series : Rg} {v_p1_pieces : Rg} {x2 : Int32} {s0 : (Nat → Int32)} {s1 : Int32} {s2 : Rg} {s3 : Rg} (h : fX3_makePlan g_free g_remaining v_gaps v_layings g_p1_rooms v_p1_series v_p1_pieces x2 = some (s0, s1, s2, s3)) : CT l D cI cS yX3_makePlan cX3_makePlan 4 none rmX3_makePlan [.ref (a 0), .ref (a_p1 0), .int x2] [oX3 a a_gaps a_layings g_remaining, ar cI (a 3) 8 g_free, cR cI a_gaps 41 v_gaps, cR cI a_layings 49 v_layings, oX0 a_p1 a_p1_series a_p1_pieces a_p1_trial a_p1_moves g_p1_day, ar cI (a_p1 2) 8 g_p1_rooms, cR cI a_p1_series 10 v_p1_series, cR cI a_p1_pieces 42 v_p1_pieces] none [oX3 a a_gaps a_layings s1, ar cI (a 3) 8 s0, cR cI a_gaps 41 s2, cR cI a_layings 49 s3, oX0 a_p1 a_p1_series a_p1_pieces a_p1_trial a_p1_moves g_p1_day, ar cI (a_p1 2) 8 g_p1_rooms, cR cI a_p1_series 10 v_p1_series, cR cI a_p1_pieces 42 v_p1_pieces] := by
  refine CT.of RX3 (by decide) rfl (Nat.le_of_ble_eq_true rfl) (fun p e s m below meth c ls A C hA hl hw => ?_)
  have hx := C.1.1
  have hb := C.1.2.1
  have hl : lv_has ls 4 [(0, .ref (a 0)), (1, .ref (a_p1 0)), (2, .int x2)] := hl
  unfold fX3_makePlan at h
  refine lv_aload_n hx hb dX3_makePlan_0 rfl (lv_at hl 0 rfl) ?_
  refine lv_aload_n hx hb dX3_makePlan_1 rfl (lv_at hl 1 rfl) ?_
  refine lv_iload_n hx hb dX3_makePlan_2 rfl (lv_at hl 2 rfl) ?_
  obtain ⟨r3, q3, h⟩ := bd h
  refine k_callV (nC := 8) [oX3 a a_gaps a_layings g_remaining, ar cI (a 3) 8 g_free, cR cI a_gaps 41 r3, cR cI a_layings 49 v_layings, oX0 a_p1 a_p1_series a_p1_pieces a_p1_trial a_p1_moves g_p1_day, ar cI (a_p1 2) 8 g_p1_rooms, cR cI a_p1_series 10 v_p1_series, cR cI a_p1_pieces 42 v_p1_pieces] C hl.1 (tX3_findGaps (a := a) (a_gaps := a_gaps) (a_layings := a_layings) (a_p1 := a_p1) (a_p1_series := a_p1_series) (a_p1_pieces := a_p1_pieces) (a_p1_trial := a_p1_trial) (a_p1_moves := a_p1_moves) q3) mL_X3_64 mmX3_findGaps rfl rfl ⟨Nat.le_of_ble_eq_true rfl, Nat.le_of_ble_eq_true rfl⟩ rfl rfl rfl rfl (Nat.le_of_ble_eq_true rfl) hA hw [0, 2, 4, 6, 7] [1, 3, 5] rfl (by decide +kernel) rfl rfl rfl rfl dX3_makePlan_3 (fun H locs hw3 => ?_)
  refine lv_iconst (v := 0) hx hb dX3_makePlan_6 (by decide) ?_
  refine lv_istore_n (lv' := [(3, .int 0), (0, .ref (a 0)), (1, .ref (a_p1 0)), (2, .int x2)]) hx hb dX3_makePlan_7 rfl hl (by decide) rfl (fun ls hl => ?_)
  refine wX3_makePlan_8 C hA _ (fun x3_8 g_free_8 H locs ls hw8x hl h => ?_) FU _ _ _ _ _ hw3 (lv_sub hl [1, 2, 0] rfl) h
  refine lv_aload_n hx hb dX3_makePlan_31 rfl (lv_at hl 0 rfl) ?_
  refine k_get C inT_X3 hw8x 0 rfl rfl 1 (by decide) mF_X3_20 rfl dX3_makePlan_32 ?_
  refine lv_iconst (v := 0) hx hb dX3_makePlan_35 (by decide) ?_
  obtain ⟨r36, q36, h⟩ := bd h
  refine k_callV (nC := 8) [oX3 a a_gaps a_layings g_remaining, ar cI (a 3) 8 g_free_8, cR cI a_gaps 41 r3, cR cI a_layings 49 r36, oX0 a_p1 a_p1_series a_p1_pieces a_p1_trial a_p1_moves g_p1_day, ar cI (a_p1 2) 8 g_p1_rooms, cR cI a_p1_series 10 v_p1_series, cR cI a_p1_pieces 42 v_p1_pieces] C hl.1 (tX4_cutTo (a := a_layings) q36) mL_X3_44 mmX4_cutTo rfl rfl ⟨Nat.le_of_ble_eq_true rfl, Nat.le_of_ble_eq_true rfl⟩ rfl rfl rfl rfl (Nat.le_of_ble_eq_true rfl) hA hw8x [3] [0, 1, 2, 4, 5, 6, 7] rfl (by decide +kernel) rfl rfl rfl rfl dX3_makePlan_36 (fun H locs hw36 => ?_)
  refine lv_aload_n hx hb dX3_makePlan_39 rfl (lv_at hl 0 rfl) ?_
  refine lv_iconst (v := 0) hx hb dX3_makePlan_40 (by decide) ?_
  refine k_put C inT_X3 tyX3 tyX3_ok nmX3 hw36 0 rfl rfl 3 (by decide) mF_X3_27 rfl rfl (Nat.le_of_ble_eq_true rfl) [oX3 a a_gaps a_layings 0, ar cI (a 3) 8 g_free_8, cR cI a_gaps 41 r3, cR cI a_layings 49 r36, oX0 a_p1 a_p1_series a_p1_pieces a_p1_trial a_p1_moves g_p1_day, ar cI (a_p1 2) 8 g_p1_rooms, cR cI a_p1_series 10 v_p1_series, cR cI a_p1_pieces 42 v_p1_pieces] rfl dX3_makePlan_41 (fun H locs hw41 => ?_)
  refine lv_iconst (v := 0) hx hb dX3_makePlan_44 (by decide) ?_
  refine lv_istore_n (lv' := [(3, .int 0), (0, .ref (a 0)), (1, .ref (a_p1 0))]) hx hb dX3_makePlan_45 rfl hl (by decide) rfl (fun ls hl => ?_)
  refine wX3_makePlan_46 C hA _ (fun x3_46 g_free_46 g_remaining_46 v_layings_46 H locs ls hw46x hl h => ?_) FU _ _ _ _ _ _ _ hw41 (lv_sub hl [1, 0] rfl) h
  cases h
  exact k_vret C hw46x dX3_makePlan_83
def rmX2_length : Room := { frames := 0, cells := 0, slots := 0, locals := 0 }
def fX2_length (g_length : Int32) : Option (Int32) :=
  some g_length
set_option maxRecDepth 100000 in
set_option maxHeartbeats 4000000 in
theorem tX2_length {l : Launch} {D : va_G} {cI : ClassId} {cS : GS} {a : Nat → Nat} {g_length : Int32} {g_latest : Int32}  {s0 : Int32} (h : fX2_length g_length = some s0) : CT l D cI cS yX2_length cX2_length 1 (some .int) rmX2_length [.ref (a 0)] [oX2 a g_length g_latest] (some (.int s0)) [oX2 a g_length g_latest] := by
  refine CT.of RX2 (by decide) rfl (Nat.le_of_ble_eq_true rfl) (fun p e s m below meth c ls A C hA hl hw => ?_)
  have hx := C.1.1
  have hb := C.1.2.1
  have hl : lv_has ls 1 [(0, .ref (a 0))] := hl
  unfold fX2_length at h
  refine lv_aload_n hx hb dX2_length_0 rfl (lv_at hl 0 rfl) ?_
  refine k_get C inT_X2 hw 0 rfl rfl 1 (by decide) mF_X2_15 rfl dX2_length_1 ?_
  cases h
  exact k_iret C hw dX2_length_4
def rmX2_signAt : Room := { frames := 0, cells := 0, slots := 0, locals := 0 }
def fX2_signAt (g_signs : Nat → Int32) (g_length : Int32) (x1 : Int32) : Option (Int32) :=
  if x1 < 0 then
    some (-1)
  else
    if g_length ≤ x1 then
      some (-1)
    else
      if (nI 200) ≤ x1 then
        some (-1)
      else
        (ld 200 g_signs x1).bind fun y26 =>
        some y26
set_option maxRecDepth 100000 in
set_option maxHeartbeats 4000000 in
theorem tX2_signAt {l : Launch} {D : va_G} {cI : ClassId} {cS : GS} {a : Nat → Nat} {g_signs : Nat → Int32} {g_length : Int32} {g_latest : Int32} {x1 : Int32} {s0 : Int32} (h : fX2_signAt g_signs g_length x1 = some s0) : CT l D cI cS yX2_signAt cX2_signAt 2 (some .int) rmX2_signAt [.ref (a 0), .int x1] [oX2 a g_length g_latest, ar cI (a 1) 200 g_signs] (some (.int s0)) [oX2 a g_length g_latest, ar cI (a 1) 200 g_signs] := by
  refine CT.of RX2 (by decide) rfl (Nat.le_of_ble_eq_true rfl) (fun p e s m below meth c ls A C hA hl hw => ?_)
  have hx := C.1.1
  have hb := C.1.2.1
  have hl : lv_has ls 2 [(0, .ref (a 0)), (1, .int x1)] := hl
  unfold fX2_signAt at h
  refine lv_iload_n hx hb dX2_signAt_0 rfl (lv_at hl 1 rfl) ?_
  refine lv_if_lt (tgt := 30) hx hb dX2_signAt_1 (by decide) (fun c1 => ?_) (fun c1 => ?_)
  · replace h := br_t' h c1
    refine lv_iconst (v := (-1)) hx hb dX2_signAt_30 (by decide) ?_
    cases h
    exact k_iret C hw dX2_signAt_31
  · replace h := br_f' h c1
    refine lv_iload_n hx hb dX2_signAt_4 rfl (lv_at hl 1 rfl) ?_
    refine lv_aload_n hx hb dX2_signAt_5 rfl (lv_at hl 0 rfl) ?_
    refine k_get C inT_X2 hw 0 rfl rfl 1 (by decide) mF_X2_15 rfl dX2_signAt_6 ?_
    refine lv_icmp_ge (tgt := 30) hx hb dX2_signAt_9 (by decide) (fun c9 => ?_) (fun c9 => ?_)
    · replace h := br_t' h c9
      refine lv_iconst (v := (-1)) hx hb dX2_signAt_30 (by decide) ?_
      cases h
      exact k_iret C hw dX2_signAt_31
    · replace h := br_f' h c9
      refine lv_iload_n hx hb dX2_signAt_12 rfl (lv_at hl 1 rfl) ?_
      refine lv_aload_n hx hb dX2_signAt_13 rfl (lv_at hl 0 rfl) ?_
      refine k_get C inT_X2 hw 0 rfl rfl 0 (by decide) mF_X2_9 rfl dX2_signAt_14 ?_
      refine k_alen C hw 1 rfl dX2_signAt_17 ?_
      refine lv_icmp_ge (tgt := 30) hx hb dX2_signAt_18 (by decide) (fun c18 => ?_) (fun c18 => ?_)
      · replace h := br_t' h c18
        refine lv_iconst (v := (-1)) hx hb dX2_signAt_30 (by decide) ?_
        cases h
        exact k_iret C hw dX2_signAt_31
      · replace h := br_f' h c18
        refine lv_aload_n hx hb dX2_signAt_21 rfl (lv_at hl 0 rfl) ?_
        refine k_get C inT_X2 hw 0 rfl rfl 0 (by decide) mF_X2_9 rfl dX2_signAt_22 ?_
        refine lv_iload_n hx hb dX2_signAt_25 rfl (lv_at hl 1 rfl) ?_
        obtain ⟨y26, q26, h⟩ := bd h
        refine k_iald C hw 1 rfl q26 dX2_signAt_26 ?_
        refine lv_goto (tgt := 31) hx hb dX2_signAt_27 (by decide) ?_
        cases h
        exact k_iret C hw dX2_signAt_31
def rmX2_wipe : Room := { frames := 0, cells := 0, slots := 0, locals := 0 }
def fX2_wipe (g_length : Int32) (g_latest : Int32) : Option (Int32 × Int32) :=
  some (0, (-1))
set_option maxRecDepth 100000 in
set_option maxHeartbeats 4000000 in
theorem tX2_wipe {l : Launch} {D : va_G} {cI : ClassId} {cS : GS} {a : Nat → Nat} {g_length : Int32} {g_latest : Int32}  {s0 : Int32} {s1 : Int32} (h : fX2_wipe g_length g_latest = some (s0, s1)) : CT l D cI cS yX2_wipe cX2_wipe 1 none rmX2_wipe [.ref (a 0)] [oX2 a g_length g_latest] none [oX2 a s0 s1] := by
  refine CT.of RX2 (by decide) rfl (Nat.le_of_ble_eq_true rfl) (fun p e s m below meth c ls A C hA hl hw => ?_)
  have hx := C.1.1
  have hb := C.1.2.1
  have hl : lv_has ls 1 [(0, .ref (a 0))] := hl
  unfold fX2_wipe at h
  refine lv_aload_n hx hb dX2_wipe_0 rfl (lv_at hl 0 rfl) ?_
  refine lv_iconst (v := 0) hx hb dX2_wipe_1 (by decide) ?_
  refine k_put C inT_X2 tyX2 tyX2_ok nmX2 hw 0 rfl rfl 1 (by decide) mF_X2_15 rfl rfl (Nat.le_of_ble_eq_true rfl) [oX2 a 0 g_latest] rfl dX2_wipe_2 (fun H locs hw2 => ?_)
  refine lv_aload_n hx hb dX2_wipe_5 rfl (lv_at hl 0 rfl) ?_
  refine lv_iconst (v := (-1)) hx hb dX2_wipe_6 (by decide) ?_
  refine k_put C inT_X2 tyX2 tyX2_ok nmX2 hw2 0 rfl rfl 2 (by decide) mF_X2_19 rfl rfl (Nat.le_of_ble_eq_true rfl) [oX2 a 0 (-1)] rfl dX2_wipe_7 (fun H locs hw7 => ?_)
  cases h
  exact k_vret C hw7 dX2_wipe_10
def rmX2_copyFrom : Room := { frames := 1, cells := 0, slots := 0, locals := 26 }
def fX2_copyFrom (g_signs : Nat → Int32) (g_length : Int32) (g_latest : Int32) (g_p1_signs : Nat → Int32) (g_p1_length : Int32) (g_p1_latest : Int32) : Option ((Nat → Int32) × Int32 × Int32) :=
  (cpy 200 g_p1_signs 0 200 g_signs 0 200).bind fun g13 =>
  some (g13, g_p1_length, g_p1_latest)
set_option maxRecDepth 100000 in
set_option maxHeartbeats 4000000 in
theorem tX2_copyFrom {l : Launch} {D : va_G} {cI : ClassId} {cS : GS} {a : Nat → Nat} {a_p1 : Nat → Nat} {g_signs : Nat → Int32} {g_length : Int32} {g_latest : Int32} {g_p1_signs : Nat → Int32} {g_p1_length : Int32} {g_p1_latest : Int32}  {s0 : (Nat → Int32)} {s1 : Int32} {s2 : Int32} (h : fX2_copyFrom g_signs g_length g_latest g_p1_signs g_p1_length g_p1_latest = some (s0, s1, s2)) : CT l D cI cS yX2_copyFrom cX2_copyFrom 2 none rmX2_copyFrom [.ref (a 0), .ref (a_p1 0)] [oX2 a g_length g_latest, ar cI (a 1) 200 g_signs, oX2 a_p1 g_p1_length g_p1_latest, ar cI (a_p1 1) 200 g_p1_signs] none [oX2 a s1 s2, ar cI (a 1) 200 s0, oX2 a_p1 g_p1_length g_p1_latest, ar cI (a_p1 1) 200 g_p1_signs] := by
  refine CT.of RX2 (by decide) rfl (Nat.le_of_ble_eq_true rfl) (fun p e s m below meth c ls A C hA hl hw => ?_)
  have hx := C.1.1
  have hb := C.1.2.1
  have hl : lv_has ls 2 [(0, .ref (a 0)), (1, .ref (a_p1 0))] := hl
  unfold fX2_copyFrom at h
  refine lv_aload_n hx hb dX2_copyFrom_0 rfl (lv_at hl 1 rfl) ?_
  refine k_get C inT_X2 hw 2 rfl rfl 0 (by decide) mF_X2_9 rfl dX2_copyFrom_1 ?_
  refine lv_iconst (v := 0) hx hb dX2_copyFrom_4 (by decide) ?_
  refine lv_aload_n hx hb dX2_copyFrom_5 rfl (lv_at hl 0 rfl) ?_
  refine k_get C inT_X2 hw 0 rfl rfl 0 (by decide) mF_X2_9 rfl dX2_copyFrom_6 ?_
  refine lv_iconst (v := 0) hx hb dX2_copyFrom_9 (by decide) ?_
  refine lv_sipush (v := 200) hx hb dX2_copyFrom_10 (by decide) ?_
  obtain ⟨g13, q13, h⟩ := bd h
  refine k_copy C hl.1 mL_X2_22 mm_copy hw 3 1 rfl rfl q13 (Nat.le_of_ble_eq_true rfl) (Nat.le_of_ble_eq_true rfl) [oX2 a g_length g_latest, ar cI (a 1) 200 g13, oX2 a_p1 g_p1_length g_p1_latest, ar cI (a_p1 1) 200 g_p1_signs] rfl dX2_copyFrom_13 (fun H locs hw13 => ?_)
  refine lv_aload_n hx hb dX2_copyFrom_16 rfl (lv_at hl 0 rfl) ?_
  refine lv_aload_n hx hb dX2_copyFrom_17 rfl (lv_at hl 1 rfl) ?_
  refine k_get C inT_X2 hw13 2 rfl rfl 1 (by decide) mF_X2_15 rfl dX2_copyFrom_18 ?_
  refine k_put C inT_X2 tyX2 tyX2_ok nmX2 hw13 0 rfl rfl 1 (by decide) mF_X2_15 rfl rfl (Nat.le_of_ble_eq_true rfl) [oX2 a g_p1_length g_latest, ar cI (a 1) 200 g13, oX2 a_p1 g_p1_length g_p1_latest, ar cI (a_p1 1) 200 g_p1_signs] rfl dX2_copyFrom_21 (fun H locs hw21 => ?_)
  refine lv_aload_n hx hb dX2_copyFrom_24 rfl (lv_at hl 0 rfl) ?_
  refine lv_aload_n hx hb dX2_copyFrom_25 rfl (lv_at hl 1 rfl) ?_
  refine k_get C inT_X2 hw21 2 rfl rfl 2 (by decide) mF_X2_19 rfl dX2_copyFrom_26 ?_
  refine k_put C inT_X2 tyX2 tyX2_ok nmX2 hw21 0 rfl rfl 2 (by decide) mF_X2_19 rfl rfl (Nat.le_of_ble_eq_true rfl) [oX2 a g_p1_length g_p1_latest, ar cI (a 1) 200 g13, oX2 a_p1 g_p1_length g_p1_latest, ar cI (a_p1 1) 200 g_p1_signs] rfl dX2_copyFrom_29 (fun H locs hw29 => ?_)
  cases h
  exact k_vret C hw29 dX2_copyFrom_32
def rmX2_put : Room := { frames := 0, cells := 0, slots := 0, locals := 0 }
def fX2_put (g_signs : Nat → Int32) (g_length : Int32) (g_latest : Int32) (x1 : Int32) : Option ((Nat → Int32) × Int32 × Int32) :=
  if (nI 200) ≤ g_length then
    some (g_signs, (g_length + 1), x1)
  else
    (sv 200 g_signs g_length x1).bind fun g21 =>
    some (g21, (g_length + 1), x1)
set_option maxRecDepth 100000 in
set_option maxHeartbeats 4000000 in
theorem tX2_put {l : Launch} {D : va_G} {cI : ClassId} {cS : GS} {a : Nat → Nat} {g_signs : Nat → Int32} {g_length : Int32} {g_latest : Int32} {x1 : Int32} {s0 : (Nat → Int32)} {s1 : Int32} {s2 : Int32} (h : fX2_put g_signs g_length g_latest x1 = some (s0, s1, s2)) : CT l D cI cS yX2_put cX2_put 2 none rmX2_put [.ref (a 0), .int x1] [oX2 a g_length g_latest, ar cI (a 1) 200 g_signs] none [oX2 a s1 s2, ar cI (a 1) 200 s0] := by
  refine CT.of RX2 (by decide) rfl (Nat.le_of_ble_eq_true rfl) (fun p e s m below meth c ls A C hA hl hw => ?_)
  have hx := C.1.1
  have hb := C.1.2.1
  have hl : lv_has ls 2 [(0, .ref (a 0)), (1, .int x1)] := hl
  unfold fX2_put at h
  refine lv_aload_n hx hb dX2_put_0 rfl (lv_at hl 0 rfl) ?_
  refine k_get C inT_X2 hw 0 rfl rfl 1 (by decide) mF_X2_15 rfl dX2_put_1 ?_
  refine lv_aload_n hx hb dX2_put_4 rfl (lv_at hl 0 rfl) ?_
  refine k_get C inT_X2 hw 0 rfl rfl 0 (by decide) mF_X2_9 rfl dX2_put_5 ?_
  refine k_alen C hw 1 rfl dX2_put_8 ?_
  refine lv_icmp_ge (tgt := 22) hx hb dX2_put_9 (by decide) (fun c9 => ?_) (fun c9 => ?_)
  · replace h := br_t' h c9
    refine lv_aload_n hx hb dX2_put_22 rfl (lv_at hl 0 rfl) ?_
    refine lv_dup hx hb dX2_put_23 rfl ?_
    refine k_get C inT_X2 hw 0 rfl rfl 1 (by decide) mF_X2_15 rfl dX2_put_24 ?_
    refine lv_iconst (v := 1) hx hb dX2_put_27 (by decide) ?_
    refine lv_iadd hx hb dX2_put_28 ?_
    refine k_put C inT_X2 tyX2 tyX2_ok nmX2 hw 0 rfl rfl 1 (by decide) mF_X2_15 rfl rfl (Nat.le_of_ble_eq_true rfl) [oX2 a (g_length + 1) g_latest, ar cI (a 1) 200 g_signs] rfl dX2_put_29 (fun H locs hw29 => ?_)
    refine lv_aload_n hx hb dX2_put_32 rfl (lv_at hl 0 rfl) ?_
    refine lv_iload_n hx hb dX2_put_33 rfl (lv_at hl 1 rfl) ?_
    refine k_put C inT_X2 tyX2 tyX2_ok nmX2 hw29 0 rfl rfl 2 (by decide) mF_X2_19 rfl rfl (Nat.le_of_ble_eq_true rfl) [oX2 a (g_length + 1) x1, ar cI (a 1) 200 g_signs] rfl dX2_put_34 (fun H locs hw34 => ?_)
    cases h
    exact k_vret C hw34 dX2_put_37
  · replace h := br_f' h c9
    refine lv_aload_n hx hb dX2_put_12 rfl (lv_at hl 0 rfl) ?_
    refine k_get C inT_X2 hw 0 rfl rfl 0 (by decide) mF_X2_9 rfl dX2_put_13 ?_
    refine lv_aload_n hx hb dX2_put_16 rfl (lv_at hl 0 rfl) ?_
    refine k_get C inT_X2 hw 0 rfl rfl 1 (by decide) mF_X2_15 rfl dX2_put_17 ?_
    refine lv_iload_n hx hb dX2_put_20 rfl (lv_at hl 1 rfl) ?_
    obtain ⟨g21, q21, h⟩ := bd h
    refine k_iast C hw 1 rfl q21 [oX2 a g_length g_latest, ar cI (a 1) 200 g21] rfl dX2_put_21 (fun H locs hw21 => ?_)
    refine lv_aload_n hx hb dX2_put_22 rfl (lv_at hl 0 rfl) ?_
    refine lv_dup hx hb dX2_put_23 rfl ?_
    refine k_get C inT_X2 hw21 0 rfl rfl 1 (by decide) mF_X2_15 rfl dX2_put_24 ?_
    refine lv_iconst (v := 1) hx hb dX2_put_27 (by decide) ?_
    refine lv_iadd hx hb dX2_put_28 ?_
    refine k_put C inT_X2 tyX2 tyX2_ok nmX2 hw21 0 rfl rfl 1 (by decide) mF_X2_15 rfl rfl (Nat.le_of_ble_eq_true rfl) [oX2 a (g_length + 1) g_latest, ar cI (a 1) 200 g21] rfl dX2_put_29 (fun H locs hw29 => ?_)
    refine lv_aload_n hx hb dX2_put_32 rfl (lv_at hl 0 rfl) ?_
    refine lv_iload_n hx hb dX2_put_33 rfl (lv_at hl 1 rfl) ?_
    refine k_put C inT_X2 tyX2 tyX2_ok nmX2 hw29 0 rfl rfl 2 (by decide) mF_X2_19 rfl rfl (Nat.le_of_ble_eq_true rfl) [oX2 a (g_length + 1) x1, ar cI (a 1) 200 g21] rfl dX2_put_34 (fun H locs hw34 => ?_)
    cases h
    exact k_vret C hw34 dX2_put_37
def rmX2_putNumber : Room := { frames := 1, cells := 0, slots := 0, locals := 21 }
def fX2_putNumber_5 (x1 : Int32) : (n : Nat) → (k : Int32 → Int32 → (Nat → Int32) → Int32 → Int32 → Option ((Nat → Int32) × Int32 × Int32)) → Int32 → Int32 → (Nat → Int32) → Int32 → Int32 → Option ((Nat → Int32) × Int32 × Int32)
  | 0, _, _, _, _, _, _ => none
  | n + 1, k, x2, x3, g_signs, g_length, g_latest =>
    if x3 ≤ 0 then
      k x2 x3 g_signs g_length g_latest
    else
      (dv x1 x3).bind fun z11 =>
      (rmd z11 10).bind fun z14 =>
      if x2 = 0 then
        if z14 = 0 then
          if x3 = 1 then
            if (1 : Int32) = 0 then
              (dv x3 10).bind fun z53 =>
              fX2_putNumber_5 x1 n k 1 z53 g_signs g_length g_latest
            else
              (fX2_put g_signs g_length g_latest (48 + z14)).bind fun r47 =>
              (dv x3 10).bind fun z53 =>
              fX2_putNumber_5 x1 n k 1 z53 r47.1 r47.2.1 r47.2.2
          else
            if (0 : Int32) = 0 then
              (dv x3 10).bind fun z53 =>
              fX2_putNumber_5 x1 n k 0 z53 g_signs g_length g_latest
            else
              (fX2_put g_signs g_length g_latest (48 + z14)).bind fun r47 =>
              (dv x3 10).bind fun z53 =>
              fX2_putNumber_5 x1 n k 0 z53 r47.1 r47.2.1 r47.2.2
        else
          if (1 : Int32) = 0 then
            (dv x3 10).bind fun z53 =>
            fX2_putNumber_5 x1 n k 1 z53 g_signs g_length g_latest
          else
            (fX2_put g_signs g_length g_latest (48 + z14)).bind fun r47 =>
            (dv x3 10).bind fun z53 =>
            fX2_putNumber_5 x1 n k 1 z53 r47.1 r47.2.1 r47.2.2
      else
        if (1 : Int32) = 0 then
          (dv x3 10).bind fun z53 =>
          fX2_putNumber_5 x1 n k 1 z53 g_signs g_length g_latest
        else
          (fX2_put g_signs g_length g_latest (48 + z14)).bind fun r47 =>
          (dv x3 10).bind fun z53 =>
          fX2_putNumber_5 x1 n k 1 z53 r47.1 r47.2.1 r47.2.2
set_option maxRecDepth 100000 in
set_option maxHeartbeats 4000000 in
theorem wX2_putNumber_5 {p : Program} {l : Launch} {e : Env} {s : State} {m : MethodId} {args : Array Value} {below : List Frame} {meth : Method} {c : Code} {D : va_G} {cI : ClassId} {cS : GS} {A : Nat → Prop} {a : Nat → Nat} {x1 : Int32} (C : MC p s m args meth c D cI cS A RX2 cX2_putNumber 5 none) (hA : ∀ q, s.heap.size ≤ q → A q) {s0 : (Nat → Int32)} {s1 : Int32} {s2 : Int32} (k : Int32 → Int32 → (Nat → Int32) → Int32 → Int32 → Option ((Nat → Int32) × Int32 × Int32)) (hk : ∀ (x2 : Int32) (x3 : Int32) (g_signs : Nat → Int32) (g_length : Int32) (g_latest : Int32) (H : Heap) (locs : List Loc) (ls : Array Slot), Wd D A s.heap H locs [oX2 a g_length g_latest, ar cI (a 1) 200 g_signs] → lv_has ls 5 [(0, .ref (a 0)), (1, .int x1), (2, .int x2), (3, .int x3)] → k x2 x3 g_signs g_length g_latest = some (s0, s1, s2) → W p l e rmX2_putNumber s m args below meth c H locs 0 0 (KQ D A below args s none [oX2 a s1 s2, ar cI (a 1) 200 s0]) (F0 m 58 ls [])) :
    ∀ (n : Nat) (x2 : Int32) (x3 : Int32) (g_signs : Nat → Int32) (g_length : Int32) (g_latest : Int32) (H : Heap) (locs : List Loc) (ls : Array Slot), Wd D A s.heap H locs [oX2 a g_length g_latest, ar cI (a 1) 200 g_signs] → lv_has ls 5 [(0, .ref (a 0)), (1, .int x1), (2, .int x2), (3, .int x3)] → fX2_putNumber_5 x1 n k x2 x3 g_signs g_length g_latest = some (s0, s1, s2) → W p l e rmX2_putNumber s m args below meth c H locs 0 0 (KQ D A below args s none [oX2 a s1 s2, ar cI (a 1) 200 s0]) (F0 m 5 ls []) := by
  have hx := C.1.1
  have hb := C.1.2.1
  intro n
  induction n with
  | zero =>
    intro x2 x3 g_signs g_length g_latest H locs ls hw hl h
    rw [fX2_putNumber_5] at h
    cases h
  | succ n ih =>
    intro x2 x3 g_signs g_length g_latest H locs ls hw hl h
    rw [fX2_putNumber_5] at h
    refine lv_iload_n hx hb dX2_putNumber_5 rfl (lv_at hl 3 rfl) ?_
    refine lv_if_le (tgt := 58) hx hb dX2_putNumber_6 (by decide) (fun c6 => ?_) (fun c6 => ?_)
    · replace h := br_t' h c6
      exact hk _ _ _ _ _ _ _ _ hw (lv_sub hl [0, 1, 2, 3] rfl) h
    · replace h := br_f' h c6
      refine lv_iload_n hx hb dX2_putNumber_9 rfl (lv_at hl 1 rfl) ?_
      refine lv_iload_n hx hb dX2_putNumber_10 rfl (lv_at hl 3 rfl) ?_
      obtain ⟨z11, q11, h⟩ := bd h
      refine k_idiv C q11 dX2_putNumber_11 ?_
      refine lv_bipush (v := 10) hx hb dX2_putNumber_12 (by decide) ?_
      obtain ⟨z14, q14, h⟩ := bd h
      refine k_irem C q14 dX2_putNumber_14 ?_
      refine lv_istore (lv' := [(4, .int z14), (0, .ref (a 0)), (1, .int x1), (2, .int x2), (3, .int x3)]) hx hb dX2_putNumber_15 hl (by decide) rfl (fun ls hl => ?_)
      refine lv_iload_n hx hb dX2_putNumber_17 rfl (lv_at hl 3 rfl) ?_
      refine lv_if_ne (tgt := 31) hx hb dX2_putNumber_18 (by decide) (fun c18 => ?_) (fun c18 => ?_)
      · replace h := br_f' h c18
        refine lv_iconst (v := 1) hx hb dX2_putNumber_31 (by decide) ?_
        refine lv_goto (tgt := 36) hx hb dX2_putNumber_32 (by decide) ?_
        refine lv_istore_n (lv' := [(2, .int 1), (4, .int z14), (0, .ref (a 0)), (1, .int x1), (3, .int x3)]) hx hb dX2_putNumber_36 rfl hl (by decide) rfl (fun ls hl => ?_)
        refine lv_iload_n hx hb dX2_putNumber_37 rfl (lv_at hl 0 rfl) ?_
        refine lv_if_eq (tgt := 50) hx hb dX2_putNumber_38 (by decide) (fun c38 => ?_) (fun c38 => ?_)
        · replace h := br_t' h c38
          refine lv_iload_n hx hb dX2_putNumber_50 rfl (lv_at hl 4 rfl) ?_
          refine lv_bipush (v := 10) hx hb dX2_putNumber_51 (by decide) ?_
          obtain ⟨z53, q53, h⟩ := bd h
          refine k_idiv C q53 dX2_putNumber_53 ?_
          refine lv_istore_n (lv' := [(3, .int z53), (2, .int 1), (4, .int z14), (0, .ref (a 0)), (1, .int x1)]) hx hb dX2_putNumber_54 rfl hl (by decide) rfl (fun ls hl => ?_)
          refine lv_goto (tgt := 5) hx hb dX2_putNumber_55 (by decide) ?_
          exact ih _ _ _ _ _ _ _ _ hw (lv_sub hl [3, 4, 1, 0] rfl) h
        · replace h := br_f' h c38
          refine lv_aload_n hx hb dX2_putNumber_41 rfl (lv_at hl 2 rfl) ?_
          refine lv_bipush (v := 48) hx hb dX2_putNumber_42 (by decide) ?_
          refine lv_iload hx hb dX2_putNumber_44 (lv_at hl 1 rfl) ?_
          refine lv_iadd hx hb dX2_putNumber_46 ?_
          obtain ⟨r47, q47, h⟩ := bd h
          refine k_callV (nC := 2) [oX2 a r47.2.1 r47.2.2, ar cI (a 1) 200 r47.1] C hl.1 (tX2_put (a := a) q47) mL_X2_45 mmX2_put rfl rfl ⟨Nat.le_of_ble_eq_true rfl, Nat.le_of_ble_eq_true rfl⟩ rfl rfl rfl rfl (Nat.le_of_ble_eq_true rfl) hA hw [0, 1] [] rfl (by decide +kernel) rfl rfl rfl rfl dX2_putNumber_47 (fun H locs hw47 => ?_)
          refine lv_iload_n hx hb dX2_putNumber_50 rfl (lv_at hl 4 rfl) ?_
          refine lv_bipush (v := 10) hx hb dX2_putNumber_51 (by decide) ?_
          obtain ⟨z53, q53, h⟩ := bd h
          refine k_idiv C q53 dX2_putNumber_53 ?_
          refine lv_istore_n (lv' := [(3, .int z53), (2, .int 1), (4, .int z14), (0, .ref (a 0)), (1, .int x1)]) hx hb dX2_putNumber_54 rfl hl (by decide) rfl (fun ls hl => ?_)
          refine lv_goto (tgt := 5) hx hb dX2_putNumber_55 (by decide) ?_
          exact ih _ _ _ _ _ _ _ _ hw47 (lv_sub hl [3, 4, 1, 0] rfl) h
      · replace h := br_t' h c18
        refine lv_iload hx hb dX2_putNumber_21 (lv_at hl 0 rfl) ?_
        refine lv_if_ne (tgt := 31) hx hb dX2_putNumber_23 (by decide) (fun c23 => ?_) (fun c23 => ?_)
        · replace h := br_f' h c23
          refine lv_iconst (v := 1) hx hb dX2_putNumber_31 (by decide) ?_
          refine lv_goto (tgt := 36) hx hb dX2_putNumber_32 (by decide) ?_
          refine lv_istore_n (lv' := [(2, .int 1), (4, .int z14), (0, .ref (a 0)), (1, .int x1), (3, .int x3)]) hx hb dX2_putNumber_36 rfl hl (by decide) rfl (fun ls hl => ?_)
          refine lv_iload_n hx hb dX2_putNumber_37 rfl (lv_at hl 0 rfl) ?_
          refine lv_if_eq (tgt := 50) hx hb dX2_putNumber_38 (by decide) (fun c38 => ?_) (fun c38 => ?_)
          · replace h := br_t' h c38
            refine lv_iload_n hx hb dX2_putNumber_50 rfl (lv_at hl 4 rfl) ?_
            refine lv_bipush (v := 10) hx hb dX2_putNumber_51 (by decide) ?_
            obtain ⟨z53, q53, h⟩ := bd h
            refine k_idiv C q53 dX2_putNumber_53 ?_
            refine lv_istore_n (lv' := [(3, .int z53), (2, .int 1), (4, .int z14), (0, .ref (a 0)), (1, .int x1)]) hx hb dX2_putNumber_54 rfl hl (by decide) rfl (fun ls hl => ?_)
            refine lv_goto (tgt := 5) hx hb dX2_putNumber_55 (by decide) ?_
            exact ih _ _ _ _ _ _ _ _ hw (lv_sub hl [3, 4, 1, 0] rfl) h
          · replace h := br_f' h c38
            refine lv_aload_n hx hb dX2_putNumber_41 rfl (lv_at hl 2 rfl) ?_
            refine lv_bipush (v := 48) hx hb dX2_putNumber_42 (by decide) ?_
            refine lv_iload hx hb dX2_putNumber_44 (lv_at hl 1 rfl) ?_
            refine lv_iadd hx hb dX2_putNumber_46 ?_
            obtain ⟨r47, q47, h⟩ := bd h
            refine k_callV (nC := 2) [oX2 a r47.2.1 r47.2.2, ar cI (a 1) 200 r47.1] C hl.1 (tX2_put (a := a) q47) mL_X2_45 mmX2_put rfl rfl ⟨Nat.le_of_ble_eq_true rfl, Nat.le_of_ble_eq_true rfl⟩ rfl rfl rfl rfl (Nat.le_of_ble_eq_true rfl) hA hw [0, 1] [] rfl (by decide +kernel) rfl rfl rfl rfl dX2_putNumber_47 (fun H locs hw47 => ?_)
            refine lv_iload_n hx hb dX2_putNumber_50 rfl (lv_at hl 4 rfl) ?_
            refine lv_bipush (v := 10) hx hb dX2_putNumber_51 (by decide) ?_
            obtain ⟨z53, q53, h⟩ := bd h
            refine k_idiv C q53 dX2_putNumber_53 ?_
            refine lv_istore_n (lv' := [(3, .int z53), (2, .int 1), (4, .int z14), (0, .ref (a 0)), (1, .int x1)]) hx hb dX2_putNumber_54 rfl hl (by decide) rfl (fun ls hl => ?_)
            refine lv_goto (tgt := 5) hx hb dX2_putNumber_55 (by decide) ?_
            exact ih _ _ _ _ _ _ _ _ hw47 (lv_sub hl [3, 4, 1, 0] rfl) h
        · replace h := br_t' h c23
          refine lv_iload_n hx hb dX2_putNumber_26 rfl (lv_at hl 4 rfl) ?_
          refine lv_iconst (v := 1) hx hb dX2_putNumber_27 (by decide) ?_
          refine lv_icmp_ne (tgt := 35) hx hb dX2_putNumber_28 (by decide) (fun c28 => ?_) (fun c28 => ?_)
          · replace h := br_f' h c28
            refine lv_iconst (v := 0) hx hb dX2_putNumber_35 (by decide) ?_
            refine lv_istore_n (lv' := [(2, .int 0), (4, .int z14), (0, .ref (a 0)), (1, .int x1), (3, .int x3)]) hx hb dX2_putNumber_36 rfl hl (by decide) rfl (fun ls hl => ?_)
            refine lv_iload_n hx hb dX2_putNumber_37 rfl (lv_at hl 0 rfl) ?_
            refine lv_if_eq (tgt := 50) hx hb dX2_putNumber_38 (by decide) (fun c38 => ?_) (fun c38 => ?_)
            · replace h := br_t' h c38
              refine lv_iload_n hx hb dX2_putNumber_50 rfl (lv_at hl 4 rfl) ?_
              refine lv_bipush (v := 10) hx hb dX2_putNumber_51 (by decide) ?_
              obtain ⟨z53, q53, h⟩ := bd h
              refine k_idiv C q53 dX2_putNumber_53 ?_
              refine lv_istore_n (lv' := [(3, .int z53), (2, .int 0), (4, .int z14), (0, .ref (a 0)), (1, .int x1)]) hx hb dX2_putNumber_54 rfl hl (by decide) rfl (fun ls hl => ?_)
              refine lv_goto (tgt := 5) hx hb dX2_putNumber_55 (by decide) ?_
              exact ih _ _ _ _ _ _ _ _ hw (lv_sub hl [3, 4, 1, 0] rfl) h
            · replace h := br_f' h c38
              refine lv_aload_n hx hb dX2_putNumber_41 rfl (lv_at hl 2 rfl) ?_
              refine lv_bipush (v := 48) hx hb dX2_putNumber_42 (by decide) ?_
              refine lv_iload hx hb dX2_putNumber_44 (lv_at hl 1 rfl) ?_
              refine lv_iadd hx hb dX2_putNumber_46 ?_
              obtain ⟨r47, q47, h⟩ := bd h
              refine k_callV (nC := 2) [oX2 a r47.2.1 r47.2.2, ar cI (a 1) 200 r47.1] C hl.1 (tX2_put (a := a) q47) mL_X2_45 mmX2_put rfl rfl ⟨Nat.le_of_ble_eq_true rfl, Nat.le_of_ble_eq_true rfl⟩ rfl rfl rfl rfl (Nat.le_of_ble_eq_true rfl) hA hw [0, 1] [] rfl (by decide +kernel) rfl rfl rfl rfl dX2_putNumber_47 (fun H locs hw47 => ?_)
              refine lv_iload_n hx hb dX2_putNumber_50 rfl (lv_at hl 4 rfl) ?_
              refine lv_bipush (v := 10) hx hb dX2_putNumber_51 (by decide) ?_
              obtain ⟨z53, q53, h⟩ := bd h
              refine k_idiv C q53 dX2_putNumber_53 ?_
              refine lv_istore_n (lv' := [(3, .int z53), (2, .int 0), (4, .int z14), (0, .ref (a 0)), (1, .int x1)]) hx hb dX2_putNumber_54 rfl hl (by decide) rfl (fun ls hl => ?_)
              refine lv_goto (tgt := 5) hx hb dX2_putNumber_55 (by decide) ?_
              exact ih _ _ _ _ _ _ _ _ hw47 (lv_sub hl [3, 4, 1, 0] rfl) h
          · replace h := br_t' h c28
            refine lv_iconst (v := 1) hx hb dX2_putNumber_31 (by decide) ?_
            refine lv_goto (tgt := 36) hx hb dX2_putNumber_32 (by decide) ?_
            refine lv_istore_n (lv' := [(2, .int 1), (4, .int z14), (0, .ref (a 0)), (1, .int x1), (3, .int x3)]) hx hb dX2_putNumber_36 rfl hl (by decide) rfl (fun ls hl => ?_)
            refine lv_iload_n hx hb dX2_putNumber_37 rfl (lv_at hl 0 rfl) ?_
            refine lv_if_eq (tgt := 50) hx hb dX2_putNumber_38 (by decide) (fun c38 => ?_) (fun c38 => ?_)
            · replace h := br_t' h c38
              refine lv_iload_n hx hb dX2_putNumber_50 rfl (lv_at hl 4 rfl) ?_
              refine lv_bipush (v := 10) hx hb dX2_putNumber_51 (by decide) ?_
              obtain ⟨z53, q53, h⟩ := bd h
              refine k_idiv C q53 dX2_putNumber_53 ?_
              refine lv_istore_n (lv' := [(3, .int z53), (2, .int 1), (4, .int z14), (0, .ref (a 0)), (1, .int x1)]) hx hb dX2_putNumber_54 rfl hl (by decide) rfl (fun ls hl => ?_)
              refine lv_goto (tgt := 5) hx hb dX2_putNumber_55 (by decide) ?_
              exact ih _ _ _ _ _ _ _ _ hw (lv_sub hl [3, 4, 1, 0] rfl) h
            · replace h := br_f' h c38
              refine lv_aload_n hx hb dX2_putNumber_41 rfl (lv_at hl 2 rfl) ?_
              refine lv_bipush (v := 48) hx hb dX2_putNumber_42 (by decide) ?_
              refine lv_iload hx hb dX2_putNumber_44 (lv_at hl 1 rfl) ?_
              refine lv_iadd hx hb dX2_putNumber_46 ?_
              obtain ⟨r47, q47, h⟩ := bd h
              refine k_callV (nC := 2) [oX2 a r47.2.1 r47.2.2, ar cI (a 1) 200 r47.1] C hl.1 (tX2_put (a := a) q47) mL_X2_45 mmX2_put rfl rfl ⟨Nat.le_of_ble_eq_true rfl, Nat.le_of_ble_eq_true rfl⟩ rfl rfl rfl rfl (Nat.le_of_ble_eq_true rfl) hA hw [0, 1] [] rfl (by decide +kernel) rfl rfl rfl rfl dX2_putNumber_47 (fun H locs hw47 => ?_)
              refine lv_iload_n hx hb dX2_putNumber_50 rfl (lv_at hl 4 rfl) ?_
              refine lv_bipush (v := 10) hx hb dX2_putNumber_51 (by decide) ?_
              obtain ⟨z53, q53, h⟩ := bd h
              refine k_idiv C q53 dX2_putNumber_53 ?_
              refine lv_istore_n (lv' := [(3, .int z53), (2, .int 1), (4, .int z14), (0, .ref (a 0)), (1, .int x1)]) hx hb dX2_putNumber_54 rfl hl (by decide) rfl (fun ls hl => ?_)
              refine lv_goto (tgt := 5) hx hb dX2_putNumber_55 (by decide) ?_
              exact ih _ _ _ _ _ _ _ _ hw47 (lv_sub hl [3, 4, 1, 0] rfl) h
def fX2_putNumber (g_signs : Nat → Int32) (g_length : Int32) (g_latest : Int32) (x1 : Int32) : Option ((Nat → Int32) × Int32 × Int32) :=
  fX2_putNumber_5 x1 FU (fun x2_5 x3_5 g_signs_5 g_length_5 g_latest_5 =>
    some (g_signs_5, g_length_5, g_latest_5)) 0 1000000000 g_signs g_length g_latest
set_option maxRecDepth 100000 in
set_option maxHeartbeats 4000000 in
theorem tX2_putNumber {l : Launch} {D : va_G} {cI : ClassId} {cS : GS} {a : Nat → Nat} {g_signs : Nat → Int32} {g_length : Int32} {g_latest : Int32} {x1 : Int32} {s0 : (Nat → Int32)} {s1 : Int32} {s2 : Int32} (h : fX2_putNumber g_signs g_length g_latest x1 = some (s0, s1, s2)) : CT l D cI cS yX2_putNumber cX2_putNumber 5 none rmX2_putNumber [.ref (a 0), .int x1] [oX2 a g_length g_latest, ar cI (a 1) 200 g_signs] none [oX2 a s1 s2, ar cI (a 1) 200 s0] := by
  refine CT.of RX2 (by decide) rfl (Nat.le_of_ble_eq_true rfl) (fun p e s m below meth c ls A C hA hl hw => ?_)
  have hx := C.1.1
  have hb := C.1.2.1
  have hl : lv_has ls 5 [(0, .ref (a 0)), (1, .int x1)] := hl
  unfold fX2_putNumber at h
  refine lv_iconst (v := 0) hx hb dX2_putNumber_0 (by decide) ?_
  refine lv_istore_n (lv' := [(2, .int 0), (0, .ref (a 0)), (1, .int x1)]) hx hb dX2_putNumber_1 rfl hl (by decide) rfl (fun ls hl => ?_)
  refine k_ldc C mC_X2_107 dX2_putNumber_2 ?_
  refine lv_istore_n (lv' := [(3, .int 1000000000), (2, .int 0), (0, .ref (a 0)), (1, .int x1)]) hx hb dX2_putNumber_4 rfl hl (by decide) rfl (fun ls hl => ?_)
  refine wX2_putNumber_5 C hA _ (fun x2_5 x3_5 g_signs_5 g_length_5 g_latest_5 H locs ls hw5x hl h => ?_) FU _ _ _ _ _ _ _ _ hw (lv_sub hl [2, 3, 1, 0] rfl) h
  cases h
  exact k_vret C hw5x dX2_putNumber_58
def rmX2_putRange : Room := { frames := 2, cells := 0, slots := 0, locals := 45 }
def fX2_putRange (g_signs : Nat → Int32) (g_length : Int32) (g_latest : Int32) (x1 : Int32) (x2 : Int32) : Option ((Nat → Int32) × Int32 × Int32) :=
  if g_latest = 58 then
    (fX2_putNumber g_signs g_length g_latest x1).bind fun r17 =>
    if x2 ≤ x1 then
      some (r17.1, r17.2.1, r17.2.2)
    else
      (fX2_put r17.1 r17.2.1 r17.2.2 45).bind fun r28 =>
      (fX2_putNumber r28.1 r28.2.1 r28.2.2 x2).bind fun r33 =>
      some (r33.1, r33.2.1, r33.2.2)
  else
    (fX2_put g_signs g_length g_latest 44).bind fun r12 =>
    (fX2_putNumber r12.1 r12.2.1 r12.2.2 x1).bind fun r17 =>
    if x2 ≤ x1 then
      some (r17.1, r17.2.1, r17.2.2)
    else
      (fX2_put r17.1 r17.2.1 r17.2.2 45).bind fun r28 =>
      (fX2_putNumber r28.1 r28.2.1 r28.2.2 x2).bind fun r33 =>
      some (r33.1, r33.2.1, r33.2.2)
set_option maxRecDepth 100000 in
set_option maxHeartbeats 4000000 in
theorem tX2_putRange {l : Launch} {D : va_G} {cI : ClassId} {cS : GS} {a : Nat → Nat} {g_signs : Nat → Int32} {g_length : Int32} {g_latest : Int32} {x1 : Int32} {x2 : Int32} {s0 : (Nat → Int32)} {s1 : Int32} {s2 : Int32} (h : fX2_putRange g_signs g_length g_latest x1 x2 = some (s0, s1, s2)) : CT l D cI cS yX2_putRange cX2_putRange 3 none rmX2_putRange [.ref (a 0), .int x1, .int x2] [oX2 a g_length g_latest, ar cI (a 1) 200 g_signs] none [oX2 a s1 s2, ar cI (a 1) 200 s0] := by
  refine CT.of RX2 (by decide) rfl (Nat.le_of_ble_eq_true rfl) (fun p e s m below meth c ls A C hA hl hw => ?_)
  have hx := C.1.1
  have hb := C.1.2.1
  have hl : lv_has ls 3 [(0, .ref (a 0)), (1, .int x1), (2, .int x2)] := hl
  unfold fX2_putRange at h
  refine lv_aload_n hx hb dX2_putRange_0 rfl (lv_at hl 0 rfl) ?_
  refine k_get C inT_X2 hw 0 rfl rfl 2 (by decide) mF_X2_19 rfl dX2_putRange_1 ?_
  refine lv_bipush (v := 58) hx hb dX2_putRange_4 (by decide) ?_
  refine lv_icmp_eq (tgt := 15) hx hb dX2_putRange_6 (by decide) (fun c6 => ?_) (fun c6 => ?_)
  · replace h := br_t' h c6
    refine lv_aload_n hx hb dX2_putRange_15 rfl (lv_at hl 0 rfl) ?_
    refine lv_iload_n hx hb dX2_putRange_16 rfl (lv_at hl 1 rfl) ?_
    obtain ⟨r17, q17, h⟩ := bd h
    refine k_callV (nC := 2) [oX2 a r17.2.1 r17.2.2, ar cI (a 1) 200 r17.1] C hl.1 (tX2_putNumber (a := a) q17) mL_X2_49 mmX2_putNumber rfl rfl ⟨Nat.le_of_ble_eq_true rfl, Nat.le_of_ble_eq_true rfl⟩ rfl rfl rfl rfl (Nat.le_of_ble_eq_true rfl) hA hw [0, 1] [] rfl (by decide +kernel) rfl rfl rfl rfl dX2_putRange_17 (fun H locs hw17 => ?_)
    refine lv_iload_n hx hb dX2_putRange_20 rfl (lv_at hl 2 rfl) ?_
    refine lv_iload_n hx hb dX2_putRange_21 rfl (lv_at hl 1 rfl) ?_
    refine lv_icmp_le (tgt := 36) hx hb dX2_putRange_22 (by decide) (fun c22 => ?_) (fun c22 => ?_)
    · replace h := br_t' h c22
      cases h
      exact k_vret C hw17 dX2_putRange_36
    · replace h := br_f' h c22
      refine lv_aload_n hx hb dX2_putRange_25 rfl (lv_at hl 0 rfl) ?_
      refine lv_bipush (v := 45) hx hb dX2_putRange_26 (by decide) ?_
      obtain ⟨r28, q28, h⟩ := bd h
      refine k_callV (nC := 2) [oX2 a r28.2.1 r28.2.2, ar cI (a 1) 200 r28.1] C hl.1 (tX2_put (a := a) q28) mL_X2_45 mmX2_put rfl rfl ⟨Nat.le_of_ble_eq_true rfl, Nat.le_of_ble_eq_true rfl⟩ rfl rfl rfl rfl (Nat.le_of_ble_eq_true rfl) hA hw17 [0, 1] [] rfl (by decide +kernel) rfl rfl rfl rfl dX2_putRange_28 (fun H locs hw28 => ?_)
      refine lv_aload_n hx hb dX2_putRange_31 rfl (lv_at hl 0 rfl) ?_
      refine lv_iload_n hx hb dX2_putRange_32 rfl (lv_at hl 2 rfl) ?_
      obtain ⟨r33, q33, h⟩ := bd h
      refine k_callV (nC := 2) [oX2 a r33.2.1 r33.2.2, ar cI (a 1) 200 r33.1] C hl.1 (tX2_putNumber (a := a) q33) mL_X2_49 mmX2_putNumber rfl rfl ⟨Nat.le_of_ble_eq_true rfl, Nat.le_of_ble_eq_true rfl⟩ rfl rfl rfl rfl (Nat.le_of_ble_eq_true rfl) hA hw28 [0, 1] [] rfl (by decide +kernel) rfl rfl rfl rfl dX2_putRange_33 (fun H locs hw33 => ?_)
      cases h
      exact k_vret C hw33 dX2_putRange_36
  · replace h := br_f' h c6
    refine lv_aload_n hx hb dX2_putRange_9 rfl (lv_at hl 0 rfl) ?_
    refine lv_bipush (v := 44) hx hb dX2_putRange_10 (by decide) ?_
    obtain ⟨r12, q12, h⟩ := bd h
    refine k_callV (nC := 2) [oX2 a r12.2.1 r12.2.2, ar cI (a 1) 200 r12.1] C hl.1 (tX2_put (a := a) q12) mL_X2_45 mmX2_put rfl rfl ⟨Nat.le_of_ble_eq_true rfl, Nat.le_of_ble_eq_true rfl⟩ rfl rfl rfl rfl (Nat.le_of_ble_eq_true rfl) hA hw [0, 1] [] rfl (by decide +kernel) rfl rfl rfl rfl dX2_putRange_12 (fun H locs hw12 => ?_)
    refine lv_aload_n hx hb dX2_putRange_15 rfl (lv_at hl 0 rfl) ?_
    refine lv_iload_n hx hb dX2_putRange_16 rfl (lv_at hl 1 rfl) ?_
    obtain ⟨r17, q17, h⟩ := bd h
    refine k_callV (nC := 2) [oX2 a r17.2.1 r17.2.2, ar cI (a 1) 200 r17.1] C hl.1 (tX2_putNumber (a := a) q17) mL_X2_49 mmX2_putNumber rfl rfl ⟨Nat.le_of_ble_eq_true rfl, Nat.le_of_ble_eq_true rfl⟩ rfl rfl rfl rfl (Nat.le_of_ble_eq_true rfl) hA hw12 [0, 1] [] rfl (by decide +kernel) rfl rfl rfl rfl dX2_putRange_17 (fun H locs hw17 => ?_)
    refine lv_iload_n hx hb dX2_putRange_20 rfl (lv_at hl 2 rfl) ?_
    refine lv_iload_n hx hb dX2_putRange_21 rfl (lv_at hl 1 rfl) ?_
    refine lv_icmp_le (tgt := 36) hx hb dX2_putRange_22 (by decide) (fun c22 => ?_) (fun c22 => ?_)
    · replace h := br_t' h c22
      cases h
      exact k_vret C hw17 dX2_putRange_36
    · replace h := br_f' h c22
      refine lv_aload_n hx hb dX2_putRange_25 rfl (lv_at hl 0 rfl) ?_
      refine lv_bipush (v := 45) hx hb dX2_putRange_26 (by decide) ?_
      obtain ⟨r28, q28, h⟩ := bd h
      refine k_callV (nC := 2) [oX2 a r28.2.1 r28.2.2, ar cI (a 1) 200 r28.1] C hl.1 (tX2_put (a := a) q28) mL_X2_45 mmX2_put rfl rfl ⟨Nat.le_of_ble_eq_true rfl, Nat.le_of_ble_eq_true rfl⟩ rfl rfl rfl rfl (Nat.le_of_ble_eq_true rfl) hA hw17 [0, 1] [] rfl (by decide +kernel) rfl rfl rfl rfl dX2_putRange_28 (fun H locs hw28 => ?_)
      refine lv_aload_n hx hb dX2_putRange_31 rfl (lv_at hl 0 rfl) ?_
      refine lv_iload_n hx hb dX2_putRange_32 rfl (lv_at hl 2 rfl) ?_
      obtain ⟨r33, q33, h⟩ := bd h
      refine k_callV (nC := 2) [oX2 a r33.2.1 r33.2.2, ar cI (a 1) 200 r33.1] C hl.1 (tX2_putNumber (a := a) q33) mL_X2_49 mmX2_putNumber rfl rfl ⟨Nat.le_of_ble_eq_true rfl, Nat.le_of_ble_eq_true rfl⟩ rfl rfl rfl rfl (Nat.le_of_ble_eq_true rfl) hA hw28 [0, 1] [] rfl (by decide +kernel) rfl rfl rfl rfl dX2_putRange_33 (fun H locs hw33 => ?_)
      cases h
      exact k_vret C hw33 dX2_putRange_36
def rmX2_writeOwn : Room := { frames := 3, cells := 0, slots := 0, locals := 67 }
def fX2_writeOwn_11 (Np1 : Nat) (v_p1 : Rg) (x2 : Int32) (x4 : Int32) : (n : Nat) → (k : Int32 → Int32 → (Nat → Int32) → Int32 → Int32 → Option ((Nat → Int32) × Int32 × Int32)) → Int32 → Int32 → (Nat → Int32) → Int32 → Int32 → Option ((Nat → Int32) × Int32 × Int32)
  | 0, _, _, _, _, _, _ => none
  | n + 1, k, x5, x6, g_signs, g_length, g_latest =>
    (fX4_size Np1 v_p1).bind fun r14 =>
    if r14 < x6 then
      k x5 x6 g_signs g_length g_latest
    else
      if x4 < x5 then
        k x5 x6 g_signs g_length g_latest
      else
        (fX4_bareTo Np1 v_p1 x2 x5 x4).bind fun r33 =>
        (fX2_putRange g_signs g_length g_latest x5 r33).bind fun r43 =>
        (fX4_bareFrom Np1 v_p1 x2 (r33 + 1)).bind fun r52 =>
        fX2_writeOwn_11 Np1 v_p1 x2 x4 n k r52 (x6 + 1) r43.1 r43.2.1 r43.2.2
set_option maxRecDepth 100000 in
set_option maxHeartbeats 4000000 in
theorem wX2_writeOwn_11 {p : Program} {l : Launch} {e : Env} {s : State} {m : MethodId} {args : Array Value} {below : List Frame} {meth : Method} {c : Code} {D : va_G} {cI : ClassId} {cS : GS} {A : Nat → Prop} {a : Nat → Nat} {a_p1 : Nat → Nat} {Np1 : Nat} {v_p1 : Rg} {x2 : Int32} {x4 : Int32} (C : MC p s m args meth c D cI cS A RX2 cX2_writeOwn 8 none) (hA : ∀ q, s.heap.size ≤ q → A q) {s0 : (Nat → Int32)} {s1 : Int32} {s2 : Int32} (k : Int32 → Int32 → (Nat → Int32) → Int32 → Int32 → Option ((Nat → Int32) × Int32 × Int32)) (hk : ∀ (x5 : Int32) (x6 : Int32) (g_signs : Nat → Int32) (g_length : Int32) (g_latest : Int32) (H : Heap) (locs : List Loc) (ls : Array Slot), Wd D A s.heap H locs [oX2 a g_length g_latest, ar cI (a 1) 200 g_signs, cR cI a_p1 Np1 v_p1] → lv_has ls 8 [(0, .ref (a 0)), (1, .ref (a_p1 0)), (2, .int x2), (4, .int x4), (5, .int x5), (6, .int x6)] → k x5 x6 g_signs g_length g_latest = some (s0, s1, s2) → W p l e rmX2_writeOwn s m args below meth c H locs 0 0 (KQ D A below args s none [oX2 a s1 s2, ar cI (a 1) 200 s0, cR cI a_p1 Np1 v_p1]) (F0 m 63 ls [])) :
    ∀ (n : Nat) (x5 : Int32) (x6 : Int32) (g_signs : Nat → Int32) (g_length : Int32) (g_latest : Int32) (H : Heap) (locs : List Loc) (ls : Array Slot), Wd D A s.heap H locs [oX2 a g_length g_latest, ar cI (a 1) 200 g_signs, cR cI a_p1 Np1 v_p1] → lv_has ls 8 [(0, .ref (a 0)), (1, .ref (a_p1 0)), (2, .int x2), (4, .int x4), (5, .int x5), (6, .int x6)] → fX2_writeOwn_11 Np1 v_p1 x2 x4 n k x5 x6 g_signs g_length g_latest = some (s0, s1, s2) → W p l e rmX2_writeOwn s m args below meth c H locs 0 0 (KQ D A below args s none [oX2 a s1 s2, ar cI (a 1) 200 s0, cR cI a_p1 Np1 v_p1]) (F0 m 11 ls []) := by
  have hx := C.1.1
  have hb := C.1.2.1
  intro n
  induction n with
  | zero =>
    intro x5 x6 g_signs g_length g_latest H locs ls hw hl h
    rw [fX2_writeOwn_11] at h
    cases h
  | succ n ih =>
    intro x5 x6 g_signs g_length g_latest H locs ls hw hl h
    rw [fX2_writeOwn_11] at h
    refine lv_iload hx hb dX2_writeOwn_11 (lv_at hl 5 rfl) ?_
    refine lv_aload_n hx hb dX2_writeOwn_13 rfl (lv_at hl 1 rfl) ?_
    obtain ⟨r14, q14, h⟩ := bd h
    refine k_callV (nC := 3) [oX2 a g_length g_latest, ar cI (a 1) 200 g_signs, cR cI a_p1 Np1 v_p1] C hl.1 (tX4_size (a := a_p1) q14) mL_X2_63 mmX4_size rfl rfl ⟨Nat.le_of_ble_eq_true rfl, Nat.le_of_ble_eq_true rfl⟩ rfl rfl rfl rfl (Nat.le_of_ble_eq_true rfl) hA hw [2] [0, 1] rfl (by decide +kernel) rfl rfl rfl rfl dX2_writeOwn_14 (fun H locs hw14 => ?_)
    refine lv_icmp_gt (tgt := 63) hx hb dX2_writeOwn_17 (by decide) (fun c17 => ?_) (fun c17 => ?_)
    · replace h := br_t' h c17
      exact hk _ _ _ _ _ _ _ _ hw14 (lv_sub hl [0, 1, 2, 3, 4, 5] rfl) h
    · replace h := br_f' h c17
      refine lv_iload hx hb dX2_writeOwn_20 (lv_at hl 4 rfl) ?_
      refine lv_iload hx hb dX2_writeOwn_22 (lv_at hl 3 rfl) ?_
      refine lv_icmp_gt (tgt := 63) hx hb dX2_writeOwn_24 (by decide) (fun c24 => ?_) (fun c24 => ?_)
      · replace h := br_t' h c24
        exact hk _ _ _ _ _ _ _ _ hw14 (lv_sub hl [0, 1, 2, 3, 4, 5] rfl) h
      · replace h := br_f' h c24
        refine lv_aload_n hx hb dX2_writeOwn_27 rfl (lv_at hl 1 rfl) ?_
        refine lv_iload_n hx hb dX2_writeOwn_28 rfl (lv_at hl 2 rfl) ?_
        refine lv_iload hx hb dX2_writeOwn_29 (lv_at hl 4 rfl) ?_
        refine lv_iload hx hb dX2_writeOwn_31 (lv_at hl 3 rfl) ?_
        obtain ⟨r33, q33, h⟩ := bd h
        refine k_callV (nC := 3) [oX2 a g_length g_latest, ar cI (a 1) 200 g_signs, cR cI a_p1 Np1 v_p1] C hl.1 (tX4_bareTo (a := a_p1) q33) mL_X2_99 mmX4_bareTo rfl rfl ⟨Nat.le_of_ble_eq_true rfl, Nat.le_of_ble_eq_true rfl⟩ rfl rfl rfl rfl (Nat.le_of_ble_eq_true rfl) hA hw14 [2] [0, 1] rfl (by decide +kernel) rfl rfl rfl rfl dX2_writeOwn_33 (fun H locs hw33 => ?_)
        refine lv_istore (lv' := [(7, .int r33), (0, .ref (a 0)), (1, .ref (a_p1 0)), (2, .int x2), (4, .int x4), (5, .int x5), (6, .int x6)]) hx hb dX2_writeOwn_36 hl (by decide) rfl (fun ls hl => ?_)
        refine lv_aload_n hx hb dX2_writeOwn_38 rfl (lv_at hl 1 rfl) ?_
        refine lv_iload hx hb dX2_writeOwn_39 (lv_at hl 5 rfl) ?_
        refine lv_iload hx hb dX2_writeOwn_41 (lv_at hl 0 rfl) ?_
        obtain ⟨r43, q43, h⟩ := bd h
        refine k_callV (nC := 3) [oX2 a r43.2.1 r43.2.2, ar cI (a 1) 200 r43.1, cR cI a_p1 Np1 v_p1] C hl.1 (tX2_putRange (a := a) q43) mL_X2_103 mmX2_putRange rfl rfl ⟨Nat.le_of_ble_eq_true rfl, Nat.le_of_ble_eq_true rfl⟩ rfl rfl rfl rfl (Nat.le_of_ble_eq_true rfl) hA hw33 [0, 1] [2] rfl (by decide +kernel) rfl rfl rfl rfl dX2_writeOwn_43 (fun H locs hw43 => ?_)
        refine lv_aload_n hx hb dX2_writeOwn_46 rfl (lv_at hl 2 rfl) ?_
        refine lv_iload_n hx hb dX2_writeOwn_47 rfl (lv_at hl 3 rfl) ?_
        refine lv_iload hx hb dX2_writeOwn_48 (lv_at hl 0 rfl) ?_
        refine lv_iconst (v := 1) hx hb dX2_writeOwn_50 (by decide) ?_
        refine lv_iadd hx hb dX2_writeOwn_51 ?_
        obtain ⟨r52, q52, h⟩ := bd h
        refine k_callV (nC := 3) [oX2 a r43.2.1 r43.2.2, ar cI (a 1) 200 r43.1, cR cI a_p1 Np1 v_p1] C hl.1 (tX4_bareFrom (a := a_p1) q52) mL_X2_96 mmX4_bareFrom rfl rfl ⟨Nat.le_of_ble_eq_true rfl, Nat.le_of_ble_eq_true rfl⟩ rfl rfl rfl rfl (Nat.le_of_ble_eq_true rfl) hA hw43 [2] [0, 1] rfl (by decide +kernel) rfl rfl rfl rfl dX2_writeOwn_52 (fun H locs hw52 => ?_)
        refine lv_istore (lv' := [(5, .int r52), (7, .int r33), (0, .ref (a 0)), (1, .ref (a_p1 0)), (2, .int x2), (4, .int x4), (6, .int x6)]) hx hb dX2_writeOwn_55 hl (by decide) rfl (fun ls hl => ?_)
        refine lv_iinc (v := (x6 + 1)) (lv' := [(6, .int (x6 + 1)), (5, .int r52), (7, .int r33), (0, .ref (a 0)), (1, .ref (a_p1 0)), (2, .int x2), (4, .int x4)]) hx hb dX2_writeOwn_57 hl (k := 6) rfl rfl (by decide) rfl (fun ls hl => ?_)
        refine lv_goto (tgt := 11) hx hb dX2_writeOwn_60 (by decide) ?_
        exact ih _ _ _ _ _ _ _ _ hw52 (lv_sub hl [3, 4, 5, 6, 1, 0] rfl) h
def fX2_writeOwn (Np1 : Nat) (g_signs : Nat → Int32) (g_length : Int32) (g_latest : Int32) (v_p1 : Rg) (x2 : Int32) (x3 : Int32) (x4 : Int32) : Option ((Nat → Int32) × Int32 × Int32) :=
  (fX4_bareFrom Np1 v_p1 x2 x3).bind fun r3 =>
  fX2_writeOwn_11 Np1 v_p1 x2 x4 FU (fun x5_11 x6_11 g_signs_11 g_length_11 g_latest_11 =>
    some (g_signs_11, g_length_11, g_latest_11)) r3 0 g_signs g_length g_latest
set_option maxRecDepth 100000 in
set_option maxHeartbeats 4000000 in
theorem tX2_writeOwn {l : Launch} {D : va_G} {cI : ClassId} {cS : GS} {a : Nat → Nat} {a_p1 : Nat → Nat} {Np1 : Nat} {g_signs : Nat → Int32} {g_length : Int32} {g_latest : Int32} {v_p1 : Rg} {x2 : Int32} {x3 : Int32} {x4 : Int32} {s0 : (Nat → Int32)} {s1 : Int32} {s2 : Int32} (h : fX2_writeOwn Np1 g_signs g_length g_latest v_p1 x2 x3 x4 = some (s0, s1, s2)) : CT l D cI cS yX2_writeOwn cX2_writeOwn 8 none rmX2_writeOwn [.ref (a 0), .ref (a_p1 0), .int x2, .int x3, .int x4] [oX2 a g_length g_latest, ar cI (a 1) 200 g_signs, cR cI a_p1 Np1 v_p1] none [oX2 a s1 s2, ar cI (a 1) 200 s0, cR cI a_p1 Np1 v_p1] := by
  refine CT.of RX2 (by decide) rfl (Nat.le_of_ble_eq_true rfl) (fun p e s m below meth c ls A C hA hl hw => ?_)
  have hx := C.1.1
  have hb := C.1.2.1
  have hl : lv_has ls 8 [(0, .ref (a 0)), (1, .ref (a_p1 0)), (2, .int x2), (3, .int x3), (4, .int x4)] := hl
  unfold fX2_writeOwn at h
  refine lv_aload_n hx hb dX2_writeOwn_0 rfl (lv_at hl 1 rfl) ?_
  refine lv_iload_n hx hb dX2_writeOwn_1 rfl (lv_at hl 2 rfl) ?_
  refine lv_iload_n hx hb dX2_writeOwn_2 rfl (lv_at hl 3 rfl) ?_
  obtain ⟨r3, q3, h⟩ := bd h
  refine k_callV (nC := 3) [oX2 a g_length g_latest, ar cI (a 1) 200 g_signs, cR cI a_p1 Np1 v_p1] C hl.1 (tX4_bareFrom (a := a_p1) q3) mL_X2_96 mmX4_bareFrom rfl rfl ⟨Nat.le_of_ble_eq_true rfl, Nat.le_of_ble_eq_true rfl⟩ rfl rfl rfl rfl (Nat.le_of_ble_eq_true rfl) hA hw [2] [0, 1] rfl (by decide +kernel) rfl rfl rfl rfl dX2_writeOwn_3 (fun H locs hw3 => ?_)
  refine lv_istore (lv' := [(5, .int r3), (0, .ref (a 0)), (1, .ref (a_p1 0)), (2, .int x2), (3, .int x3), (4, .int x4)]) hx hb dX2_writeOwn_6 hl (by decide) rfl (fun ls hl => ?_)
  refine lv_iconst (v := 0) hx hb dX2_writeOwn_8 (by decide) ?_
  refine lv_istore (lv' := [(6, .int 0), (5, .int r3), (0, .ref (a 0)), (1, .ref (a_p1 0)), (2, .int x2), (3, .int x3), (4, .int x4)]) hx hb dX2_writeOwn_9 hl (by decide) rfl (fun ls hl => ?_)
  refine wX2_writeOwn_11 C hA _ (fun x5_11 x6_11 g_signs_11 g_length_11 g_latest_11 H locs ls hw11x hl h => ?_) FU _ _ _ _ _ _ _ _ hw3 (lv_sub hl [2, 3, 4, 6, 1, 0] rfl) h
  cases h
  exact k_vret C hw11x dX2_writeOwn_63
def rmX2_writePart : Room := { frames := 4, cells := 0, slots := 0, locals := 94 }
def fX2_writePart_71 (v_p1_series : Rg) (v_p1_pieces : Rg) (x2 : Int32) (x3 : Int32) (x4 : Int32) (x5 : Int32) : (n : Nat) → (k : Int32 → (Nat → Int32) → Int32 → Int32 → Option ((Nat → Int32) × Int32 × Int32)) → Int32 → (Nat → Int32) → Int32 → Int32 → Option ((Nat → Int32) × Int32 × Int32)
  | 0, _, _, _, _, _ => none
  | n + 1, k, x7, g_signs, g_length, g_latest =>
    (fX4_size 42 v_p1_pieces).bind fun r75 =>
    if r75 ≤ x7 then
      k x7 g_signs g_length g_latest
    else
      (fX4_markOf 42 v_p1_pieces x7).bind fun r85 =>
      if r85 = x3 then
        (fX4_meets 42 v_p1_pieces x7 x4 x5).bind fun r100 =>
        if r100 = 0 then
          fX2_writePart_71 v_p1_series v_p1_pieces x2 x3 x4 x5 n k (x7 + 1) g_signs g_length g_latest
        else
          (fX4_firstOf 42 v_p1_pieces x7).bind fun r110 =>
          (fX4_lastOf 42 v_p1_pieces x7).bind fun r124 =>
          (fX0_allSeries).bind fun r136 =>
          (fX2_writeOwn 10 g_signs g_length g_latest v_p1_series x2 (imax r110 x4) (imin r124 x5)).bind fun r144 =>
          fX2_writePart_71 v_p1_series v_p1_pieces x2 x3 x4 x5 n k (x7 + 1) r144.1 r144.2.1 r144.2.2
      else
        fX2_writePart_71 v_p1_series v_p1_pieces x2 x3 x4 x5 n k (x7 + 1) g_signs g_length g_latest
set_option maxRecDepth 100000 in
set_option maxHeartbeats 4000000 in
theorem wX2_writePart_71 {p : Program} {l : Launch} {e : Env} {s : State} {m : MethodId} {args : Array Value} {below : List Frame} {meth : Method} {c : Code} {D : va_G} {cI : ClassId} {cS : GS} {A : Nat → Prop} {a : Nat → Nat} {a_p1 : Nat → Nat} {a_p1_series : Nat → Nat} {a_p1_pieces : Nat → Nat} {a_p1_trial : Nat → Nat} {a_p1_moves : Nat → Nat} {g_p1_day : Int32} {v_p1_series : Rg} {v_p1_pieces : Rg} {x2 : Int32} {x3 : Int32} {x4 : Int32} {x5 : Int32} (C : MC p s m args meth c D cI cS A RX2 cX2_writePart 10 none) (hA : ∀ q, s.heap.size ≤ q → A q) {s0 : (Nat → Int32)} {s1 : Int32} {s2 : Int32} (k : Int32 → (Nat → Int32) → Int32 → Int32 → Option ((Nat → Int32) × Int32 × Int32)) (hk : ∀ (x7 : Int32) (g_signs : Nat → Int32) (g_length : Int32) (g_latest : Int32) (H : Heap) (locs : List Loc) (ls : Array Slot), Wd D A s.heap H locs [oX2 a g_length g_latest, ar cI (a 1) 200 g_signs, oX0 a_p1 a_p1_series a_p1_pieces a_p1_trial a_p1_moves g_p1_day, cR cI a_p1_series 10 v_p1_series, cR cI a_p1_pieces 42 v_p1_pieces] → lv_has ls 10 [(0, .ref (a 0)), (1, .ref (a_p1 0)), (2, .int x2), (3, .int x3), (4, .int x4), (5, .int x5), (6, .ref (a_p1_pieces 0)), (7, .int x7)] → k x7 g_signs g_length g_latest = some (s0, s1, s2) → W p l e rmX2_writePart s m args below meth c H locs 0 0 (KQ D A below args s none [oX2 a s1 s2, ar cI (a 1) 200 s0, oX0 a_p1 a_p1_series a_p1_pieces a_p1_trial a_p1_moves g_p1_day, cR cI a_p1_series 10 v_p1_series, cR cI a_p1_pieces 42 v_p1_pieces]) (F0 m 153 ls [])) :
    ∀ (n : Nat) (x7 : Int32) (g_signs : Nat → Int32) (g_length : Int32) (g_latest : Int32) (H : Heap) (locs : List Loc) (ls : Array Slot), Wd D A s.heap H locs [oX2 a g_length g_latest, ar cI (a 1) 200 g_signs, oX0 a_p1 a_p1_series a_p1_pieces a_p1_trial a_p1_moves g_p1_day, cR cI a_p1_series 10 v_p1_series, cR cI a_p1_pieces 42 v_p1_pieces] → lv_has ls 10 [(0, .ref (a 0)), (1, .ref (a_p1 0)), (2, .int x2), (3, .int x3), (4, .int x4), (5, .int x5), (6, .ref (a_p1_pieces 0)), (7, .int x7)] → fX2_writePart_71 v_p1_series v_p1_pieces x2 x3 x4 x5 n k x7 g_signs g_length g_latest = some (s0, s1, s2) → W p l e rmX2_writePart s m args below meth c H locs 0 0 (KQ D A below args s none [oX2 a s1 s2, ar cI (a 1) 200 s0, oX0 a_p1 a_p1_series a_p1_pieces a_p1_trial a_p1_moves g_p1_day, cR cI a_p1_series 10 v_p1_series, cR cI a_p1_pieces 42 v_p1_pieces]) (F0 m 71 ls []) := by
  have hx := C.1.1
  have hb := C.1.2.1
  intro n
  induction n with
  | zero =>
    intro x7 g_signs g_length g_latest H locs ls hw hl h
    rw [fX2_writePart_71] at h
    cases h
  | succ n ih =>
    intro x7 g_signs g_length g_latest H locs ls hw hl h
    rw [fX2_writePart_71] at h
    refine lv_iload hx hb dX2_writePart_71 (lv_at hl 7 rfl) ?_
    refine lv_aload hx hb dX2_writePart_73 (lv_at hl 6 rfl) ?_
    obtain ⟨r75, q75, h⟩ := bd h
    refine k_callV (nC := 5) [oX2 a g_length g_latest, ar cI (a 1) 200 g_signs, oX0 a_p1 a_p1_series a_p1_pieces a_p1_trial a_p1_moves g_p1_day, cR cI a_p1_series 10 v_p1_series, cR cI a_p1_pieces 42 v_p1_pieces] C hl.1 (tX4_size (a := a_p1_pieces) q75) mL_X2_63 mmX4_size rfl rfl ⟨Nat.le_of_ble_eq_true rfl, Nat.le_of_ble_eq_true rfl⟩ rfl rfl rfl rfl (Nat.le_of_ble_eq_true rfl) hA hw [4] [0, 1, 2, 3] rfl (by decide +kernel) rfl rfl rfl rfl dX2_writePart_75 (fun H locs hw75 => ?_)
    refine lv_icmp_ge (tgt := 153) hx hb dX2_writePart_78 (by decide) (fun c78 => ?_) (fun c78 => ?_)
    · replace h := br_t' h c78
      exact hk _ _ _ _ _ _ _ hw75 (lv_sub hl [0, 1, 2, 3, 4, 5, 6, 7] rfl) h
    · replace h := br_f' h c78
      refine lv_aload hx hb dX2_writePart_81 (lv_at hl 6 rfl) ?_
      refine lv_iload hx hb dX2_writePart_83 (lv_at hl 7 rfl) ?_
      obtain ⟨r85, q85, h⟩ := bd h
      refine k_callV (nC := 5) [oX2 a g_length g_latest, ar cI (a 1) 200 g_signs, oX0 a_p1 a_p1_series a_p1_pieces a_p1_trial a_p1_moves g_p1_day, cR cI a_p1_series 10 v_p1_series, cR cI a_p1_pieces 42 v_p1_pieces] C hl.1 (tX4_markOf (a := a_p1_pieces) q85) mL_X2_68 mmX4_markOf rfl rfl ⟨Nat.le_of_ble_eq_true rfl, Nat.le_of_ble_eq_true rfl⟩ rfl rfl rfl rfl (Nat.le_of_ble_eq_true rfl) hA hw75 [4] [0, 1, 2, 3] rfl (by decide +kernel) rfl rfl rfl rfl dX2_writePart_85 (fun H locs hw85 => ?_)
      refine lv_iload_n hx hb dX2_writePart_88 rfl (lv_at hl 3 rfl) ?_
      refine lv_icmp_ne (tgt := 147) hx hb dX2_writePart_89 (by decide) (fun c89 => ?_) (fun c89 => ?_)
      · replace h := br_f' h c89
        refine lv_iinc (v := (x7 + 1)) (lv' := [(7, .int (x7 + 1)), (0, .ref (a 0)), (1, .ref (a_p1 0)), (2, .int x2), (3, .int x3), (4, .int x4), (5, .int x5), (6, .ref (a_p1_pieces 0))]) hx hb dX2_writePart_147 hl (k := 7) rfl rfl (by decide) rfl (fun ls hl => ?_)
        refine lv_goto (tgt := 71) hx hb dX2_writePart_150 (by decide) ?_
        exact ih _ _ _ _ _ _ _ hw85 (lv_sub hl [1, 2, 3, 4, 5, 6, 7, 0] rfl) h
      · replace h := br_t' h c89
        refine lv_aload hx hb dX2_writePart_92 (lv_at hl 6 rfl) ?_
        refine lv_iload hx hb dX2_writePart_94 (lv_at hl 7 rfl) ?_
        refine lv_iload hx hb dX2_writePart_96 (lv_at hl 4 rfl) ?_
        refine lv_iload hx hb dX2_writePart_98 (lv_at hl 5 rfl) ?_
        obtain ⟨r100, q100, h⟩ := bd h
        refine k_callV (nC := 5) [oX2 a g_length g_latest, ar cI (a 1) 200 g_signs, oX0 a_p1 a_p1_series a_p1_pieces a_p1_trial a_p1_moves g_p1_day, cR cI a_p1_series 10 v_p1_series, cR cI a_p1_pieces 42 v_p1_pieces] C hl.1 (tX4_meets (a := a_p1_pieces) q100) mL_X2_71 mmX4_meets rfl rfl ⟨Nat.le_of_ble_eq_true rfl, Nat.le_of_ble_eq_true rfl⟩ rfl rfl rfl rfl (Nat.le_of_ble_eq_true rfl) hA hw85 [4] [0, 1, 2, 3] rfl (by decide +kernel) rfl rfl rfl rfl dX2_writePart_100 (fun H locs hw100 => ?_)
        refine lv_if_eq (tgt := 147) hx hb dX2_writePart_103 (by decide) (fun c103 => ?_) (fun c103 => ?_)
        · replace h := br_t' h c103
          refine lv_iinc (v := (x7 + 1)) (lv' := [(7, .int (x7 + 1)), (0, .ref (a 0)), (1, .ref (a_p1 0)), (2, .int x2), (3, .int x3), (4, .int x4), (5, .int x5), (6, .ref (a_p1_pieces 0))]) hx hb dX2_writePart_147 hl (k := 7) rfl rfl (by decide) rfl (fun ls hl => ?_)
          refine lv_goto (tgt := 71) hx hb dX2_writePart_150 (by decide) ?_
          exact ih _ _ _ _ _ _ _ hw100 (lv_sub hl [1, 2, 3, 4, 5, 6, 7, 0] rfl) h
        · replace h := br_f' h c103
          refine lv_aload hx hb dX2_writePart_106 (lv_at hl 6 rfl) ?_
          refine lv_iload hx hb dX2_writePart_108 (lv_at hl 7 rfl) ?_
          obtain ⟨r110, q110, h⟩ := bd h
          refine k_callV (nC := 5) [oX2 a g_length g_latest, ar cI (a 1) 200 g_signs, oX0 a_p1 a_p1_series a_p1_pieces a_p1_trial a_p1_moves g_p1_day, cR cI a_p1_series 10 v_p1_series, cR cI a_p1_pieces 42 v_p1_pieces] C hl.1 (tX4_firstOf (a := a_p1_pieces) q110) mL_X2_75 mmX4_firstOf rfl rfl ⟨Nat.le_of_ble_eq_true rfl, Nat.le_of_ble_eq_true rfl⟩ rfl rfl rfl rfl (Nat.le_of_ble_eq_true rfl) hA hw100 [4] [0, 1, 2, 3] rfl (by decide +kernel) rfl rfl rfl rfl dX2_writePart_110 (fun H locs hw110 => ?_)
          refine lv_iload hx hb dX2_writePart_113 (lv_at hl 4 rfl) ?_
          refine k_mmax C hl.1 mL_X2_78 mm_max (Nat.le_of_ble_eq_true rfl) (Nat.le_of_ble_eq_true rfl) dX2_writePart_115 ?_
          refine lv_istore (lv' := [(8, .int (imax r110 x4)), (0, .ref (a 0)), (1, .ref (a_p1 0)), (2, .int x2), (3, .int x3), (4, .int x4), (5, .int x5), (6, .ref (a_p1_pieces 0)), (7, .int x7)]) hx hb dX2_writePart_118 hl (by decide) rfl (fun ls hl => ?_)
          refine lv_aload hx hb dX2_writePart_120 (lv_at hl 7 rfl) ?_
          refine lv_iload hx hb dX2_writePart_122 (lv_at hl 8 rfl) ?_
          obtain ⟨r124, q124, h⟩ := bd h
          refine k_callV (nC := 5) [oX2 a g_length g_latest, ar cI (a 1) 200 g_signs, oX0 a_p1 a_p1_series a_p1_pieces a_p1_trial a_p1_moves g_p1_day, cR cI a_p1_series 10 v_p1_series, cR cI a_p1_pieces 42 v_p1_pieces] C hl.1 (tX4_lastOf (a := a_p1_pieces) q124) mL_X2_83 mmX4_lastOf rfl rfl ⟨Nat.le_of_ble_eq_true rfl, Nat.le_of_ble_eq_true rfl⟩ rfl rfl rfl rfl (Nat.le_of_ble_eq_true rfl) hA hw110 [4] [0, 1, 2, 3] rfl (by decide +kernel) rfl rfl rfl rfl dX2_writePart_124 (fun H locs hw124 => ?_)
          refine lv_iload hx hb dX2_writePart_127 (lv_at hl 6 rfl) ?_
          refine k_mmin C hl.1 mL_X2_86 mm_min (Nat.le_of_ble_eq_true rfl) (Nat.le_of_ble_eq_true rfl) dX2_writePart_129 ?_
          refine lv_istore (lv' := [(9, .int (imin r124 x5)), (8, .int (imax r110 x4)), (0, .ref (a 0)), (1, .ref (a_p1 0)), (2, .int x2), (3, .int x3), (4, .int x4), (5, .int x5), (6, .ref (a_p1_pieces 0)), (7, .int x7)]) hx hb dX2_writePart_132 hl (by decide) rfl (fun ls hl => ?_)
          refine lv_aload_n hx hb dX2_writePart_134 rfl (lv_at hl 2 rfl) ?_
          refine lv_aload_n hx hb dX2_writePart_135 rfl (lv_at hl 3 rfl) ?_
          obtain ⟨r136, q136, h⟩ := bd h
          refine k_callV (nC := 5) [oX2 a g_length g_latest, ar cI (a 1) 200 g_signs, oX0 a_p1 a_p1_series a_p1_pieces a_p1_trial a_p1_moves g_p1_day, cR cI a_p1_series 10 v_p1_series, cR cI a_p1_pieces 42 v_p1_pieces] C hl.1 (tX0_allSeries (a := a_p1) (a_series := a_p1_series) (a_pieces := a_p1_pieces) (a_trial := a_p1_trial) (a_moves := a_p1_moves) q136) mL_X2_89 mmX0_allSeries rfl rfl ⟨Nat.le_of_ble_eq_true rfl, Nat.le_of_ble_eq_true rfl⟩ rfl rfl rfl rfl (Nat.le_of_ble_eq_true rfl) hA hw124 [2] [0, 1, 3, 4] rfl (by decide +kernel) rfl rfl rfl rfl dX2_writePart_136 (fun H locs hw136 => ?_)
          refine lv_iload_n hx hb dX2_writePart_139 rfl (lv_at hl 4 rfl) ?_
          refine lv_iload hx hb dX2_writePart_140 (lv_at hl 1 rfl) ?_
          refine lv_iload hx hb dX2_writePart_142 (lv_at hl 0 rfl) ?_
          obtain ⟨r144, q144, h⟩ := bd h
          refine k_callV (nC := 5) [oX2 a r144.2.1 r144.2.2, ar cI (a 1) 200 r144.1, oX0 a_p1 a_p1_series a_p1_pieces a_p1_trial a_p1_moves g_p1_day, cR cI a_p1_series 10 v_p1_series, cR cI a_p1_pieces 42 v_p1_pieces] C hl.1 (tX2_writeOwn (a := a) (a_p1 := a_p1_series) q144) mL_X2_92 mmX2_writeOwn rfl rfl ⟨Nat.le_of_ble_eq_true rfl, Nat.le_of_ble_eq_true rfl⟩ rfl rfl rfl rfl (Nat.le_of_ble_eq_true rfl) hA hw136 [0, 1, 3] [2, 4] rfl (by decide +kernel) rfl rfl rfl rfl dX2_writePart_144 (fun H locs hw144 => ?_)
          refine lv_iinc (v := (x7 + 1)) (lv' := [(7, .int (x7 + 1)), (9, .int (imin r124 x5)), (8, .int (imax r110 x4)), (0, .ref (a 0)), (1, .ref (a_p1 0)), (2, .int x2), (3, .int x3), (4, .int x4), (5, .int x5), (6, .ref (a_p1_pieces 0))]) hx hb dX2_writePart_147 hl (k := 9) rfl rfl (by decide) rfl (fun ls hl => ?_)
          refine lv_goto (tgt := 71) hx hb dX2_writePart_150 (by decide) ?_
          exact ih _ _ _ _ _ _ _ hw144 (lv_sub hl [3, 4, 5, 6, 7, 8, 9, 0] rfl) h
def fX2_writePart (g_signs : Nat → Int32) (g_length : Int32) (g_latest : Int32) (v_p1_series : Rg) (v_p1_pieces : Rg) (x2 : Int32) (x3 : Int32) : Option ((Nat → Int32) × Int32 × Int32) :=
  (fX0_ownIn v_p1_series v_p1_pieces x2 x3).bind fun r3 =>
  if r3 = 0 then
    some (g_signs, g_length, g_latest)
  else
    if g_length ≤ 0 then
      if x2 = (-1) then
        (fX2_put g_signs g_length g_latest 120).bind fun r31 =>
        (fX2_put r31.1 r31.2.1 r31.2.2 58).bind fun r45 =>
        (fX0_firstIn v_p1_series x2).bind fun r50 =>
        (fX0_lastIn v_p1_series x2).bind fun r57 =>
        (fX0_pieces).bind fun r63 =>
        fX2_writePart_71 v_p1_series v_p1_pieces x2 x3 r50 r57 FU (fun x7_71 g_signs_71 g_length_71 g_latest_71 =>
          some (g_signs_71, g_length_71, g_latest_71)) 0 r45.1 r45.2.1 r45.2.2
      else
        (fX2_putNumber g_signs g_length g_latest x2).bind fun r39 =>
        (fX2_put r39.1 r39.2.1 r39.2.2 58).bind fun r45 =>
        (fX0_firstIn v_p1_series x2).bind fun r50 =>
        (fX0_lastIn v_p1_series x2).bind fun r57 =>
        (fX0_pieces).bind fun r63 =>
        fX2_writePart_71 v_p1_series v_p1_pieces x2 x3 r50 r57 FU (fun x7_71 g_signs_71 g_length_71 g_latest_71 =>
          some (g_signs_71, g_length_71, g_latest_71)) 0 r45.1 r45.2.1 r45.2.2
    else
      (fX2_put g_signs g_length g_latest 59).bind fun r20 =>
      if x2 = (-1) then
        (fX2_put r20.1 r20.2.1 r20.2.2 120).bind fun r31 =>
        (fX2_put r31.1 r31.2.1 r31.2.2 58).bind fun r45 =>
        (fX0_firstIn v_p1_series x2).bind fun r50 =>
        (fX0_lastIn v_p1_series x2).bind fun r57 =>
        (fX0_pieces).bind fun r63 =>
        fX2_writePart_71 v_p1_series v_p1_pieces x2 x3 r50 r57 FU (fun x7_71 g_signs_71 g_length_71 g_latest_71 =>
          some (g_signs_71, g_length_71, g_latest_71)) 0 r45.1 r45.2.1 r45.2.2
      else
        (fX2_putNumber r20.1 r20.2.1 r20.2.2 x2).bind fun r39 =>
        (fX2_put r39.1 r39.2.1 r39.2.2 58).bind fun r45 =>
        (fX0_firstIn v_p1_series x2).bind fun r50 =>
        (fX0_lastIn v_p1_series x2).bind fun r57 =>
        (fX0_pieces).bind fun r63 =>
        fX2_writePart_71 v_p1_series v_p1_pieces x2 x3 r50 r57 FU (fun x7_71 g_signs_71 g_length_71 g_latest_71 =>
          some (g_signs_71, g_length_71, g_latest_71)) 0 r45.1 r45.2.1 r45.2.2
set_option maxRecDepth 100000 in
set_option maxHeartbeats 4000000 in
theorem tX2_writePart {l : Launch} {D : va_G} {cI : ClassId} {cS : GS} {a : Nat → Nat} {a_p1 : Nat → Nat} {a_p1_series : Nat → Nat} {a_p1_pieces : Nat → Nat} {a_p1_trial : Nat → Nat} {a_p1_moves : Nat → Nat} {g_signs : Nat → Int32} {g_length : Int32} {g_latest : Int32} {g_p1_day : Int32} {v_p1_series : Rg} {v_p1_pieces : Rg} {x2 : Int32} {x3 : Int32} {s0 : (Nat → Int32)} {s1 : Int32} {s2 : Int32} (h : fX2_writePart g_signs g_length g_latest v_p1_series v_p1_pieces x2 x3 = some (s0, s1, s2)) : CT l D cI cS yX2_writePart cX2_writePart 10 none rmX2_writePart [.ref (a 0), .ref (a_p1 0), .int x2, .int x3] [oX2 a g_length g_latest, ar cI (a 1) 200 g_signs, oX0 a_p1 a_p1_series a_p1_pieces a_p1_trial a_p1_moves g_p1_day, cR cI a_p1_series 10 v_p1_series, cR cI a_p1_pieces 42 v_p1_pieces] none [oX2 a s1 s2, ar cI (a 1) 200 s0, oX0 a_p1 a_p1_series a_p1_pieces a_p1_trial a_p1_moves g_p1_day, cR cI a_p1_series 10 v_p1_series, cR cI a_p1_pieces 42 v_p1_pieces] := by
  refine CT.of RX2 (by decide) rfl (Nat.le_of_ble_eq_true rfl) (fun p e s m below meth c ls A C hA hl hw => ?_)
  have hx := C.1.1
  have hb := C.1.2.1
  have hl : lv_has ls 10 [(0, .ref (a 0)), (1, .ref (a_p1 0)), (2, .int x2), (3, .int x3)] := hl
  unfold fX2_writePart at h
  refine lv_aload_n hx hb dX2_writePart_0 rfl (lv_at hl 1 rfl) ?_
  refine lv_iload_n hx hb dX2_writePart_1 rfl (lv_at hl 2 rfl) ?_
  refine lv_iload_n hx hb dX2_writePart_2 rfl (lv_at hl 3 rfl) ?_
  obtain ⟨r3, q3, h⟩ := bd h
  refine k_callV (nC := 5) [oX2 a g_length g_latest, ar cI (a 1) 200 g_signs, oX0 a_p1 a_p1_series a_p1_pieces a_p1_trial a_p1_moves g_p1_day, cR cI a_p1_series 10 v_p1_series, cR cI a_p1_pieces 42 v_p1_pieces] C hl.1 (tX0_ownIn (a := a_p1) (a_series := a_p1_series) (a_pieces := a_p1_pieces) (a_trial := a_p1_trial) (a_moves := a_p1_moves) q3) mL_X2_41 mmX0_ownIn rfl rfl ⟨Nat.le_of_ble_eq_true rfl, Nat.le_of_ble_eq_true rfl⟩ rfl rfl rfl rfl (Nat.le_of_ble_eq_true rfl) hA hw [2, 3, 4] [0, 1] rfl (by decide +kernel) rfl rfl rfl rfl dX2_writePart_3 (fun H locs hw3 => ?_)
  refine lv_if_ne (tgt := 10) hx hb dX2_writePart_6 (by decide) (fun c6 => ?_) (fun c6 => ?_)
  · replace h := br_f' h c6
    refine lv_aload_n hx hb dX2_writePart_10 rfl (lv_at hl 0 rfl) ?_
    refine k_get C inT_X2 hw3 0 rfl rfl 1 (by decide) mF_X2_15 rfl dX2_writePart_11 ?_
    refine lv_if_le (tgt := 23) hx hb dX2_writePart_14 (by decide) (fun c14 => ?_) (fun c14 => ?_)
    · replace h := br_t' h c14
      refine lv_iload_n hx hb dX2_writePart_23 rfl (lv_at hl 2 rfl) ?_
      refine lv_iconst (v := (-1)) hx hb dX2_writePart_24 (by decide) ?_
      refine lv_icmp_ne (tgt := 37) hx hb dX2_writePart_25 (by decide) (fun c25 => ?_) (fun c25 => ?_)
      · replace h := br_f' h c25
        refine lv_aload_n hx hb dX2_writePart_37 rfl (lv_at hl 0 rfl) ?_
        refine lv_iload_n hx hb dX2_writePart_38 rfl (lv_at hl 2 rfl) ?_
        obtain ⟨r39, q39, h⟩ := bd h
        refine k_callV (nC := 5) [oX2 a r39.2.1 r39.2.2, ar cI (a 1) 200 r39.1, oX0 a_p1 a_p1_series a_p1_pieces a_p1_trial a_p1_moves g_p1_day, cR cI a_p1_series 10 v_p1_series, cR cI a_p1_pieces 42 v_p1_pieces] C hl.1 (tX2_putNumber (a := a) q39) mL_X2_49 mmX2_putNumber rfl rfl ⟨Nat.le_of_ble_eq_true rfl, Nat.le_of_ble_eq_true rfl⟩ rfl rfl rfl rfl (Nat.le_of_ble_eq_true rfl) hA hw3 [0, 1] [2, 3, 4] rfl (by decide +kernel) rfl rfl rfl rfl dX2_writePart_39 (fun H locs hw39 => ?_)
        refine lv_aload_n hx hb dX2_writePart_42 rfl (lv_at hl 0 rfl) ?_
        refine lv_bipush (v := 58) hx hb dX2_writePart_43 (by decide) ?_
        obtain ⟨r45, q45, h⟩ := bd h
        refine k_callV (nC := 5) [oX2 a r45.2.1 r45.2.2, ar cI (a 1) 200 r45.1, oX0 a_p1 a_p1_series a_p1_pieces a_p1_trial a_p1_moves g_p1_day, cR cI a_p1_series 10 v_p1_series, cR cI a_p1_pieces 42 v_p1_pieces] C hl.1 (tX2_put (a := a) q45) mL_X2_45 mmX2_put rfl rfl ⟨Nat.le_of_ble_eq_true rfl, Nat.le_of_ble_eq_true rfl⟩ rfl rfl rfl rfl (Nat.le_of_ble_eq_true rfl) hA hw39 [0, 1] [2, 3, 4] rfl (by decide +kernel) rfl rfl rfl rfl dX2_writePart_45 (fun H locs hw45 => ?_)
        refine lv_aload_n hx hb dX2_writePart_48 rfl (lv_at hl 1 rfl) ?_
        refine lv_iload_n hx hb dX2_writePart_49 rfl (lv_at hl 2 rfl) ?_
        obtain ⟨r50, q50, h⟩ := bd h
        refine k_callV (nC := 5) [oX2 a r45.2.1 r45.2.2, ar cI (a 1) 200 r45.1, oX0 a_p1 a_p1_series a_p1_pieces a_p1_trial a_p1_moves g_p1_day, cR cI a_p1_series 10 v_p1_series, cR cI a_p1_pieces 42 v_p1_pieces] C hl.1 (tX0_firstIn (a := a_p1) (a_series := a_p1_series) (a_pieces := a_p1_pieces) (a_trial := a_p1_trial) (a_moves := a_p1_moves) q50) mL_X2_52 mmX0_firstIn rfl rfl ⟨Nat.le_of_ble_eq_true rfl, Nat.le_of_ble_eq_true rfl⟩ rfl rfl rfl rfl (Nat.le_of_ble_eq_true rfl) hA hw45 [2, 3] [0, 1, 4] rfl (by decide +kernel) rfl rfl rfl rfl dX2_writePart_50 (fun H locs hw50 => ?_)
        refine lv_istore (lv' := [(4, .int r50), (0, .ref (a 0)), (1, .ref (a_p1 0)), (2, .int x2), (3, .int x3)]) hx hb dX2_writePart_53 hl (by decide) rfl (fun ls hl => ?_)
        refine lv_aload_n hx hb dX2_writePart_55 rfl (lv_at hl 2 rfl) ?_
        refine lv_iload_n hx hb dX2_writePart_56 rfl (lv_at hl 3 rfl) ?_
        obtain ⟨r57, q57, h⟩ := bd h
        refine k_callV (nC := 5) [oX2 a r45.2.1 r45.2.2, ar cI (a 1) 200 r45.1, oX0 a_p1 a_p1_series a_p1_pieces a_p1_trial a_p1_moves g_p1_day, cR cI a_p1_series 10 v_p1_series, cR cI a_p1_pieces 42 v_p1_pieces] C hl.1 (tX0_lastIn (a := a_p1) (a_series := a_p1_series) (a_pieces := a_p1_pieces) (a_trial := a_p1_trial) (a_moves := a_p1_moves) q57) mL_X2_56 mmX0_lastIn rfl rfl ⟨Nat.le_of_ble_eq_true rfl, Nat.le_of_ble_eq_true rfl⟩ rfl rfl rfl rfl (Nat.le_of_ble_eq_true rfl) hA hw50 [2, 3] [0, 1, 4] rfl (by decide +kernel) rfl rfl rfl rfl dX2_writePart_57 (fun H locs hw57 => ?_)
        refine lv_istore (lv' := [(5, .int r57), (4, .int r50), (0, .ref (a 0)), (1, .ref (a_p1 0)), (2, .int x2), (3, .int x3)]) hx hb dX2_writePart_60 hl (by decide) rfl (fun ls hl => ?_)
        refine lv_aload_n hx hb dX2_writePart_62 rfl (lv_at hl 3 rfl) ?_
        obtain ⟨r63, q63, h⟩ := bd h
        refine k_callV (nC := 5) [oX2 a r45.2.1 r45.2.2, ar cI (a 1) 200 r45.1, oX0 a_p1 a_p1_series a_p1_pieces a_p1_trial a_p1_moves g_p1_day, cR cI a_p1_series 10 v_p1_series, cR cI a_p1_pieces 42 v_p1_pieces] C hl.1 (tX0_pieces (a := a_p1) (a_series := a_p1_series) (a_pieces := a_p1_pieces) (a_trial := a_p1_trial) (a_moves := a_p1_moves) q63) mL_X2_59 mmX0_pieces rfl rfl ⟨Nat.le_of_ble_eq_true rfl, Nat.le_of_ble_eq_true rfl⟩ rfl rfl rfl rfl (Nat.le_of_ble_eq_true rfl) hA hw57 [2] [0, 1, 3, 4] rfl (by decide +kernel) rfl rfl rfl rfl dX2_writePart_63 (fun H locs hw63 => ?_)
        refine lv_astore (lv' := [(6, .ref (a_p1_pieces 0)), (5, .int r57), (4, .int r50), (0, .ref (a 0)), (1, .ref (a_p1 0)), (2, .int x2), (3, .int x3)]) hx hb dX2_writePart_66 hl (by decide) rfl (fun ls hl => ?_)
        refine lv_iconst (v := 0) hx hb dX2_writePart_68 (by decide) ?_
        refine lv_istore (lv' := [(7, .int 0), (6, .ref (a_p1_pieces 0)), (5, .int r57), (4, .int r50), (0, .ref (a 0)), (1, .ref (a_p1 0)), (2, .int x2), (3, .int x3)]) hx hb dX2_writePart_69 hl (by decide) rfl (fun ls hl => ?_)
        refine wX2_writePart_71 C hA _ (fun x7_71 g_signs_71 g_length_71 g_latest_71 H locs ls hw71x hl h => ?_) FU _ _ _ _ _ _ _ hw63 (lv_sub hl [4, 5, 6, 7, 3, 2, 1, 0] rfl) h
        cases h
        exact k_vret C hw71x dX2_writePart_153
      · replace h := br_t' h c25
        refine lv_aload_n hx hb dX2_writePart_28 rfl (lv_at hl 0 rfl) ?_
        refine lv_bipush (v := 120) hx hb dX2_writePart_29 (by decide) ?_
        obtain ⟨r31, q31, h⟩ := bd h
        refine k_callV (nC := 5) [oX2 a r31.2.1 r31.2.2, ar cI (a 1) 200 r31.1, oX0 a_p1 a_p1_series a_p1_pieces a_p1_trial a_p1_moves g_p1_day, cR cI a_p1_series 10 v_p1_series, cR cI a_p1_pieces 42 v_p1_pieces] C hl.1 (tX2_put (a := a) q31) mL_X2_45 mmX2_put rfl rfl ⟨Nat.le_of_ble_eq_true rfl, Nat.le_of_ble_eq_true rfl⟩ rfl rfl rfl rfl (Nat.le_of_ble_eq_true rfl) hA hw3 [0, 1] [2, 3, 4] rfl (by decide +kernel) rfl rfl rfl rfl dX2_writePart_31 (fun H locs hw31 => ?_)
        refine lv_goto (tgt := 42) hx hb dX2_writePart_34 (by decide) ?_
        refine lv_aload_n hx hb dX2_writePart_42 rfl (lv_at hl 0 rfl) ?_
        refine lv_bipush (v := 58) hx hb dX2_writePart_43 (by decide) ?_
        obtain ⟨r45, q45, h⟩ := bd h
        refine k_callV (nC := 5) [oX2 a r45.2.1 r45.2.2, ar cI (a 1) 200 r45.1, oX0 a_p1 a_p1_series a_p1_pieces a_p1_trial a_p1_moves g_p1_day, cR cI a_p1_series 10 v_p1_series, cR cI a_p1_pieces 42 v_p1_pieces] C hl.1 (tX2_put (a := a) q45) mL_X2_45 mmX2_put rfl rfl ⟨Nat.le_of_ble_eq_true rfl, Nat.le_of_ble_eq_true rfl⟩ rfl rfl rfl rfl (Nat.le_of_ble_eq_true rfl) hA hw31 [0, 1] [2, 3, 4] rfl (by decide +kernel) rfl rfl rfl rfl dX2_writePart_45 (fun H locs hw45 => ?_)
        refine lv_aload_n hx hb dX2_writePart_48 rfl (lv_at hl 1 rfl) ?_
        refine lv_iload_n hx hb dX2_writePart_49 rfl (lv_at hl 2 rfl) ?_
        obtain ⟨r50, q50, h⟩ := bd h
        refine k_callV (nC := 5) [oX2 a r45.2.1 r45.2.2, ar cI (a 1) 200 r45.1, oX0 a_p1 a_p1_series a_p1_pieces a_p1_trial a_p1_moves g_p1_day, cR cI a_p1_series 10 v_p1_series, cR cI a_p1_pieces 42 v_p1_pieces] C hl.1 (tX0_firstIn (a := a_p1) (a_series := a_p1_series) (a_pieces := a_p1_pieces) (a_trial := a_p1_trial) (a_moves := a_p1_moves) q50) mL_X2_52 mmX0_firstIn rfl rfl ⟨Nat.le_of_ble_eq_true rfl, Nat.le_of_ble_eq_true rfl⟩ rfl rfl rfl rfl (Nat.le_of_ble_eq_true rfl) hA hw45 [2, 3] [0, 1, 4] rfl (by decide +kernel) rfl rfl rfl rfl dX2_writePart_50 (fun H locs hw50 => ?_)
        refine lv_istore (lv' := [(4, .int r50), (0, .ref (a 0)), (1, .ref (a_p1 0)), (2, .int x2), (3, .int x3)]) hx hb dX2_writePart_53 hl (by decide) rfl (fun ls hl => ?_)
        refine lv_aload_n hx hb dX2_writePart_55 rfl (lv_at hl 2 rfl) ?_
        refine lv_iload_n hx hb dX2_writePart_56 rfl (lv_at hl 3 rfl) ?_
        obtain ⟨r57, q57, h⟩ := bd h
        refine k_callV (nC := 5) [oX2 a r45.2.1 r45.2.2, ar cI (a 1) 200 r45.1, oX0 a_p1 a_p1_series a_p1_pieces a_p1_trial a_p1_moves g_p1_day, cR cI a_p1_series 10 v_p1_series, cR cI a_p1_pieces 42 v_p1_pieces] C hl.1 (tX0_lastIn (a := a_p1) (a_series := a_p1_series) (a_pieces := a_p1_pieces) (a_trial := a_p1_trial) (a_moves := a_p1_moves) q57) mL_X2_56 mmX0_lastIn rfl rfl ⟨Nat.le_of_ble_eq_true rfl, Nat.le_of_ble_eq_true rfl⟩ rfl rfl rfl rfl (Nat.le_of_ble_eq_true rfl) hA hw50 [2, 3] [0, 1, 4] rfl (by decide +kernel) rfl rfl rfl rfl dX2_writePart_57 (fun H locs hw57 => ?_)
        refine lv_istore (lv' := [(5, .int r57), (4, .int r50), (0, .ref (a 0)), (1, .ref (a_p1 0)), (2, .int x2), (3, .int x3)]) hx hb dX2_writePart_60 hl (by decide) rfl (fun ls hl => ?_)
        refine lv_aload_n hx hb dX2_writePart_62 rfl (lv_at hl 3 rfl) ?_
        obtain ⟨r63, q63, h⟩ := bd h
        refine k_callV (nC := 5) [oX2 a r45.2.1 r45.2.2, ar cI (a 1) 200 r45.1, oX0 a_p1 a_p1_series a_p1_pieces a_p1_trial a_p1_moves g_p1_day, cR cI a_p1_series 10 v_p1_series, cR cI a_p1_pieces 42 v_p1_pieces] C hl.1 (tX0_pieces (a := a_p1) (a_series := a_p1_series) (a_pieces := a_p1_pieces) (a_trial := a_p1_trial) (a_moves := a_p1_moves) q63) mL_X2_59 mmX0_pieces rfl rfl ⟨Nat.le_of_ble_eq_true rfl, Nat.le_of_ble_eq_true rfl⟩ rfl rfl rfl rfl (Nat.le_of_ble_eq_true rfl) hA hw57 [2] [0, 1, 3, 4] rfl (by decide +kernel) rfl rfl rfl rfl dX2_writePart_63 (fun H locs hw63 => ?_)
        refine lv_astore (lv' := [(6, .ref (a_p1_pieces 0)), (5, .int r57), (4, .int r50), (0, .ref (a 0)), (1, .ref (a_p1 0)), (2, .int x2), (3, .int x3)]) hx hb dX2_writePart_66 hl (by decide) rfl (fun ls hl => ?_)
        refine lv_iconst (v := 0) hx hb dX2_writePart_68 (by decide) ?_
        refine lv_istore (lv' := [(7, .int 0), (6, .ref (a_p1_pieces 0)), (5, .int r57), (4, .int r50), (0, .ref (a 0)), (1, .ref (a_p1 0)), (2, .int x2), (3, .int x3)]) hx hb dX2_writePart_69 hl (by decide) rfl (fun ls hl => ?_)
        refine wX2_writePart_71 C hA _ (fun x7_71 g_signs_71 g_length_71 g_latest_71 H locs ls hw71x hl h => ?_) FU _ _ _ _ _ _ _ hw63 (lv_sub hl [4, 5, 6, 7, 3, 2, 1, 0] rfl) h
        cases h
        exact k_vret C hw71x dX2_writePart_153
    · replace h := br_f' h c14
      refine lv_aload_n hx hb dX2_writePart_17 rfl (lv_at hl 0 rfl) ?_
      refine lv_bipush (v := 59) hx hb dX2_writePart_18 (by decide) ?_
      obtain ⟨r20, q20, h⟩ := bd h
      refine k_callV (nC := 5) [oX2 a r20.2.1 r20.2.2, ar cI (a 1) 200 r20.1, oX0 a_p1 a_p1_series a_p1_pieces a_p1_trial a_p1_moves g_p1_day, cR cI a_p1_series 10 v_p1_series, cR cI a_p1_pieces 42 v_p1_pieces] C hl.1 (tX2_put (a := a) q20) mL_X2_45 mmX2_put rfl rfl ⟨Nat.le_of_ble_eq_true rfl, Nat.le_of_ble_eq_true rfl⟩ rfl rfl rfl rfl (Nat.le_of_ble_eq_true rfl) hA hw3 [0, 1] [2, 3, 4] rfl (by decide +kernel) rfl rfl rfl rfl dX2_writePart_20 (fun H locs hw20 => ?_)
      refine lv_iload_n hx hb dX2_writePart_23 rfl (lv_at hl 2 rfl) ?_
      refine lv_iconst (v := (-1)) hx hb dX2_writePart_24 (by decide) ?_
      refine lv_icmp_ne (tgt := 37) hx hb dX2_writePart_25 (by decide) (fun c25 => ?_) (fun c25 => ?_)
      · replace h := br_f' h c25
        refine lv_aload_n hx hb dX2_writePart_37 rfl (lv_at hl 0 rfl) ?_
        refine lv_iload_n hx hb dX2_writePart_38 rfl (lv_at hl 2 rfl) ?_
        obtain ⟨r39, q39, h⟩ := bd h
        refine k_callV (nC := 5) [oX2 a r39.2.1 r39.2.2, ar cI (a 1) 200 r39.1, oX0 a_p1 a_p1_series a_p1_pieces a_p1_trial a_p1_moves g_p1_day, cR cI a_p1_series 10 v_p1_series, cR cI a_p1_pieces 42 v_p1_pieces] C hl.1 (tX2_putNumber (a := a) q39) mL_X2_49 mmX2_putNumber rfl rfl ⟨Nat.le_of_ble_eq_true rfl, Nat.le_of_ble_eq_true rfl⟩ rfl rfl rfl rfl (Nat.le_of_ble_eq_true rfl) hA hw20 [0, 1] [2, 3, 4] rfl (by decide +kernel) rfl rfl rfl rfl dX2_writePart_39 (fun H locs hw39 => ?_)
        refine lv_aload_n hx hb dX2_writePart_42 rfl (lv_at hl 0 rfl) ?_
        refine lv_bipush (v := 58) hx hb dX2_writePart_43 (by decide) ?_
        obtain ⟨r45, q45, h⟩ := bd h
        refine k_callV (nC := 5) [oX2 a r45.2.1 r45.2.2, ar cI (a 1) 200 r45.1, oX0 a_p1 a_p1_series a_p1_pieces a_p1_trial a_p1_moves g_p1_day, cR cI a_p1_series 10 v_p1_series, cR cI a_p1_pieces 42 v_p1_pieces] C hl.1 (tX2_put (a := a) q45) mL_X2_45 mmX2_put rfl rfl ⟨Nat.le_of_ble_eq_true rfl, Nat.le_of_ble_eq_true rfl⟩ rfl rfl rfl rfl (Nat.le_of_ble_eq_true rfl) hA hw39 [0, 1] [2, 3, 4] rfl (by decide +kernel) rfl rfl rfl rfl dX2_writePart_45 (fun H locs hw45 => ?_)
        refine lv_aload_n hx hb dX2_writePart_48 rfl (lv_at hl 1 rfl) ?_
        refine lv_iload_n hx hb dX2_writePart_49 rfl (lv_at hl 2 rfl) ?_
        obtain ⟨r50, q50, h⟩ := bd h
        refine k_callV (nC := 5) [oX2 a r45.2.1 r45.2.2, ar cI (a 1) 200 r45.1, oX0 a_p1 a_p1_series a_p1_pieces a_p1_trial a_p1_moves g_p1_day, cR cI a_p1_series 10 v_p1_series, cR cI a_p1_pieces 42 v_p1_pieces] C hl.1 (tX0_firstIn (a := a_p1) (a_series := a_p1_series) (a_pieces := a_p1_pieces) (a_trial := a_p1_trial) (a_moves := a_p1_moves) q50) mL_X2_52 mmX0_firstIn rfl rfl ⟨Nat.le_of_ble_eq_true rfl, Nat.le_of_ble_eq_true rfl⟩ rfl rfl rfl rfl (Nat.le_of_ble_eq_true rfl) hA hw45 [2, 3] [0, 1, 4] rfl (by decide +kernel) rfl rfl rfl rfl dX2_writePart_50 (fun H locs hw50 => ?_)
        refine lv_istore (lv' := [(4, .int r50), (0, .ref (a 0)), (1, .ref (a_p1 0)), (2, .int x2), (3, .int x3)]) hx hb dX2_writePart_53 hl (by decide) rfl (fun ls hl => ?_)
        refine lv_aload_n hx hb dX2_writePart_55 rfl (lv_at hl 2 rfl) ?_
        refine lv_iload_n hx hb dX2_writePart_56 rfl (lv_at hl 3 rfl) ?_
        obtain ⟨r57, q57, h⟩ := bd h
        refine k_callV (nC := 5) [oX2 a r45.2.1 r45.2.2, ar cI (a 1) 200 r45.1, oX0 a_p1 a_p1_series a_p1_pieces a_p1_trial a_p1_moves g_p1_day, cR cI a_p1_series 10 v_p1_series, cR cI a_p1_pieces 42 v_p1_pieces] C hl.1 (tX0_lastIn (a := a_p1) (a_series := a_p1_series) (a_pieces := a_p1_pieces) (a_trial := a_p1_trial) (a_moves := a_p1_moves) q57) mL_X2_56 mmX0_lastIn rfl rfl ⟨Nat.le_of_ble_eq_true rfl, Nat.le_of_ble_eq_true rfl⟩ rfl rfl rfl rfl (Nat.le_of_ble_eq_true rfl) hA hw50 [2, 3] [0, 1, 4] rfl (by decide +kernel) rfl rfl rfl rfl dX2_writePart_57 (fun H locs hw57 => ?_)
        refine lv_istore (lv' := [(5, .int r57), (4, .int r50), (0, .ref (a 0)), (1, .ref (a_p1 0)), (2, .int x2), (3, .int x3)]) hx hb dX2_writePart_60 hl (by decide) rfl (fun ls hl => ?_)
        refine lv_aload_n hx hb dX2_writePart_62 rfl (lv_at hl 3 rfl) ?_
        obtain ⟨r63, q63, h⟩ := bd h
        refine k_callV (nC := 5) [oX2 a r45.2.1 r45.2.2, ar cI (a 1) 200 r45.1, oX0 a_p1 a_p1_series a_p1_pieces a_p1_trial a_p1_moves g_p1_day, cR cI a_p1_series 10 v_p1_series, cR cI a_p1_pieces 42 v_p1_pieces] C hl.1 (tX0_pieces (a := a_p1) (a_series := a_p1_series) (a_pieces := a_p1_pieces) (a_trial := a_p1_trial) (a_moves := a_p1_moves) q63) mL_X2_59 mmX0_pieces rfl rfl ⟨Nat.le_of_ble_eq_true rfl, Nat.le_of_ble_eq_true rfl⟩ rfl rfl rfl rfl (Nat.le_of_ble_eq_true rfl) hA hw57 [2] [0, 1, 3, 4] rfl (by decide +kernel) rfl rfl rfl rfl dX2_writePart_63 (fun H locs hw63 => ?_)
        refine lv_astore (lv' := [(6, .ref (a_p1_pieces 0)), (5, .int r57), (4, .int r50), (0, .ref (a 0)), (1, .ref (a_p1 0)), (2, .int x2), (3, .int x3)]) hx hb dX2_writePart_66 hl (by decide) rfl (fun ls hl => ?_)
        refine lv_iconst (v := 0) hx hb dX2_writePart_68 (by decide) ?_
        refine lv_istore (lv' := [(7, .int 0), (6, .ref (a_p1_pieces 0)), (5, .int r57), (4, .int r50), (0, .ref (a 0)), (1, .ref (a_p1 0)), (2, .int x2), (3, .int x3)]) hx hb dX2_writePart_69 hl (by decide) rfl (fun ls hl => ?_)
        refine wX2_writePart_71 C hA _ (fun x7_71 g_signs_71 g_length_71 g_latest_71 H locs ls hw71x hl h => ?_) FU _ _ _ _ _ _ _ hw63 (lv_sub hl [4, 5, 6, 7, 3, 2, 1, 0] rfl) h
        cases h
        exact k_vret C hw71x dX2_writePart_153
      · replace h := br_t' h c25
        refine lv_aload_n hx hb dX2_writePart_28 rfl (lv_at hl 0 rfl) ?_
        refine lv_bipush (v := 120) hx hb dX2_writePart_29 (by decide) ?_
        obtain ⟨r31, q31, h⟩ := bd h
        refine k_callV (nC := 5) [oX2 a r31.2.1 r31.2.2, ar cI (a 1) 200 r31.1, oX0 a_p1 a_p1_series a_p1_pieces a_p1_trial a_p1_moves g_p1_day, cR cI a_p1_series 10 v_p1_series, cR cI a_p1_pieces 42 v_p1_pieces] C hl.1 (tX2_put (a := a) q31) mL_X2_45 mmX2_put rfl rfl ⟨Nat.le_of_ble_eq_true rfl, Nat.le_of_ble_eq_true rfl⟩ rfl rfl rfl rfl (Nat.le_of_ble_eq_true rfl) hA hw20 [0, 1] [2, 3, 4] rfl (by decide +kernel) rfl rfl rfl rfl dX2_writePart_31 (fun H locs hw31 => ?_)
        refine lv_goto (tgt := 42) hx hb dX2_writePart_34 (by decide) ?_
        refine lv_aload_n hx hb dX2_writePart_42 rfl (lv_at hl 0 rfl) ?_
        refine lv_bipush (v := 58) hx hb dX2_writePart_43 (by decide) ?_
        obtain ⟨r45, q45, h⟩ := bd h
        refine k_callV (nC := 5) [oX2 a r45.2.1 r45.2.2, ar cI (a 1) 200 r45.1, oX0 a_p1 a_p1_series a_p1_pieces a_p1_trial a_p1_moves g_p1_day, cR cI a_p1_series 10 v_p1_series, cR cI a_p1_pieces 42 v_p1_pieces] C hl.1 (tX2_put (a := a) q45) mL_X2_45 mmX2_put rfl rfl ⟨Nat.le_of_ble_eq_true rfl, Nat.le_of_ble_eq_true rfl⟩ rfl rfl rfl rfl (Nat.le_of_ble_eq_true rfl) hA hw31 [0, 1] [2, 3, 4] rfl (by decide +kernel) rfl rfl rfl rfl dX2_writePart_45 (fun H locs hw45 => ?_)
        refine lv_aload_n hx hb dX2_writePart_48 rfl (lv_at hl 1 rfl) ?_
        refine lv_iload_n hx hb dX2_writePart_49 rfl (lv_at hl 2 rfl) ?_
        obtain ⟨r50, q50, h⟩ := bd h
        refine k_callV (nC := 5) [oX2 a r45.2.1 r45.2.2, ar cI (a 1) 200 r45.1, oX0 a_p1 a_p1_series a_p1_pieces a_p1_trial a_p1_moves g_p1_day, cR cI a_p1_series 10 v_p1_series, cR cI a_p1_pieces 42 v_p1_pieces] C hl.1 (tX0_firstIn (a := a_p1) (a_series := a_p1_series) (a_pieces := a_p1_pieces) (a_trial := a_p1_trial) (a_moves := a_p1_moves) q50) mL_X2_52 mmX0_firstIn rfl rfl ⟨Nat.le_of_ble_eq_true rfl, Nat.le_of_ble_eq_true rfl⟩ rfl rfl rfl rfl (Nat.le_of_ble_eq_true rfl) hA hw45 [2, 3] [0, 1, 4] rfl (by decide +kernel) rfl rfl rfl rfl dX2_writePart_50 (fun H locs hw50 => ?_)
        refine lv_istore (lv' := [(4, .int r50), (0, .ref (a 0)), (1, .ref (a_p1 0)), (2, .int x2), (3, .int x3)]) hx hb dX2_writePart_53 hl (by decide) rfl (fun ls hl => ?_)
        refine lv_aload_n hx hb dX2_writePart_55 rfl (lv_at hl 2 rfl) ?_
        refine lv_iload_n hx hb dX2_writePart_56 rfl (lv_at hl 3 rfl) ?_
        obtain ⟨r57, q57, h⟩ := bd h
        refine k_callV (nC := 5) [oX2 a r45.2.1 r45.2.2, ar cI (a 1) 200 r45.1, oX0 a_p1 a_p1_series a_p1_pieces a_p1_trial a_p1_moves g_p1_day, cR cI a_p1_series 10 v_p1_series, cR cI a_p1_pieces 42 v_p1_pieces] C hl.1 (tX0_lastIn (a := a_p1) (a_series := a_p1_series) (a_pieces := a_p1_pieces) (a_trial := a_p1_trial) (a_moves := a_p1_moves) q57) mL_X2_56 mmX0_lastIn rfl rfl ⟨Nat.le_of_ble_eq_true rfl, Nat.le_of_ble_eq_true rfl⟩ rfl rfl rfl rfl (Nat.le_of_ble_eq_true rfl) hA hw50 [2, 3] [0, 1, 4] rfl (by decide +kernel) rfl rfl rfl rfl dX2_writePart_57 (fun H locs hw57 => ?_)
        refine lv_istore (lv' := [(5, .int r57), (4, .int r50), (0, .ref (a 0)), (1, .ref (a_p1 0)), (2, .int x2), (3, .int x3)]) hx hb dX2_writePart_60 hl (by decide) rfl (fun ls hl => ?_)
        refine lv_aload_n hx hb dX2_writePart_62 rfl (lv_at hl 3 rfl) ?_
        obtain ⟨r63, q63, h⟩ := bd h
        refine k_callV (nC := 5) [oX2 a r45.2.1 r45.2.2, ar cI (a 1) 200 r45.1, oX0 a_p1 a_p1_series a_p1_pieces a_p1_trial a_p1_moves g_p1_day, cR cI a_p1_series 10 v_p1_series, cR cI a_p1_pieces 42 v_p1_pieces] C hl.1 (tX0_pieces (a := a_p1) (a_series := a_p1_series) (a_pieces := a_p1_pieces) (a_trial := a_p1_trial) (a_moves := a_p1_moves) q63) mL_X2_59 mmX0_pieces rfl rfl ⟨Nat.le_of_ble_eq_true rfl, Nat.le_of_ble_eq_true rfl⟩ rfl rfl rfl rfl (Nat.le_of_ble_eq_true rfl) hA hw57 [2] [0, 1, 3, 4] rfl (by decide +kernel) rfl rfl rfl rfl dX2_writePart_63 (fun H locs hw63 => ?_)
        refine lv_astore (lv' := [(6, .ref (a_p1_pieces 0)), (5, .int r57), (4, .int r50), (0, .ref (a 0)), (1, .ref (a_p1 0)), (2, .int x2), (3, .int x3)]) hx hb dX2_writePart_66 hl (by decide) rfl (fun ls hl => ?_)
        refine lv_iconst (v := 0) hx hb dX2_writePart_68 (by decide) ?_
        refine lv_istore (lv' := [(7, .int 0), (6, .ref (a_p1_pieces 0)), (5, .int r57), (4, .int r50), (0, .ref (a 0)), (1, .ref (a_p1 0)), (2, .int x2), (3, .int x3)]) hx hb dX2_writePart_69 hl (by decide) rfl (fun ls hl => ?_)
        refine wX2_writePart_71 C hA _ (fun x7_71 g_signs_71 g_length_71 g_latest_71 H locs ls hw71x hl h => ?_) FU _ _ _ _ _ _ _ hw63 (lv_sub hl [4, 5, 6, 7, 3, 2, 1, 0] rfl) h
        cases h
        exact k_vret C hw71x dX2_writePart_153
  · replace h := br_t' h c6
    cases h
    exact k_vret C hw3 dX2_writePart_9
def rmX2_writeLabel : Room := { frames := 5, cells := 0, slots := 0, locals := 123 }
def fX2_writeLabel_6 (v_p1_series : Rg) (v_p1_pieces : Rg) (x2 : Int32) : (n : Nat) → (k : Int32 → (Nat → Int32) → Int32 → Int32 → Option ((Nat → Int32) × Int32 × Int32)) → Int32 → (Nat → Int32) → Int32 → Int32 → Option ((Nat → Int32) × Int32 × Int32)
  | 0, _, _, _, _, _ => none
  | n + 1, k, x3, g_signs, g_length, g_latest =>
    (fX0_seriesCount v_p1_series).bind fun r8 =>
    if r8 ≤ x3 then
      k x3 g_signs g_length g_latest
    else
      (fX2_writePart g_signs g_length g_latest v_p1_series v_p1_pieces x3 x2).bind fun r18 =>
      fX2_writeLabel_6 v_p1_series v_p1_pieces x2 n k (x3 + 1) r18.1 r18.2.1 r18.2.2
set_option maxRecDepth 100000 in
set_option maxHeartbeats 4000000 in
theorem wX2_writeLabel_6 {p : Program} {l : Launch} {e : Env} {s : State} {m : MethodId} {args : Array Value} {below : List Frame} {meth : Method} {c : Code} {D : va_G} {cI : ClassId} {cS : GS} {A : Nat → Prop} {a : Nat → Nat} {a_p1 : Nat → Nat} {a_p1_series : Nat → Nat} {a_p1_pieces : Nat → Nat} {a_p1_trial : Nat → Nat} {a_p1_moves : Nat → Nat} {g_p1_day : Int32} {v_p1_series : Rg} {v_p1_pieces : Rg} {x2 : Int32} (C : MC p s m args meth c D cI cS A RX2 cX2_writeLabel 4 none) (hA : ∀ q, s.heap.size ≤ q → A q) {s0 : (Nat → Int32)} {s1 : Int32} {s2 : Int32} (k : Int32 → (Nat → Int32) → Int32 → Int32 → Option ((Nat → Int32) × Int32 × Int32)) (hk : ∀ (x3 : Int32) (g_signs : Nat → Int32) (g_length : Int32) (g_latest : Int32) (H : Heap) (locs : List Loc) (ls : Array Slot), Wd D A s.heap H locs [oX2 a g_length g_latest, ar cI (a 1) 200 g_signs, oX0 a_p1 a_p1_series a_p1_pieces a_p1_trial a_p1_moves g_p1_day, cR cI a_p1_series 10 v_p1_series, cR cI a_p1_pieces 42 v_p1_pieces] → lv_has ls 4 [(0, .ref (a 0)), (1, .ref (a_p1 0)), (2, .int x2), (3, .int x3)] → k x3 g_signs g_length g_latest = some (s0, s1, s2) → W p l e rmX2_writeLabel s m args below meth c H locs 0 0 (KQ D A below args s none [oX2 a s1 s2, ar cI (a 1) 200 s0, oX0 a_p1 a_p1_series a_p1_pieces a_p1_trial a_p1_moves g_p1_day, cR cI a_p1_series 10 v_p1_series, cR cI a_p1_pieces 42 v_p1_pieces]) (F0 m 27 ls [])) :
    ∀ (n : Nat) (x3 : Int32) (g_signs : Nat → Int32) (g_length : Int32) (g_latest : Int32) (H : Heap) (locs : List Loc) (ls : Array Slot), Wd D A s.heap H locs [oX2 a g_length g_latest, ar cI (a 1) 200 g_signs, oX0 a_p1 a_p1_series a_p1_pieces a_p1_trial a_p1_moves g_p1_day, cR cI a_p1_series 10 v_p1_series, cR cI a_p1_pieces 42 v_p1_pieces] → lv_has ls 4 [(0, .ref (a 0)), (1, .ref (a_p1 0)), (2, .int x2), (3, .int x3)] → fX2_writeLabel_6 v_p1_series v_p1_pieces x2 n k x3 g_signs g_length g_latest = some (s0, s1, s2) → W p l e rmX2_writeLabel s m args below meth c H locs 0 0 (KQ D A below args s none [oX2 a s1 s2, ar cI (a 1) 200 s0, oX0 a_p1 a_p1_series a_p1_pieces a_p1_trial a_p1_moves g_p1_day, cR cI a_p1_series 10 v_p1_series, cR cI a_p1_pieces 42 v_p1_pieces]) (F0 m 6 ls []) := by
  have hx := C.1.1
  have hb := C.1.2.1
  intro n
  induction n with
  | zero =>
    intro x3 g_signs g_length g_latest H locs ls hw hl h
    rw [fX2_writeLabel_6] at h
    cases h
  | succ n ih =>
    intro x3 g_signs g_length g_latest H locs ls hw hl h
    rw [fX2_writeLabel_6] at h
    refine lv_iload_n hx hb dX2_writeLabel_6 rfl (lv_at hl 3 rfl) ?_
    refine lv_aload_n hx hb dX2_writeLabel_7 rfl (lv_at hl 1 rfl) ?_
    obtain ⟨r8, q8, h⟩ := bd h
    refine k_callV (nC := 5) [oX2 a g_length g_latest, ar cI (a 1) 200 g_signs, oX0 a_p1 a_p1_series a_p1_pieces a_p1_trial a_p1_moves g_p1_day, cR cI a_p1_series 10 v_p1_series, cR cI a_p1_pieces 42 v_p1_pieces] C hl.1 (tX0_seriesCount (a := a_p1) (a_series := a_p1_series) (a_pieces := a_p1_pieces) (a_trial := a_p1_trial) (a_moves := a_p1_moves) q8) mL_X2_31 mmX0_seriesCount rfl rfl ⟨Nat.le_of_ble_eq_true rfl, Nat.le_of_ble_eq_true rfl⟩ rfl rfl rfl rfl (Nat.le_of_ble_eq_true rfl) hA hw [2, 3] [0, 1, 4] rfl (by decide +kernel) rfl rfl rfl rfl dX2_writeLabel_8 (fun H locs hw8 => ?_)
    refine lv_icmp_ge (tgt := 27) hx hb dX2_writeLabel_11 (by decide) (fun c11 => ?_) (fun c11 => ?_)
    · replace h := br_t' h c11
      exact hk _ _ _ _ _ _ _ hw8 (lv_sub hl [0, 1, 2, 3] rfl) h
    · replace h := br_f' h c11
      refine lv_aload_n hx hb dX2_writeLabel_14 rfl (lv_at hl 0 rfl) ?_
      refine lv_aload_n hx hb dX2_writeLabel_15 rfl (lv_at hl 1 rfl) ?_
      refine lv_iload_n hx hb dX2_writeLabel_16 rfl (lv_at hl 3 rfl) ?_
      refine lv_iload_n hx hb dX2_writeLabel_17 rfl (lv_at hl 2 rfl) ?_
      obtain ⟨r18, q18, h⟩ := bd h
      refine k_callV (nC := 5) [oX2 a r18.2.1 r18.2.2, ar cI (a 1) 200 r18.1, oX0 a_p1 a_p1_series a_p1_pieces a_p1_trial a_p1_moves g_p1_day, cR cI a_p1_series 10 v_p1_series, cR cI a_p1_pieces 42 v_p1_pieces] C hl.1 (tX2_writePart (a := a) (a_p1 := a_p1) (a_p1_series := a_p1_series) (a_p1_pieces := a_p1_pieces) (a_p1_trial := a_p1_trial) (a_p1_moves := a_p1_moves) q18) mL_X2_37 mmX2_writePart rfl rfl ⟨Nat.le_of_ble_eq_true rfl, Nat.le_of_ble_eq_true rfl⟩ rfl rfl rfl rfl (Nat.le_of_ble_eq_true rfl) hA hw8 [0, 1, 2, 3, 4] [] rfl (by decide +kernel) rfl rfl rfl rfl dX2_writeLabel_18 (fun H locs hw18 => ?_)
      refine lv_iinc (v := (x3 + 1)) (lv' := [(3, .int (x3 + 1)), (0, .ref (a 0)), (1, .ref (a_p1 0)), (2, .int x2)]) hx hb dX2_writeLabel_21 hl (k := 3) rfl rfl (by decide) rfl (fun ls hl => ?_)
      refine lv_goto (tgt := 6) hx hb dX2_writeLabel_24 (by decide) ?_
      exact ih _ _ _ _ _ _ _ hw18 (lv_sub hl [1, 2, 3, 0] rfl) h
def fX2_writeLabel (g_signs : Nat → Int32) (g_length : Int32) (g_latest : Int32) (v_p1_series : Rg) (v_p1_pieces : Rg) (x2 : Int32) : Option ((Nat → Int32) × Int32 × Int32) :=
  (fX2_wipe g_length g_latest).bind fun r1 =>
  fX2_writeLabel_6 v_p1_series v_p1_pieces x2 FU (fun x3_6 g_signs_6 g_length_6 g_latest_6 =>
    (fX2_writePart g_signs_6 g_length_6 g_latest_6 v_p1_series v_p1_pieces (-1) x2).bind fun r31 =>
    some (r31.1, r31.2.1, r31.2.2)) 0 g_signs r1.1 r1.2
set_option maxRecDepth 100000 in
set_option maxHeartbeats 4000000 in
theorem tX2_writeLabel {l : Launch} {D : va_G} {cI : ClassId} {cS : GS} {a : Nat → Nat} {a_p1 : Nat → Nat} {a_p1_series : Nat → Nat} {a_p1_pieces : Nat → Nat} {a_p1_trial : Nat → Nat} {a_p1_moves : Nat → Nat} {g_signs : Nat → Int32} {g_length : Int32} {g_latest : Int32} {g_p1_day : Int32} {v_p1_series : Rg} {v_p1_pieces : Rg} {x2 : Int32} {s0 : (Nat → Int32)} {s1 : Int32} {s2 : Int32} (h : fX2_writeLabel g_signs g_length g_latest v_p1_series v_p1_pieces x2 = some (s0, s1, s2)) : CT l D cI cS yX2_writeLabel cX2_writeLabel 4 none rmX2_writeLabel [.ref (a 0), .ref (a_p1 0), .int x2] [oX2 a g_length g_latest, ar cI (a 1) 200 g_signs, oX0 a_p1 a_p1_series a_p1_pieces a_p1_trial a_p1_moves g_p1_day, cR cI a_p1_series 10 v_p1_series, cR cI a_p1_pieces 42 v_p1_pieces] none [oX2 a s1 s2, ar cI (a 1) 200 s0, oX0 a_p1 a_p1_series a_p1_pieces a_p1_trial a_p1_moves g_p1_day, cR cI a_p1_series 10 v_p1_series, cR cI a_p1_pieces 42 v_p1_pieces] := by
  refine CT.of RX2 (by decide) rfl (Nat.le_of_ble_eq_true rfl) (fun p e s m below meth c ls A C hA hl hw => ?_)
  have hx := C.1.1
  have hb := C.1.2.1
  have hl : lv_has ls 4 [(0, .ref (a 0)), (1, .ref (a_p1 0)), (2, .int x2)] := hl
  unfold fX2_writeLabel at h
  refine lv_aload_n hx hb dX2_writeLabel_0 rfl (lv_at hl 0 rfl) ?_
  obtain ⟨r1, q1, h⟩ := bd h
  refine k_callV (nC := 5) [oX2 a r1.1 r1.2, ar cI (a 1) 200 g_signs, oX0 a_p1 a_p1_series a_p1_pieces a_p1_trial a_p1_moves g_p1_day, cR cI a_p1_series 10 v_p1_series, cR cI a_p1_pieces 42 v_p1_pieces] C hl.1 (tX2_wipe (a := a) q1) mL_X2_28 mmX2_wipe rfl rfl ⟨Nat.le_of_ble_eq_true rfl, Nat.le_of_ble_eq_true rfl⟩ rfl rfl rfl rfl (Nat.le_of_ble_eq_true rfl) hA hw [0] [1, 2, 3, 4] rfl (by decide +kernel) rfl rfl rfl rfl dX2_writeLabel_1 (fun H locs hw1 => ?_)
  refine lv_iconst (v := 0) hx hb dX2_writeLabel_4 (by decide) ?_
  refine lv_istore_n (lv' := [(3, .int 0), (0, .ref (a 0)), (1, .ref (a_p1 0)), (2, .int x2)]) hx hb dX2_writeLabel_5 rfl hl (by decide) rfl (fun ls hl => ?_)
  refine wX2_writeLabel_6 C hA _ (fun x3_6 g_signs_6 g_length_6 g_latest_6 H locs ls hw6x hl h => ?_) FU _ _ _ _ _ _ _ hw1 (lv_sub hl [1, 2, 3, 0] rfl) h
  refine lv_aload_n hx hb dX2_writeLabel_27 rfl (lv_at hl 0 rfl) ?_
  refine lv_aload_n hx hb dX2_writeLabel_28 rfl (lv_at hl 1 rfl) ?_
  refine lv_iconst (v := (-1)) hx hb dX2_writeLabel_29 (by decide) ?_
  refine lv_iload_n hx hb dX2_writeLabel_30 rfl (lv_at hl 2 rfl) ?_
  obtain ⟨r31, q31, h⟩ := bd h
  refine k_callV (nC := 5) [oX2 a r31.2.1 r31.2.2, ar cI (a 1) 200 r31.1, oX0 a_p1 a_p1_series a_p1_pieces a_p1_trial a_p1_moves g_p1_day, cR cI a_p1_series 10 v_p1_series, cR cI a_p1_pieces 42 v_p1_pieces] C hl.1 (tX2_writePart (a := a) (a_p1 := a_p1) (a_p1_series := a_p1_series) (a_p1_pieces := a_p1_pieces) (a_p1_trial := a_p1_trial) (a_p1_moves := a_p1_moves) q31) mL_X2_37 mmX2_writePart rfl rfl ⟨Nat.le_of_ble_eq_true rfl, Nat.le_of_ble_eq_true rfl⟩ rfl rfl rfl rfl (Nat.le_of_ble_eq_true rfl) hA hw6x [0, 1, 2, 3, 4] [] rfl (by decide +kernel) rfl rfl rfl rfl dX2_writeLabel_31 (fun H locs hw31 => ?_)
  cases h
  exact k_vret C hw31 dX2_writeLabel_34
