def rmX4_size : Room := { frames := 0, cells := 0, slots := 0, locals := 0 }
def fX4_size (N : Nat) (v : Rg) : Option (Int32) :=
  some v.2.2.2
set_option maxRecDepth 100000 in
set_option maxHeartbeats 4000000 in
theorem tX4_size {l : Launch} {D : va_G} {cI : ClassId} {cS : GS} {a : Nat → Nat} {N : Nat} {v : Rg}  {s0 : Int32} (h : fX4_size N v = some s0) : CT l D cI cS yX4_size cX4_size 1 (some .int) rmX4_size [.ref (a 0)] [cR cI a N v] (some (.int s0)) [cR cI a N v] := by
  refine CT.of RX4 (by decide) rfl (Nat.le_of_ble_eq_true rfl) (fun p e s m below meth c ls A C hA hl hw => ?_)
  have hx := C.1.1
  have hb := C.1.2.1
  have hl : lv_has ls 1 [(0, .ref (a 0))] := hl
  unfold fX4_size at h
  refine lv_aload_n hx hb dX4_size_0 rfl (lv_at hl 0 rfl) ?_
  refine k_get C inT_X4 hw 0 rfl rfl 3 (by decide) mF_X4_27 rfl dX4_size_1 ?_
  cases h
  exact k_iret C hw dX4_size_4
def rmX4_has : Room := { frames := 0, cells := 0, slots := 0, locals := 0 }
def fX4_has (N : Nat) (v : Rg) (x1 : Int32) : Option (Int32) :=
  if x1 < 0 then
    some 0
  else
    if v.2.2.2 ≤ x1 then
      some 0
    else
      some 1
set_option maxRecDepth 100000 in
set_option maxHeartbeats 4000000 in
theorem tX4_has {l : Launch} {D : va_G} {cI : ClassId} {cS : GS} {a : Nat → Nat} {N : Nat} {v : Rg} {x1 : Int32} {s0 : Int32} (h : fX4_has N v x1 = some s0) : CT l D cI cS yX4_has cX4_has 2 (some .boolean) rmX4_has [.ref (a 0), .int x1] [cR cI a N v] (some (.int s0)) [cR cI a N v] := by
  refine CT.of RX4 (by decide) rfl (Nat.le_of_ble_eq_true rfl) (fun p e s m below meth c ls A C hA hl hw => ?_)
  have hx := C.1.1
  have hb := C.1.2.1
  have hl : lv_has ls 2 [(0, .ref (a 0)), (1, .int x1)] := hl
  unfold fX4_has at h
  refine lv_iload_n hx hb dX4_has_0 rfl (lv_at hl 1 rfl) ?_
  refine lv_if_lt (tgt := 16) hx hb dX4_has_1 (by decide) (fun c1 => ?_) (fun c1 => ?_)
  · replace h := br_t' h c1
    refine lv_iconst (v := 0) hx hb dX4_has_16 (by decide) ?_
    cases h
    exact k_zret (v := 0) C rfl hw dX4_has_17
  · replace h := br_f' h c1
    refine lv_iload_n hx hb dX4_has_4 rfl (lv_at hl 1 rfl) ?_
    refine lv_aload_n hx hb dX4_has_5 rfl (lv_at hl 0 rfl) ?_
    refine k_get C inT_X4 hw 0 rfl rfl 3 (by decide) mF_X4_27 rfl dX4_has_6 ?_
    refine lv_icmp_ge (tgt := 16) hx hb dX4_has_9 (by decide) (fun c9 => ?_) (fun c9 => ?_)
    · replace h := br_t' h c9
      refine lv_iconst (v := 0) hx hb dX4_has_16 (by decide) ?_
      cases h
      exact k_zret (v := 0) C rfl hw dX4_has_17
    · replace h := br_f' h c9
      refine lv_iconst (v := 1) hx hb dX4_has_12 (by decide) ?_
      refine lv_goto (tgt := 17) hx hb dX4_has_13 (by decide) ?_
      cases h
      exact k_zret (v := 1) C rfl hw dX4_has_17
def rmX4_markOf : Room := { frames := 1, cells := 0, slots := 0, locals := 21 }
def fX4_markOf (N : Nat) (v : Rg) (x1 : Int32) : Option (Int32) :=
  (fX4_has N v x1).bind fun r2 =>
  if r2 = 0 then
    some (-1)
  else
    (ld N v.1 x1).bind fun y13 =>
    some y13
set_option maxRecDepth 100000 in
set_option maxHeartbeats 4000000 in
theorem tX4_markOf {l : Launch} {D : va_G} {cI : ClassId} {cS : GS} {a : Nat → Nat} {N : Nat} {v : Rg} {x1 : Int32} {s0 : Int32} (h : fX4_markOf N v x1 = some s0) : CT l D cI cS yX4_markOf cX4_markOf 2 (some .int) rmX4_markOf [.ref (a 0), .int x1] [cR cI a N v] (some (.int s0)) [cR cI a N v] := by
  refine CT.of RX4 (by decide) rfl (Nat.le_of_ble_eq_true rfl) (fun p e s m below meth c ls A C hA hl hw => ?_)
  have hx := C.1.1
  have hb := C.1.2.1
  have hl : lv_has ls 2 [(0, .ref (a 0)), (1, .int x1)] := hl
  unfold fX4_markOf at h
  refine lv_aload_n hx hb dX4_markOf_0 rfl (lv_at hl 0 rfl) ?_
  refine lv_iload_n hx hb dX4_markOf_1 rfl (lv_at hl 1 rfl) ?_
  obtain ⟨r2, q2, h⟩ := bd h
  refine k_callV (nC := 1) [cR cI a N v] C hl.1 (tX4_has (a := a) q2) mL_X4_31 mmX4_has rfl rfl ⟨Nat.le_of_ble_eq_true rfl, Nat.le_of_ble_eq_true rfl⟩ rfl rfl rfl rfl (Nat.le_of_ble_eq_true rfl) hA hw [0] [] rfl (by decide +kernel) rfl rfl rfl rfl dX4_markOf_2 (fun H locs hw2 => ?_)
  refine lv_if_eq (tgt := 17) hx hb dX4_markOf_5 (by decide) (fun c5 => ?_) (fun c5 => ?_)
  · replace h := br_t' h c5
    refine lv_iconst (v := (-1)) hx hb dX4_markOf_17 (by decide) ?_
    cases h
    exact k_iret C hw2 dX4_markOf_18
  · replace h := br_f' h c5
    refine lv_aload_n hx hb dX4_markOf_8 rfl (lv_at hl 0 rfl) ?_
    refine k_get C inT_X4 hw2 0 rfl rfl 0 (by decide) mF_X4_15 rfl dX4_markOf_9 ?_
    refine lv_iload_n hx hb dX4_markOf_12 rfl (lv_at hl 1 rfl) ?_
    obtain ⟨y13, q13, h⟩ := bd h
    refine k_iald C hw2 1 rfl q13 dX4_markOf_13 ?_
    refine lv_goto (tgt := 18) hx hb dX4_markOf_14 (by decide) ?_
    cases h
    exact k_iret C hw2 dX4_markOf_18
def rmX4_firstOf : Room := { frames := 1, cells := 0, slots := 0, locals := 21 }
def fX4_firstOf (N : Nat) (v : Rg) (x1 : Int32) : Option (Int32) :=
  (fX4_has N v x1).bind fun r2 =>
  if r2 = 0 then
    some (-1)
  else
    (ld N v.2.1 x1).bind fun y13 =>
    some y13
set_option maxRecDepth 100000 in
set_option maxHeartbeats 4000000 in
theorem tX4_firstOf {l : Launch} {D : va_G} {cI : ClassId} {cS : GS} {a : Nat → Nat} {N : Nat} {v : Rg} {x1 : Int32} {s0 : Int32} (h : fX4_firstOf N v x1 = some s0) : CT l D cI cS yX4_firstOf cX4_firstOf 2 (some .int) rmX4_firstOf [.ref (a 0), .int x1] [cR cI a N v] (some (.int s0)) [cR cI a N v] := by
  refine CT.of RX4 (by decide) rfl (Nat.le_of_ble_eq_true rfl) (fun p e s m below meth c ls A C hA hl hw => ?_)
  have hx := C.1.1
  have hb := C.1.2.1
  have hl : lv_has ls 2 [(0, .ref (a 0)), (1, .int x1)] := hl
  unfold fX4_firstOf at h
  refine lv_aload_n hx hb dX4_firstOf_0 rfl (lv_at hl 0 rfl) ?_
  refine lv_iload_n hx hb dX4_firstOf_1 rfl (lv_at hl 1 rfl) ?_
  obtain ⟨r2, q2, h⟩ := bd h
  refine k_callV (nC := 1) [cR cI a N v] C hl.1 (tX4_has (a := a) q2) mL_X4_31 mmX4_has rfl rfl ⟨Nat.le_of_ble_eq_true rfl, Nat.le_of_ble_eq_true rfl⟩ rfl rfl rfl rfl (Nat.le_of_ble_eq_true rfl) hA hw [0] [] rfl (by decide +kernel) rfl rfl rfl rfl dX4_firstOf_2 (fun H locs hw2 => ?_)
  refine lv_if_eq (tgt := 17) hx hb dX4_firstOf_5 (by decide) (fun c5 => ?_) (fun c5 => ?_)
  · replace h := br_t' h c5
    refine lv_iconst (v := (-1)) hx hb dX4_firstOf_17 (by decide) ?_
    cases h
    exact k_iret C hw2 dX4_firstOf_18
  · replace h := br_f' h c5
    refine lv_aload_n hx hb dX4_firstOf_8 rfl (lv_at hl 0 rfl) ?_
    refine k_get C inT_X4 hw2 0 rfl rfl 1 (by decide) mF_X4_21 rfl dX4_firstOf_9 ?_
    refine lv_iload_n hx hb dX4_firstOf_12 rfl (lv_at hl 1 rfl) ?_
    obtain ⟨y13, q13, h⟩ := bd h
    refine k_iald C hw2 2 rfl q13 dX4_firstOf_13 ?_
    refine lv_goto (tgt := 18) hx hb dX4_firstOf_14 (by decide) ?_
    cases h
    exact k_iret C hw2 dX4_firstOf_18
def rmX4_lastOf : Room := { frames := 1, cells := 0, slots := 0, locals := 21 }
def fX4_lastOf (N : Nat) (v : Rg) (x1 : Int32) : Option (Int32) :=
  (fX4_has N v x1).bind fun r2 =>
  if r2 = 0 then
    some (-1)
  else
    (ld N v.2.2.1 x1).bind fun y13 =>
    some y13
set_option maxRecDepth 100000 in
set_option maxHeartbeats 4000000 in
theorem tX4_lastOf {l : Launch} {D : va_G} {cI : ClassId} {cS : GS} {a : Nat → Nat} {N : Nat} {v : Rg} {x1 : Int32} {s0 : Int32} (h : fX4_lastOf N v x1 = some s0) : CT l D cI cS yX4_lastOf cX4_lastOf 2 (some .int) rmX4_lastOf [.ref (a 0), .int x1] [cR cI a N v] (some (.int s0)) [cR cI a N v] := by
  refine CT.of RX4 (by decide) rfl (Nat.le_of_ble_eq_true rfl) (fun p e s m below meth c ls A C hA hl hw => ?_)
  have hx := C.1.1
  have hb := C.1.2.1
  have hl : lv_has ls 2 [(0, .ref (a 0)), (1, .int x1)] := hl
  unfold fX4_lastOf at h
  refine lv_aload_n hx hb dX4_lastOf_0 rfl (lv_at hl 0 rfl) ?_
  refine lv_iload_n hx hb dX4_lastOf_1 rfl (lv_at hl 1 rfl) ?_
  obtain ⟨r2, q2, h⟩ := bd h
  refine k_callV (nC := 1) [cR cI a N v] C hl.1 (tX4_has (a := a) q2) mL_X4_31 mmX4_has rfl rfl ⟨Nat.le_of_ble_eq_true rfl, Nat.le_of_ble_eq_true rfl⟩ rfl rfl rfl rfl (Nat.le_of_ble_eq_true rfl) hA hw [0] [] rfl (by decide +kernel) rfl rfl rfl rfl dX4_lastOf_2 (fun H locs hw2 => ?_)
  refine lv_if_eq (tgt := 17) hx hb dX4_lastOf_5 (by decide) (fun c5 => ?_) (fun c5 => ?_)
  · replace h := br_t' h c5
    refine lv_iconst (v := (-1)) hx hb dX4_lastOf_17 (by decide) ?_
    cases h
    exact k_iret C hw2 dX4_lastOf_18
  · replace h := br_f' h c5
    refine lv_aload_n hx hb dX4_lastOf_8 rfl (lv_at hl 0 rfl) ?_
    refine k_get C inT_X4 hw2 0 rfl rfl 2 (by decide) mF_X4_24 rfl dX4_lastOf_9 ?_
    refine lv_iload_n hx hb dX4_lastOf_12 rfl (lv_at hl 1 rfl) ?_
    obtain ⟨y13, q13, h⟩ := bd h
    refine k_iald C hw2 3 rfl q13 dX4_lastOf_13 ?_
    refine lv_goto (tgt := 18) hx hb dX4_lastOf_14 (by decide) ?_
    cases h
    exact k_iret C hw2 dX4_lastOf_18
def rmX4_add : Room := { frames := 0, cells := 0, slots := 0, locals := 0 }
def fX4_add (N : Nat) (v : Rg) (x1 : Int32) (x2 : Int32) (x3 : Int32) : Option (Int32 × Rg) :=
  if v.2.2.2 < (nI N) then
    (sv N v.1 v.2.2.2 x1).bind fun g23 =>
    (sv N v.2.1 v.2.2.2 x2).bind fun g33 =>
    (sv N v.2.2.1 v.2.2.2 x3).bind fun g43 =>
    some (1, (g23, g33, g43, (v.2.2.2 + 1)))
  else
    some (0, v)
set_option maxRecDepth 100000 in
set_option maxHeartbeats 4000000 in
theorem tX4_add {l : Launch} {D : va_G} {cI : ClassId} {cS : GS} {a : Nat → Nat} {N : Nat} {v : Rg} {x1 : Int32} {x2 : Int32} {x3 : Int32} {s0 : Int32} {s1 : Rg} (h : fX4_add N v x1 x2 x3 = some (s0, s1)) : CT l D cI cS yX4_add cX4_add 4 (some .boolean) rmX4_add [.ref (a 0), .int x1, .int x2, .int x3] [cR cI a N v] (some (.int s0)) [cR cI a N s1] := by
  refine CT.of RX4 (by decide) rfl (Nat.le_of_ble_eq_true rfl) (fun p e s m below meth c ls A C hA hl hw => ?_)
  have hx := C.1.1
  have hb := C.1.2.1
  have hl : lv_has ls 4 [(0, .ref (a 0)), (1, .int x1), (2, .int x2), (3, .int x3)] := hl
  unfold fX4_add at h
  refine lv_aload_n hx hb dX4_add_0 rfl (lv_at hl 0 rfl) ?_
  refine k_get C inT_X4 hw 0 rfl rfl 3 (by decide) mF_X4_27 rfl dX4_add_1 ?_
  refine lv_aload_n hx hb dX4_add_4 rfl (lv_at hl 0 rfl) ?_
  refine k_get C inT_X4 hw 0 rfl rfl 1 (by decide) mF_X4_21 rfl dX4_add_5 ?_
  refine k_alen C hw 2 rfl dX4_add_8 ?_
  refine lv_icmp_lt (tgt := 14) hx hb dX4_add_9 (by decide) (fun c9 => ?_) (fun c9 => ?_)
  · replace h := br_t' h c9
    refine lv_aload_n hx hb dX4_add_14 rfl (lv_at hl 0 rfl) ?_
    refine k_get C inT_X4 hw 0 rfl rfl 0 (by decide) mF_X4_15 rfl dX4_add_15 ?_
    refine lv_aload_n hx hb dX4_add_18 rfl (lv_at hl 0 rfl) ?_
    refine k_get C inT_X4 hw 0 rfl rfl 3 (by decide) mF_X4_27 rfl dX4_add_19 ?_
    refine lv_iload_n hx hb dX4_add_22 rfl (lv_at hl 1 rfl) ?_
    obtain ⟨g23, q23, h⟩ := bd h
    refine k_iast C hw 1 rfl q23 [cR cI a N (g23, v.2.1, v.2.2.1, v.2.2.2)] rfl dX4_add_23 (fun H locs hw23 => ?_)
    refine lv_aload_n hx hb dX4_add_24 rfl (lv_at hl 0 rfl) ?_
    refine k_get C inT_X4 hw23 0 rfl rfl 1 (by decide) mF_X4_21 rfl dX4_add_25 ?_
    refine lv_aload_n hx hb dX4_add_28 rfl (lv_at hl 0 rfl) ?_
    refine k_get C inT_X4 hw23 0 rfl rfl 3 (by decide) mF_X4_27 rfl dX4_add_29 ?_
    refine lv_iload_n hx hb dX4_add_32 rfl (lv_at hl 2 rfl) ?_
    obtain ⟨g33, q33, h⟩ := bd h
    refine k_iast C hw23 2 rfl q33 [cR cI a N (g23, g33, v.2.2.1, v.2.2.2)] rfl dX4_add_33 (fun H locs hw33 => ?_)
    refine lv_aload_n hx hb dX4_add_34 rfl (lv_at hl 0 rfl) ?_
    refine k_get C inT_X4 hw33 0 rfl rfl 2 (by decide) mF_X4_24 rfl dX4_add_35 ?_
    refine lv_aload_n hx hb dX4_add_38 rfl (lv_at hl 0 rfl) ?_
    refine k_get C inT_X4 hw33 0 rfl rfl 3 (by decide) mF_X4_27 rfl dX4_add_39 ?_
    refine lv_iload_n hx hb dX4_add_42 rfl (lv_at hl 3 rfl) ?_
    obtain ⟨g43, q43, h⟩ := bd h
    refine k_iast C hw33 3 rfl q43 [cR cI a N (g23, g33, g43, v.2.2.2)] rfl dX4_add_43 (fun H locs hw43 => ?_)
    refine lv_aload_n hx hb dX4_add_44 rfl (lv_at hl 0 rfl) ?_
    refine lv_dup hx hb dX4_add_45 rfl ?_
    refine k_get C inT_X4 hw43 0 rfl rfl 3 (by decide) mF_X4_27 rfl dX4_add_46 ?_
    refine lv_iconst (v := 1) hx hb dX4_add_49 (by decide) ?_
    refine lv_iadd hx hb dX4_add_50 ?_
    refine k_put C inT_X4 tyX4 tyX4_ok nmX4 hw43 0 rfl rfl 3 (by decide) mF_X4_27 rfl rfl (Nat.le_of_ble_eq_true rfl) [cR cI a N (g23, g33, g43, (v.2.2.2 + 1))] rfl dX4_add_51 (fun H locs hw51 => ?_)
    refine lv_iconst (v := 1) hx hb dX4_add_54 (by decide) ?_
    cases h
    exact k_zret (v := 1) C rfl hw51 dX4_add_55
  · replace h := br_f' h c9
    refine lv_iconst (v := 0) hx hb dX4_add_12 (by decide) ?_
    cases h
    exact k_zret (v := 0) C rfl hw dX4_add_13
def rmX4_join : Room := { frames := 1, cells := 0, slots := 0, locals := 23 }
def fX4_join (N : Nat) (v : Rg) (x1 : Int32) (x2 : Int32) (x3 : Int32) : Option (Rg) :=
  if (v.2.2.2 - 1) < 0 then
    (fX4_add N v x1 x2 x3).bind fun r52 =>
    some r52.2
  else
    (ld N v.1 (v.2.2.2 - 1)).bind fun y19 =>
    if y19 = x1 then
      (ld N v.2.2.1 (v.2.2.2 - 1)).bind fun y30 =>
      if y30 = (x2 - 1) then
        (sv N v.2.2.1 (v.2.2.2 - 1) x3).bind fun g44 =>
        some (v.1, v.2.1, g44, v.2.2.2)
      else
        (fX4_add N v x1 x2 x3).bind fun r52 =>
        some r52.2
    else
      (fX4_add N v x1 x2 x3).bind fun r52 =>
      some r52.2
set_option maxRecDepth 100000 in
set_option maxHeartbeats 4000000 in
theorem tX4_join {l : Launch} {D : va_G} {cI : ClassId} {cS : GS} {a : Nat → Nat} {N : Nat} {v : Rg} {x1 : Int32} {x2 : Int32} {x3 : Int32} {s0 : Rg} (h : fX4_join N v x1 x2 x3 = some s0) : CT l D cI cS yX4_join cX4_join 5 none rmX4_join [.ref (a 0), .int x1, .int x2, .int x3] [cR cI a N v] none [cR cI a N s0] := by
  refine CT.of RX4 (by decide) rfl (Nat.le_of_ble_eq_true rfl) (fun p e s m below meth c ls A C hA hl hw => ?_)
  have hx := C.1.1
  have hb := C.1.2.1
  have hl : lv_has ls 5 [(0, .ref (a 0)), (1, .int x1), (2, .int x2), (3, .int x3)] := hl
  unfold fX4_join at h
  refine lv_aload_n hx hb dX4_join_0 rfl (lv_at hl 0 rfl) ?_
  refine k_get C inT_X4 hw 0 rfl rfl 3 (by decide) mF_X4_27 rfl dX4_join_1 ?_
  refine lv_iconst (v := 1) hx hb dX4_join_4 (by decide) ?_
  refine lv_isub hx hb dX4_join_5 ?_
  refine lv_istore (lv' := [(4, .int (v.2.2.2 - 1)), (0, .ref (a 0)), (1, .int x1), (2, .int x2), (3, .int x3)]) hx hb dX4_join_6 hl (by decide) rfl (fun ls hl => ?_)
  refine lv_iload hx hb dX4_join_8 (lv_at hl 0 rfl) ?_
  refine lv_if_lt (tgt := 48) hx hb dX4_join_10 (by decide) (fun c10 => ?_) (fun c10 => ?_)
  · replace h := br_t' h c10
    refine lv_aload_n hx hb dX4_join_48 rfl (lv_at hl 1 rfl) ?_
    refine lv_iload_n hx hb dX4_join_49 rfl (lv_at hl 2 rfl) ?_
    refine lv_iload_n hx hb dX4_join_50 rfl (lv_at hl 3 rfl) ?_
    refine lv_iload_n hx hb dX4_join_51 rfl (lv_at hl 4 rfl) ?_
    obtain ⟨r52, q52, h⟩ := bd h
    refine k_callV (nC := 1) [cR cI a N r52.2] C hl.1 (tX4_add (a := a) q52) mL_X4_35 mmX4_add rfl rfl ⟨Nat.le_of_ble_eq_true rfl, Nat.le_of_ble_eq_true rfl⟩ rfl rfl rfl rfl (Nat.le_of_ble_eq_true rfl) hA hw [0] [] rfl (by decide +kernel) rfl rfl rfl rfl dX4_join_52 (fun H locs hw52 => ?_)
    refine lv_pop hx hb dX4_join_55 rfl ?_
    cases h
    exact k_vret C hw52 dX4_join_56
  · replace h := br_f' h c10
    refine lv_aload_n hx hb dX4_join_13 rfl (lv_at hl 1 rfl) ?_
    refine k_get C inT_X4 hw 0 rfl rfl 0 (by decide) mF_X4_15 rfl dX4_join_14 ?_
    refine lv_iload hx hb dX4_join_17 (lv_at hl 0 rfl) ?_
    obtain ⟨y19, q19, h⟩ := bd h
    refine k_iald C hw 1 rfl q19 dX4_join_19 ?_
    refine lv_iload_n hx hb dX4_join_20 rfl (lv_at hl 2 rfl) ?_
    refine lv_icmp_ne (tgt := 48) hx hb dX4_join_21 (by decide) (fun c21 => ?_) (fun c21 => ?_)
    · replace h := br_f' h c21
      refine lv_aload_n hx hb dX4_join_48 rfl (lv_at hl 1 rfl) ?_
      refine lv_iload_n hx hb dX4_join_49 rfl (lv_at hl 2 rfl) ?_
      refine lv_iload_n hx hb dX4_join_50 rfl (lv_at hl 3 rfl) ?_
      refine lv_iload_n hx hb dX4_join_51 rfl (lv_at hl 4 rfl) ?_
      obtain ⟨r52, q52, h⟩ := bd h
      refine k_callV (nC := 1) [cR cI a N r52.2] C hl.1 (tX4_add (a := a) q52) mL_X4_35 mmX4_add rfl rfl ⟨Nat.le_of_ble_eq_true rfl, Nat.le_of_ble_eq_true rfl⟩ rfl rfl rfl rfl (Nat.le_of_ble_eq_true rfl) hA hw [0] [] rfl (by decide +kernel) rfl rfl rfl rfl dX4_join_52 (fun H locs hw52 => ?_)
      refine lv_pop hx hb dX4_join_55 rfl ?_
      cases h
      exact k_vret C hw52 dX4_join_56
    · replace h := br_t' h c21
      refine lv_aload_n hx hb dX4_join_24 rfl (lv_at hl 1 rfl) ?_
      refine k_get C inT_X4 hw 0 rfl rfl 2 (by decide) mF_X4_24 rfl dX4_join_25 ?_
      refine lv_iload hx hb dX4_join_28 (lv_at hl 0 rfl) ?_
      obtain ⟨y30, q30, h⟩ := bd h
      refine k_iald C hw 3 rfl q30 dX4_join_30 ?_
      refine lv_iload_n hx hb dX4_join_31 rfl (lv_at hl 3 rfl) ?_
      refine lv_iconst (v := 1) hx hb dX4_join_32 (by decide) ?_
      refine lv_isub hx hb dX4_join_33 ?_
      refine lv_icmp_ne (tgt := 48) hx hb dX4_join_34 (by decide) (fun c34 => ?_) (fun c34 => ?_)
      · replace h := br_f' h c34
        refine lv_aload_n hx hb dX4_join_48 rfl (lv_at hl 1 rfl) ?_
        refine lv_iload_n hx hb dX4_join_49 rfl (lv_at hl 2 rfl) ?_
        refine lv_iload_n hx hb dX4_join_50 rfl (lv_at hl 3 rfl) ?_
        refine lv_iload_n hx hb dX4_join_51 rfl (lv_at hl 4 rfl) ?_
        obtain ⟨r52, q52, h⟩ := bd h
        refine k_callV (nC := 1) [cR cI a N r52.2] C hl.1 (tX4_add (a := a) q52) mL_X4_35 mmX4_add rfl rfl ⟨Nat.le_of_ble_eq_true rfl, Nat.le_of_ble_eq_true rfl⟩ rfl rfl rfl rfl (Nat.le_of_ble_eq_true rfl) hA hw [0] [] rfl (by decide +kernel) rfl rfl rfl rfl dX4_join_52 (fun H locs hw52 => ?_)
        refine lv_pop hx hb dX4_join_55 rfl ?_
        cases h
        exact k_vret C hw52 dX4_join_56
      · replace h := br_t' h c34
        refine lv_aload_n hx hb dX4_join_37 rfl (lv_at hl 1 rfl) ?_
        refine k_get C inT_X4 hw 0 rfl rfl 2 (by decide) mF_X4_24 rfl dX4_join_38 ?_
        refine lv_iload hx hb dX4_join_41 (lv_at hl 0 rfl) ?_
        refine lv_iload_n hx hb dX4_join_43 rfl (lv_at hl 4 rfl) ?_
        obtain ⟨g44, q44, h⟩ := bd h
        refine k_iast C hw 3 rfl q44 [cR cI a N (v.1, v.2.1, g44, v.2.2.2)] rfl dX4_join_44 (fun H locs hw44 => ?_)
        refine lv_goto (tgt := 56) hx hb dX4_join_45 (by decide) ?_
        cases h
        exact k_vret C hw44 dX4_join_56
def rmX4_cutTo : Room := { frames := 0, cells := 0, slots := 0, locals := 0 }
def fX4_cutTo (N : Nat) (v : Rg) (x1 : Int32) : Option (Rg) :=
  if x1 < 0 then
    some v
  else
    if v.2.2.2 ≤ x1 then
      some v
    else
      some (v.1, v.2.1, v.2.2.1, x1)
set_option maxRecDepth 100000 in
set_option maxHeartbeats 4000000 in
theorem tX4_cutTo {l : Launch} {D : va_G} {cI : ClassId} {cS : GS} {a : Nat → Nat} {N : Nat} {v : Rg} {x1 : Int32} {s0 : Rg} (h : fX4_cutTo N v x1 = some s0) : CT l D cI cS yX4_cutTo cX4_cutTo 2 none rmX4_cutTo [.ref (a 0), .int x1] [cR cI a N v] none [cR cI a N s0] := by
  refine CT.of RX4 (by decide) rfl (Nat.le_of_ble_eq_true rfl) (fun p e s m below meth c ls A C hA hl hw => ?_)
  have hx := C.1.1
  have hb := C.1.2.1
  have hl : lv_has ls 2 [(0, .ref (a 0)), (1, .int x1)] := hl
  unfold fX4_cutTo at h
  refine lv_iload_n hx hb dX4_cutTo_0 rfl (lv_at hl 1 rfl) ?_
  refine lv_if_lt (tgt := 17) hx hb dX4_cutTo_1 (by decide) (fun c1 => ?_) (fun c1 => ?_)
  · replace h := br_t' h c1
    cases h
    exact k_vret C hw dX4_cutTo_17
  · replace h := br_f' h c1
    refine lv_iload_n hx hb dX4_cutTo_4 rfl (lv_at hl 1 rfl) ?_
    refine lv_aload_n hx hb dX4_cutTo_5 rfl (lv_at hl 0 rfl) ?_
    refine k_get C inT_X4 hw 0 rfl rfl 3 (by decide) mF_X4_27 rfl dX4_cutTo_6 ?_
    refine lv_icmp_ge (tgt := 17) hx hb dX4_cutTo_9 (by decide) (fun c9 => ?_) (fun c9 => ?_)
    · replace h := br_t' h c9
      cases h
      exact k_vret C hw dX4_cutTo_17
    · replace h := br_f' h c9
      refine lv_aload_n hx hb dX4_cutTo_12 rfl (lv_at hl 0 rfl) ?_
      refine lv_iload_n hx hb dX4_cutTo_13 rfl (lv_at hl 1 rfl) ?_
      refine k_put C inT_X4 tyX4 tyX4_ok nmX4 hw 0 rfl rfl 3 (by decide) mF_X4_27 rfl rfl (Nat.le_of_ble_eq_true rfl) [cR cI a N (v.1, v.2.1, v.2.2.1, x1)] rfl dX4_cutTo_14 (fun H locs hw14 => ?_)
      cases h
      exact k_vret C hw14 dX4_cutTo_17
def rmX4_copyFrom : Room := { frames := 1, cells := 0, slots := 0, locals := 26 }
def fX4_copyFrom (N : Nat) (Np1 : Nat) (v : Rg) (v_p1 : Rg) : Option (Rg) :=
  (cpy Np1 v_p1.1 0 N v.1 0 (imin v_p1.2.2.2 (nI N))).bind fun g24 =>
  (cpy Np1 v_p1.2.1 0 N v.2.1 0 (imin v_p1.2.2.2 (nI N))).bind fun g38 =>
  (cpy Np1 v_p1.2.2.1 0 N v.2.2.1 0 (imin v_p1.2.2.2 (nI N))).bind fun g52 =>
  some (g24, g38, g52, (imin v_p1.2.2.2 (nI N)))
set_option maxRecDepth 100000 in
set_option maxHeartbeats 4000000 in
theorem tX4_copyFrom {l : Launch} {D : va_G} {cI : ClassId} {cS : GS} {a : Nat → Nat} {a_p1 : Nat → Nat} {N : Nat} {Np1 : Nat} {v : Rg} {v_p1 : Rg}  {s0 : Rg} (h : fX4_copyFrom N Np1 v v_p1 = some s0) : CT l D cI cS yX4_copyFrom cX4_copyFrom 3 none rmX4_copyFrom [.ref (a 0), .ref (a_p1 0)] [cR cI a N v, cR cI a_p1 Np1 v_p1] none [cR cI a N s0, cR cI a_p1 Np1 v_p1] := by
  refine CT.of RX4 (by decide) rfl (Nat.le_of_ble_eq_true rfl) (fun p e s m below meth c ls A C hA hl hw => ?_)
  have hx := C.1.1
  have hb := C.1.2.1
  have hl : lv_has ls 3 [(0, .ref (a 0)), (1, .ref (a_p1 0))] := hl
  unfold fX4_copyFrom at h
  refine lv_aload_n hx hb dX4_copyFrom_0 rfl (lv_at hl 1 rfl) ?_
  refine k_get C inT_X4 hw 4 rfl rfl 3 (by decide) mF_X4_27 rfl dX4_copyFrom_1 ?_
  refine lv_aload_n hx hb dX4_copyFrom_4 rfl (lv_at hl 0 rfl) ?_
  refine k_get C inT_X4 hw 0 rfl rfl 1 (by decide) mF_X4_21 rfl dX4_copyFrom_5 ?_
  refine k_alen C hw 2 rfl dX4_copyFrom_8 ?_
  refine k_mmin C hl.1 mL_X4_39 mm_min (Nat.le_of_ble_eq_true rfl) (Nat.le_of_ble_eq_true rfl) dX4_copyFrom_9 ?_
  refine lv_istore_n (lv' := [(2, .int (imin v_p1.2.2.2 (nI N))), (0, .ref (a 0)), (1, .ref (a_p1 0))]) hx hb dX4_copyFrom_12 rfl hl (by decide) rfl (fun ls hl => ?_)
  refine lv_aload_n hx hb dX4_copyFrom_13 rfl (lv_at hl 2 rfl) ?_
  refine k_get C inT_X4 hw 4 rfl rfl 0 (by decide) mF_X4_15 rfl dX4_copyFrom_14 ?_
  refine lv_iconst (v := 0) hx hb dX4_copyFrom_17 (by decide) ?_
  refine lv_aload_n hx hb dX4_copyFrom_18 rfl (lv_at hl 1 rfl) ?_
  refine k_get C inT_X4 hw 0 rfl rfl 0 (by decide) mF_X4_15 rfl dX4_copyFrom_19 ?_
  refine lv_iconst (v := 0) hx hb dX4_copyFrom_22 (by decide) ?_
  refine lv_iload_n hx hb dX4_copyFrom_23 rfl (lv_at hl 0 rfl) ?_
  obtain ⟨g24, q24, h⟩ := bd h
  refine k_copy C hl.1 mL_X4_42 mm_copy hw 5 1 rfl rfl q24 (Nat.le_of_ble_eq_true rfl) (Nat.le_of_ble_eq_true rfl) [cR cI a N (g24, v.2.1, v.2.2.1, v.2.2.2), cR cI a_p1 Np1 v_p1] rfl dX4_copyFrom_24 (fun H locs hw24 => ?_)
  refine lv_aload_n hx hb dX4_copyFrom_27 rfl (lv_at hl 2 rfl) ?_
  refine k_get C inT_X4 hw24 4 rfl rfl 1 (by decide) mF_X4_21 rfl dX4_copyFrom_28 ?_
  refine lv_iconst (v := 0) hx hb dX4_copyFrom_31 (by decide) ?_
  refine lv_aload_n hx hb dX4_copyFrom_32 rfl (lv_at hl 1 rfl) ?_
  refine k_get C inT_X4 hw24 0 rfl rfl 1 (by decide) mF_X4_21 rfl dX4_copyFrom_33 ?_
  refine lv_iconst (v := 0) hx hb dX4_copyFrom_36 (by decide) ?_
  refine lv_iload_n hx hb dX4_copyFrom_37 rfl (lv_at hl 0 rfl) ?_
  obtain ⟨g38, q38, h⟩ := bd h
  refine k_copy C hl.1 mL_X4_42 mm_copy hw24 6 2 rfl rfl q38 (Nat.le_of_ble_eq_true rfl) (Nat.le_of_ble_eq_true rfl) [cR cI a N (g24, g38, v.2.2.1, v.2.2.2), cR cI a_p1 Np1 v_p1] rfl dX4_copyFrom_38 (fun H locs hw38 => ?_)
  refine lv_aload_n hx hb dX4_copyFrom_41 rfl (lv_at hl 2 rfl) ?_
  refine k_get C inT_X4 hw38 4 rfl rfl 2 (by decide) mF_X4_24 rfl dX4_copyFrom_42 ?_
  refine lv_iconst (v := 0) hx hb dX4_copyFrom_45 (by decide) ?_
  refine lv_aload_n hx hb dX4_copyFrom_46 rfl (lv_at hl 1 rfl) ?_
  refine k_get C inT_X4 hw38 0 rfl rfl 2 (by decide) mF_X4_24 rfl dX4_copyFrom_47 ?_
  refine lv_iconst (v := 0) hx hb dX4_copyFrom_50 (by decide) ?_
  refine lv_iload_n hx hb dX4_copyFrom_51 rfl (lv_at hl 0 rfl) ?_
  obtain ⟨g52, q52, h⟩ := bd h
  refine k_copy C hl.1 mL_X4_42 mm_copy hw38 7 3 rfl rfl q52 (Nat.le_of_ble_eq_true rfl) (Nat.le_of_ble_eq_true rfl) [cR cI a N (g24, g38, g52, v.2.2.2), cR cI a_p1 Np1 v_p1] rfl dX4_copyFrom_52 (fun H locs hw52 => ?_)
  refine lv_aload_n hx hb dX4_copyFrom_55 rfl (lv_at hl 1 rfl) ?_
  refine lv_iload_n hx hb dX4_copyFrom_56 rfl (lv_at hl 0 rfl) ?_
  refine k_put C inT_X4 tyX4 tyX4_ok nmX4 hw52 0 rfl rfl 3 (by decide) mF_X4_27 rfl rfl (Nat.le_of_ble_eq_true rfl) [cR cI a N (g24, g38, g52, (imin v_p1.2.2.2 (nI N))), cR cI a_p1 Np1 v_p1] rfl dX4_copyFrom_57 (fun H locs hw57 => ?_)
  cases h
  exact k_vret C hw57 dX4_copyFrom_60
def rmX4_becomeWith : Room := { frames := 2, cells := 0, slots := 0, locals := 47 }
def fX4_becomeWith_8 (N : Nat) (Np1 : Nat) (v_p1 : Rg) (x3 : Int32) : (n : Nat) → (k : Int32 → Rg → Option (Rg)) → Int32 → Rg → Option (Rg)
  | 0, _, _, _ => none
  | n + 1, k, x5, v =>
    if v_p1.2.2.2 ≤ x5 then
      k x5 v
    else
      (ld Np1 v_p1.2.1 x5).bind fun y23 =>
      if x3 ≤ y23 then
        fX4_becomeWith_8 N Np1 v_p1 x3 n k (x5 + 1) v
      else
        (ld Np1 v_p1.1 x5).bind fun y35 =>
        (ld Np1 v_p1.2.1 x5).bind fun y42 =>
        (ld Np1 v_p1.2.2.1 x5).bind fun y49 =>
        (fX4_join N v y35 y42 (imin y49 (x3 - 1))).bind fun r56 =>
        fX4_becomeWith_8 N Np1 v_p1 x3 n k (x5 + 1) r56
set_option maxRecDepth 100000 in
set_option maxHeartbeats 4000000 in
theorem wX4_becomeWith_8 {p : Program} {l : Launch} {e : Env} {s : State} {m : MethodId} {args : Array Value} {below : List Frame} {meth : Method} {c : Code} {D : va_G} {cI : ClassId} {cS : GS} {A : Nat → Prop} {a : Nat → Nat} {a_p1 : Nat → Nat} {N : Nat} {Np1 : Nat} {v_p1 : Rg} {x2 : Int32} {x3 : Int32} {x4 : Int32} (C : MC p s m args meth c D cI cS A RX4 cX4_becomeWith 6 none) (hA : ∀ q, s.heap.size ≤ q → A q) {s0 : Rg} (k : Int32 → Rg → Option (Rg)) (hk : ∀ (x5 : Int32) (v : Rg) (H : Heap) (locs : List Loc) (ls : Array Slot), Wd D A s.heap H locs [cR cI a N v, cR cI a_p1 Np1 v_p1] → lv_has ls 6 [(0, .ref (a 0)), (1, .ref (a_p1 0)), (2, .int x2), (3, .int x3), (4, .int x4), (5, .int x5)] → k x5 v = some s0 → W p l e rmX4_becomeWith s m args below meth c H locs 0 0 (KQ D A below args s none [cR cI a N s0, cR cI a_p1 Np1 v_p1]) (F0 m 65 ls [])) :
    ∀ (n : Nat) (x5 : Int32) (v : Rg) (H : Heap) (locs : List Loc) (ls : Array Slot), Wd D A s.heap H locs [cR cI a N v, cR cI a_p1 Np1 v_p1] → lv_has ls 6 [(0, .ref (a 0)), (1, .ref (a_p1 0)), (2, .int x2), (3, .int x3), (4, .int x4), (5, .int x5)] → fX4_becomeWith_8 N Np1 v_p1 x3 n k x5 v = some s0 → W p l e rmX4_becomeWith s m args below meth c H locs 0 0 (KQ D A below args s none [cR cI a N s0, cR cI a_p1 Np1 v_p1]) (F0 m 8 ls []) := by
  have hx := C.1.1
  have hb := C.1.2.1
  intro n
  induction n with
  | zero =>
    intro x5 v H locs ls hw hl h
    rw [fX4_becomeWith_8] at h
    cases h
  | succ n ih =>
    intro x5 v H locs ls hw hl h
    rw [fX4_becomeWith_8] at h
    refine lv_iload hx hb dX4_becomeWith_8 (lv_at hl 5 rfl) ?_
    refine lv_aload_n hx hb dX4_becomeWith_10 rfl (lv_at hl 1 rfl) ?_
    refine k_get C inT_X4 hw 4 rfl rfl 3 (by decide) mF_X4_27 rfl dX4_becomeWith_11 ?_
    refine lv_icmp_ge (tgt := 65) hx hb dX4_becomeWith_14 (by decide) (fun c14 => ?_) (fun c14 => ?_)
    · replace h := br_t' h c14
      exact hk _ _ _ _ _ hw (lv_sub hl [0, 1, 2, 3, 4, 5] rfl) h
    · replace h := br_f' h c14
      refine lv_aload_n hx hb dX4_becomeWith_17 rfl (lv_at hl 1 rfl) ?_
      refine k_get C inT_X4 hw 4 rfl rfl 1 (by decide) mF_X4_21 rfl dX4_becomeWith_18 ?_
      refine lv_iload hx hb dX4_becomeWith_21 (lv_at hl 5 rfl) ?_
      obtain ⟨y23, q23, h⟩ := bd h
      refine k_iald C hw 6 rfl q23 dX4_becomeWith_23 ?_
      refine lv_iload_n hx hb dX4_becomeWith_24 rfl (lv_at hl 3 rfl) ?_
      refine lv_icmp_ge (tgt := 59) hx hb dX4_becomeWith_25 (by decide) (fun c25 => ?_) (fun c25 => ?_)
      · replace h := br_t' h c25
        refine lv_iinc (v := (x5 + 1)) (lv' := [(5, .int (x5 + 1)), (0, .ref (a 0)), (1, .ref (a_p1 0)), (2, .int x2), (3, .int x3), (4, .int x4)]) hx hb dX4_becomeWith_59 hl (k := 5) rfl rfl (by decide) rfl (fun ls hl => ?_)
        refine lv_goto (tgt := 8) hx hb dX4_becomeWith_62 (by decide) ?_
        exact ih _ _ _ _ _ hw (lv_sub hl [1, 2, 3, 4, 5, 0] rfl) h
      · replace h := br_f' h c25
        refine lv_aload_n hx hb dX4_becomeWith_28 rfl (lv_at hl 0 rfl) ?_
        refine lv_aload_n hx hb dX4_becomeWith_29 rfl (lv_at hl 1 rfl) ?_
        refine k_get C inT_X4 hw 4 rfl rfl 0 (by decide) mF_X4_15 rfl dX4_becomeWith_30 ?_
        refine lv_iload hx hb dX4_becomeWith_33 (lv_at hl 5 rfl) ?_
        obtain ⟨y35, q35, h⟩ := bd h
        refine k_iald C hw 5 rfl q35 dX4_becomeWith_35 ?_
        refine lv_aload_n hx hb dX4_becomeWith_36 rfl (lv_at hl 1 rfl) ?_
        refine k_get C inT_X4 hw 4 rfl rfl 1 (by decide) mF_X4_21 rfl dX4_becomeWith_37 ?_
        refine lv_iload hx hb dX4_becomeWith_40 (lv_at hl 5 rfl) ?_
        obtain ⟨y42, q42, h⟩ := bd h
        refine k_iald C hw 6 rfl q42 dX4_becomeWith_42 ?_
        refine lv_aload_n hx hb dX4_becomeWith_43 rfl (lv_at hl 1 rfl) ?_
        refine k_get C inT_X4 hw 4 rfl rfl 2 (by decide) mF_X4_24 rfl dX4_becomeWith_44 ?_
        refine lv_iload hx hb dX4_becomeWith_47 (lv_at hl 5 rfl) ?_
        obtain ⟨y49, q49, h⟩ := bd h
        refine k_iald C hw 7 rfl q49 dX4_becomeWith_49 ?_
        refine lv_iload_n hx hb dX4_becomeWith_50 rfl (lv_at hl 3 rfl) ?_
        refine lv_iconst (v := 1) hx hb dX4_becomeWith_51 (by decide) ?_
        refine lv_isub hx hb dX4_becomeWith_52 ?_
        refine k_mmin C hl.1 mL_X4_39 mm_min (Nat.le_of_ble_eq_true rfl) (Nat.le_of_ble_eq_true rfl) dX4_becomeWith_53 ?_
        obtain ⟨r56, q56, h⟩ := bd h
        refine k_callV (nC := 2) [cR cI a N r56, cR cI a_p1 Np1 v_p1] C hl.1 (tX4_join (a := a) q56) mL_X4_48 mmX4_join rfl rfl ⟨Nat.le_of_ble_eq_true rfl, Nat.le_of_ble_eq_true rfl⟩ rfl rfl rfl rfl (Nat.le_of_ble_eq_true rfl) hA hw [0] [1] rfl (by decide +kernel) rfl rfl rfl rfl dX4_becomeWith_56 (fun H locs hw56 => ?_)
        refine lv_iinc (v := (x5 + 1)) (lv' := [(5, .int (x5 + 1)), (0, .ref (a 0)), (1, .ref (a_p1 0)), (2, .int x2), (3, .int x3), (4, .int x4)]) hx hb dX4_becomeWith_59 hl (k := 5) rfl rfl (by decide) rfl (fun ls hl => ?_)
        refine lv_goto (tgt := 8) hx hb dX4_becomeWith_62 (by decide) ?_
        exact ih _ _ _ _ _ hw56 (lv_sub hl [1, 2, 3, 4, 5, 0] rfl) h
def fX4_becomeWith_81 (N : Nat) (Np1 : Nat) (v_p1 : Rg) (x4 : Int32) : (n : Nat) → (k : Int32 → Rg → Option (Rg)) → Int32 → Rg → Option (Rg)
  | 0, _, _, _ => none
  | n + 1, k, x5, v =>
    if v_p1.2.2.2 ≤ x5 then
      k x5 v
    else
      (ld Np1 v_p1.2.2.1 x5).bind fun y96 =>
      if y96 ≤ x4 then
        fX4_becomeWith_81 N Np1 v_p1 x4 n k (x5 + 1) v
      else
        (ld Np1 v_p1.1 x5).bind fun y109 =>
        (ld Np1 v_p1.2.1 x5).bind fun y116 =>
        (ld Np1 v_p1.2.2.1 x5).bind fun y130 =>
        (fX4_join N v y109 (imax y116 (x4 + 1)) y130).bind fun r131 =>
        fX4_becomeWith_81 N Np1 v_p1 x4 n k (x5 + 1) r131
set_option maxRecDepth 100000 in
set_option maxHeartbeats 4000000 in
theorem wX4_becomeWith_81 {p : Program} {l : Launch} {e : Env} {s : State} {m : MethodId} {args : Array Value} {below : List Frame} {meth : Method} {c : Code} {D : va_G} {cI : ClassId} {cS : GS} {A : Nat → Prop} {a : Nat → Nat} {a_p1 : Nat → Nat} {N : Nat} {Np1 : Nat} {v_p1 : Rg} {x4 : Int32} (C : MC p s m args meth c D cI cS A RX4 cX4_becomeWith 6 none) (hA : ∀ q, s.heap.size ≤ q → A q) {s0 : Rg} (k : Int32 → Rg → Option (Rg)) (hk : ∀ (x5 : Int32) (v : Rg) (H : Heap) (locs : List Loc) (ls : Array Slot), Wd D A s.heap H locs [cR cI a N v, cR cI a_p1 Np1 v_p1] → lv_has ls 6 [(0, .ref (a 0)), (1, .ref (a_p1 0)), (4, .int x4), (5, .int x5)] → k x5 v = some s0 → W p l e rmX4_becomeWith s m args below meth c H locs 0 0 (KQ D A below args s none [cR cI a N s0, cR cI a_p1 Np1 v_p1]) (F0 m 140 ls [])) :
    ∀ (n : Nat) (x5 : Int32) (v : Rg) (H : Heap) (locs : List Loc) (ls : Array Slot), Wd D A s.heap H locs [cR cI a N v, cR cI a_p1 Np1 v_p1] → lv_has ls 6 [(0, .ref (a 0)), (1, .ref (a_p1 0)), (4, .int x4), (5, .int x5)] → fX4_becomeWith_81 N Np1 v_p1 x4 n k x5 v = some s0 → W p l e rmX4_becomeWith s m args below meth c H locs 0 0 (KQ D A below args s none [cR cI a N s0, cR cI a_p1 Np1 v_p1]) (F0 m 81 ls []) := by
  have hx := C.1.1
  have hb := C.1.2.1
  intro n
  induction n with
  | zero =>
    intro x5 v H locs ls hw hl h
    rw [fX4_becomeWith_81] at h
    cases h
  | succ n ih =>
    intro x5 v H locs ls hw hl h
    rw [fX4_becomeWith_81] at h
    refine lv_iload hx hb dX4_becomeWith_81 (lv_at hl 3 rfl) ?_
    refine lv_aload_n hx hb dX4_becomeWith_83 rfl (lv_at hl 1 rfl) ?_
    refine k_get C inT_X4 hw 4 rfl rfl 3 (by decide) mF_X4_27 rfl dX4_becomeWith_84 ?_
    refine lv_icmp_ge (tgt := 140) hx hb dX4_becomeWith_87 (by decide) (fun c87 => ?_) (fun c87 => ?_)
    · replace h := br_t' h c87
      exact hk _ _ _ _ _ hw (lv_sub hl [0, 1, 2, 3] rfl) h
    · replace h := br_f' h c87
      refine lv_aload_n hx hb dX4_becomeWith_90 rfl (lv_at hl 1 rfl) ?_
      refine k_get C inT_X4 hw 4 rfl rfl 2 (by decide) mF_X4_24 rfl dX4_becomeWith_91 ?_
      refine lv_iload hx hb dX4_becomeWith_94 (lv_at hl 3 rfl) ?_
      obtain ⟨y96, q96, h⟩ := bd h
      refine k_iald C hw 7 rfl q96 dX4_becomeWith_96 ?_
      refine lv_iload hx hb dX4_becomeWith_97 (lv_at hl 2 rfl) ?_
      refine lv_icmp_le (tgt := 134) hx hb dX4_becomeWith_99 (by decide) (fun c99 => ?_) (fun c99 => ?_)
      · replace h := br_t' h c99
        refine lv_iinc (v := (x5 + 1)) (lv' := [(5, .int (x5 + 1)), (0, .ref (a 0)), (1, .ref (a_p1 0)), (4, .int x4)]) hx hb dX4_becomeWith_134 hl (k := 3) rfl rfl (by decide) rfl (fun ls hl => ?_)
        refine lv_goto (tgt := 81) hx hb dX4_becomeWith_137 (by decide) ?_
        exact ih _ _ _ _ _ hw (lv_sub hl [1, 2, 3, 0] rfl) h
      · replace h := br_f' h c99
        refine lv_aload_n hx hb dX4_becomeWith_102 rfl (lv_at hl 0 rfl) ?_
        refine lv_aload_n hx hb dX4_becomeWith_103 rfl (lv_at hl 1 rfl) ?_
        refine k_get C inT_X4 hw 4 rfl rfl 0 (by decide) mF_X4_15 rfl dX4_becomeWith_104 ?_
        refine lv_iload hx hb dX4_becomeWith_107 (lv_at hl 3 rfl) ?_
        obtain ⟨y109, q109, h⟩ := bd h
        refine k_iald C hw 5 rfl q109 dX4_becomeWith_109 ?_
        refine lv_aload_n hx hb dX4_becomeWith_110 rfl (lv_at hl 1 rfl) ?_
        refine k_get C inT_X4 hw 4 rfl rfl 1 (by decide) mF_X4_21 rfl dX4_becomeWith_111 ?_
        refine lv_iload hx hb dX4_becomeWith_114 (lv_at hl 3 rfl) ?_
        obtain ⟨y116, q116, h⟩ := bd h
        refine k_iald C hw 6 rfl q116 dX4_becomeWith_116 ?_
        refine lv_iload hx hb dX4_becomeWith_117 (lv_at hl 2 rfl) ?_
        refine lv_iconst (v := 1) hx hb dX4_becomeWith_119 (by decide) ?_
        refine lv_iadd hx hb dX4_becomeWith_120 ?_
        refine k_mmax C hl.1 mL_X4_9 mm_max (Nat.le_of_ble_eq_true rfl) (Nat.le_of_ble_eq_true rfl) dX4_becomeWith_121 ?_
        refine lv_aload_n hx hb dX4_becomeWith_124 rfl (lv_at hl 1 rfl) ?_
        refine k_get C inT_X4 hw 4 rfl rfl 2 (by decide) mF_X4_24 rfl dX4_becomeWith_125 ?_
        refine lv_iload hx hb dX4_becomeWith_128 (lv_at hl 3 rfl) ?_
        obtain ⟨y130, q130, h⟩ := bd h
        refine k_iald C hw 7 rfl q130 dX4_becomeWith_130 ?_
        obtain ⟨r131, q131, h⟩ := bd h
        refine k_callV (nC := 2) [cR cI a N r131, cR cI a_p1 Np1 v_p1] C hl.1 (tX4_join (a := a) q131) mL_X4_48 mmX4_join rfl rfl ⟨Nat.le_of_ble_eq_true rfl, Nat.le_of_ble_eq_true rfl⟩ rfl rfl rfl rfl (Nat.le_of_ble_eq_true rfl) hA hw [0] [1] rfl (by decide +kernel) rfl rfl rfl rfl dX4_becomeWith_131 (fun H locs hw131 => ?_)
        refine lv_iinc (v := (x5 + 1)) (lv' := [(5, .int (x5 + 1)), (0, .ref (a 0)), (1, .ref (a_p1 0)), (4, .int x4)]) hx hb dX4_becomeWith_134 hl (k := 3) rfl rfl (by decide) rfl (fun ls hl => ?_)
        refine lv_goto (tgt := 81) hx hb dX4_becomeWith_137 (by decide) ?_
        exact ih _ _ _ _ _ hw131 (lv_sub hl [1, 2, 3, 0] rfl) h
def fX4_becomeWith (N : Nat) (Np1 : Nat) (v : Rg) (v_p1 : Rg) (x2 : Int32) (x3 : Int32) (x4 : Int32) : Option (Rg) :=
  fX4_becomeWith_8 N Np1 v_p1 x3 FU (fun x5_8 v_8 =>
    if x2 = (-1) then
      fX4_becomeWith_81 N Np1 v_p1 x4 FU (fun x5_81 v_81 =>
        some v_81) 0 v_8
    else
      (fX4_join N v_8 x2 x3 x4).bind fun r75 =>
      fX4_becomeWith_81 N Np1 v_p1 x4 FU (fun x5_81 v_81 =>
        some v_81) 0 r75) 0 (v.1, v.2.1, v.2.2.1, 0)
set_option maxRecDepth 100000 in
set_option maxHeartbeats 4000000 in
theorem tX4_becomeWith {l : Launch} {D : va_G} {cI : ClassId} {cS : GS} {a : Nat → Nat} {a_p1 : Nat → Nat} {N : Nat} {Np1 : Nat} {v : Rg} {v_p1 : Rg} {x2 : Int32} {x3 : Int32} {x4 : Int32} {s0 : Rg} (h : fX4_becomeWith N Np1 v v_p1 x2 x3 x4 = some s0) : CT l D cI cS yX4_becomeWith cX4_becomeWith 6 none rmX4_becomeWith [.ref (a 0), .ref (a_p1 0), .int x2, .int x3, .int x4] [cR cI a N v, cR cI a_p1 Np1 v_p1] none [cR cI a N s0, cR cI a_p1 Np1 v_p1] := by
  refine CT.of RX4 (by decide) rfl (Nat.le_of_ble_eq_true rfl) (fun p e s m below meth c ls A C hA hl hw => ?_)
  have hx := C.1.1
  have hb := C.1.2.1
  have hl : lv_has ls 6 [(0, .ref (a 0)), (1, .ref (a_p1 0)), (2, .int x2), (3, .int x3), (4, .int x4)] := hl
  unfold fX4_becomeWith at h
  refine lv_aload_n hx hb dX4_becomeWith_0 rfl (lv_at hl 0 rfl) ?_
  refine lv_iconst (v := 0) hx hb dX4_becomeWith_1 (by decide) ?_
  refine k_put C inT_X4 tyX4 tyX4_ok nmX4 hw 0 rfl rfl 3 (by decide) mF_X4_27 rfl rfl (Nat.le_of_ble_eq_true rfl) [cR cI a N (v.1, v.2.1, v.2.2.1, 0), cR cI a_p1 Np1 v_p1] rfl dX4_becomeWith_2 (fun H locs hw2 => ?_)
  refine lv_iconst (v := 0) hx hb dX4_becomeWith_5 (by decide) ?_
  refine lv_istore (lv' := [(5, .int 0), (0, .ref (a 0)), (1, .ref (a_p1 0)), (2, .int x2), (3, .int x3), (4, .int x4)]) hx hb dX4_becomeWith_6 hl (by decide) rfl (fun ls hl => ?_)
  refine wX4_becomeWith_8 C hA _ (fun x5_8 v_8 H locs ls hw8x hl h => ?_) FU _ _ _ _ _ hw2 (lv_sub hl [1, 2, 3, 4, 5, 0] rfl) h
  refine lv_iload_n hx hb dX4_becomeWith_65 rfl (lv_at hl 2 rfl) ?_
  refine lv_iconst (v := (-1)) hx hb dX4_becomeWith_66 (by decide) ?_
  refine lv_icmp_eq (tgt := 78) hx hb dX4_becomeWith_67 (by decide) (fun c67 => ?_) (fun c67 => ?_)
  · replace h := br_t' h c67
    refine lv_iconst (v := 0) hx hb dX4_becomeWith_78 (by decide) ?_
    refine lv_istore (lv' := [(5, .int 0), (0, .ref (a 0)), (1, .ref (a_p1 0)), (2, .int x2), (3, .int x3), (4, .int x4)]) hx hb dX4_becomeWith_79 hl (by decide) rfl (fun ls hl => ?_)
    refine wX4_becomeWith_81 C hA _ (fun x5_81 v_81 H locs ls hw81x hl h => ?_) FU _ _ _ _ _ hw8x (lv_sub hl [1, 2, 5, 0] rfl) h
    cases h
    exact k_vret C hw81x dX4_becomeWith_140
  · replace h := br_f' h c67
    refine lv_aload_n hx hb dX4_becomeWith_70 rfl (lv_at hl 0 rfl) ?_
    refine lv_iload_n hx hb dX4_becomeWith_71 rfl (lv_at hl 2 rfl) ?_
    refine lv_iload_n hx hb dX4_becomeWith_72 rfl (lv_at hl 3 rfl) ?_
    refine lv_iload hx hb dX4_becomeWith_73 (lv_at hl 4 rfl) ?_
    obtain ⟨r75, q75, h⟩ := bd h
    refine k_callV (nC := 2) [cR cI a N r75, cR cI a_p1 Np1 v_p1] C hl.1 (tX4_join (a := a) q75) mL_X4_48 mmX4_join rfl rfl ⟨Nat.le_of_ble_eq_true rfl, Nat.le_of_ble_eq_true rfl⟩ rfl rfl rfl rfl (Nat.le_of_ble_eq_true rfl) hA hw8x [0] [1] rfl (by decide +kernel) rfl rfl rfl rfl dX4_becomeWith_75 (fun H locs hw75 => ?_)
    refine lv_iconst (v := 0) hx hb dX4_becomeWith_78 (by decide) ?_
    refine lv_istore (lv' := [(5, .int 0), (0, .ref (a 0)), (1, .ref (a_p1 0)), (2, .int x2), (3, .int x3), (4, .int x4)]) hx hb dX4_becomeWith_79 hl (by decide) rfl (fun ls hl => ?_)
    refine wX4_becomeWith_81 C hA _ (fun x5_81 v_81 H locs ls hw81x hl h => ?_) FU _ _ _ _ _ hw75 (lv_sub hl [1, 2, 5, 0] rfl) h
    cases h
    exact k_vret C hw81x dX4_becomeWith_140
def rmX4_becomeRemarked : Room := { frames := 2, cells := 0, slots := 0, locals := 47 }
def fX4_becomeRemarked_8 (N : Nat) (Np1 : Nat) (v_p1 : Rg) (x2 : Int32) (x3 : Int32) : (n : Nat) → (k : Int32 → Rg → Option (Rg)) → Int32 → Rg → Option (Rg)
  | 0, _, _, _ => none
  | n + 1, k, x4, v =>
    if v_p1.2.2.2 ≤ x4 then
      k x4 v
    else
      (ld Np1 v_p1.1 x4).bind fun y24 =>
      if y24 = x2 then
        (ld Np1 v_p1.2.1 x4).bind fun y46 =>
        (ld Np1 v_p1.2.2.1 x4).bind fun y53 =>
        (fX4_join N v x3 y46 y53).bind fun r54 =>
        fX4_becomeRemarked_8 N Np1 v_p1 x2 x3 n k (x4 + 1) r54
      else
        (ld Np1 v_p1.1 x4).bind fun y39 =>
        (ld Np1 v_p1.2.1 x4).bind fun y46 =>
        (ld Np1 v_p1.2.2.1 x4).bind fun y53 =>
        (fX4_join N v y39 y46 y53).bind fun r54 =>
        fX4_becomeRemarked_8 N Np1 v_p1 x2 x3 n k (x4 + 1) r54
set_option maxRecDepth 100000 in
set_option maxHeartbeats 4000000 in
theorem wX4_becomeRemarked_8 {p : Program} {l : Launch} {e : Env} {s : State} {m : MethodId} {args : Array Value} {below : List Frame} {meth : Method} {c : Code} {D : va_G} {cI : ClassId} {cS : GS} {A : Nat → Prop} {a : Nat → Nat} {a_p1 : Nat → Nat} {N : Nat} {Np1 : Nat} {v_p1 : Rg} {x2 : Int32} {x3 : Int32} (C : MC p s m args meth c D cI cS A RX4 cX4_becomeRemarked 5 none) (hA : ∀ q, s.heap.size ≤ q → A q) {s0 : Rg} (k : Int32 → Rg → Option (Rg)) (hk : ∀ (x4 : Int32) (v : Rg) (H : Heap) (locs : List Loc) (ls : Array Slot), Wd D A s.heap H locs [cR cI a N v, cR cI a_p1 Np1 v_p1] → lv_has ls 5 [(0, .ref (a 0)), (1, .ref (a_p1 0)), (2, .int x2), (3, .int x3), (4, .int x4)] → k x4 v = some s0 → W p l e rmX4_becomeRemarked s m args below meth c H locs 0 0 (KQ D A below args s none [cR cI a N s0, cR cI a_p1 Np1 v_p1]) (F0 m 63 ls [])) :
    ∀ (n : Nat) (x4 : Int32) (v : Rg) (H : Heap) (locs : List Loc) (ls : Array Slot), Wd D A s.heap H locs [cR cI a N v, cR cI a_p1 Np1 v_p1] → lv_has ls 5 [(0, .ref (a 0)), (1, .ref (a_p1 0)), (2, .int x2), (3, .int x3), (4, .int x4)] → fX4_becomeRemarked_8 N Np1 v_p1 x2 x3 n k x4 v = some s0 → W p l e rmX4_becomeRemarked s m args below meth c H locs 0 0 (KQ D A below args s none [cR cI a N s0, cR cI a_p1 Np1 v_p1]) (F0 m 8 ls []) := by
  have hx := C.1.1
  have hb := C.1.2.1
  intro n
  induction n with
  | zero =>
    intro x4 v H locs ls hw hl h
    rw [fX4_becomeRemarked_8] at h
    cases h
  | succ n ih =>
    intro x4 v H locs ls hw hl h
    rw [fX4_becomeRemarked_8] at h
    refine lv_iload hx hb dX4_becomeRemarked_8 (lv_at hl 4 rfl) ?_
    refine lv_aload_n hx hb dX4_becomeRemarked_10 rfl (lv_at hl 1 rfl) ?_
    refine k_get C inT_X4 hw 4 rfl rfl 3 (by decide) mF_X4_27 rfl dX4_becomeRemarked_11 ?_
    refine lv_icmp_ge (tgt := 63) hx hb dX4_becomeRemarked_14 (by decide) (fun c14 => ?_) (fun c14 => ?_)
    · replace h := br_t' h c14
      exact hk _ _ _ _ _ hw (lv_sub hl [0, 1, 2, 3, 4] rfl) h
    · replace h := br_f' h c14
      refine lv_aload_n hx hb dX4_becomeRemarked_17 rfl (lv_at hl 0 rfl) ?_
      refine lv_aload_n hx hb dX4_becomeRemarked_18 rfl (lv_at hl 1 rfl) ?_
      refine k_get C inT_X4 hw 4 rfl rfl 0 (by decide) mF_X4_15 rfl dX4_becomeRemarked_19 ?_
      refine lv_iload hx hb dX4_becomeRemarked_22 (lv_at hl 4 rfl) ?_
      obtain ⟨y24, q24, h⟩ := bd h
      refine k_iald C hw 5 rfl q24 dX4_becomeRemarked_24 ?_
      refine lv_iload_n hx hb dX4_becomeRemarked_25 rfl (lv_at hl 2 rfl) ?_
      refine lv_icmp_ne (tgt := 33) hx hb dX4_becomeRemarked_26 (by decide) (fun c26 => ?_) (fun c26 => ?_)
      · replace h := br_f' h c26
        refine lv_aload_n hx hb dX4_becomeRemarked_33 rfl (lv_at hl 1 rfl) ?_
        refine k_get C inT_X4 hw 4 rfl rfl 0 (by decide) mF_X4_15 rfl dX4_becomeRemarked_34 ?_
        refine lv_iload hx hb dX4_becomeRemarked_37 (lv_at hl 4 rfl) ?_
        obtain ⟨y39, q39, h⟩ := bd h
        refine k_iald C hw 5 rfl q39 dX4_becomeRemarked_39 ?_
        refine lv_aload_n hx hb dX4_becomeRemarked_40 rfl (lv_at hl 1 rfl) ?_
        refine k_get C inT_X4 hw 4 rfl rfl 1 (by decide) mF_X4_21 rfl dX4_becomeRemarked_41 ?_
        refine lv_iload hx hb dX4_becomeRemarked_44 (lv_at hl 4 rfl) ?_
        obtain ⟨y46, q46, h⟩ := bd h
        refine k_iald C hw 6 rfl q46 dX4_becomeRemarked_46 ?_
        refine lv_aload_n hx hb dX4_becomeRemarked_47 rfl (lv_at hl 1 rfl) ?_
        refine k_get C inT_X4 hw 4 rfl rfl 2 (by decide) mF_X4_24 rfl dX4_becomeRemarked_48 ?_
        refine lv_iload hx hb dX4_becomeRemarked_51 (lv_at hl 4 rfl) ?_
        obtain ⟨y53, q53, h⟩ := bd h
        refine k_iald C hw 7 rfl q53 dX4_becomeRemarked_53 ?_
        obtain ⟨r54, q54, h⟩ := bd h
        refine k_callV (nC := 2) [cR cI a N r54, cR cI a_p1 Np1 v_p1] C hl.1 (tX4_join (a := a) q54) mL_X4_48 mmX4_join rfl rfl ⟨Nat.le_of_ble_eq_true rfl, Nat.le_of_ble_eq_true rfl⟩ rfl rfl rfl rfl (Nat.le_of_ble_eq_true rfl) hA hw [0] [1] rfl (by decide +kernel) rfl rfl rfl rfl dX4_becomeRemarked_54 (fun H locs hw54 => ?_)
        refine lv_iinc (v := (x4 + 1)) (lv' := [(4, .int (x4 + 1)), (0, .ref (a 0)), (1, .ref (a_p1 0)), (2, .int x2), (3, .int x3)]) hx hb dX4_becomeRemarked_57 hl (k := 4) rfl rfl (by decide) rfl (fun ls hl => ?_)
        refine lv_goto (tgt := 8) hx hb dX4_becomeRemarked_60 (by decide) ?_
        exact ih _ _ _ _ _ hw54 (lv_sub hl [1, 2, 3, 4, 0] rfl) h
      · replace h := br_t' h c26
        refine lv_iload_n hx hb dX4_becomeRemarked_29 rfl (lv_at hl 3 rfl) ?_
        refine lv_goto (tgt := 40) hx hb dX4_becomeRemarked_30 (by decide) ?_
        refine lv_aload_n hx hb dX4_becomeRemarked_40 rfl (lv_at hl 1 rfl) ?_
        refine k_get C inT_X4 hw 4 rfl rfl 1 (by decide) mF_X4_21 rfl dX4_becomeRemarked_41 ?_
        refine lv_iload hx hb dX4_becomeRemarked_44 (lv_at hl 4 rfl) ?_
        obtain ⟨y46, q46, h⟩ := bd h
        refine k_iald C hw 6 rfl q46 dX4_becomeRemarked_46 ?_
        refine lv_aload_n hx hb dX4_becomeRemarked_47 rfl (lv_at hl 1 rfl) ?_
        refine k_get C inT_X4 hw 4 rfl rfl 2 (by decide) mF_X4_24 rfl dX4_becomeRemarked_48 ?_
        refine lv_iload hx hb dX4_becomeRemarked_51 (lv_at hl 4 rfl) ?_
        obtain ⟨y53, q53, h⟩ := bd h
        refine k_iald C hw 7 rfl q53 dX4_becomeRemarked_53 ?_
        obtain ⟨r54, q54, h⟩ := bd h
        refine k_callV (nC := 2) [cR cI a N r54, cR cI a_p1 Np1 v_p1] C hl.1 (tX4_join (a := a) q54) mL_X4_48 mmX4_join rfl rfl ⟨Nat.le_of_ble_eq_true rfl, Nat.le_of_ble_eq_true rfl⟩ rfl rfl rfl rfl (Nat.le_of_ble_eq_true rfl) hA hw [0] [1] rfl (by decide +kernel) rfl rfl rfl rfl dX4_becomeRemarked_54 (fun H locs hw54 => ?_)
        refine lv_iinc (v := (x4 + 1)) (lv' := [(4, .int (x4 + 1)), (0, .ref (a 0)), (1, .ref (a_p1 0)), (2, .int x2), (3, .int x3)]) hx hb dX4_becomeRemarked_57 hl (k := 4) rfl rfl (by decide) rfl (fun ls hl => ?_)
        refine lv_goto (tgt := 8) hx hb dX4_becomeRemarked_60 (by decide) ?_
        exact ih _ _ _ _ _ hw54 (lv_sub hl [1, 2, 3, 4, 0] rfl) h
def fX4_becomeRemarked (N : Nat) (Np1 : Nat) (v : Rg) (v_p1 : Rg) (x2 : Int32) (x3 : Int32) : Option (Rg) :=
  fX4_becomeRemarked_8 N Np1 v_p1 x2 x3 FU (fun x4_8 v_8 =>
    some v_8) 0 (v.1, v.2.1, v.2.2.1, 0)
set_option maxRecDepth 100000 in
set_option maxHeartbeats 4000000 in
theorem tX4_becomeRemarked {l : Launch} {D : va_G} {cI : ClassId} {cS : GS} {a : Nat → Nat} {a_p1 : Nat → Nat} {N : Nat} {Np1 : Nat} {v : Rg} {v_p1 : Rg} {x2 : Int32} {x3 : Int32} {s0 : Rg} (h : fX4_becomeRemarked N Np1 v v_p1 x2 x3 = some s0) : CT l D cI cS yX4_becomeRemarked cX4_becomeRemarked 5 none rmX4_becomeRemarked [.ref (a 0), .ref (a_p1 0), .int x2, .int x3] [cR cI a N v, cR cI a_p1 Np1 v_p1] none [cR cI a N s0, cR cI a_p1 Np1 v_p1] := by
  refine CT.of RX4 (by decide) rfl (Nat.le_of_ble_eq_true rfl) (fun p e s m below meth c ls A C hA hl hw => ?_)
  have hx := C.1.1
  have hb := C.1.2.1
  have hl : lv_has ls 5 [(0, .ref (a 0)), (1, .ref (a_p1 0)), (2, .int x2), (3, .int x3)] := hl
  unfold fX4_becomeRemarked at h
  refine lv_aload_n hx hb dX4_becomeRemarked_0 rfl (lv_at hl 0 rfl) ?_
  refine lv_iconst (v := 0) hx hb dX4_becomeRemarked_1 (by decide) ?_
  refine k_put C inT_X4 tyX4 tyX4_ok nmX4 hw 0 rfl rfl 3 (by decide) mF_X4_27 rfl rfl (Nat.le_of_ble_eq_true rfl) [cR cI a N (v.1, v.2.1, v.2.2.1, 0), cR cI a_p1 Np1 v_p1] rfl dX4_becomeRemarked_2 (fun H locs hw2 => ?_)
  refine lv_iconst (v := 0) hx hb dX4_becomeRemarked_5 (by decide) ?_
  refine lv_istore (lv' := [(4, .int 0), (0, .ref (a 0)), (1, .ref (a_p1 0)), (2, .int x2), (3, .int x3)]) hx hb dX4_becomeRemarked_6 hl (by decide) rfl (fun ls hl => ?_)
  refine wX4_becomeRemarked_8 C hA _ (fun x4_8 v_8 H locs ls hw8x hl h => ?_) FU _ _ _ _ _ hw2 (lv_sub hl [1, 2, 3, 4, 0] rfl) h
  cases h
  exact k_vret C hw8x dX4_becomeRemarked_63
def rmX4_meets : Room := { frames := 0, cells := 0, slots := 0, locals := 0 }
def fX4_meets (N : Nat) (v : Rg) (x1 : Int32) (x2 : Int32) (x3 : Int32) : Option (Int32) :=
  if x1 < 0 then
    some 0
  else
    if v.2.2.2 ≤ x1 then
      some 0
    else
      (ld N v.2.1 x1).bind fun y17 =>
      if x3 < y17 then
        some 0
      else
        (ld N v.2.2.1 x1).bind fun y27 =>
        if y27 < x2 then
          some 0
        else
          some 1
set_option maxRecDepth 100000 in
set_option maxHeartbeats 4000000 in
theorem tX4_meets {l : Launch} {D : va_G} {cI : ClassId} {cS : GS} {a : Nat → Nat} {N : Nat} {v : Rg} {x1 : Int32} {x2 : Int32} {x3 : Int32} {s0 : Int32} (h : fX4_meets N v x1 x2 x3 = some s0) : CT l D cI cS yX4_meets cX4_meets 4 (some .boolean) rmX4_meets [.ref (a 0), .int x1, .int x2, .int x3] [cR cI a N v] (some (.int s0)) [cR cI a N v] := by
  refine CT.of RX4 (by decide) rfl (Nat.le_of_ble_eq_true rfl) (fun p e s m below meth c ls A C hA hl hw => ?_)
  have hx := C.1.1
  have hb := C.1.2.1
  have hl : lv_has ls 4 [(0, .ref (a 0)), (1, .int x1), (2, .int x2), (3, .int x3)] := hl
  unfold fX4_meets at h
  refine lv_iload_n hx hb dX4_meets_0 rfl (lv_at hl 1 rfl) ?_
  refine lv_if_lt (tgt := 36) hx hb dX4_meets_1 (by decide) (fun c1 => ?_) (fun c1 => ?_)
  · replace h := br_t' h c1
    refine lv_iconst (v := 0) hx hb dX4_meets_36 (by decide) ?_
    cases h
    exact k_zret (v := 0) C rfl hw dX4_meets_37
  · replace h := br_f' h c1
    refine lv_iload_n hx hb dX4_meets_4 rfl (lv_at hl 1 rfl) ?_
    refine lv_aload_n hx hb dX4_meets_5 rfl (lv_at hl 0 rfl) ?_
    refine k_get C inT_X4 hw 0 rfl rfl 3 (by decide) mF_X4_27 rfl dX4_meets_6 ?_
    refine lv_icmp_ge (tgt := 36) hx hb dX4_meets_9 (by decide) (fun c9 => ?_) (fun c9 => ?_)
    · replace h := br_t' h c9
      refine lv_iconst (v := 0) hx hb dX4_meets_36 (by decide) ?_
      cases h
      exact k_zret (v := 0) C rfl hw dX4_meets_37
    · replace h := br_f' h c9
      refine lv_aload_n hx hb dX4_meets_12 rfl (lv_at hl 0 rfl) ?_
      refine k_get C inT_X4 hw 0 rfl rfl 1 (by decide) mF_X4_21 rfl dX4_meets_13 ?_
      refine lv_iload_n hx hb dX4_meets_16 rfl (lv_at hl 1 rfl) ?_
      obtain ⟨y17, q17, h⟩ := bd h
      refine k_iald C hw 2 rfl q17 dX4_meets_17 ?_
      refine lv_iload_n hx hb dX4_meets_18 rfl (lv_at hl 3 rfl) ?_
      refine lv_icmp_gt (tgt := 36) hx hb dX4_meets_19 (by decide) (fun c19 => ?_) (fun c19 => ?_)
      · replace h := br_t' h c19
        refine lv_iconst (v := 0) hx hb dX4_meets_36 (by decide) ?_
        cases h
        exact k_zret (v := 0) C rfl hw dX4_meets_37
      · replace h := br_f' h c19
        refine lv_aload_n hx hb dX4_meets_22 rfl (lv_at hl 0 rfl) ?_
        refine k_get C inT_X4 hw 0 rfl rfl 2 (by decide) mF_X4_24 rfl dX4_meets_23 ?_
        refine lv_iload_n hx hb dX4_meets_26 rfl (lv_at hl 1 rfl) ?_
        obtain ⟨y27, q27, h⟩ := bd h
        refine k_iald C hw 3 rfl q27 dX4_meets_27 ?_
        refine lv_iload_n hx hb dX4_meets_28 rfl (lv_at hl 2 rfl) ?_
        refine lv_icmp_lt (tgt := 36) hx hb dX4_meets_29 (by decide) (fun c29 => ?_) (fun c29 => ?_)
        · replace h := br_t' h c29
          refine lv_iconst (v := 0) hx hb dX4_meets_36 (by decide) ?_
          cases h
          exact k_zret (v := 0) C rfl hw dX4_meets_37
        · replace h := br_f' h c29
          refine lv_iconst (v := 1) hx hb dX4_meets_32 (by decide) ?_
          refine lv_goto (tgt := 37) hx hb dX4_meets_33 (by decide) ?_
          cases h
          exact k_zret (v := 1) C rfl hw dX4_meets_37
def rmX4_includes : Room := { frames := 0, cells := 0, slots := 0, locals := 0 }
def fX4_includes (N : Nat) (v : Rg) (x1 : Int32) (x2 : Int32) : Option (Int32) :=
  if x1 < 0 then
    some 0
  else
    if v.2.2.2 ≤ x1 then
      some 0
    else
      (ld N v.2.1 x1).bind fun y17 =>
      if x2 < y17 then
        some 0
      else
        (ld N v.2.2.1 x1).bind fun y27 =>
        if y27 < x2 then
          some 0
        else
          some 1
set_option maxRecDepth 100000 in
set_option maxHeartbeats 4000000 in
theorem tX4_includes {l : Launch} {D : va_G} {cI : ClassId} {cS : GS} {a : Nat → Nat} {N : Nat} {v : Rg} {x1 : Int32} {x2 : Int32} {s0 : Int32} (h : fX4_includes N v x1 x2 = some s0) : CT l D cI cS yX4_includes cX4_includes 3 (some .boolean) rmX4_includes [.ref (a 0), .int x1, .int x2] [cR cI a N v] (some (.int s0)) [cR cI a N v] := by
  refine CT.of RX4 (by decide) rfl (Nat.le_of_ble_eq_true rfl) (fun p e s m below meth c ls A C hA hl hw => ?_)
  have hx := C.1.1
  have hb := C.1.2.1
  have hl : lv_has ls 3 [(0, .ref (a 0)), (1, .int x1), (2, .int x2)] := hl
  unfold fX4_includes at h
  refine lv_iload_n hx hb dX4_includes_0 rfl (lv_at hl 1 rfl) ?_
  refine lv_if_lt (tgt := 36) hx hb dX4_includes_1 (by decide) (fun c1 => ?_) (fun c1 => ?_)
  · replace h := br_t' h c1
    refine lv_iconst (v := 0) hx hb dX4_includes_36 (by decide) ?_
    cases h
    exact k_zret (v := 0) C rfl hw dX4_includes_37
  · replace h := br_f' h c1
    refine lv_iload_n hx hb dX4_includes_4 rfl (lv_at hl 1 rfl) ?_
    refine lv_aload_n hx hb dX4_includes_5 rfl (lv_at hl 0 rfl) ?_
    refine k_get C inT_X4 hw 0 rfl rfl 3 (by decide) mF_X4_27 rfl dX4_includes_6 ?_
    refine lv_icmp_ge (tgt := 36) hx hb dX4_includes_9 (by decide) (fun c9 => ?_) (fun c9 => ?_)
    · replace h := br_t' h c9
      refine lv_iconst (v := 0) hx hb dX4_includes_36 (by decide) ?_
      cases h
      exact k_zret (v := 0) C rfl hw dX4_includes_37
    · replace h := br_f' h c9
      refine lv_aload_n hx hb dX4_includes_12 rfl (lv_at hl 0 rfl) ?_
      refine k_get C inT_X4 hw 0 rfl rfl 1 (by decide) mF_X4_21 rfl dX4_includes_13 ?_
      refine lv_iload_n hx hb dX4_includes_16 rfl (lv_at hl 1 rfl) ?_
      obtain ⟨y17, q17, h⟩ := bd h
      refine k_iald C hw 2 rfl q17 dX4_includes_17 ?_
      refine lv_iload_n hx hb dX4_includes_18 rfl (lv_at hl 2 rfl) ?_
      refine lv_icmp_gt (tgt := 36) hx hb dX4_includes_19 (by decide) (fun c19 => ?_) (fun c19 => ?_)
      · replace h := br_t' h c19
        refine lv_iconst (v := 0) hx hb dX4_includes_36 (by decide) ?_
        cases h
        exact k_zret (v := 0) C rfl hw dX4_includes_37
      · replace h := br_f' h c19
        refine lv_aload_n hx hb dX4_includes_22 rfl (lv_at hl 0 rfl) ?_
        refine k_get C inT_X4 hw 0 rfl rfl 2 (by decide) mF_X4_24 rfl dX4_includes_23 ?_
        refine lv_iload_n hx hb dX4_includes_26 rfl (lv_at hl 1 rfl) ?_
        obtain ⟨y27, q27, h⟩ := bd h
        refine k_iald C hw 3 rfl q27 dX4_includes_27 ?_
        refine lv_iload_n hx hb dX4_includes_28 rfl (lv_at hl 2 rfl) ?_
        refine lv_icmp_lt (tgt := 36) hx hb dX4_includes_29 (by decide) (fun c29 => ?_) (fun c29 => ?_)
        · replace h := br_t' h c29
          refine lv_iconst (v := 0) hx hb dX4_includes_36 (by decide) ?_
          cases h
          exact k_zret (v := 0) C rfl hw dX4_includes_37
        · replace h := br_f' h c29
          refine lv_iconst (v := 1) hx hb dX4_includes_32 (by decide) ?_
          refine lv_goto (tgt := 37) hx hb dX4_includes_33 (by decide) ?_
          cases h
          exact k_zret (v := 1) C rfl hw dX4_includes_37
def rmX4_sheetsIn : Room := { frames := 1, cells := 0, slots := 0, locals := 26 }
def fX4_sheetsIn_6 (N : Nat) (v : Rg) (x1 : Int32) (x2 : Int32) (x3 : Int32) : (n : Nat) → (k : Int32 → Int32 → Option (Int32)) → Int32 → Int32 → Option (Int32)
  | 0, _, _, _ => none
  | n + 1, k, x4, x5 =>
    if v.2.2.2 ≤ x5 then
      k x4 x5
    else
      if x1 = (-100) then
        (fX4_meets N v x5 x2 x3).bind fun r37 =>
        if r37 = 0 then
          fX4_sheetsIn_6 N v x1 x2 x3 n k x4 (x5 + 1)
        else
          (ld N v.2.2.1 x5).bind fun y51 =>
          (ld N v.2.1 x5).bind fun y62 =>
          fX4_sheetsIn_6 N v x1 x2 x3 n k (x4 + (((imin y51 x3) - (imax y62 x2)) + 1)) (x5 + 1)
      else
        (ld N v.1 x5).bind fun y27 =>
        if y27 = x1 then
          (fX4_meets N v x5 x2 x3).bind fun r37 =>
          if r37 = 0 then
            fX4_sheetsIn_6 N v x1 x2 x3 n k x4 (x5 + 1)
          else
            (ld N v.2.2.1 x5).bind fun y51 =>
            (ld N v.2.1 x5).bind fun y62 =>
            fX4_sheetsIn_6 N v x1 x2 x3 n k (x4 + (((imin y51 x3) - (imax y62 x2)) + 1)) (x5 + 1)
        else
          fX4_sheetsIn_6 N v x1 x2 x3 n k x4 (x5 + 1)
set_option maxRecDepth 100000 in
set_option maxHeartbeats 4000000 in
theorem wX4_sheetsIn_6 {p : Program} {l : Launch} {e : Env} {s : State} {m : MethodId} {args : Array Value} {below : List Frame} {meth : Method} {c : Code} {D : va_G} {cI : ClassId} {cS : GS} {A : Nat → Prop} {a : Nat → Nat} {N : Nat} {v : Rg} {x1 : Int32} {x2 : Int32} {x3 : Int32} (C : MC p s m args meth c D cI cS A RX4 cX4_sheetsIn 6 (some .int)) (hA : ∀ q, s.heap.size ≤ q → A q) {s0 : Int32} (k : Int32 → Int32 → Option (Int32)) (hk : ∀ (x4 : Int32) (x5 : Int32) (H : Heap) (locs : List Loc) (ls : Array Slot), Wd D A s.heap H locs [cR cI a N v] → lv_has ls 6 [(0, .ref (a 0)), (1, .int x1), (2, .int x2), (3, .int x3), (4, .int x4), (5, .int x5)] → k x4 x5 = some s0 → W p l e rmX4_sheetsIn s m args below meth c H locs 0 0 (KQ D A below args s (some (.int s0)) [cR cI a N v]) (F0 m 79 ls [])) :
    ∀ (n : Nat) (x4 : Int32) (x5 : Int32) (H : Heap) (locs : List Loc) (ls : Array Slot), Wd D A s.heap H locs [cR cI a N v] → lv_has ls 6 [(0, .ref (a 0)), (1, .int x1), (2, .int x2), (3, .int x3), (4, .int x4), (5, .int x5)] → fX4_sheetsIn_6 N v x1 x2 x3 n k x4 x5 = some s0 → W p l e rmX4_sheetsIn s m args below meth c H locs 0 0 (KQ D A below args s (some (.int s0)) [cR cI a N v]) (F0 m 6 ls []) := by
  have hx := C.1.1
  have hb := C.1.2.1
  intro n
  induction n with
  | zero =>
    intro x4 x5 H locs ls hw hl h
    rw [fX4_sheetsIn_6] at h
    cases h
  | succ n ih =>
    intro x4 x5 H locs ls hw hl h
    rw [fX4_sheetsIn_6] at h
    refine lv_iload hx hb dX4_sheetsIn_6 (lv_at hl 5 rfl) ?_
    refine lv_aload_n hx hb dX4_sheetsIn_8 rfl (lv_at hl 0 rfl) ?_
    refine k_get C inT_X4 hw 0 rfl rfl 3 (by decide) mF_X4_27 rfl dX4_sheetsIn_9 ?_
    refine lv_icmp_ge (tgt := 79) hx hb dX4_sheetsIn_12 (by decide) (fun c12 => ?_) (fun c12 => ?_)
    · replace h := br_t' h c12
      exact hk _ _ _ _ _ hw (lv_sub hl [0, 1, 2, 3, 4, 5] rfl) h
    · replace h := br_f' h c12
      refine lv_iload_n hx hb dX4_sheetsIn_15 rfl (lv_at hl 1 rfl) ?_
      refine lv_bipush (v := (-100)) hx hb dX4_sheetsIn_16 (by decide) ?_
      refine lv_icmp_eq (tgt := 32) hx hb dX4_sheetsIn_18 (by decide) (fun c18 => ?_) (fun c18 => ?_)
      · replace h := br_t' h c18
        refine lv_aload_n hx hb dX4_sheetsIn_32 rfl (lv_at hl 0 rfl) ?_
        refine lv_iload hx hb dX4_sheetsIn_33 (lv_at hl 5 rfl) ?_
        refine lv_iload_n hx hb dX4_sheetsIn_35 rfl (lv_at hl 2 rfl) ?_
        refine lv_iload_n hx hb dX4_sheetsIn_36 rfl (lv_at hl 3 rfl) ?_
        obtain ⟨r37, q37, h⟩ := bd h
        refine k_callV (nC := 1) [cR cI a N v] C hl.1 (tX4_meets (a := a) q37) mL_X4_52 mmX4_meets rfl rfl ⟨Nat.le_of_ble_eq_true rfl, Nat.le_of_ble_eq_true rfl⟩ rfl rfl rfl rfl (Nat.le_of_ble_eq_true rfl) hA hw [0] [] rfl (by decide +kernel) rfl rfl rfl rfl dX4_sheetsIn_37 (fun H locs hw37 => ?_)
        refine lv_if_eq (tgt := 73) hx hb dX4_sheetsIn_40 (by decide) (fun c40 => ?_) (fun c40 => ?_)
        · replace h := br_t' h c40
          refine lv_iinc (v := (x5 + 1)) (lv' := [(5, .int (x5 + 1)), (0, .ref (a 0)), (1, .int x1), (2, .int x2), (3, .int x3), (4, .int x4)]) hx hb dX4_sheetsIn_73 hl (k := 5) rfl rfl (by decide) rfl (fun ls hl => ?_)
          refine lv_goto (tgt := 6) hx hb dX4_sheetsIn_76 (by decide) ?_
          exact ih _ _ _ _ _ hw37 (lv_sub hl [1, 2, 3, 4, 5, 0] rfl) h
        · replace h := br_f' h c40
          refine lv_iload hx hb dX4_sheetsIn_43 (lv_at hl 4 rfl) ?_
          refine lv_aload_n hx hb dX4_sheetsIn_45 rfl (lv_at hl 0 rfl) ?_
          refine k_get C inT_X4 hw37 0 rfl rfl 2 (by decide) mF_X4_24 rfl dX4_sheetsIn_46 ?_
          refine lv_iload hx hb dX4_sheetsIn_49 (lv_at hl 5 rfl) ?_
          obtain ⟨y51, q51, h⟩ := bd h
          refine k_iald C hw37 3 rfl q51 dX4_sheetsIn_51 ?_
          refine lv_iload_n hx hb dX4_sheetsIn_52 rfl (lv_at hl 3 rfl) ?_
          refine k_mmin C hl.1 mL_X4_39 mm_min (Nat.le_of_ble_eq_true rfl) (Nat.le_of_ble_eq_true rfl) dX4_sheetsIn_53 ?_
          refine lv_aload_n hx hb dX4_sheetsIn_56 rfl (lv_at hl 0 rfl) ?_
          refine k_get C inT_X4 hw37 0 rfl rfl 1 (by decide) mF_X4_21 rfl dX4_sheetsIn_57 ?_
          refine lv_iload hx hb dX4_sheetsIn_60 (lv_at hl 5 rfl) ?_
          obtain ⟨y62, q62, h⟩ := bd h
          refine k_iald C hw37 2 rfl q62 dX4_sheetsIn_62 ?_
          refine lv_iload_n hx hb dX4_sheetsIn_63 rfl (lv_at hl 2 rfl) ?_
          refine k_mmax C hl.1 mL_X4_9 mm_max (Nat.le_of_ble_eq_true rfl) (Nat.le_of_ble_eq_true rfl) dX4_sheetsIn_64 ?_
          refine lv_isub hx hb dX4_sheetsIn_67 ?_
          refine lv_iconst (v := 1) hx hb dX4_sheetsIn_68 (by decide) ?_
          refine lv_iadd hx hb dX4_sheetsIn_69 ?_
          refine lv_iadd hx hb dX4_sheetsIn_70 ?_
          refine lv_istore (lv' := [(4, .int (x4 + (((imin y51 x3) - (imax y62 x2)) + 1))), (0, .ref (a 0)), (1, .int x1), (2, .int x2), (3, .int x3), (5, .int x5)]) hx hb dX4_sheetsIn_71 hl (by decide) rfl (fun ls hl => ?_)
          refine lv_iinc (v := (x5 + 1)) (lv' := [(5, .int (x5 + 1)), (4, .int (x4 + (((imin y51 x3) - (imax y62 x2)) + 1))), (0, .ref (a 0)), (1, .int x1), (2, .int x2), (3, .int x3)]) hx hb dX4_sheetsIn_73 hl (k := 5) rfl rfl (by decide) rfl (fun ls hl => ?_)
          refine lv_goto (tgt := 6) hx hb dX4_sheetsIn_76 (by decide) ?_
          exact ih _ _ _ _ _ hw37 (lv_sub hl [2, 3, 4, 5, 1, 0] rfl) h
      · replace h := br_f' h c18
        refine lv_aload_n hx hb dX4_sheetsIn_21 rfl (lv_at hl 0 rfl) ?_
        refine k_get C inT_X4 hw 0 rfl rfl 0 (by decide) mF_X4_15 rfl dX4_sheetsIn_22 ?_
        refine lv_iload hx hb dX4_sheetsIn_25 (lv_at hl 5 rfl) ?_
        obtain ⟨y27, q27, h⟩ := bd h
        refine k_iald C hw 1 rfl q27 dX4_sheetsIn_27 ?_
        refine lv_iload_n hx hb dX4_sheetsIn_28 rfl (lv_at hl 1 rfl) ?_
        refine lv_icmp_ne (tgt := 73) hx hb dX4_sheetsIn_29 (by decide) (fun c29 => ?_) (fun c29 => ?_)
        · replace h := br_f' h c29
          refine lv_iinc (v := (x5 + 1)) (lv' := [(5, .int (x5 + 1)), (0, .ref (a 0)), (1, .int x1), (2, .int x2), (3, .int x3), (4, .int x4)]) hx hb dX4_sheetsIn_73 hl (k := 5) rfl rfl (by decide) rfl (fun ls hl => ?_)
          refine lv_goto (tgt := 6) hx hb dX4_sheetsIn_76 (by decide) ?_
          exact ih _ _ _ _ _ hw (lv_sub hl [1, 2, 3, 4, 5, 0] rfl) h
        · replace h := br_t' h c29
          refine lv_aload_n hx hb dX4_sheetsIn_32 rfl (lv_at hl 0 rfl) ?_
          refine lv_iload hx hb dX4_sheetsIn_33 (lv_at hl 5 rfl) ?_
          refine lv_iload_n hx hb dX4_sheetsIn_35 rfl (lv_at hl 2 rfl) ?_
          refine lv_iload_n hx hb dX4_sheetsIn_36 rfl (lv_at hl 3 rfl) ?_
          obtain ⟨r37, q37, h⟩ := bd h
          refine k_callV (nC := 1) [cR cI a N v] C hl.1 (tX4_meets (a := a) q37) mL_X4_52 mmX4_meets rfl rfl ⟨Nat.le_of_ble_eq_true rfl, Nat.le_of_ble_eq_true rfl⟩ rfl rfl rfl rfl (Nat.le_of_ble_eq_true rfl) hA hw [0] [] rfl (by decide +kernel) rfl rfl rfl rfl dX4_sheetsIn_37 (fun H locs hw37 => ?_)
          refine lv_if_eq (tgt := 73) hx hb dX4_sheetsIn_40 (by decide) (fun c40 => ?_) (fun c40 => ?_)
          · replace h := br_t' h c40
            refine lv_iinc (v := (x5 + 1)) (lv' := [(5, .int (x5 + 1)), (0, .ref (a 0)), (1, .int x1), (2, .int x2), (3, .int x3), (4, .int x4)]) hx hb dX4_sheetsIn_73 hl (k := 5) rfl rfl (by decide) rfl (fun ls hl => ?_)
            refine lv_goto (tgt := 6) hx hb dX4_sheetsIn_76 (by decide) ?_
            exact ih _ _ _ _ _ hw37 (lv_sub hl [1, 2, 3, 4, 5, 0] rfl) h
          · replace h := br_f' h c40
            refine lv_iload hx hb dX4_sheetsIn_43 (lv_at hl 4 rfl) ?_
            refine lv_aload_n hx hb dX4_sheetsIn_45 rfl (lv_at hl 0 rfl) ?_
            refine k_get C inT_X4 hw37 0 rfl rfl 2 (by decide) mF_X4_24 rfl dX4_sheetsIn_46 ?_
            refine lv_iload hx hb dX4_sheetsIn_49 (lv_at hl 5 rfl) ?_
            obtain ⟨y51, q51, h⟩ := bd h
            refine k_iald C hw37 3 rfl q51 dX4_sheetsIn_51 ?_
            refine lv_iload_n hx hb dX4_sheetsIn_52 rfl (lv_at hl 3 rfl) ?_
            refine k_mmin C hl.1 mL_X4_39 mm_min (Nat.le_of_ble_eq_true rfl) (Nat.le_of_ble_eq_true rfl) dX4_sheetsIn_53 ?_
            refine lv_aload_n hx hb dX4_sheetsIn_56 rfl (lv_at hl 0 rfl) ?_
            refine k_get C inT_X4 hw37 0 rfl rfl 1 (by decide) mF_X4_21 rfl dX4_sheetsIn_57 ?_
            refine lv_iload hx hb dX4_sheetsIn_60 (lv_at hl 5 rfl) ?_
            obtain ⟨y62, q62, h⟩ := bd h
            refine k_iald C hw37 2 rfl q62 dX4_sheetsIn_62 ?_
            refine lv_iload_n hx hb dX4_sheetsIn_63 rfl (lv_at hl 2 rfl) ?_
            refine k_mmax C hl.1 mL_X4_9 mm_max (Nat.le_of_ble_eq_true rfl) (Nat.le_of_ble_eq_true rfl) dX4_sheetsIn_64 ?_
            refine lv_isub hx hb dX4_sheetsIn_67 ?_
            refine lv_iconst (v := 1) hx hb dX4_sheetsIn_68 (by decide) ?_
            refine lv_iadd hx hb dX4_sheetsIn_69 ?_
            refine lv_iadd hx hb dX4_sheetsIn_70 ?_
            refine lv_istore (lv' := [(4, .int (x4 + (((imin y51 x3) - (imax y62 x2)) + 1))), (0, .ref (a 0)), (1, .int x1), (2, .int x2), (3, .int x3), (5, .int x5)]) hx hb dX4_sheetsIn_71 hl (by decide) rfl (fun ls hl => ?_)
            refine lv_iinc (v := (x5 + 1)) (lv' := [(5, .int (x5 + 1)), (4, .int (x4 + (((imin y51 x3) - (imax y62 x2)) + 1))), (0, .ref (a 0)), (1, .int x1), (2, .int x2), (3, .int x3)]) hx hb dX4_sheetsIn_73 hl (k := 5) rfl rfl (by decide) rfl (fun ls hl => ?_)
            refine lv_goto (tgt := 6) hx hb dX4_sheetsIn_76 (by decide) ?_
            exact ih _ _ _ _ _ hw37 (lv_sub hl [2, 3, 4, 5, 1, 0] rfl) h
def fX4_sheetsIn (N : Nat) (v : Rg) (x1 : Int32) (x2 : Int32) (x3 : Int32) : Option (Int32) :=
  fX4_sheetsIn_6 N v x1 x2 x3 FU (fun x4_6 x5_6 =>
    some x4_6) 0 0
set_option maxRecDepth 100000 in
set_option maxHeartbeats 4000000 in
theorem tX4_sheetsIn {l : Launch} {D : va_G} {cI : ClassId} {cS : GS} {a : Nat → Nat} {N : Nat} {v : Rg} {x1 : Int32} {x2 : Int32} {x3 : Int32} {s0 : Int32} (h : fX4_sheetsIn N v x1 x2 x3 = some s0) : CT l D cI cS yX4_sheetsIn cX4_sheetsIn 6 (some .int) rmX4_sheetsIn [.ref (a 0), .int x1, .int x2, .int x3] [cR cI a N v] (some (.int s0)) [cR cI a N v] := by
  refine CT.of RX4 (by decide) rfl (Nat.le_of_ble_eq_true rfl) (fun p e s m below meth c ls A C hA hl hw => ?_)
  have hx := C.1.1
  have hb := C.1.2.1
  have hl : lv_has ls 6 [(0, .ref (a 0)), (1, .int x1), (2, .int x2), (3, .int x3)] := hl
  unfold fX4_sheetsIn at h
  refine lv_iconst (v := 0) hx hb dX4_sheetsIn_0 (by decide) ?_
  refine lv_istore (lv' := [(4, .int 0), (0, .ref (a 0)), (1, .int x1), (2, .int x2), (3, .int x3)]) hx hb dX4_sheetsIn_1 hl (by decide) rfl (fun ls hl => ?_)
  refine lv_iconst (v := 0) hx hb dX4_sheetsIn_3 (by decide) ?_
  refine lv_istore (lv' := [(5, .int 0), (4, .int 0), (0, .ref (a 0)), (1, .int x1), (2, .int x2), (3, .int x3)]) hx hb dX4_sheetsIn_4 hl (by decide) rfl (fun ls hl => ?_)
  refine wX4_sheetsIn_6 C hA _ (fun x4_6 x5_6 H locs ls hw6x hl h => ?_) FU _ _ _ _ _ hw (lv_sub hl [2, 3, 4, 5, 1, 0] rfl) h
  refine lv_iload hx hb dX4_sheetsIn_79 (lv_at hl 4 rfl) ?_
  cases h
  exact k_iret C hw6x dX4_sheetsIn_81
def rmX4_countOf : Room := { frames := 0, cells := 0, slots := 0, locals := 0 }
def fX4_countOf_4 (N : Nat) (v : Rg) (x1 : Int32) : (n : Nat) → (k : Int32 → Int32 → Option (Int32)) → Int32 → Int32 → Option (Int32)
  | 0, _, _, _ => none
  | n + 1, k, x2, x3 =>
    if v.2.2.2 ≤ x3 then
      k x2 x3
    else
      (ld N v.1 x3).bind fun y17 =>
      if y17 = x1 then
        fX4_countOf_4 N v x1 n k (x2 + 1) (x3 + 1)
      else
        fX4_countOf_4 N v x1 n k x2 (x3 + 1)
set_option maxRecDepth 100000 in
set_option maxHeartbeats 4000000 in
theorem wX4_countOf_4 {p : Program} {l : Launch} {e : Env} {s : State} {m : MethodId} {args : Array Value} {below : List Frame} {meth : Method} {c : Code} {D : va_G} {cI : ClassId} {cS : GS} {A : Nat → Prop} {a : Nat → Nat} {N : Nat} {v : Rg} {x1 : Int32} (C : MC p s m args meth c D cI cS A RX4 cX4_countOf 4 (some .int)) (hA : ∀ q, s.heap.size ≤ q → A q) {s0 : Int32} (k : Int32 → Int32 → Option (Int32)) (hk : ∀ (x2 : Int32) (x3 : Int32) (H : Heap) (locs : List Loc) (ls : Array Slot), Wd D A s.heap H locs [cR cI a N v] → lv_has ls 4 [(0, .ref (a 0)), (1, .int x1), (2, .int x2), (3, .int x3)] → k x2 x3 = some s0 → W p l e rmX4_countOf s m args below meth c H locs 0 0 (KQ D A below args s (some (.int s0)) [cR cI a N v]) (F0 m 31 ls [])) :
    ∀ (n : Nat) (x2 : Int32) (x3 : Int32) (H : Heap) (locs : List Loc) (ls : Array Slot), Wd D A s.heap H locs [cR cI a N v] → lv_has ls 4 [(0, .ref (a 0)), (1, .int x1), (2, .int x2), (3, .int x3)] → fX4_countOf_4 N v x1 n k x2 x3 = some s0 → W p l e rmX4_countOf s m args below meth c H locs 0 0 (KQ D A below args s (some (.int s0)) [cR cI a N v]) (F0 m 4 ls []) := by
  have hx := C.1.1
  have hb := C.1.2.1
  intro n
  induction n with
  | zero =>
    intro x2 x3 H locs ls hw hl h
    rw [fX4_countOf_4] at h
    cases h
  | succ n ih =>
    intro x2 x3 H locs ls hw hl h
    rw [fX4_countOf_4] at h
    refine lv_iload_n hx hb dX4_countOf_4 rfl (lv_at hl 3 rfl) ?_
    refine lv_aload_n hx hb dX4_countOf_5 rfl (lv_at hl 0 rfl) ?_
    refine k_get C inT_X4 hw 0 rfl rfl 3 (by decide) mF_X4_27 rfl dX4_countOf_6 ?_
    refine lv_icmp_ge (tgt := 31) hx hb dX4_countOf_9 (by decide) (fun c9 => ?_) (fun c9 => ?_)
    · replace h := br_t' h c9
      exact hk _ _ _ _ _ hw (lv_sub hl [0, 1, 2, 3] rfl) h
    · replace h := br_f' h c9
      refine lv_aload_n hx hb dX4_countOf_12 rfl (lv_at hl 0 rfl) ?_
      refine k_get C inT_X4 hw 0 rfl rfl 0 (by decide) mF_X4_15 rfl dX4_countOf_13 ?_
      refine lv_iload_n hx hb dX4_countOf_16 rfl (lv_at hl 3 rfl) ?_
      obtain ⟨y17, q17, h⟩ := bd h
      refine k_iald C hw 1 rfl q17 dX4_countOf_17 ?_
      refine lv_iload_n hx hb dX4_countOf_18 rfl (lv_at hl 1 rfl) ?_
      refine lv_icmp_ne (tgt := 25) hx hb dX4_countOf_19 (by decide) (fun c19 => ?_) (fun c19 => ?_)
      · replace h := br_f' h c19
        refine lv_iinc (v := (x3 + 1)) (lv' := [(3, .int (x3 + 1)), (0, .ref (a 0)), (1, .int x1), (2, .int x2)]) hx hb dX4_countOf_25 hl (k := 3) rfl rfl (by decide) rfl (fun ls hl => ?_)
        refine lv_goto (tgt := 4) hx hb dX4_countOf_28 (by decide) ?_
        exact ih _ _ _ _ _ hw (lv_sub hl [1, 2, 3, 0] rfl) h
      · replace h := br_t' h c19
        refine lv_iinc (v := (x2 + 1)) (lv' := [(2, .int (x2 + 1)), (0, .ref (a 0)), (1, .int x1), (3, .int x3)]) hx hb dX4_countOf_22 hl (k := 2) rfl rfl (by decide) rfl (fun ls hl => ?_)
        refine lv_iinc (v := (x3 + 1)) (lv' := [(3, .int (x3 + 1)), (2, .int (x2 + 1)), (0, .ref (a 0)), (1, .int x1)]) hx hb dX4_countOf_25 hl (k := 3) rfl rfl (by decide) rfl (fun ls hl => ?_)
        refine lv_goto (tgt := 4) hx hb dX4_countOf_28 (by decide) ?_
        exact ih _ _ _ _ _ hw (lv_sub hl [2, 3, 1, 0] rfl) h
def fX4_countOf (N : Nat) (v : Rg) (x1 : Int32) : Option (Int32) :=
  fX4_countOf_4 N v x1 FU (fun x2_4 x3_4 =>
    some x2_4) 0 0
set_option maxRecDepth 100000 in
set_option maxHeartbeats 4000000 in
theorem tX4_countOf {l : Launch} {D : va_G} {cI : ClassId} {cS : GS} {a : Nat → Nat} {N : Nat} {v : Rg} {x1 : Int32} {s0 : Int32} (h : fX4_countOf N v x1 = some s0) : CT l D cI cS yX4_countOf cX4_countOf 4 (some .int) rmX4_countOf [.ref (a 0), .int x1] [cR cI a N v] (some (.int s0)) [cR cI a N v] := by
  refine CT.of RX4 (by decide) rfl (Nat.le_of_ble_eq_true rfl) (fun p e s m below meth c ls A C hA hl hw => ?_)
  have hx := C.1.1
  have hb := C.1.2.1
  have hl : lv_has ls 4 [(0, .ref (a 0)), (1, .int x1)] := hl
  unfold fX4_countOf at h
  refine lv_iconst (v := 0) hx hb dX4_countOf_0 (by decide) ?_
  refine lv_istore_n (lv' := [(2, .int 0), (0, .ref (a 0)), (1, .int x1)]) hx hb dX4_countOf_1 rfl hl (by decide) rfl (fun ls hl => ?_)
  refine lv_iconst (v := 0) hx hb dX4_countOf_2 (by decide) ?_
  refine lv_istore_n (lv' := [(3, .int 0), (2, .int 0), (0, .ref (a 0)), (1, .int x1)]) hx hb dX4_countOf_3 rfl hl (by decide) rfl (fun ls hl => ?_)
  refine wX4_countOf_4 C hA _ (fun x2_4 x3_4 H locs ls hw4x hl h => ?_) FU _ _ _ _ _ hw (lv_sub hl [2, 3, 1, 0] rfl) h
  refine lv_iload_n hx hb dX4_countOf_31 rfl (lv_at hl 2 rfl) ?_
  cases h
  exact k_iret C hw4x dX4_countOf_32
def rmX4_marksWithin : Room := { frames := 1, cells := 0, slots := 0, locals := 23 }
def fX4_marksWithin_5 (N : Nat) (v : Rg) (x1 : Int32) (x2 : Int32) : (n : Nat) → (k : Int32 → Int32 → Option (Int32)) → Int32 → Int32 → Option (Int32)
  | 0, _, _, _ => none
  | n + 1, k, x3, x4 =>
    if v.2.2.2 ≤ x4 then
      k x3 x4
    else
      (fX4_meets N v x4 x1 x2).bind fun r19 =>
      if r19 = 0 then
        fX4_marksWithin_5 N v x1 x2 n k x3 (x4 + 1)
      else
        (ld N v.1 x4).bind fun y33 =>
        fX4_marksWithin_5 N v x1 x2 n k (x3 ||| (1 <<< (y33 &&& 31))) (x4 + 1)
set_option maxRecDepth 100000 in
set_option maxHeartbeats 4000000 in
theorem wX4_marksWithin_5 {p : Program} {l : Launch} {e : Env} {s : State} {m : MethodId} {args : Array Value} {below : List Frame} {meth : Method} {c : Code} {D : va_G} {cI : ClassId} {cS : GS} {A : Nat → Prop} {a : Nat → Nat} {N : Nat} {v : Rg} {x1 : Int32} {x2 : Int32} (C : MC p s m args meth c D cI cS A RX4 cX4_marksWithin 5 (some .int)) (hA : ∀ q, s.heap.size ≤ q → A q) {s0 : Int32} (k : Int32 → Int32 → Option (Int32)) (hk : ∀ (x3 : Int32) (x4 : Int32) (H : Heap) (locs : List Loc) (ls : Array Slot), Wd D A s.heap H locs [cR cI a N v] → lv_has ls 5 [(0, .ref (a 0)), (1, .int x1), (2, .int x2), (3, .int x3), (4, .int x4)] → k x3 x4 = some s0 → W p l e rmX4_marksWithin s m args below meth c H locs 0 0 (KQ D A below args s (some (.int s0)) [cR cI a N v]) (F0 m 43 ls [])) :
    ∀ (n : Nat) (x3 : Int32) (x4 : Int32) (H : Heap) (locs : List Loc) (ls : Array Slot), Wd D A s.heap H locs [cR cI a N v] → lv_has ls 5 [(0, .ref (a 0)), (1, .int x1), (2, .int x2), (3, .int x3), (4, .int x4)] → fX4_marksWithin_5 N v x1 x2 n k x3 x4 = some s0 → W p l e rmX4_marksWithin s m args below meth c H locs 0 0 (KQ D A below args s (some (.int s0)) [cR cI a N v]) (F0 m 5 ls []) := by
  have hx := C.1.1
  have hb := C.1.2.1
  intro n
  induction n with
  | zero =>
    intro x3 x4 H locs ls hw hl h
    rw [fX4_marksWithin_5] at h
    cases h
  | succ n ih =>
    intro x3 x4 H locs ls hw hl h
    rw [fX4_marksWithin_5] at h
    refine lv_iload hx hb dX4_marksWithin_5 (lv_at hl 4 rfl) ?_
    refine lv_aload_n hx hb dX4_marksWithin_7 rfl (lv_at hl 0 rfl) ?_
    refine k_get C inT_X4 hw 0 rfl rfl 3 (by decide) mF_X4_27 rfl dX4_marksWithin_8 ?_
    refine lv_icmp_ge (tgt := 43) hx hb dX4_marksWithin_11 (by decide) (fun c11 => ?_) (fun c11 => ?_)
    · replace h := br_t' h c11
      exact hk _ _ _ _ _ hw (lv_sub hl [0, 1, 2, 3, 4] rfl) h
    · replace h := br_f' h c11
      refine lv_aload_n hx hb dX4_marksWithin_14 rfl (lv_at hl 0 rfl) ?_
      refine lv_iload hx hb dX4_marksWithin_15 (lv_at hl 4 rfl) ?_
      refine lv_iload_n hx hb dX4_marksWithin_17 rfl (lv_at hl 1 rfl) ?_
      refine lv_iload_n hx hb dX4_marksWithin_18 rfl (lv_at hl 2 rfl) ?_
      obtain ⟨r19, q19, h⟩ := bd h
      refine k_callV (nC := 1) [cR cI a N v] C hl.1 (tX4_meets (a := a) q19) mL_X4_52 mmX4_meets rfl rfl ⟨Nat.le_of_ble_eq_true rfl, Nat.le_of_ble_eq_true rfl⟩ rfl rfl rfl rfl (Nat.le_of_ble_eq_true rfl) hA hw [0] [] rfl (by decide +kernel) rfl rfl rfl rfl dX4_marksWithin_19 (fun H locs hw19 => ?_)
      refine lv_if_eq (tgt := 37) hx hb dX4_marksWithin_22 (by decide) (fun c22 => ?_) (fun c22 => ?_)
      · replace h := br_t' h c22
        refine lv_iinc (v := (x4 + 1)) (lv' := [(4, .int (x4 + 1)), (0, .ref (a 0)), (1, .int x1), (2, .int x2), (3, .int x3)]) hx hb dX4_marksWithin_37 hl (k := 4) rfl rfl (by decide) rfl (fun ls hl => ?_)
        refine lv_goto (tgt := 5) hx hb dX4_marksWithin_40 (by decide) ?_
        exact ih _ _ _ _ _ hw19 (lv_sub hl [1, 2, 3, 4, 0] rfl) h
      · replace h := br_f' h c22
        refine lv_iload_n hx hb dX4_marksWithin_25 rfl (lv_at hl 3 rfl) ?_
        refine lv_iconst (v := 1) hx hb dX4_marksWithin_26 (by decide) ?_
        refine lv_aload_n hx hb dX4_marksWithin_27 rfl (lv_at hl 0 rfl) ?_
        refine k_get C inT_X4 hw19 0 rfl rfl 0 (by decide) mF_X4_15 rfl dX4_marksWithin_28 ?_
        refine lv_iload hx hb dX4_marksWithin_31 (lv_at hl 4 rfl) ?_
        obtain ⟨y33, q33, h⟩ := bd h
        refine k_iald C hw19 1 rfl q33 dX4_marksWithin_33 ?_
        refine lv_ishl hx hb dX4_marksWithin_34 ?_
        refine lv_ior hx hb dX4_marksWithin_35 ?_
        refine lv_istore_n (lv' := [(3, .int (x3 ||| (1 <<< (y33 &&& 31)))), (0, .ref (a 0)), (1, .int x1), (2, .int x2), (4, .int x4)]) hx hb dX4_marksWithin_36 rfl hl (by decide) rfl (fun ls hl => ?_)
        refine lv_iinc (v := (x4 + 1)) (lv' := [(4, .int (x4 + 1)), (3, .int (x3 ||| (1 <<< (y33 &&& 31)))), (0, .ref (a 0)), (1, .int x1), (2, .int x2)]) hx hb dX4_marksWithin_37 hl (k := 4) rfl rfl (by decide) rfl (fun ls hl => ?_)
        refine lv_goto (tgt := 5) hx hb dX4_marksWithin_40 (by decide) ?_
        exact ih _ _ _ _ _ hw19 (lv_sub hl [2, 3, 4, 1, 0] rfl) h
def fX4_marksWithin (N : Nat) (v : Rg) (x1 : Int32) (x2 : Int32) : Option (Int32) :=
  fX4_marksWithin_5 N v x1 x2 FU (fun x3_5 x4_5 =>
    some x3_5) 0 0
set_option maxRecDepth 100000 in
set_option maxHeartbeats 4000000 in
theorem tX4_marksWithin {l : Launch} {D : va_G} {cI : ClassId} {cS : GS} {a : Nat → Nat} {N : Nat} {v : Rg} {x1 : Int32} {x2 : Int32} {s0 : Int32} (h : fX4_marksWithin N v x1 x2 = some s0) : CT l D cI cS yX4_marksWithin cX4_marksWithin 5 (some .int) rmX4_marksWithin [.ref (a 0), .int x1, .int x2] [cR cI a N v] (some (.int s0)) [cR cI a N v] := by
  refine CT.of RX4 (by decide) rfl (Nat.le_of_ble_eq_true rfl) (fun p e s m below meth c ls A C hA hl hw => ?_)
  have hx := C.1.1
  have hb := C.1.2.1
  have hl : lv_has ls 5 [(0, .ref (a 0)), (1, .int x1), (2, .int x2)] := hl
  unfold fX4_marksWithin at h
  refine lv_iconst (v := 0) hx hb dX4_marksWithin_0 (by decide) ?_
  refine lv_istore_n (lv' := [(3, .int 0), (0, .ref (a 0)), (1, .int x1), (2, .int x2)]) hx hb dX4_marksWithin_1 rfl hl (by decide) rfl (fun ls hl => ?_)
  refine lv_iconst (v := 0) hx hb dX4_marksWithin_2 (by decide) ?_
  refine lv_istore (lv' := [(4, .int 0), (3, .int 0), (0, .ref (a 0)), (1, .int x1), (2, .int x2)]) hx hb dX4_marksWithin_3 hl (by decide) rfl (fun ls hl => ?_)
  refine wX4_marksWithin_5 C hA _ (fun x3_5 x4_5 H locs ls hw5x hl h => ?_) FU _ _ _ _ _ hw (lv_sub hl [2, 3, 4, 1, 0] rfl) h
  refine lv_iload_n hx hb dX4_marksWithin_43 rfl (lv_at hl 3 rfl) ?_
  cases h
  exact k_iret C hw5x dX4_marksWithin_44
def rmX4_lowestOf : Room := { frames := 0, cells := 0, slots := 0, locals := 0 }
def fX4_lowestOf_2 (N : Nat) (v : Rg) (x1 : Int32) : (n : Nat) → (k : Int32 → Option (Int32)) → Int32 → Option (Int32)
  | 0, _, _ => none
  | n + 1, k, x2 =>
    if v.2.2.2 ≤ x2 then
      k x2
    else
      (ld N v.1 x2).bind fun y15 =>
      if y15 = x1 then
        (ld N v.2.1 x2).bind fun y25 =>
        some y25
      else
        fX4_lowestOf_2 N v x1 n k (x2 + 1)
set_option maxRecDepth 100000 in
set_option maxHeartbeats 4000000 in
theorem wX4_lowestOf_2 {p : Program} {l : Launch} {e : Env} {s : State} {m : MethodId} {args : Array Value} {below : List Frame} {meth : Method} {c : Code} {D : va_G} {cI : ClassId} {cS : GS} {A : Nat → Prop} {a : Nat → Nat} {N : Nat} {v : Rg} {x1 : Int32} (C : MC p s m args meth c D cI cS A RX4 cX4_lowestOf 3 (some .int)) (hA : ∀ q, s.heap.size ≤ q → A q) {s0 : Int32} (k : Int32 → Option (Int32)) (hk : ∀ (x2 : Int32) (H : Heap) (locs : List Loc) (ls : Array Slot), Wd D A s.heap H locs [cR cI a N v] → lv_has ls 3 [(0, .ref (a 0)), (1, .int x1), (2, .int x2)] → k x2 = some s0 → W p l e rmX4_lowestOf s m args below meth c H locs 0 0 (KQ D A below args s (some (.int s0)) [cR cI a N v]) (F0 m 33 ls [])) :
    ∀ (n : Nat) (x2 : Int32) (H : Heap) (locs : List Loc) (ls : Array Slot), Wd D A s.heap H locs [cR cI a N v] → lv_has ls 3 [(0, .ref (a 0)), (1, .int x1), (2, .int x2)] → fX4_lowestOf_2 N v x1 n k x2 = some s0 → W p l e rmX4_lowestOf s m args below meth c H locs 0 0 (KQ D A below args s (some (.int s0)) [cR cI a N v]) (F0 m 2 ls []) := by
  have hx := C.1.1
  have hb := C.1.2.1
  intro n
  induction n with
  | zero =>
    intro x2 H locs ls hw hl h
    rw [fX4_lowestOf_2] at h
    cases h
  | succ n ih =>
    intro x2 H locs ls hw hl h
    rw [fX4_lowestOf_2] at h
    refine lv_iload_n hx hb dX4_lowestOf_2 rfl (lv_at hl 2 rfl) ?_
    refine lv_aload_n hx hb dX4_lowestOf_3 rfl (lv_at hl 0 rfl) ?_
    refine k_get C inT_X4 hw 0 rfl rfl 3 (by decide) mF_X4_27 rfl dX4_lowestOf_4 ?_
    refine lv_icmp_ge (tgt := 33) hx hb dX4_lowestOf_7 (by decide) (fun c7 => ?_) (fun c7 => ?_)
    · replace h := br_t' h c7
      exact hk _ _ _ _ hw (lv_sub hl [0, 1, 2] rfl) h
    · replace h := br_f' h c7
      refine lv_aload_n hx hb dX4_lowestOf_10 rfl (lv_at hl 0 rfl) ?_
      refine k_get C inT_X4 hw 0 rfl rfl 0 (by decide) mF_X4_15 rfl dX4_lowestOf_11 ?_
      refine lv_iload_n hx hb dX4_lowestOf_14 rfl (lv_at hl 2 rfl) ?_
      obtain ⟨y15, q15, h⟩ := bd h
      refine k_iald C hw 1 rfl q15 dX4_lowestOf_15 ?_
      refine lv_iload_n hx hb dX4_lowestOf_16 rfl (lv_at hl 1 rfl) ?_
      refine lv_icmp_ne (tgt := 27) hx hb dX4_lowestOf_17 (by decide) (fun c17 => ?_) (fun c17 => ?_)
      · replace h := br_f' h c17
        refine lv_iinc (v := (x2 + 1)) (lv' := [(2, .int (x2 + 1)), (0, .ref (a 0)), (1, .int x1)]) hx hb dX4_lowestOf_27 hl (k := 2) rfl rfl (by decide) rfl (fun ls hl => ?_)
        refine lv_goto (tgt := 2) hx hb dX4_lowestOf_30 (by decide) ?_
        exact ih _ _ _ _ hw (lv_sub hl [1, 2, 0] rfl) h
      · replace h := br_t' h c17
        refine lv_aload_n hx hb dX4_lowestOf_20 rfl (lv_at hl 0 rfl) ?_
        refine k_get C inT_X4 hw 0 rfl rfl 1 (by decide) mF_X4_21 rfl dX4_lowestOf_21 ?_
        refine lv_iload_n hx hb dX4_lowestOf_24 rfl (lv_at hl 2 rfl) ?_
        obtain ⟨y25, q25, h⟩ := bd h
        refine k_iald C hw 2 rfl q25 dX4_lowestOf_25 ?_
        cases h
        exact k_iret C hw dX4_lowestOf_26
def fX4_lowestOf (N : Nat) (v : Rg) (x1 : Int32) : Option (Int32) :=
  fX4_lowestOf_2 N v x1 FU (fun x2_2 =>
    some (-1)) 0
set_option maxRecDepth 100000 in
set_option maxHeartbeats 4000000 in
theorem tX4_lowestOf {l : Launch} {D : va_G} {cI : ClassId} {cS : GS} {a : Nat → Nat} {N : Nat} {v : Rg} {x1 : Int32} {s0 : Int32} (h : fX4_lowestOf N v x1 = some s0) : CT l D cI cS yX4_lowestOf cX4_lowestOf 3 (some .int) rmX4_lowestOf [.ref (a 0), .int x1] [cR cI a N v] (some (.int s0)) [cR cI a N v] := by
  refine CT.of RX4 (by decide) rfl (Nat.le_of_ble_eq_true rfl) (fun p e s m below meth c ls A C hA hl hw => ?_)
  have hx := C.1.1
  have hb := C.1.2.1
  have hl : lv_has ls 3 [(0, .ref (a 0)), (1, .int x1)] := hl
  unfold fX4_lowestOf at h
  refine lv_iconst (v := 0) hx hb dX4_lowestOf_0 (by decide) ?_
  refine lv_istore_n (lv' := [(2, .int 0), (0, .ref (a 0)), (1, .int x1)]) hx hb dX4_lowestOf_1 rfl hl (by decide) rfl (fun ls hl => ?_)
  refine wX4_lowestOf_2 C hA _ (fun x2_2 H locs ls hw2x hl h => ?_) FU _ _ _ _ hw (lv_sub hl [1, 2, 0] rfl) h
  refine lv_iconst (v := (-1)) hx hb dX4_lowestOf_33 (by decide) ?_
  cases h
  exact k_iret C hw2x dX4_lowestOf_34
def rmX4_highestOf : Room := { frames := 0, cells := 0, slots := 0, locals := 0 }
def fX4_highestOf_7 (N : Nat) (v : Rg) (x1 : Int32) : (n : Nat) → (k : Int32 → Option (Int32)) → Int32 → Option (Int32)
  | 0, _, _ => none
  | n + 1, k, x2 =>
    if x2 < 0 then
      k x2
    else
      (ld N v.1 x2).bind fun y16 =>
      if y16 = x1 then
        (ld N v.2.2.1 x2).bind fun y26 =>
        some y26
      else
        fX4_highestOf_7 N v x1 n k (x2 + (-1))
set_option maxRecDepth 100000 in
set_option maxHeartbeats 4000000 in
theorem wX4_highestOf_7 {p : Program} {l : Launch} {e : Env} {s : State} {m : MethodId} {args : Array Value} {below : List Frame} {meth : Method} {c : Code} {D : va_G} {cI : ClassId} {cS : GS} {A : Nat → Prop} {a : Nat → Nat} {N : Nat} {v : Rg} {x1 : Int32} (C : MC p s m args meth c D cI cS A RX4 cX4_highestOf 3 (some .int)) (hA : ∀ q, s.heap.size ≤ q → A q) {s0 : Int32} (k : Int32 → Option (Int32)) (hk : ∀ (x2 : Int32) (H : Heap) (locs : List Loc) (ls : Array Slot), Wd D A s.heap H locs [cR cI a N v] → lv_has ls 3 [(0, .ref (a 0)), (1, .int x1), (2, .int x2)] → k x2 = some s0 → W p l e rmX4_highestOf s m args below meth c H locs 0 0 (KQ D A below args s (some (.int s0)) [cR cI a N v]) (F0 m 34 ls [])) :
    ∀ (n : Nat) (x2 : Int32) (H : Heap) (locs : List Loc) (ls : Array Slot), Wd D A s.heap H locs [cR cI a N v] → lv_has ls 3 [(0, .ref (a 0)), (1, .int x1), (2, .int x2)] → fX4_highestOf_7 N v x1 n k x2 = some s0 → W p l e rmX4_highestOf s m args below meth c H locs 0 0 (KQ D A below args s (some (.int s0)) [cR cI a N v]) (F0 m 7 ls []) := by
  have hx := C.1.1
  have hb := C.1.2.1
  intro n
  induction n with
  | zero =>
    intro x2 H locs ls hw hl h
    rw [fX4_highestOf_7] at h
    cases h
  | succ n ih =>
    intro x2 H locs ls hw hl h
    rw [fX4_highestOf_7] at h
    refine lv_iload_n hx hb dX4_highestOf_7 rfl (lv_at hl 2 rfl) ?_
    refine lv_if_lt (tgt := 34) hx hb dX4_highestOf_8 (by decide) (fun c8 => ?_) (fun c8 => ?_)
    · replace h := br_t' h c8
      exact hk _ _ _ _ hw (lv_sub hl [0, 1, 2] rfl) h
    · replace h := br_f' h c8
      refine lv_aload_n hx hb dX4_highestOf_11 rfl (lv_at hl 0 rfl) ?_
      refine k_get C inT_X4 hw 0 rfl rfl 0 (by decide) mF_X4_15 rfl dX4_highestOf_12 ?_
      refine lv_iload_n hx hb dX4_highestOf_15 rfl (lv_at hl 2 rfl) ?_
      obtain ⟨y16, q16, h⟩ := bd h
      refine k_iald C hw 1 rfl q16 dX4_highestOf_16 ?_
      refine lv_iload_n hx hb dX4_highestOf_17 rfl (lv_at hl 1 rfl) ?_
      refine lv_icmp_ne (tgt := 28) hx hb dX4_highestOf_18 (by decide) (fun c18 => ?_) (fun c18 => ?_)
      · replace h := br_f' h c18
        refine lv_iinc (v := (x2 + (-1))) (lv' := [(2, .int (x2 + (-1))), (0, .ref (a 0)), (1, .int x1)]) hx hb dX4_highestOf_28 hl (k := 2) rfl rfl (by decide) rfl (fun ls hl => ?_)
        refine lv_goto (tgt := 7) hx hb dX4_highestOf_31 (by decide) ?_
        exact ih _ _ _ _ hw (lv_sub hl [1, 2, 0] rfl) h
      · replace h := br_t' h c18
        refine lv_aload_n hx hb dX4_highestOf_21 rfl (lv_at hl 0 rfl) ?_
        refine k_get C inT_X4 hw 0 rfl rfl 2 (by decide) mF_X4_24 rfl dX4_highestOf_22 ?_
        refine lv_iload_n hx hb dX4_highestOf_25 rfl (lv_at hl 2 rfl) ?_
        obtain ⟨y26, q26, h⟩ := bd h
        refine k_iald C hw 3 rfl q26 dX4_highestOf_26 ?_
        cases h
        exact k_iret C hw dX4_highestOf_27
def fX4_highestOf (N : Nat) (v : Rg) (x1 : Int32) : Option (Int32) :=
  fX4_highestOf_7 N v x1 FU (fun x2_7 =>
    some (-1)) (v.2.2.2 - 1)
set_option maxRecDepth 100000 in
set_option maxHeartbeats 4000000 in
theorem tX4_highestOf {l : Launch} {D : va_G} {cI : ClassId} {cS : GS} {a : Nat → Nat} {N : Nat} {v : Rg} {x1 : Int32} {s0 : Int32} (h : fX4_highestOf N v x1 = some s0) : CT l D cI cS yX4_highestOf cX4_highestOf 3 (some .int) rmX4_highestOf [.ref (a 0), .int x1] [cR cI a N v] (some (.int s0)) [cR cI a N v] := by
  refine CT.of RX4 (by decide) rfl (Nat.le_of_ble_eq_true rfl) (fun p e s m below meth c ls A C hA hl hw => ?_)
  have hx := C.1.1
  have hb := C.1.2.1
  have hl : lv_has ls 3 [(0, .ref (a 0)), (1, .int x1)] := hl
  unfold fX4_highestOf at h
  refine lv_aload_n hx hb dX4_highestOf_0 rfl (lv_at hl 0 rfl) ?_
  refine k_get C inT_X4 hw 0 rfl rfl 3 (by decide) mF_X4_27 rfl dX4_highestOf_1 ?_
  refine lv_iconst (v := 1) hx hb dX4_highestOf_4 (by decide) ?_
  refine lv_isub hx hb dX4_highestOf_5 ?_
  refine lv_istore_n (lv' := [(2, .int (v.2.2.2 - 1)), (0, .ref (a 0)), (1, .int x1)]) hx hb dX4_highestOf_6 rfl hl (by decide) rfl (fun ls hl => ?_)
  refine wX4_highestOf_7 C hA _ (fun x2_7 H locs ls hw7x hl h => ?_) FU _ _ _ _ hw (lv_sub hl [1, 2, 0] rfl) h
  refine lv_iconst (v := (-1)) hx hb dX4_highestOf_34 (by decide) ?_
  cases h
  exact k_iret C hw7x dX4_highestOf_35
def rmX4_bareFrom : Room := { frames := 1, cells := 0, slots := 0, locals := 22 }
def fX4_bareFrom_20 (N : Nat) (v : Rg) (x1 : Int32) : (n : Nat) → (k : Int32 → Int32 → Option (Int32)) → Int32 → Int32 → Option (Int32)
  | 0, _, _, _ => none
  | n + 1, k, x3, x6 =>
    if v.2.2.2 ≤ x6 then
      k x3 x6
    else
      (ld N v.1 x6).bind fun y35 =>
      if y35 = x1 then
        (fX4_includes N v x6 x3).bind fun r44 =>
        if r44 = 0 then
          fX4_bareFrom_20 N v x1 n k x3 (x6 + 1)
        else
          (ld N v.2.2.1 x6).bind fun y56 =>
          fX4_bareFrom_20 N v x1 n k (y56 + 1) (x6 + 1)
      else
        fX4_bareFrom_20 N v x1 n k x3 (x6 + 1)
set_option maxRecDepth 100000 in
set_option maxHeartbeats 4000000 in
theorem wX4_bareFrom_20 {p : Program} {l : Launch} {e : Env} {s : State} {m : MethodId} {args : Array Value} {below : List Frame} {meth : Method} {c : Code} {D : va_G} {cI : ClassId} {cS : GS} {A : Nat → Prop} {a : Nat → Nat} {N : Nat} {v : Rg} {x1 : Int32} {x4 : Int32} {x5 : Int32} (C : MC p s m args meth c D cI cS A RX4 cX4_bareFrom 7 (some .int)) (hA : ∀ q, s.heap.size ≤ q → A q) {s0 : Int32} (k : Int32 → Int32 → Option (Int32)) (hk : ∀ (x3 : Int32) (x6 : Int32) (H : Heap) (locs : List Loc) (ls : Array Slot), Wd D A s.heap H locs [cR cI a N v] → lv_has ls 7 [(0, .ref (a 0)), (1, .int x1), (3, .int x3), (4, .int x4), (5, .int x5), (6, .int x6)] → k x3 x6 = some s0 → W p l e rmX4_bareFrom s m args below meth c H locs 0 0 (KQ D A below args s (some (.int s0)) [cR cI a N v]) (F0 m 66 ls [])) :
    ∀ (n : Nat) (x3 : Int32) (x6 : Int32) (H : Heap) (locs : List Loc) (ls : Array Slot), Wd D A s.heap H locs [cR cI a N v] → lv_has ls 7 [(0, .ref (a 0)), (1, .int x1), (3, .int x3), (4, .int x4), (5, .int x5), (6, .int x6)] → fX4_bareFrom_20 N v x1 n k x3 x6 = some s0 → W p l e rmX4_bareFrom s m args below meth c H locs 0 0 (KQ D A below args s (some (.int s0)) [cR cI a N v]) (F0 m 20 ls []) := by
  have hx := C.1.1
  have hb := C.1.2.1
  intro n
  induction n with
  | zero =>
    intro x3 x6 H locs ls hw hl h
    rw [fX4_bareFrom_20] at h
    cases h
  | succ n ih =>
    intro x3 x6 H locs ls hw hl h
    rw [fX4_bareFrom_20] at h
    refine lv_iload hx hb dX4_bareFrom_20 (lv_at hl 5 rfl) ?_
    refine lv_aload_n hx hb dX4_bareFrom_22 rfl (lv_at hl 0 rfl) ?_
    refine k_get C inT_X4 hw 0 rfl rfl 3 (by decide) mF_X4_27 rfl dX4_bareFrom_23 ?_
    refine lv_icmp_ge (tgt := 66) hx hb dX4_bareFrom_26 (by decide) (fun c26 => ?_) (fun c26 => ?_)
    · replace h := br_t' h c26
      exact hk _ _ _ _ _ hw (lv_sub hl [0, 1, 2, 3, 4, 5] rfl) h
    · replace h := br_f' h c26
      refine lv_aload_n hx hb dX4_bareFrom_29 rfl (lv_at hl 0 rfl) ?_
      refine k_get C inT_X4 hw 0 rfl rfl 0 (by decide) mF_X4_15 rfl dX4_bareFrom_30 ?_
      refine lv_iload hx hb dX4_bareFrom_33 (lv_at hl 5 rfl) ?_
      obtain ⟨y35, q35, h⟩ := bd h
      refine k_iald C hw 1 rfl q35 dX4_bareFrom_35 ?_
      refine lv_iload_n hx hb dX4_bareFrom_36 rfl (lv_at hl 1 rfl) ?_
      refine lv_icmp_ne (tgt := 60) hx hb dX4_bareFrom_37 (by decide) (fun c37 => ?_) (fun c37 => ?_)
      · replace h := br_f' h c37
        refine lv_iinc (v := (x6 + 1)) (lv' := [(6, .int (x6 + 1)), (0, .ref (a 0)), (1, .int x1), (3, .int x3), (4, .int x4), (5, .int x5)]) hx hb dX4_bareFrom_60 hl (k := 5) rfl rfl (by decide) rfl (fun ls hl => ?_)
        refine lv_goto (tgt := 20) hx hb dX4_bareFrom_63 (by decide) ?_
        exact ih _ _ _ _ _ hw (lv_sub hl [1, 2, 3, 4, 5, 0] rfl) h
      · replace h := br_t' h c37
        refine lv_aload_n hx hb dX4_bareFrom_40 rfl (lv_at hl 0 rfl) ?_
        refine lv_iload hx hb dX4_bareFrom_41 (lv_at hl 5 rfl) ?_
        refine lv_iload_n hx hb dX4_bareFrom_43 rfl (lv_at hl 2 rfl) ?_
        obtain ⟨r44, q44, h⟩ := bd h
        refine k_callV (nC := 1) [cR cI a N v] C hl.1 (tX4_includes (a := a) q44) mL_X4_55 mmX4_includes rfl rfl ⟨Nat.le_of_ble_eq_true rfl, Nat.le_of_ble_eq_true rfl⟩ rfl rfl rfl rfl (Nat.le_of_ble_eq_true rfl) hA hw [0] [] rfl (by decide +kernel) rfl rfl rfl rfl dX4_bareFrom_44 (fun H locs hw44 => ?_)
        refine lv_if_eq (tgt := 60) hx hb dX4_bareFrom_47 (by decide) (fun c47 => ?_) (fun c47 => ?_)
        · replace h := br_t' h c47
          refine lv_iinc (v := (x6 + 1)) (lv' := [(6, .int (x6 + 1)), (0, .ref (a 0)), (1, .int x1), (3, .int x3), (4, .int x4), (5, .int x5)]) hx hb dX4_bareFrom_60 hl (k := 5) rfl rfl (by decide) rfl (fun ls hl => ?_)
          refine lv_goto (tgt := 20) hx hb dX4_bareFrom_63 (by decide) ?_
          exact ih _ _ _ _ _ hw44 (lv_sub hl [1, 2, 3, 4, 5, 0] rfl) h
        · replace h := br_f' h c47
          refine lv_aload_n hx hb dX4_bareFrom_50 rfl (lv_at hl 0 rfl) ?_
          refine k_get C inT_X4 hw44 0 rfl rfl 2 (by decide) mF_X4_24 rfl dX4_bareFrom_51 ?_
          refine lv_iload hx hb dX4_bareFrom_54 (lv_at hl 5 rfl) ?_
          obtain ⟨y56, q56, h⟩ := bd h
          refine k_iald C hw44 3 rfl q56 dX4_bareFrom_56 ?_
          refine lv_iconst (v := 1) hx hb dX4_bareFrom_57 (by decide) ?_
          refine lv_iadd hx hb dX4_bareFrom_58 ?_
          refine lv_istore_n (lv' := [(3, .int (y56 + 1)), (0, .ref (a 0)), (1, .int x1), (4, .int x4), (5, .int x5), (6, .int x6)]) hx hb dX4_bareFrom_59 rfl hl (by decide) rfl (fun ls hl => ?_)
          refine lv_iinc (v := (x6 + 1)) (lv' := [(6, .int (x6 + 1)), (3, .int (y56 + 1)), (0, .ref (a 0)), (1, .int x1), (4, .int x4), (5, .int x5)]) hx hb dX4_bareFrom_60 hl (k := 5) rfl rfl (by decide) rfl (fun ls hl => ?_)
          refine lv_goto (tgt := 20) hx hb dX4_bareFrom_63 (by decide) ?_
          exact ih _ _ _ _ _ hw44 (lv_sub hl [2, 3, 1, 4, 5, 0] rfl) h
def fX4_bareFrom_5 (N : Nat) (v : Rg) (x1 : Int32) : (n : Nat) → (k : Int32 → Int32 → Option (Int32)) → Int32 → Int32 → Option (Int32)
  | 0, _, _, _ => none
  | n + 1, k, x3, x4 =>
    if v.2.2.2 ≤ x4 then
      k x3 x4
    else
      fX4_bareFrom_20 N v x1 FU (fun x3_20 x6_20 =>
        if x3_20 = x3 then
          k x3_20 x4
        else
          fX4_bareFrom_5 N v x1 n k x3_20 (x4 + 1)) x3 0
set_option maxRecDepth 100000 in
set_option maxHeartbeats 4000000 in
theorem wX4_bareFrom_5 {p : Program} {l : Launch} {e : Env} {s : State} {m : MethodId} {args : Array Value} {below : List Frame} {meth : Method} {c : Code} {D : va_G} {cI : ClassId} {cS : GS} {A : Nat → Prop} {a : Nat → Nat} {N : Nat} {v : Rg} {x1 : Int32} (C : MC p s m args meth c D cI cS A RX4 cX4_bareFrom 7 (some .int)) (hA : ∀ q, s.heap.size ≤ q → A q) {s0 : Int32} (k : Int32 → Int32 → Option (Int32)) (hk : ∀ (x3 : Int32) (x4 : Int32) (H : Heap) (locs : List Loc) (ls : Array Slot), Wd D A s.heap H locs [cR cI a N v] → lv_has ls 7 [(0, .ref (a 0)), (1, .int x1), (3, .int x3), (4, .int x4)] → k x3 x4 = some s0 → W p l e rmX4_bareFrom s m args below meth c H locs 0 0 (KQ D A below args s (some (.int s0)) [cR cI a N v]) (F0 m 81 ls [])) :
    ∀ (n : Nat) (x3 : Int32) (x4 : Int32) (H : Heap) (locs : List Loc) (ls : Array Slot), Wd D A s.heap H locs [cR cI a N v] → lv_has ls 7 [(0, .ref (a 0)), (1, .int x1), (3, .int x3), (4, .int x4)] → fX4_bareFrom_5 N v x1 n k x3 x4 = some s0 → W p l e rmX4_bareFrom s m args below meth c H locs 0 0 (KQ D A below args s (some (.int s0)) [cR cI a N v]) (F0 m 5 ls []) := by
  have hx := C.1.1
  have hb := C.1.2.1
  intro n
  induction n with
  | zero =>
    intro x3 x4 H locs ls hw hl h
    rw [fX4_bareFrom_5] at h
    cases h
  | succ n ih =>
    intro x3 x4 H locs ls hw hl h
    rw [fX4_bareFrom_5] at h
    refine lv_iload hx hb dX4_bareFrom_5 (lv_at hl 3 rfl) ?_
    refine lv_aload_n hx hb dX4_bareFrom_7 rfl (lv_at hl 0 rfl) ?_
    refine k_get C inT_X4 hw 0 rfl rfl 3 (by decide) mF_X4_27 rfl dX4_bareFrom_8 ?_
    refine lv_icmp_ge (tgt := 81) hx hb dX4_bareFrom_11 (by decide) (fun c11 => ?_) (fun c11 => ?_)
    · replace h := br_t' h c11
      exact hk _ _ _ _ _ hw (lv_sub hl [0, 1, 2, 3] rfl) h
    · replace h := br_f' h c11
      refine lv_iload_n hx hb dX4_bareFrom_14 rfl (lv_at hl 2 rfl) ?_
      refine lv_istore (lv' := [(5, .int x3), (0, .ref (a 0)), (1, .int x1), (3, .int x3), (4, .int x4)]) hx hb dX4_bareFrom_15 hl (by decide) rfl (fun ls hl => ?_)
      refine lv_iconst (v := 0) hx hb dX4_bareFrom_17 (by decide) ?_
      refine lv_istore (lv' := [(6, .int 0), (5, .int x3), (0, .ref (a 0)), (1, .int x1), (3, .int x3), (4, .int x4)]) hx hb dX4_bareFrom_18 hl (by decide) rfl (fun ls hl => ?_)
      refine wX4_bareFrom_20 C hA _ (fun x3_20 x6_20 H locs ls hw20x hl h => ?_) FU _ _ _ _ _ hw (lv_sub hl [2, 3, 4, 5, 1, 0] rfl) h
      refine lv_iload_n hx hb dX4_bareFrom_66 rfl (lv_at hl 2 rfl) ?_
      refine lv_iload hx hb dX4_bareFrom_67 (lv_at hl 4 rfl) ?_
      refine lv_icmp_ne (tgt := 75) hx hb dX4_bareFrom_69 (by decide) (fun c69 => ?_) (fun c69 => ?_)
      · replace h := br_f' h c69
        refine lv_iinc (v := (x4 + 1)) (lv' := [(4, .int (x4 + 1)), (0, .ref (a 0)), (1, .int x1), (3, .int x3_20), (5, .int x3), (6, .int x6_20)]) hx hb dX4_bareFrom_75 hl (k := 3) rfl rfl (by decide) rfl (fun ls hl => ?_)
        refine lv_goto (tgt := 5) hx hb dX4_bareFrom_78 (by decide) ?_
        exact ih _ _ _ _ _ hw20x (lv_sub hl [1, 2, 3, 0] rfl) h
      · replace h := br_t' h c69
        refine lv_goto (tgt := 81) hx hb dX4_bareFrom_72 (by decide) ?_
        exact hk _ _ _ _ _ hw20x (lv_sub hl [0, 1, 2, 3] rfl) h
def fX4_bareFrom (N : Nat) (v : Rg) (x1 : Int32) (x2 : Int32) : Option (Int32) :=
  fX4_bareFrom_5 N v x1 FU (fun x3_5 x4_5 =>
    some x3_5) x2 0
set_option maxRecDepth 100000 in
set_option maxHeartbeats 4000000 in
theorem tX4_bareFrom {l : Launch} {D : va_G} {cI : ClassId} {cS : GS} {a : Nat → Nat} {N : Nat} {v : Rg} {x1 : Int32} {x2 : Int32} {s0 : Int32} (h : fX4_bareFrom N v x1 x2 = some s0) : CT l D cI cS yX4_bareFrom cX4_bareFrom 7 (some .int) rmX4_bareFrom [.ref (a 0), .int x1, .int x2] [cR cI a N v] (some (.int s0)) [cR cI a N v] := by
  refine CT.of RX4 (by decide) rfl (Nat.le_of_ble_eq_true rfl) (fun p e s m below meth c ls A C hA hl hw => ?_)
  have hx := C.1.1
  have hb := C.1.2.1
  have hl : lv_has ls 7 [(0, .ref (a 0)), (1, .int x1), (2, .int x2)] := hl
  unfold fX4_bareFrom at h
  refine lv_iload_n hx hb dX4_bareFrom_0 rfl (lv_at hl 2 rfl) ?_
  refine lv_istore_n (lv' := [(3, .int x2), (0, .ref (a 0)), (1, .int x1), (2, .int x2)]) hx hb dX4_bareFrom_1 rfl hl (by decide) rfl (fun ls hl => ?_)
  refine lv_iconst (v := 0) hx hb dX4_bareFrom_2 (by decide) ?_
  refine lv_istore (lv' := [(4, .int 0), (3, .int x2), (0, .ref (a 0)), (1, .int x1), (2, .int x2)]) hx hb dX4_bareFrom_3 hl (by decide) rfl (fun ls hl => ?_)
  refine wX4_bareFrom_5 C hA _ (fun x3_5 x4_5 H locs ls hw5x hl h => ?_) FU _ _ _ _ _ hw (lv_sub hl [2, 3, 1, 0] rfl) h
  refine lv_iload_n hx hb dX4_bareFrom_81 rfl (lv_at hl 2 rfl) ?_
  cases h
  exact k_iret C hw5x dX4_bareFrom_82
def rmX4_bareTo : Room := { frames := 0, cells := 0, slots := 0, locals := 0 }
def fX4_bareTo_6 (N : Nat) (v : Rg) (x1 : Int32) (x2 : Int32) : (n : Nat) → (k : Int32 → Int32 → Option (Int32)) → Int32 → Int32 → Option (Int32)
  | 0, _, _, _ => none
  | n + 1, k, x4, x5 =>
    if v.2.2.2 ≤ x5 then
      k x4 x5
    else
      (ld N v.1 x5).bind fun y21 =>
      if y21 = x1 then
        (ld N v.2.1 x5).bind fun y32 =>
        if y32 ≤ x2 then
          fX4_bareTo_6 N v x1 x2 n k x4 (x5 + 1)
        else
          (ld N v.2.1 x5).bind fun y43 =>
          if x4 < y43 then
            fX4_bareTo_6 N v x1 x2 n k x4 (x5 + 1)
          else
            (ld N v.2.1 x5).bind fun y55 =>
            fX4_bareTo_6 N v x1 x2 n k (y55 - 1) (x5 + 1)
      else
        fX4_bareTo_6 N v x1 x2 n k x4 (x5 + 1)
set_option maxRecDepth 100000 in
set_option maxHeartbeats 4000000 in
theorem wX4_bareTo_6 {p : Program} {l : Launch} {e : Env} {s : State} {m : MethodId} {args : Array Value} {below : List Frame} {meth : Method} {c : Code} {D : va_G} {cI : ClassId} {cS : GS} {A : Nat → Prop} {a : Nat → Nat} {N : Nat} {v : Rg} {x1 : Int32} {x2 : Int32} (C : MC p s m args meth c D cI cS A RX4 cX4_bareTo 6 (some .int)) (hA : ∀ q, s.heap.size ≤ q → A q) {s0 : Int32} (k : Int32 → Int32 → Option (Int32)) (hk : ∀ (x4 : Int32) (x5 : Int32) (H : Heap) (locs : List Loc) (ls : Array Slot), Wd D A s.heap H locs [cR cI a N v] → lv_has ls 6 [(0, .ref (a 0)), (1, .int x1), (2, .int x2), (4, .int x4), (5, .int x5)] → k x4 x5 = some s0 → W p l e rmX4_bareTo s m args below meth c H locs 0 0 (KQ D A below args s (some (.int s0)) [cR cI a N v]) (F0 m 66 ls [])) :
    ∀ (n : Nat) (x4 : Int32) (x5 : Int32) (H : Heap) (locs : List Loc) (ls : Array Slot), Wd D A s.heap H locs [cR cI a N v] → lv_has ls 6 [(0, .ref (a 0)), (1, .int x1), (2, .int x2), (4, .int x4), (5, .int x5)] → fX4_bareTo_6 N v x1 x2 n k x4 x5 = some s0 → W p l e rmX4_bareTo s m args below meth c H locs 0 0 (KQ D A below args s (some (.int s0)) [cR cI a N v]) (F0 m 6 ls []) := by
  have hx := C.1.1
  have hb := C.1.2.1
  intro n
  induction n with
  | zero =>
    intro x4 x5 H locs ls hw hl h
    rw [fX4_bareTo_6] at h
    cases h
  | succ n ih =>
    intro x4 x5 H locs ls hw hl h
    rw [fX4_bareTo_6] at h
    refine lv_iload hx hb dX4_bareTo_6 (lv_at hl 4 rfl) ?_
    refine lv_aload_n hx hb dX4_bareTo_8 rfl (lv_at hl 0 rfl) ?_
    refine k_get C inT_X4 hw 0 rfl rfl 3 (by decide) mF_X4_27 rfl dX4_bareTo_9 ?_
    refine lv_icmp_ge (tgt := 66) hx hb dX4_bareTo_12 (by decide) (fun c12 => ?_) (fun c12 => ?_)
    · replace h := br_t' h c12
      exact hk _ _ _ _ _ hw (lv_sub hl [0, 1, 2, 3, 4] rfl) h
    · replace h := br_f' h c12
      refine lv_aload_n hx hb dX4_bareTo_15 rfl (lv_at hl 0 rfl) ?_
      refine k_get C inT_X4 hw 0 rfl rfl 0 (by decide) mF_X4_15 rfl dX4_bareTo_16 ?_
      refine lv_iload hx hb dX4_bareTo_19 (lv_at hl 4 rfl) ?_
      obtain ⟨y21, q21, h⟩ := bd h
      refine k_iald C hw 1 rfl q21 dX4_bareTo_21 ?_
      refine lv_iload_n hx hb dX4_bareTo_22 rfl (lv_at hl 1 rfl) ?_
      refine lv_icmp_ne (tgt := 60) hx hb dX4_bareTo_23 (by decide) (fun c23 => ?_) (fun c23 => ?_)
      · replace h := br_f' h c23
        refine lv_iinc (v := (x5 + 1)) (lv' := [(5, .int (x5 + 1)), (0, .ref (a 0)), (1, .int x1), (2, .int x2), (4, .int x4)]) hx hb dX4_bareTo_60 hl (k := 4) rfl rfl (by decide) rfl (fun ls hl => ?_)
        refine lv_goto (tgt := 6) hx hb dX4_bareTo_63 (by decide) ?_
        exact ih _ _ _ _ _ hw (lv_sub hl [1, 2, 3, 4, 0] rfl) h
      · replace h := br_t' h c23
        refine lv_aload_n hx hb dX4_bareTo_26 rfl (lv_at hl 0 rfl) ?_
        refine k_get C inT_X4 hw 0 rfl rfl 1 (by decide) mF_X4_21 rfl dX4_bareTo_27 ?_
        refine lv_iload hx hb dX4_bareTo_30 (lv_at hl 4 rfl) ?_
        obtain ⟨y32, q32, h⟩ := bd h
        refine k_iald C hw 2 rfl q32 dX4_bareTo_32 ?_
        refine lv_iload_n hx hb dX4_bareTo_33 rfl (lv_at hl 2 rfl) ?_
        refine lv_icmp_le (tgt := 60) hx hb dX4_bareTo_34 (by decide) (fun c34 => ?_) (fun c34 => ?_)
        · replace h := br_t' h c34
          refine lv_iinc (v := (x5 + 1)) (lv' := [(5, .int (x5 + 1)), (0, .ref (a 0)), (1, .int x1), (2, .int x2), (4, .int x4)]) hx hb dX4_bareTo_60 hl (k := 4) rfl rfl (by decide) rfl (fun ls hl => ?_)
          refine lv_goto (tgt := 6) hx hb dX4_bareTo_63 (by decide) ?_
          exact ih _ _ _ _ _ hw (lv_sub hl [1, 2, 3, 4, 0] rfl) h
        · replace h := br_f' h c34
          refine lv_aload_n hx hb dX4_bareTo_37 rfl (lv_at hl 0 rfl) ?_
          refine k_get C inT_X4 hw 0 rfl rfl 1 (by decide) mF_X4_21 rfl dX4_bareTo_38 ?_
          refine lv_iload hx hb dX4_bareTo_41 (lv_at hl 4 rfl) ?_
          obtain ⟨y43, q43, h⟩ := bd h
          refine k_iald C hw 2 rfl q43 dX4_bareTo_43 ?_
          refine lv_iload hx hb dX4_bareTo_44 (lv_at hl 3 rfl) ?_
          refine lv_icmp_gt (tgt := 60) hx hb dX4_bareTo_46 (by decide) (fun c46 => ?_) (fun c46 => ?_)
          · replace h := br_t' h c46
            refine lv_iinc (v := (x5 + 1)) (lv' := [(5, .int (x5 + 1)), (0, .ref (a 0)), (1, .int x1), (2, .int x2), (4, .int x4)]) hx hb dX4_bareTo_60 hl (k := 4) rfl rfl (by decide) rfl (fun ls hl => ?_)
            refine lv_goto (tgt := 6) hx hb dX4_bareTo_63 (by decide) ?_
            exact ih _ _ _ _ _ hw (lv_sub hl [1, 2, 3, 4, 0] rfl) h
          · replace h := br_f' h c46
            refine lv_aload_n hx hb dX4_bareTo_49 rfl (lv_at hl 0 rfl) ?_
            refine k_get C inT_X4 hw 0 rfl rfl 1 (by decide) mF_X4_21 rfl dX4_bareTo_50 ?_
            refine lv_iload hx hb dX4_bareTo_53 (lv_at hl 4 rfl) ?_
            obtain ⟨y55, q55, h⟩ := bd h
            refine k_iald C hw 2 rfl q55 dX4_bareTo_55 ?_
            refine lv_iconst (v := 1) hx hb dX4_bareTo_56 (by decide) ?_
            refine lv_isub hx hb dX4_bareTo_57 ?_
            refine lv_istore (lv' := [(4, .int (y55 - 1)), (0, .ref (a 0)), (1, .int x1), (2, .int x2), (5, .int x5)]) hx hb dX4_bareTo_58 hl (by decide) rfl (fun ls hl => ?_)
            refine lv_iinc (v := (x5 + 1)) (lv' := [(5, .int (x5 + 1)), (4, .int (y55 - 1)), (0, .ref (a 0)), (1, .int x1), (2, .int x2)]) hx hb dX4_bareTo_60 hl (k := 4) rfl rfl (by decide) rfl (fun ls hl => ?_)
            refine lv_goto (tgt := 6) hx hb dX4_bareTo_63 (by decide) ?_
            exact ih _ _ _ _ _ hw (lv_sub hl [2, 3, 4, 1, 0] rfl) h
def fX4_bareTo (N : Nat) (v : Rg) (x1 : Int32) (x2 : Int32) (x3 : Int32) : Option (Int32) :=
  fX4_bareTo_6 N v x1 x2 FU (fun x4_6 x5_6 =>
    some x4_6) x3 0
set_option maxRecDepth 100000 in
set_option maxHeartbeats 4000000 in
theorem tX4_bareTo {l : Launch} {D : va_G} {cI : ClassId} {cS : GS} {a : Nat → Nat} {N : Nat} {v : Rg} {x1 : Int32} {x2 : Int32} {x3 : Int32} {s0 : Int32} (h : fX4_bareTo N v x1 x2 x3 = some s0) : CT l D cI cS yX4_bareTo cX4_bareTo 6 (some .int) rmX4_bareTo [.ref (a 0), .int x1, .int x2, .int x3] [cR cI a N v] (some (.int s0)) [cR cI a N v] := by
  refine CT.of RX4 (by decide) rfl (Nat.le_of_ble_eq_true rfl) (fun p e s m below meth c ls A C hA hl hw => ?_)
  have hx := C.1.1
  have hb := C.1.2.1
  have hl : lv_has ls 6 [(0, .ref (a 0)), (1, .int x1), (2, .int x2), (3, .int x3)] := hl
  unfold fX4_bareTo at h
  refine lv_iload_n hx hb dX4_bareTo_0 rfl (lv_at hl 3 rfl) ?_
  refine lv_istore (lv' := [(4, .int x3), (0, .ref (a 0)), (1, .int x1), (2, .int x2), (3, .int x3)]) hx hb dX4_bareTo_1 hl (by decide) rfl (fun ls hl => ?_)
  refine lv_iconst (v := 0) hx hb dX4_bareTo_3 (by decide) ?_
  refine lv_istore (lv' := [(5, .int 0), (4, .int x3), (0, .ref (a 0)), (1, .int x1), (2, .int x2), (3, .int x3)]) hx hb dX4_bareTo_4 hl (by decide) rfl (fun ls hl => ?_)
  refine wX4_bareTo_6 C hA _ (fun x4_6 x5_6 H locs ls hw6x hl h => ?_) FU _ _ _ _ _ hw (lv_sub hl [2, 3, 4, 1, 0] rfl) h
  refine lv_iload hx hb dX4_bareTo_66 (lv_at hl 3 rfl) ?_
  cases h
  exact k_iret C hw6x dX4_bareTo_68
def rmX4_bareSheets : Room := { frames := 2, cells := 0, slots := 0, locals := 48 }
def fX4_bareSheets_14 (N : Nat) (v : Rg) (x1 : Int32) (x3 : Int32) : (n : Nat) → (k : Int32 → Int32 → Int32 → Option (Int32)) → Int32 → Int32 → Int32 → Option (Int32)
  | 0, _, _, _, _ => none
  | n + 1, k, x4, x5, x6 =>
    if v.2.2.2 < x6 then
      k x4 x5 x6
    else
      if x3 < x5 then
        k x4 x5 x6
      else
        (fX4_bareTo N v x1 x5 x3).bind fun r34 =>
        (fX4_bareFrom N v x1 (r34 + 1)).bind fun r57 =>
        fX4_bareSheets_14 N v x1 x3 n k (x4 + ((r34 - x5) + 1)) r57 (x6 + 1)
set_option maxRecDepth 100000 in
set_option maxHeartbeats 4000000 in
theorem wX4_bareSheets_14 {p : Program} {l : Launch} {e : Env} {s : State} {m : MethodId} {args : Array Value} {below : List Frame} {meth : Method} {c : Code} {D : va_G} {cI : ClassId} {cS : GS} {A : Nat → Prop} {a : Nat → Nat} {N : Nat} {v : Rg} {x1 : Int32} {x3 : Int32} (C : MC p s m args meth c D cI cS A RX4 cX4_bareSheets 8 (some .int)) (hA : ∀ q, s.heap.size ≤ q → A q) {s0 : Int32} (k : Int32 → Int32 → Int32 → Option (Int32)) (hk : ∀ (x4 : Int32) (x5 : Int32) (x6 : Int32) (H : Heap) (locs : List Loc) (ls : Array Slot), Wd D A s.heap H locs [cR cI a N v] → lv_has ls 8 [(0, .ref (a 0)), (1, .int x1), (3, .int x3), (4, .int x4), (5, .int x5), (6, .int x6)] → k x4 x5 x6 = some s0 → W p l e rmX4_bareSheets s m args below meth c H locs 0 0 (KQ D A below args s (some (.int s0)) [cR cI a N v]) (F0 m 68 ls [])) :
    ∀ (n : Nat) (x4 : Int32) (x5 : Int32) (x6 : Int32) (H : Heap) (locs : List Loc) (ls : Array Slot), Wd D A s.heap H locs [cR cI a N v] → lv_has ls 8 [(0, .ref (a 0)), (1, .int x1), (3, .int x3), (4, .int x4), (5, .int x5), (6, .int x6)] → fX4_bareSheets_14 N v x1 x3 n k x4 x5 x6 = some s0 → W p l e rmX4_bareSheets s m args below meth c H locs 0 0 (KQ D A below args s (some (.int s0)) [cR cI a N v]) (F0 m 14 ls []) := by
  have hx := C.1.1
  have hb := C.1.2.1
  intro n
  induction n with
  | zero =>
    intro x4 x5 x6 H locs ls hw hl h
    rw [fX4_bareSheets_14] at h
    cases h
  | succ n ih =>
    intro x4 x5 x6 H locs ls hw hl h
    rw [fX4_bareSheets_14] at h
    refine lv_iload hx hb dX4_bareSheets_14 (lv_at hl 5 rfl) ?_
    refine lv_aload_n hx hb dX4_bareSheets_16 rfl (lv_at hl 0 rfl) ?_
    refine k_get C inT_X4 hw 0 rfl rfl 3 (by decide) mF_X4_27 rfl dX4_bareSheets_17 ?_
    refine lv_icmp_gt (tgt := 68) hx hb dX4_bareSheets_20 (by decide) (fun c20 => ?_) (fun c20 => ?_)
    · replace h := br_t' h c20
      exact hk _ _ _ _ _ _ hw (lv_sub hl [0, 1, 2, 3, 4, 5] rfl) h
    · replace h := br_f' h c20
      refine lv_iload hx hb dX4_bareSheets_23 (lv_at hl 4 rfl) ?_
      refine lv_iload_n hx hb dX4_bareSheets_25 rfl (lv_at hl 2 rfl) ?_
      refine lv_icmp_gt (tgt := 68) hx hb dX4_bareSheets_26 (by decide) (fun c26 => ?_) (fun c26 => ?_)
      · replace h := br_t' h c26
        exact hk _ _ _ _ _ _ hw (lv_sub hl [0, 1, 2, 3, 4, 5] rfl) h
      · replace h := br_f' h c26
        refine lv_aload_n hx hb dX4_bareSheets_29 rfl (lv_at hl 0 rfl) ?_
        refine lv_iload_n hx hb dX4_bareSheets_30 rfl (lv_at hl 1 rfl) ?_
        refine lv_iload hx hb dX4_bareSheets_31 (lv_at hl 4 rfl) ?_
        refine lv_iload_n hx hb dX4_bareSheets_33 rfl (lv_at hl 2 rfl) ?_
        obtain ⟨r34, q34, h⟩ := bd h
        refine k_callV (nC := 1) [cR cI a N v] C hl.1 (tX4_bareTo (a := a) q34) mL_X4_62 mmX4_bareTo rfl rfl ⟨Nat.le_of_ble_eq_true rfl, Nat.le_of_ble_eq_true rfl⟩ rfl rfl rfl rfl (Nat.le_of_ble_eq_true rfl) hA hw [0] [] rfl (by decide +kernel) rfl rfl rfl rfl dX4_bareSheets_34 (fun H locs hw34 => ?_)
        refine lv_istore (lv' := [(7, .int r34), (0, .ref (a 0)), (1, .int x1), (3, .int x3), (4, .int x4), (5, .int x5), (6, .int x6)]) hx hb dX4_bareSheets_37 hl (by decide) rfl (fun ls hl => ?_)
        refine lv_iload hx hb dX4_bareSheets_39 (lv_at hl 4 rfl) ?_
        refine lv_iload hx hb dX4_bareSheets_41 (lv_at hl 0 rfl) ?_
        refine lv_iload hx hb dX4_bareSheets_43 (lv_at hl 5 rfl) ?_
        refine lv_isub hx hb dX4_bareSheets_45 ?_
        refine lv_iconst (v := 1) hx hb dX4_bareSheets_46 (by decide) ?_
        refine lv_iadd hx hb dX4_bareSheets_47 ?_
        refine lv_iadd hx hb dX4_bareSheets_48 ?_
        refine lv_istore (lv' := [(4, .int (x4 + ((r34 - x5) + 1))), (7, .int r34), (0, .ref (a 0)), (1, .int x1), (3, .int x3), (5, .int x5), (6, .int x6)]) hx hb dX4_bareSheets_49 hl (by decide) rfl (fun ls hl => ?_)
        refine lv_aload_n hx hb dX4_bareSheets_51 rfl (lv_at hl 2 rfl) ?_
        refine lv_iload_n hx hb dX4_bareSheets_52 rfl (lv_at hl 3 rfl) ?_
        refine lv_iload hx hb dX4_bareSheets_53 (lv_at hl 1 rfl) ?_
        refine lv_iconst (v := 1) hx hb dX4_bareSheets_55 (by decide) ?_
        refine lv_iadd hx hb dX4_bareSheets_56 ?_
        obtain ⟨r57, q57, h⟩ := bd h
        refine k_callV (nC := 1) [cR cI a N v] C hl.1 (tX4_bareFrom (a := a) q57) mL_X4_59 mmX4_bareFrom rfl rfl ⟨Nat.le_of_ble_eq_true rfl, Nat.le_of_ble_eq_true rfl⟩ rfl rfl rfl rfl (Nat.le_of_ble_eq_true rfl) hA hw34 [0] [] rfl (by decide +kernel) rfl rfl rfl rfl dX4_bareSheets_57 (fun H locs hw57 => ?_)
        refine lv_istore (lv' := [(5, .int r57), (4, .int (x4 + ((r34 - x5) + 1))), (7, .int r34), (0, .ref (a 0)), (1, .int x1), (3, .int x3), (6, .int x6)]) hx hb dX4_bareSheets_60 hl (by decide) rfl (fun ls hl => ?_)
        refine lv_iinc (v := (x6 + 1)) (lv' := [(6, .int (x6 + 1)), (5, .int r57), (4, .int (x4 + ((r34 - x5) + 1))), (7, .int r34), (0, .ref (a 0)), (1, .int x1), (3, .int x3)]) hx hb dX4_bareSheets_62 hl (k := 6) rfl rfl (by decide) rfl (fun ls hl => ?_)
        refine lv_goto (tgt := 14) hx hb dX4_bareSheets_65 (by decide) ?_
        exact ih _ _ _ _ _ _ hw57 (lv_sub hl [4, 5, 6, 2, 1, 0] rfl) h
def fX4_bareSheets (N : Nat) (v : Rg) (x1 : Int32) (x2 : Int32) (x3 : Int32) : Option (Int32) :=
  (fX4_bareFrom N v x1 x2).bind fun r6 =>
  fX4_bareSheets_14 N v x1 x3 FU (fun x4_14 x5_14 x6_14 =>
    some x4_14) 0 r6 0
set_option maxRecDepth 100000 in
set_option maxHeartbeats 4000000 in
theorem tX4_bareSheets {l : Launch} {D : va_G} {cI : ClassId} {cS : GS} {a : Nat → Nat} {N : Nat} {v : Rg} {x1 : Int32} {x2 : Int32} {x3 : Int32} {s0 : Int32} (h : fX4_bareSheets N v x1 x2 x3 = some s0) : CT l D cI cS yX4_bareSheets cX4_bareSheets 8 (some .int) rmX4_bareSheets [.ref (a 0), .int x1, .int x2, .int x3] [cR cI a N v] (some (.int s0)) [cR cI a N v] := by
  refine CT.of RX4 (by decide) rfl (Nat.le_of_ble_eq_true rfl) (fun p e s m below meth c ls A C hA hl hw => ?_)
  have hx := C.1.1
  have hb := C.1.2.1
  have hl : lv_has ls 8 [(0, .ref (a 0)), (1, .int x1), (2, .int x2), (3, .int x3)] := hl
  unfold fX4_bareSheets at h
  refine lv_iconst (v := 0) hx hb dX4_bareSheets_0 (by decide) ?_
  refine lv_istore (lv' := [(4, .int 0), (0, .ref (a 0)), (1, .int x1), (2, .int x2), (3, .int x3)]) hx hb dX4_bareSheets_1 hl (by decide) rfl (fun ls hl => ?_)
  refine lv_aload_n hx hb dX4_bareSheets_3 rfl (lv_at hl 1 rfl) ?_
  refine lv_iload_n hx hb dX4_bareSheets_4 rfl (lv_at hl 2 rfl) ?_
  refine lv_iload_n hx hb dX4_bareSheets_5 rfl (lv_at hl 3 rfl) ?_
  obtain ⟨r6, q6, h⟩ := bd h
  refine k_callV (nC := 1) [cR cI a N v] C hl.1 (tX4_bareFrom (a := a) q6) mL_X4_59 mmX4_bareFrom rfl rfl ⟨Nat.le_of_ble_eq_true rfl, Nat.le_of_ble_eq_true rfl⟩ rfl rfl rfl rfl (Nat.le_of_ble_eq_true rfl) hA hw [0] [] rfl (by decide +kernel) rfl rfl rfl rfl dX4_bareSheets_6 (fun H locs hw6 => ?_)
  refine lv_istore (lv' := [(5, .int r6), (4, .int 0), (0, .ref (a 0)), (1, .int x1), (2, .int x2), (3, .int x3)]) hx hb dX4_bareSheets_9 hl (by decide) rfl (fun ls hl => ?_)
  refine lv_iconst (v := 0) hx hb dX4_bareSheets_11 (by decide) ?_
  refine lv_istore (lv' := [(6, .int 0), (5, .int r6), (4, .int 0), (0, .ref (a 0)), (1, .int x1), (2, .int x2), (3, .int x3)]) hx hb dX4_bareSheets_12 hl (by decide) rfl (fun ls hl => ?_)
  refine wX4_bareSheets_14 C hA _ (fun x4_14 x5_14 x6_14 H locs ls hw14x hl h => ?_) FU _ _ _ _ _ _ hw6 (lv_sub hl [3, 4, 6, 2, 1, 0] rfl) h
  refine lv_iload hx hb dX4_bareSheets_68 (lv_at hl 3 rfl) ?_
  cases h
  exact k_iret C hw14x dX4_bareSheets_70
