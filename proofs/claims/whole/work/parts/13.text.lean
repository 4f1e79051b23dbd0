def rmX6_length : Room := { frames := 0, cells := 0, slots := 0, locals := 0 }
def fX6_length (g_length : Int32) : Option (Int32) :=
  some g_length
set_option maxRecDepth 100000 in
set_option maxHeartbeats 4000000 in
theorem tX6_length {l : Launch} {D : va_G} {cI : ClassId} {cS : GS} {a : Nat → Nat} {g_length : Int32} {g_commandCount : Int32} {g_at : Int32}  {s0 : Int32} (h : fX6_length g_length = some s0) : CT l D cI cS yX6_length cX6_length 1 (some .int) rmX6_length [.ref (a 0)] [oX6 a g_length g_commandCount g_at] (some (.int s0)) [oX6 a g_length g_commandCount g_at] := by
  refine CT.of RX6 (by decide) rfl (Nat.le_of_ble_eq_true rfl) (fun p e s m below meth c ls A C hA hl hw => ?_)
  have hx := C.1.1
  have hb := C.1.2.1
  have hl : lv_has ls 1 [(0, .ref (a 0))] := hl
  unfold fX6_length at h
  refine lv_aload_n hx hb dX6_length_0 rfl (lv_at hl 0 rfl) ?_
  refine k_get C inT_X6 hw 0 rfl rfl 3 (by decide) mF_X6_21 rfl dX6_length_1 ?_
  cases h
  exact k_iret C hw dX6_length_4
def rmX6_commandCount : Room := { frames := 0, cells := 0, slots := 0, locals := 0 }
def fX6_commandCount (g_commandCount : Int32) : Option (Int32) :=
  some g_commandCount
set_option maxRecDepth 100000 in
set_option maxHeartbeats 4000000 in
theorem tX6_commandCount {l : Launch} {D : va_G} {cI : ClassId} {cS : GS} {a : Nat → Nat} {g_length : Int32} {g_commandCount : Int32} {g_at : Int32}  {s0 : Int32} (h : fX6_commandCount g_commandCount = some s0) : CT l D cI cS yX6_commandCount cX6_commandCount 1 (some .int) rmX6_commandCount [.ref (a 0)] [oX6 a g_length g_commandCount g_at] (some (.int s0)) [oX6 a g_length g_commandCount g_at] := by
  refine CT.of RX6 (by decide) rfl (Nat.le_of_ble_eq_true rfl) (fun p e s m below meth c ls A C hA hl hw => ?_)
  have hx := C.1.1
  have hb := C.1.2.1
  have hl : lv_has ls 1 [(0, .ref (a 0))] := hl
  unfold fX6_commandCount at h
  refine lv_aload_n hx hb dX6_commandCount_0 rfl (lv_at hl 0 rfl) ?_
  refine k_get C inT_X6 hw 0 rfl rfl 4 (by decide) mF_X6_25 rfl dX6_commandCount_1 ?_
  cases h
  exact k_iret C hw dX6_commandCount_4
def rmX6_verbOf : Room := { frames := 0, cells := 0, slots := 0, locals := 0 }
def fX6_verbOf (g_verbs : Nat → Int32) (x1 : Int32) : Option (Int32) :=
  if x1 < 0 then
    some (-1)
  else
    if (nI 24) ≤ x1 then
      some (-1)
    else
      (ld 24 g_verbs x1).bind fun y18 =>
      some y18
set_option maxRecDepth 100000 in
set_option maxHeartbeats 4000000 in
theorem tX6_verbOf {l : Launch} {D : va_G} {cI : ClassId} {cS : GS} {a : Nat → Nat} {g_verbs : Nat → Int32} {g_length : Int32} {g_commandCount : Int32} {g_at : Int32} {x1 : Int32} {s0 : Int32} (h : fX6_verbOf g_verbs x1 = some s0) : CT l D cI cS yX6_verbOf cX6_verbOf 2 (some .int) rmX6_verbOf [.ref (a 0), .int x1] [oX6 a g_length g_commandCount g_at, ar cI (a 2) 24 g_verbs] (some (.int s0)) [oX6 a g_length g_commandCount g_at, ar cI (a 2) 24 g_verbs] := by
  refine CT.of RX6 (by decide) rfl (Nat.le_of_ble_eq_true rfl) (fun p e s m below meth c ls A C hA hl hw => ?_)
  have hx := C.1.1
  have hb := C.1.2.1
  have hl : lv_has ls 2 [(0, .ref (a 0)), (1, .int x1)] := hl
  unfold fX6_verbOf at h
  refine lv_iload_n hx hb dX6_verbOf_0 rfl (lv_at hl 1 rfl) ?_
  refine lv_if_lt (tgt := 22) hx hb dX6_verbOf_1 (by decide) (fun c1 => ?_) (fun c1 => ?_)
  · replace h := br_t' h c1
    refine lv_iconst (v := (-1)) hx hb dX6_verbOf_22 (by decide) ?_
    cases h
    exact k_iret C hw dX6_verbOf_23
  · replace h := br_f' h c1
    refine lv_iload_n hx hb dX6_verbOf_4 rfl (lv_at hl 1 rfl) ?_
    refine lv_aload_n hx hb dX6_verbOf_5 rfl (lv_at hl 0 rfl) ?_
    refine k_get C inT_X6 hw 0 rfl rfl 1 (by decide) mF_X6_15 rfl dX6_verbOf_6 ?_
    refine k_alen C hw 1 rfl dX6_verbOf_9 ?_
    refine lv_icmp_ge (tgt := 22) hx hb dX6_verbOf_10 (by decide) (fun c10 => ?_) (fun c10 => ?_)
    · replace h := br_t' h c10
      refine lv_iconst (v := (-1)) hx hb dX6_verbOf_22 (by decide) ?_
      cases h
      exact k_iret C hw dX6_verbOf_23
    · replace h := br_f' h c10
      refine lv_aload_n hx hb dX6_verbOf_13 rfl (lv_at hl 0 rfl) ?_
      refine k_get C inT_X6 hw 0 rfl rfl 1 (by decide) mF_X6_15 rfl dX6_verbOf_14 ?_
      refine lv_iload_n hx hb dX6_verbOf_17 rfl (lv_at hl 1 rfl) ?_
      obtain ⟨y18, q18, h⟩ := bd h
      refine k_iald C hw 1 rfl q18 dX6_verbOf_18 ?_
      refine lv_goto (tgt := 23) hx hb dX6_verbOf_19 (by decide) ?_
      cases h
      exact k_iret C hw dX6_verbOf_23
def rmX6_numberOf : Room := { frames := 0, cells := 0, slots := 0, locals := 0 }
def fX6_numberOf (g_numbers : Nat → Int32) (x1 : Int32) (x2 : Int32) : Option (Int32) :=
  if ((x1 * 3) + x2) < 0 then
    some (-1)
  else
    if (nI 72) ≤ ((x1 * 3) + x2) then
      some (-1)
    else
      (ld 72 g_numbers ((x1 * 3) + x2)).bind fun y24 =>
      some y24
set_option maxRecDepth 100000 in
set_option maxHeartbeats 4000000 in
theorem tX6_numberOf {l : Launch} {D : va_G} {cI : ClassId} {cS : GS} {a : Nat → Nat} {g_numbers : Nat → Int32} {g_length : Int32} {g_commandCount : Int32} {g_at : Int32} {x1 : Int32} {x2 : Int32} {s0 : Int32} (h : fX6_numberOf g_numbers x1 x2 = some s0) : CT l D cI cS yX6_numberOf cX6_numberOf 4 (some .int) rmX6_numberOf [.ref (a 0), .int x1, .int x2] [oX6 a g_length g_commandCount g_at, ar cI (a 3) 72 g_numbers] (some (.int s0)) [oX6 a g_length g_commandCount g_at, ar cI (a 3) 72 g_numbers] := by
  refine CT.of RX6 (by decide) rfl (Nat.le_of_ble_eq_true rfl) (fun p e s m below meth c ls A C hA hl hw => ?_)
  have hx := C.1.1
  have hb := C.1.2.1
  have hl : lv_has ls 4 [(0, .ref (a 0)), (1, .int x1), (2, .int x2)] := hl
  unfold fX6_numberOf at h
  refine lv_iload_n hx hb dX6_numberOf_0 rfl (lv_at hl 1 rfl) ?_
  refine lv_iconst (v := 3) hx hb dX6_numberOf_1 (by decide) ?_
  refine lv_imul hx hb dX6_numberOf_2 ?_
  refine lv_iload_n hx hb dX6_numberOf_3 rfl (lv_at hl 2 rfl) ?_
  refine lv_iadd hx hb dX6_numberOf_4 ?_
  refine lv_istore_n (lv' := [(3, .int ((x1 * 3) + x2)), (0, .ref (a 0)), (1, .int x1), (2, .int x2)]) hx hb dX6_numberOf_5 rfl hl (by decide) rfl (fun ls hl => ?_)
  refine lv_iload_n hx hb dX6_numberOf_6 rfl (lv_at hl 0 rfl) ?_
  refine lv_if_lt (tgt := 28) hx hb dX6_numberOf_7 (by decide) (fun c7 => ?_) (fun c7 => ?_)
  · replace h := br_t' h c7
    refine lv_iconst (v := (-1)) hx hb dX6_numberOf_28 (by decide) ?_
    cases h
    exact k_iret C hw dX6_numberOf_29
  · replace h := br_f' h c7
    refine lv_iload_n hx hb dX6_numberOf_10 rfl (lv_at hl 0 rfl) ?_
    refine lv_aload_n hx hb dX6_numberOf_11 rfl (lv_at hl 1 rfl) ?_
    refine k_get C inT_X6 hw 0 rfl rfl 2 (by decide) mF_X6_18 rfl dX6_numberOf_12 ?_
    refine k_alen C hw 1 rfl dX6_numberOf_15 ?_
    refine lv_icmp_ge (tgt := 28) hx hb dX6_numberOf_16 (by decide) (fun c16 => ?_) (fun c16 => ?_)
    · replace h := br_t' h c16
      refine lv_iconst (v := (-1)) hx hb dX6_numberOf_28 (by decide) ?_
      cases h
      exact k_iret C hw dX6_numberOf_29
    · replace h := br_f' h c16
      refine lv_aload_n hx hb dX6_numberOf_19 rfl (lv_at hl 1 rfl) ?_
      refine k_get C inT_X6 hw 0 rfl rfl 2 (by decide) mF_X6_18 rfl dX6_numberOf_20 ?_
      refine lv_iload_n hx hb dX6_numberOf_23 rfl (lv_at hl 0 rfl) ?_
      obtain ⟨y24, q24, h⟩ := bd h
      refine k_iald C hw 1 rfl q24 dX6_numberOf_24 ?_
      refine lv_goto (tgt := 29) hx hb dX6_numberOf_25 (by decide) ?_
      cases h
      exact k_iret C hw dX6_numberOf_29
def rmX6_setNumber : Room := { frames := 0, cells := 0, slots := 0, locals := 0 }
def fX6_setNumber (g_numbers : Nat → Int32) (x1 : Int32) (x2 : Int32) (x3 : Int32) : Option ((Nat → Int32)) :=
  if ((x1 * 3) + x2) < 0 then
    some g_numbers
  else
    if (nI 72) ≤ ((x1 * 3) + x2) then
      some g_numbers
    else
      (sv 72 g_numbers ((x1 * 3) + x2) x3).bind fun g29 =>
      some g29
set_option maxRecDepth 100000 in
set_option maxHeartbeats 4000000 in
theorem tX6_setNumber {l : Launch} {D : va_G} {cI : ClassId} {cS : GS} {a : Nat → Nat} {g_numbers : Nat → Int32} {g_length : Int32} {g_commandCount : Int32} {g_at : Int32} {x1 : Int32} {x2 : Int32} {x3 : Int32} {s0 : (Nat → Int32)} (h : fX6_setNumber g_numbers x1 x2 x3 = some s0) : CT l D cI cS yX6_setNumber cX6_setNumber 5 none rmX6_setNumber [.ref (a 0), .int x1, .int x2, .int x3] [oX6 a g_length g_commandCount g_at, ar cI (a 3) 72 g_numbers] none [oX6 a g_length g_commandCount g_at, ar cI (a 3) 72 s0] := by
  refine CT.of RX6 (by decide) rfl (Nat.le_of_ble_eq_true rfl) (fun p e s m below meth c ls A C hA hl hw => ?_)
  have hx := C.1.1
  have hb := C.1.2.1
  have hl : lv_has ls 5 [(0, .ref (a 0)), (1, .int x1), (2, .int x2), (3, .int x3)] := hl
  unfold fX6_setNumber at h
  refine lv_iload_n hx hb dX6_setNumber_0 rfl (lv_at hl 1 rfl) ?_
  refine lv_iconst (v := 3) hx hb dX6_setNumber_1 (by decide) ?_
  refine lv_imul hx hb dX6_setNumber_2 ?_
  refine lv_iload_n hx hb dX6_setNumber_3 rfl (lv_at hl 2 rfl) ?_
  refine lv_iadd hx hb dX6_setNumber_4 ?_
  refine lv_istore (lv' := [(4, .int ((x1 * 3) + x2)), (0, .ref (a 0)), (1, .int x1), (2, .int x2), (3, .int x3)]) hx hb dX6_setNumber_5 hl (by decide) rfl (fun ls hl => ?_)
  refine lv_iload hx hb dX6_setNumber_7 (lv_at hl 0 rfl) ?_
  refine lv_if_lt (tgt := 30) hx hb dX6_setNumber_9 (by decide) (fun c9 => ?_) (fun c9 => ?_)
  · replace h := br_t' h c9
    cases h
    exact k_vret C hw dX6_setNumber_30
  · replace h := br_f' h c9
    refine lv_iload hx hb dX6_setNumber_12 (lv_at hl 0 rfl) ?_
    refine lv_aload_n hx hb dX6_setNumber_14 rfl (lv_at hl 1 rfl) ?_
    refine k_get C inT_X6 hw 0 rfl rfl 2 (by decide) mF_X6_18 rfl dX6_setNumber_15 ?_
    refine k_alen C hw 1 rfl dX6_setNumber_18 ?_
    refine lv_icmp_ge (tgt := 30) hx hb dX6_setNumber_19 (by decide) (fun c19 => ?_) (fun c19 => ?_)
    · replace h := br_t' h c19
      cases h
      exact k_vret C hw dX6_setNumber_30
    · replace h := br_f' h c19
      refine lv_aload_n hx hb dX6_setNumber_22 rfl (lv_at hl 1 rfl) ?_
      refine k_get C inT_X6 hw 0 rfl rfl 2 (by decide) mF_X6_18 rfl dX6_setNumber_23 ?_
      refine lv_iload hx hb dX6_setNumber_26 (lv_at hl 0 rfl) ?_
      refine lv_iload_n hx hb dX6_setNumber_28 rfl (lv_at hl 4 rfl) ?_
      obtain ⟨g29, q29, h⟩ := bd h
      refine k_iast C hw 1 rfl q29 [oX6 a g_length g_commandCount g_at, ar cI (a 3) 72 g29] rfl dX6_setNumber_29 (fun H locs hw29 => ?_)
      cases h
      exact k_vret C hw29 dX6_setNumber_30
def rmX6_append : Room := { frames := 0, cells := 0, slots := 0, locals := 0 }
def fX6_append (g_bytes : Nat → Int32) (g_length : Int32) (x1 : Int32) : Option (Int32 × (Nat → Int32) × Int32) :=
  if g_length < (nI 200) then
    (sv 200 g_bytes g_length x1).bind fun g23 =>
    some (1, g23, (g_length + 1))
  else
    some (0, g_bytes, g_length)
set_option maxRecDepth 100000 in
set_option maxHeartbeats 4000000 in
theorem tX6_append {l : Launch} {D : va_G} {cI : ClassId} {cS : GS} {a : Nat → Nat} {g_bytes : Nat → Int32} {g_length : Int32} {g_commandCount : Int32} {g_at : Int32} {x1 : Int32} {s0 : Int32} {s1 : (Nat → Int32)} {s2 : Int32} (h : fX6_append g_bytes g_length x1 = some (s0, s1, s2)) : CT l D cI cS yX6_append cX6_append 2 (some .boolean) rmX6_append [.ref (a 0), .int x1] [oX6 a g_length g_commandCount g_at, ar cI (a 1) 200 g_bytes] (some (.int s0)) [oX6 a s2 g_commandCount g_at, ar cI (a 1) 200 s1] := by
  refine CT.of RX6 (by decide) rfl (Nat.le_of_ble_eq_true rfl) (fun p e s m below meth c ls A C hA hl hw => ?_)
  have hx := C.1.1
  have hb := C.1.2.1
  have hl : lv_has ls 2 [(0, .ref (a 0)), (1, .int x1)] := hl
  unfold fX6_append at h
  refine lv_aload_n hx hb dX6_append_0 rfl (lv_at hl 0 rfl) ?_
  refine k_get C inT_X6 hw 0 rfl rfl 3 (by decide) mF_X6_21 rfl dX6_append_1 ?_
  refine lv_aload_n hx hb dX6_append_4 rfl (lv_at hl 0 rfl) ?_
  refine k_get C inT_X6 hw 0 rfl rfl 0 (by decide) mF_X6_9 rfl dX6_append_5 ?_
  refine k_alen C hw 1 rfl dX6_append_8 ?_
  refine lv_icmp_lt (tgt := 14) hx hb dX6_append_9 (by decide) (fun c9 => ?_) (fun c9 => ?_)
  · replace h := br_t' h c9
    refine lv_aload_n hx hb dX6_append_14 rfl (lv_at hl 0 rfl) ?_
    refine k_get C inT_X6 hw 0 rfl rfl 0 (by decide) mF_X6_9 rfl dX6_append_15 ?_
    refine lv_aload_n hx hb dX6_append_18 rfl (lv_at hl 0 rfl) ?_
    refine k_get C inT_X6 hw 0 rfl rfl 3 (by decide) mF_X6_21 rfl dX6_append_19 ?_
    refine lv_iload_n hx hb dX6_append_22 rfl (lv_at hl 1 rfl) ?_
    obtain ⟨g23, q23, h⟩ := bd h
    refine k_iast C hw 1 rfl q23 [oX6 a g_length g_commandCount g_at, ar cI (a 1) 200 g23] rfl dX6_append_23 (fun H locs hw23 => ?_)
    refine lv_aload_n hx hb dX6_append_24 rfl (lv_at hl 0 rfl) ?_
    refine lv_dup hx hb dX6_append_25 rfl ?_
    refine k_get C inT_X6 hw23 0 rfl rfl 3 (by decide) mF_X6_21 rfl dX6_append_26 ?_
    refine lv_iconst (v := 1) hx hb dX6_append_29 (by decide) ?_
    refine lv_iadd hx hb dX6_append_30 ?_
    refine k_put C inT_X6 tyX6 tyX6_ok nmX6 hw23 0 rfl rfl 3 (by decide) mF_X6_21 rfl rfl (Nat.le_of_ble_eq_true rfl) [oX6 a (g_length + 1) g_commandCount g_at, ar cI (a 1) 200 g23] rfl dX6_append_31 (fun H locs hw31 => ?_)
    refine lv_iconst (v := 1) hx hb dX6_append_34 (by decide) ?_
    cases h
    exact k_zret (v := 1) C rfl hw31 dX6_append_35
  · replace h := br_f' h c9
    refine lv_iconst (v := 0) hx hb dX6_append_12 (by decide) ?_
    cases h
    exact k_zret (v := 0) C rfl hw dX6_append_13
def rmX6_wipe : Room := { frames := 0, cells := 0, slots := 0, locals := 0 }
def fX6_wipe (g_length : Int32) : Option (Int32) :=
  some 0
set_option maxRecDepth 100000 in
set_option maxHeartbeats 4000000 in
theorem tX6_wipe {l : Launch} {D : va_G} {cI : ClassId} {cS : GS} {a : Nat → Nat} {g_length : Int32} {g_commandCount : Int32} {g_at : Int32}  {s0 : Int32} (h : fX6_wipe g_length = some s0) : CT l D cI cS yX6_wipe cX6_wipe 1 none rmX6_wipe [.ref (a 0)] [oX6 a g_length g_commandCount g_at] none [oX6 a s0 g_commandCount g_at] := by
  refine CT.of RX6 (by decide) rfl (Nat.le_of_ble_eq_true rfl) (fun p e s m below meth c ls A C hA hl hw => ?_)
  have hx := C.1.1
  have hb := C.1.2.1
  have hl : lv_has ls 1 [(0, .ref (a 0))] := hl
  unfold fX6_wipe at h
  refine lv_aload_n hx hb dX6_wipe_0 rfl (lv_at hl 0 rfl) ?_
  refine lv_iconst (v := 0) hx hb dX6_wipe_1 (by decide) ?_
  refine k_put C inT_X6 tyX6 tyX6_ok nmX6 hw 0 rfl rfl 3 (by decide) mF_X6_21 rfl rfl (Nat.le_of_ble_eq_true rfl) [oX6 a 0 g_commandCount g_at] rfl dX6_wipe_2 (fun H locs hw2 => ?_)
  cases h
  exact k_vret C hw2 dX6_wipe_5
def rmX6_byteHere : Room := { frames := 0, cells := 0, slots := 0, locals := 0 }
def fX6_byteHere (g_bytes : Nat → Int32) (g_length : Int32) (g_at : Int32) : Option (Int32) :=
  if g_at < 0 then
    some (-1)
  else
    if g_length ≤ g_at then
      some (-1)
    else
      if (nI 200) ≤ g_at then
        some (-1)
      else
        (ld 200 g_bytes g_at).bind fun y38 =>
        some y38
set_option maxRecDepth 100000 in
set_option maxHeartbeats 4000000 in
theorem tX6_byteHere {l : Launch} {D : va_G} {cI : ClassId} {cS : GS} {a : Nat → Nat} {g_bytes : Nat → Int32} {g_length : Int32} {g_commandCount : Int32} {g_at : Int32}  {s0 : Int32} (h : fX6_byteHere g_bytes g_length g_at = some s0) : CT l D cI cS yX6_byteHere cX6_byteHere 1 (some .int) rmX6_byteHere [.ref (a 0)] [oX6 a g_length g_commandCount g_at, ar cI (a 1) 200 g_bytes] (some (.int s0)) [oX6 a g_length g_commandCount g_at, ar cI (a 1) 200 g_bytes] := by
  refine CT.of RX6 (by decide) rfl (Nat.le_of_ble_eq_true rfl) (fun p e s m below meth c ls A C hA hl hw => ?_)
  have hx := C.1.1
  have hb := C.1.2.1
  have hl : lv_has ls 1 [(0, .ref (a 0))] := hl
  unfold fX6_byteHere at h
  refine lv_aload_n hx hb dX6_byteHere_0 rfl (lv_at hl 0 rfl) ?_
  refine k_get C inT_X6 hw 0 rfl rfl 5 (by decide) mF_X6_28 rfl dX6_byteHere_1 ?_
  refine lv_if_lt (tgt := 42) hx hb dX6_byteHere_4 (by decide) (fun c4 => ?_) (fun c4 => ?_)
  · replace h := br_t' h c4
    refine lv_iconst (v := (-1)) hx hb dX6_byteHere_42 (by decide) ?_
    cases h
    exact k_iret C hw dX6_byteHere_43
  · replace h := br_f' h c4
    refine lv_aload_n hx hb dX6_byteHere_7 rfl (lv_at hl 0 rfl) ?_
    refine k_get C inT_X6 hw 0 rfl rfl 5 (by decide) mF_X6_28 rfl dX6_byteHere_8 ?_
    refine lv_aload_n hx hb dX6_byteHere_11 rfl (lv_at hl 0 rfl) ?_
    refine k_get C inT_X6 hw 0 rfl rfl 3 (by decide) mF_X6_21 rfl dX6_byteHere_12 ?_
    refine lv_icmp_ge (tgt := 42) hx hb dX6_byteHere_15 (by decide) (fun c15 => ?_) (fun c15 => ?_)
    · replace h := br_t' h c15
      refine lv_iconst (v := (-1)) hx hb dX6_byteHere_42 (by decide) ?_
      cases h
      exact k_iret C hw dX6_byteHere_43
    · replace h := br_f' h c15
      refine lv_aload_n hx hb dX6_byteHere_18 rfl (lv_at hl 0 rfl) ?_
      refine k_get C inT_X6 hw 0 rfl rfl 5 (by decide) mF_X6_28 rfl dX6_byteHere_19 ?_
      refine lv_aload_n hx hb dX6_byteHere_22 rfl (lv_at hl 0 rfl) ?_
      refine k_get C inT_X6 hw 0 rfl rfl 0 (by decide) mF_X6_9 rfl dX6_byteHere_23 ?_
      refine k_alen C hw 1 rfl dX6_byteHere_26 ?_
      refine lv_icmp_ge (tgt := 42) hx hb dX6_byteHere_27 (by decide) (fun c27 => ?_) (fun c27 => ?_)
      · replace h := br_t' h c27
        refine lv_iconst (v := (-1)) hx hb dX6_byteHere_42 (by decide) ?_
        cases h
        exact k_iret C hw dX6_byteHere_43
      · replace h := br_f' h c27
        refine lv_aload_n hx hb dX6_byteHere_30 rfl (lv_at hl 0 rfl) ?_
        refine k_get C inT_X6 hw 0 rfl rfl 0 (by decide) mF_X6_9 rfl dX6_byteHere_31 ?_
        refine lv_aload_n hx hb dX6_byteHere_34 rfl (lv_at hl 0 rfl) ?_
        refine k_get C inT_X6 hw 0 rfl rfl 5 (by decide) mF_X6_28 rfl dX6_byteHere_35 ?_
        obtain ⟨y38, q38, h⟩ := bd h
        refine k_iald C hw 1 rfl q38 dX6_byteHere_38 ?_
        refine lv_goto (tgt := 43) hx hb dX6_byteHere_39 (by decide) ?_
        cases h
        exact k_iret C hw dX6_byteHere_43
def rmX6_highest : Room := { frames := 0, cells := 0, slots := 0, locals := 0 }
def fX6_highest (x0 : Int32) : Option (Int32) :=
  if x0 = 78 then
    some 999
  else
  if x0 = 80 then
    some 9
  else
  if x0 = 88 then
    some 7
  else
    some 2000000000
set_option maxRecDepth 100000 in
set_option maxHeartbeats 4000000 in
theorem tX6_highest {l : Launch} {D : va_G} {cI : ClassId} {cS : GS}  {x0 : Int32} {s0 : Int32} (h : fX6_highest x0 = some s0) : CT l D cI cS yX6_highest cX6_highest 1 (some .int) rmX6_highest [.int x0] [] (some (.int s0)) [] := by
  refine CT.of RX6 (by decide) rfl (Nat.le_of_ble_eq_true rfl) (fun p e s m below meth c ls A C hA hl hw => ?_)
  have hx := C.1.1
  have hb := C.1.2.1
  have hl : lv_has ls 1 [(0, .int x0)] := hl
  unfold fX6_highest at h
  refine lv_iload_n hx hb dX6_highest_0 rfl (lv_at hl 0 rfl) ?_
  by_cases c1_78 : x0 = 78
  · replace h := br_t' h c1_78
    refine lv_lookup (tgt := 42) hx hb dX6_highest_1 (by decide) (off := 41) (by rw [c1_78]; decide) (by decide) ?_
    refine lv_sipush (v := 999) hx hb dX6_highest_42 (by decide) ?_
    cases h
    exact k_iret C hw dX6_highest_45
  replace h := br_f' h c1_78
  by_cases c1_80 : x0 = 80
  · replace h := br_t' h c1_80
    refine lv_lookup (tgt := 36) hx hb dX6_highest_1 (by decide) (off := 35) (by rw [c1_80]; decide) (by decide) ?_
    refine lv_bipush (v := 9) hx hb dX6_highest_36 (by decide) ?_
    cases h
    exact k_iret C hw dX6_highest_38
  replace h := br_f' h c1_80
  by_cases c1_88 : x0 = 88
  · replace h := br_t' h c1_88
    refine lv_lookup (tgt := 39) hx hb dX6_highest_1 (by decide) (off := 38) (by rw [c1_88]; decide) (by decide) ?_
    refine lv_bipush (v := 7) hx hb dX6_highest_39 (by decide) ?_
    cases h
    exact k_iret C hw dX6_highest_41
  replace h := br_f' h c1_88
  refine lv_lookup (tgt := 46) hx hb dX6_highest_1 (by decide) (off := 45) (by have t0 := ti_ne (i := 78) c1_78 (by decide); have t1 := ti_ne (i := 80) c1_80 (by decide); have t2 := ti_ne (i := 88) c1_88 (by decide); simp only [Op.lookupswitch.offset]; simp [*, Ne.symm, eq_comm]) (by decide) ?_
  refine k_ldc C mC_X6_114 dX6_highest_46 ?_
  cases h
  exact k_iret C hw dX6_highest_48
def rmX6_kindsOf : Room := { frames := 0, cells := 0, slots := 0, locals := 0 }
def fX6_kindsOf (x0 : Int32) : Option (Nat) :=
  if x0 = 0 then
    some 8
  else
  if x0 = 1 then
    some 9
  else
  if x0 = 2 then
    some 10
  else
  if x0 = 3 then
    some 11
  else
  if x0 = 4 then
    some 12
  else
  if x0 = 5 then
    some 10
  else
  if x0 = 6 then
    some 12
  else
    some 13
set_option maxRecDepth 100000 in
set_option maxHeartbeats 4000000 in
theorem tX6_kindsOf {l : Launch} {D : va_G} {cI : ClassId} {cS : GS}  {x0 : Int32} {s0 : Nat} (h : fX6_kindsOf x0 = some s0) : CT l D cI cS yX6_kindsOf cX6_kindsOf 1 (some (.object "java/lang/String")) rmX6_kindsOf [.int x0] [] (some (.ref (cS.2.1 s0))) [] := by
  refine CT.of RX6 (by decide) rfl (Nat.le_of_ble_eq_true rfl) (fun p e s m below meth c ls A C hA hl hw => ?_)
  have hx := C.1.1
  have hb := C.1.2.1
  have hl : lv_has ls 1 [(0, .int x0)] := hl
  unfold fX6_kindsOf at h
  refine lv_iload_n hx hb dX6_kindsOf_0 rfl (lv_at hl 0 rfl) ?_
  by_cases c1_0 : x0 = 0
  · replace h := br_t' h c1_0
    refine lv_tableIn (tgt := 44) hx hb dX6_kindsOf_1 (by rw [c1_0]; decide) (by rw [c1_0]; decide) (off := 43) (by rw [c1_0]; decide) (by decide) ?_
    refine k_ldcS C 8 (by decide) rfl rfl dX6_kindsOf_44 ?_
    cases h
    exact k_aret C (Or.inr ⟨_, rfl⟩) hw dX6_kindsOf_46
  replace h := br_f' h c1_0
  by_cases c1_1 : x0 = 1
  · replace h := br_t' h c1_1
    refine lv_tableIn (tgt := 47) hx hb dX6_kindsOf_1 (by rw [c1_1]; decide) (by rw [c1_1]; decide) (off := 46) (by rw [c1_1]; decide) (by decide) ?_
    refine k_ldcS C 9 (by decide) rfl rfl dX6_kindsOf_47 ?_
    cases h
    exact k_aret C (Or.inr ⟨_, rfl⟩) hw dX6_kindsOf_49
  replace h := br_f' h c1_1
  by_cases c1_2 : x0 = 2
  · replace h := br_t' h c1_2
    refine lv_tableIn (tgt := 50) hx hb dX6_kindsOf_1 (by rw [c1_2]; decide) (by rw [c1_2]; decide) (off := 49) (by rw [c1_2]; decide) (by decide) ?_
    refine k_ldcS C 10 (by decide) rfl rfl dX6_kindsOf_50 ?_
    cases h
    exact k_aret C (Or.inr ⟨_, rfl⟩) hw dX6_kindsOf_52
  replace h := br_f' h c1_2
  by_cases c1_3 : x0 = 3
  · replace h := br_t' h c1_3
    refine lv_tableIn (tgt := 53) hx hb dX6_kindsOf_1 (by rw [c1_3]; decide) (by rw [c1_3]; decide) (off := 52) (by rw [c1_3]; decide) (by decide) ?_
    refine k_ldcS C 11 (by decide) rfl rfl dX6_kindsOf_53 ?_
    cases h
    exact k_aret C (Or.inr ⟨_, rfl⟩) hw dX6_kindsOf_55
  replace h := br_f' h c1_3
  by_cases c1_4 : x0 = 4
  · replace h := br_t' h c1_4
    refine lv_tableIn (tgt := 56) hx hb dX6_kindsOf_1 (by rw [c1_4]; decide) (by rw [c1_4]; decide) (off := 55) (by rw [c1_4]; decide) (by decide) ?_
    refine k_ldcS C 12 (by decide) rfl rfl dX6_kindsOf_56 ?_
    cases h
    exact k_aret C (Or.inr ⟨_, rfl⟩) hw dX6_kindsOf_58
  replace h := br_f' h c1_4
  by_cases c1_5 : x0 = 5
  · replace h := br_t' h c1_5
    refine lv_tableIn (tgt := 50) hx hb dX6_kindsOf_1 (by rw [c1_5]; decide) (by rw [c1_5]; decide) (off := 49) (by rw [c1_5]; decide) (by decide) ?_
    refine k_ldcS C 10 (by decide) rfl rfl dX6_kindsOf_50 ?_
    cases h
    exact k_aret C (Or.inr ⟨_, rfl⟩) hw dX6_kindsOf_52
  replace h := br_f' h c1_5
  by_cases c1_6 : x0 = 6
  · replace h := br_t' h c1_6
    refine lv_tableIn (tgt := 56) hx hb dX6_kindsOf_1 (by rw [c1_6]; decide) (by rw [c1_6]; decide) (off := 55) (by rw [c1_6]; decide) (by decide) ?_
    refine k_ldcS C 12 (by decide) rfl rfl dX6_kindsOf_56 ?_
    cases h
    exact k_aret C (Or.inr ⟨_, rfl⟩) hw dX6_kindsOf_58
  replace h := br_f' h c1_6
  refine lv_tableOut (tgt := 59) hx hb dX6_kindsOf_1 (by have t0 := ti_ne (i := 0) c1_0 (by decide); have t1 := ti_ne (i := 1) c1_1 (by decide); have t2 := ti_ne (i := 2) c1_2 (by decide); have t3 := ti_ne (i := 3) c1_3 (by decide); have t4 := ti_ne (i := 4) c1_4 (by decide); have t5 := ti_ne (i := 5) c1_5 (by decide); have t6 := ti_ne (i := 6) c1_6 (by decide); omega) (by decide) ?_
  refine k_ldcS C 13 (by decide) rfl rfl dX6_kindsOf_59 ?_
  cases h
  exact k_aret C (Or.inr ⟨_, rfl⟩) hw dX6_kindsOf_61
def rmX6_lowest : Room := { frames := 0, cells := 0, slots := 0, locals := 0 }
def fX6_lowest (x0 : Int32) (x1 : Int32) : Option (Int32) :=
  if x0 = 65 then
    some 1
  else
  if x0 = 66 then
    some x1
  else
  if x0 = 78 then
    some 1
  else
    some 0
set_option maxRecDepth 100000 in
set_option maxHeartbeats 4000000 in
theorem tX6_lowest {l : Launch} {D : va_G} {cI : ClassId} {cS : GS}  {x0 : Int32} {x1 : Int32} {s0 : Int32} (h : fX6_lowest x0 x1 = some s0) : CT l D cI cS yX6_lowest cX6_lowest 2 (some .int) rmX6_lowest [.int x0, .int x1] [] (some (.int s0)) [] := by
  refine CT.of RX6 (by decide) rfl (Nat.le_of_ble_eq_true rfl) (fun p e s m below meth c ls A C hA hl hw => ?_)
  have hx := C.1.1
  have hb := C.1.2.1
  have hl : lv_has ls 2 [(0, .int x0), (1, .int x1)] := hl
  unfold fX6_lowest at h
  refine lv_iload_n hx hb dX6_lowest_0 rfl (lv_at hl 0 rfl) ?_
  by_cases c1_65 : x0 = 65
  · replace h := br_t' h c1_65
    refine lv_lookup (tgt := 36) hx hb dX6_lowest_1 (by decide) (off := 35) (by rw [c1_65]; decide) (by decide) ?_
    refine lv_iconst (v := 1) hx hb dX6_lowest_36 (by decide) ?_
    cases h
    exact k_iret C hw dX6_lowest_37
  replace h := br_f' h c1_65
  by_cases c1_66 : x0 = 66
  · replace h := br_t' h c1_66
    refine lv_lookup (tgt := 38) hx hb dX6_lowest_1 (by decide) (off := 37) (by rw [c1_66]; decide) (by decide) ?_
    refine lv_iload_n hx hb dX6_lowest_38 rfl (lv_at hl 1 rfl) ?_
    cases h
    exact k_iret C hw dX6_lowest_39
  replace h := br_f' h c1_66
  by_cases c1_78 : x0 = 78
  · replace h := br_t' h c1_78
    refine lv_lookup (tgt := 36) hx hb dX6_lowest_1 (by decide) (off := 35) (by rw [c1_78]; decide) (by decide) ?_
    refine lv_iconst (v := 1) hx hb dX6_lowest_36 (by decide) ?_
    cases h
    exact k_iret C hw dX6_lowest_37
  replace h := br_f' h c1_78
  refine lv_lookup (tgt := 40) hx hb dX6_lowest_1 (by decide) (off := 39) (by have t0 := ti_ne (i := 65) c1_65 (by decide); have t1 := ti_ne (i := 66) c1_66 (by decide); have t2 := ti_ne (i := 78) c1_78 (by decide); simp only [Op.lookupswitch.offset]; simp [*, Ne.symm, eq_comm]) (by decide) ?_
  refine lv_iconst (v := 0) hx hb dX6_lowest_40 (by decide) ?_
  cases h
  exact k_iret C hw dX6_lowest_41
def rmX6_readNumber : Room := { frames := 1, cells := 0, slots := 0, locals := 20 }
def fX6_readNumber_7 (g_bytes : Nat → Int32) (g_length : Int32) : (n : Nat) → (k : Int64 → Int32 → Int32 → Int32 → Option (Int64 × Int32)) → Int64 → Int32 → Int32 → Int32 → Option (Int64 × Int32)
  | 0, _, _, _, _, _ => none
  | n + 1, k, x1, x3, x4, g_at =>
    if 200 ≤ x4 then
      k x1 x3 x4 g_at
    else
      (fX6_byteHere g_bytes g_length g_at).bind fun r16 =>
      if r16 < 48 then
        k x1 x3 x4 g_at
      else
        (fX6_byteHere g_bytes g_length g_at).bind fun r25 =>
        if 57 < r25 then
          k x1 x3 x4 g_at
        else
          if 10 ≤ x3 then
            fX6_readNumber_7 g_bytes g_length n k x1 (x3 + 1) (x4 + 1) (g_at + 1)
          else
            (fX6_byteHere g_bytes g_length g_at).bind fun r45 =>
            fX6_readNumber_7 g_bytes g_length n k ((x1 * 10) + (r45 - 48).toInt64) (x3 + 1) (x4 + 1) (g_at + 1)
set_option maxRecDepth 100000 in
set_option maxHeartbeats 4000000 in
theorem wX6_readNumber_7 {p : Program} {l : Launch} {e : Env} {s : State} {m : MethodId} {args : Array Value} {below : List Frame} {meth : Method} {c : Code} {D : va_G} {cI : ClassId} {cS : GS} {A : Nat → Prop} {a : Nat → Nat} {g_bytes : Nat → Int32} {g_length : Int32} {g_commandCount : Int32} (C : MC p s m args meth c D cI cS A RX6 cX6_readNumber 5 (some .long)) (hA : ∀ q, s.heap.size ≤ q → A q) {s0 : Int64} {s1 : Int32} (k : Int64 → Int32 → Int32 → Int32 → Option (Int64 × Int32)) (hk : ∀ (x1 : Int64) (x3 : Int32) (x4 : Int32) (g_at : Int32) (H : Heap) (locs : List Loc) (ls : Array Slot), Wd D A s.heap H locs [oX6 a g_length g_commandCount g_at, ar cI (a 1) 200 g_bytes] → lv_has ls 5 [(0, .ref (a 0)), (1, .long x1), (3, .int x3), (4, .int x4)] → k x1 x3 x4 g_at = some (s0, s1) → W p l e rmX6_readNumber s m args below meth c H locs 0 0 (KQ D A below args s (some (.long s0)) [oX6 a g_length g_commandCount s1, ar cI (a 1) 200 g_bytes]) (F0 m 73 ls [])) :
    ∀ (n : Nat) (x1 : Int64) (x3 : Int32) (x4 : Int32) (g_at : Int32) (H : Heap) (locs : List Loc) (ls : Array Slot), Wd D A s.heap H locs [oX6 a g_length g_commandCount g_at, ar cI (a 1) 200 g_bytes] → lv_has ls 5 [(0, .ref (a 0)), (1, .long x1), (3, .int x3), (4, .int x4)] → fX6_readNumber_7 g_bytes g_length n k x1 x3 x4 g_at = some (s0, s1) → W p l e rmX6_readNumber s m args below meth c H locs 0 0 (KQ D A below args s (some (.long s0)) [oX6 a g_length g_commandCount s1, ar cI (a 1) 200 g_bytes]) (F0 m 7 ls []) := by
  have hx := C.1.1
  have hb := C.1.2.1
  intro n
  induction n with
  | zero =>
    intro x1 x3 x4 g_at H locs ls hw hl h
    rw [fX6_readNumber_7] at h
    cases h
  | succ n ih =>
    intro x1 x3 x4 g_at H locs ls hw hl h
    rw [fX6_readNumber_7] at h
    refine lv_iload hx hb dX6_readNumber_7 (lv_at hl 3 rfl) ?_
    refine lv_sipush (v := 200) hx hb dX6_readNumber_9 (by decide) ?_
    refine lv_icmp_ge (tgt := 73) hx hb dX6_readNumber_12 (by decide) (fun c12 => ?_) (fun c12 => ?_)
    · replace h := br_t' h c12
      exact hk _ _ _ _ _ _ _ hw (lv_sub hl [0, 1, 2, 3] rfl) h
    · replace h := br_f' h c12
      refine lv_aload_n hx hb dX6_readNumber_15 rfl (lv_at hl 0 rfl) ?_
      obtain ⟨r16, q16, h⟩ := bd h
      refine k_callV (nC := 2) [oX6 a g_length g_commandCount g_at, ar cI (a 1) 200 g_bytes] C hl.1 (tX6_byteHere (a := a) q16) mL_X6_38 mmX6_byteHere rfl rfl ⟨Nat.le_of_ble_eq_true rfl, Nat.le_of_ble_eq_true rfl⟩ rfl rfl rfl rfl (Nat.le_of_ble_eq_true rfl) hA hw [0, 1] [] rfl (by decide +kernel) rfl rfl rfl rfl dX6_readNumber_16 (fun H locs hw16 => ?_)
      refine lv_bipush (v := 48) hx hb dX6_readNumber_19 (by decide) ?_
      refine lv_icmp_lt (tgt := 73) hx hb dX6_readNumber_21 (by decide) (fun c21 => ?_) (fun c21 => ?_)
      · replace h := br_t' h c21
        exact hk _ _ _ _ _ _ _ hw16 (lv_sub hl [0, 1, 2, 3] rfl) h
      · replace h := br_f' h c21
        refine lv_aload_n hx hb dX6_readNumber_24 rfl (lv_at hl 0 rfl) ?_
        obtain ⟨r25, q25, h⟩ := bd h
        refine k_callV (nC := 2) [oX6 a g_length g_commandCount g_at, ar cI (a 1) 200 g_bytes] C hl.1 (tX6_byteHere (a := a) q25) mL_X6_38 mmX6_byteHere rfl rfl ⟨Nat.le_of_ble_eq_true rfl, Nat.le_of_ble_eq_true rfl⟩ rfl rfl rfl rfl (Nat.le_of_ble_eq_true rfl) hA hw16 [0, 1] [] rfl (by decide +kernel) rfl rfl rfl rfl dX6_readNumber_25 (fun H locs hw25 => ?_)
        refine lv_bipush (v := 57) hx hb dX6_readNumber_28 (by decide) ?_
        refine lv_icmp_gt (tgt := 73) hx hb dX6_readNumber_30 (by decide) (fun c30 => ?_) (fun c30 => ?_)
        · replace h := br_t' h c30
          exact hk _ _ _ _ _ _ _ hw25 (lv_sub hl [0, 1, 2, 3] rfl) h
        · replace h := br_f' h c30
          refine lv_iload_n hx hb dX6_readNumber_33 rfl (lv_at hl 2 rfl) ?_
          refine lv_bipush (v := 10) hx hb dX6_readNumber_34 (by decide) ?_
          refine lv_icmp_ge (tgt := 54) hx hb dX6_readNumber_36 (by decide) (fun c36 => ?_) (fun c36 => ?_)
          · replace h := br_t' h c36
            refine lv_iinc (v := (x3 + 1)) (lv' := [(3, .int (x3 + 1)), (0, .ref (a 0)), (1, .long x1), (4, .int x4)]) hx hb dX6_readNumber_54 hl (k := 2) rfl rfl (by decide) rfl (fun ls hl => ?_)
            refine lv_aload_n hx hb dX6_readNumber_57 rfl (lv_at hl 1 rfl) ?_
            refine lv_dup hx hb dX6_readNumber_58 rfl ?_
            refine k_get C inT_X6 hw25 0 rfl rfl 5 (by decide) mF_X6_28 rfl dX6_readNumber_59 ?_
            refine lv_iconst (v := 1) hx hb dX6_readNumber_62 (by decide) ?_
            refine lv_iadd hx hb dX6_readNumber_63 ?_
            refine k_put C inT_X6 tyX6 tyX6_ok nmX6 hw25 0 rfl rfl 5 (by decide) mF_X6_28 rfl rfl (Nat.le_of_ble_eq_true rfl) [oX6 a g_length g_commandCount (g_at + 1), ar cI (a 1) 200 g_bytes] rfl dX6_readNumber_64 (fun H locs hw64 => ?_)
            refine lv_iinc (v := (x4 + 1)) (lv' := [(4, .int (x4 + 1)), (3, .int (x3 + 1)), (0, .ref (a 0)), (1, .long x1)]) hx hb dX6_readNumber_67 hl (k := 3) rfl rfl (by decide) rfl (fun ls hl => ?_)
            refine lv_goto (tgt := 7) hx hb dX6_readNumber_70 (by decide) ?_
            exact ih _ _ _ _ _ _ _ hw64 (lv_sub hl [2, 3, 1, 0] rfl) h
          · replace h := br_f' h c36
            refine lv_lload_n hx hb dX6_readNumber_39 rfl (lv_at hl 1 rfl) ?_
            refine k_ldc2 C mD_X6_75 dX6_readNumber_40 ?_
            refine lv_lmul hx hb dX6_readNumber_43 ?_
            refine lv_aload_n hx hb dX6_readNumber_44 rfl (lv_at hl 0 rfl) ?_
            obtain ⟨r45, q45, h⟩ := bd h
            refine k_callV (nC := 2) [oX6 a g_length g_commandCount g_at, ar cI (a 1) 200 g_bytes] C hl.1 (tX6_byteHere (a := a) q45) mL_X6_38 mmX6_byteHere rfl rfl ⟨Nat.le_of_ble_eq_true rfl, Nat.le_of_ble_eq_true rfl⟩ rfl rfl rfl rfl (Nat.le_of_ble_eq_true rfl) hA hw25 [0, 1] [] rfl (by decide +kernel) rfl rfl rfl rfl dX6_readNumber_45 (fun H locs hw45 => ?_)
            refine lv_bipush (v := 48) hx hb dX6_readNumber_48 (by decide) ?_
            refine lv_isub hx hb dX6_readNumber_50 ?_
            refine lv_i2l (v := (r45 - 48).toInt64) hx hb dX6_readNumber_51 rfl ?_
            refine lv_ladd hx hb dX6_readNumber_52 ?_
            refine lv_lstore_n (lv' := [(1, .long ((x1 * 10) + (r45 - 48).toInt64)), (0, .ref (a 0)), (3, .int x3), (4, .int x4)]) hx hb dX6_readNumber_53 rfl hl (by decide) rfl (fun ls hl => ?_)
            refine lv_iinc (v := (x3 + 1)) (lv' := [(3, .int (x3 + 1)), (1, .long ((x1 * 10) + (r45 - 48).toInt64)), (0, .ref (a 0)), (4, .int x4)]) hx hb dX6_readNumber_54 hl (k := 2) rfl rfl (by decide) rfl (fun ls hl => ?_)
            refine lv_aload_n hx hb dX6_readNumber_57 rfl (lv_at hl 2 rfl) ?_
            refine lv_dup hx hb dX6_readNumber_58 rfl ?_
            refine k_get C inT_X6 hw45 0 rfl rfl 5 (by decide) mF_X6_28 rfl dX6_readNumber_59 ?_
            refine lv_iconst (v := 1) hx hb dX6_readNumber_62 (by decide) ?_
            refine lv_iadd hx hb dX6_readNumber_63 ?_
            refine k_put C inT_X6 tyX6 tyX6_ok nmX6 hw45 0 rfl rfl 5 (by decide) mF_X6_28 rfl rfl (Nat.le_of_ble_eq_true rfl) [oX6 a g_length g_commandCount (g_at + 1), ar cI (a 1) 200 g_bytes] rfl dX6_readNumber_64 (fun H locs hw64 => ?_)
            refine lv_iinc (v := (x4 + 1)) (lv' := [(4, .int (x4 + 1)), (3, .int (x3 + 1)), (1, .long ((x1 * 10) + (r45 - 48).toInt64)), (0, .ref (a 0))]) hx hb dX6_readNumber_67 hl (k := 3) rfl rfl (by decide) rfl (fun ls hl => ?_)
            refine lv_goto (tgt := 7) hx hb dX6_readNumber_70 (by decide) ?_
            exact ih _ _ _ _ _ _ _ hw64 (lv_sub hl [3, 2, 1, 0] rfl) h
def fX6_readNumber (g_bytes : Nat → Int32) (g_length : Int32) (g_at : Int32) : Option (Int64 × Int32) :=
  fX6_readNumber_7 g_bytes g_length FU (fun x1_7 x3_7 x4_7 g_at_7 =>
    if x3_7 = 0 then
      some ((-1), g_at_7)
    else
      if x3_7 ≤ 10 then
        some (x1_7, g_at_7)
      else
        some ((-1), g_at_7)) 0 0 0 g_at
set_option maxRecDepth 100000 in
set_option maxHeartbeats 4000000 in
theorem tX6_readNumber {l : Launch} {D : va_G} {cI : ClassId} {cS : GS} {a : Nat → Nat} {g_bytes : Nat → Int32} {g_length : Int32} {g_commandCount : Int32} {g_at : Int32}  {s0 : Int64} {s1 : Int32} (h : fX6_readNumber g_bytes g_length g_at = some (s0, s1)) : CT l D cI cS yX6_readNumber cX6_readNumber 5 (some .long) rmX6_readNumber [.ref (a 0)] [oX6 a g_length g_commandCount g_at, ar cI (a 1) 200 g_bytes] (some (.long s0)) [oX6 a g_length g_commandCount s1, ar cI (a 1) 200 g_bytes] := by
  refine CT.of RX6 (by decide) rfl (Nat.le_of_ble_eq_true rfl) (fun p e s m below meth c ls A C hA hl hw => ?_)
  have hx := C.1.1
  have hb := C.1.2.1
  have hl : lv_has ls 5 [(0, .ref (a 0))] := hl
  unfold fX6_readNumber at h
  refine lv_lconst (v := 0) hx hb dX6_readNumber_0 (by decide) ?_
  refine lv_lstore_n (lv' := [(1, .long 0), (0, .ref (a 0))]) hx hb dX6_readNumber_1 rfl hl (by decide) rfl (fun ls hl => ?_)
  refine lv_iconst (v := 0) hx hb dX6_readNumber_2 (by decide) ?_
  refine lv_istore_n (lv' := [(3, .int 0), (1, .long 0), (0, .ref (a 0))]) hx hb dX6_readNumber_3 rfl hl (by decide) rfl (fun ls hl => ?_)
  refine lv_iconst (v := 0) hx hb dX6_readNumber_4 (by decide) ?_
  refine lv_istore (lv' := [(4, .int 0), (3, .int 0), (1, .long 0), (0, .ref (a 0))]) hx hb dX6_readNumber_5 hl (by decide) rfl (fun ls hl => ?_)
  refine wX6_readNumber_7 C hA _ (fun x1_7 x3_7 x4_7 g_at_7 H locs ls hw7x hl h => ?_) FU _ _ _ _ _ _ _ hw (lv_sub hl [3, 2, 1, 0] rfl) h
  refine lv_iload_n hx hb dX6_readNumber_73 rfl (lv_at hl 2 rfl) ?_
  refine lv_if_eq (tgt := 83) hx hb dX6_readNumber_74 (by decide) (fun c74 => ?_) (fun c74 => ?_)
  · replace h := br_t' h c74
    refine k_ldc2 C mD_X6_77 dX6_readNumber_83 ?_
    refine lv_goto (tgt := 90) hx hb dX6_readNumber_86 (by decide) ?_
    cases h
    exact k_lret C hw7x dX6_readNumber_90
  · replace h := br_f' h c74
    refine lv_iload_n hx hb dX6_readNumber_77 rfl (lv_at hl 2 rfl) ?_
    refine lv_bipush (v := 10) hx hb dX6_readNumber_78 (by decide) ?_
    refine lv_icmp_le (tgt := 89) hx hb dX6_readNumber_80 (by decide) (fun c80 => ?_) (fun c80 => ?_)
    · replace h := br_t' h c80
      refine lv_lload_n hx hb dX6_readNumber_89 rfl (lv_at hl 1 rfl) ?_
      cases h
      exact k_lret C hw7x dX6_readNumber_90
    · replace h := br_f' h c80
      refine k_ldc2 C mD_X6_77 dX6_readNumber_83 ?_
      refine lv_goto (tgt := 90) hx hb dX6_readNumber_86 (by decide) ?_
      cases h
      exact k_lret C hw7x dX6_readNumber_90
def rmX6_skipBlanks : Room := { frames := 1, cells := 0, slots := 0, locals := 20 }
def fX6_skipBlanks_2 (g_bytes : Nat → Int32) (g_length : Int32) : (n : Nat) → (k : Int32 → Int32 → Option (Int32)) → Int32 → Int32 → Option (Int32)
  | 0, _, _, _ => none
  | n + 1, k, x1, g_at =>
    if 200 ≤ x1 then
      k x1 g_at
    else
      (fX6_byteHere g_bytes g_length g_at).bind fun r10 =>
      if r10 = 32 then
        fX6_skipBlanks_2 g_bytes g_length n k (x1 + 1) (g_at + 1)
      else
        k x1 g_at
set_option maxRecDepth 100000 in
set_option maxHeartbeats 4000000 in
theorem wX6_skipBlanks_2 {p : Program} {l : Launch} {e : Env} {s : State} {m : MethodId} {args : Array Value} {below : List Frame} {meth : Method} {c : Code} {D : va_G} {cI : ClassId} {cS : GS} {A : Nat → Prop} {a : Nat → Nat} {g_bytes : Nat → Int32} {g_length : Int32} {g_commandCount : Int32} (C : MC p s m args meth c D cI cS A RX6 cX6_skipBlanks 2 none) (hA : ∀ q, s.heap.size ≤ q → A q) {s0 : Int32} (k : Int32 → Int32 → Option (Int32)) (hk : ∀ (x1 : Int32) (g_at : Int32) (H : Heap) (locs : List Loc) (ls : Array Slot), Wd D A s.heap H locs [oX6 a g_length g_commandCount g_at, ar cI (a 1) 200 g_bytes] → lv_has ls 2 [(0, .ref (a 0)), (1, .int x1)] → k x1 g_at = some s0 → W p l e rmX6_skipBlanks s m args below meth c H locs 0 0 (KQ D A below args s none [oX6 a g_length g_commandCount s0, ar cI (a 1) 200 g_bytes]) (F0 m 34 ls [])) :
    ∀ (n : Nat) (x1 : Int32) (g_at : Int32) (H : Heap) (locs : List Loc) (ls : Array Slot), Wd D A s.heap H locs [oX6 a g_length g_commandCount g_at, ar cI (a 1) 200 g_bytes] → lv_has ls 2 [(0, .ref (a 0)), (1, .int x1)] → fX6_skipBlanks_2 g_bytes g_length n k x1 g_at = some s0 → W p l e rmX6_skipBlanks s m args below meth c H locs 0 0 (KQ D A below args s none [oX6 a g_length g_commandCount s0, ar cI (a 1) 200 g_bytes]) (F0 m 2 ls []) := by
  have hx := C.1.1
  have hb := C.1.2.1
  intro n
  induction n with
  | zero =>
    intro x1 g_at H locs ls hw hl h
    rw [fX6_skipBlanks_2] at h
    cases h
  | succ n ih =>
    intro x1 g_at H locs ls hw hl h
    rw [fX6_skipBlanks_2] at h
    refine lv_iload_n hx hb dX6_skipBlanks_2 rfl (lv_at hl 1 rfl) ?_
    refine lv_sipush (v := 200) hx hb dX6_skipBlanks_3 (by decide) ?_
    refine lv_icmp_ge (tgt := 34) hx hb dX6_skipBlanks_6 (by decide) (fun c6 => ?_) (fun c6 => ?_)
    · replace h := br_t' h c6
      exact hk _ _ _ _ _ hw (lv_sub hl [0, 1] rfl) h
    · replace h := br_f' h c6
      refine lv_aload_n hx hb dX6_skipBlanks_9 rfl (lv_at hl 0 rfl) ?_
      obtain ⟨r10, q10, h⟩ := bd h
      refine k_callV (nC := 2) [oX6 a g_length g_commandCount g_at, ar cI (a 1) 200 g_bytes] C hl.1 (tX6_byteHere (a := a) q10) mL_X6_38 mmX6_byteHere rfl rfl ⟨Nat.le_of_ble_eq_true rfl, Nat.le_of_ble_eq_true rfl⟩ rfl rfl rfl rfl (Nat.le_of_ble_eq_true rfl) hA hw [0, 1] [] rfl (by decide +kernel) rfl rfl rfl rfl dX6_skipBlanks_10 (fun H locs hw10 => ?_)
      refine lv_bipush (v := 32) hx hb dX6_skipBlanks_13 (by decide) ?_
      refine lv_icmp_ne (tgt := 34) hx hb dX6_skipBlanks_15 (by decide) (fun c15 => ?_) (fun c15 => ?_)
      · replace h := br_f' h c15
        exact hk _ _ _ _ _ hw10 (lv_sub hl [0, 1] rfl) h
      · replace h := br_t' h c15
        refine lv_aload_n hx hb dX6_skipBlanks_18 rfl (lv_at hl 0 rfl) ?_
        refine lv_dup hx hb dX6_skipBlanks_19 rfl ?_
        refine k_get C inT_X6 hw10 0 rfl rfl 5 (by decide) mF_X6_28 rfl dX6_skipBlanks_20 ?_
        refine lv_iconst (v := 1) hx hb dX6_skipBlanks_23 (by decide) ?_
        refine lv_iadd hx hb dX6_skipBlanks_24 ?_
        refine k_put C inT_X6 tyX6 tyX6_ok nmX6 hw10 0 rfl rfl 5 (by decide) mF_X6_28 rfl rfl (Nat.le_of_ble_eq_true rfl) [oX6 a g_length g_commandCount (g_at + 1), ar cI (a 1) 200 g_bytes] rfl dX6_skipBlanks_25 (fun H locs hw25 => ?_)
        refine lv_iinc (v := (x1 + 1)) (lv' := [(1, .int (x1 + 1)), (0, .ref (a 0))]) hx hb dX6_skipBlanks_28 hl (k := 1) rfl rfl (by decide) rfl (fun ls hl => ?_)
        refine lv_goto (tgt := 2) hx hb dX6_skipBlanks_31 (by decide) ?_
        exact ih _ _ _ _ _ hw25 (lv_sub hl [1, 0] rfl) h
def fX6_skipBlanks (g_bytes : Nat → Int32) (g_length : Int32) (g_at : Int32) : Option (Int32) :=
  fX6_skipBlanks_2 g_bytes g_length FU (fun x1_2 g_at_2 =>
    some g_at_2) 0 g_at
set_option maxRecDepth 100000 in
set_option maxHeartbeats 4000000 in
theorem tX6_skipBlanks {l : Launch} {D : va_G} {cI : ClassId} {cS : GS} {a : Nat → Nat} {g_bytes : Nat → Int32} {g_length : Int32} {g_commandCount : Int32} {g_at : Int32}  {s0 : Int32} (h : fX6_skipBlanks g_bytes g_length g_at = some s0) : CT l D cI cS yX6_skipBlanks cX6_skipBlanks 2 none rmX6_skipBlanks [.ref (a 0)] [oX6 a g_length g_commandCount g_at, ar cI (a 1) 200 g_bytes] none [oX6 a g_length g_commandCount s0, ar cI (a 1) 200 g_bytes] := by
  refine CT.of RX6 (by decide) rfl (Nat.le_of_ble_eq_true rfl) (fun p e s m below meth c ls A C hA hl hw => ?_)
  have hx := C.1.1
  have hb := C.1.2.1
  have hl : lv_has ls 2 [(0, .ref (a 0))] := hl
  unfold fX6_skipBlanks at h
  refine lv_iconst (v := 0) hx hb dX6_skipBlanks_0 (by decide) ?_
  refine lv_istore_n (lv' := [(1, .int 0), (0, .ref (a 0))]) hx hb dX6_skipBlanks_1 rfl hl (by decide) rfl (fun ls hl => ?_)
  refine wX6_skipBlanks_2 C hA _ (fun x1_2 g_at_2 H locs ls hw2x hl h => ?_) FU _ _ _ _ _ hw (lv_sub hl [1, 0] rfl) h
  cases h
  exact k_vret C hw2x dX6_skipBlanks_34
def rmX6_skipWord : Room := { frames := 1, cells := 0, slots := 0, locals := 20 }
def fX6_skipWord_2 (g_bytes : Nat → Int32) (g_length : Int32) : (n : Nat) → (k : Int32 → Int32 → Option (Int32)) → Int32 → Int32 → Option (Int32)
  | 0, _, _, _ => none
  | n + 1, k, x1, g_at =>
    if 200 ≤ x1 then
      k x1 g_at
    else
      (fX6_byteHere g_bytes g_length g_at).bind fun r10 =>
      if r10 < 97 then
        k x1 g_at
      else
        (fX6_byteHere g_bytes g_length g_at).bind fun r19 =>
        if 122 < r19 then
          k x1 g_at
        else
          fX6_skipWord_2 g_bytes g_length n k (x1 + 1) (g_at + 1)
set_option maxRecDepth 100000 in
set_option maxHeartbeats 4000000 in
theorem wX6_skipWord_2 {p : Program} {l : Launch} {e : Env} {s : State} {m : MethodId} {args : Array Value} {below : List Frame} {meth : Method} {c : Code} {D : va_G} {cI : ClassId} {cS : GS} {A : Nat → Prop} {a : Nat → Nat} {g_bytes : Nat → Int32} {g_length : Int32} {g_commandCount : Int32} (C : MC p s m args meth c D cI cS A RX6 cX6_skipWord 2 none) (hA : ∀ q, s.heap.size ≤ q → A q) {s0 : Int32} (k : Int32 → Int32 → Option (Int32)) (hk : ∀ (x1 : Int32) (g_at : Int32) (H : Heap) (locs : List Loc) (ls : Array Slot), Wd D A s.heap H locs [oX6 a g_length g_commandCount g_at, ar cI (a 1) 200 g_bytes] → lv_has ls 2 [(0, .ref (a 0)), (1, .int x1)] → k x1 g_at = some s0 → W p l e rmX6_skipWord s m args below meth c H locs 0 0 (KQ D A below args s none [oX6 a g_length g_commandCount s0, ar cI (a 1) 200 g_bytes]) (F0 m 43 ls [])) :
    ∀ (n : Nat) (x1 : Int32) (g_at : Int32) (H : Heap) (locs : List Loc) (ls : Array Slot), Wd D A s.heap H locs [oX6 a g_length g_commandCount g_at, ar cI (a 1) 200 g_bytes] → lv_has ls 2 [(0, .ref (a 0)), (1, .int x1)] → fX6_skipWord_2 g_bytes g_length n k x1 g_at = some s0 → W p l e rmX6_skipWord s m args below meth c H locs 0 0 (KQ D A below args s none [oX6 a g_length g_commandCount s0, ar cI (a 1) 200 g_bytes]) (F0 m 2 ls []) := by
  have hx := C.1.1
  have hb := C.1.2.1
  intro n
  induction n with
  | zero =>
    intro x1 g_at H locs ls hw hl h
    rw [fX6_skipWord_2] at h
    cases h
  | succ n ih =>
    intro x1 g_at H locs ls hw hl h
    rw [fX6_skipWord_2] at h
    refine lv_iload_n hx hb dX6_skipWord_2 rfl (lv_at hl 1 rfl) ?_
    refine lv_sipush (v := 200) hx hb dX6_skipWord_3 (by decide) ?_
    refine lv_icmp_ge (tgt := 43) hx hb dX6_skipWord_6 (by decide) (fun c6 => ?_) (fun c6 => ?_)
    · replace h := br_t' h c6
      exact hk _ _ _ _ _ hw (lv_sub hl [0, 1] rfl) h
    · replace h := br_f' h c6
      refine lv_aload_n hx hb dX6_skipWord_9 rfl (lv_at hl 0 rfl) ?_
      obtain ⟨r10, q10, h⟩ := bd h
      refine k_callV (nC := 2) [oX6 a g_length g_commandCount g_at, ar cI (a 1) 200 g_bytes] C hl.1 (tX6_byteHere (a := a) q10) mL_X6_38 mmX6_byteHere rfl rfl ⟨Nat.le_of_ble_eq_true rfl, Nat.le_of_ble_eq_true rfl⟩ rfl rfl rfl rfl (Nat.le_of_ble_eq_true rfl) hA hw [0, 1] [] rfl (by decide +kernel) rfl rfl rfl rfl dX6_skipWord_10 (fun H locs hw10 => ?_)
      refine lv_bipush (v := 97) hx hb dX6_skipWord_13 (by decide) ?_
      refine lv_icmp_lt (tgt := 43) hx hb dX6_skipWord_15 (by decide) (fun c15 => ?_) (fun c15 => ?_)
      · replace h := br_t' h c15
        exact hk _ _ _ _ _ hw10 (lv_sub hl [0, 1] rfl) h
      · replace h := br_f' h c15
        refine lv_aload_n hx hb dX6_skipWord_18 rfl (lv_at hl 0 rfl) ?_
        obtain ⟨r19, q19, h⟩ := bd h
        refine k_callV (nC := 2) [oX6 a g_length g_commandCount g_at, ar cI (a 1) 200 g_bytes] C hl.1 (tX6_byteHere (a := a) q19) mL_X6_38 mmX6_byteHere rfl rfl ⟨Nat.le_of_ble_eq_true rfl, Nat.le_of_ble_eq_true rfl⟩ rfl rfl rfl rfl (Nat.le_of_ble_eq_true rfl) hA hw10 [0, 1] [] rfl (by decide +kernel) rfl rfl rfl rfl dX6_skipWord_19 (fun H locs hw19 => ?_)
        refine lv_bipush (v := 122) hx hb dX6_skipWord_22 (by decide) ?_
        refine lv_icmp_gt (tgt := 43) hx hb dX6_skipWord_24 (by decide) (fun c24 => ?_) (fun c24 => ?_)
        · replace h := br_t' h c24
          exact hk _ _ _ _ _ hw19 (lv_sub hl [0, 1] rfl) h
        · replace h := br_f' h c24
          refine lv_aload_n hx hb dX6_skipWord_27 rfl (lv_at hl 0 rfl) ?_
          refine lv_dup hx hb dX6_skipWord_28 rfl ?_
          refine k_get C inT_X6 hw19 0 rfl rfl 5 (by decide) mF_X6_28 rfl dX6_skipWord_29 ?_
          refine lv_iconst (v := 1) hx hb dX6_skipWord_32 (by decide) ?_
          refine lv_iadd hx hb dX6_skipWord_33 ?_
          refine k_put C inT_X6 tyX6 tyX6_ok nmX6 hw19 0 rfl rfl 5 (by decide) mF_X6_28 rfl rfl (Nat.le_of_ble_eq_true rfl) [oX6 a g_length g_commandCount (g_at + 1), ar cI (a 1) 200 g_bytes] rfl dX6_skipWord_34 (fun H locs hw34 => ?_)
          refine lv_iinc (v := (x1 + 1)) (lv' := [(1, .int (x1 + 1)), (0, .ref (a 0))]) hx hb dX6_skipWord_37 hl (k := 1) rfl rfl (by decide) rfl (fun ls hl => ?_)
          refine lv_goto (tgt := 2) hx hb dX6_skipWord_40 (by decide) ?_
          exact ih _ _ _ _ _ hw34 (lv_sub hl [1, 0] rfl) h
def fX6_skipWord (g_bytes : Nat → Int32) (g_length : Int32) (g_at : Int32) : Option (Int32) :=
  fX6_skipWord_2 g_bytes g_length FU (fun x1_2 g_at_2 =>
    some g_at_2) 0 g_at
set_option maxRecDepth 100000 in
set_option maxHeartbeats 4000000 in
theorem tX6_skipWord {l : Launch} {D : va_G} {cI : ClassId} {cS : GS} {a : Nat → Nat} {g_bytes : Nat → Int32} {g_length : Int32} {g_commandCount : Int32} {g_at : Int32}  {s0 : Int32} (h : fX6_skipWord g_bytes g_length g_at = some s0) : CT l D cI cS yX6_skipWord cX6_skipWord 2 none rmX6_skipWord [.ref (a 0)] [oX6 a g_length g_commandCount g_at, ar cI (a 1) 200 g_bytes] none [oX6 a g_length g_commandCount s0, ar cI (a 1) 200 g_bytes] := by
  refine CT.of RX6 (by decide) rfl (Nat.le_of_ble_eq_true rfl) (fun p e s m below meth c ls A C hA hl hw => ?_)
  have hx := C.1.1
  have hb := C.1.2.1
  have hl : lv_has ls 2 [(0, .ref (a 0))] := hl
  unfold fX6_skipWord at h
  refine lv_iconst (v := 0) hx hb dX6_skipWord_0 (by decide) ?_
  refine lv_istore_n (lv' := [(1, .int 0), (0, .ref (a 0))]) hx hb dX6_skipWord_1 rfl hl (by decide) rfl (fun ls hl => ?_)
  refine wX6_skipWord_2 C hA _ (fun x1_2 g_at_2 H locs ls hw2x hl h => ?_) FU _ _ _ _ _ hw (lv_sub hl [1, 0] rfl) h
  cases h
  exact k_vret C hw2x dX6_skipWord_43
def rmX6_isWord : Room := { frames := 4, cells := 0, slots := 0, locals := 85 }
def fX6_isWord_21 (g_bytes : Nat → Int32) (x2 : Int32) (i1 : Nat) : (n : Nat) → (k : Int32 → Option (Int32)) → Int32 → Option (Int32)
  | 0, _, _ => none
  | n + 1, k, x3 =>
    (sLn i1).bind fun r23 =>
    if r23 ≤ x3 then
      k x3
    else
      if (nI 200) ≤ (x2 + x3) then
        k x3
      else
        (ld 200 g_bytes (x2 + x3)).bind fun y47 =>
        (sAt i1 x3).bind fun r50 =>
        if y47 = r50 then
          fX6_isWord_21 g_bytes x2 i1 n k (x3 + 1)
        else
          some 0
set_option maxRecDepth 100000 in
set_option maxHeartbeats 4000000 in
theorem wX6_isWord_21 {p : Program} {l : Launch} {e : Env} {s : State} {m : MethodId} {args : Array Value} {below : List Frame} {meth : Method} {c : Code} {D : va_G} {cI : ClassId} {cS : GS} {A : Nat → Prop} {a : Nat → Nat} {g_bytes : Nat → Int32} {g_length : Int32} {g_commandCount : Int32} {g_at : Int32} {x2 : Int32} {i1 : Nat} (C : MC p s m args meth c D cI cS A RX6 cX6_isWord 4 (some .boolean)) (hA : ∀ q, s.heap.size ≤ q → A q) {s0 : Int32} (k : Int32 → Option (Int32)) (hk : ∀ (x3 : Int32) (H : Heap) (locs : List Loc) (ls : Array Slot), Wd D A s.heap H locs [oX6 a g_length g_commandCount g_at, ar cI (a 1) 200 g_bytes] → lv_has ls 4 [(0, .ref (a 0)), (1, .ref (cS.2.1 i1)), (2, .int x2), (3, .int x3)] → k x3 = some s0 → W p l e rmX6_isWord s m args below meth c H locs 0 0 (KQ D A below args s (some (.int s0)) [oX6 a g_length g_commandCount g_at, ar cI (a 1) 200 g_bytes]) (F0 m 64 ls [])) :
    ∀ (n : Nat) (x3 : Int32) (H : Heap) (locs : List Loc) (ls : Array Slot), Wd D A s.heap H locs [oX6 a g_length g_commandCount g_at, ar cI (a 1) 200 g_bytes] → lv_has ls 4 [(0, .ref (a 0)), (1, .ref (cS.2.1 i1)), (2, .int x2), (3, .int x3)] → fX6_isWord_21 g_bytes x2 i1 n k x3 = some s0 → W p l e rmX6_isWord s m args below meth c H locs 0 0 (KQ D A below args s (some (.int s0)) [oX6 a g_length g_commandCount g_at, ar cI (a 1) 200 g_bytes]) (F0 m 21 ls []) := by
  have hx := C.1.1
  have hb := C.1.2.1
  intro n
  induction n with
  | zero =>
    intro x3 H locs ls hw hl h
    rw [fX6_isWord_21] at h
    cases h
  | succ n ih =>
    intro x3 H locs ls hw hl h
    rw [fX6_isWord_21] at h
    refine lv_iload_n hx hb dX6_isWord_21 rfl (lv_at hl 3 rfl) ?_
    refine lv_aload_n hx hb dX6_isWord_22 rfl (lv_at hl 1 rfl) ?_
    obtain ⟨r23, q23, h⟩ := bd h
    refine k_callW (nC := 2) [oX6 a g_length g_commandCount g_at, ar cI (a 1) 200 g_bytes] C hl.1 (tS_length q23) mL_X6_52 mmJ0_length_8abf5 rfl rfl ⟨Nat.le_of_ble_eq_true rfl, Nat.le_of_ble_eq_true rfl⟩ rfl (vk_recv C.2.2.2.2.1 (sLn_lt q23) hw.2.2) rfl (Nat.le_of_ble_eq_true rfl) hA hw [] [0, 1] rfl (by decide +kernel) rfl rfl rfl rfl dX6_isWord_23 (fun H locs hw23 => ?_)
    refine lv_icmp_ge (tgt := 64) hx hb dX6_isWord_26 (by decide) (fun c26 => ?_) (fun c26 => ?_)
    · replace h := br_t' h c26
      exact hk _ _ _ _ hw23 (lv_sub hl [0, 1, 2, 3] rfl) h
    · replace h := br_f' h c26
      refine lv_iload_n hx hb dX6_isWord_29 rfl (lv_at hl 2 rfl) ?_
      refine lv_iload_n hx hb dX6_isWord_30 rfl (lv_at hl 3 rfl) ?_
      refine lv_iadd hx hb dX6_isWord_31 ?_
      refine lv_aload_n hx hb dX6_isWord_32 rfl (lv_at hl 0 rfl) ?_
      refine k_get C inT_X6 hw23 0 rfl rfl 0 (by decide) mF_X6_9 rfl dX6_isWord_33 ?_
      refine k_alen C hw23 1 rfl dX6_isWord_36 ?_
      refine lv_icmp_ge (tgt := 64) hx hb dX6_isWord_37 (by decide) (fun c37 => ?_) (fun c37 => ?_)
      · replace h := br_t' h c37
        exact hk _ _ _ _ hw23 (lv_sub hl [0, 1, 2, 3] rfl) h
      · replace h := br_f' h c37
        refine lv_aload_n hx hb dX6_isWord_40 rfl (lv_at hl 0 rfl) ?_
        refine k_get C inT_X6 hw23 0 rfl rfl 0 (by decide) mF_X6_9 rfl dX6_isWord_41 ?_
        refine lv_iload_n hx hb dX6_isWord_44 rfl (lv_at hl 2 rfl) ?_
        refine lv_iload_n hx hb dX6_isWord_45 rfl (lv_at hl 3 rfl) ?_
        refine lv_iadd hx hb dX6_isWord_46 ?_
        obtain ⟨y47, q47, h⟩ := bd h
        refine k_iald C hw23 1 rfl q47 dX6_isWord_47 ?_
        refine lv_aload_n hx hb dX6_isWord_48 rfl (lv_at hl 1 rfl) ?_
        refine lv_iload_n hx hb dX6_isWord_49 rfl (lv_at hl 3 rfl) ?_
        obtain ⟨r50, q50, h⟩ := bd h
        refine k_callW (nC := 2) [oX6 a g_length g_commandCount g_at, ar cI (a 1) 200 g_bytes] C hl.1 (tS_charAt q50) mL_X6_60 mmJ0_charAt_5068e rfl rfl ⟨Nat.le_of_ble_eq_true rfl, Nat.le_of_ble_eq_true rfl⟩ rfl (vk_recv C.2.2.2.2.1 (sAt_lt q50) hw23.2.2) rfl (Nat.le_of_ble_eq_true rfl) hA hw23 [] [0, 1] rfl (by decide +kernel) rfl rfl rfl rfl dX6_isWord_50 (fun H locs hw50 => ?_)
        refine lv_icmp_eq (tgt := 58) hx hb dX6_isWord_53 (by decide) (fun c53 => ?_) (fun c53 => ?_)
        · replace h := br_t' h c53
          refine lv_iinc (v := (x3 + 1)) (lv' := [(3, .int (x3 + 1)), (0, .ref (a 0)), (1, .ref (cS.2.1 i1)), (2, .int x2)]) hx hb dX6_isWord_58 hl (k := 3) rfl rfl (by decide) rfl (fun ls hl => ?_)
          refine lv_goto (tgt := 21) hx hb dX6_isWord_61 (by decide) ?_
          exact ih _ _ _ _ hw50 (lv_sub hl [1, 2, 3, 0] rfl) h
        · replace h := br_f' h c53
          refine lv_iconst (v := 0) hx hb dX6_isWord_56 (by decide) ?_
          cases h
          exact k_zret (v := 0) C rfl hw50 dX6_isWord_57
def fX6_isWord (g_bytes : Nat → Int32) (g_at : Int32) (i1 : Nat) (x2 : Int32) : Option (Int32) :=
  if x2 < 0 then
    some 0
  else
    (sLn i1).bind fun r11 =>
    if (g_at - x2) = r11 then
      fX6_isWord_21 g_bytes x2 i1 FU (fun x3_21 =>
        some 1) 0
    else
      some 0
set_option maxRecDepth 100000 in
set_option maxHeartbeats 4000000 in
theorem tX6_isWord {l : Launch} {D : va_G} {cI : ClassId} {cS : GS} {a : Nat → Nat} {g_bytes : Nat → Int32} {g_length : Int32} {g_commandCount : Int32} {g_at : Int32} {i1 : Nat} {x2 : Int32} {s0 : Int32} (h : fX6_isWord g_bytes g_at i1 x2 = some s0) : CT l D cI cS yX6_isWord cX6_isWord 4 (some .boolean) rmX6_isWord [.ref (a 0), .ref (cS.2.1 i1), .int x2] [oX6 a g_length g_commandCount g_at, ar cI (a 1) 200 g_bytes] (some (.int s0)) [oX6 a g_length g_commandCount g_at, ar cI (a 1) 200 g_bytes] := by
  refine CT.of RX6 (by decide) rfl (Nat.le_of_ble_eq_true rfl) (fun p e s m below meth c ls A C hA hl hw => ?_)
  have hx := C.1.1
  have hb := C.1.2.1
  have hl : lv_has ls 4 [(0, .ref (a 0)), (1, .ref (cS.2.1 i1)), (2, .int x2)] := hl
  unfold fX6_isWord at h
  refine lv_iload_n hx hb dX6_isWord_0 rfl (lv_at hl 2 rfl) ?_
  refine lv_if_lt (tgt := 17) hx hb dX6_isWord_1 (by decide) (fun c1 => ?_) (fun c1 => ?_)
  · replace h := br_t' h c1
    refine lv_iconst (v := 0) hx hb dX6_isWord_17 (by decide) ?_
    cases h
    exact k_zret (v := 0) C rfl hw dX6_isWord_18
  · replace h := br_f' h c1
    refine lv_aload_n hx hb dX6_isWord_4 rfl (lv_at hl 0 rfl) ?_
    refine k_get C inT_X6 hw 0 rfl rfl 5 (by decide) mF_X6_28 rfl dX6_isWord_5 ?_
    refine lv_iload_n hx hb dX6_isWord_8 rfl (lv_at hl 2 rfl) ?_
    refine lv_isub hx hb dX6_isWord_9 ?_
    refine lv_aload_n hx hb dX6_isWord_10 rfl (lv_at hl 1 rfl) ?_
    obtain ⟨r11, q11, h⟩ := bd h
    refine k_callW (nC := 2) [oX6 a g_length g_commandCount g_at, ar cI (a 1) 200 g_bytes] C hl.1 (tS_length q11) mL_X6_52 mmJ0_length_8abf5 rfl rfl ⟨Nat.le_of_ble_eq_true rfl, Nat.le_of_ble_eq_true rfl⟩ rfl (vk_recv C.2.2.2.2.1 (sLn_lt q11) hw.2.2) rfl (Nat.le_of_ble_eq_true rfl) hA hw [] [0, 1] rfl (by decide +kernel) rfl rfl rfl rfl dX6_isWord_11 (fun H locs hw11 => ?_)
    refine lv_icmp_eq (tgt := 19) hx hb dX6_isWord_14 (by decide) (fun c14 => ?_) (fun c14 => ?_)
    · replace h := br_t' h c14
      refine lv_iconst (v := 0) hx hb dX6_isWord_19 (by decide) ?_
      refine lv_istore_n (lv' := [(3, .int 0), (0, .ref (a 0)), (1, .ref (cS.2.1 i1)), (2, .int x2)]) hx hb dX6_isWord_20 rfl hl (by decide) rfl (fun ls hl => ?_)
      refine wX6_isWord_21 C hA _ (fun x3_21 H locs ls hw21x hl h => ?_) FU _ _ _ _ hw11 (lv_sub hl [1, 2, 3, 0] rfl) h
      refine lv_iconst (v := 1) hx hb dX6_isWord_64 (by decide) ?_
      cases h
      exact k_zret (v := 1) C rfl hw21x dX6_isWord_65
    · replace h := br_f' h c14
      refine lv_iconst (v := 0) hx hb dX6_isWord_17 (by decide) ?_
      cases h
      exact k_zret (v := 0) C rfl hw11 dX6_isWord_18
def rmX6_wordOf : Room := { frames := 0, cells := 0, slots := 0, locals := 0 }
def fX6_wordOf (x0 : Int32) : Option (Nat) :=
  if x0 = 0 then
    some 0
  else
  if x0 = 1 then
    some 1
  else
  if x0 = 2 then
    some 2
  else
  if x0 = 3 then
    some 3
  else
  if x0 = 4 then
    some 4
  else
  if x0 = 5 then
    some 5
  else
  if x0 = 6 then
    some 6
  else
    some 7
set_option maxRecDepth 100000 in
set_option maxHeartbeats 4000000 in
theorem tX6_wordOf {l : Launch} {D : va_G} {cI : ClassId} {cS : GS}  {x0 : Int32} {s0 : Nat} (h : fX6_wordOf x0 = some s0) : CT l D cI cS yX6_wordOf cX6_wordOf 1 (some (.object "java/lang/String")) rmX6_wordOf [.int x0] [] (some (.ref (cS.2.1 s0))) [] := by
  refine CT.of RX6 (by decide) rfl (Nat.le_of_ble_eq_true rfl) (fun p e s m below meth c ls A C hA hl hw => ?_)
  have hx := C.1.1
  have hb := C.1.2.1
  have hl : lv_has ls 1 [(0, .int x0)] := hl
  unfold fX6_wordOf at h
  refine lv_iload_n hx hb dX6_wordOf_0 rfl (lv_at hl 0 rfl) ?_
  by_cases c1_0 : x0 = 0
  · replace h := br_t' h c1_0
    refine lv_tableIn (tgt := 44) hx hb dX6_wordOf_1 (by rw [c1_0]; decide) (by rw [c1_0]; decide) (off := 43) (by rw [c1_0]; decide) (by decide) ?_
    refine k_ldcS C 0 (by decide) rfl rfl dX6_wordOf_44 ?_
    cases h
    exact k_aret C (Or.inr ⟨_, rfl⟩) hw dX6_wordOf_46
  replace h := br_f' h c1_0
  by_cases c1_1 : x0 = 1
  · replace h := br_t' h c1_1
    refine lv_tableIn (tgt := 47) hx hb dX6_wordOf_1 (by rw [c1_1]; decide) (by rw [c1_1]; decide) (off := 46) (by rw [c1_1]; decide) (by decide) ?_
    refine k_ldcS C 1 (by decide) rfl rfl dX6_wordOf_47 ?_
    cases h
    exact k_aret C (Or.inr ⟨_, rfl⟩) hw dX6_wordOf_49
  replace h := br_f' h c1_1
  by_cases c1_2 : x0 = 2
  · replace h := br_t' h c1_2
    refine lv_tableIn (tgt := 50) hx hb dX6_wordOf_1 (by rw [c1_2]; decide) (by rw [c1_2]; decide) (off := 49) (by rw [c1_2]; decide) (by decide) ?_
    refine k_ldcS C 2 (by decide) rfl rfl dX6_wordOf_50 ?_
    cases h
    exact k_aret C (Or.inr ⟨_, rfl⟩) hw dX6_wordOf_52
  replace h := br_f' h c1_2
  by_cases c1_3 : x0 = 3
  · replace h := br_t' h c1_3
    refine lv_tableIn (tgt := 53) hx hb dX6_wordOf_1 (by rw [c1_3]; decide) (by rw [c1_3]; decide) (off := 52) (by rw [c1_3]; decide) (by decide) ?_
    refine k_ldcS C 3 (by decide) rfl rfl dX6_wordOf_53 ?_
    cases h
    exact k_aret C (Or.inr ⟨_, rfl⟩) hw dX6_wordOf_55
  replace h := br_f' h c1_3
  by_cases c1_4 : x0 = 4
  · replace h := br_t' h c1_4
    refine lv_tableIn (tgt := 56) hx hb dX6_wordOf_1 (by rw [c1_4]; decide) (by rw [c1_4]; decide) (off := 55) (by rw [c1_4]; decide) (by decide) ?_
    refine k_ldcS C 4 (by decide) rfl rfl dX6_wordOf_56 ?_
    cases h
    exact k_aret C (Or.inr ⟨_, rfl⟩) hw dX6_wordOf_58
  replace h := br_f' h c1_4
  by_cases c1_5 : x0 = 5
  · replace h := br_t' h c1_5
    refine lv_tableIn (tgt := 59) hx hb dX6_wordOf_1 (by rw [c1_5]; decide) (by rw [c1_5]; decide) (off := 58) (by rw [c1_5]; decide) (by decide) ?_
    refine k_ldcS C 5 (by decide) rfl rfl dX6_wordOf_59 ?_
    cases h
    exact k_aret C (Or.inr ⟨_, rfl⟩) hw dX6_wordOf_61
  replace h := br_f' h c1_5
  by_cases c1_6 : x0 = 6
  · replace h := br_t' h c1_6
    refine lv_tableIn (tgt := 62) hx hb dX6_wordOf_1 (by rw [c1_6]; decide) (by rw [c1_6]; decide) (off := 61) (by rw [c1_6]; decide) (by decide) ?_
    refine k_ldcS C 6 (by decide) rfl rfl dX6_wordOf_62 ?_
    cases h
    exact k_aret C (Or.inr ⟨_, rfl⟩) hw dX6_wordOf_64
  replace h := br_f' h c1_6
  refine lv_tableOut (tgt := 65) hx hb dX6_wordOf_1 (by have t0 := ti_ne (i := 0) c1_0 (by decide); have t1 := ti_ne (i := 1) c1_1 (by decide); have t2 := ti_ne (i := 2) c1_2 (by decide); have t3 := ti_ne (i := 3) c1_3 (by decide); have t4 := ti_ne (i := 4) c1_4 (by decide); have t5 := ti_ne (i := 5) c1_5 (by decide); have t6 := ti_ne (i := 6) c1_6 (by decide); omega) (by decide) ?_
  refine k_ldcS C 7 (by decide) rfl rfl dX6_wordOf_65 ?_
  cases h
  exact k_aret C (Or.inr ⟨_, rfl⟩) hw dX6_wordOf_67
def rmX6_verbFrom : Room := { frames := 5, cells := 0, slots := 0, locals := 108 }
def fX6_verbFrom_2 (g_bytes : Nat → Int32) (g_at : Int32) (x1 : Int32) : (n : Nat) → (k : Int32 → Option (Int32)) → Int32 → Option (Int32)
  | 0, _, _ => none
  | n + 1, k, x2 =>
    if 8 ≤ x2 then
      k x2
    else
      (fX6_wordOf x2).bind fun r10 =>
      (fX6_isWord g_bytes g_at r10 x1).bind fun r14 =>
      if r14 = 0 then
        fX6_verbFrom_2 g_bytes g_at x1 n k (x2 + 1)
      else
        some x2
set_option maxRecDepth 100000 in
set_option maxHeartbeats 4000000 in
theorem wX6_verbFrom_2 {p : Program} {l : Launch} {e : Env} {s : State} {m : MethodId} {args : Array Value} {below : List Frame} {meth : Method} {c : Code} {D : va_G} {cI : ClassId} {cS : GS} {A : Nat → Prop} {a : Nat → Nat} {g_bytes : Nat → Int32} {g_length : Int32} {g_commandCount : Int32} {g_at : Int32} {x1 : Int32} (C : MC p s m args meth c D cI cS A RX6 cX6_verbFrom 3 (some .int)) (hA : ∀ q, s.heap.size ≤ q → A q) {s0 : Int32} (k : Int32 → Option (Int32)) (hk : ∀ (x2 : Int32) (H : Heap) (locs : List Loc) (ls : Array Slot), Wd D A s.heap H locs [oX6 a g_length g_commandCount g_at, ar cI (a 1) 200 g_bytes] → lv_has ls 3 [(0, .ref (a 0)), (1, .int x1), (2, .int x2)] → k x2 = some s0 → W p l e rmX6_verbFrom s m args below meth c H locs 0 0 (KQ D A below args s (some (.int s0)) [oX6 a g_length g_commandCount g_at, ar cI (a 1) 200 g_bytes]) (F0 m 28 ls [])) :
    ∀ (n : Nat) (x2 : Int32) (H : Heap) (locs : List Loc) (ls : Array Slot), Wd D A s.heap H locs [oX6 a g_length g_commandCount g_at, ar cI (a 1) 200 g_bytes] → lv_has ls 3 [(0, .ref (a 0)), (1, .int x1), (2, .int x2)] → fX6_verbFrom_2 g_bytes g_at x1 n k x2 = some s0 → W p l e rmX6_verbFrom s m args below meth c H locs 0 0 (KQ D A below args s (some (.int s0)) [oX6 a g_length g_commandCount g_at, ar cI (a 1) 200 g_bytes]) (F0 m 2 ls []) := by
  have hx := C.1.1
  have hb := C.1.2.1
  intro n
  induction n with
  | zero =>
    intro x2 H locs ls hw hl h
    rw [fX6_verbFrom_2] at h
    cases h
  | succ n ih =>
    intro x2 H locs ls hw hl h
    rw [fX6_verbFrom_2] at h
    refine lv_iload_n hx hb dX6_verbFrom_2 rfl (lv_at hl 2 rfl) ?_
    refine lv_bipush (v := 8) hx hb dX6_verbFrom_3 (by decide) ?_
    refine lv_icmp_ge (tgt := 28) hx hb dX6_verbFrom_5 (by decide) (fun c5 => ?_) (fun c5 => ?_)
    · replace h := br_t' h c5
      exact hk _ _ _ _ hw (lv_sub hl [0, 1, 2] rfl) h
    · replace h := br_f' h c5
      refine lv_aload_n hx hb dX6_verbFrom_8 rfl (lv_at hl 0 rfl) ?_
      refine lv_iload_n hx hb dX6_verbFrom_9 rfl (lv_at hl 2 rfl) ?_
      obtain ⟨r10, q10, h⟩ := bd h
      refine k_callS (nC := 2) [oX6 a g_length g_commandCount g_at, ar cI (a 1) 200 g_bytes] C hl.1 (tX6_wordOf q10) mL_X6_79 mmX6_wordOf rfl rfl ⟨Nat.le_of_ble_eq_true rfl, Nat.le_of_ble_eq_true rfl⟩ rfl rfl (Nat.le_of_ble_eq_true rfl) hA hw [] [0, 1] rfl (by decide +kernel) rfl rfl rfl rfl dX6_verbFrom_10 (fun H locs hw10 => ?_)
      refine lv_iload_n hx hb dX6_verbFrom_13 rfl (lv_at hl 1 rfl) ?_
      obtain ⟨r14, q14, h⟩ := bd h
      refine k_callV (nC := 2) [oX6 a g_length g_commandCount g_at, ar cI (a 1) 200 g_bytes] C hl.1 (tX6_isWord (a := a) q14) mL_X6_82 mmX6_isWord rfl rfl ⟨Nat.le_of_ble_eq_true rfl, Nat.le_of_ble_eq_true rfl⟩ rfl rfl rfl rfl (Nat.le_of_ble_eq_true rfl) hA hw10 [0, 1] [] rfl (by decide +kernel) rfl rfl rfl rfl dX6_verbFrom_14 (fun H locs hw14 => ?_)
      refine lv_if_eq (tgt := 22) hx hb dX6_verbFrom_17 (by decide) (fun c17 => ?_) (fun c17 => ?_)
      · replace h := br_t' h c17
        refine lv_iinc (v := (x2 + 1)) (lv' := [(2, .int (x2 + 1)), (0, .ref (a 0)), (1, .int x1)]) hx hb dX6_verbFrom_22 hl (k := 2) rfl rfl (by decide) rfl (fun ls hl => ?_)
        refine lv_goto (tgt := 2) hx hb dX6_verbFrom_25 (by decide) ?_
        exact ih _ _ _ _ hw14 (lv_sub hl [1, 2, 0] rfl) h
      · replace h := br_f' h c17
        refine lv_iload_n hx hb dX6_verbFrom_20 rfl (lv_at hl 2 rfl) ?_
        cases h
        exact k_iret C hw14 dX6_verbFrom_21
def fX6_verbFrom (g_bytes : Nat → Int32) (g_at : Int32) (x1 : Int32) : Option (Int32) :=
  fX6_verbFrom_2 g_bytes g_at x1 FU (fun x2_2 =>
    some (-1)) 0
set_option maxRecDepth 100000 in
set_option maxHeartbeats 4000000 in
theorem tX6_verbFrom {l : Launch} {D : va_G} {cI : ClassId} {cS : GS} {a : Nat → Nat} {g_bytes : Nat → Int32} {g_length : Int32} {g_commandCount : Int32} {g_at : Int32} {x1 : Int32} {s0 : Int32} (h : fX6_verbFrom g_bytes g_at x1 = some s0) : CT l D cI cS yX6_verbFrom cX6_verbFrom 3 (some .int) rmX6_verbFrom [.ref (a 0), .int x1] [oX6 a g_length g_commandCount g_at, ar cI (a 1) 200 g_bytes] (some (.int s0)) [oX6 a g_length g_commandCount g_at, ar cI (a 1) 200 g_bytes] := by
  refine CT.of RX6 (by decide) rfl (Nat.le_of_ble_eq_true rfl) (fun p e s m below meth c ls A C hA hl hw => ?_)
  have hx := C.1.1
  have hb := C.1.2.1
  have hl : lv_has ls 3 [(0, .ref (a 0)), (1, .int x1)] := hl
  unfold fX6_verbFrom at h
  refine lv_iconst (v := 0) hx hb dX6_verbFrom_0 (by decide) ?_
  refine lv_istore_n (lv' := [(2, .int 0), (0, .ref (a 0)), (1, .int x1)]) hx hb dX6_verbFrom_1 rfl hl (by decide) rfl (fun ls hl => ?_)
  refine wX6_verbFrom_2 C hA _ (fun x2_2 H locs ls hw2x hl h => ?_) FU _ _ _ _ hw (lv_sub hl [1, 2, 0] rfl) h
  refine lv_iconst (v := (-1)) hx hb dX6_verbFrom_28 (by decide) ?_
  cases h
  exact k_iret C hw2x dX6_verbFrom_29
def rmX6_readCommand : Room := { frames := 6, cells := 0, slots := 0, locals := 130 }
def fX6_readCommand_58 (g_bytes : Nat → Int32) (g_verbs : Nat → Int32) (g_length : Int32) (x1 : Int32) (i4 : Nat) : (n : Nat) → (k : Int32 → Int32 → (Nat → Int32) → Int32 → Option (Int32 × (Nat → Int32) × (Nat → Int32) × Int32)) → Int32 → Int32 → (Nat → Int32) → Int32 → Option (Int32 × (Nat → Int32) × (Nat → Int32) × Int32)
  | 0, _, _, _, _, _ => none
  | n + 1, k, x5, x6, g_numbers, g_at =>
    (sLn i4).bind fun r62 =>
    if r62 ≤ x6 then
      k x5 x6 g_numbers g_at
    else
      (fX6_skipBlanks g_bytes g_length g_at).bind fun r69 =>
      (fX6_readNumber g_bytes g_length r69).bind fun r79 =>
      (sAt i4 x6).bind fun r90 =>
      (fX6_lowest r90 x5).bind fun r95 =>
      if (lg_cmp r79.1 r95.toInt64) < 0 then
        some (r69, g_verbs, g_numbers, r79.2)
      else
        (sAt i4 x6).bind fun r109 =>
        (fX6_highest r109).bind fun r112 =>
        if (lg_cmp r79.1 r112.toInt64) ≤ 0 then
          (fX6_setNumber g_numbers x1 x6 r79.1.toInt32).bind fun r134 =>
          fX6_readCommand_58 g_bytes g_verbs g_length x1 i4 n k r79.1.toInt32 (x6 + 1) r134 r79.2
        else
          some (r69, g_verbs, g_numbers, r79.2)
set_option maxRecDepth 100000 in
set_option maxHeartbeats 4000000 in
theorem wX6_readCommand_58 {p : Program} {l : Launch} {e : Env} {s : State} {m : MethodId} {args : Array Value} {below : List Frame} {meth : Method} {c : Code} {D : va_G} {cI : ClassId} {cS : GS} {A : Nat → Prop} {a : Nat → Nat} {g_bytes : Nat → Int32} {g_verbs : Nat → Int32} {g_length : Int32} {g_commandCount : Int32} {x1 : Int32} {i4 : Nat} (C : MC p s m args meth c D cI cS A RX6 cX6_readCommand 10 (some .int)) (hA : ∀ q, s.heap.size ≤ q → A q) {s0 : Int32} {s1 : (Nat → Int32)} {s2 : (Nat → Int32)} {s3 : Int32} (k : Int32 → Int32 → (Nat → Int32) → Int32 → Option (Int32 × (Nat → Int32) × (Nat → Int32) × Int32)) (hk : ∀ (x5 : Int32) (x6 : Int32) (g_numbers : Nat → Int32) (g_at : Int32) (H : Heap) (locs : List Loc) (ls : Array Slot), Wd D A s.heap H locs [oX6 a g_length g_commandCount g_at, ar cI (a 1) 200 g_bytes, ar cI (a 2) 24 g_verbs, ar cI (a 3) 72 g_numbers] → lv_has ls 10 [(0, .ref (a 0)), (1, .int x1), (4, .ref (cS.2.1 i4)), (5, .int x5), (6, .int x6)] → k x5 x6 g_numbers g_at = some (s0, s1, s2, s3) → W p l e rmX6_readCommand s m args below meth c H locs 0 0 (KQ D A below args s (some (.int s0)) [oX6 a g_length g_commandCount s3, ar cI (a 1) 200 g_bytes, ar cI (a 2) 24 s1, ar cI (a 3) 72 s2]) (F0 m 143 ls [])) :
    ∀ (n : Nat) (x5 : Int32) (x6 : Int32) (g_numbers : Nat → Int32) (g_at : Int32) (H : Heap) (locs : List Loc) (ls : Array Slot), Wd D A s.heap H locs [oX6 a g_length g_commandCount g_at, ar cI (a 1) 200 g_bytes, ar cI (a 2) 24 g_verbs, ar cI (a 3) 72 g_numbers] → lv_has ls 10 [(0, .ref (a 0)), (1, .int x1), (4, .ref (cS.2.1 i4)), (5, .int x5), (6, .int x6)] → fX6_readCommand_58 g_bytes g_verbs g_length x1 i4 n k x5 x6 g_numbers g_at = some (s0, s1, s2, s3) → W p l e rmX6_readCommand s m args below meth c H locs 0 0 (KQ D A below args s (some (.int s0)) [oX6 a g_length g_commandCount s3, ar cI (a 1) 200 g_bytes, ar cI (a 2) 24 s1, ar cI (a 3) 72 s2]) (F0 m 58 ls []) := by
  have hx := C.1.1
  have hb := C.1.2.1
  intro n
  induction n with
  | zero =>
    intro x5 x6 g_numbers g_at H locs ls hw hl h
    rw [fX6_readCommand_58] at h
    cases h
  | succ n ih =>
    intro x5 x6 g_numbers g_at H locs ls hw hl h
    rw [fX6_readCommand_58] at h
    refine lv_iload hx hb dX6_readCommand_58 (lv_at hl 4 rfl) ?_
    refine lv_aload hx hb dX6_readCommand_60 (lv_at hl 2 rfl) ?_
    obtain ⟨r62, q62, h⟩ := bd h
    refine k_callW (nC := 4) [oX6 a g_length g_commandCount g_at, ar cI (a 1) 200 g_bytes, ar cI (a 2) 24 g_verbs, ar cI (a 3) 72 g_numbers] C hl.1 (tS_length q62) mL_X6_52 mmJ0_length_8abf5 rfl rfl ⟨Nat.le_of_ble_eq_true rfl, Nat.le_of_ble_eq_true rfl⟩ rfl (vk_recv C.2.2.2.2.1 (sLn_lt q62) hw.2.2) rfl (Nat.le_of_ble_eq_true rfl) hA hw [] [0, 1, 2, 3] rfl (by decide +kernel) rfl rfl rfl rfl dX6_readCommand_62 (fun H locs hw62 => ?_)
    refine lv_icmp_ge (tgt := 143) hx hb dX6_readCommand_65 (by decide) (fun c65 => ?_) (fun c65 => ?_)
    · replace h := br_t' h c65
      exact hk _ _ _ _ _ _ _ hw62 (lv_sub hl [0, 1, 2, 3, 4] rfl) h
    · replace h := br_f' h c65
      refine lv_aload_n hx hb dX6_readCommand_68 rfl (lv_at hl 0 rfl) ?_
      obtain ⟨r69, q69, h⟩ := bd h
      refine k_callV (nC := 4) [oX6 a g_length g_commandCount r69, ar cI (a 1) 200 g_bytes, ar cI (a 2) 24 g_verbs, ar cI (a 3) 72 g_numbers] C hl.1 (tX6_skipBlanks (a := a) q69) mL_X6_35 mmX6_skipBlanks rfl rfl ⟨Nat.le_of_ble_eq_true rfl, Nat.le_of_ble_eq_true rfl⟩ rfl rfl rfl rfl (Nat.le_of_ble_eq_true rfl) hA hw62 [0, 1] [2, 3] rfl (by decide +kernel) rfl rfl rfl rfl dX6_readCommand_69 (fun H locs hw69 => ?_)
      refine lv_aload_n hx hb dX6_readCommand_72 rfl (lv_at hl 0 rfl) ?_
      refine k_get C inT_X6 hw69 0 rfl rfl 5 (by decide) mF_X6_28 rfl dX6_readCommand_73 ?_
      refine lv_istore (lv' := [(7, .int r69), (0, .ref (a 0)), (1, .int x1), (4, .ref (cS.2.1 i4)), (5, .int x5), (6, .int x6)]) hx hb dX6_readCommand_76 hl (by decide) rfl (fun ls hl => ?_)
      refine lv_aload_n hx hb dX6_readCommand_78 rfl (lv_at hl 1 rfl) ?_
      obtain ⟨r79, q79, h⟩ := bd h
      refine k_callV (nC := 4) [oX6 a g_length g_commandCount r79.2, ar cI (a 1) 200 g_bytes, ar cI (a 2) 24 g_verbs, ar cI (a 3) 72 g_numbers] C hl.1 (tX6_readNumber (a := a) q79) mL_X6_56 mmX6_readNumber rfl rfl ⟨Nat.le_of_ble_eq_true rfl, Nat.le_of_ble_eq_true rfl⟩ rfl rfl rfl rfl (Nat.le_of_ble_eq_true rfl) hA hw69 [0, 1] [2, 3] rfl (by decide +kernel) rfl rfl rfl rfl dX6_readCommand_79 (fun H locs hw79 => ?_)
      refine lv_lstore (lv' := [(8, .long r79.1), (7, .int r69), (0, .ref (a 0)), (1, .int x1), (4, .ref (cS.2.1 i4)), (5, .int x5), (6, .int x6)]) hx hb dX6_readCommand_82 hl (by decide) rfl (fun ls hl => ?_)
      refine lv_lload hx hb dX6_readCommand_84 (lv_at hl 0 rfl) ?_
      refine lv_aload hx hb dX6_readCommand_86 (lv_at hl 4 rfl) ?_
      refine lv_iload hx hb dX6_readCommand_88 (lv_at hl 6 rfl) ?_
      obtain ⟨r90, q90, h⟩ := bd h
      refine k_callW (nC := 4) [oX6 a g_length g_commandCount r79.2, ar cI (a 1) 200 g_bytes, ar cI (a 2) 24 g_verbs, ar cI (a 3) 72 g_numbers] C hl.1 (tS_charAt q90) mL_X6_60 mmJ0_charAt_5068e rfl rfl ⟨Nat.le_of_ble_eq_true rfl, Nat.le_of_ble_eq_true rfl⟩ rfl (vk_recv C.2.2.2.2.1 (sAt_lt q90) hw79.2.2) rfl (Nat.le_of_ble_eq_true rfl) hA hw79 [] [0, 1, 2, 3] rfl (by decide +kernel) rfl rfl rfl rfl dX6_readCommand_90 (fun H locs hw90 => ?_)
      refine lv_iload hx hb dX6_readCommand_93 (lv_at hl 5 rfl) ?_
      obtain ⟨r95, q95, h⟩ := bd h
      refine k_callS (nC := 4) [oX6 a g_length g_commandCount r79.2, ar cI (a 1) 200 g_bytes, ar cI (a 2) 24 g_verbs, ar cI (a 3) 72 g_numbers] C hl.1 (tX6_lowest q95) mL_X6_64 mmX6_lowest rfl rfl ⟨Nat.le_of_ble_eq_true rfl, Nat.le_of_ble_eq_true rfl⟩ rfl rfl (Nat.le_of_ble_eq_true rfl) hA hw90 [] [0, 1, 2, 3] rfl (by decide +kernel) rfl rfl rfl rfl dX6_readCommand_95 (fun H locs hw95 => ?_)
      refine lv_i2l (v := r95.toInt64) hx hb dX6_readCommand_98 rfl ?_
      refine W.lcmp hx hb dX6_readCommand_99 ?_
      refine lv_if_lt (tgt := 120) hx hb dX6_readCommand_100 (by decide) (fun c100 => ?_) (fun c100 => ?_)
      · replace h := br_t' h c100
        refine lv_iload hx hb dX6_readCommand_120 (lv_at hl 1 rfl) ?_
        cases h
        exact k_iret C hw95 dX6_readCommand_122
      · replace h := br_f' h c100
        refine lv_lload hx hb dX6_readCommand_103 (lv_at hl 0 rfl) ?_
        refine lv_aload hx hb dX6_readCommand_105 (lv_at hl 4 rfl) ?_
        refine lv_iload hx hb dX6_readCommand_107 (lv_at hl 6 rfl) ?_
        obtain ⟨r109, q109, h⟩ := bd h
        refine k_callW (nC := 4) [oX6 a g_length g_commandCount r79.2, ar cI (a 1) 200 g_bytes, ar cI (a 2) 24 g_verbs, ar cI (a 3) 72 g_numbers] C hl.1 (tS_charAt q109) mL_X6_60 mmJ0_charAt_5068e rfl rfl ⟨Nat.le_of_ble_eq_true rfl, Nat.le_of_ble_eq_true rfl⟩ rfl (vk_recv C.2.2.2.2.1 (sAt_lt q109) hw95.2.2) rfl (Nat.le_of_ble_eq_true rfl) hA hw95 [] [0, 1, 2, 3] rfl (by decide +kernel) rfl rfl rfl rfl dX6_readCommand_109 (fun H locs hw109 => ?_)
        obtain ⟨r112, q112, h⟩ := bd h
        refine k_callS (nC := 4) [oX6 a g_length g_commandCount r79.2, ar cI (a 1) 200 g_bytes, ar cI (a 2) 24 g_verbs, ar cI (a 3) 72 g_numbers] C hl.1 (tX6_highest q112) mL_X6_68 mmX6_highest rfl rfl ⟨Nat.le_of_ble_eq_true rfl, Nat.le_of_ble_eq_true rfl⟩ rfl rfl (Nat.le_of_ble_eq_true rfl) hA hw109 [] [0, 1, 2, 3] rfl (by decide +kernel) rfl rfl rfl rfl dX6_readCommand_112 (fun H locs hw112 => ?_)
        refine lv_i2l (v := r112.toInt64) hx hb dX6_readCommand_115 rfl ?_
        refine W.lcmp hx hb dX6_readCommand_116 ?_
        refine lv_if_le (tgt := 123) hx hb dX6_readCommand_117 (by decide) (fun c117 => ?_) (fun c117 => ?_)
        · replace h := br_t' h c117
          refine lv_lload hx hb dX6_readCommand_123 (lv_at hl 0 rfl) ?_
          refine lv_l2i (v := r79.1.toInt32) hx hb dX6_readCommand_125 rfl ?_
          refine lv_istore (lv' := [(5, .int r79.1.toInt32), (8, .long r79.1), (7, .int r69), (0, .ref (a 0)), (1, .int x1), (4, .ref (cS.2.1 i4)), (6, .int x6)]) hx hb dX6_readCommand_126 hl (by decide) rfl (fun ls hl => ?_)
          refine lv_aload_n hx hb dX6_readCommand_128 rfl (lv_at hl 3 rfl) ?_
          refine lv_iload_n hx hb dX6_readCommand_129 rfl (lv_at hl 4 rfl) ?_
          refine lv_iload hx hb dX6_readCommand_130 (lv_at hl 6 rfl) ?_
          refine lv_iload hx hb dX6_readCommand_132 (lv_at hl 0 rfl) ?_
          obtain ⟨r134, q134, h⟩ := bd h
          refine k_callV (nC := 4) [oX6 a g_length g_commandCount r79.2, ar cI (a 1) 200 g_bytes, ar cI (a 2) 24 g_verbs, ar cI (a 3) 72 r134] C hl.1 (tX6_setNumber (a := a) q134) mL_X6_71 mmX6_setNumber rfl rfl ⟨Nat.le_of_ble_eq_true rfl, Nat.le_of_ble_eq_true rfl⟩ rfl rfl rfl rfl (Nat.le_of_ble_eq_true rfl) hA hw112 [0, 3] [1, 2] rfl (by decide +kernel) rfl rfl rfl rfl dX6_readCommand_134 (fun H locs hw134 => ?_)
          refine lv_iinc (v := (x6 + 1)) (lv' := [(6, .int (x6 + 1)), (5, .int r79.1.toInt32), (8, .long r79.1), (7, .int r69), (0, .ref (a 0)), (1, .int x1), (4, .ref (cS.2.1 i4))]) hx hb dX6_readCommand_137 hl (k := 6) rfl rfl (by decide) rfl (fun ls hl => ?_)
          refine lv_goto (tgt := 58) hx hb dX6_readCommand_140 (by decide) ?_
          exact ih _ _ _ _ _ _ _ hw134 (lv_sub hl [4, 5, 6, 1, 0] rfl) h
        · replace h := br_f' h c117
          refine lv_iload hx hb dX6_readCommand_120 (lv_at hl 1 rfl) ?_
          cases h
          exact k_iret C hw112 dX6_readCommand_122
def fX6_readCommand (g_bytes : Nat → Int32) (g_verbs : Nat → Int32) (g_numbers : Nat → Int32) (g_length : Int32) (g_at : Int32) (x1 : Int32) : Option (Int32 × (Nat → Int32) × (Nat → Int32) × Int32) :=
  (fX6_skipBlanks g_bytes g_length g_at).bind fun r1 =>
  (fX6_skipWord g_bytes g_length r1).bind fun r10 =>
  (fX6_verbFrom g_bytes r10 r1).bind fun r15 =>
  if r15 = (-1) then
    some (r1, g_verbs, g_numbers, r10)
  else
    if x1 < 0 then
      some (r1, g_verbs, g_numbers, r10)
    else
      if x1 < (nI 24) then
        (sv 24 g_verbs x1 r15).bind fun g45 =>
        (fX6_kindsOf r15).bind fun r47 =>
        fX6_readCommand_58 g_bytes g45 g_length x1 r47 FU (fun x5_58 x6_58 g_numbers_58 g_at_58 =>
          some ((-1), g45, g_numbers_58, g_at_58)) 0 0 g_numbers r10
      else
        some (r1, g_verbs, g_numbers, r10)
set_option maxRecDepth 100000 in
set_option maxHeartbeats 4000000 in
theorem tX6_readCommand {l : Launch} {D : va_G} {cI : ClassId} {cS : GS} {a : Nat → Nat} {g_bytes : Nat → Int32} {g_verbs : Nat → Int32} {g_numbers : Nat → Int32} {g_length : Int32} {g_commandCount : Int32} {g_at : Int32} {x1 : Int32} {s0 : Int32} {s1 : (Nat → Int32)} {s2 : (Nat → Int32)} {s3 : Int32} (h : fX6_readCommand g_bytes g_verbs g_numbers g_length g_at x1 = some (s0, s1, s2, s3)) : CT l D cI cS yX6_readCommand cX6_readCommand 10 (some .int) rmX6_readCommand [.ref (a 0), .int x1] [oX6 a g_length g_commandCount g_at, ar cI (a 1) 200 g_bytes, ar cI (a 2) 24 g_verbs, ar cI (a 3) 72 g_numbers] (some (.int s0)) [oX6 a g_length g_commandCount s3, ar cI (a 1) 200 g_bytes, ar cI (a 2) 24 s1, ar cI (a 3) 72 s2] := by
  refine CT.of RX6 (by decide) rfl (Nat.le_of_ble_eq_true rfl) (fun p e s m below meth c ls A C hA hl hw => ?_)
  have hx := C.1.1
  have hb := C.1.2.1
  have hl : lv_has ls 10 [(0, .ref (a 0)), (1, .int x1)] := hl
  unfold fX6_readCommand at h
  refine lv_aload_n hx hb dX6_readCommand_0 rfl (lv_at hl 0 rfl) ?_
  obtain ⟨r1, q1, h⟩ := bd h
  refine k_callV (nC := 4) [oX6 a g_length g_commandCount r1, ar cI (a 1) 200 g_bytes, ar cI (a 2) 24 g_verbs, ar cI (a 3) 72 g_numbers] C hl.1 (tX6_skipBlanks (a := a) q1) mL_X6_35 mmX6_skipBlanks rfl rfl ⟨Nat.le_of_ble_eq_true rfl, Nat.le_of_ble_eq_true rfl⟩ rfl rfl rfl rfl (Nat.le_of_ble_eq_true rfl) hA hw [0, 1] [2, 3] rfl (by decide +kernel) rfl rfl rfl rfl dX6_readCommand_1 (fun H locs hw1 => ?_)
  refine lv_aload_n hx hb dX6_readCommand_4 rfl (lv_at hl 0 rfl) ?_
  refine k_get C inT_X6 hw1 0 rfl rfl 5 (by decide) mF_X6_28 rfl dX6_readCommand_5 ?_
  refine lv_istore_n (lv' := [(2, .int r1), (0, .ref (a 0)), (1, .int x1)]) hx hb dX6_readCommand_8 rfl hl (by decide) rfl (fun ls hl => ?_)
  refine lv_aload_n hx hb dX6_readCommand_9 rfl (lv_at hl 1 rfl) ?_
  obtain ⟨r10, q10, h⟩ := bd h
  refine k_callV (nC := 4) [oX6 a g_length g_commandCount r10, ar cI (a 1) 200 g_bytes, ar cI (a 2) 24 g_verbs, ar cI (a 3) 72 g_numbers] C hl.1 (tX6_skipWord (a := a) q10) mL_X6_42 mmX6_skipWord rfl rfl ⟨Nat.le_of_ble_eq_true rfl, Nat.le_of_ble_eq_true rfl⟩ rfl rfl rfl rfl (Nat.le_of_ble_eq_true rfl) hA hw1 [0, 1] [2, 3] rfl (by decide +kernel) rfl rfl rfl rfl dX6_readCommand_10 (fun H locs hw10 => ?_)
  refine lv_aload_n hx hb dX6_readCommand_13 rfl (lv_at hl 1 rfl) ?_
  refine lv_iload_n hx hb dX6_readCommand_14 rfl (lv_at hl 0 rfl) ?_
  obtain ⟨r15, q15, h⟩ := bd h
  refine k_callV (nC := 4) [oX6 a g_length g_commandCount r10, ar cI (a 1) 200 g_bytes, ar cI (a 2) 24 g_verbs, ar cI (a 3) 72 g_numbers] C hl.1 (tX6_verbFrom (a := a) q15) mL_X6_45 mmX6_verbFrom rfl rfl ⟨Nat.le_of_ble_eq_true rfl, Nat.le_of_ble_eq_true rfl⟩ rfl rfl rfl rfl (Nat.le_of_ble_eq_true rfl) hA hw10 [0, 1] [2, 3] rfl (by decide +kernel) rfl rfl rfl rfl dX6_readCommand_15 (fun H locs hw15 => ?_)
  refine lv_istore_n (lv' := [(3, .int r15), (2, .int r1), (0, .ref (a 0)), (1, .int x1)]) hx hb dX6_readCommand_18 rfl hl (by decide) rfl (fun ls hl => ?_)
  refine lv_iload_n hx hb dX6_readCommand_19 rfl (lv_at hl 0 rfl) ?_
  refine lv_iconst (v := (-1)) hx hb dX6_readCommand_20 (by decide) ?_
  refine lv_icmp_eq (tgt := 37) hx hb dX6_readCommand_21 (by decide) (fun c21 => ?_) (fun c21 => ?_)
  · replace h := br_t' h c21
    refine lv_iload_n hx hb dX6_readCommand_37 rfl (lv_at hl 1 rfl) ?_
    cases h
    exact k_iret C hw15 dX6_readCommand_38
  · replace h := br_f' h c21
    refine lv_iload_n hx hb dX6_readCommand_24 rfl (lv_at hl 3 rfl) ?_
    refine lv_if_lt (tgt := 37) hx hb dX6_readCommand_25 (by decide) (fun c25 => ?_) (fun c25 => ?_)
    · replace h := br_t' h c25
      refine lv_iload_n hx hb dX6_readCommand_37 rfl (lv_at hl 1 rfl) ?_
      cases h
      exact k_iret C hw15 dX6_readCommand_38
    · replace h := br_f' h c25
      refine lv_iload_n hx hb dX6_readCommand_28 rfl (lv_at hl 3 rfl) ?_
      refine lv_aload_n hx hb dX6_readCommand_29 rfl (lv_at hl 2 rfl) ?_
      refine k_get C inT_X6 hw15 0 rfl rfl 1 (by decide) mF_X6_15 rfl dX6_readCommand_30 ?_
      refine k_alen C hw15 2 rfl dX6_readCommand_33 ?_
      refine lv_icmp_lt (tgt := 39) hx hb dX6_readCommand_34 (by decide) (fun c34 => ?_) (fun c34 => ?_)
      · replace h := br_t' h c34
        refine lv_aload_n hx hb dX6_readCommand_39 rfl (lv_at hl 2 rfl) ?_
        refine k_get C inT_X6 hw15 0 rfl rfl 1 (by decide) mF_X6_15 rfl dX6_readCommand_40 ?_
        refine lv_iload_n hx hb dX6_readCommand_43 rfl (lv_at hl 3 rfl) ?_
        refine lv_iload_n hx hb dX6_readCommand_44 rfl (lv_at hl 0 rfl) ?_
        obtain ⟨g45, q45, h⟩ := bd h
        refine k_iast C hw15 2 rfl q45 [oX6 a g_length g_commandCount r10, ar cI (a 1) 200 g_bytes, ar cI (a 2) 24 g45, ar cI (a 3) 72 g_numbers] rfl dX6_readCommand_45 (fun H locs hw45 => ?_)
        refine lv_iload_n hx hb dX6_readCommand_46 rfl (lv_at hl 0 rfl) ?_
        obtain ⟨r47, q47, h⟩ := bd h
        refine k_callS (nC := 4) [oX6 a g_length g_commandCount r10, ar cI (a 1) 200 g_bytes, ar cI (a 2) 24 g45, ar cI (a 3) 72 g_numbers] C hl.1 (tX6_kindsOf q47) mL_X6_48 mmX6_kindsOf rfl rfl ⟨Nat.le_of_ble_eq_true rfl, Nat.le_of_ble_eq_true rfl⟩ rfl rfl (Nat.le_of_ble_eq_true rfl) hA hw45 [] [0, 1, 2, 3] rfl (by decide +kernel) rfl rfl rfl rfl dX6_readCommand_47 (fun H locs hw47 => ?_)
        refine lv_astore (lv' := [(4, .ref (cS.2.1 r47)), (3, .int r15), (2, .int r1), (0, .ref (a 0)), (1, .int x1)]) hx hb dX6_readCommand_50 hl (by decide) rfl (fun ls hl => ?_)
        refine lv_iconst (v := 0) hx hb dX6_readCommand_52 (by decide) ?_
        refine lv_istore (lv' := [(5, .int 0), (4, .ref (cS.2.1 r47)), (3, .int r15), (2, .int r1), (0, .ref (a 0)), (1, .int x1)]) hx hb dX6_readCommand_53 hl (by decide) rfl (fun ls hl => ?_)
        refine lv_iconst (v := 0) hx hb dX6_readCommand_55 (by decide) ?_
        refine lv_istore (lv' := [(6, .int 0), (5, .int 0), (4, .ref (cS.2.1 r47)), (3, .int r15), (2, .int r1), (0, .ref (a 0)), (1, .int x1)]) hx hb dX6_readCommand_56 hl (by decide) rfl (fun ls hl => ?_)
        refine wX6_readCommand_58 C hA _ (fun x5_58 x6_58 g_numbers_58 g_at_58 H locs ls hw58x hl h => ?_) FU _ _ _ _ _ _ _ hw47 (lv_sub hl [5, 6, 2, 1, 0] rfl) h
        refine lv_iconst (v := (-1)) hx hb dX6_readCommand_143 (by decide) ?_
        cases h
        exact k_iret C hw58x dX6_readCommand_144
      · replace h := br_f' h c34
        refine lv_iload_n hx hb dX6_readCommand_37 rfl (lv_at hl 1 rfl) ?_
        cases h
        exact k_iret C hw15 dX6_readCommand_38
def rmX6_read : Room := { frames := 7, cells := 0, slots := 0, locals := 159 }
def fX6_read_12 (g_bytes : Nat → Int32) (g_length : Int32) : (n : Nat) → (k : Int32 → (Nat → Int32) → (Nat → Int32) → Int32 → Int32 → Option (Int32 × (Nat → Int32) × (Nat → Int32) × Int32 × Int32)) → Int32 → (Nat → Int32) → (Nat → Int32) → Int32 → Int32 → Option (Int32 × (Nat → Int32) × (Nat → Int32) × Int32 × Int32)
  | 0, _, _, _, _, _, _ => none
  | n + 1, k, x1, g_verbs, g_numbers, g_commandCount, g_at =>
    if 24 ≤ x1 then
      k x1 g_verbs g_numbers g_commandCount g_at
    else
      (fX6_readCommand g_bytes g_verbs g_numbers g_length g_at x1).bind fun r20 =>
      if r20.1 = (-1) then
        (fX6_skipBlanks g_bytes g_length r20.2.2.2).bind fun r39 =>
        if r39 < g_length then
          (fX6_byteHere g_bytes g_length r39).bind fun r56 =>
          if r56 = 59 then
            if (x1 + 1) = 24 then
              some (r39, r20.2.1, r20.2.2.1, (x1 + 1), r39)
            else
              fX6_read_12 g_bytes g_length n k (x1 + 1) r20.2.1 r20.2.2.1 (x1 + 1) (r39 + 1)
          else
            some (r39, r20.2.1, r20.2.2.1, (x1 + 1), r39)
        else
          some ((-1), r20.2.1, r20.2.2.1, (x1 + 1), r39)
      else
        some (r20.1, r20.2.1, r20.2.2.1, g_commandCount, r20.2.2.2)
set_option maxRecDepth 100000 in
set_option maxHeartbeats 4000000 in
theorem wX6_read_12 {p : Program} {l : Launch} {e : Env} {s : State} {m : MethodId} {args : Array Value} {below : List Frame} {meth : Method} {c : Code} {D : va_G} {cI : ClassId} {cS : GS} {A : Nat → Prop} {a : Nat → Nat} {g_bytes : Nat → Int32} {g_length : Int32} (C : MC p s m args meth c D cI cS A RX6 cX6_read 3 (some .int)) (hA : ∀ q, s.heap.size ≤ q → A q) {s0 : Int32} {s1 : (Nat → Int32)} {s2 : (Nat → Int32)} {s3 : Int32} {s4 : Int32} (k : Int32 → (Nat → Int32) → (Nat → Int32) → Int32 → Int32 → Option (Int32 × (Nat → Int32) × (Nat → Int32) × Int32 × Int32)) (hk : ∀ (x1 : Int32) (g_verbs : Nat → Int32) (g_numbers : Nat → Int32) (g_commandCount : Int32) (g_at : Int32) (H : Heap) (locs : List Loc) (ls : Array Slot), Wd D A s.heap H locs [oX6 a g_length g_commandCount g_at, ar cI (a 1) 200 g_bytes, ar cI (a 2) 24 g_verbs, ar cI (a 3) 72 g_numbers] → lv_has ls 3 [(0, .ref (a 0)), (1, .int x1)] → k x1 g_verbs g_numbers g_commandCount g_at = some (s0, s1, s2, s3, s4) → W p l e rmX6_read s m args below meth c H locs 0 0 (KQ D A below args s (some (.int s0)) [oX6 a g_length s3 s4, ar cI (a 1) 200 g_bytes, ar cI (a 2) 24 s1, ar cI (a 3) 72 s2]) (F0 m 94 ls [])) :
    ∀ (n : Nat) (x1 : Int32) (g_verbs : Nat → Int32) (g_numbers : Nat → Int32) (g_commandCount : Int32) (g_at : Int32) (H : Heap) (locs : List Loc) (ls : Array Slot), Wd D A s.heap H locs [oX6 a g_length g_commandCount g_at, ar cI (a 1) 200 g_bytes, ar cI (a 2) 24 g_verbs, ar cI (a 3) 72 g_numbers] → lv_has ls 3 [(0, .ref (a 0)), (1, .int x1)] → fX6_read_12 g_bytes g_length n k x1 g_verbs g_numbers g_commandCount g_at = some (s0, s1, s2, s3, s4) → W p l e rmX6_read s m args below meth c H locs 0 0 (KQ D A below args s (some (.int s0)) [oX6 a g_length s3 s4, ar cI (a 1) 200 g_bytes, ar cI (a 2) 24 s1, ar cI (a 3) 72 s2]) (F0 m 12 ls []) := by
  have hx := C.1.1
  have hb := C.1.2.1
  intro n
  induction n with
  | zero =>
    intro x1 g_verbs g_numbers g_commandCount g_at H locs ls hw hl h
    rw [fX6_read_12] at h
    cases h
  | succ n ih =>
    intro x1 g_verbs g_numbers g_commandCount g_at H locs ls hw hl h
    rw [fX6_read_12] at h
    refine lv_iload_n hx hb dX6_read_12 rfl (lv_at hl 1 rfl) ?_
    refine lv_bipush (v := 24) hx hb dX6_read_13 (by decide) ?_
    refine lv_icmp_ge (tgt := 94) hx hb dX6_read_15 (by decide) (fun c15 => ?_) (fun c15 => ?_)
    · replace h := br_t' h c15
      exact hk _ _ _ _ _ _ _ _ hw (lv_sub hl [0, 1] rfl) h
    · replace h := br_f' h c15
      refine lv_aload_n hx hb dX6_read_18 rfl (lv_at hl 0 rfl) ?_
      refine lv_iload_n hx hb dX6_read_19 rfl (lv_at hl 1 rfl) ?_
      obtain ⟨r20, q20, h⟩ := bd h
      refine k_callV (nC := 4) [oX6 a g_length g_commandCount r20.2.2.2, ar cI (a 1) 200 g_bytes, ar cI (a 2) 24 r20.2.1, ar cI (a 3) 72 r20.2.2.1] C hl.1 (tX6_readCommand (a := a) q20) mL_X6_31 mmX6_readCommand rfl rfl ⟨Nat.le_of_ble_eq_true rfl, Nat.le_of_ble_eq_true rfl⟩ rfl rfl rfl rfl (Nat.le_of_ble_eq_true rfl) hA hw [0, 1, 2, 3] [] rfl (by decide +kernel) rfl rfl rfl rfl dX6_read_20 (fun H locs hw20 => ?_)
      refine lv_istore_n (lv' := [(2, .int r20.1), (0, .ref (a 0)), (1, .int x1)]) hx hb dX6_read_23 rfl hl (by decide) rfl (fun ls hl => ?_)
      refine lv_iload_n hx hb dX6_read_24 rfl (lv_at hl 0 rfl) ?_
      refine lv_iconst (v := (-1)) hx hb dX6_read_25 (by decide) ?_
      refine lv_icmp_eq (tgt := 31) hx hb dX6_read_26 (by decide) (fun c26 => ?_) (fun c26 => ?_)
      · replace h := br_t' h c26
        refine lv_aload_n hx hb dX6_read_31 rfl (lv_at hl 1 rfl) ?_
        refine lv_iload_n hx hb dX6_read_32 rfl (lv_at hl 2 rfl) ?_
        refine lv_iconst (v := 1) hx hb dX6_read_33 (by decide) ?_
        refine lv_iadd hx hb dX6_read_34 ?_
        refine k_put C inT_X6 tyX6 tyX6_ok nmX6 hw20 0 rfl rfl 4 (by decide) mF_X6_25 rfl rfl (Nat.le_of_ble_eq_true rfl) [oX6 a g_length (x1 + 1) r20.2.2.2, ar cI (a 1) 200 g_bytes, ar cI (a 2) 24 r20.2.1, ar cI (a 3) 72 r20.2.2.1] rfl dX6_read_35 (fun H locs hw35 => ?_)
        refine lv_aload_n hx hb dX6_read_38 rfl (lv_at hl 1 rfl) ?_
        obtain ⟨r39, q39, h⟩ := bd h
        refine k_callV (nC := 4) [oX6 a g_length (x1 + 1) r39, ar cI (a 1) 200 g_bytes, ar cI (a 2) 24 r20.2.1, ar cI (a 3) 72 r20.2.2.1] C hl.1 (tX6_skipBlanks (a := a) q39) mL_X6_35 mmX6_skipBlanks rfl rfl ⟨Nat.le_of_ble_eq_true rfl, Nat.le_of_ble_eq_true rfl⟩ rfl rfl rfl rfl (Nat.le_of_ble_eq_true rfl) hA hw35 [0, 1] [2, 3] rfl (by decide +kernel) rfl rfl rfl rfl dX6_read_39 (fun H locs hw39 => ?_)
        refine lv_aload_n hx hb dX6_read_42 rfl (lv_at hl 1 rfl) ?_
        refine k_get C inT_X6 hw39 0 rfl rfl 5 (by decide) mF_X6_28 rfl dX6_read_43 ?_
        refine lv_aload_n hx hb dX6_read_46 rfl (lv_at hl 1 rfl) ?_
        refine k_get C inT_X6 hw39 0 rfl rfl 3 (by decide) mF_X6_21 rfl dX6_read_47 ?_
        refine lv_icmp_lt (tgt := 55) hx hb dX6_read_50 (by decide) (fun c50 => ?_) (fun c50 => ?_)
        · replace h := br_t' h c50
          refine lv_aload_n hx hb dX6_read_55 rfl (lv_at hl 1 rfl) ?_
          obtain ⟨r56, q56, h⟩ := bd h
          refine k_callV (nC := 4) [oX6 a g_length (x1 + 1) r39, ar cI (a 1) 200 g_bytes, ar cI (a 2) 24 r20.2.1, ar cI (a 3) 72 r20.2.2.1] C hl.1 (tX6_byteHere (a := a) q56) mL_X6_38 mmX6_byteHere rfl rfl ⟨Nat.le_of_ble_eq_true rfl, Nat.le_of_ble_eq_true rfl⟩ rfl rfl rfl rfl (Nat.le_of_ble_eq_true rfl) hA hw39 [0, 1] [2, 3] rfl (by decide +kernel) rfl rfl rfl rfl dX6_read_56 (fun H locs hw56 => ?_)
          refine lv_bipush (v := 59) hx hb dX6_read_59 (by decide) ?_
          refine lv_icmp_ne (tgt := 73) hx hb dX6_read_61 (by decide) (fun c61 => ?_) (fun c61 => ?_)
          · replace h := br_f' h c61
            refine lv_aload_n hx hb dX6_read_73 rfl (lv_at hl 1 rfl) ?_
            refine k_get C inT_X6 hw56 0 rfl rfl 5 (by decide) mF_X6_28 rfl dX6_read_74 ?_
            cases h
            exact k_iret C hw56 dX6_read_77
          · replace h := br_t' h c61
            refine lv_aload_n hx hb dX6_read_64 rfl (lv_at hl 1 rfl) ?_
            refine k_get C inT_X6 hw56 0 rfl rfl 4 (by decide) mF_X6_25 rfl dX6_read_65 ?_
            refine lv_bipush (v := 24) hx hb dX6_read_68 (by decide) ?_
            refine lv_icmp_ne (tgt := 78) hx hb dX6_read_70 (by decide) (fun c70 => ?_) (fun c70 => ?_)
            · replace h := br_f' h c70
              refine lv_aload_n hx hb dX6_read_78 rfl (lv_at hl 1 rfl) ?_
              refine lv_dup hx hb dX6_read_79 rfl ?_
              refine k_get C inT_X6 hw56 0 rfl rfl 5 (by decide) mF_X6_28 rfl dX6_read_80 ?_
              refine lv_iconst (v := 1) hx hb dX6_read_83 (by decide) ?_
              refine lv_iadd hx hb dX6_read_84 ?_
              refine k_put C inT_X6 tyX6 tyX6_ok nmX6 hw56 0 rfl rfl 5 (by decide) mF_X6_28 rfl rfl (Nat.le_of_ble_eq_true rfl) [oX6 a g_length (x1 + 1) (r39 + 1), ar cI (a 1) 200 g_bytes, ar cI (a 2) 24 r20.2.1, ar cI (a 3) 72 r20.2.2.1] rfl dX6_read_85 (fun H locs hw85 => ?_)
              refine lv_iinc (v := (x1 + 1)) (lv' := [(1, .int (x1 + 1)), (2, .int r20.1), (0, .ref (a 0))]) hx hb dX6_read_88 hl (k := 2) rfl rfl (by decide) rfl (fun ls hl => ?_)
              refine lv_goto (tgt := 12) hx hb dX6_read_91 (by decide) ?_
              exact ih _ _ _ _ _ _ _ _ hw85 (lv_sub hl [2, 0] rfl) h
            · replace h := br_t' h c70
              refine lv_aload_n hx hb dX6_read_73 rfl (lv_at hl 1 rfl) ?_
              refine k_get C inT_X6 hw56 0 rfl rfl 5 (by decide) mF_X6_28 rfl dX6_read_74 ?_
              cases h
              exact k_iret C hw56 dX6_read_77
        · replace h := br_f' h c50
          refine lv_iconst (v := (-1)) hx hb dX6_read_53 (by decide) ?_
          cases h
          exact k_iret C hw39 dX6_read_54
      · replace h := br_f' h c26
        refine lv_iload_n hx hb dX6_read_29 rfl (lv_at hl 0 rfl) ?_
        cases h
        exact k_iret C hw20 dX6_read_30
def fX6_read (g_bytes : Nat → Int32) (g_verbs : Nat → Int32) (g_numbers : Nat → Int32) (g_length : Int32) (g_commandCount : Int32) (g_at : Int32) : Option (Int32 × (Nat → Int32) × (Nat → Int32) × Int32 × Int32) :=
  fX6_read_12 g_bytes g_length FU (fun x1_12 g_verbs_12 g_numbers_12 g_commandCount_12 g_at_12 =>
    some (g_at_12, g_verbs_12, g_numbers_12, g_commandCount_12, g_at_12)) 0 g_verbs g_numbers 0 0
set_option maxRecDepth 100000 in
set_option maxHeartbeats 4000000 in
theorem tX6_read {l : Launch} {D : va_G} {cI : ClassId} {cS : GS} {a : Nat → Nat} {g_bytes : Nat → Int32} {g_verbs : Nat → Int32} {g_numbers : Nat → Int32} {g_length : Int32} {g_commandCount : Int32} {g_at : Int32}  {s0 : Int32} {s1 : (Nat → Int32)} {s2 : (Nat → Int32)} {s3 : Int32} {s4 : Int32} (h : fX6_read g_bytes g_verbs g_numbers g_length g_commandCount g_at = some (s0, s1, s2, s3, s4)) : CT l D cI cS yX6_read cX6_read 3 (some .int) rmX6_read [.ref (a 0)] [oX6 a g_length g_commandCount g_at, ar cI (a 1) 200 g_bytes, ar cI (a 2) 24 g_verbs, ar cI (a 3) 72 g_numbers] (some (.int s0)) [oX6 a g_length s3 s4, ar cI (a 1) 200 g_bytes, ar cI (a 2) 24 s1, ar cI (a 3) 72 s2] := by
  refine CT.of RX6 (by decide) rfl (Nat.le_of_ble_eq_true rfl) (fun p e s m below meth c ls A C hA hl hw => ?_)
  have hx := C.1.1
  have hb := C.1.2.1
  have hl : lv_has ls 3 [(0, .ref (a 0))] := hl
  unfold fX6_read at h
  refine lv_aload_n hx hb dX6_read_0 rfl (lv_at hl 0 rfl) ?_
  refine lv_iconst (v := 0) hx hb dX6_read_1 (by decide) ?_
  refine k_put C inT_X6 tyX6 tyX6_ok nmX6 hw 0 rfl rfl 5 (by decide) mF_X6_28 rfl rfl (Nat.le_of_ble_eq_true rfl) [oX6 a g_length g_commandCount 0, ar cI (a 1) 200 g_bytes, ar cI (a 2) 24 g_verbs, ar cI (a 3) 72 g_numbers] rfl dX6_read_2 (fun H locs hw2 => ?_)
  refine lv_aload_n hx hb dX6_read_5 rfl (lv_at hl 0 rfl) ?_
  refine lv_iconst (v := 0) hx hb dX6_read_6 (by decide) ?_
  refine k_put C inT_X6 tyX6 tyX6_ok nmX6 hw2 0 rfl rfl 4 (by decide) mF_X6_25 rfl rfl (Nat.le_of_ble_eq_true rfl) [oX6 a g_length 0 0, ar cI (a 1) 200 g_bytes, ar cI (a 2) 24 g_verbs, ar cI (a 3) 72 g_numbers] rfl dX6_read_7 (fun H locs hw7 => ?_)
  refine lv_iconst (v := 0) hx hb dX6_read_10 (by decide) ?_
  refine lv_istore_n (lv' := [(1, .int 0), (0, .ref (a 0))]) hx hb dX6_read_11 rfl hl (by decide) rfl (fun ls hl => ?_)
  refine wX6_read_12 C hA _ (fun x1_12 g_verbs_12 g_numbers_12 g_commandCount_12 g_at_12 H locs ls hw12x hl h => ?_) FU _ _ _ _ _ _ _ _ hw7 (lv_sub hl [1, 0] rfl) h
  refine lv_aload_n hx hb dX6_read_94 rfl (lv_at hl 0 rfl) ?_
  refine k_get C inT_X6 hw12x 0 rfl rfl 5 (by decide) mF_X6_28 rfl dX6_read_95 ?_
  cases h
  exact k_iret C hw12x dX6_read_98
def rmX1_steps : Room := { frames := 0, cells := 0, slots := 0, locals := 0 }
def fX1_steps (g_steps : Int32) : Option (Int32) :=
  some g_steps
set_option maxRecDepth 100000 in
set_option maxHeartbeats 4000000 in
theorem tX1_steps {l : Launch} {D : va_G} {cI : ClassId} {cS : GS} {a : Nat → Nat} {g_top : Int32} {g_steps : Int32}  {s0 : Int32} (h : fX1_steps g_steps = some s0) : CT l D cI cS yX1_steps cX1_steps 1 (some .int) rmX1_steps [.ref (a 0)] [oX1 a g_top g_steps] (some (.int s0)) [oX1 a g_top g_steps] := by
  refine CT.of RX1 (by decide) rfl (Nat.le_of_ble_eq_true rfl) (fun p e s m below meth c ls A C hA hl hw => ?_)
  have hx := C.1.1
  have hb := C.1.2.1
  have hl : lv_has ls 1 [(0, .ref (a 0))] := hl
  unfold fX1_steps at h
  refine lv_aload_n hx hb dX1_steps_0 rfl (lv_at hl 0 rfl) ?_
  refine k_get C inT_X1 hw 0 rfl rfl 2 (by decide) mF_X1_22 rfl dX1_steps_1 ?_
  cases h
  exact k_iret C hw dX1_steps_4
def rmX1_forget : Room := { frames := 0, cells := 0, slots := 0, locals := 0 }
def fX1_forget (g_steps : Int32) : Option (Int32) :=
  some 0
set_option maxRecDepth 100000 in
set_option maxHeartbeats 4000000 in
theorem tX1_forget {l : Launch} {D : va_G} {cI : ClassId} {cS : GS} {a : Nat → Nat} {g_top : Int32} {g_steps : Int32}  {s0 : Int32} (h : fX1_forget g_steps = some s0) : CT l D cI cS yX1_forget cX1_forget 1 none rmX1_forget [.ref (a 0)] [oX1 a g_top g_steps] none [oX1 a g_top s0] := by
  refine CT.of RX1 (by decide) rfl (Nat.le_of_ble_eq_true rfl) (fun p e s m below meth c ls A C hA hl hw => ?_)
  have hx := C.1.1
  have hb := C.1.2.1
  have hl : lv_has ls 1 [(0, .ref (a 0))] := hl
  unfold fX1_forget at h
  refine lv_aload_n hx hb dX1_forget_0 rfl (lv_at hl 0 rfl) ?_
  refine lv_iconst (v := 0) hx hb dX1_forget_1 (by decide) ?_
  refine k_put C inT_X1 tyX1 tyX1_ok nmX1 hw 0 rfl rfl 2 (by decide) mF_X1_22 rfl rfl (Nat.le_of_ble_eq_true rfl) [oX1 a g_top 0] rfl dX1_forget_2 (fun H locs hw2 => ?_)
  cases h
  exact k_vret C hw2 dX1_forget_5
def rmX1_keep : Room := { frames := 1, cells := 0, slots := 0, locals := 26 }
def fX1_keep (g_top : Int32) (g_steps : Int32) : Option (Int32 × Int32) :=
  if 8 ≤ g_top then
    some (0, (imin (g_steps + 1) 8))
  else
    some ((g_top + 1), (imin (g_steps + 1) 8))
set_option maxRecDepth 100000 in
set_option maxHeartbeats 4000000 in
theorem tX1_keep {l : Launch} {D : va_G} {cI : ClassId} {cS : GS} {a : Nat → Nat} {g_top : Int32} {g_steps : Int32}  {s0 : Int32} {s1 : Int32} (h : fX1_keep g_top g_steps = some (s0, s1)) : CT l D cI cS yX1_keep cX1_keep 1 none rmX1_keep [.ref (a 0)] [oX1 a g_top g_steps] none [oX1 a s0 s1] := by
  refine CT.of RX1 (by decide) rfl (Nat.le_of_ble_eq_true rfl) (fun p e s m below meth c ls A C hA hl hw => ?_)
  have hx := C.1.1
  have hb := C.1.2.1
  have hl : lv_has ls 1 [(0, .ref (a 0))] := hl
  unfold fX1_keep at h
  refine lv_aload_n hx hb dX1_keep_0 rfl (lv_at hl 0 rfl) ?_
  refine lv_aload_n hx hb dX1_keep_1 rfl (lv_at hl 0 rfl) ?_
  refine k_get C inT_X1 hw 0 rfl rfl 1 (by decide) mF_X1_18 rfl dX1_keep_2 ?_
  refine lv_bipush (v := 8) hx hb dX1_keep_5 (by decide) ?_
  refine lv_icmp_ge (tgt := 19) hx hb dX1_keep_7 (by decide) (fun c7 => ?_) (fun c7 => ?_)
  · replace h := br_t' h c7
    refine lv_iconst (v := 0) hx hb dX1_keep_19 (by decide) ?_
    refine k_put C inT_X1 tyX1 tyX1_ok nmX1 hw 0 rfl rfl 1 (by decide) mF_X1_18 rfl rfl (Nat.le_of_ble_eq_true rfl) [oX1 a 0 g_steps] rfl dX1_keep_20 (fun H locs hw20 => ?_)
    refine lv_aload_n hx hb dX1_keep_23 rfl (lv_at hl 0 rfl) ?_
    refine lv_aload_n hx hb dX1_keep_24 rfl (lv_at hl 0 rfl) ?_
    refine k_get C inT_X1 hw20 0 rfl rfl 2 (by decide) mF_X1_22 rfl dX1_keep_25 ?_
    refine lv_iconst (v := 1) hx hb dX1_keep_28 (by decide) ?_
    refine lv_iadd hx hb dX1_keep_29 ?_
    refine lv_bipush (v := 8) hx hb dX1_keep_30 (by decide) ?_
    refine k_mmin C hl.1 mL_X1_38 mm_min (Nat.le_of_ble_eq_true rfl) (Nat.le_of_ble_eq_true rfl) dX1_keep_32 ?_
    refine k_put C inT_X1 tyX1 tyX1_ok nmX1 hw20 0 rfl rfl 2 (by decide) mF_X1_22 rfl rfl (Nat.le_of_ble_eq_true rfl) [oX1 a 0 (imin (g_steps + 1) 8)] rfl dX1_keep_35 (fun H locs hw35 => ?_)
    cases h
    exact k_vret C hw35 dX1_keep_38
  · replace h := br_f' h c7
    refine lv_aload_n hx hb dX1_keep_10 rfl (lv_at hl 0 rfl) ?_
    refine k_get C inT_X1 hw 0 rfl rfl 1 (by decide) mF_X1_18 rfl dX1_keep_11 ?_
    refine lv_iconst (v := 1) hx hb dX1_keep_14 (by decide) ?_
    refine lv_iadd hx hb dX1_keep_15 ?_
    refine lv_goto (tgt := 20) hx hb dX1_keep_16 (by decide) ?_
    refine k_put C inT_X1 tyX1 tyX1_ok nmX1 hw 0 rfl rfl 1 (by decide) mF_X1_18 rfl rfl (Nat.le_of_ble_eq_true rfl) [oX1 a (g_top + 1) g_steps] rfl dX1_keep_20 (fun H locs hw20 => ?_)
    refine lv_aload_n hx hb dX1_keep_23 rfl (lv_at hl 0 rfl) ?_
    refine lv_aload_n hx hb dX1_keep_24 rfl (lv_at hl 0 rfl) ?_
    refine k_get C inT_X1 hw20 0 rfl rfl 2 (by decide) mF_X1_22 rfl dX1_keep_25 ?_
    refine lv_iconst (v := 1) hx hb dX1_keep_28 (by decide) ?_
    refine lv_iadd hx hb dX1_keep_29 ?_
    refine lv_bipush (v := 8) hx hb dX1_keep_30 (by decide) ?_
    refine k_mmin C hl.1 mL_X1_38 mm_min (Nat.le_of_ble_eq_true rfl) (Nat.le_of_ble_eq_true rfl) dX1_keep_32 ?_
    refine k_put C inT_X1 tyX1 tyX1_ok nmX1 hw20 0 rfl rfl 2 (by decide) mF_X1_22 rfl rfl (Nat.le_of_ble_eq_true rfl) [oX1 a (g_top + 1) (imin (g_steps + 1) 8)] rfl dX1_keep_35 (fun H locs hw35 => ?_)
    cases h
    exact k_vret C hw35 dX1_keep_38
