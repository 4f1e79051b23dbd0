def rmX8_begins : Room := { frames := 0, cells := 0, slots := 0, locals := 0 }
def fX8_begins_2  : (n : Nat) → (k : Int32 → (Nat → Int32) → Option ((Nat → Int32) × Int32 × Int32)) → Int32 → (Nat → Int32) → Option ((Nat → Int32) × Int32 × Int32)
  | 0, _, _, _ => none
  | n + 1, k, x1, g_row =>
    if 562 ≤ x1 then
      k x1 g_row
    else
      (sv 5058 g_row x1 0).bind fun g15 =>
      fX8_begins_2 n k (x1 + 1) g15
set_option maxRecDepth 100000 in
set_option maxHeartbeats 4000000 in
theorem wX8_begins_2 {p : Program} {l : Launch} {e : Env} {s : State} {m : MethodId} {args : Array Value} {below : List Frame} {meth : Method} {c : Code} {D : va_G} {cI : ClassId} {cS : GS} {A : Nat → Prop} {a : Nat → Nat} {g_undos : Int32} {g_listed : Int32} {g_papers : Int32} {g_length : Int32} {g_besides : Int32} {g_gapFirst : Int32} {g_gapLast : Int32} {g_layings : Int32} {g_first : Int32} {g_behind : Int32} {g_clauses : Int32} {g_drafts : Int32} (C : MC p s m args meth c D cI cS A RX8 cX8_begins 2 none) (hA : ∀ q, s.heap.size ≤ q → A q) {s0 : (Nat → Int32)} {s1 : Int32} {s2 : Int32} (k : Int32 → (Nat → Int32) → Option ((Nat → Int32) × Int32 × Int32)) (hk : ∀ (x1 : Int32) (g_row : Nat → Int32) (H : Heap) (locs : List Loc) (ls : Array Slot), Wd D A s.heap H locs [oX8 a g_undos g_listed g_papers g_length g_besides g_gapFirst g_gapLast g_layings g_first g_behind g_clauses g_drafts, ar cI (a 1) 5058 g_row] → lv_has ls 2 [(0, .ref (a 0)), (1, .int x1)] → k x1 g_row = some (s0, s1, s2) → W p l e rmX8_begins s m args below meth c H locs 0 0 (KQ D A below args s none [oX8 a g_undos s1 s2 g_length g_besides g_gapFirst g_gapLast g_layings g_first g_behind g_clauses g_drafts, ar cI (a 1) 5058 s0]) (F0 m 22 ls [])) :
    ∀ (n : Nat) (x1 : Int32) (g_row : Nat → Int32) (H : Heap) (locs : List Loc) (ls : Array Slot), Wd D A s.heap H locs [oX8 a g_undos g_listed g_papers g_length g_besides g_gapFirst g_gapLast g_layings g_first g_behind g_clauses g_drafts, ar cI (a 1) 5058 g_row] → lv_has ls 2 [(0, .ref (a 0)), (1, .int x1)] → fX8_begins_2  n k x1 g_row = some (s0, s1, s2) → W p l e rmX8_begins s m args below meth c H locs 0 0 (KQ D A below args s none [oX8 a g_undos s1 s2 g_length g_besides g_gapFirst g_gapLast g_layings g_first g_behind g_clauses g_drafts, ar cI (a 1) 5058 s0]) (F0 m 2 ls []) := by
  have hx := C.1.1
  have hb := C.1.2.1
  intro n
  induction n with
  | zero =>
    intro x1 g_row H locs ls hw hl h
    rw [fX8_begins_2] at h
    cases h
  | succ n ih =>
    intro x1 g_row H locs ls hw hl h
    rw [fX8_begins_2] at h
    refine lv_iload_n hx hb dX8_begins_2 rfl (lv_at hl 1 rfl) ?_
    refine lv_sipush (v := 562) hx hb dX8_begins_3 (by decide) ?_
    refine lv_icmp_ge (tgt := 22) hx hb dX8_begins_6 (by decide) (fun c6 => ?_) (fun c6 => ?_)
    · replace h := br_t' h c6
      exact hk _ _ _ _ _ hw (lv_sub hl [0, 1] rfl) h
    · replace h := br_f' h c6
      refine lv_aload_n hx hb dX8_begins_9 rfl (lv_at hl 0 rfl) ?_
      refine k_get C inT_X8 hw 0 rfl rfl 0 (by decide) mF_X8_7 rfl dX8_begins_10 ?_
      refine lv_iload_n hx hb dX8_begins_13 rfl (lv_at hl 1 rfl) ?_
      refine lv_iconst (v := 0) hx hb dX8_begins_14 (by decide) ?_
      obtain ⟨g15, q15, h⟩ := bd h
      refine k_iast C hw 1 rfl q15 [oX8 a g_undos g_listed g_papers g_length g_besides g_gapFirst g_gapLast g_layings g_first g_behind g_clauses g_drafts, ar cI (a 1) 5058 g15] rfl dX8_begins_15 (fun H locs hw15 => ?_)
      refine lv_iinc (v := (x1 + 1)) (lv' := [(1, .int (x1 + 1)), (0, .ref (a 0))]) hx hb dX8_begins_16 hl (k := 1) rfl rfl (by decide) rfl (fun ls hl => ?_)
      refine lv_goto (tgt := 2) hx hb dX8_begins_19 (by decide) ?_
      exact ih _ _ _ _ _ hw15 (lv_sub hl [1, 0] rfl) h
def fX8_begins (g_row : Nat → Int32) (g_listed : Int32) (g_papers : Int32) : Option ((Nat → Int32) × Int32 × Int32) :=
  fX8_begins_2  FU (fun x1_2 g_row_2 =>
    some (g_row_2, 0, 0)) 0 g_row
set_option maxRecDepth 100000 in
set_option maxHeartbeats 4000000 in
theorem tX8_begins {l : Launch} {D : va_G} {cI : ClassId} {cS : GS} {a : Nat → Nat} {g_row : Nat → Int32} {g_undos : Int32} {g_listed : Int32} {g_papers : Int32} {g_length : Int32} {g_besides : Int32} {g_gapFirst : Int32} {g_gapLast : Int32} {g_layings : Int32} {g_first : Int32} {g_behind : Int32} {g_clauses : Int32} {g_drafts : Int32}  {s0 : (Nat → Int32)} {s1 : Int32} {s2 : Int32} (h : fX8_begins g_row g_listed g_papers = some (s0, s1, s2)) : CT l D cI cS yX8_begins cX8_begins 2 none rmX8_begins [.ref (a 0)] [oX8 a g_undos g_listed g_papers g_length g_besides g_gapFirst g_gapLast g_layings g_first g_behind g_clauses g_drafts, ar cI (a 1) 5058 g_row] none [oX8 a g_undos s1 s2 g_length g_besides g_gapFirst g_gapLast g_layings g_first g_behind g_clauses g_drafts, ar cI (a 1) 5058 s0] := by
  refine CT.of RX8 (by decide) rfl (Nat.le_of_ble_eq_true rfl) (fun p e s m below meth c ls A C hA hl hw => ?_)
  have hx := C.1.1
  have hb := C.1.2.1
  have hl : lv_has ls 2 [(0, .ref (a 0))] := hl
  unfold fX8_begins at h
  refine lv_iconst (v := 0) hx hb dX8_begins_0 (by decide) ?_
  refine lv_istore_n (lv' := [(1, .int 0), (0, .ref (a 0))]) hx hb dX8_begins_1 rfl hl (by decide) rfl (fun ls hl => ?_)
  refine wX8_begins_2 C hA _ (fun x1_2 g_row_2 H locs ls hw2x hl h => ?_) FU _ _ _ _ _ hw (lv_sub hl [1, 0] rfl) h
  refine lv_aload_n hx hb dX8_begins_22 rfl (lv_at hl 0 rfl) ?_
  refine lv_iconst (v := 0) hx hb dX8_begins_23 (by decide) ?_
  refine k_put C inT_X8 tyX8 tyX8_ok nmX8 hw2x 0 rfl rfl 3 (by decide) mF_X8_49 rfl rfl (Nat.le_of_ble_eq_true rfl) [oX8 a g_undos 0 g_papers g_length g_besides g_gapFirst g_gapLast g_layings g_first g_behind g_clauses g_drafts, ar cI (a 1) 5058 g_row_2] rfl dX8_begins_24 (fun H locs hw24 => ?_)
  refine lv_aload_n hx hb dX8_begins_27 rfl (lv_at hl 0 rfl) ?_
  refine lv_iconst (v := 0) hx hb dX8_begins_28 (by decide) ?_
  refine k_put C inT_X8 tyX8 tyX8_ok nmX8 hw24 0 rfl rfl 5 (by decide) mF_X8_53 rfl rfl (Nat.le_of_ble_eq_true rfl) [oX8 a g_undos 0 0 g_length g_besides g_gapFirst g_gapLast g_layings g_first g_behind g_clauses g_drafts, ar cI (a 1) 5058 g_row_2] rfl dX8_begins_29 (fun H locs hw29 => ?_)
  cases h
  exact k_vret C hw29 dX8_begins_32
def rmX8_in : Room := { frames := 0, cells := 0, slots := 0, locals := 0 }
def fX8_in (x0 : Int64) (x2 : Int64) (x4 : Int64) : Option (Int32) :=
  if (lg_cmp x0 x2) < 0 then
    some 0
  else
    if 0 < (lg_cmp x0 x4) then
      some 0
    else
      some 1
set_option maxRecDepth 100000 in
set_option maxHeartbeats 4000000 in
theorem tX8_in {l : Launch} {D : va_G} {cI : ClassId} {cS : GS}  {x0 : Int64} {x2 : Int64} {x4 : Int64} {s0 : Int32} (h : fX8_in x0 x2 x4 = some s0) : CT l D cI cS yX8_in cX8_in 6 (some .boolean) rmX8_in [.long x0, .long x2, .long x4] [] (some (.int s0)) [] := by
  refine CT.of RX8 (by decide) rfl (Nat.le_of_ble_eq_true rfl) (fun p e s m below meth c ls A C hA hl hw => ?_)
  have hx := C.1.1
  have hb := C.1.2.1
  have hl : lv_has ls 6 [(0, .long x0), (2, .long x2), (4, .long x4)] := hl
  unfold fX8_in at h
  refine lv_lload_n hx hb dX8_in_0 rfl (lv_at hl 0 rfl) ?_
  refine lv_lload_n hx hb dX8_in_1 rfl (lv_at hl 1 rfl) ?_
  refine W.lcmp hx hb dX8_in_2 ?_
  refine lv_if_lt (tgt := 17) hx hb dX8_in_3 (by decide) (fun c3 => ?_) (fun c3 => ?_)
  · replace h := br_t' h c3
    refine lv_iconst (v := 0) hx hb dX8_in_17 (by decide) ?_
    cases h
    exact k_zret (v := 0) C rfl hw dX8_in_18
  · replace h := br_f' h c3
    refine lv_lload_n hx hb dX8_in_6 rfl (lv_at hl 0 rfl) ?_
    refine lv_lload hx hb dX8_in_7 (lv_at hl 2 rfl) ?_
    refine W.lcmp hx hb dX8_in_9 ?_
    refine lv_if_gt (tgt := 17) hx hb dX8_in_10 (by decide) (fun c10 => ?_) (fun c10 => ?_)
    · replace h := br_t' h c10
      refine lv_iconst (v := 0) hx hb dX8_in_17 (by decide) ?_
      cases h
      exact k_zret (v := 0) C rfl hw dX8_in_18
    · replace h := br_f' h c10
      refine lv_iconst (v := 1) hx hb dX8_in_13 (by decide) ?_
      refine lv_goto (tgt := 18) hx hb dX8_in_14 (by decide) ?_
      cases h
      exact k_zret (v := 1) C rfl hw dX8_in_18
def rmX8_isRange : Room := { frames := 1, cells := 0, slots := 0, locals := 25 }
def fX8_isRange (x0 : Int32) (x1 : Int32) : Option (Int32) :=
  (fX8_in x0.toInt64 1 2000000000).bind fun r6 =>
  if r6 = 0 then
    some 0
  else
    (fX8_in x1.toInt64 x0.toInt64 2000000000).bind fun r19 =>
    if r19 = 0 then
      some 0
    else
      some 1
set_option maxRecDepth 100000 in
set_option maxHeartbeats 4000000 in
theorem tX8_isRange {l : Launch} {D : va_G} {cI : ClassId} {cS : GS}  {x0 : Int32} {x1 : Int32} {s0 : Int32} (h : fX8_isRange x0 x1 = some s0) : CT l D cI cS yX8_isRange cX8_isRange 2 (some .boolean) rmX8_isRange [.int x0, .int x1] [] (some (.int s0)) [] := by
  refine CT.of RX8 (by decide) rfl (Nat.le_of_ble_eq_true rfl) (fun p e s m below meth c ls A C hA hl hw => ?_)
  have hx := C.1.1
  have hb := C.1.2.1
  have hl : lv_has ls 2 [(0, .int x0), (1, .int x1)] := hl
  unfold fX8_isRange at h
  refine lv_iload_n hx hb dX8_isRange_0 rfl (lv_at hl 0 rfl) ?_
  refine lv_i2l (v := x0.toInt64) hx hb dX8_isRange_1 rfl ?_
  refine lv_lconst (v := 1) hx hb dX8_isRange_2 (by decide) ?_
  refine k_ldc2 C mD_X8_56 dX8_isRange_3 ?_
  obtain ⟨r6, q6, h⟩ := bd h
  refine k_callS (nC := 0) [] C hl.1 (tX8_in q6) mL_X8_58 mmX8_in rfl rfl ⟨Nat.le_of_ble_eq_true rfl, Nat.le_of_ble_eq_true rfl⟩ rfl rfl (Nat.le_of_ble_eq_true rfl) hA hw [] [] rfl (by decide +kernel) rfl rfl rfl rfl dX8_isRange_6 (fun H locs hw6 => ?_)
  refine lv_if_eq (tgt := 29) hx hb dX8_isRange_9 (by decide) (fun c9 => ?_) (fun c9 => ?_)
  · replace h := br_t' h c9
    refine lv_iconst (v := 0) hx hb dX8_isRange_29 (by decide) ?_
    cases h
    exact k_zret (v := 0) C rfl hw6 dX8_isRange_30
  · replace h := br_f' h c9
    refine lv_iload_n hx hb dX8_isRange_12 rfl (lv_at hl 1 rfl) ?_
    refine lv_i2l (v := x1.toInt64) hx hb dX8_isRange_13 rfl ?_
    refine lv_iload_n hx hb dX8_isRange_14 rfl (lv_at hl 0 rfl) ?_
    refine lv_i2l (v := x0.toInt64) hx hb dX8_isRange_15 rfl ?_
    refine k_ldc2 C mD_X8_56 dX8_isRange_16 ?_
    obtain ⟨r19, q19, h⟩ := bd h
    refine k_callS (nC := 0) [] C hl.1 (tX8_in q19) mL_X8_58 mmX8_in rfl rfl ⟨Nat.le_of_ble_eq_true rfl, Nat.le_of_ble_eq_true rfl⟩ rfl rfl (Nat.le_of_ble_eq_true rfl) hA hw6 [] [] rfl (by decide +kernel) rfl rfl rfl rfl dX8_isRange_19 (fun H locs hw19 => ?_)
    refine lv_if_eq (tgt := 29) hx hb dX8_isRange_22 (by decide) (fun c22 => ?_) (fun c22 => ?_)
    · replace h := br_t' h c22
      refine lv_iconst (v := 0) hx hb dX8_isRange_29 (by decide) ?_
      cases h
      exact k_zret (v := 0) C rfl hw19 dX8_isRange_30
    · replace h := br_f' h c22
      refine lv_iconst (v := 1) hx hb dX8_isRange_25 (by decide) ?_
      refine lv_goto (tgt := 30) hx hb dX8_isRange_26 (by decide) ?_
      cases h
      exact k_zret (v := 1) C rfl hw19 dX8_isRange_30
def rmX8_isSheet : Room := { frames := 1, cells := 0, slots := 0, locals := 25 }
def fX8_isSheet (x0 : Int32) : Option (Int32) :=
  (fX8_in x0.toInt64 1 2000000000).bind fun r6 =>
  (bz r6).bind fun b9 =>
  some b9
set_option maxRecDepth 100000 in
set_option maxHeartbeats 4000000 in
theorem tX8_isSheet {l : Launch} {D : va_G} {cI : ClassId} {cS : GS}  {x0 : Int32} {s0 : Int32} (h : fX8_isSheet x0 = some s0) : CT l D cI cS yX8_isSheet cX8_isSheet 1 (some .boolean) rmX8_isSheet [.int x0] [] (some (.int s0)) [] := by
  refine CT.of RX8 (by decide) rfl (Nat.le_of_ble_eq_true rfl) (fun p e s m below meth c ls A C hA hl hw => ?_)
  have hx := C.1.1
  have hb := C.1.2.1
  have hl : lv_has ls 1 [(0, .int x0)] := hl
  unfold fX8_isSheet at h
  refine lv_iload_n hx hb dX8_isSheet_0 rfl (lv_at hl 0 rfl) ?_
  refine lv_i2l (v := x0.toInt64) hx hb dX8_isSheet_1 rfl ?_
  refine lv_lconst (v := 1) hx hb dX8_isSheet_2 (by decide) ?_
  refine k_ldc2 C mD_X8_56 dX8_isSheet_3 ?_
  obtain ⟨r6, q6, h⟩ := bd h
  refine k_callS (nC := 0) [] C hl.1 (tX8_in q6) mL_X8_58 mmX8_in rfl rfl ⟨Nat.le_of_ble_eq_true rfl, Nat.le_of_ble_eq_true rfl⟩ rfl rfl (Nat.le_of_ble_eq_true rfl) hA hw [] [] rfl (by decide +kernel) rfl rfl rfl rfl dX8_isSheet_6 (fun H locs hw6 => ?_)
  obtain ⟨b9, q9, h⟩ := bd h
  cases h
  exact k_zretb C q9 hw6 dX8_isSheet_9
def rmX8_isBox : Room := { frames := 1, cells := 0, slots := 0, locals := 25 }
def fX8_isBox (x0 : Int32) : Option (Int32) :=
  (fX8_in x0.toInt64 0 7).bind fun r6 =>
  (bz r6).bind fun b9 =>
  some b9
set_option maxRecDepth 100000 in
set_option maxHeartbeats 4000000 in
theorem tX8_isBox {l : Launch} {D : va_G} {cI : ClassId} {cS : GS}  {x0 : Int32} {s0 : Int32} (h : fX8_isBox x0 = some s0) : CT l D cI cS yX8_isBox cX8_isBox 1 (some .boolean) rmX8_isBox [.int x0] [] (some (.int s0)) [] := by
  refine CT.of RX8 (by decide) rfl (Nat.le_of_ble_eq_true rfl) (fun p e s m below meth c ls A C hA hl hw => ?_)
  have hx := C.1.1
  have hb := C.1.2.1
  have hl : lv_has ls 1 [(0, .int x0)] := hl
  unfold fX8_isBox at h
  refine lv_iload_n hx hb dX8_isBox_0 rfl (lv_at hl 0 rfl) ?_
  refine lv_i2l (v := x0.toInt64) hx hb dX8_isBox_1 rfl ?_
  refine lv_lconst (v := 0) hx hb dX8_isBox_2 (by decide) ?_
  refine k_ldc2 C mD_X8_62 dX8_isBox_3 ?_
  obtain ⟨r6, q6, h⟩ := bd h
  refine k_callS (nC := 0) [] C hl.1 (tX8_in q6) mL_X8_58 mmX8_in rfl rfl ⟨Nat.le_of_ble_eq_true rfl, Nat.le_of_ble_eq_true rfl⟩ rfl rfl (Nat.le_of_ble_eq_true rfl) hA hw [] [] rfl (by decide +kernel) rfl rfl rfl rfl dX8_isBox_6 (fun H locs hw6 => ?_)
  obtain ⟨b9, q9, h⟩ := bd h
  cases h
  exact k_zretb C q9 hw6 dX8_isBox_9
def rmX8_isSeries : Room := { frames := 1, cells := 0, slots := 0, locals := 25 }
def fX8_isSeries (g_row : Nat → Int32) (x1 : Int32) : Option (Int32) :=
  (ld 5058 g_row 0).bind fun y8 =>
  (fX8_in x1.toInt64 0 ((y8 - 1).toInt64)).bind fun r12 =>
  (bz r12).bind fun b15 =>
  some b15
set_option maxRecDepth 100000 in
set_option maxHeartbeats 4000000 in
theorem tX8_isSeries {l : Launch} {D : va_G} {cI : ClassId} {cS : GS} {a : Nat → Nat} {g_row : Nat → Int32} {g_undos : Int32} {g_listed : Int32} {g_papers : Int32} {g_length : Int32} {g_besides : Int32} {g_gapFirst : Int32} {g_gapLast : Int32} {g_layings : Int32} {g_first : Int32} {g_behind : Int32} {g_clauses : Int32} {g_drafts : Int32} {x1 : Int32} {s0 : Int32} (h : fX8_isSeries g_row x1 = some s0) : CT l D cI cS yX8_isSeries cX8_isSeries 2 (some .boolean) rmX8_isSeries [.ref (a 0), .int x1] [oX8 a g_undos g_listed g_papers g_length g_besides g_gapFirst g_gapLast g_layings g_first g_behind g_clauses g_drafts, ar cI (a 1) 5058 g_row] (some (.int s0)) [oX8 a g_undos g_listed g_papers g_length g_besides g_gapFirst g_gapLast g_layings g_first g_behind g_clauses g_drafts, ar cI (a 1) 5058 g_row] := by
  refine CT.of RX8 (by decide) rfl (Nat.le_of_ble_eq_true rfl) (fun p e s m below meth c ls A C hA hl hw => ?_)
  have hx := C.1.1
  have hb := C.1.2.1
  have hl : lv_has ls 2 [(0, .ref (a 0)), (1, .int x1)] := hl
  unfold fX8_isSeries at h
  refine lv_iload_n hx hb dX8_isSeries_0 rfl (lv_at hl 1 rfl) ?_
  refine lv_i2l (v := x1.toInt64) hx hb dX8_isSeries_1 rfl ?_
  refine lv_lconst (v := 0) hx hb dX8_isSeries_2 (by decide) ?_
  refine lv_aload_n hx hb dX8_isSeries_3 rfl (lv_at hl 0 rfl) ?_
  refine k_get C inT_X8 hw 0 rfl rfl 0 (by decide) mF_X8_7 rfl dX8_isSeries_4 ?_
  refine lv_iconst (v := 0) hx hb dX8_isSeries_7 (by decide) ?_
  obtain ⟨y8, q8, h⟩ := bd h
  refine k_iald C hw 1 rfl q8 dX8_isSeries_8 ?_
  refine lv_iconst (v := 1) hx hb dX8_isSeries_9 (by decide) ?_
  refine lv_isub hx hb dX8_isSeries_10 ?_
  refine lv_i2l (v := (y8 - 1).toInt64) hx hb dX8_isSeries_11 rfl ?_
  obtain ⟨r12, q12, h⟩ := bd h
  refine k_callS (nC := 2) [oX8 a g_undos g_listed g_papers g_length g_besides g_gapFirst g_gapLast g_layings g_first g_behind g_clauses g_drafts, ar cI (a 1) 5058 g_row] C hl.1 (tX8_in q12) mL_X8_58 mmX8_in rfl rfl ⟨Nat.le_of_ble_eq_true rfl, Nat.le_of_ble_eq_true rfl⟩ rfl rfl (Nat.le_of_ble_eq_true rfl) hA hw [] [0, 1] rfl (by decide +kernel) rfl rfl rfl rfl dX8_isSeries_12 (fun H locs hw12 => ?_)
  obtain ⟨b15, q15, h⟩ := bd h
  cases h
  exact k_zretb C q15 hw12 dX8_isSeries_15
def rmX8_parent : Room := { frames := 0, cells := 0, slots := 0, locals := 0 }
def fX8_parent (g_row : Nat → Int32) (x1 : Int32) : Option (Int32) :=
  (ld 5058 g_row (4 + (3 * x1))).bind fun y9 =>
  some y9
set_option maxRecDepth 100000 in
set_option maxHeartbeats 4000000 in
theorem tX8_parent {l : Launch} {D : va_G} {cI : ClassId} {cS : GS} {a : Nat → Nat} {g_row : Nat → Int32} {g_undos : Int32} {g_listed : Int32} {g_papers : Int32} {g_length : Int32} {g_besides : Int32} {g_gapFirst : Int32} {g_gapLast : Int32} {g_layings : Int32} {g_first : Int32} {g_behind : Int32} {g_clauses : Int32} {g_drafts : Int32} {x1 : Int32} {s0 : Int32} (h : fX8_parent g_row x1 = some s0) : CT l D cI cS yX8_parent cX8_parent 2 (some .int) rmX8_parent [.ref (a 0), .int x1] [oX8 a g_undos g_listed g_papers g_length g_besides g_gapFirst g_gapLast g_layings g_first g_behind g_clauses g_drafts, ar cI (a 1) 5058 g_row] (some (.int s0)) [oX8 a g_undos g_listed g_papers g_length g_besides g_gapFirst g_gapLast g_layings g_first g_behind g_clauses g_drafts, ar cI (a 1) 5058 g_row] := by
  refine CT.of RX8 (by decide) rfl (Nat.le_of_ble_eq_true rfl) (fun p e s m below meth c ls A C hA hl hw => ?_)
  have hx := C.1.1
  have hb := C.1.2.1
  have hl : lv_has ls 2 [(0, .ref (a 0)), (1, .int x1)] := hl
  unfold fX8_parent at h
  refine lv_aload_n hx hb dX8_parent_0 rfl (lv_at hl 0 rfl) ?_
  refine k_get C inT_X8 hw 0 rfl rfl 0 (by decide) mF_X8_7 rfl dX8_parent_1 ?_
  refine lv_iconst (v := 4) hx hb dX8_parent_4 (by decide) ?_
  refine lv_iconst (v := 3) hx hb dX8_parent_5 (by decide) ?_
  refine lv_iload_n hx hb dX8_parent_6 rfl (lv_at hl 1 rfl) ?_
  refine lv_imul hx hb dX8_parent_7 ?_
  refine lv_iadd hx hb dX8_parent_8 ?_
  obtain ⟨y9, q9, h⟩ := bd h
  refine k_iald C hw 1 rfl q9 dX8_parent_9 ?_
  cases h
  exact k_iret C hw dX8_parent_10
def rmX8_firstOf : Room := { frames := 0, cells := 0, slots := 0, locals := 0 }
def fX8_firstOf (g_row : Nat → Int32) (x1 : Int32) : Option (Int32) :=
  (ld 5058 g_row ((4 + (3 * x1)) + 1)).bind fun y11 =>
  some y11
set_option maxRecDepth 100000 in
set_option maxHeartbeats 4000000 in
theorem tX8_firstOf {l : Launch} {D : va_G} {cI : ClassId} {cS : GS} {a : Nat → Nat} {g_row : Nat → Int32} {g_undos : Int32} {g_listed : Int32} {g_papers : Int32} {g_length : Int32} {g_besides : Int32} {g_gapFirst : Int32} {g_gapLast : Int32} {g_layings : Int32} {g_first : Int32} {g_behind : Int32} {g_clauses : Int32} {g_drafts : Int32} {x1 : Int32} {s0 : Int32} (h : fX8_firstOf g_row x1 = some s0) : CT l D cI cS yX8_firstOf cX8_firstOf 2 (some .int) rmX8_firstOf [.ref (a 0), .int x1] [oX8 a g_undos g_listed g_papers g_length g_besides g_gapFirst g_gapLast g_layings g_first g_behind g_clauses g_drafts, ar cI (a 1) 5058 g_row] (some (.int s0)) [oX8 a g_undos g_listed g_papers g_length g_besides g_gapFirst g_gapLast g_layings g_first g_behind g_clauses g_drafts, ar cI (a 1) 5058 g_row] := by
  refine CT.of RX8 (by decide) rfl (Nat.le_of_ble_eq_true rfl) (fun p e s m below meth c ls A C hA hl hw => ?_)
  have hx := C.1.1
  have hb := C.1.2.1
  have hl : lv_has ls 2 [(0, .ref (a 0)), (1, .int x1)] := hl
  unfold fX8_firstOf at h
  refine lv_aload_n hx hb dX8_firstOf_0 rfl (lv_at hl 0 rfl) ?_
  refine k_get C inT_X8 hw 0 rfl rfl 0 (by decide) mF_X8_7 rfl dX8_firstOf_1 ?_
  refine lv_iconst (v := 4) hx hb dX8_firstOf_4 (by decide) ?_
  refine lv_iconst (v := 3) hx hb dX8_firstOf_5 (by decide) ?_
  refine lv_iload_n hx hb dX8_firstOf_6 rfl (lv_at hl 1 rfl) ?_
  refine lv_imul hx hb dX8_firstOf_7 ?_
  refine lv_iadd hx hb dX8_firstOf_8 ?_
  refine lv_iconst (v := 1) hx hb dX8_firstOf_9 (by decide) ?_
  refine lv_iadd hx hb dX8_firstOf_10 ?_
  obtain ⟨y11, q11, h⟩ := bd h
  refine k_iald C hw 1 rfl q11 dX8_firstOf_11 ?_
  cases h
  exact k_iret C hw dX8_firstOf_12
def rmX8_lastOf : Room := { frames := 0, cells := 0, slots := 0, locals := 0 }
def fX8_lastOf (g_row : Nat → Int32) (x1 : Int32) : Option (Int32) :=
  (ld 5058 g_row ((4 + (3 * x1)) + 2)).bind fun y11 =>
  some y11
set_option maxRecDepth 100000 in
set_option maxHeartbeats 4000000 in
theorem tX8_lastOf {l : Launch} {D : va_G} {cI : ClassId} {cS : GS} {a : Nat → Nat} {g_row : Nat → Int32} {g_undos : Int32} {g_listed : Int32} {g_papers : Int32} {g_length : Int32} {g_besides : Int32} {g_gapFirst : Int32} {g_gapLast : Int32} {g_layings : Int32} {g_first : Int32} {g_behind : Int32} {g_clauses : Int32} {g_drafts : Int32} {x1 : Int32} {s0 : Int32} (h : fX8_lastOf g_row x1 = some s0) : CT l D cI cS yX8_lastOf cX8_lastOf 2 (some .int) rmX8_lastOf [.ref (a 0), .int x1] [oX8 a g_undos g_listed g_papers g_length g_besides g_gapFirst g_gapLast g_layings g_first g_behind g_clauses g_drafts, ar cI (a 1) 5058 g_row] (some (.int s0)) [oX8 a g_undos g_listed g_papers g_length g_besides g_gapFirst g_gapLast g_layings g_first g_behind g_clauses g_drafts, ar cI (a 1) 5058 g_row] := by
  refine CT.of RX8 (by decide) rfl (Nat.le_of_ble_eq_true rfl) (fun p e s m below meth c ls A C hA hl hw => ?_)
  have hx := C.1.1
  have hb := C.1.2.1
  have hl : lv_has ls 2 [(0, .ref (a 0)), (1, .int x1)] := hl
  unfold fX8_lastOf at h
  refine lv_aload_n hx hb dX8_lastOf_0 rfl (lv_at hl 0 rfl) ?_
  refine k_get C inT_X8 hw 0 rfl rfl 0 (by decide) mF_X8_7 rfl dX8_lastOf_1 ?_
  refine lv_iconst (v := 4) hx hb dX8_lastOf_4 (by decide) ?_
  refine lv_iconst (v := 3) hx hb dX8_lastOf_5 (by decide) ?_
  refine lv_iload_n hx hb dX8_lastOf_6 rfl (lv_at hl 1 rfl) ?_
  refine lv_imul hx hb dX8_lastOf_7 ?_
  refine lv_iadd hx hb dX8_lastOf_8 ?_
  refine lv_iconst (v := 2) hx hb dX8_lastOf_9 (by decide) ?_
  refine lv_iadd hx hb dX8_lastOf_10 ?_
  obtain ⟨y11, q11, h⟩ := bd h
  refine k_iald C hw 1 rfl q11 dX8_lastOf_11 ?_
  cases h
  exact k_iret C hw dX8_lastOf_12
def rmX8_pieceAt : Room := { frames := 0, cells := 0, slots := 0, locals := 0 }
def fX8_pieceAt (g_row : Nat → Int32) (x1 : Int32) (x2 : Int32) : Option (Int32) :=
  (ld 5058 g_row ((42 + (3 * x1)) + x2)).bind fun y12 =>
  some y12
set_option maxRecDepth 100000 in
set_option maxHeartbeats 4000000 in
theorem tX8_pieceAt {l : Launch} {D : va_G} {cI : ClassId} {cS : GS} {a : Nat → Nat} {g_row : Nat → Int32} {g_undos : Int32} {g_listed : Int32} {g_papers : Int32} {g_length : Int32} {g_besides : Int32} {g_gapFirst : Int32} {g_gapLast : Int32} {g_layings : Int32} {g_first : Int32} {g_behind : Int32} {g_clauses : Int32} {g_drafts : Int32} {x1 : Int32} {x2 : Int32} {s0 : Int32} (h : fX8_pieceAt g_row x1 x2 = some s0) : CT l D cI cS yX8_pieceAt cX8_pieceAt 3 (some .int) rmX8_pieceAt [.ref (a 0), .int x1, .int x2] [oX8 a g_undos g_listed g_papers g_length g_besides g_gapFirst g_gapLast g_layings g_first g_behind g_clauses g_drafts, ar cI (a 1) 5058 g_row] (some (.int s0)) [oX8 a g_undos g_listed g_papers g_length g_besides g_gapFirst g_gapLast g_layings g_first g_behind g_clauses g_drafts, ar cI (a 1) 5058 g_row] := by
  refine CT.of RX8 (by decide) rfl (Nat.le_of_ble_eq_true rfl) (fun p e s m below meth c ls A C hA hl hw => ?_)
  have hx := C.1.1
  have hb := C.1.2.1
  have hl : lv_has ls 3 [(0, .ref (a 0)), (1, .int x1), (2, .int x2)] := hl
  unfold fX8_pieceAt at h
  refine lv_aload_n hx hb dX8_pieceAt_0 rfl (lv_at hl 0 rfl) ?_
  refine k_get C inT_X8 hw 0 rfl rfl 0 (by decide) mF_X8_7 rfl dX8_pieceAt_1 ?_
  refine lv_bipush (v := 42) hx hb dX8_pieceAt_4 (by decide) ?_
  refine lv_iconst (v := 3) hx hb dX8_pieceAt_6 (by decide) ?_
  refine lv_iload_n hx hb dX8_pieceAt_7 rfl (lv_at hl 1 rfl) ?_
  refine lv_imul hx hb dX8_pieceAt_8 ?_
  refine lv_iadd hx hb dX8_pieceAt_9 ?_
  refine lv_iload_n hx hb dX8_pieceAt_10 rfl (lv_at hl 2 rfl) ?_
  refine lv_iadd hx hb dX8_pieceAt_11 ?_
  obtain ⟨y12, q12, h⟩ := bd h
  refine k_iald C hw 1 rfl q12 dX8_pieceAt_12 ?_
  cases h
  exact k_iret C hw dX8_pieceAt_13
def rmX8_greater : Room := { frames := 0, cells := 0, slots := 0, locals := 0 }
def fX8_greater (x0 : Int32) (x1 : Int32) : Option (Int32) :=
  if x0 ≤ x1 then
    some x1
  else
    some x0
set_option maxRecDepth 100000 in
set_option maxHeartbeats 4000000 in
theorem tX8_greater {l : Launch} {D : va_G} {cI : ClassId} {cS : GS}  {x0 : Int32} {x1 : Int32} {s0 : Int32} (h : fX8_greater x0 x1 = some s0) : CT l D cI cS yX8_greater cX8_greater 2 (some .int) rmX8_greater [.int x0, .int x1] [] (some (.int s0)) [] := by
  refine CT.of RX8 (by decide) rfl (Nat.le_of_ble_eq_true rfl) (fun p e s m below meth c ls A C hA hl hw => ?_)
  have hx := C.1.1
  have hb := C.1.2.1
  have hl : lv_has ls 2 [(0, .int x0), (1, .int x1)] := hl
  unfold fX8_greater at h
  refine lv_iload_n hx hb dX8_greater_0 rfl (lv_at hl 0 rfl) ?_
  refine lv_iload_n hx hb dX8_greater_1 rfl (lv_at hl 1 rfl) ?_
  refine lv_icmp_le (tgt := 9) hx hb dX8_greater_2 (by decide) (fun c2 => ?_) (fun c2 => ?_)
  · replace h := br_t' h c2
    refine lv_iload_n hx hb dX8_greater_9 rfl (lv_at hl 1 rfl) ?_
    cases h
    exact k_iret C hw dX8_greater_10
  · replace h := br_f' h c2
    refine lv_iload_n hx hb dX8_greater_5 rfl (lv_at hl 0 rfl) ?_
    refine lv_goto (tgt := 10) hx hb dX8_greater_6 (by decide) ?_
    cases h
    exact k_iret C hw dX8_greater_10
def rmX8_lesser : Room := { frames := 0, cells := 0, slots := 0, locals := 0 }
def fX8_lesser (x0 : Int32) (x1 : Int32) : Option (Int32) :=
  if x1 ≤ x0 then
    some x1
  else
    some x0
set_option maxRecDepth 100000 in
set_option maxHeartbeats 4000000 in
theorem tX8_lesser {l : Launch} {D : va_G} {cI : ClassId} {cS : GS}  {x0 : Int32} {x1 : Int32} {s0 : Int32} (h : fX8_lesser x0 x1 = some s0) : CT l D cI cS yX8_lesser cX8_lesser 2 (some .int) rmX8_lesser [.int x0, .int x1] [] (some (.int s0)) [] := by
  refine CT.of RX8 (by decide) rfl (Nat.le_of_ble_eq_true rfl) (fun p e s m below meth c ls A C hA hl hw => ?_)
  have hx := C.1.1
  have hb := C.1.2.1
  have hl : lv_has ls 2 [(0, .int x0), (1, .int x1)] := hl
  unfold fX8_lesser at h
  refine lv_iload_n hx hb dX8_lesser_0 rfl (lv_at hl 0 rfl) ?_
  refine lv_iload_n hx hb dX8_lesser_1 rfl (lv_at hl 1 rfl) ?_
  refine lv_icmp_ge (tgt := 9) hx hb dX8_lesser_2 (by decide) (fun c2 => ?_) (fun c2 => ?_)
  · replace h := br_t' h c2
    refine lv_iload_n hx hb dX8_lesser_9 rfl (lv_at hl 1 rfl) ?_
    cases h
    exact k_iret C hw dX8_lesser_10
  · replace h := br_f' h c2
    refine lv_iload_n hx hb dX8_lesser_5 rfl (lv_at hl 0 rfl) ?_
    refine lv_goto (tgt := 10) hx hb dX8_lesser_6 (by decide) ?_
    cases h
    exact k_iret C hw dX8_lesser_10
def rmX8_common : Room := { frames := 1, cells := 0, slots := 0, locals := 21 }
def fX8_common (x0 : Int32) (x1 : Int32) (x2 : Int32) (x3 : Int32) : Option (Int32) :=
  (fX8_greater x0 x2).bind fun r2 =>
  (fX8_lesser x1 x3).bind fun r9 =>
  if r2 ≤ r9 then
    some ((r9 - r2) + 1)
  else
    some 0
set_option maxRecDepth 100000 in
set_option maxHeartbeats 4000000 in
theorem tX8_common {l : Launch} {D : va_G} {cI : ClassId} {cS : GS}  {x0 : Int32} {x1 : Int32} {x2 : Int32} {x3 : Int32} {s0 : Int32} (h : fX8_common x0 x1 x2 x3 = some s0) : CT l D cI cS yX8_common cX8_common 6 (some .int) rmX8_common [.int x0, .int x1, .int x2, .int x3] [] (some (.int s0)) [] := by
  refine CT.of RX8 (by decide) rfl (Nat.le_of_ble_eq_true rfl) (fun p e s m below meth c ls A C hA hl hw => ?_)
  have hx := C.1.1
  have hb := C.1.2.1
  have hl : lv_has ls 6 [(0, .int x0), (1, .int x1), (2, .int x2), (3, .int x3)] := hl
  unfold fX8_common at h
  refine lv_iload_n hx hb dX8_common_0 rfl (lv_at hl 0 rfl) ?_
  refine lv_iload_n hx hb dX8_common_1 rfl (lv_at hl 2 rfl) ?_
  obtain ⟨r2, q2, h⟩ := bd h
  refine k_callS (nC := 0) [] C hl.1 (tX8_greater q2) mL_X8_64 mmX8_greater rfl rfl ⟨Nat.le_of_ble_eq_true rfl, Nat.le_of_ble_eq_true rfl⟩ rfl rfl (Nat.le_of_ble_eq_true rfl) hA hw [] [] rfl (by decide +kernel) rfl rfl rfl rfl dX8_common_2 (fun H locs hw2 => ?_)
  refine lv_istore (lv' := [(4, .int r2), (0, .int x0), (1, .int x1), (2, .int x2), (3, .int x3)]) hx hb dX8_common_5 hl (by decide) rfl (fun ls hl => ?_)
  refine lv_iload_n hx hb dX8_common_7 rfl (lv_at hl 2 rfl) ?_
  refine lv_iload_n hx hb dX8_common_8 rfl (lv_at hl 4 rfl) ?_
  obtain ⟨r9, q9, h⟩ := bd h
  refine k_callS (nC := 0) [] C hl.1 (tX8_lesser q9) mL_X8_68 mmX8_lesser rfl rfl ⟨Nat.le_of_ble_eq_true rfl, Nat.le_of_ble_eq_true rfl⟩ rfl rfl (Nat.le_of_ble_eq_true rfl) hA hw2 [] [] rfl (by decide +kernel) rfl rfl rfl rfl dX8_common_9 (fun H locs hw9 => ?_)
  refine lv_istore (lv' := [(5, .int r9), (4, .int r2), (0, .int x0), (1, .int x1), (2, .int x2), (3, .int x3)]) hx hb dX8_common_12 hl (by decide) rfl (fun ls hl => ?_)
  refine lv_iload hx hb dX8_common_14 (lv_at hl 1 rfl) ?_
  refine lv_iload hx hb dX8_common_16 (lv_at hl 0 rfl) ?_
  refine lv_icmp_le (tgt := 25) hx hb dX8_common_18 (by decide) (fun c18 => ?_) (fun c18 => ?_)
  · replace h := br_t' h c18
    refine lv_iload hx hb dX8_common_25 (lv_at hl 0 rfl) ?_
    refine lv_iload hx hb dX8_common_27 (lv_at hl 1 rfl) ?_
    refine lv_isub hx hb dX8_common_29 ?_
    refine lv_iconst (v := 1) hx hb dX8_common_30 (by decide) ?_
    refine lv_iadd hx hb dX8_common_31 ?_
    cases h
    exact k_iret C hw9 dX8_common_32
  · replace h := br_f' h c18
    refine lv_iconst (v := 0) hx hb dX8_common_21 (by decide) ?_
    refine lv_goto (tgt := 32) hx hb dX8_common_22 (by decide) ?_
    cases h
    exact k_iret C hw9 dX8_common_32
def rmX8_inBox : Room := { frames := 2, cells := 0, slots := 0, locals := 46 }
def fX8_inBox_6 (g_row : Nat → Int32) (x1 : Int32) (x2 : Int32) (x3 : Int32) : (n : Nat) → (k : Int32 → Int32 → Option (Int32)) → Int32 → Int32 → Option (Int32)
  | 0, _, _, _ => none
  | n + 1, k, x4, x5 =>
    (ld 5058 g_row 1).bind fun y13 =>
    if y13 ≤ x5 then
      k x4 x5
    else
      if x1 = (-1) then
        (fX8_pieceAt g_row x5 0).bind fun r41 =>
        (fX8_pieceAt g_row x5 1).bind fun r48 =>
        (fX8_common x2 x3 r41 r48).bind fun r51 =>
        fX8_inBox_6 g_row x1 x2 x3 n k (x4 + r51) (x5 + 1)
      else
        (fX8_pieceAt g_row x5 2).bind fun r28 =>
        if r28 = x1 then
          (fX8_pieceAt g_row x5 0).bind fun r41 =>
          (fX8_pieceAt g_row x5 1).bind fun r48 =>
          (fX8_common x2 x3 r41 r48).bind fun r51 =>
          fX8_inBox_6 g_row x1 x2 x3 n k (x4 + r51) (x5 + 1)
        else
          fX8_inBox_6 g_row x1 x2 x3 n k (x4 + 0) (x5 + 1)
set_option maxRecDepth 100000 in
set_option maxHeartbeats 4000000 in
theorem wX8_inBox_6 {p : Program} {l : Launch} {e : Env} {s : State} {m : MethodId} {args : Array Value} {below : List Frame} {meth : Method} {c : Code} {D : va_G} {cI : ClassId} {cS : GS} {A : Nat → Prop} {a : Nat → Nat} {g_row : Nat → Int32} {g_undos : Int32} {g_listed : Int32} {g_papers : Int32} {g_length : Int32} {g_besides : Int32} {g_gapFirst : Int32} {g_gapLast : Int32} {g_layings : Int32} {g_first : Int32} {g_behind : Int32} {g_clauses : Int32} {g_drafts : Int32} {x1 : Int32} {x2 : Int32} {x3 : Int32} (C : MC p s m args meth c D cI cS A RX8 cX8_inBox 6 (some .int)) (hA : ∀ q, s.heap.size ≤ q → A q) {s0 : Int32} (k : Int32 → Int32 → Option (Int32)) (hk : ∀ (x4 : Int32) (x5 : Int32) (H : Heap) (locs : List Loc) (ls : Array Slot), Wd D A s.heap H locs [oX8 a g_undos g_listed g_papers g_length g_besides g_gapFirst g_gapLast g_layings g_first g_behind g_clauses g_drafts, ar cI (a 1) 5058 g_row] → lv_has ls 6 [(0, .ref (a 0)), (1, .int x1), (2, .int x2), (3, .int x3), (4, .int x4), (5, .int x5)] → k x4 x5 = some s0 → W p l e rmX8_inBox s m args below meth c H locs 0 0 (KQ D A below args s (some (.int s0)) [oX8 a g_undos g_listed g_papers g_length g_besides g_gapFirst g_gapLast g_layings g_first g_behind g_clauses g_drafts, ar cI (a 1) 5058 g_row]) (F0 m 67 ls [])) :
    ∀ (n : Nat) (x4 : Int32) (x5 : Int32) (H : Heap) (locs : List Loc) (ls : Array Slot), Wd D A s.heap H locs [oX8 a g_undos g_listed g_papers g_length g_besides g_gapFirst g_gapLast g_layings g_first g_behind g_clauses g_drafts, ar cI (a 1) 5058 g_row] → lv_has ls 6 [(0, .ref (a 0)), (1, .int x1), (2, .int x2), (3, .int x3), (4, .int x4), (5, .int x5)] → fX8_inBox_6 g_row x1 x2 x3 n k x4 x5 = some s0 → W p l e rmX8_inBox s m args below meth c H locs 0 0 (KQ D A below args s (some (.int s0)) [oX8 a g_undos g_listed g_papers g_length g_besides g_gapFirst g_gapLast g_layings g_first g_behind g_clauses g_drafts, ar cI (a 1) 5058 g_row]) (F0 m 6 ls []) := by
  have hx := C.1.1
  have hb := C.1.2.1
  intro n
  induction n with
  | zero =>
    intro x4 x5 H locs ls hw hl h
    rw [fX8_inBox_6] at h
    cases h
  | succ n ih =>
    intro x4 x5 H locs ls hw hl h
    rw [fX8_inBox_6] at h
    refine lv_iload hx hb dX8_inBox_6 (lv_at hl 5 rfl) ?_
    refine lv_aload_n hx hb dX8_inBox_8 rfl (lv_at hl 0 rfl) ?_
    refine k_get C inT_X8 hw 0 rfl rfl 0 (by decide) mF_X8_7 rfl dX8_inBox_9 ?_
    refine lv_iconst (v := 1) hx hb dX8_inBox_12 (by decide) ?_
    obtain ⟨y13, q13, h⟩ := bd h
    refine k_iald C hw 1 rfl q13 dX8_inBox_13 ?_
    refine lv_icmp_ge (tgt := 67) hx hb dX8_inBox_14 (by decide) (fun c14 => ?_) (fun c14 => ?_)
    · replace h := br_t' h c14
      exact hk _ _ _ _ _ hw (lv_sub hl [0, 1, 2, 3, 4, 5] rfl) h
    · replace h := br_f' h c14
      refine lv_iload hx hb dX8_inBox_17 (lv_at hl 4 rfl) ?_
      refine lv_iload_n hx hb dX8_inBox_19 rfl (lv_at hl 1 rfl) ?_
      refine lv_iconst (v := (-1)) hx hb dX8_inBox_20 (by decide) ?_
      refine lv_icmp_eq (tgt := 35) hx hb dX8_inBox_21 (by decide) (fun c21 => ?_) (fun c21 => ?_)
      · replace h := br_t' h c21
        refine lv_iload_n hx hb dX8_inBox_35 rfl (lv_at hl 2 rfl) ?_
        refine lv_iload_n hx hb dX8_inBox_36 rfl (lv_at hl 3 rfl) ?_
        refine lv_aload_n hx hb dX8_inBox_37 rfl (lv_at hl 0 rfl) ?_
        refine lv_iload hx hb dX8_inBox_38 (lv_at hl 5 rfl) ?_
        refine lv_iconst (v := 0) hx hb dX8_inBox_40 (by decide) ?_
        obtain ⟨r41, q41, h⟩ := bd h
        refine k_callV (nC := 2) [oX8 a g_undos g_listed g_papers g_length g_besides g_gapFirst g_gapLast g_layings g_first g_behind g_clauses g_drafts, ar cI (a 1) 5058 g_row] C hl.1 (tX8_pieceAt (a := a) q41) mL_X8_71 mmX8_pieceAt rfl rfl ⟨Nat.le_of_ble_eq_true rfl, Nat.le_of_ble_eq_true rfl⟩ rfl rfl rfl rfl (Nat.le_of_ble_eq_true rfl) hA hw [0, 1] [] rfl (by decide +kernel) rfl rfl rfl rfl dX8_inBox_41 (fun H locs hw41 => ?_)
        refine lv_aload_n hx hb dX8_inBox_44 rfl (lv_at hl 0 rfl) ?_
        refine lv_iload hx hb dX8_inBox_45 (lv_at hl 5 rfl) ?_
        refine lv_iconst (v := 1) hx hb dX8_inBox_47 (by decide) ?_
        obtain ⟨r48, q48, h⟩ := bd h
        refine k_callV (nC := 2) [oX8 a g_undos g_listed g_papers g_length g_besides g_gapFirst g_gapLast g_layings g_first g_behind g_clauses g_drafts, ar cI (a 1) 5058 g_row] C hl.1 (tX8_pieceAt (a := a) q48) mL_X8_71 mmX8_pieceAt rfl rfl ⟨Nat.le_of_ble_eq_true rfl, Nat.le_of_ble_eq_true rfl⟩ rfl rfl rfl rfl (Nat.le_of_ble_eq_true rfl) hA hw41 [0, 1] [] rfl (by decide +kernel) rfl rfl rfl rfl dX8_inBox_48 (fun H locs hw48 => ?_)
        obtain ⟨r51, q51, h⟩ := bd h
        refine k_callS (nC := 2) [oX8 a g_undos g_listed g_papers g_length g_besides g_gapFirst g_gapLast g_layings g_first g_behind g_clauses g_drafts, ar cI (a 1) 5058 g_row] C hl.1 (tX8_common q51) mL_X8_74 mmX8_common rfl rfl ⟨Nat.le_of_ble_eq_true rfl, Nat.le_of_ble_eq_true rfl⟩ rfl rfl (Nat.le_of_ble_eq_true rfl) hA hw48 [] [0, 1] rfl (by decide +kernel) rfl rfl rfl rfl dX8_inBox_51 (fun H locs hw51 => ?_)
        refine lv_goto (tgt := 58) hx hb dX8_inBox_54 (by decide) ?_
        refine lv_iadd hx hb dX8_inBox_58 ?_
        refine lv_istore (lv' := [(4, .int (x4 + r51)), (0, .ref (a 0)), (1, .int x1), (2, .int x2), (3, .int x3), (5, .int x5)]) hx hb dX8_inBox_59 hl (by decide) rfl (fun ls hl => ?_)
        refine lv_iinc (v := (x5 + 1)) (lv' := [(5, .int (x5 + 1)), (4, .int (x4 + r51)), (0, .ref (a 0)), (1, .int x1), (2, .int x2), (3, .int x3)]) hx hb dX8_inBox_61 hl (k := 5) rfl rfl (by decide) rfl (fun ls hl => ?_)
        refine lv_goto (tgt := 6) hx hb dX8_inBox_64 (by decide) ?_
        exact ih _ _ _ _ _ hw51 (lv_sub hl [2, 3, 4, 5, 1, 0] rfl) h
      · replace h := br_f' h c21
        refine lv_aload_n hx hb dX8_inBox_24 rfl (lv_at hl 0 rfl) ?_
        refine lv_iload hx hb dX8_inBox_25 (lv_at hl 5 rfl) ?_
        refine lv_iconst (v := 2) hx hb dX8_inBox_27 (by decide) ?_
        obtain ⟨r28, q28, h⟩ := bd h
        refine k_callV (nC := 2) [oX8 a g_undos g_listed g_papers g_length g_besides g_gapFirst g_gapLast g_layings g_first g_behind g_clauses g_drafts, ar cI (a 1) 5058 g_row] C hl.1 (tX8_pieceAt (a := a) q28) mL_X8_71 mmX8_pieceAt rfl rfl ⟨Nat.le_of_ble_eq_true rfl, Nat.le_of_ble_eq_true rfl⟩ rfl rfl rfl rfl (Nat.le_of_ble_eq_true rfl) hA hw [0, 1] [] rfl (by decide +kernel) rfl rfl rfl rfl dX8_inBox_28 (fun H locs hw28 => ?_)
        refine lv_iload_n hx hb dX8_inBox_31 rfl (lv_at hl 1 rfl) ?_
        refine lv_icmp_ne (tgt := 57) hx hb dX8_inBox_32 (by decide) (fun c32 => ?_) (fun c32 => ?_)
        · replace h := br_f' h c32
          refine lv_iconst (v := 0) hx hb dX8_inBox_57 (by decide) ?_
          refine lv_iadd hx hb dX8_inBox_58 ?_
          refine lv_istore (lv' := [(4, .int (x4 + 0)), (0, .ref (a 0)), (1, .int x1), (2, .int x2), (3, .int x3), (5, .int x5)]) hx hb dX8_inBox_59 hl (by decide) rfl (fun ls hl => ?_)
          refine lv_iinc (v := (x5 + 1)) (lv' := [(5, .int (x5 + 1)), (4, .int (x4 + 0)), (0, .ref (a 0)), (1, .int x1), (2, .int x2), (3, .int x3)]) hx hb dX8_inBox_61 hl (k := 5) rfl rfl (by decide) rfl (fun ls hl => ?_)
          refine lv_goto (tgt := 6) hx hb dX8_inBox_64 (by decide) ?_
          exact ih _ _ _ _ _ hw28 (lv_sub hl [2, 3, 4, 5, 1, 0] rfl) h
        · replace h := br_t' h c32
          refine lv_iload_n hx hb dX8_inBox_35 rfl (lv_at hl 2 rfl) ?_
          refine lv_iload_n hx hb dX8_inBox_36 rfl (lv_at hl 3 rfl) ?_
          refine lv_aload_n hx hb dX8_inBox_37 rfl (lv_at hl 0 rfl) ?_
          refine lv_iload hx hb dX8_inBox_38 (lv_at hl 5 rfl) ?_
          refine lv_iconst (v := 0) hx hb dX8_inBox_40 (by decide) ?_
          obtain ⟨r41, q41, h⟩ := bd h
          refine k_callV (nC := 2) [oX8 a g_undos g_listed g_papers g_length g_besides g_gapFirst g_gapLast g_layings g_first g_behind g_clauses g_drafts, ar cI (a 1) 5058 g_row] C hl.1 (tX8_pieceAt (a := a) q41) mL_X8_71 mmX8_pieceAt rfl rfl ⟨Nat.le_of_ble_eq_true rfl, Nat.le_of_ble_eq_true rfl⟩ rfl rfl rfl rfl (Nat.le_of_ble_eq_true rfl) hA hw28 [0, 1] [] rfl (by decide +kernel) rfl rfl rfl rfl dX8_inBox_41 (fun H locs hw41 => ?_)
          refine lv_aload_n hx hb dX8_inBox_44 rfl (lv_at hl 0 rfl) ?_
          refine lv_iload hx hb dX8_inBox_45 (lv_at hl 5 rfl) ?_
          refine lv_iconst (v := 1) hx hb dX8_inBox_47 (by decide) ?_
          obtain ⟨r48, q48, h⟩ := bd h
          refine k_callV (nC := 2) [oX8 a g_undos g_listed g_papers g_length g_besides g_gapFirst g_gapLast g_layings g_first g_behind g_clauses g_drafts, ar cI (a 1) 5058 g_row] C hl.1 (tX8_pieceAt (a := a) q48) mL_X8_71 mmX8_pieceAt rfl rfl ⟨Nat.le_of_ble_eq_true rfl, Nat.le_of_ble_eq_true rfl⟩ rfl rfl rfl rfl (Nat.le_of_ble_eq_true rfl) hA hw41 [0, 1] [] rfl (by decide +kernel) rfl rfl rfl rfl dX8_inBox_48 (fun H locs hw48 => ?_)
          obtain ⟨r51, q51, h⟩ := bd h
          refine k_callS (nC := 2) [oX8 a g_undos g_listed g_papers g_length g_besides g_gapFirst g_gapLast g_layings g_first g_behind g_clauses g_drafts, ar cI (a 1) 5058 g_row] C hl.1 (tX8_common q51) mL_X8_74 mmX8_common rfl rfl ⟨Nat.le_of_ble_eq_true rfl, Nat.le_of_ble_eq_true rfl⟩ rfl rfl (Nat.le_of_ble_eq_true rfl) hA hw48 [] [0, 1] rfl (by decide +kernel) rfl rfl rfl rfl dX8_inBox_51 (fun H locs hw51 => ?_)
          refine lv_goto (tgt := 58) hx hb dX8_inBox_54 (by decide) ?_
          refine lv_iadd hx hb dX8_inBox_58 ?_
          refine lv_istore (lv' := [(4, .int (x4 + r51)), (0, .ref (a 0)), (1, .int x1), (2, .int x2), (3, .int x3), (5, .int x5)]) hx hb dX8_inBox_59 hl (by decide) rfl (fun ls hl => ?_)
          refine lv_iinc (v := (x5 + 1)) (lv' := [(5, .int (x5 + 1)), (4, .int (x4 + r51)), (0, .ref (a 0)), (1, .int x1), (2, .int x2), (3, .int x3)]) hx hb dX8_inBox_61 hl (k := 5) rfl rfl (by decide) rfl (fun ls hl => ?_)
          refine lv_goto (tgt := 6) hx hb dX8_inBox_64 (by decide) ?_
          exact ih _ _ _ _ _ hw51 (lv_sub hl [2, 3, 4, 5, 1, 0] rfl) h
def fX8_inBox (g_row : Nat → Int32) (x1 : Int32) (x2 : Int32) (x3 : Int32) : Option (Int32) :=
  fX8_inBox_6 g_row x1 x2 x3 FU (fun x4_6 x5_6 =>
    some x4_6) 0 0
set_option maxRecDepth 100000 in
set_option maxHeartbeats 4000000 in
theorem tX8_inBox {l : Launch} {D : va_G} {cI : ClassId} {cS : GS} {a : Nat → Nat} {g_row : Nat → Int32} {g_undos : Int32} {g_listed : Int32} {g_papers : Int32} {g_length : Int32} {g_besides : Int32} {g_gapFirst : Int32} {g_gapLast : Int32} {g_layings : Int32} {g_first : Int32} {g_behind : Int32} {g_clauses : Int32} {g_drafts : Int32} {x1 : Int32} {x2 : Int32} {x3 : Int32} {s0 : Int32} (h : fX8_inBox g_row x1 x2 x3 = some s0) : CT l D cI cS yX8_inBox cX8_inBox 6 (some .int) rmX8_inBox [.ref (a 0), .int x1, .int x2, .int x3] [oX8 a g_undos g_listed g_papers g_length g_besides g_gapFirst g_gapLast g_layings g_first g_behind g_clauses g_drafts, ar cI (a 1) 5058 g_row] (some (.int s0)) [oX8 a g_undos g_listed g_papers g_length g_besides g_gapFirst g_gapLast g_layings g_first g_behind g_clauses g_drafts, ar cI (a 1) 5058 g_row] := by
  refine CT.of RX8 (by decide) rfl (Nat.le_of_ble_eq_true rfl) (fun p e s m below meth c ls A C hA hl hw => ?_)
  have hx := C.1.1
  have hb := C.1.2.1
  have hl : lv_has ls 6 [(0, .ref (a 0)), (1, .int x1), (2, .int x2), (3, .int x3)] := hl
  unfold fX8_inBox at h
  refine lv_iconst (v := 0) hx hb dX8_inBox_0 (by decide) ?_
  refine lv_istore (lv' := [(4, .int 0), (0, .ref (a 0)), (1, .int x1), (2, .int x2), (3, .int x3)]) hx hb dX8_inBox_1 hl (by decide) rfl (fun ls hl => ?_)
  refine lv_iconst (v := 0) hx hb dX8_inBox_3 (by decide) ?_
  refine lv_istore (lv' := [(5, .int 0), (4, .int 0), (0, .ref (a 0)), (1, .int x1), (2, .int x2), (3, .int x3)]) hx hb dX8_inBox_4 hl (by decide) rfl (fun ls hl => ?_)
  refine wX8_inBox_6 C hA _ (fun x4_6 x5_6 H locs ls hw6x hl h => ?_) FU _ _ _ _ _ hw (lv_sub hl [2, 3, 4, 5, 1, 0] rfl) h
  refine lv_iload hx hb dX8_inBox_67 (lv_at hl 4 rfl) ?_
  cases h
  exact k_iret C hw6x dX8_inBox_69
def rmX8_load : Room := { frames := 3, cells := 0, slots := 0, locals := 71 }
def fX8_load (g_row : Nat → Int32) (x1 : Int32) : Option (Int32) :=
  (fX8_inBox g_row x1 1 2000000000).bind fun r5 =>
  some r5
set_option maxRecDepth 100000 in
set_option maxHeartbeats 4000000 in
theorem tX8_load {l : Launch} {D : va_G} {cI : ClassId} {cS : GS} {a : Nat → Nat} {g_row : Nat → Int32} {g_undos : Int32} {g_listed : Int32} {g_papers : Int32} {g_length : Int32} {g_besides : Int32} {g_gapFirst : Int32} {g_gapLast : Int32} {g_layings : Int32} {g_first : Int32} {g_behind : Int32} {g_clauses : Int32} {g_drafts : Int32} {x1 : Int32} {s0 : Int32} (h : fX8_load g_row x1 = some s0) : CT l D cI cS yX8_load cX8_load 2 (some .int) rmX8_load [.ref (a 0), .int x1] [oX8 a g_undos g_listed g_papers g_length g_besides g_gapFirst g_gapLast g_layings g_first g_behind g_clauses g_drafts, ar cI (a 1) 5058 g_row] (some (.int s0)) [oX8 a g_undos g_listed g_papers g_length g_besides g_gapFirst g_gapLast g_layings g_first g_behind g_clauses g_drafts, ar cI (a 1) 5058 g_row] := by
  refine CT.of RX8 (by decide) rfl (Nat.le_of_ble_eq_true rfl) (fun p e s m below meth c ls A C hA hl hw => ?_)
  have hx := C.1.1
  have hb := C.1.2.1
  have hl : lv_has ls 2 [(0, .ref (a 0)), (1, .int x1)] := hl
  unfold fX8_load at h
  refine lv_aload_n hx hb dX8_load_0 rfl (lv_at hl 0 rfl) ?_
  refine lv_iload_n hx hb dX8_load_1 rfl (lv_at hl 1 rfl) ?_
  refine lv_iconst (v := 1) hx hb dX8_load_2 (by decide) ?_
  refine k_ldc C mC_X8_78 dX8_load_3 ?_
  obtain ⟨r5, q5, h⟩ := bd h
  refine k_callV (nC := 2) [oX8 a g_undos g_listed g_papers g_length g_besides g_gapFirst g_gapLast g_layings g_first g_behind g_clauses g_drafts, ar cI (a 1) 5058 g_row] C hl.1 (tX8_inBox (a := a) q5) mL_X8_79 mmX8_inBox rfl rfl ⟨Nat.le_of_ble_eq_true rfl, Nat.le_of_ble_eq_true rfl⟩ rfl rfl rfl rfl (Nat.le_of_ble_eq_true rfl) hA hw [0, 1] [] rfl (by decide +kernel) rfl rfl rfl rfl dX8_load_5 (fun H locs hw5 => ?_)
  cases h
  exact k_iret C hw5 dX8_load_8
def rmX8_puts : Room := { frames := 0, cells := 0, slots := 0, locals := 0 }
def fX8_puts_12 (x1 : Int32) : (n : Nat) → (k : Int32 → (Nat → Int32) → Option ((Nat → Int32) × Int32)) → Int32 → (Nat → Int32) → Option ((Nat → Int32) × Int32)
  | 0, _, _, _ => none
  | n + 1, k, x4, g_beside =>
    if x4 ≤ 0 then
      k x4 g_beside
    else
      (ld 132 g_beside ((3 * x4) - 3)).bind fun y27 =>
      if y27 ≤ x1 then
        k x4 g_beside
      else
        (ld 132 g_beside ((3 * x4) - 3)).bind fun y50 =>
        (sv 132 g_beside (3 * x4) y50).bind fun g51 =>
        (ld 132 g51 ((3 * x4) - 2)).bind fun y72 =>
        (sv 132 g51 ((3 * x4) + 1) y72).bind fun g73 =>
        (ld 132 g73 ((3 * x4) - 1)).bind fun y94 =>
        (sv 132 g73 ((3 * x4) + 2) y94).bind fun g95 =>
        fX8_puts_12 x1 n k (x4 + (-1)) g95
set_option maxRecDepth 100000 in
set_option maxHeartbeats 4000000 in
theorem wX8_puts_12 {p : Program} {l : Launch} {e : Env} {s : State} {m : MethodId} {args : Array Value} {below : List Frame} {meth : Method} {c : Code} {D : va_G} {cI : ClassId} {cS : GS} {A : Nat → Prop} {a : Nat → Nat} {g_undos : Int32} {g_listed : Int32} {g_papers : Int32} {g_length : Int32} {g_besides : Int32} {g_gapFirst : Int32} {g_gapLast : Int32} {g_layings : Int32} {g_first : Int32} {g_behind : Int32} {g_clauses : Int32} {g_drafts : Int32} {x1 : Int32} {x2 : Int32} {x3 : Int32} (C : MC p s m args meth c D cI cS A RX8 cX8_puts 5 none) (hA : ∀ q, s.heap.size ≤ q → A q) {s0 : (Nat → Int32)} {s1 : Int32} (k : Int32 → (Nat → Int32) → Option ((Nat → Int32) × Int32)) (hk : ∀ (x4 : Int32) (g_beside : Nat → Int32) (H : Heap) (locs : List Loc) (ls : Array Slot), Wd D A s.heap H locs [oX8 a g_undos g_listed g_papers g_length g_besides g_gapFirst g_gapLast g_layings g_first g_behind g_clauses g_drafts, ar cI (a 9) 132 g_beside] → lv_has ls 5 [(0, .ref (a 0)), (1, .int x1), (2, .int x2), (3, .int x3), (4, .int x4)] → k x4 g_beside = some (s0, s1) → W p l e rmX8_puts s m args below meth c H locs 0 0 (KQ D A below args s none [oX8 a g_undos g_listed g_papers g_length s1 g_gapFirst g_gapLast g_layings g_first g_behind g_clauses g_drafts, ar cI (a 9) 132 s0]) (F0 m 102 ls [])) :
    ∀ (n : Nat) (x4 : Int32) (g_beside : Nat → Int32) (H : Heap) (locs : List Loc) (ls : Array Slot), Wd D A s.heap H locs [oX8 a g_undos g_listed g_papers g_length g_besides g_gapFirst g_gapLast g_layings g_first g_behind g_clauses g_drafts, ar cI (a 9) 132 g_beside] → lv_has ls 5 [(0, .ref (a 0)), (1, .int x1), (2, .int x2), (3, .int x3), (4, .int x4)] → fX8_puts_12 x1 n k x4 g_beside = some (s0, s1) → W p l e rmX8_puts s m args below meth c H locs 0 0 (KQ D A below args s none [oX8 a g_undos g_listed g_papers g_length s1 g_gapFirst g_gapLast g_layings g_first g_behind g_clauses g_drafts, ar cI (a 9) 132 s0]) (F0 m 12 ls []) := by
  have hx := C.1.1
  have hb := C.1.2.1
  intro n
  induction n with
  | zero =>
    intro x4 g_beside H locs ls hw hl h
    rw [fX8_puts_12] at h
    cases h
  | succ n ih =>
    intro x4 g_beside H locs ls hw hl h
    rw [fX8_puts_12] at h
    refine lv_iload hx hb dX8_puts_12 (lv_at hl 4 rfl) ?_
    refine lv_if_le (tgt := 102) hx hb dX8_puts_14 (by decide) (fun c14 => ?_) (fun c14 => ?_)
    · replace h := br_t' h c14
      exact hk _ _ _ _ _ hw (lv_sub hl [0, 1, 2, 3, 4] rfl) h
    · replace h := br_f' h c14
      refine lv_aload_n hx hb dX8_puts_17 rfl (lv_at hl 0 rfl) ?_
      refine k_get C inT_X8 hw 0 rfl rfl 8 (by decide) mF_X8_22 rfl dX8_puts_18 ?_
      refine lv_iconst (v := 3) hx hb dX8_puts_21 (by decide) ?_
      refine lv_iload hx hb dX8_puts_22 (lv_at hl 4 rfl) ?_
      refine lv_imul hx hb dX8_puts_24 ?_
      refine lv_iconst (v := 3) hx hb dX8_puts_25 (by decide) ?_
      refine lv_isub hx hb dX8_puts_26 ?_
      obtain ⟨y27, q27, h⟩ := bd h
      refine k_iald C hw 1 rfl q27 dX8_puts_27 ?_
      refine lv_iload_n hx hb dX8_puts_28 rfl (lv_at hl 1 rfl) ?_
      refine lv_icmp_le (tgt := 102) hx hb dX8_puts_29 (by decide) (fun c29 => ?_) (fun c29 => ?_)
      · replace h := br_t' h c29
        exact hk _ _ _ _ _ hw (lv_sub hl [0, 1, 2, 3, 4] rfl) h
      · replace h := br_f' h c29
        refine lv_aload_n hx hb dX8_puts_32 rfl (lv_at hl 0 rfl) ?_
        refine k_get C inT_X8 hw 0 rfl rfl 8 (by decide) mF_X8_22 rfl dX8_puts_33 ?_
        refine lv_iconst (v := 3) hx hb dX8_puts_36 (by decide) ?_
        refine lv_iload hx hb dX8_puts_37 (lv_at hl 4 rfl) ?_
        refine lv_imul hx hb dX8_puts_39 ?_
        refine lv_aload_n hx hb dX8_puts_40 rfl (lv_at hl 0 rfl) ?_
        refine k_get C inT_X8 hw 0 rfl rfl 8 (by decide) mF_X8_22 rfl dX8_puts_41 ?_
        refine lv_iconst (v := 3) hx hb dX8_puts_44 (by decide) ?_
        refine lv_iload hx hb dX8_puts_45 (lv_at hl 4 rfl) ?_
        refine lv_imul hx hb dX8_puts_47 ?_
        refine lv_iconst (v := 3) hx hb dX8_puts_48 (by decide) ?_
        refine lv_isub hx hb dX8_puts_49 ?_
        obtain ⟨y50, q50, h⟩ := bd h
        refine k_iald C hw 1 rfl q50 dX8_puts_50 ?_
        obtain ⟨g51, q51, h⟩ := bd h
        refine k_iast C hw 1 rfl q51 [oX8 a g_undos g_listed g_papers g_length g_besides g_gapFirst g_gapLast g_layings g_first g_behind g_clauses g_drafts, ar cI (a 9) 132 g51] rfl dX8_puts_51 (fun H locs hw51 => ?_)
        refine lv_aload_n hx hb dX8_puts_52 rfl (lv_at hl 0 rfl) ?_
        refine k_get C inT_X8 hw51 0 rfl rfl 8 (by decide) mF_X8_22 rfl dX8_puts_53 ?_
        refine lv_iconst (v := 3) hx hb dX8_puts_56 (by decide) ?_
        refine lv_iload hx hb dX8_puts_57 (lv_at hl 4 rfl) ?_
        refine lv_imul hx hb dX8_puts_59 ?_
        refine lv_iconst (v := 1) hx hb dX8_puts_60 (by decide) ?_
        refine lv_iadd hx hb dX8_puts_61 ?_
        refine lv_aload_n hx hb dX8_puts_62 rfl (lv_at hl 0 rfl) ?_
        refine k_get C inT_X8 hw51 0 rfl rfl 8 (by decide) mF_X8_22 rfl dX8_puts_63 ?_
        refine lv_iconst (v := 3) hx hb dX8_puts_66 (by decide) ?_
        refine lv_iload hx hb dX8_puts_67 (lv_at hl 4 rfl) ?_
        refine lv_imul hx hb dX8_puts_69 ?_
        refine lv_iconst (v := 2) hx hb dX8_puts_70 (by decide) ?_
        refine lv_isub hx hb dX8_puts_71 ?_
        obtain ⟨y72, q72, h⟩ := bd h
        refine k_iald C hw51 1 rfl q72 dX8_puts_72 ?_
        obtain ⟨g73, q73, h⟩ := bd h
        refine k_iast C hw51 1 rfl q73 [oX8 a g_undos g_listed g_papers g_length g_besides g_gapFirst g_gapLast g_layings g_first g_behind g_clauses g_drafts, ar cI (a 9) 132 g73] rfl dX8_puts_73 (fun H locs hw73 => ?_)
        refine lv_aload_n hx hb dX8_puts_74 rfl (lv_at hl 0 rfl) ?_
        refine k_get C inT_X8 hw73 0 rfl rfl 8 (by decide) mF_X8_22 rfl dX8_puts_75 ?_
        refine lv_iconst (v := 3) hx hb dX8_puts_78 (by decide) ?_
        refine lv_iload hx hb dX8_puts_79 (lv_at hl 4 rfl) ?_
        refine lv_imul hx hb dX8_puts_81 ?_
        refine lv_iconst (v := 2) hx hb dX8_puts_82 (by decide) ?_
        refine lv_iadd hx hb dX8_puts_83 ?_
        refine lv_aload_n hx hb dX8_puts_84 rfl (lv_at hl 0 rfl) ?_
        refine k_get C inT_X8 hw73 0 rfl rfl 8 (by decide) mF_X8_22 rfl dX8_puts_85 ?_
        refine lv_iconst (v := 3) hx hb dX8_puts_88 (by decide) ?_
        refine lv_iload hx hb dX8_puts_89 (lv_at hl 4 rfl) ?_
        refine lv_imul hx hb dX8_puts_91 ?_
        refine lv_iconst (v := 1) hx hb dX8_puts_92 (by decide) ?_
        refine lv_isub hx hb dX8_puts_93 ?_
        obtain ⟨y94, q94, h⟩ := bd h
        refine k_iald C hw73 1 rfl q94 dX8_puts_94 ?_
        obtain ⟨g95, q95, h⟩ := bd h
        refine k_iast C hw73 1 rfl q95 [oX8 a g_undos g_listed g_papers g_length g_besides g_gapFirst g_gapLast g_layings g_first g_behind g_clauses g_drafts, ar cI (a 9) 132 g95] rfl dX8_puts_95 (fun H locs hw95 => ?_)
        refine lv_iinc (v := (x4 + (-1))) (lv' := [(4, .int (x4 + (-1))), (0, .ref (a 0)), (1, .int x1), (2, .int x2), (3, .int x3)]) hx hb dX8_puts_96 hl (k := 4) rfl rfl (by decide) rfl (fun ls hl => ?_)
        refine lv_goto (tgt := 12) hx hb dX8_puts_99 (by decide) ?_
        exact ih _ _ _ _ _ hw95 (lv_sub hl [1, 2, 3, 4, 0] rfl) h
def fX8_puts (g_beside : Nat → Int32) (g_besides : Int32) (x1 : Int32) (x2 : Int32) (x3 : Int32) : Option ((Nat → Int32) × Int32) :=
  if x1 ≤ x2 then
    fX8_puts_12 x1 FU (fun x4_12 g_beside_12 =>
      (sv 132 g_beside_12 (3 * x4_12) x1).bind fun g111 =>
      (sv 132 g111 ((3 * x4_12) + 1) x2).bind fun g123 =>
      (sv 132 g123 ((3 * x4_12) + 2) x3).bind fun g135 =>
      some (g135, (g_besides + 1))) g_besides g_beside
  else
    some (g_beside, g_besides)
set_option maxRecDepth 100000 in
set_option maxHeartbeats 4000000 in
theorem tX8_puts {l : Launch} {D : va_G} {cI : ClassId} {cS : GS} {a : Nat → Nat} {g_undos : Int32} {g_listed : Int32} {g_papers : Int32} {g_length : Int32} {g_beside : Nat → Int32} {g_besides : Int32} {g_gapFirst : Int32} {g_gapLast : Int32} {g_layings : Int32} {g_first : Int32} {g_behind : Int32} {g_clauses : Int32} {g_drafts : Int32} {x1 : Int32} {x2 : Int32} {x3 : Int32} {s0 : (Nat → Int32)} {s1 : Int32} (h : fX8_puts g_beside g_besides x1 x2 x3 = some (s0, s1)) : CT l D cI cS yX8_puts cX8_puts 5 none rmX8_puts [.ref (a 0), .int x1, .int x2, .int x3] [oX8 a g_undos g_listed g_papers g_length g_besides g_gapFirst g_gapLast g_layings g_first g_behind g_clauses g_drafts, ar cI (a 9) 132 g_beside] none [oX8 a g_undos g_listed g_papers g_length s1 g_gapFirst g_gapLast g_layings g_first g_behind g_clauses g_drafts, ar cI (a 9) 132 s0] := by
  refine CT.of RX8 (by decide) rfl (Nat.le_of_ble_eq_true rfl) (fun p e s m below meth c ls A C hA hl hw => ?_)
  have hx := C.1.1
  have hb := C.1.2.1
  have hl : lv_has ls 5 [(0, .ref (a 0)), (1, .int x1), (2, .int x2), (3, .int x3)] := hl
  unfold fX8_puts at h
  refine lv_iload_n hx hb dX8_puts_0 rfl (lv_at hl 1 rfl) ?_
  refine lv_iload_n hx hb dX8_puts_1 rfl (lv_at hl 2 rfl) ?_
  refine lv_icmp_le (tgt := 6) hx hb dX8_puts_2 (by decide) (fun c2 => ?_) (fun c2 => ?_)
  · replace h := br_t' h c2
    refine lv_aload_n hx hb dX8_puts_6 rfl (lv_at hl 0 rfl) ?_
    refine k_get C inT_X8 hw 0 rfl rfl 9 (by decide) mF_X8_83 rfl dX8_puts_7 ?_
    refine lv_istore (lv' := [(4, .int g_besides), (0, .ref (a 0)), (1, .int x1), (2, .int x2), (3, .int x3)]) hx hb dX8_puts_10 hl (by decide) rfl (fun ls hl => ?_)
    refine wX8_puts_12 C hA _ (fun x4_12 g_beside_12 H locs ls hw12x hl h => ?_) FU _ _ _ _ _ hw (lv_sub hl [1, 2, 3, 4, 0] rfl) h
    refine lv_aload_n hx hb dX8_puts_102 rfl (lv_at hl 0 rfl) ?_
    refine k_get C inT_X8 hw12x 0 rfl rfl 8 (by decide) mF_X8_22 rfl dX8_puts_103 ?_
    refine lv_iconst (v := 3) hx hb dX8_puts_106 (by decide) ?_
    refine lv_iload hx hb dX8_puts_107 (lv_at hl 4 rfl) ?_
    refine lv_imul hx hb dX8_puts_109 ?_
    refine lv_iload_n hx hb dX8_puts_110 rfl (lv_at hl 1 rfl) ?_
    obtain ⟨g111, q111, h⟩ := bd h
    refine k_iast C hw12x 1 rfl q111 [oX8 a g_undos g_listed g_papers g_length g_besides g_gapFirst g_gapLast g_layings g_first g_behind g_clauses g_drafts, ar cI (a 9) 132 g111] rfl dX8_puts_111 (fun H locs hw111 => ?_)
    refine lv_aload_n hx hb dX8_puts_112 rfl (lv_at hl 0 rfl) ?_
    refine k_get C inT_X8 hw111 0 rfl rfl 8 (by decide) mF_X8_22 rfl dX8_puts_113 ?_
    refine lv_iconst (v := 3) hx hb dX8_puts_116 (by decide) ?_
    refine lv_iload hx hb dX8_puts_117 (lv_at hl 4 rfl) ?_
    refine lv_imul hx hb dX8_puts_119 ?_
    refine lv_iconst (v := 1) hx hb dX8_puts_120 (by decide) ?_
    refine lv_iadd hx hb dX8_puts_121 ?_
    refine lv_iload_n hx hb dX8_puts_122 rfl (lv_at hl 2 rfl) ?_
    obtain ⟨g123, q123, h⟩ := bd h
    refine k_iast C hw111 1 rfl q123 [oX8 a g_undos g_listed g_papers g_length g_besides g_gapFirst g_gapLast g_layings g_first g_behind g_clauses g_drafts, ar cI (a 9) 132 g123] rfl dX8_puts_123 (fun H locs hw123 => ?_)
    refine lv_aload_n hx hb dX8_puts_124 rfl (lv_at hl 0 rfl) ?_
    refine k_get C inT_X8 hw123 0 rfl rfl 8 (by decide) mF_X8_22 rfl dX8_puts_125 ?_
    refine lv_iconst (v := 3) hx hb dX8_puts_128 (by decide) ?_
    refine lv_iload hx hb dX8_puts_129 (lv_at hl 4 rfl) ?_
    refine lv_imul hx hb dX8_puts_131 ?_
    refine lv_iconst (v := 2) hx hb dX8_puts_132 (by decide) ?_
    refine lv_iadd hx hb dX8_puts_133 ?_
    refine lv_iload_n hx hb dX8_puts_134 rfl (lv_at hl 3 rfl) ?_
    obtain ⟨g135, q135, h⟩ := bd h
    refine k_iast C hw123 1 rfl q135 [oX8 a g_undos g_listed g_papers g_length g_besides g_gapFirst g_gapLast g_layings g_first g_behind g_clauses g_drafts, ar cI (a 9) 132 g135] rfl dX8_puts_135 (fun H locs hw135 => ?_)
    refine lv_aload_n hx hb dX8_puts_136 rfl (lv_at hl 0 rfl) ?_
    refine lv_dup hx hb dX8_puts_137 rfl ?_
    refine k_get C inT_X8 hw135 0 rfl rfl 9 (by decide) mF_X8_83 rfl dX8_puts_138 ?_
    refine lv_iconst (v := 1) hx hb dX8_puts_141 (by decide) ?_
    refine lv_iadd hx hb dX8_puts_142 ?_
    refine k_put C inT_X8 tyX8 tyX8_ok nmX8 hw135 0 rfl rfl 9 (by decide) mF_X8_83 rfl rfl (Nat.le_of_ble_eq_true rfl) [oX8 a g_undos g_listed g_papers g_length (g_besides + 1) g_gapFirst g_gapLast g_layings g_first g_behind g_clauses g_drafts, ar cI (a 9) 132 g135] rfl dX8_puts_143 (fun H locs hw143 => ?_)
    cases h
    exact k_vret C hw143 dX8_puts_146
  · replace h := br_f' h c2
    cases h
    exact k_vret C hw dX8_puts_5
def rmX8_lays : Room := { frames := 1, cells := 0, slots := 0, locals := 24 }
def fX8_lays_8 (g_row : Nat → Int32) (x1 : Int32) (x2 : Int32) : (n : Nat) → (k : Int32 → (Nat → Int32) → Int32 → Option ((Nat → Int32) × Int32)) → Int32 → (Nat → Int32) → Int32 → Option ((Nat → Int32) × Int32)
  | 0, _, _, _, _ => none
  | n + 1, k, x4, g_beside, g_besides =>
    (ld 5058 g_row 1).bind fun y15 =>
    if y15 ≤ x4 then
      k x4 g_beside g_besides
    else
      (fX8_pieceAt g_row x4 0).bind fun r23 =>
      (fX8_pieceAt g_row x4 1).bind fun r32 =>
      (fX8_lesser r32 (x1 - 1)).bind fun r45 =>
      (fX8_pieceAt g_row x4 2).bind fun r52 =>
      (fX8_puts g_beside g_besides r23 r45 r52).bind fun r55 =>
      (fX8_greater r23 (x2 + 1)).bind fun r64 =>
      (fX8_pieceAt g_row x4 2).bind fun r73 =>
      (fX8_puts r55.1 r55.2 r64 r32 r73).bind fun r76 =>
      fX8_lays_8 g_row x1 x2 n k (x4 + 1) r76.1 r76.2
set_option maxRecDepth 100000 in
set_option maxHeartbeats 4000000 in
theorem wX8_lays_8 {p : Program} {l : Launch} {e : Env} {s : State} {m : MethodId} {args : Array Value} {below : List Frame} {meth : Method} {c : Code} {D : va_G} {cI : ClassId} {cS : GS} {A : Nat → Prop} {a : Nat → Nat} {g_row : Nat → Int32} {g_undos : Int32} {g_listed : Int32} {g_papers : Int32} {g_length : Int32} {g_gapFirst : Int32} {g_gapLast : Int32} {g_layings : Int32} {g_first : Int32} {g_behind : Int32} {g_clauses : Int32} {g_drafts : Int32} {x1 : Int32} {x2 : Int32} {x3 : Int32} (C : MC p s m args meth c D cI cS A RX8 cX8_lays 7 none) (hA : ∀ q, s.heap.size ≤ q → A q) {s0 : (Nat → Int32)} {s1 : Int32} (k : Int32 → (Nat → Int32) → Int32 → Option ((Nat → Int32) × Int32)) (hk : ∀ (x4 : Int32) (g_beside : Nat → Int32) (g_besides : Int32) (H : Heap) (locs : List Loc) (ls : Array Slot), Wd D A s.heap H locs [oX8 a g_undos g_listed g_papers g_length g_besides g_gapFirst g_gapLast g_layings g_first g_behind g_clauses g_drafts, ar cI (a 1) 5058 g_row, ar cI (a 9) 132 g_beside] → lv_has ls 7 [(0, .ref (a 0)), (1, .int x1), (2, .int x2), (3, .int x3), (4, .int x4)] → k x4 g_beside g_besides = some (s0, s1) → W p l e rmX8_lays s m args below meth c H locs 0 0 (KQ D A below args s none [oX8 a g_undos g_listed g_papers g_length s1 g_gapFirst g_gapLast g_layings g_first g_behind g_clauses g_drafts, ar cI (a 1) 5058 g_row, ar cI (a 9) 132 s0]) (F0 m 85 ls [])) :
    ∀ (n : Nat) (x4 : Int32) (g_beside : Nat → Int32) (g_besides : Int32) (H : Heap) (locs : List Loc) (ls : Array Slot), Wd D A s.heap H locs [oX8 a g_undos g_listed g_papers g_length g_besides g_gapFirst g_gapLast g_layings g_first g_behind g_clauses g_drafts, ar cI (a 1) 5058 g_row, ar cI (a 9) 132 g_beside] → lv_has ls 7 [(0, .ref (a 0)), (1, .int x1), (2, .int x2), (3, .int x3), (4, .int x4)] → fX8_lays_8 g_row x1 x2 n k x4 g_beside g_besides = some (s0, s1) → W p l e rmX8_lays s m args below meth c H locs 0 0 (KQ D A below args s none [oX8 a g_undos g_listed g_papers g_length s1 g_gapFirst g_gapLast g_layings g_first g_behind g_clauses g_drafts, ar cI (a 1) 5058 g_row, ar cI (a 9) 132 s0]) (F0 m 8 ls []) := by
  have hx := C.1.1
  have hb := C.1.2.1
  intro n
  induction n with
  | zero =>
    intro x4 g_beside g_besides H locs ls hw hl h
    rw [fX8_lays_8] at h
    cases h
  | succ n ih =>
    intro x4 g_beside g_besides H locs ls hw hl h
    rw [fX8_lays_8] at h
    refine lv_iload hx hb dX8_lays_8 (lv_at hl 4 rfl) ?_
    refine lv_aload_n hx hb dX8_lays_10 rfl (lv_at hl 0 rfl) ?_
    refine k_get C inT_X8 hw 0 rfl rfl 0 (by decide) mF_X8_7 rfl dX8_lays_11 ?_
    refine lv_iconst (v := 1) hx hb dX8_lays_14 (by decide) ?_
    obtain ⟨y15, q15, h⟩ := bd h
    refine k_iald C hw 1 rfl q15 dX8_lays_15 ?_
    refine lv_icmp_ge (tgt := 85) hx hb dX8_lays_16 (by decide) (fun c16 => ?_) (fun c16 => ?_)
    · replace h := br_t' h c16
      exact hk _ _ _ _ _ _ hw (lv_sub hl [0, 1, 2, 3, 4] rfl) h
    · replace h := br_f' h c16
      refine lv_aload_n hx hb dX8_lays_19 rfl (lv_at hl 0 rfl) ?_
      refine lv_iload hx hb dX8_lays_20 (lv_at hl 4 rfl) ?_
      refine lv_iconst (v := 0) hx hb dX8_lays_22 (by decide) ?_
      obtain ⟨r23, q23, h⟩ := bd h
      refine k_callV (nC := 3) [oX8 a g_undos g_listed g_papers g_length g_besides g_gapFirst g_gapLast g_layings g_first g_behind g_clauses g_drafts, ar cI (a 1) 5058 g_row, ar cI (a 9) 132 g_beside] C hl.1 (tX8_pieceAt (a := a) q23) mL_X8_71 mmX8_pieceAt rfl rfl ⟨Nat.le_of_ble_eq_true rfl, Nat.le_of_ble_eq_true rfl⟩ rfl rfl rfl rfl (Nat.le_of_ble_eq_true rfl) hA hw [0, 1] [2] rfl (by decide +kernel) rfl rfl rfl rfl dX8_lays_23 (fun H locs hw23 => ?_)
      refine lv_istore (lv' := [(5, .int r23), (0, .ref (a 0)), (1, .int x1), (2, .int x2), (3, .int x3), (4, .int x4)]) hx hb dX8_lays_26 hl (by decide) rfl (fun ls hl => ?_)
      refine lv_aload_n hx hb dX8_lays_28 rfl (lv_at hl 1 rfl) ?_
      refine lv_iload hx hb dX8_lays_29 (lv_at hl 5 rfl) ?_
      refine lv_iconst (v := 1) hx hb dX8_lays_31 (by decide) ?_
      obtain ⟨r32, q32, h⟩ := bd h
      refine k_callV (nC := 3) [oX8 a g_undos g_listed g_papers g_length g_besides g_gapFirst g_gapLast g_layings g_first g_behind g_clauses g_drafts, ar cI (a 1) 5058 g_row, ar cI (a 9) 132 g_beside] C hl.1 (tX8_pieceAt (a := a) q32) mL_X8_71 mmX8_pieceAt rfl rfl ⟨Nat.le_of_ble_eq_true rfl, Nat.le_of_ble_eq_true rfl⟩ rfl rfl rfl rfl (Nat.le_of_ble_eq_true rfl) hA hw23 [0, 1] [2] rfl (by decide +kernel) rfl rfl rfl rfl dX8_lays_32 (fun H locs hw32 => ?_)
      refine lv_istore (lv' := [(6, .int r32), (5, .int r23), (0, .ref (a 0)), (1, .int x1), (2, .int x2), (3, .int x3), (4, .int x4)]) hx hb dX8_lays_35 hl (by decide) rfl (fun ls hl => ?_)
      refine lv_aload_n hx hb dX8_lays_37 rfl (lv_at hl 2 rfl) ?_
      refine lv_iload hx hb dX8_lays_38 (lv_at hl 1 rfl) ?_
      refine lv_iload hx hb dX8_lays_40 (lv_at hl 0 rfl) ?_
      refine lv_iload_n hx hb dX8_lays_42 rfl (lv_at hl 3 rfl) ?_
      refine lv_iconst (v := 1) hx hb dX8_lays_43 (by decide) ?_
      refine lv_isub hx hb dX8_lays_44 ?_
      obtain ⟨r45, q45, h⟩ := bd h
      refine k_callS (nC := 3) [oX8 a g_undos g_listed g_papers g_length g_besides g_gapFirst g_gapLast g_layings g_first g_behind g_clauses g_drafts, ar cI (a 1) 5058 g_row, ar cI (a 9) 132 g_beside] C hl.1 (tX8_lesser q45) mL_X8_68 mmX8_lesser rfl rfl ⟨Nat.le_of_ble_eq_true rfl, Nat.le_of_ble_eq_true rfl⟩ rfl rfl (Nat.le_of_ble_eq_true rfl) hA hw32 [] [0, 1, 2] rfl (by decide +kernel) rfl rfl rfl rfl dX8_lays_45 (fun H locs hw45 => ?_)
      refine lv_aload_n hx hb dX8_lays_48 rfl (lv_at hl 2 rfl) ?_
      refine lv_iload hx hb dX8_lays_49 (lv_at hl 6 rfl) ?_
      refine lv_iconst (v := 2) hx hb dX8_lays_51 (by decide) ?_
      obtain ⟨r52, q52, h⟩ := bd h
      refine k_callV (nC := 3) [oX8 a g_undos g_listed g_papers g_length g_besides g_gapFirst g_gapLast g_layings g_first g_behind g_clauses g_drafts, ar cI (a 1) 5058 g_row, ar cI (a 9) 132 g_beside] C hl.1 (tX8_pieceAt (a := a) q52) mL_X8_71 mmX8_pieceAt rfl rfl ⟨Nat.le_of_ble_eq_true rfl, Nat.le_of_ble_eq_true rfl⟩ rfl rfl rfl rfl (Nat.le_of_ble_eq_true rfl) hA hw45 [0, 1] [2] rfl (by decide +kernel) rfl rfl rfl rfl dX8_lays_52 (fun H locs hw52 => ?_)
      obtain ⟨r55, q55, h⟩ := bd h
      refine k_callV (nC := 3) [oX8 a g_undos g_listed g_papers g_length r55.2 g_gapFirst g_gapLast g_layings g_first g_behind g_clauses g_drafts, ar cI (a 1) 5058 g_row, ar cI (a 9) 132 r55.1] C hl.1 (tX8_puts (a := a) q55) mL_X8_86 mmX8_puts rfl rfl ⟨Nat.le_of_ble_eq_true rfl, Nat.le_of_ble_eq_true rfl⟩ rfl rfl rfl rfl (Nat.le_of_ble_eq_true rfl) hA hw52 [0, 2] [1] rfl (by decide +kernel) rfl rfl rfl rfl dX8_lays_55 (fun H locs hw55 => ?_)
      refine lv_aload_n hx hb dX8_lays_58 rfl (lv_at hl 2 rfl) ?_
      refine lv_iload hx hb dX8_lays_59 (lv_at hl 1 rfl) ?_
      refine lv_iload_n hx hb dX8_lays_61 rfl (lv_at hl 4 rfl) ?_
      refine lv_iconst (v := 1) hx hb dX8_lays_62 (by decide) ?_
      refine lv_iadd hx hb dX8_lays_63 ?_
      obtain ⟨r64, q64, h⟩ := bd h
      refine k_callS (nC := 3) [oX8 a g_undos g_listed g_papers g_length r55.2 g_gapFirst g_gapLast g_layings g_first g_behind g_clauses g_drafts, ar cI (a 1) 5058 g_row, ar cI (a 9) 132 r55.1] C hl.1 (tX8_greater q64) mL_X8_64 mmX8_greater rfl rfl ⟨Nat.le_of_ble_eq_true rfl, Nat.le_of_ble_eq_true rfl⟩ rfl rfl (Nat.le_of_ble_eq_true rfl) hA hw55 [] [0, 1, 2] rfl (by decide +kernel) rfl rfl rfl rfl dX8_lays_64 (fun H locs hw64 => ?_)
      refine lv_iload hx hb dX8_lays_67 (lv_at hl 0 rfl) ?_
      refine lv_aload_n hx hb dX8_lays_69 rfl (lv_at hl 2 rfl) ?_
      refine lv_iload hx hb dX8_lays_70 (lv_at hl 6 rfl) ?_
      refine lv_iconst (v := 2) hx hb dX8_lays_72 (by decide) ?_
      obtain ⟨r73, q73, h⟩ := bd h
      refine k_callV (nC := 3) [oX8 a g_undos g_listed g_papers g_length r55.2 g_gapFirst g_gapLast g_layings g_first g_behind g_clauses g_drafts, ar cI (a 1) 5058 g_row, ar cI (a 9) 132 r55.1] C hl.1 (tX8_pieceAt (a := a) q73) mL_X8_71 mmX8_pieceAt rfl rfl ⟨Nat.le_of_ble_eq_true rfl, Nat.le_of_ble_eq_true rfl⟩ rfl rfl rfl rfl (Nat.le_of_ble_eq_true rfl) hA hw64 [0, 1] [2] rfl (by decide +kernel) rfl rfl rfl rfl dX8_lays_73 (fun H locs hw73 => ?_)
      obtain ⟨r76, q76, h⟩ := bd h
      refine k_callV (nC := 3) [oX8 a g_undos g_listed g_papers g_length r76.2 g_gapFirst g_gapLast g_layings g_first g_behind g_clauses g_drafts, ar cI (a 1) 5058 g_row, ar cI (a 9) 132 r76.1] C hl.1 (tX8_puts (a := a) q76) mL_X8_86 mmX8_puts rfl rfl ⟨Nat.le_of_ble_eq_true rfl, Nat.le_of_ble_eq_true rfl⟩ rfl rfl rfl rfl (Nat.le_of_ble_eq_true rfl) hA hw73 [0, 2] [1] rfl (by decide +kernel) rfl rfl rfl rfl dX8_lays_76 (fun H locs hw76 => ?_)
      refine lv_iinc (v := (x4 + 1)) (lv' := [(4, .int (x4 + 1)), (6, .int r32), (5, .int r23), (0, .ref (a 0)), (1, .int x1), (2, .int x2), (3, .int x3)]) hx hb dX8_lays_79 hl (k := 6) rfl rfl (by decide) rfl (fun ls hl => ?_)
      refine lv_goto (tgt := 8) hx hb dX8_lays_82 (by decide) ?_
      exact ih _ _ _ _ _ _ hw76 (lv_sub hl [3, 4, 5, 6, 0] rfl) h
def fX8_lays_103 (g_besides : Int32) : (n : Nat) → (k : Int32 → Int32 → (Nat → Int32) → Option ((Nat → Int32) × Int32)) → Int32 → Int32 → (Nat → Int32) → Option ((Nat → Int32) × Int32)
  | 0, _, _, _, _ => none
  | n + 1, k, x4, x5, g_beside =>
    if g_besides ≤ x5 then
      k x4 x5 g_beside
    else
      (ld 132 g_beside (3 * x5)).bind fun y120 =>
      (ld 132 g_beside ((3 * x4) + 1)).bind fun y131 =>
      if y120 = (y131 + 1) then
        (ld 132 g_beside ((3 * x5) + 2)).bind fun y147 =>
        (ld 132 g_beside ((3 * x4) + 2)).bind fun y158 =>
        if y147 = y158 then
          (ld 132 g_beside ((3 * x5) + 1)).bind fun y182 =>
          (sv 132 g_beside ((3 * x4) + 1) y182).bind fun g183 =>
          fX8_lays_103 g_besides n k x4 (x5 + 1) g183
        else
          (ld 132 g_beside (3 * x5)).bind fun y206 =>
          (sv 132 g_beside (3 * (x4 + 1)) y206).bind fun g207 =>
          (ld 132 g207 ((3 * x5) + 1)).bind fun y228 =>
          (sv 132 g207 ((3 * (x4 + 1)) + 1) y228).bind fun g229 =>
          (ld 132 g229 ((3 * x5) + 2)).bind fun y250 =>
          (sv 132 g229 ((3 * (x4 + 1)) + 2) y250).bind fun g251 =>
          fX8_lays_103 g_besides n k (x4 + 1) (x5 + 1) g251
      else
        (ld 132 g_beside (3 * x5)).bind fun y206 =>
        (sv 132 g_beside (3 * (x4 + 1)) y206).bind fun g207 =>
        (ld 132 g207 ((3 * x5) + 1)).bind fun y228 =>
        (sv 132 g207 ((3 * (x4 + 1)) + 1) y228).bind fun g229 =>
        (ld 132 g229 ((3 * x5) + 2)).bind fun y250 =>
        (sv 132 g229 ((3 * (x4 + 1)) + 2) y250).bind fun g251 =>
        fX8_lays_103 g_besides n k (x4 + 1) (x5 + 1) g251
set_option maxRecDepth 100000 in
set_option maxHeartbeats 4000000 in
theorem wX8_lays_103 {p : Program} {l : Launch} {e : Env} {s : State} {m : MethodId} {args : Array Value} {below : List Frame} {meth : Method} {c : Code} {D : va_G} {cI : ClassId} {cS : GS} {A : Nat → Prop} {a : Nat → Nat} {g_row : Nat → Int32} {g_undos : Int32} {g_listed : Int32} {g_papers : Int32} {g_length : Int32} {g_besides : Int32} {g_gapFirst : Int32} {g_gapLast : Int32} {g_layings : Int32} {g_first : Int32} {g_behind : Int32} {g_clauses : Int32} {g_drafts : Int32} (C : MC p s m args meth c D cI cS A RX8 cX8_lays 7 none) (hA : ∀ q, s.heap.size ≤ q → A q) {s0 : (Nat → Int32)} {s1 : Int32} (k : Int32 → Int32 → (Nat → Int32) → Option ((Nat → Int32) × Int32)) (hk : ∀ (x4 : Int32) (x5 : Int32) (g_beside : Nat → Int32) (H : Heap) (locs : List Loc) (ls : Array Slot), Wd D A s.heap H locs [oX8 a g_undos g_listed g_papers g_length g_besides g_gapFirst g_gapLast g_layings g_first g_behind g_clauses g_drafts, ar cI (a 1) 5058 g_row, ar cI (a 9) 132 g_beside] → lv_has ls 7 [(0, .ref (a 0)), (4, .int x4), (5, .int x5)] → k x4 x5 g_beside = some (s0, s1) → W p l e rmX8_lays s m args below meth c H locs 0 0 (KQ D A below args s none [oX8 a g_undos g_listed g_papers g_length s1 g_gapFirst g_gapLast g_layings g_first g_behind g_clauses g_drafts, ar cI (a 1) 5058 g_row, ar cI (a 9) 132 s0]) (F0 m 258 ls [])) :
    ∀ (n : Nat) (x4 : Int32) (x5 : Int32) (g_beside : Nat → Int32) (H : Heap) (locs : List Loc) (ls : Array Slot), Wd D A s.heap H locs [oX8 a g_undos g_listed g_papers g_length g_besides g_gapFirst g_gapLast g_layings g_first g_behind g_clauses g_drafts, ar cI (a 1) 5058 g_row, ar cI (a 9) 132 g_beside] → lv_has ls 7 [(0, .ref (a 0)), (4, .int x4), (5, .int x5)] → fX8_lays_103 g_besides n k x4 x5 g_beside = some (s0, s1) → W p l e rmX8_lays s m args below meth c H locs 0 0 (KQ D A below args s none [oX8 a g_undos g_listed g_papers g_length s1 g_gapFirst g_gapLast g_layings g_first g_behind g_clauses g_drafts, ar cI (a 1) 5058 g_row, ar cI (a 9) 132 s0]) (F0 m 103 ls []) := by
  have hx := C.1.1
  have hb := C.1.2.1
  intro n
  induction n with
  | zero =>
    intro x4 x5 g_beside H locs ls hw hl h
    rw [fX8_lays_103] at h
    cases h
  | succ n ih =>
    intro x4 x5 g_beside H locs ls hw hl h
    rw [fX8_lays_103] at h
    refine lv_iload hx hb dX8_lays_103 (lv_at hl 2 rfl) ?_
    refine lv_aload_n hx hb dX8_lays_105 rfl (lv_at hl 0 rfl) ?_
    refine k_get C inT_X8 hw 0 rfl rfl 9 (by decide) mF_X8_83 rfl dX8_lays_106 ?_
    refine lv_icmp_ge (tgt := 258) hx hb dX8_lays_109 (by decide) (fun c109 => ?_) (fun c109 => ?_)
    · replace h := br_t' h c109
      exact hk _ _ _ _ _ _ hw (lv_sub hl [0, 1, 2] rfl) h
    · replace h := br_f' h c109
      refine lv_aload_n hx hb dX8_lays_112 rfl (lv_at hl 0 rfl) ?_
      refine k_get C inT_X8 hw 0 rfl rfl 8 (by decide) mF_X8_22 rfl dX8_lays_113 ?_
      refine lv_iconst (v := 3) hx hb dX8_lays_116 (by decide) ?_
      refine lv_iload hx hb dX8_lays_117 (lv_at hl 2 rfl) ?_
      refine lv_imul hx hb dX8_lays_119 ?_
      obtain ⟨y120, q120, h⟩ := bd h
      refine k_iald C hw 2 rfl q120 dX8_lays_120 ?_
      refine lv_aload_n hx hb dX8_lays_121 rfl (lv_at hl 0 rfl) ?_
      refine k_get C inT_X8 hw 0 rfl rfl 8 (by decide) mF_X8_22 rfl dX8_lays_122 ?_
      refine lv_iconst (v := 3) hx hb dX8_lays_125 (by decide) ?_
      refine lv_iload hx hb dX8_lays_126 (lv_at hl 1 rfl) ?_
      refine lv_imul hx hb dX8_lays_128 ?_
      refine lv_iconst (v := 1) hx hb dX8_lays_129 (by decide) ?_
      refine lv_iadd hx hb dX8_lays_130 ?_
      obtain ⟨y131, q131, h⟩ := bd h
      refine k_iald C hw 2 rfl q131 dX8_lays_131 ?_
      refine lv_iconst (v := 1) hx hb dX8_lays_132 (by decide) ?_
      refine lv_iadd hx hb dX8_lays_133 ?_
      refine lv_icmp_ne (tgt := 187) hx hb dX8_lays_134 (by decide) (fun c134 => ?_) (fun c134 => ?_)
      · replace h := br_f' h c134
        refine lv_iinc (v := (x4 + 1)) (lv' := [(4, .int (x4 + 1)), (0, .ref (a 0)), (5, .int x5)]) hx hb dX8_lays_187 hl (k := 1) rfl rfl (by decide) rfl (fun ls hl => ?_)
        refine lv_aload_n hx hb dX8_lays_190 rfl (lv_at hl 1 rfl) ?_
        refine k_get C inT_X8 hw 0 rfl rfl 8 (by decide) mF_X8_22 rfl dX8_lays_191 ?_
        refine lv_iconst (v := 3) hx hb dX8_lays_194 (by decide) ?_
        refine lv_iload hx hb dX8_lays_195 (lv_at hl 0 rfl) ?_
        refine lv_imul hx hb dX8_lays_197 ?_
        refine lv_aload_n hx hb dX8_lays_198 rfl (lv_at hl 1 rfl) ?_
        refine k_get C inT_X8 hw 0 rfl rfl 8 (by decide) mF_X8_22 rfl dX8_lays_199 ?_
        refine lv_iconst (v := 3) hx hb dX8_lays_202 (by decide) ?_
        refine lv_iload hx hb dX8_lays_203 (lv_at hl 2 rfl) ?_
        refine lv_imul hx hb dX8_lays_205 ?_
        obtain ⟨y206, q206, h⟩ := bd h
        refine k_iald C hw 2 rfl q206 dX8_lays_206 ?_
        obtain ⟨g207, q207, h⟩ := bd h
        refine k_iast C hw 2 rfl q207 [oX8 a g_undos g_listed g_papers g_length g_besides g_gapFirst g_gapLast g_layings g_first g_behind g_clauses g_drafts, ar cI (a 1) 5058 g_row, ar cI (a 9) 132 g207] rfl dX8_lays_207 (fun H locs hw207 => ?_)
        refine lv_aload_n hx hb dX8_lays_208 rfl (lv_at hl 1 rfl) ?_
        refine k_get C inT_X8 hw207 0 rfl rfl 8 (by decide) mF_X8_22 rfl dX8_lays_209 ?_
        refine lv_iconst (v := 3) hx hb dX8_lays_212 (by decide) ?_
        refine lv_iload hx hb dX8_lays_213 (lv_at hl 0 rfl) ?_
        refine lv_imul hx hb dX8_lays_215 ?_
        refine lv_iconst (v := 1) hx hb dX8_lays_216 (by decide) ?_
        refine lv_iadd hx hb dX8_lays_217 ?_
        refine lv_aload_n hx hb dX8_lays_218 rfl (lv_at hl 1 rfl) ?_
        refine k_get C inT_X8 hw207 0 rfl rfl 8 (by decide) mF_X8_22 rfl dX8_lays_219 ?_
        refine lv_iconst (v := 3) hx hb dX8_lays_222 (by decide) ?_
        refine lv_iload hx hb dX8_lays_223 (lv_at hl 2 rfl) ?_
        refine lv_imul hx hb dX8_lays_225 ?_
        refine lv_iconst (v := 1) hx hb dX8_lays_226 (by decide) ?_
        refine lv_iadd hx hb dX8_lays_227 ?_
        obtain ⟨y228, q228, h⟩ := bd h
        refine k_iald C hw207 2 rfl q228 dX8_lays_228 ?_
        obtain ⟨g229, q229, h⟩ := bd h
        refine k_iast C hw207 2 rfl q229 [oX8 a g_undos g_listed g_papers g_length g_besides g_gapFirst g_gapLast g_layings g_first g_behind g_clauses g_drafts, ar cI (a 1) 5058 g_row, ar cI (a 9) 132 g229] rfl dX8_lays_229 (fun H locs hw229 => ?_)
        refine lv_aload_n hx hb dX8_lays_230 rfl (lv_at hl 1 rfl) ?_
        refine k_get C inT_X8 hw229 0 rfl rfl 8 (by decide) mF_X8_22 rfl dX8_lays_231 ?_
        refine lv_iconst (v := 3) hx hb dX8_lays_234 (by decide) ?_
        refine lv_iload hx hb dX8_lays_235 (lv_at hl 0 rfl) ?_
        refine lv_imul hx hb dX8_lays_237 ?_
        refine lv_iconst (v := 2) hx hb dX8_lays_238 (by decide) ?_
        refine lv_iadd hx hb dX8_lays_239 ?_
        refine lv_aload_n hx hb dX8_lays_240 rfl (lv_at hl 1 rfl) ?_
        refine k_get C inT_X8 hw229 0 rfl rfl 8 (by decide) mF_X8_22 rfl dX8_lays_241 ?_
        refine lv_iconst (v := 3) hx hb dX8_lays_244 (by decide) ?_
        refine lv_iload hx hb dX8_lays_245 (lv_at hl 2 rfl) ?_
        refine lv_imul hx hb dX8_lays_247 ?_
        refine lv_iconst (v := 2) hx hb dX8_lays_248 (by decide) ?_
        refine lv_iadd hx hb dX8_lays_249 ?_
        obtain ⟨y250, q250, h⟩ := bd h
        refine k_iald C hw229 2 rfl q250 dX8_lays_250 ?_
        obtain ⟨g251, q251, h⟩ := bd h
        refine k_iast C hw229 2 rfl q251 [oX8 a g_undos g_listed g_papers g_length g_besides g_gapFirst g_gapLast g_layings g_first g_behind g_clauses g_drafts, ar cI (a 1) 5058 g_row, ar cI (a 9) 132 g251] rfl dX8_lays_251 (fun H locs hw251 => ?_)
        refine lv_iinc (v := (x5 + 1)) (lv' := [(5, .int (x5 + 1)), (4, .int (x4 + 1)), (0, .ref (a 0))]) hx hb dX8_lays_252 hl (k := 2) rfl rfl (by decide) rfl (fun ls hl => ?_)
        refine lv_goto (tgt := 103) hx hb dX8_lays_255 (by decide) ?_
        exact ih _ _ _ _ _ _ hw251 (lv_sub hl [2, 1, 0] rfl) h
      · replace h := br_t' h c134
        refine lv_aload_n hx hb dX8_lays_137 rfl (lv_at hl 0 rfl) ?_
        refine k_get C inT_X8 hw 0 rfl rfl 8 (by decide) mF_X8_22 rfl dX8_lays_138 ?_
        refine lv_iconst (v := 3) hx hb dX8_lays_141 (by decide) ?_
        refine lv_iload hx hb dX8_lays_142 (lv_at hl 2 rfl) ?_
        refine lv_imul hx hb dX8_lays_144 ?_
        refine lv_iconst (v := 2) hx hb dX8_lays_145 (by decide) ?_
        refine lv_iadd hx hb dX8_lays_146 ?_
        obtain ⟨y147, q147, h⟩ := bd h
        refine k_iald C hw 2 rfl q147 dX8_lays_147 ?_
        refine lv_aload_n hx hb dX8_lays_148 rfl (lv_at hl 0 rfl) ?_
        refine k_get C inT_X8 hw 0 rfl rfl 8 (by decide) mF_X8_22 rfl dX8_lays_149 ?_
        refine lv_iconst (v := 3) hx hb dX8_lays_152 (by decide) ?_
        refine lv_iload hx hb dX8_lays_153 (lv_at hl 1 rfl) ?_
        refine lv_imul hx hb dX8_lays_155 ?_
        refine lv_iconst (v := 2) hx hb dX8_lays_156 (by decide) ?_
        refine lv_iadd hx hb dX8_lays_157 ?_
        obtain ⟨y158, q158, h⟩ := bd h
        refine k_iald C hw 2 rfl q158 dX8_lays_158 ?_
        refine lv_icmp_ne (tgt := 187) hx hb dX8_lays_159 (by decide) (fun c159 => ?_) (fun c159 => ?_)
        · replace h := br_f' h c159
          refine lv_iinc (v := (x4 + 1)) (lv' := [(4, .int (x4 + 1)), (0, .ref (a 0)), (5, .int x5)]) hx hb dX8_lays_187 hl (k := 1) rfl rfl (by decide) rfl (fun ls hl => ?_)
          refine lv_aload_n hx hb dX8_lays_190 rfl (lv_at hl 1 rfl) ?_
          refine k_get C inT_X8 hw 0 rfl rfl 8 (by decide) mF_X8_22 rfl dX8_lays_191 ?_
          refine lv_iconst (v := 3) hx hb dX8_lays_194 (by decide) ?_
          refine lv_iload hx hb dX8_lays_195 (lv_at hl 0 rfl) ?_
          refine lv_imul hx hb dX8_lays_197 ?_
          refine lv_aload_n hx hb dX8_lays_198 rfl (lv_at hl 1 rfl) ?_
          refine k_get C inT_X8 hw 0 rfl rfl 8 (by decide) mF_X8_22 rfl dX8_lays_199 ?_
          refine lv_iconst (v := 3) hx hb dX8_lays_202 (by decide) ?_
          refine lv_iload hx hb dX8_lays_203 (lv_at hl 2 rfl) ?_
          refine lv_imul hx hb dX8_lays_205 ?_
          obtain ⟨y206, q206, h⟩ := bd h
          refine k_iald C hw 2 rfl q206 dX8_lays_206 ?_
          obtain ⟨g207, q207, h⟩ := bd h
          refine k_iast C hw 2 rfl q207 [oX8 a g_undos g_listed g_papers g_length g_besides g_gapFirst g_gapLast g_layings g_first g_behind g_clauses g_drafts, ar cI (a 1) 5058 g_row, ar cI (a 9) 132 g207] rfl dX8_lays_207 (fun H locs hw207 => ?_)
          refine lv_aload_n hx hb dX8_lays_208 rfl (lv_at hl 1 rfl) ?_
          refine k_get C inT_X8 hw207 0 rfl rfl 8 (by decide) mF_X8_22 rfl dX8_lays_209 ?_
          refine lv_iconst (v := 3) hx hb dX8_lays_212 (by decide) ?_
          refine lv_iload hx hb dX8_lays_213 (lv_at hl 0 rfl) ?_
          refine lv_imul hx hb dX8_lays_215 ?_
          refine lv_iconst (v := 1) hx hb dX8_lays_216 (by decide) ?_
          refine lv_iadd hx hb dX8_lays_217 ?_
          refine lv_aload_n hx hb dX8_lays_218 rfl (lv_at hl 1 rfl) ?_
          refine k_get C inT_X8 hw207 0 rfl rfl 8 (by decide) mF_X8_22 rfl dX8_lays_219 ?_
          refine lv_iconst (v := 3) hx hb dX8_lays_222 (by decide) ?_
          refine lv_iload hx hb dX8_lays_223 (lv_at hl 2 rfl) ?_
          refine lv_imul hx hb dX8_lays_225 ?_
          refine lv_iconst (v := 1) hx hb dX8_lays_226 (by decide) ?_
          refine lv_iadd hx hb dX8_lays_227 ?_
          obtain ⟨y228, q228, h⟩ := bd h
          refine k_iald C hw207 2 rfl q228 dX8_lays_228 ?_
          obtain ⟨g229, q229, h⟩ := bd h
          refine k_iast C hw207 2 rfl q229 [oX8 a g_undos g_listed g_papers g_length g_besides g_gapFirst g_gapLast g_layings g_first g_behind g_clauses g_drafts, ar cI (a 1) 5058 g_row, ar cI (a 9) 132 g229] rfl dX8_lays_229 (fun H locs hw229 => ?_)
          refine lv_aload_n hx hb dX8_lays_230 rfl (lv_at hl 1 rfl) ?_
          refine k_get C inT_X8 hw229 0 rfl rfl 8 (by decide) mF_X8_22 rfl dX8_lays_231 ?_
          refine lv_iconst (v := 3) hx hb dX8_lays_234 (by decide) ?_
          refine lv_iload hx hb dX8_lays_235 (lv_at hl 0 rfl) ?_
          refine lv_imul hx hb dX8_lays_237 ?_
          refine lv_iconst (v := 2) hx hb dX8_lays_238 (by decide) ?_
          refine lv_iadd hx hb dX8_lays_239 ?_
          refine lv_aload_n hx hb dX8_lays_240 rfl (lv_at hl 1 rfl) ?_
          refine k_get C inT_X8 hw229 0 rfl rfl 8 (by decide) mF_X8_22 rfl dX8_lays_241 ?_
          refine lv_iconst (v := 3) hx hb dX8_lays_244 (by decide) ?_
          refine lv_iload hx hb dX8_lays_245 (lv_at hl 2 rfl) ?_
          refine lv_imul hx hb dX8_lays_247 ?_
          refine lv_iconst (v := 2) hx hb dX8_lays_248 (by decide) ?_
          refine lv_iadd hx hb dX8_lays_249 ?_
          obtain ⟨y250, q250, h⟩ := bd h
          refine k_iald C hw229 2 rfl q250 dX8_lays_250 ?_
          obtain ⟨g251, q251, h⟩ := bd h
          refine k_iast C hw229 2 rfl q251 [oX8 a g_undos g_listed g_papers g_length g_besides g_gapFirst g_gapLast g_layings g_first g_behind g_clauses g_drafts, ar cI (a 1) 5058 g_row, ar cI (a 9) 132 g251] rfl dX8_lays_251 (fun H locs hw251 => ?_)
          refine lv_iinc (v := (x5 + 1)) (lv' := [(5, .int (x5 + 1)), (4, .int (x4 + 1)), (0, .ref (a 0))]) hx hb dX8_lays_252 hl (k := 2) rfl rfl (by decide) rfl (fun ls hl => ?_)
          refine lv_goto (tgt := 103) hx hb dX8_lays_255 (by decide) ?_
          exact ih _ _ _ _ _ _ hw251 (lv_sub hl [2, 1, 0] rfl) h
        · replace h := br_t' h c159
          refine lv_aload_n hx hb dX8_lays_162 rfl (lv_at hl 0 rfl) ?_
          refine k_get C inT_X8 hw 0 rfl rfl 8 (by decide) mF_X8_22 rfl dX8_lays_163 ?_
          refine lv_iconst (v := 3) hx hb dX8_lays_166 (by decide) ?_
          refine lv_iload hx hb dX8_lays_167 (lv_at hl 1 rfl) ?_
          refine lv_imul hx hb dX8_lays_169 ?_
          refine lv_iconst (v := 1) hx hb dX8_lays_170 (by decide) ?_
          refine lv_iadd hx hb dX8_lays_171 ?_
          refine lv_aload_n hx hb dX8_lays_172 rfl (lv_at hl 0 rfl) ?_
          refine k_get C inT_X8 hw 0 rfl rfl 8 (by decide) mF_X8_22 rfl dX8_lays_173 ?_
          refine lv_iconst (v := 3) hx hb dX8_lays_176 (by decide) ?_
          refine lv_iload hx hb dX8_lays_177 (lv_at hl 2 rfl) ?_
          refine lv_imul hx hb dX8_lays_179 ?_
          refine lv_iconst (v := 1) hx hb dX8_lays_180 (by decide) ?_
          refine lv_iadd hx hb dX8_lays_181 ?_
          obtain ⟨y182, q182, h⟩ := bd h
          refine k_iald C hw 2 rfl q182 dX8_lays_182 ?_
          obtain ⟨g183, q183, h⟩ := bd h
          refine k_iast C hw 2 rfl q183 [oX8 a g_undos g_listed g_papers g_length g_besides g_gapFirst g_gapLast g_layings g_first g_behind g_clauses g_drafts, ar cI (a 1) 5058 g_row, ar cI (a 9) 132 g183] rfl dX8_lays_183 (fun H locs hw183 => ?_)
          refine lv_goto (tgt := 252) hx hb dX8_lays_184 (by decide) ?_
          refine lv_iinc (v := (x5 + 1)) (lv' := [(5, .int (x5 + 1)), (0, .ref (a 0)), (4, .int x4)]) hx hb dX8_lays_252 hl (k := 2) rfl rfl (by decide) rfl (fun ls hl => ?_)
          refine lv_goto (tgt := 103) hx hb dX8_lays_255 (by decide) ?_
          exact ih _ _ _ _ _ _ hw183 (lv_sub hl [1, 2, 0] rfl) h
def fX8_lays (g_row : Nat → Int32) (g_beside : Nat → Int32) (g_besides : Int32) (x1 : Int32) (x2 : Int32) (x3 : Int32) : Option ((Nat → Int32) × Int32) :=
  fX8_lays_8 g_row x1 x2 FU (fun x4_8 g_beside_8 g_besides_8 =>
    if x3 = (-1) then
      fX8_lays_103 g_besides_8 FU (fun x4_103 x5_103 g_beside_103 =>
        if g_besides_8 = 0 then
          some (g_beside_103, 0)
        else
          some (g_beside_103, (x4_103 + 1))) 0 1 g_beside_8
    else
      (fX8_puts g_beside_8 g_besides_8 x1 x2 x3).bind fun r94 =>
      fX8_lays_103 r94.2 FU (fun x4_103 x5_103 g_beside_103 =>
        if r94.2 = 0 then
          some (g_beside_103, 0)
        else
          some (g_beside_103, (x4_103 + 1))) 0 1 r94.1) 0 g_beside 0
set_option maxRecDepth 100000 in
set_option maxHeartbeats 4000000 in
theorem tX8_lays {l : Launch} {D : va_G} {cI : ClassId} {cS : GS} {a : Nat → Nat} {g_row : Nat → Int32} {g_undos : Int32} {g_listed : Int32} {g_papers : Int32} {g_length : Int32} {g_beside : Nat → Int32} {g_besides : Int32} {g_gapFirst : Int32} {g_gapLast : Int32} {g_layings : Int32} {g_first : Int32} {g_behind : Int32} {g_clauses : Int32} {g_drafts : Int32} {x1 : Int32} {x2 : Int32} {x3 : Int32} {s0 : (Nat → Int32)} {s1 : Int32} (h : fX8_lays g_row g_beside g_besides x1 x2 x3 = some (s0, s1)) : CT l D cI cS yX8_lays cX8_lays 7 none rmX8_lays [.ref (a 0), .int x1, .int x2, .int x3] [oX8 a g_undos g_listed g_papers g_length g_besides g_gapFirst g_gapLast g_layings g_first g_behind g_clauses g_drafts, ar cI (a 1) 5058 g_row, ar cI (a 9) 132 g_beside] none [oX8 a g_undos g_listed g_papers g_length s1 g_gapFirst g_gapLast g_layings g_first g_behind g_clauses g_drafts, ar cI (a 1) 5058 g_row, ar cI (a 9) 132 s0] := by
  refine CT.of RX8 (by decide) rfl (Nat.le_of_ble_eq_true rfl) (fun p e s m below meth c ls A C hA hl hw => ?_)
  have hx := C.1.1
  have hb := C.1.2.1
  have hl : lv_has ls 7 [(0, .ref (a 0)), (1, .int x1), (2, .int x2), (3, .int x3)] := hl
  unfold fX8_lays at h
  refine lv_aload_n hx hb dX8_lays_0 rfl (lv_at hl 0 rfl) ?_
  refine lv_iconst (v := 0) hx hb dX8_lays_1 (by decide) ?_
  refine k_put C inT_X8 tyX8 tyX8_ok nmX8 hw 0 rfl rfl 9 (by decide) mF_X8_83 rfl rfl (Nat.le_of_ble_eq_true rfl) [oX8 a g_undos g_listed g_papers g_length 0 g_gapFirst g_gapLast g_layings g_first g_behind g_clauses g_drafts, ar cI (a 1) 5058 g_row, ar cI (a 9) 132 g_beside] rfl dX8_lays_2 (fun H locs hw2 => ?_)
  refine lv_iconst (v := 0) hx hb dX8_lays_5 (by decide) ?_
  refine lv_istore (lv' := [(4, .int 0), (0, .ref (a 0)), (1, .int x1), (2, .int x2), (3, .int x3)]) hx hb dX8_lays_6 hl (by decide) rfl (fun ls hl => ?_)
  refine wX8_lays_8 C hA _ (fun x4_8 g_beside_8 g_besides_8 H locs ls hw8x hl h => ?_) FU _ _ _ _ _ _ hw2 (lv_sub hl [1, 2, 3, 4, 0] rfl) h
  refine lv_iload_n hx hb dX8_lays_85 rfl (lv_at hl 3 rfl) ?_
  refine lv_iconst (v := (-1)) hx hb dX8_lays_86 (by decide) ?_
  refine lv_icmp_eq (tgt := 97) hx hb dX8_lays_87 (by decide) (fun c87 => ?_) (fun c87 => ?_)
  · replace h := br_t' h c87
    refine lv_iconst (v := 0) hx hb dX8_lays_97 (by decide) ?_
    refine lv_istore (lv' := [(4, .int 0), (0, .ref (a 0)), (1, .int x1), (2, .int x2), (3, .int x3)]) hx hb dX8_lays_98 hl (by decide) rfl (fun ls hl => ?_)
    refine lv_iconst (v := 1) hx hb dX8_lays_100 (by decide) ?_
    refine lv_istore (lv' := [(5, .int 1), (4, .int 0), (0, .ref (a 0)), (1, .int x1), (2, .int x2), (3, .int x3)]) hx hb dX8_lays_101 hl (by decide) rfl (fun ls hl => ?_)
    refine wX8_lays_103 C hA _ (fun x4_103 x5_103 g_beside_103 H locs ls hw103x hl h => ?_) FU _ _ _ _ _ _ hw8x (lv_sub hl [2, 1, 0] rfl) h
    refine lv_aload_n hx hb dX8_lays_258 rfl (lv_at hl 0 rfl) ?_
    refine lv_aload_n hx hb dX8_lays_259 rfl (lv_at hl 0 rfl) ?_
    refine k_get C inT_X8 hw103x 0 rfl rfl 9 (by decide) mF_X8_83 rfl dX8_lays_260 ?_
    refine lv_if_ne (tgt := 270) hx hb dX8_lays_263 (by decide) (fun c263 => ?_) (fun c263 => ?_)
    · replace h := br_f' h c263
      refine lv_iload hx hb dX8_lays_270 (lv_at hl 1 rfl) ?_
      refine lv_iconst (v := 1) hx hb dX8_lays_272 (by decide) ?_
      refine lv_iadd hx hb dX8_lays_273 ?_
      refine k_put C inT_X8 tyX8 tyX8_ok nmX8 hw103x 0 rfl rfl 9 (by decide) mF_X8_83 rfl rfl (Nat.le_of_ble_eq_true rfl) [oX8 a g_undos g_listed g_papers g_length (x4_103 + 1) g_gapFirst g_gapLast g_layings g_first g_behind g_clauses g_drafts, ar cI (a 1) 5058 g_row, ar cI (a 9) 132 g_beside_103] rfl dX8_lays_274 (fun H locs hw274 => ?_)
      cases h
      exact k_vret C hw274 dX8_lays_277
    · replace h := br_t' h c263
      refine lv_iconst (v := 0) hx hb dX8_lays_266 (by decide) ?_
      refine lv_goto (tgt := 274) hx hb dX8_lays_267 (by decide) ?_
      refine k_put C inT_X8 tyX8 tyX8_ok nmX8 hw103x 0 rfl rfl 9 (by decide) mF_X8_83 rfl rfl (Nat.le_of_ble_eq_true rfl) [oX8 a g_undos g_listed g_papers g_length 0 g_gapFirst g_gapLast g_layings g_first g_behind g_clauses g_drafts, ar cI (a 1) 5058 g_row, ar cI (a 9) 132 g_beside_103] rfl dX8_lays_274 (fun H locs hw274 => ?_)
      cases h
      exact k_vret C hw274 dX8_lays_277
  · replace h := br_f' h c87
    refine lv_aload_n hx hb dX8_lays_90 rfl (lv_at hl 0 rfl) ?_
    refine lv_iload_n hx hb dX8_lays_91 rfl (lv_at hl 1 rfl) ?_
    refine lv_iload_n hx hb dX8_lays_92 rfl (lv_at hl 2 rfl) ?_
    refine lv_iload_n hx hb dX8_lays_93 rfl (lv_at hl 3 rfl) ?_
    obtain ⟨r94, q94, h⟩ := bd h
    refine k_callV (nC := 3) [oX8 a g_undos g_listed g_papers g_length r94.2 g_gapFirst g_gapLast g_layings g_first g_behind g_clauses g_drafts, ar cI (a 1) 5058 g_row, ar cI (a 9) 132 r94.1] C hl.1 (tX8_puts (a := a) q94) mL_X8_86 mmX8_puts rfl rfl ⟨Nat.le_of_ble_eq_true rfl, Nat.le_of_ble_eq_true rfl⟩ rfl rfl rfl rfl (Nat.le_of_ble_eq_true rfl) hA hw8x [0, 2] [1] rfl (by decide +kernel) rfl rfl rfl rfl dX8_lays_94 (fun H locs hw94 => ?_)
    refine lv_iconst (v := 0) hx hb dX8_lays_97 (by decide) ?_
    refine lv_istore (lv' := [(4, .int 0), (0, .ref (a 0)), (1, .int x1), (2, .int x2), (3, .int x3)]) hx hb dX8_lays_98 hl (by decide) rfl (fun ls hl => ?_)
    refine lv_iconst (v := 1) hx hb dX8_lays_100 (by decide) ?_
    refine lv_istore (lv' := [(5, .int 1), (4, .int 0), (0, .ref (a 0)), (1, .int x1), (2, .int x2), (3, .int x3)]) hx hb dX8_lays_101 hl (by decide) rfl (fun ls hl => ?_)
    refine wX8_lays_103 C hA _ (fun x4_103 x5_103 g_beside_103 H locs ls hw103x hl h => ?_) FU _ _ _ _ _ _ hw94 (lv_sub hl [2, 1, 0] rfl) h
    refine lv_aload_n hx hb dX8_lays_258 rfl (lv_at hl 0 rfl) ?_
    refine lv_aload_n hx hb dX8_lays_259 rfl (lv_at hl 0 rfl) ?_
    refine k_get C inT_X8 hw103x 0 rfl rfl 9 (by decide) mF_X8_83 rfl dX8_lays_260 ?_
    refine lv_if_ne (tgt := 270) hx hb dX8_lays_263 (by decide) (fun c263 => ?_) (fun c263 => ?_)
    · replace h := br_f' h c263
      refine lv_iload hx hb dX8_lays_270 (lv_at hl 1 rfl) ?_
      refine lv_iconst (v := 1) hx hb dX8_lays_272 (by decide) ?_
      refine lv_iadd hx hb dX8_lays_273 ?_
      refine k_put C inT_X8 tyX8 tyX8_ok nmX8 hw103x 0 rfl rfl 9 (by decide) mF_X8_83 rfl rfl (Nat.le_of_ble_eq_true rfl) [oX8 a g_undos g_listed g_papers g_length (x4_103 + 1) g_gapFirst g_gapLast g_layings g_first g_behind g_clauses g_drafts, ar cI (a 1) 5058 g_row, ar cI (a 9) 132 g_beside_103] rfl dX8_lays_274 (fun H locs hw274 => ?_)
      cases h
      exact k_vret C hw274 dX8_lays_277
    · replace h := br_t' h c263
      refine lv_iconst (v := 0) hx hb dX8_lays_266 (by decide) ?_
      refine lv_goto (tgt := 274) hx hb dX8_lays_267 (by decide) ?_
      refine k_put C inT_X8 tyX8 tyX8_ok nmX8 hw103x 0 rfl rfl 9 (by decide) mF_X8_83 rfl rfl (Nat.le_of_ble_eq_true rfl) [oX8 a g_undos g_listed g_papers g_length 0 g_gapFirst g_gapLast g_layings g_first g_behind g_clauses g_drafts, ar cI (a 1) 5058 g_row, ar cI (a 9) 132 g_beside_103] rfl dX8_lays_274 (fun H locs hw274 => ?_)
      cases h
      exact k_vret C hw274 dX8_lays_277
def rmX8_fits : Room := { frames := 2, cells := 0, slots := 0, locals := 50 }
def fX8_fits_13 (g_beside : Nat → Int32) (g_besides : Int32) (x3 : Int32) : (n : Nat) → (k : Int64 → Int32 → Option (Int32 × (Nat → Int32) × Int32)) → Int64 → Int32 → Option (Int32 × (Nat → Int32) × Int32)
  | 0, _, _, _ => none
  | n + 1, k, x4, x6 =>
    if g_besides ≤ x6 then
      k x4 x6
    else
      if x3 = (-1) then
        fX8_fits_13 g_beside g_besides x3 n k (x4 + 0) (x6 + 1)
      else
        (ld 132 g_beside ((3 * x6) + 2)).bind fun y39 =>
        if y39 = x3 then
          (ld 132 g_beside ((3 * x6) + 1)).bind fun y54 =>
          (ld 132 g_beside (3 * x6)).bind fun y64 =>
          fX8_fits_13 g_beside g_besides x3 n k (x4 + ((y54.toInt64 - y64.toInt64) + 1)) (x6 + 1)
        else
          fX8_fits_13 g_beside g_besides x3 n k (x4 + 0) (x6 + 1)
set_option maxRecDepth 100000 in
set_option maxHeartbeats 4000000 in
theorem wX8_fits_13 {p : Program} {l : Launch} {e : Env} {s : State} {m : MethodId} {args : Array Value} {below : List Frame} {meth : Method} {c : Code} {D : va_G} {cI : ClassId} {cS : GS} {A : Nat → Prop} {a : Nat → Nat} {g_row : Nat → Int32} {g_undos : Int32} {g_listed : Int32} {g_papers : Int32} {g_length : Int32} {g_beside : Nat → Int32} {g_besides : Int32} {g_gapFirst : Int32} {g_gapLast : Int32} {g_layings : Int32} {g_first : Int32} {g_behind : Int32} {g_clauses : Int32} {g_drafts : Int32} {x3 : Int32} (C : MC p s m args meth c D cI cS A RX8 cX8_fits 7 (some .boolean)) (hA : ∀ q, s.heap.size ≤ q → A q) {s0 : Int32} {s1 : (Nat → Int32)} {s2 : Int32} (k : Int64 → Int32 → Option (Int32 × (Nat → Int32) × Int32)) (hk : ∀ (x4 : Int64) (x6 : Int32) (H : Heap) (locs : List Loc) (ls : Array Slot), Wd D A s.heap H locs [oX8 a g_undos g_listed g_papers g_length g_besides g_gapFirst g_gapLast g_layings g_first g_behind g_clauses g_drafts, ar cI (a 1) 5058 g_row, ar cI (a 9) 132 g_beside] → lv_has ls 7 [(0, .ref (a 0)), (3, .int x3), (4, .long x4), (6, .int x6)] → k x4 x6 = some (s0, s1, s2) → W p l e rmX8_fits s m args below meth c H locs 0 0 (KQ D A below args s (some (.int s0)) [oX8 a g_undos g_listed g_papers g_length s2 g_gapFirst g_gapLast g_layings g_first g_behind g_clauses g_drafts, ar cI (a 1) 5058 g_row, ar cI (a 9) 132 s1]) (F0 m 82 ls [])) :
    ∀ (n : Nat) (x4 : Int64) (x6 : Int32) (H : Heap) (locs : List Loc) (ls : Array Slot), Wd D A s.heap H locs [oX8 a g_undos g_listed g_papers g_length g_besides g_gapFirst g_gapLast g_layings g_first g_behind g_clauses g_drafts, ar cI (a 1) 5058 g_row, ar cI (a 9) 132 g_beside] → lv_has ls 7 [(0, .ref (a 0)), (3, .int x3), (4, .long x4), (6, .int x6)] → fX8_fits_13 g_beside g_besides x3 n k x4 x6 = some (s0, s1, s2) → W p l e rmX8_fits s m args below meth c H locs 0 0 (KQ D A below args s (some (.int s0)) [oX8 a g_undos g_listed g_papers g_length s2 g_gapFirst g_gapLast g_layings g_first g_behind g_clauses g_drafts, ar cI (a 1) 5058 g_row, ar cI (a 9) 132 s1]) (F0 m 13 ls []) := by
  have hx := C.1.1
  have hb := C.1.2.1
  intro n
  induction n with
  | zero =>
    intro x4 x6 H locs ls hw hl h
    rw [fX8_fits_13] at h
    cases h
  | succ n ih =>
    intro x4 x6 H locs ls hw hl h
    rw [fX8_fits_13] at h
    refine lv_iload hx hb dX8_fits_13 (lv_at hl 3 rfl) ?_
    refine lv_aload_n hx hb dX8_fits_15 rfl (lv_at hl 0 rfl) ?_
    refine k_get C inT_X8 hw 0 rfl rfl 9 (by decide) mF_X8_83 rfl dX8_fits_16 ?_
    refine lv_icmp_ge (tgt := 82) hx hb dX8_fits_19 (by decide) (fun c19 => ?_) (fun c19 => ?_)
    · replace h := br_t' h c19
      exact hk _ _ _ _ _ hw (lv_sub hl [0, 1, 2, 3] rfl) h
    · replace h := br_f' h c19
      refine lv_lload hx hb dX8_fits_22 (lv_at hl 2 rfl) ?_
      refine lv_iload_n hx hb dX8_fits_24 rfl (lv_at hl 1 rfl) ?_
      refine lv_iconst (v := (-1)) hx hb dX8_fits_25 (by decide) ?_
      refine lv_icmp_eq (tgt := 72) hx hb dX8_fits_26 (by decide) (fun c26 => ?_) (fun c26 => ?_)
      · replace h := br_t' h c26
        refine lv_lconst (v := 0) hx hb dX8_fits_72 (by decide) ?_
        refine lv_ladd hx hb dX8_fits_73 ?_
        refine lv_lstore (lv' := [(4, .long (x4 + 0)), (0, .ref (a 0)), (3, .int x3), (6, .int x6)]) hx hb dX8_fits_74 hl (by decide) rfl (fun ls hl => ?_)
        refine lv_iinc (v := (x6 + 1)) (lv' := [(6, .int (x6 + 1)), (4, .long (x4 + 0)), (0, .ref (a 0)), (3, .int x3)]) hx hb dX8_fits_76 hl (k := 3) rfl rfl (by decide) rfl (fun ls hl => ?_)
        refine lv_goto (tgt := 13) hx hb dX8_fits_79 (by decide) ?_
        exact ih _ _ _ _ _ hw (lv_sub hl [2, 3, 1, 0] rfl) h
      · replace h := br_f' h c26
        refine lv_aload_n hx hb dX8_fits_29 rfl (lv_at hl 0 rfl) ?_
        refine k_get C inT_X8 hw 0 rfl rfl 8 (by decide) mF_X8_22 rfl dX8_fits_30 ?_
        refine lv_iconst (v := 3) hx hb dX8_fits_33 (by decide) ?_
        refine lv_iload hx hb dX8_fits_34 (lv_at hl 3 rfl) ?_
        refine lv_imul hx hb dX8_fits_36 ?_
        refine lv_iconst (v := 2) hx hb dX8_fits_37 (by decide) ?_
        refine lv_iadd hx hb dX8_fits_38 ?_
        obtain ⟨y39, q39, h⟩ := bd h
        refine k_iald C hw 2 rfl q39 dX8_fits_39 ?_
        refine lv_iload_n hx hb dX8_fits_40 rfl (lv_at hl 1 rfl) ?_
        refine lv_icmp_ne (tgt := 72) hx hb dX8_fits_41 (by decide) (fun c41 => ?_) (fun c41 => ?_)
        · replace h := br_f' h c41
          refine lv_lconst (v := 0) hx hb dX8_fits_72 (by decide) ?_
          refine lv_ladd hx hb dX8_fits_73 ?_
          refine lv_lstore (lv' := [(4, .long (x4 + 0)), (0, .ref (a 0)), (3, .int x3), (6, .int x6)]) hx hb dX8_fits_74 hl (by decide) rfl (fun ls hl => ?_)
          refine lv_iinc (v := (x6 + 1)) (lv' := [(6, .int (x6 + 1)), (4, .long (x4 + 0)), (0, .ref (a 0)), (3, .int x3)]) hx hb dX8_fits_76 hl (k := 3) rfl rfl (by decide) rfl (fun ls hl => ?_)
          refine lv_goto (tgt := 13) hx hb dX8_fits_79 (by decide) ?_
          exact ih _ _ _ _ _ hw (lv_sub hl [2, 3, 1, 0] rfl) h
        · replace h := br_t' h c41
          refine lv_aload_n hx hb dX8_fits_44 rfl (lv_at hl 0 rfl) ?_
          refine k_get C inT_X8 hw 0 rfl rfl 8 (by decide) mF_X8_22 rfl dX8_fits_45 ?_
          refine lv_iconst (v := 3) hx hb dX8_fits_48 (by decide) ?_
          refine lv_iload hx hb dX8_fits_49 (lv_at hl 3 rfl) ?_
          refine lv_imul hx hb dX8_fits_51 ?_
          refine lv_iconst (v := 1) hx hb dX8_fits_52 (by decide) ?_
          refine lv_iadd hx hb dX8_fits_53 ?_
          obtain ⟨y54, q54, h⟩ := bd h
          refine k_iald C hw 2 rfl q54 dX8_fits_54 ?_
          refine lv_i2l (v := y54.toInt64) hx hb dX8_fits_55 rfl ?_
          refine lv_aload_n hx hb dX8_fits_56 rfl (lv_at hl 0 rfl) ?_
          refine k_get C inT_X8 hw 0 rfl rfl 8 (by decide) mF_X8_22 rfl dX8_fits_57 ?_
          refine lv_iconst (v := 3) hx hb dX8_fits_60 (by decide) ?_
          refine lv_iload hx hb dX8_fits_61 (lv_at hl 3 rfl) ?_
          refine lv_imul hx hb dX8_fits_63 ?_
          obtain ⟨y64, q64, h⟩ := bd h
          refine k_iald C hw 2 rfl q64 dX8_fits_64 ?_
          refine lv_i2l (v := y64.toInt64) hx hb dX8_fits_65 rfl ?_
          refine lv_lsub hx hb dX8_fits_66 ?_
          refine lv_lconst (v := 1) hx hb dX8_fits_67 (by decide) ?_
          refine lv_ladd hx hb dX8_fits_68 ?_
          refine lv_goto (tgt := 73) hx hb dX8_fits_69 (by decide) ?_
          refine lv_ladd hx hb dX8_fits_73 ?_
          refine lv_lstore (lv' := [(4, .long (x4 + ((y54.toInt64 - y64.toInt64) + 1))), (0, .ref (a 0)), (3, .int x3), (6, .int x6)]) hx hb dX8_fits_74 hl (by decide) rfl (fun ls hl => ?_)
          refine lv_iinc (v := (x6 + 1)) (lv' := [(6, .int (x6 + 1)), (4, .long (x4 + ((y54.toInt64 - y64.toInt64) + 1))), (0, .ref (a 0)), (3, .int x3)]) hx hb dX8_fits_76 hl (k := 3) rfl rfl (by decide) rfl (fun ls hl => ?_)
          refine lv_goto (tgt := 13) hx hb dX8_fits_79 (by decide) ?_
          exact ih _ _ _ _ _ hw (lv_sub hl [2, 3, 1, 0] rfl) h
def fX8_fits (g_row : Nat → Int32) (g_beside : Nat → Int32) (g_besides : Int32) (x1 : Int32) (x2 : Int32) (x3 : Int32) : Option (Int32 × (Nat → Int32) × Int32) :=
  (fX8_lays g_row g_beside g_besides x1 x2 x3).bind fun r4 =>
  fX8_fits_13 r4.1 r4.2 x3 FU (fun x4_13 x6_13 =>
    if x3 = (-1) then
      if 40 < r4.2 then
        some (0, r4.1, r4.2)
      else
        (ld 5058 g_row 2).bind fun y117 =>
        if 100 ≤ y117 then
          some (0, r4.1, r4.2)
        else
          some (1, r4.1, r4.2)
    else
      (ld 5058 g_row (34 + x3)).bind fun y97 =>
      if 0 < (lg_cmp x4_13 y97.toInt64) then
        some (0, r4.1, r4.2)
      else
        if 40 < r4.2 then
          some (0, r4.1, r4.2)
        else
          (ld 5058 g_row 2).bind fun y117 =>
          if 100 ≤ y117 then
            some (0, r4.1, r4.2)
          else
            some (1, r4.1, r4.2)) 0 0
set_option maxRecDepth 100000 in
set_option maxHeartbeats 4000000 in
theorem tX8_fits {l : Launch} {D : va_G} {cI : ClassId} {cS : GS} {a : Nat → Nat} {g_row : Nat → Int32} {g_undos : Int32} {g_listed : Int32} {g_papers : Int32} {g_length : Int32} {g_beside : Nat → Int32} {g_besides : Int32} {g_gapFirst : Int32} {g_gapLast : Int32} {g_layings : Int32} {g_first : Int32} {g_behind : Int32} {g_clauses : Int32} {g_drafts : Int32} {x1 : Int32} {x2 : Int32} {x3 : Int32} {s0 : Int32} {s1 : (Nat → Int32)} {s2 : Int32} (h : fX8_fits g_row g_beside g_besides x1 x2 x3 = some (s0, s1, s2)) : CT l D cI cS yX8_fits cX8_fits 7 (some .boolean) rmX8_fits [.ref (a 0), .int x1, .int x2, .int x3] [oX8 a g_undos g_listed g_papers g_length g_besides g_gapFirst g_gapLast g_layings g_first g_behind g_clauses g_drafts, ar cI (a 1) 5058 g_row, ar cI (a 9) 132 g_beside] (some (.int s0)) [oX8 a g_undos g_listed g_papers g_length s2 g_gapFirst g_gapLast g_layings g_first g_behind g_clauses g_drafts, ar cI (a 1) 5058 g_row, ar cI (a 9) 132 s1] := by
  refine CT.of RX8 (by decide) rfl (Nat.le_of_ble_eq_true rfl) (fun p e s m below meth c ls A C hA hl hw => ?_)
  have hx := C.1.1
  have hb := C.1.2.1
  have hl : lv_has ls 7 [(0, .ref (a 0)), (1, .int x1), (2, .int x2), (3, .int x3)] := hl
  unfold fX8_fits at h
  refine lv_aload_n hx hb dX8_fits_0 rfl (lv_at hl 0 rfl) ?_
  refine lv_iload_n hx hb dX8_fits_1 rfl (lv_at hl 1 rfl) ?_
  refine lv_iload_n hx hb dX8_fits_2 rfl (lv_at hl 2 rfl) ?_
  refine lv_iload_n hx hb dX8_fits_3 rfl (lv_at hl 3 rfl) ?_
  obtain ⟨r4, q4, h⟩ := bd h
  refine k_callV (nC := 3) [oX8 a g_undos g_listed g_papers g_length r4.2 g_gapFirst g_gapLast g_layings g_first g_behind g_clauses g_drafts, ar cI (a 1) 5058 g_row, ar cI (a 9) 132 r4.1] C hl.1 (tX8_lays (a := a) q4) mL_X8_90 mmX8_lays rfl rfl ⟨Nat.le_of_ble_eq_true rfl, Nat.le_of_ble_eq_true rfl⟩ rfl rfl rfl rfl (Nat.le_of_ble_eq_true rfl) hA hw [0, 1, 2] [] rfl (by decide +kernel) rfl rfl rfl rfl dX8_fits_4 (fun H locs hw4 => ?_)
  refine lv_lconst (v := 0) hx hb dX8_fits_7 (by decide) ?_
  refine lv_lstore (lv' := [(4, .long 0), (0, .ref (a 0)), (1, .int x1), (2, .int x2), (3, .int x3)]) hx hb dX8_fits_8 hl (by decide) rfl (fun ls hl => ?_)
  refine lv_iconst (v := 0) hx hb dX8_fits_10 (by decide) ?_
  refine lv_istore (lv' := [(6, .int 0), (4, .long 0), (0, .ref (a 0)), (1, .int x1), (2, .int x2), (3, .int x3)]) hx hb dX8_fits_11 hl (by decide) rfl (fun ls hl => ?_)
  refine wX8_fits_13 C hA _ (fun x4_13 x6_13 H locs ls hw13x hl h => ?_) FU _ _ _ _ _ hw4 (lv_sub hl [2, 5, 1, 0] rfl) h
  refine lv_iload_n hx hb dX8_fits_82 rfl (lv_at hl 1 rfl) ?_
  refine lv_iconst (v := (-1)) hx hb dX8_fits_83 (by decide) ?_
  refine lv_icmp_eq (tgt := 103) hx hb dX8_fits_84 (by decide) (fun c84 => ?_) (fun c84 => ?_)
  · replace h := br_t' h c84
    refine lv_aload_n hx hb dX8_fits_103 rfl (lv_at hl 0 rfl) ?_
    refine k_get C inT_X8 hw13x 0 rfl rfl 9 (by decide) mF_X8_83 rfl dX8_fits_104 ?_
    refine lv_bipush (v := 40) hx hb dX8_fits_107 (by decide) ?_
    refine lv_icmp_gt (tgt := 127) hx hb dX8_fits_109 (by decide) (fun c109 => ?_) (fun c109 => ?_)
    · replace h := br_t' h c109
      refine lv_iconst (v := 0) hx hb dX8_fits_127 (by decide) ?_
      cases h
      exact k_zret (v := 0) C rfl hw13x dX8_fits_128
    · replace h := br_f' h c109
      refine lv_aload_n hx hb dX8_fits_112 rfl (lv_at hl 0 rfl) ?_
      refine k_get C inT_X8 hw13x 0 rfl rfl 0 (by decide) mF_X8_7 rfl dX8_fits_113 ?_
      refine lv_iconst (v := 2) hx hb dX8_fits_116 (by decide) ?_
      obtain ⟨y117, q117, h⟩ := bd h
      refine k_iald C hw13x 1 rfl q117 dX8_fits_117 ?_
      refine lv_bipush (v := 100) hx hb dX8_fits_118 (by decide) ?_
      refine lv_icmp_ge (tgt := 127) hx hb dX8_fits_120 (by decide) (fun c120 => ?_) (fun c120 => ?_)
      · replace h := br_t' h c120
        refine lv_iconst (v := 0) hx hb dX8_fits_127 (by decide) ?_
        cases h
        exact k_zret (v := 0) C rfl hw13x dX8_fits_128
      · replace h := br_f' h c120
        refine lv_iconst (v := 1) hx hb dX8_fits_123 (by decide) ?_
        refine lv_goto (tgt := 128) hx hb dX8_fits_124 (by decide) ?_
        cases h
        exact k_zret (v := 1) C rfl hw13x dX8_fits_128
  · replace h := br_f' h c84
    refine lv_lload hx hb dX8_fits_87 (lv_at hl 2 rfl) ?_
    refine lv_aload_n hx hb dX8_fits_89 rfl (lv_at hl 0 rfl) ?_
    refine k_get C inT_X8 hw13x 0 rfl rfl 0 (by decide) mF_X8_7 rfl dX8_fits_90 ?_
    refine lv_bipush (v := 34) hx hb dX8_fits_93 (by decide) ?_
    refine lv_iload_n hx hb dX8_fits_95 rfl (lv_at hl 1 rfl) ?_
    refine lv_iadd hx hb dX8_fits_96 ?_
    obtain ⟨y97, q97, h⟩ := bd h
    refine k_iald C hw13x 1 rfl q97 dX8_fits_97 ?_
    refine lv_i2l (v := y97.toInt64) hx hb dX8_fits_98 rfl ?_
    refine W.lcmp hx hb dX8_fits_99 ?_
    refine lv_if_gt (tgt := 127) hx hb dX8_fits_100 (by decide) (fun c100 => ?_) (fun c100 => ?_)
    · replace h := br_t' h c100
      refine lv_iconst (v := 0) hx hb dX8_fits_127 (by decide) ?_
      cases h
      exact k_zret (v := 0) C rfl hw13x dX8_fits_128
    · replace h := br_f' h c100
      refine lv_aload_n hx hb dX8_fits_103 rfl (lv_at hl 0 rfl) ?_
      refine k_get C inT_X8 hw13x 0 rfl rfl 9 (by decide) mF_X8_83 rfl dX8_fits_104 ?_
      refine lv_bipush (v := 40) hx hb dX8_fits_107 (by decide) ?_
      refine lv_icmp_gt (tgt := 127) hx hb dX8_fits_109 (by decide) (fun c109 => ?_) (fun c109 => ?_)
      · replace h := br_t' h c109
        refine lv_iconst (v := 0) hx hb dX8_fits_127 (by decide) ?_
        cases h
        exact k_zret (v := 0) C rfl hw13x dX8_fits_128
      · replace h := br_f' h c109
        refine lv_aload_n hx hb dX8_fits_112 rfl (lv_at hl 0 rfl) ?_
        refine k_get C inT_X8 hw13x 0 rfl rfl 0 (by decide) mF_X8_7 rfl dX8_fits_113 ?_
        refine lv_iconst (v := 2) hx hb dX8_fits_116 (by decide) ?_
        obtain ⟨y117, q117, h⟩ := bd h
        refine k_iald C hw13x 1 rfl q117 dX8_fits_117 ?_
        refine lv_bipush (v := 100) hx hb dX8_fits_118 (by decide) ?_
        refine lv_icmp_ge (tgt := 127) hx hb dX8_fits_120 (by decide) (fun c120 => ?_) (fun c120 => ?_)
        · replace h := br_t' h c120
          refine lv_iconst (v := 0) hx hb dX8_fits_127 (by decide) ?_
          cases h
          exact k_zret (v := 0) C rfl hw13x dX8_fits_128
        · replace h := br_f' h c120
          refine lv_iconst (v := 1) hx hb dX8_fits_123 (by decide) ?_
          refine lv_goto (tgt := 128) hx hb dX8_fits_124 (by decide) ?_
          cases h
          exact k_zret (v := 1) C rfl hw13x dX8_fits_128
def rmX8_moves : Room := { frames := 0, cells := 0, slots := 0, locals := 0 }
def fX8_moves_13 (g_beside : Nat → Int32) (g_besides : Int32) : (n : Nat) → (k : Int32 → (Nat → Int32) → Option ((Nat → Int32))) → Int32 → (Nat → Int32) → Option ((Nat → Int32))
  | 0, _, _, _ => none
  | n + 1, k, x4, g_row =>
    if (3 * g_besides) ≤ x4 then
      k x4 g_row
    else
      (ld 132 g_beside x4).bind fun y39 =>
      (sv 5058 g_row (42 + x4) y39).bind fun g40 =>
      fX8_moves_13 g_beside g_besides n k (x4 + 1) g40
set_option maxRecDepth 100000 in
set_option maxHeartbeats 4000000 in
theorem wX8_moves_13 {p : Program} {l : Launch} {e : Env} {s : State} {m : MethodId} {args : Array Value} {below : List Frame} {meth : Method} {c : Code} {D : va_G} {cI : ClassId} {cS : GS} {A : Nat → Prop} {a : Nat → Nat} {g_undos : Int32} {g_listed : Int32} {g_papers : Int32} {g_length : Int32} {g_beside : Nat → Int32} {g_besides : Int32} {g_gapFirst : Int32} {g_gapLast : Int32} {g_layings : Int32} {g_first : Int32} {g_behind : Int32} {g_clauses : Int32} {g_drafts : Int32} {x1 : Int32} {x2 : Int32} {x3 : Int32} (C : MC p s m args meth c D cI cS A RX8 cX8_moves 5 none) (hA : ∀ q, s.heap.size ≤ q → A q) {s0 : (Nat → Int32)} (k : Int32 → (Nat → Int32) → Option ((Nat → Int32))) (hk : ∀ (x4 : Int32) (g_row : Nat → Int32) (H : Heap) (locs : List Loc) (ls : Array Slot), Wd D A s.heap H locs [oX8 a g_undos g_listed g_papers g_length g_besides g_gapFirst g_gapLast g_layings g_first g_behind g_clauses g_drafts, ar cI (a 1) 5058 g_row, ar cI (a 9) 132 g_beside] → lv_has ls 5 [(0, .ref (a 0)), (1, .int x1), (2, .int x2), (3, .int x3), (4, .int x4)] → k x4 g_row = some s0 → W p l e rmX8_moves s m args below meth c H locs 0 0 (KQ D A below args s none [oX8 a g_undos g_listed g_papers g_length g_besides g_gapFirst g_gapLast g_layings g_first g_behind g_clauses g_drafts, ar cI (a 1) 5058 s0, ar cI (a 9) 132 g_beside]) (F0 m 47 ls [])) :
    ∀ (n : Nat) (x4 : Int32) (g_row : Nat → Int32) (H : Heap) (locs : List Loc) (ls : Array Slot), Wd D A s.heap H locs [oX8 a g_undos g_listed g_papers g_length g_besides g_gapFirst g_gapLast g_layings g_first g_behind g_clauses g_drafts, ar cI (a 1) 5058 g_row, ar cI (a 9) 132 g_beside] → lv_has ls 5 [(0, .ref (a 0)), (1, .int x1), (2, .int x2), (3, .int x3), (4, .int x4)] → fX8_moves_13 g_beside g_besides n k x4 g_row = some s0 → W p l e rmX8_moves s m args below meth c H locs 0 0 (KQ D A below args s none [oX8 a g_undos g_listed g_papers g_length g_besides g_gapFirst g_gapLast g_layings g_first g_behind g_clauses g_drafts, ar cI (a 1) 5058 s0, ar cI (a 9) 132 g_beside]) (F0 m 13 ls []) := by
  have hx := C.1.1
  have hb := C.1.2.1
  intro n
  induction n with
  | zero =>
    intro x4 g_row H locs ls hw hl h
    rw [fX8_moves_13] at h
    cases h
  | succ n ih =>
    intro x4 g_row H locs ls hw hl h
    rw [fX8_moves_13] at h
    refine lv_iload hx hb dX8_moves_13 (lv_at hl 4 rfl) ?_
    refine lv_iconst (v := 3) hx hb dX8_moves_15 (by decide) ?_
    refine lv_aload_n hx hb dX8_moves_16 rfl (lv_at hl 0 rfl) ?_
    refine k_get C inT_X8 hw 0 rfl rfl 9 (by decide) mF_X8_83 rfl dX8_moves_17 ?_
    refine lv_imul hx hb dX8_moves_20 ?_
    refine lv_icmp_ge (tgt := 47) hx hb dX8_moves_21 (by decide) (fun c21 => ?_) (fun c21 => ?_)
    · replace h := br_t' h c21
      exact hk _ _ _ _ _ hw (lv_sub hl [0, 1, 2, 3, 4] rfl) h
    · replace h := br_f' h c21
      refine lv_aload_n hx hb dX8_moves_24 rfl (lv_at hl 0 rfl) ?_
      refine k_get C inT_X8 hw 0 rfl rfl 0 (by decide) mF_X8_7 rfl dX8_moves_25 ?_
      refine lv_bipush (v := 42) hx hb dX8_moves_28 (by decide) ?_
      refine lv_iload hx hb dX8_moves_30 (lv_at hl 4 rfl) ?_
      refine lv_iadd hx hb dX8_moves_32 ?_
      refine lv_aload_n hx hb dX8_moves_33 rfl (lv_at hl 0 rfl) ?_
      refine k_get C inT_X8 hw 0 rfl rfl 8 (by decide) mF_X8_22 rfl dX8_moves_34 ?_
      refine lv_iload hx hb dX8_moves_37 (lv_at hl 4 rfl) ?_
      obtain ⟨y39, q39, h⟩ := bd h
      refine k_iald C hw 2 rfl q39 dX8_moves_39 ?_
      obtain ⟨g40, q40, h⟩ := bd h
      refine k_iast C hw 1 rfl q40 [oX8 a g_undos g_listed g_papers g_length g_besides g_gapFirst g_gapLast g_layings g_first g_behind g_clauses g_drafts, ar cI (a 1) 5058 g40, ar cI (a 9) 132 g_beside] rfl dX8_moves_40 (fun H locs hw40 => ?_)
      refine lv_iinc (v := (x4 + 1)) (lv' := [(4, .int (x4 + 1)), (0, .ref (a 0)), (1, .int x1), (2, .int x2), (3, .int x3)]) hx hb dX8_moves_41 hl (k := 4) rfl rfl (by decide) rfl (fun ls hl => ?_)
      refine lv_goto (tgt := 13) hx hb dX8_moves_44 (by decide) ?_
      exact ih _ _ _ _ _ hw40 (lv_sub hl [1, 2, 3, 4, 0] rfl) h
def fX8_moves (g_row : Nat → Int32) (g_beside : Nat → Int32) (g_besides : Int32) (x1 : Int32) (x2 : Int32) (x3 : Int32) : Option ((Nat → Int32)) :=
  (sv 5058 g_row 1 g_besides).bind fun g9 =>
  fX8_moves_13 g_beside g_besides FU (fun x4_13 g_row_13 =>
    (ld 5058 g_row_13 2).bind fun y56 =>
    (ld 5058 g_row_13 3).bind fun y72 =>
    (sv 5058 g_row_13 (162 + (4 * y56)) y72).bind fun g73 =>
    (sv 5058 g73 ((162 + (4 * y56)) + 1) x1).bind fun g83 =>
    (sv 5058 g83 ((162 + (4 * y56)) + 2) x2).bind fun g93 =>
    (sv 5058 g93 ((162 + (4 * y56)) + 3) x3).bind fun g103 =>
    (ld 5058 g103 2).bind fun y110 =>
    (sv 5058 g103 2 (y110 + 1)).bind fun g113 =>
    some g113) 0 g9
set_option maxRecDepth 100000 in
set_option maxHeartbeats 4000000 in
theorem tX8_moves {l : Launch} {D : va_G} {cI : ClassId} {cS : GS} {a : Nat → Nat} {g_row : Nat → Int32} {g_undos : Int32} {g_listed : Int32} {g_papers : Int32} {g_length : Int32} {g_beside : Nat → Int32} {g_besides : Int32} {g_gapFirst : Int32} {g_gapLast : Int32} {g_layings : Int32} {g_first : Int32} {g_behind : Int32} {g_clauses : Int32} {g_drafts : Int32} {x1 : Int32} {x2 : Int32} {x3 : Int32} {s0 : (Nat → Int32)} (h : fX8_moves g_row g_beside g_besides x1 x2 x3 = some s0) : CT l D cI cS yX8_moves cX8_moves 5 none rmX8_moves [.ref (a 0), .int x1, .int x2, .int x3] [oX8 a g_undos g_listed g_papers g_length g_besides g_gapFirst g_gapLast g_layings g_first g_behind g_clauses g_drafts, ar cI (a 1) 5058 g_row, ar cI (a 9) 132 g_beside] none [oX8 a g_undos g_listed g_papers g_length g_besides g_gapFirst g_gapLast g_layings g_first g_behind g_clauses g_drafts, ar cI (a 1) 5058 s0, ar cI (a 9) 132 g_beside] := by
  refine CT.of RX8 (by decide) rfl (Nat.le_of_ble_eq_true rfl) (fun p e s m below meth c ls A C hA hl hw => ?_)
  have hx := C.1.1
  have hb := C.1.2.1
  have hl : lv_has ls 5 [(0, .ref (a 0)), (1, .int x1), (2, .int x2), (3, .int x3)] := hl
  unfold fX8_moves at h
  refine lv_aload_n hx hb dX8_moves_0 rfl (lv_at hl 0 rfl) ?_
  refine k_get C inT_X8 hw 0 rfl rfl 0 (by decide) mF_X8_7 rfl dX8_moves_1 ?_
  refine lv_iconst (v := 1) hx hb dX8_moves_4 (by decide) ?_
  refine lv_aload_n hx hb dX8_moves_5 rfl (lv_at hl 0 rfl) ?_
  refine k_get C inT_X8 hw 0 rfl rfl 9 (by decide) mF_X8_83 rfl dX8_moves_6 ?_
  obtain ⟨g9, q9, h⟩ := bd h
  refine k_iast C hw 1 rfl q9 [oX8 a g_undos g_listed g_papers g_length g_besides g_gapFirst g_gapLast g_layings g_first g_behind g_clauses g_drafts, ar cI (a 1) 5058 g9, ar cI (a 9) 132 g_beside] rfl dX8_moves_9 (fun H locs hw9 => ?_)
  refine lv_iconst (v := 0) hx hb dX8_moves_10 (by decide) ?_
  refine lv_istore (lv' := [(4, .int 0), (0, .ref (a 0)), (1, .int x1), (2, .int x2), (3, .int x3)]) hx hb dX8_moves_11 hl (by decide) rfl (fun ls hl => ?_)
  refine wX8_moves_13 C hA _ (fun x4_13 g_row_13 H locs ls hw13x hl h => ?_) FU _ _ _ _ _ hw9 (lv_sub hl [1, 2, 3, 4, 0] rfl) h
  refine lv_sipush (v := 162) hx hb dX8_moves_47 (by decide) ?_
  refine lv_iconst (v := 4) hx hb dX8_moves_50 (by decide) ?_
  refine lv_aload_n hx hb dX8_moves_51 rfl (lv_at hl 0 rfl) ?_
  refine k_get C inT_X8 hw13x 0 rfl rfl 0 (by decide) mF_X8_7 rfl dX8_moves_52 ?_
  refine lv_iconst (v := 2) hx hb dX8_moves_55 (by decide) ?_
  obtain ⟨y56, q56, h⟩ := bd h
  refine k_iald C hw13x 1 rfl q56 dX8_moves_56 ?_
  refine lv_imul hx hb dX8_moves_57 ?_
  refine lv_iadd hx hb dX8_moves_58 ?_
  refine lv_istore (lv' := [(4, .int (162 + (4 * y56))), (0, .ref (a 0)), (1, .int x1), (2, .int x2), (3, .int x3)]) hx hb dX8_moves_59 hl (by decide) rfl (fun ls hl => ?_)
  refine lv_aload_n hx hb dX8_moves_61 rfl (lv_at hl 1 rfl) ?_
  refine k_get C inT_X8 hw13x 0 rfl rfl 0 (by decide) mF_X8_7 rfl dX8_moves_62 ?_
  refine lv_iload hx hb dX8_moves_65 (lv_at hl 0 rfl) ?_
  refine lv_aload_n hx hb dX8_moves_67 rfl (lv_at hl 1 rfl) ?_
  refine k_get C inT_X8 hw13x 0 rfl rfl 0 (by decide) mF_X8_7 rfl dX8_moves_68 ?_
  refine lv_iconst (v := 3) hx hb dX8_moves_71 (by decide) ?_
  obtain ⟨y72, q72, h⟩ := bd h
  refine k_iald C hw13x 1 rfl q72 dX8_moves_72 ?_
  obtain ⟨g73, q73, h⟩ := bd h
  refine k_iast C hw13x 1 rfl q73 [oX8 a g_undos g_listed g_papers g_length g_besides g_gapFirst g_gapLast g_layings g_first g_behind g_clauses g_drafts, ar cI (a 1) 5058 g73, ar cI (a 9) 132 g_beside] rfl dX8_moves_73 (fun H locs hw73 => ?_)
  refine lv_aload_n hx hb dX8_moves_74 rfl (lv_at hl 1 rfl) ?_
  refine k_get C inT_X8 hw73 0 rfl rfl 0 (by decide) mF_X8_7 rfl dX8_moves_75 ?_
  refine lv_iload hx hb dX8_moves_78 (lv_at hl 0 rfl) ?_
  refine lv_iconst (v := 1) hx hb dX8_moves_80 (by decide) ?_
  refine lv_iadd hx hb dX8_moves_81 ?_
  refine lv_iload_n hx hb dX8_moves_82 rfl (lv_at hl 2 rfl) ?_
  obtain ⟨g83, q83, h⟩ := bd h
  refine k_iast C hw73 1 rfl q83 [oX8 a g_undos g_listed g_papers g_length g_besides g_gapFirst g_gapLast g_layings g_first g_behind g_clauses g_drafts, ar cI (a 1) 5058 g83, ar cI (a 9) 132 g_beside] rfl dX8_moves_83 (fun H locs hw83 => ?_)
  refine lv_aload_n hx hb dX8_moves_84 rfl (lv_at hl 1 rfl) ?_
  refine k_get C inT_X8 hw83 0 rfl rfl 0 (by decide) mF_X8_7 rfl dX8_moves_85 ?_
  refine lv_iload hx hb dX8_moves_88 (lv_at hl 0 rfl) ?_
  refine lv_iconst (v := 2) hx hb dX8_moves_90 (by decide) ?_
  refine lv_iadd hx hb dX8_moves_91 ?_
  refine lv_iload_n hx hb dX8_moves_92 rfl (lv_at hl 3 rfl) ?_
  obtain ⟨g93, q93, h⟩ := bd h
  refine k_iast C hw83 1 rfl q93 [oX8 a g_undos g_listed g_papers g_length g_besides g_gapFirst g_gapLast g_layings g_first g_behind g_clauses g_drafts, ar cI (a 1) 5058 g93, ar cI (a 9) 132 g_beside] rfl dX8_moves_93 (fun H locs hw93 => ?_)
  refine lv_aload_n hx hb dX8_moves_94 rfl (lv_at hl 1 rfl) ?_
  refine k_get C inT_X8 hw93 0 rfl rfl 0 (by decide) mF_X8_7 rfl dX8_moves_95 ?_
  refine lv_iload hx hb dX8_moves_98 (lv_at hl 0 rfl) ?_
  refine lv_iconst (v := 3) hx hb dX8_moves_100 (by decide) ?_
  refine lv_iadd hx hb dX8_moves_101 ?_
  refine lv_iload_n hx hb dX8_moves_102 rfl (lv_at hl 4 rfl) ?_
  obtain ⟨g103, q103, h⟩ := bd h
  refine k_iast C hw93 1 rfl q103 [oX8 a g_undos g_listed g_papers g_length g_besides g_gapFirst g_gapLast g_layings g_first g_behind g_clauses g_drafts, ar cI (a 1) 5058 g103, ar cI (a 9) 132 g_beside] rfl dX8_moves_103 (fun H locs hw103 => ?_)
  refine lv_aload_n hx hb dX8_moves_104 rfl (lv_at hl 1 rfl) ?_
  refine k_get C inT_X8 hw103 0 rfl rfl 0 (by decide) mF_X8_7 rfl dX8_moves_105 ?_
  refine lv_iconst (v := 2) hx hb dX8_moves_108 (by decide) ?_
  refine lv_dup2_11 hx hb dX8_moves_109 rfl rfl ?_
  obtain ⟨y110, q110, h⟩ := bd h
  refine k_iald C hw103 1 rfl q110 dX8_moves_110 ?_
  refine lv_iconst (v := 1) hx hb dX8_moves_111 (by decide) ?_
  refine lv_iadd hx hb dX8_moves_112 ?_
  obtain ⟨g113, q113, h⟩ := bd h
  refine k_iast C hw103 1 rfl q113 [oX8 a g_undos g_listed g_papers g_length g_besides g_gapFirst g_gapLast g_layings g_first g_behind g_clauses g_drafts, ar cI (a 1) 5058 g113, ar cI (a 9) 132 g_beside] rfl dX8_moves_113 (fun H locs hw113 => ?_)
  cases h
  exact k_vret C hw113 dX8_moves_114
def rmX8_ownIn : Room := { frames := 2, cells := 0, slots := 0, locals := 46 }
def fX8_ownIn_33 (g_row : Nat → Int32) (x1 : Int32) (x2 : Int32) (x3 : Int32) : (n : Nat) → (k : Int32 → Int32 → Option (Int32)) → Int32 → Int32 → Option (Int32)
  | 0, _, _, _ => none
  | n + 1, k, x4, x5 =>
    (ld 5058 g_row 0).bind fun y40 =>
    if y40 ≤ x5 then
      k x4 x5
    else
      (fX8_parent g_row x5).bind fun r49 =>
      if r49 = x1 then
        (fX8_firstOf g_row x5).bind fun r59 =>
        (fX8_lastOf g_row x5).bind fun r65 =>
        (fX8_common r59 r65 x2 x3).bind fun r70 =>
        fX8_ownIn_33 g_row x1 x2 x3 n k (x4 - r70) (x5 + 1)
      else
        fX8_ownIn_33 g_row x1 x2 x3 n k (x4 - 0) (x5 + 1)
set_option maxRecDepth 100000 in
set_option maxHeartbeats 4000000 in
theorem wX8_ownIn_33 {p : Program} {l : Launch} {e : Env} {s : State} {m : MethodId} {args : Array Value} {below : List Frame} {meth : Method} {c : Code} {D : va_G} {cI : ClassId} {cS : GS} {A : Nat → Prop} {a : Nat → Nat} {g_row : Nat → Int32} {g_undos : Int32} {g_listed : Int32} {g_papers : Int32} {g_length : Int32} {g_besides : Int32} {g_gapFirst : Int32} {g_gapLast : Int32} {g_layings : Int32} {g_first : Int32} {g_behind : Int32} {g_clauses : Int32} {g_drafts : Int32} {x1 : Int32} {x2 : Int32} {x3 : Int32} (C : MC p s m args meth c D cI cS A RX8 cX8_ownIn 6 (some .int)) (hA : ∀ q, s.heap.size ≤ q → A q) {s0 : Int32} (k : Int32 → Int32 → Option (Int32)) (hk : ∀ (x4 : Int32) (x5 : Int32) (H : Heap) (locs : List Loc) (ls : Array Slot), Wd D A s.heap H locs [oX8 a g_undos g_listed g_papers g_length g_besides g_gapFirst g_gapLast g_layings g_first g_behind g_clauses g_drafts, ar cI (a 1) 5058 g_row] → lv_has ls 6 [(0, .ref (a 0)), (1, .int x1), (2, .int x2), (3, .int x3), (4, .int x4), (5, .int x5)] → k x4 x5 = some s0 → W p l e rmX8_ownIn s m args below meth c H locs 0 0 (KQ D A below args s (some (.int s0)) [oX8 a g_undos g_listed g_papers g_length g_besides g_gapFirst g_gapLast g_layings g_first g_behind g_clauses g_drafts, ar cI (a 1) 5058 g_row]) (F0 m 86 ls [])) :
    ∀ (n : Nat) (x4 : Int32) (x5 : Int32) (H : Heap) (locs : List Loc) (ls : Array Slot), Wd D A s.heap H locs [oX8 a g_undos g_listed g_papers g_length g_besides g_gapFirst g_gapLast g_layings g_first g_behind g_clauses g_drafts, ar cI (a 1) 5058 g_row] → lv_has ls 6 [(0, .ref (a 0)), (1, .int x1), (2, .int x2), (3, .int x3), (4, .int x4), (5, .int x5)] → fX8_ownIn_33 g_row x1 x2 x3 n k x4 x5 = some s0 → W p l e rmX8_ownIn s m args below meth c H locs 0 0 (KQ D A below args s (some (.int s0)) [oX8 a g_undos g_listed g_papers g_length g_besides g_gapFirst g_gapLast g_layings g_first g_behind g_clauses g_drafts, ar cI (a 1) 5058 g_row]) (F0 m 33 ls []) := by
  have hx := C.1.1
  have hb := C.1.2.1
  intro n
  induction n with
  | zero =>
    intro x4 x5 H locs ls hw hl h
    rw [fX8_ownIn_33] at h
    cases h
  | succ n ih =>
    intro x4 x5 H locs ls hw hl h
    rw [fX8_ownIn_33] at h
    refine lv_iload hx hb dX8_ownIn_33 (lv_at hl 5 rfl) ?_
    refine lv_aload_n hx hb dX8_ownIn_35 rfl (lv_at hl 0 rfl) ?_
    refine k_get C inT_X8 hw 0 rfl rfl 0 (by decide) mF_X8_7 rfl dX8_ownIn_36 ?_
    refine lv_iconst (v := 0) hx hb dX8_ownIn_39 (by decide) ?_
    obtain ⟨y40, q40, h⟩ := bd h
    refine k_iald C hw 1 rfl q40 dX8_ownIn_40 ?_
    refine lv_icmp_ge (tgt := 86) hx hb dX8_ownIn_41 (by decide) (fun c41 => ?_) (fun c41 => ?_)
    · replace h := br_t' h c41
      exact hk _ _ _ _ _ hw (lv_sub hl [0, 1, 2, 3, 4, 5] rfl) h
    · replace h := br_f' h c41
      refine lv_iload hx hb dX8_ownIn_44 (lv_at hl 4 rfl) ?_
      refine lv_aload_n hx hb dX8_ownIn_46 rfl (lv_at hl 0 rfl) ?_
      refine lv_iload hx hb dX8_ownIn_47 (lv_at hl 5 rfl) ?_
      obtain ⟨r49, q49, h⟩ := bd h
      refine k_callV (nC := 2) [oX8 a g_undos g_listed g_papers g_length g_besides g_gapFirst g_gapLast g_layings g_first g_behind g_clauses g_drafts, ar cI (a 1) 5058 g_row] C hl.1 (tX8_parent (a := a) q49) mL_X8_100 mmX8_parent rfl rfl ⟨Nat.le_of_ble_eq_true rfl, Nat.le_of_ble_eq_true rfl⟩ rfl rfl rfl rfl (Nat.le_of_ble_eq_true rfl) hA hw [0, 1] [] rfl (by decide +kernel) rfl rfl rfl rfl dX8_ownIn_49 (fun H locs hw49 => ?_)
      refine lv_iload_n hx hb dX8_ownIn_52 rfl (lv_at hl 1 rfl) ?_
      refine lv_icmp_ne (tgt := 76) hx hb dX8_ownIn_53 (by decide) (fun c53 => ?_) (fun c53 => ?_)
      · replace h := br_f' h c53
        refine lv_iconst (v := 0) hx hb dX8_ownIn_76 (by decide) ?_
        refine lv_isub hx hb dX8_ownIn_77 ?_
        refine lv_istore (lv' := [(4, .int (x4 - 0)), (0, .ref (a 0)), (1, .int x1), (2, .int x2), (3, .int x3), (5, .int x5)]) hx hb dX8_ownIn_78 hl (by decide) rfl (fun ls hl => ?_)
        refine lv_iinc (v := (x5 + 1)) (lv' := [(5, .int (x5 + 1)), (4, .int (x4 - 0)), (0, .ref (a 0)), (1, .int x1), (2, .int x2), (3, .int x3)]) hx hb dX8_ownIn_80 hl (k := 5) rfl rfl (by decide) rfl (fun ls hl => ?_)
        refine lv_goto (tgt := 33) hx hb dX8_ownIn_83 (by decide) ?_
        exact ih _ _ _ _ _ hw49 (lv_sub hl [2, 3, 4, 5, 1, 0] rfl) h
      · replace h := br_t' h c53
        refine lv_aload_n hx hb dX8_ownIn_56 rfl (lv_at hl 0 rfl) ?_
        refine lv_iload hx hb dX8_ownIn_57 (lv_at hl 5 rfl) ?_
        obtain ⟨r59, q59, h⟩ := bd h
        refine k_callV (nC := 2) [oX8 a g_undos g_listed g_papers g_length g_besides g_gapFirst g_gapLast g_layings g_first g_behind g_clauses g_drafts, ar cI (a 1) 5058 g_row] C hl.1 (tX8_firstOf (a := a) q59) mL_X8_93 mmX8_firstOf rfl rfl ⟨Nat.le_of_ble_eq_true rfl, Nat.le_of_ble_eq_true rfl⟩ rfl rfl rfl rfl (Nat.le_of_ble_eq_true rfl) hA hw49 [0, 1] [] rfl (by decide +kernel) rfl rfl rfl rfl dX8_ownIn_59 (fun H locs hw59 => ?_)
        refine lv_aload_n hx hb dX8_ownIn_62 rfl (lv_at hl 0 rfl) ?_
        refine lv_iload hx hb dX8_ownIn_63 (lv_at hl 5 rfl) ?_
        obtain ⟨r65, q65, h⟩ := bd h
        refine k_callV (nC := 2) [oX8 a g_undos g_listed g_papers g_length g_besides g_gapFirst g_gapLast g_layings g_first g_behind g_clauses g_drafts, ar cI (a 1) 5058 g_row] C hl.1 (tX8_lastOf (a := a) q65) mL_X8_97 mmX8_lastOf rfl rfl ⟨Nat.le_of_ble_eq_true rfl, Nat.le_of_ble_eq_true rfl⟩ rfl rfl rfl rfl (Nat.le_of_ble_eq_true rfl) hA hw59 [0, 1] [] rfl (by decide +kernel) rfl rfl rfl rfl dX8_ownIn_65 (fun H locs hw65 => ?_)
        refine lv_iload_n hx hb dX8_ownIn_68 rfl (lv_at hl 2 rfl) ?_
        refine lv_iload_n hx hb dX8_ownIn_69 rfl (lv_at hl 3 rfl) ?_
        obtain ⟨r70, q70, h⟩ := bd h
        refine k_callS (nC := 2) [oX8 a g_undos g_listed g_papers g_length g_besides g_gapFirst g_gapLast g_layings g_first g_behind g_clauses g_drafts, ar cI (a 1) 5058 g_row] C hl.1 (tX8_common q70) mL_X8_74 mmX8_common rfl rfl ⟨Nat.le_of_ble_eq_true rfl, Nat.le_of_ble_eq_true rfl⟩ rfl rfl (Nat.le_of_ble_eq_true rfl) hA hw65 [] [0, 1] rfl (by decide +kernel) rfl rfl rfl rfl dX8_ownIn_70 (fun H locs hw70 => ?_)
        refine lv_goto (tgt := 77) hx hb dX8_ownIn_73 (by decide) ?_
        refine lv_isub hx hb dX8_ownIn_77 ?_
        refine lv_istore (lv' := [(4, .int (x4 - r70)), (0, .ref (a 0)), (1, .int x1), (2, .int x2), (3, .int x3), (5, .int x5)]) hx hb dX8_ownIn_78 hl (by decide) rfl (fun ls hl => ?_)
        refine lv_iinc (v := (x5 + 1)) (lv' := [(5, .int (x5 + 1)), (4, .int (x4 - r70)), (0, .ref (a 0)), (1, .int x1), (2, .int x2), (3, .int x3)]) hx hb dX8_ownIn_80 hl (k := 5) rfl rfl (by decide) rfl (fun ls hl => ?_)
        refine lv_goto (tgt := 33) hx hb dX8_ownIn_83 (by decide) ?_
        exact ih _ _ _ _ _ hw70 (lv_sub hl [2, 3, 4, 5, 1, 0] rfl) h
def fX8_ownIn (g_row : Nat → Int32) (x1 : Int32) (x2 : Int32) (x3 : Int32) : Option (Int32) :=
  if x1 = (-1) then
    fX8_ownIn_33 g_row x1 x2 x3 FU (fun x4_33 x5_33 =>
      some x4_33) ((x3 - x2) + 1) 0
  else
    (fX8_firstOf g_row x1).bind fun r15 =>
    (fX8_lastOf g_row x1).bind fun r20 =>
    (fX8_common r15 r20 x2 x3).bind fun r25 =>
    fX8_ownIn_33 g_row x1 x2 x3 FU (fun x4_33 x5_33 =>
      some x4_33) r25 0
set_option maxRecDepth 100000 in
set_option maxHeartbeats 4000000 in
theorem tX8_ownIn {l : Launch} {D : va_G} {cI : ClassId} {cS : GS} {a : Nat → Nat} {g_row : Nat → Int32} {g_undos : Int32} {g_listed : Int32} {g_papers : Int32} {g_length : Int32} {g_besides : Int32} {g_gapFirst : Int32} {g_gapLast : Int32} {g_layings : Int32} {g_first : Int32} {g_behind : Int32} {g_clauses : Int32} {g_drafts : Int32} {x1 : Int32} {x2 : Int32} {x3 : Int32} {s0 : Int32} (h : fX8_ownIn g_row x1 x2 x3 = some s0) : CT l D cI cS yX8_ownIn cX8_ownIn 6 (some .int) rmX8_ownIn [.ref (a 0), .int x1, .int x2, .int x3] [oX8 a g_undos g_listed g_papers g_length g_besides g_gapFirst g_gapLast g_layings g_first g_behind g_clauses g_drafts, ar cI (a 1) 5058 g_row] (some (.int s0)) [oX8 a g_undos g_listed g_papers g_length g_besides g_gapFirst g_gapLast g_layings g_first g_behind g_clauses g_drafts, ar cI (a 1) 5058 g_row] := by
  refine CT.of RX8 (by decide) rfl (Nat.le_of_ble_eq_true rfl) (fun p e s m below meth c ls A C hA hl hw => ?_)
  have hx := C.1.1
  have hb := C.1.2.1
  have hl : lv_has ls 6 [(0, .ref (a 0)), (1, .int x1), (2, .int x2), (3, .int x3)] := hl
  unfold fX8_ownIn at h
  refine lv_iload_n hx hb dX8_ownIn_0 rfl (lv_at hl 1 rfl) ?_
  refine lv_iconst (v := (-1)) hx hb dX8_ownIn_1 (by decide) ?_
  refine lv_icmp_ne (tgt := 13) hx hb dX8_ownIn_2 (by decide) (fun c2 => ?_) (fun c2 => ?_)
  · replace h := br_f' h c2
    refine lv_aload_n hx hb dX8_ownIn_13 rfl (lv_at hl 0 rfl) ?_
    refine lv_iload_n hx hb dX8_ownIn_14 rfl (lv_at hl 1 rfl) ?_
    obtain ⟨r15, q15, h⟩ := bd h
    refine k_callV (nC := 2) [oX8 a g_undos g_listed g_papers g_length g_besides g_gapFirst g_gapLast g_layings g_first g_behind g_clauses g_drafts, ar cI (a 1) 5058 g_row] C hl.1 (tX8_firstOf (a := a) q15) mL_X8_93 mmX8_firstOf rfl rfl ⟨Nat.le_of_ble_eq_true rfl, Nat.le_of_ble_eq_true rfl⟩ rfl rfl rfl rfl (Nat.le_of_ble_eq_true rfl) hA hw [0, 1] [] rfl (by decide +kernel) rfl rfl rfl rfl dX8_ownIn_15 (fun H locs hw15 => ?_)
    refine lv_aload_n hx hb dX8_ownIn_18 rfl (lv_at hl 0 rfl) ?_
    refine lv_iload_n hx hb dX8_ownIn_19 rfl (lv_at hl 1 rfl) ?_
    obtain ⟨r20, q20, h⟩ := bd h
    refine k_callV (nC := 2) [oX8 a g_undos g_listed g_papers g_length g_besides g_gapFirst g_gapLast g_layings g_first g_behind g_clauses g_drafts, ar cI (a 1) 5058 g_row] C hl.1 (tX8_lastOf (a := a) q20) mL_X8_97 mmX8_lastOf rfl rfl ⟨Nat.le_of_ble_eq_true rfl, Nat.le_of_ble_eq_true rfl⟩ rfl rfl rfl rfl (Nat.le_of_ble_eq_true rfl) hA hw15 [0, 1] [] rfl (by decide +kernel) rfl rfl rfl rfl dX8_ownIn_20 (fun H locs hw20 => ?_)
    refine lv_iload_n hx hb dX8_ownIn_23 rfl (lv_at hl 2 rfl) ?_
    refine lv_iload_n hx hb dX8_ownIn_24 rfl (lv_at hl 3 rfl) ?_
    obtain ⟨r25, q25, h⟩ := bd h
    refine k_callS (nC := 2) [oX8 a g_undos g_listed g_papers g_length g_besides g_gapFirst g_gapLast g_layings g_first g_behind g_clauses g_drafts, ar cI (a 1) 5058 g_row] C hl.1 (tX8_common q25) mL_X8_74 mmX8_common rfl rfl ⟨Nat.le_of_ble_eq_true rfl, Nat.le_of_ble_eq_true rfl⟩ rfl rfl (Nat.le_of_ble_eq_true rfl) hA hw20 [] [0, 1] rfl (by decide +kernel) rfl rfl rfl rfl dX8_ownIn_25 (fun H locs hw25 => ?_)
    refine lv_istore (lv' := [(4, .int r25), (0, .ref (a 0)), (1, .int x1), (2, .int x2), (3, .int x3)]) hx hb dX8_ownIn_28 hl (by decide) rfl (fun ls hl => ?_)
    refine lv_iconst (v := 0) hx hb dX8_ownIn_30 (by decide) ?_
    refine lv_istore (lv' := [(5, .int 0), (4, .int r25), (0, .ref (a 0)), (1, .int x1), (2, .int x2), (3, .int x3)]) hx hb dX8_ownIn_31 hl (by decide) rfl (fun ls hl => ?_)
    refine wX8_ownIn_33 C hA _ (fun x4_33 x5_33 H locs ls hw33x hl h => ?_) FU _ _ _ _ _ hw25 (lv_sub hl [2, 3, 4, 5, 1, 0] rfl) h
    refine lv_iload hx hb dX8_ownIn_86 (lv_at hl 4 rfl) ?_
    cases h
    exact k_iret C hw33x dX8_ownIn_88
  · replace h := br_t' h c2
    refine lv_iload_n hx hb dX8_ownIn_5 rfl (lv_at hl 3 rfl) ?_
    refine lv_iload_n hx hb dX8_ownIn_6 rfl (lv_at hl 2 rfl) ?_
    refine lv_isub hx hb dX8_ownIn_7 ?_
    refine lv_iconst (v := 1) hx hb dX8_ownIn_8 (by decide) ?_
    refine lv_iadd hx hb dX8_ownIn_9 ?_
    refine lv_goto (tgt := 28) hx hb dX8_ownIn_10 (by decide) ?_
    refine lv_istore (lv' := [(4, .int ((x3 - x2) + 1)), (0, .ref (a 0)), (1, .int x1), (2, .int x2), (3, .int x3)]) hx hb dX8_ownIn_28 hl (by decide) rfl (fun ls hl => ?_)
    refine lv_iconst (v := 0) hx hb dX8_ownIn_30 (by decide) ?_
    refine lv_istore (lv' := [(5, .int 0), (4, .int ((x3 - x2) + 1)), (0, .ref (a 0)), (1, .int x1), (2, .int x2), (3, .int x3)]) hx hb dX8_ownIn_31 hl (by decide) rfl (fun ls hl => ?_)
    refine wX8_ownIn_33 C hA _ (fun x4_33 x5_33 H locs ls hw33x hl h => ?_) FU _ _ _ _ _ hw (lv_sub hl [2, 3, 4, 5, 1, 0] rfl) h
    refine lv_iload hx hb dX8_ownIn_86 (lv_at hl 4 rfl) ?_
    cases h
    exact k_iret C hw33x dX8_ownIn_88
def rmX8_ownInBox : Room := { frames := 3, cells := 0, slots := 0, locals := 71 }
def fX8_ownInBox_5 (g_row : Nat → Int32) (x1 : Int32) (x2 : Int32) : (n : Nat) → (k : Int32 → Int32 → Option (Int32)) → Int32 → Int32 → Option (Int32)
  | 0, _, _, _ => none
  | n + 1, k, x3, x4 =>
    (ld 5058 g_row 1).bind fun y12 =>
    if y12 ≤ x4 then
      k x3 x4
    else
      (fX8_pieceAt g_row x4 2).bind fun r21 =>
      if r21 = x2 then
        (fX8_pieceAt g_row x4 0).bind fun r34 =>
        (fX8_pieceAt g_row x4 1).bind fun r41 =>
        (fX8_ownIn g_row x1 r34 r41).bind fun r44 =>
        fX8_ownInBox_5 g_row x1 x2 n k (x3 + r44) (x4 + 1)
      else
        fX8_ownInBox_5 g_row x1 x2 n k (x3 + 0) (x4 + 1)
set_option maxRecDepth 100000 in
set_option maxHeartbeats 4000000 in
theorem wX8_ownInBox_5 {p : Program} {l : Launch} {e : Env} {s : State} {m : MethodId} {args : Array Value} {below : List Frame} {meth : Method} {c : Code} {D : va_G} {cI : ClassId} {cS : GS} {A : Nat → Prop} {a : Nat → Nat} {g_row : Nat → Int32} {g_undos : Int32} {g_listed : Int32} {g_papers : Int32} {g_length : Int32} {g_besides : Int32} {g_gapFirst : Int32} {g_gapLast : Int32} {g_layings : Int32} {g_first : Int32} {g_behind : Int32} {g_clauses : Int32} {g_drafts : Int32} {x1 : Int32} {x2 : Int32} (C : MC p s m args meth c D cI cS A RX8 cX8_ownInBox 5 (some .int)) (hA : ∀ q, s.heap.size ≤ q → A q) {s0 : Int32} (k : Int32 → Int32 → Option (Int32)) (hk : ∀ (x3 : Int32) (x4 : Int32) (H : Heap) (locs : List Loc) (ls : Array Slot), Wd D A s.heap H locs [oX8 a g_undos g_listed g_papers g_length g_besides g_gapFirst g_gapLast g_layings g_first g_behind g_clauses g_drafts, ar cI (a 1) 5058 g_row] → lv_has ls 5 [(0, .ref (a 0)), (1, .int x1), (2, .int x2), (3, .int x3), (4, .int x4)] → k x3 x4 = some s0 → W p l e rmX8_ownInBox s m args below meth c H locs 0 0 (KQ D A below args s (some (.int s0)) [oX8 a g_undos g_listed g_papers g_length g_besides g_gapFirst g_gapLast g_layings g_first g_behind g_clauses g_drafts, ar cI (a 1) 5058 g_row]) (F0 m 59 ls [])) :
    ∀ (n : Nat) (x3 : Int32) (x4 : Int32) (H : Heap) (locs : List Loc) (ls : Array Slot), Wd D A s.heap H locs [oX8 a g_undos g_listed g_papers g_length g_besides g_gapFirst g_gapLast g_layings g_first g_behind g_clauses g_drafts, ar cI (a 1) 5058 g_row] → lv_has ls 5 [(0, .ref (a 0)), (1, .int x1), (2, .int x2), (3, .int x3), (4, .int x4)] → fX8_ownInBox_5 g_row x1 x2 n k x3 x4 = some s0 → W p l e rmX8_ownInBox s m args below meth c H locs 0 0 (KQ D A below args s (some (.int s0)) [oX8 a g_undos g_listed g_papers g_length g_besides g_gapFirst g_gapLast g_layings g_first g_behind g_clauses g_drafts, ar cI (a 1) 5058 g_row]) (F0 m 5 ls []) := by
  have hx := C.1.1
  have hb := C.1.2.1
  intro n
  induction n with
  | zero =>
    intro x3 x4 H locs ls hw hl h
    rw [fX8_ownInBox_5] at h
    cases h
  | succ n ih =>
    intro x3 x4 H locs ls hw hl h
    rw [fX8_ownInBox_5] at h
    refine lv_iload hx hb dX8_ownInBox_5 (lv_at hl 4 rfl) ?_
    refine lv_aload_n hx hb dX8_ownInBox_7 rfl (lv_at hl 0 rfl) ?_
    refine k_get C inT_X8 hw 0 rfl rfl 0 (by decide) mF_X8_7 rfl dX8_ownInBox_8 ?_
    refine lv_iconst (v := 1) hx hb dX8_ownInBox_11 (by decide) ?_
    obtain ⟨y12, q12, h⟩ := bd h
    refine k_iald C hw 1 rfl q12 dX8_ownInBox_12 ?_
    refine lv_icmp_ge (tgt := 59) hx hb dX8_ownInBox_13 (by decide) (fun c13 => ?_) (fun c13 => ?_)
    · replace h := br_t' h c13
      exact hk _ _ _ _ _ hw (lv_sub hl [0, 1, 2, 3, 4] rfl) h
    · replace h := br_f' h c13
      refine lv_iload_n hx hb dX8_ownInBox_16 rfl (lv_at hl 3 rfl) ?_
      refine lv_aload_n hx hb dX8_ownInBox_17 rfl (lv_at hl 0 rfl) ?_
      refine lv_iload hx hb dX8_ownInBox_18 (lv_at hl 4 rfl) ?_
      refine lv_iconst (v := 2) hx hb dX8_ownInBox_20 (by decide) ?_
      obtain ⟨r21, q21, h⟩ := bd h
      refine k_callV (nC := 2) [oX8 a g_undos g_listed g_papers g_length g_besides g_gapFirst g_gapLast g_layings g_first g_behind g_clauses g_drafts, ar cI (a 1) 5058 g_row] C hl.1 (tX8_pieceAt (a := a) q21) mL_X8_71 mmX8_pieceAt rfl rfl ⟨Nat.le_of_ble_eq_true rfl, Nat.le_of_ble_eq_true rfl⟩ rfl rfl rfl rfl (Nat.le_of_ble_eq_true rfl) hA hw [0, 1] [] rfl (by decide +kernel) rfl rfl rfl rfl dX8_ownInBox_21 (fun H locs hw21 => ?_)
      refine lv_iload_n hx hb dX8_ownInBox_24 rfl (lv_at hl 2 rfl) ?_
      refine lv_icmp_ne (tgt := 50) hx hb dX8_ownInBox_25 (by decide) (fun c25 => ?_) (fun c25 => ?_)
      · replace h := br_f' h c25
        refine lv_iconst (v := 0) hx hb dX8_ownInBox_50 (by decide) ?_
        refine lv_iadd hx hb dX8_ownInBox_51 ?_
        refine lv_istore_n (lv' := [(3, .int (x3 + 0)), (0, .ref (a 0)), (1, .int x1), (2, .int x2), (4, .int x4)]) hx hb dX8_ownInBox_52 rfl hl (by decide) rfl (fun ls hl => ?_)
        refine lv_iinc (v := (x4 + 1)) (lv' := [(4, .int (x4 + 1)), (3, .int (x3 + 0)), (0, .ref (a 0)), (1, .int x1), (2, .int x2)]) hx hb dX8_ownInBox_53 hl (k := 4) rfl rfl (by decide) rfl (fun ls hl => ?_)
        refine lv_goto (tgt := 5) hx hb dX8_ownInBox_56 (by decide) ?_
        exact ih _ _ _ _ _ hw21 (lv_sub hl [2, 3, 4, 1, 0] rfl) h
      · replace h := br_t' h c25
        refine lv_aload_n hx hb dX8_ownInBox_28 rfl (lv_at hl 0 rfl) ?_
        refine lv_iload_n hx hb dX8_ownInBox_29 rfl (lv_at hl 1 rfl) ?_
        refine lv_aload_n hx hb dX8_ownInBox_30 rfl (lv_at hl 0 rfl) ?_
        refine lv_iload hx hb dX8_ownInBox_31 (lv_at hl 4 rfl) ?_
        refine lv_iconst (v := 0) hx hb dX8_ownInBox_33 (by decide) ?_
        obtain ⟨r34, q34, h⟩ := bd h
        refine k_callV (nC := 2) [oX8 a g_undos g_listed g_papers g_length g_besides g_gapFirst g_gapLast g_layings g_first g_behind g_clauses g_drafts, ar cI (a 1) 5058 g_row] C hl.1 (tX8_pieceAt (a := a) q34) mL_X8_71 mmX8_pieceAt rfl rfl ⟨Nat.le_of_ble_eq_true rfl, Nat.le_of_ble_eq_true rfl⟩ rfl rfl rfl rfl (Nat.le_of_ble_eq_true rfl) hA hw21 [0, 1] [] rfl (by decide +kernel) rfl rfl rfl rfl dX8_ownInBox_34 (fun H locs hw34 => ?_)
        refine lv_aload_n hx hb dX8_ownInBox_37 rfl (lv_at hl 0 rfl) ?_
        refine lv_iload hx hb dX8_ownInBox_38 (lv_at hl 4 rfl) ?_
        refine lv_iconst (v := 1) hx hb dX8_ownInBox_40 (by decide) ?_
        obtain ⟨r41, q41, h⟩ := bd h
        refine k_callV (nC := 2) [oX8 a g_undos g_listed g_papers g_length g_besides g_gapFirst g_gapLast g_layings g_first g_behind g_clauses g_drafts, ar cI (a 1) 5058 g_row] C hl.1 (tX8_pieceAt (a := a) q41) mL_X8_71 mmX8_pieceAt rfl rfl ⟨Nat.le_of_ble_eq_true rfl, Nat.le_of_ble_eq_true rfl⟩ rfl rfl rfl rfl (Nat.le_of_ble_eq_true rfl) hA hw34 [0, 1] [] rfl (by decide +kernel) rfl rfl rfl rfl dX8_ownInBox_41 (fun H locs hw41 => ?_)
        obtain ⟨r44, q44, h⟩ := bd h
        refine k_callV (nC := 2) [oX8 a g_undos g_listed g_papers g_length g_besides g_gapFirst g_gapLast g_layings g_first g_behind g_clauses g_drafts, ar cI (a 1) 5058 g_row] C hl.1 (tX8_ownIn (a := a) q44) mL_X8_103 mmX8_ownIn rfl rfl ⟨Nat.le_of_ble_eq_true rfl, Nat.le_of_ble_eq_true rfl⟩ rfl rfl rfl rfl (Nat.le_of_ble_eq_true rfl) hA hw41 [0, 1] [] rfl (by decide +kernel) rfl rfl rfl rfl dX8_ownInBox_44 (fun H locs hw44 => ?_)
        refine lv_goto (tgt := 51) hx hb dX8_ownInBox_47 (by decide) ?_
        refine lv_iadd hx hb dX8_ownInBox_51 ?_
        refine lv_istore_n (lv' := [(3, .int (x3 + r44)), (0, .ref (a 0)), (1, .int x1), (2, .int x2), (4, .int x4)]) hx hb dX8_ownInBox_52 rfl hl (by decide) rfl (fun ls hl => ?_)
        refine lv_iinc (v := (x4 + 1)) (lv' := [(4, .int (x4 + 1)), (3, .int (x3 + r44)), (0, .ref (a 0)), (1, .int x1), (2, .int x2)]) hx hb dX8_ownInBox_53 hl (k := 4) rfl rfl (by decide) rfl (fun ls hl => ?_)
        refine lv_goto (tgt := 5) hx hb dX8_ownInBox_56 (by decide) ?_
        exact ih _ _ _ _ _ hw44 (lv_sub hl [2, 3, 4, 1, 0] rfl) h
def fX8_ownInBox (g_row : Nat → Int32) (x1 : Int32) (x2 : Int32) : Option (Int32) :=
  fX8_ownInBox_5 g_row x1 x2 FU (fun x3_5 x4_5 =>
    some x3_5) 0 0
set_option maxRecDepth 100000 in
set_option maxHeartbeats 4000000 in
theorem tX8_ownInBox {l : Launch} {D : va_G} {cI : ClassId} {cS : GS} {a : Nat → Nat} {g_row : Nat → Int32} {g_undos : Int32} {g_listed : Int32} {g_papers : Int32} {g_length : Int32} {g_besides : Int32} {g_gapFirst : Int32} {g_gapLast : Int32} {g_layings : Int32} {g_first : Int32} {g_behind : Int32} {g_clauses : Int32} {g_drafts : Int32} {x1 : Int32} {x2 : Int32} {s0 : Int32} (h : fX8_ownInBox g_row x1 x2 = some s0) : CT l D cI cS yX8_ownInBox cX8_ownInBox 5 (some .int) rmX8_ownInBox [.ref (a 0), .int x1, .int x2] [oX8 a g_undos g_listed g_papers g_length g_besides g_gapFirst g_gapLast g_layings g_first g_behind g_clauses g_drafts, ar cI (a 1) 5058 g_row] (some (.int s0)) [oX8 a g_undos g_listed g_papers g_length g_besides g_gapFirst g_gapLast g_layings g_first g_behind g_clauses g_drafts, ar cI (a 1) 5058 g_row] := by
  refine CT.of RX8 (by decide) rfl (Nat.le_of_ble_eq_true rfl) (fun p e s m below meth c ls A C hA hl hw => ?_)
  have hx := C.1.1
  have hb := C.1.2.1
  have hl : lv_has ls 5 [(0, .ref (a 0)), (1, .int x1), (2, .int x2)] := hl
  unfold fX8_ownInBox at h
  refine lv_iconst (v := 0) hx hb dX8_ownInBox_0 (by decide) ?_
  refine lv_istore_n (lv' := [(3, .int 0), (0, .ref (a 0)), (1, .int x1), (2, .int x2)]) hx hb dX8_ownInBox_1 rfl hl (by decide) rfl (fun ls hl => ?_)
  refine lv_iconst (v := 0) hx hb dX8_ownInBox_2 (by decide) ?_
  refine lv_istore (lv' := [(4, .int 0), (3, .int 0), (0, .ref (a 0)), (1, .int x1), (2, .int x2)]) hx hb dX8_ownInBox_3 hl (by decide) rfl (fun ls hl => ?_)
  refine wX8_ownInBox_5 C hA _ (fun x3_5 x4_5 H locs ls hw5x hl h => ?_) FU _ _ _ _ _ hw (lv_sub hl [2, 3, 4, 1, 0] rfl) h
  refine lv_iload_n hx hb dX8_ownInBox_59 rfl (lv_at hl 3 rfl) ?_
  cases h
  exact k_iret C hw5x dX8_ownInBox_60
def rmX8_homeOf : Room := { frames := 3, cells := 0, slots := 0, locals := 71 }
def fX8_homeOf_4 (g_row : Nat → Int32) (x1 : Int32) : (n : Nat) → (k : Int32 → Int32 → Option (Int32)) → Int32 → Int32 → Option (Int32)
  | 0, _, _, _ => none
  | n + 1, k, x2, x3 =>
    (ld 5058 g_row 0).bind fun y10 =>
    if y10 ≤ x3 then
      k x2 x3
    else
      (fX8_ownIn g_row x3 x1 x1).bind fun r18 =>
      if r18 = 1 then
        fX8_homeOf_4 g_row x1 n k x3 (x3 + 1)
      else
        fX8_homeOf_4 g_row x1 n k x2 (x3 + 1)
set_option maxRecDepth 100000 in
set_option maxHeartbeats 4000000 in
theorem wX8_homeOf_4 {p : Program} {l : Launch} {e : Env} {s : State} {m : MethodId} {args : Array Value} {below : List Frame} {meth : Method} {c : Code} {D : va_G} {cI : ClassId} {cS : GS} {A : Nat → Prop} {a : Nat → Nat} {g_row : Nat → Int32} {g_undos : Int32} {g_listed : Int32} {g_papers : Int32} {g_length : Int32} {g_besides : Int32} {g_gapFirst : Int32} {g_gapLast : Int32} {g_layings : Int32} {g_first : Int32} {g_behind : Int32} {g_clauses : Int32} {g_drafts : Int32} {x1 : Int32} (C : MC p s m args meth c D cI cS A RX8 cX8_homeOf 4 (some .int)) (hA : ∀ q, s.heap.size ≤ q → A q) {s0 : Int32} (k : Int32 → Int32 → Option (Int32)) (hk : ∀ (x2 : Int32) (x3 : Int32) (H : Heap) (locs : List Loc) (ls : Array Slot), Wd D A s.heap H locs [oX8 a g_undos g_listed g_papers g_length g_besides g_gapFirst g_gapLast g_layings g_first g_behind g_clauses g_drafts, ar cI (a 1) 5058 g_row] → lv_has ls 4 [(0, .ref (a 0)), (1, .int x1), (2, .int x2), (3, .int x3)] → k x2 x3 = some s0 → W p l e rmX8_homeOf s m args below meth c H locs 0 0 (KQ D A below args s (some (.int s0)) [oX8 a g_undos g_listed g_papers g_length g_besides g_gapFirst g_gapLast g_layings g_first g_behind g_clauses g_drafts, ar cI (a 1) 5058 g_row]) (F0 m 37 ls [])) :
    ∀ (n : Nat) (x2 : Int32) (x3 : Int32) (H : Heap) (locs : List Loc) (ls : Array Slot), Wd D A s.heap H locs [oX8 a g_undos g_listed g_papers g_length g_besides g_gapFirst g_gapLast g_layings g_first g_behind g_clauses g_drafts, ar cI (a 1) 5058 g_row] → lv_has ls 4 [(0, .ref (a 0)), (1, .int x1), (2, .int x2), (3, .int x3)] → fX8_homeOf_4 g_row x1 n k x2 x3 = some s0 → W p l e rmX8_homeOf s m args below meth c H locs 0 0 (KQ D A below args s (some (.int s0)) [oX8 a g_undos g_listed g_papers g_length g_besides g_gapFirst g_gapLast g_layings g_first g_behind g_clauses g_drafts, ar cI (a 1) 5058 g_row]) (F0 m 4 ls []) := by
  have hx := C.1.1
  have hb := C.1.2.1
  intro n
  induction n with
  | zero =>
    intro x2 x3 H locs ls hw hl h
    rw [fX8_homeOf_4] at h
    cases h
  | succ n ih =>
    intro x2 x3 H locs ls hw hl h
    rw [fX8_homeOf_4] at h
    refine lv_iload_n hx hb dX8_homeOf_4 rfl (lv_at hl 3 rfl) ?_
    refine lv_aload_n hx hb dX8_homeOf_5 rfl (lv_at hl 0 rfl) ?_
    refine k_get C inT_X8 hw 0 rfl rfl 0 (by decide) mF_X8_7 rfl dX8_homeOf_6 ?_
    refine lv_iconst (v := 0) hx hb dX8_homeOf_9 (by decide) ?_
    obtain ⟨y10, q10, h⟩ := bd h
    refine k_iald C hw 1 rfl q10 dX8_homeOf_10 ?_
    refine lv_icmp_ge (tgt := 37) hx hb dX8_homeOf_11 (by decide) (fun c11 => ?_) (fun c11 => ?_)
    · replace h := br_t' h c11
      exact hk _ _ _ _ _ hw (lv_sub hl [0, 1, 2, 3] rfl) h
    · replace h := br_f' h c11
      refine lv_aload_n hx hb dX8_homeOf_14 rfl (lv_at hl 0 rfl) ?_
      refine lv_iload_n hx hb dX8_homeOf_15 rfl (lv_at hl 3 rfl) ?_
      refine lv_iload_n hx hb dX8_homeOf_16 rfl (lv_at hl 1 rfl) ?_
      refine lv_iload_n hx hb dX8_homeOf_17 rfl (lv_at hl 1 rfl) ?_
      obtain ⟨r18, q18, h⟩ := bd h
      refine k_callV (nC := 2) [oX8 a g_undos g_listed g_papers g_length g_besides g_gapFirst g_gapLast g_layings g_first g_behind g_clauses g_drafts, ar cI (a 1) 5058 g_row] C hl.1 (tX8_ownIn (a := a) q18) mL_X8_103 mmX8_ownIn rfl rfl ⟨Nat.le_of_ble_eq_true rfl, Nat.le_of_ble_eq_true rfl⟩ rfl rfl rfl rfl (Nat.le_of_ble_eq_true rfl) hA hw [0, 1] [] rfl (by decide +kernel) rfl rfl rfl rfl dX8_homeOf_18 (fun H locs hw18 => ?_)
      refine lv_iconst (v := 1) hx hb dX8_homeOf_21 (by decide) ?_
      refine lv_icmp_ne (tgt := 29) hx hb dX8_homeOf_22 (by decide) (fun c22 => ?_) (fun c22 => ?_)
      · replace h := br_f' h c22
        refine lv_iload_n hx hb dX8_homeOf_29 rfl (lv_at hl 2 rfl) ?_
        refine lv_istore_n (lv' := [(2, .int x2), (0, .ref (a 0)), (1, .int x1), (3, .int x3)]) hx hb dX8_homeOf_30 rfl hl (by decide) rfl (fun ls hl => ?_)
        refine lv_iinc (v := (x3 + 1)) (lv' := [(3, .int (x3 + 1)), (2, .int x2), (0, .ref (a 0)), (1, .int x1)]) hx hb dX8_homeOf_31 hl (k := 3) rfl rfl (by decide) rfl (fun ls hl => ?_)
        refine lv_goto (tgt := 4) hx hb dX8_homeOf_34 (by decide) ?_
        exact ih _ _ _ _ _ hw18 (lv_sub hl [2, 3, 1, 0] rfl) h
      · replace h := br_t' h c22
        refine lv_iload_n hx hb dX8_homeOf_25 rfl (lv_at hl 3 rfl) ?_
        refine lv_goto (tgt := 30) hx hb dX8_homeOf_26 (by decide) ?_
        refine lv_istore_n (lv' := [(2, .int x3), (0, .ref (a 0)), (1, .int x1), (3, .int x3)]) hx hb dX8_homeOf_30 rfl hl (by decide) rfl (fun ls hl => ?_)
        refine lv_iinc (v := (x3 + 1)) (lv' := [(3, .int (x3 + 1)), (2, .int x3), (0, .ref (a 0)), (1, .int x1)]) hx hb dX8_homeOf_31 hl (k := 3) rfl rfl (by decide) rfl (fun ls hl => ?_)
        refine lv_goto (tgt := 4) hx hb dX8_homeOf_34 (by decide) ?_
        exact ih _ _ _ _ _ hw18 (lv_sub hl [2, 3, 1, 0] rfl) h
def fX8_homeOf (g_row : Nat → Int32) (x1 : Int32) : Option (Int32) :=
  fX8_homeOf_4 g_row x1 FU (fun x2_4 x3_4 =>
    some x2_4) (-1) 0
set_option maxRecDepth 100000 in
set_option maxHeartbeats 4000000 in
theorem tX8_homeOf {l : Launch} {D : va_G} {cI : ClassId} {cS : GS} {a : Nat → Nat} {g_row : Nat → Int32} {g_undos : Int32} {g_listed : Int32} {g_papers : Int32} {g_length : Int32} {g_besides : Int32} {g_gapFirst : Int32} {g_gapLast : Int32} {g_layings : Int32} {g_first : Int32} {g_behind : Int32} {g_clauses : Int32} {g_drafts : Int32} {x1 : Int32} {s0 : Int32} (h : fX8_homeOf g_row x1 = some s0) : CT l D cI cS yX8_homeOf cX8_homeOf 4 (some .int) rmX8_homeOf [.ref (a 0), .int x1] [oX8 a g_undos g_listed g_papers g_length g_besides g_gapFirst g_gapLast g_layings g_first g_behind g_clauses g_drafts, ar cI (a 1) 5058 g_row] (some (.int s0)) [oX8 a g_undos g_listed g_papers g_length g_besides g_gapFirst g_gapLast g_layings g_first g_behind g_clauses g_drafts, ar cI (a 1) 5058 g_row] := by
  refine CT.of RX8 (by decide) rfl (Nat.le_of_ble_eq_true rfl) (fun p e s m below meth c ls A C hA hl hw => ?_)
  have hx := C.1.1
  have hb := C.1.2.1
  have hl : lv_has ls 4 [(0, .ref (a 0)), (1, .int x1)] := hl
  unfold fX8_homeOf at h
  refine lv_iconst (v := (-1)) hx hb dX8_homeOf_0 (by decide) ?_
  refine lv_istore_n (lv' := [(2, .int (-1)), (0, .ref (a 0)), (1, .int x1)]) hx hb dX8_homeOf_1 rfl hl (by decide) rfl (fun ls hl => ?_)
  refine lv_iconst (v := 0) hx hb dX8_homeOf_2 (by decide) ?_
  refine lv_istore_n (lv' := [(3, .int 0), (2, .int (-1)), (0, .ref (a 0)), (1, .int x1)]) hx hb dX8_homeOf_3 rfl hl (by decide) rfl (fun ls hl => ?_)
  refine wX8_homeOf_4 C hA _ (fun x2_4 x3_4 H locs ls hw4x hl h => ?_) FU _ _ _ _ _ hw (lv_sub hl [2, 3, 1, 0] rfl) h
  refine lv_iload_n hx hb dX8_homeOf_37 rfl (lv_at hl 2 rfl) ?_
  cases h
  exact k_iret C hw4x dX8_homeOf_38
def rmX8_finds : Room := { frames := 1, cells := 0, slots := 0, locals := 25 }
def fX8_finds_13 (g_row : Nat → Int32) : (n : Nat) → (k : Int32 → Int32 → Option (Int32 × Int32 × Int32)) → Int32 → Int32 → Option (Int32 × Int32 × Int32)
  | 0, _, _, _ => none
  | n + 1, k, x3, x4 =>
    (ld 5058 g_row 1).bind fun y20 =>
    if y20 ≤ x4 then
      k x3 x4
    else
      (fX8_pieceAt g_row x4 0).bind fun r30 =>
      (fX8_pieceAt g_row x4 1).bind fun r38 =>
      (fX8_in x3.toInt64 r30.toInt64 r38.toInt64).bind fun r42 =>
      if r42 = 0 then
        fX8_finds_13 g_row n k x3 (x4 + 1)
      else
        (fX8_pieceAt g_row x4 1).bind fun r52 =>
        fX8_finds_13 g_row n k (r52 + 1) (x4 + 1)
set_option maxRecDepth 100000 in
set_option maxHeartbeats 4000000 in
theorem wX8_finds_13 {p : Program} {l : Launch} {e : Env} {s : State} {m : MethodId} {args : Array Value} {below : List Frame} {meth : Method} {c : Code} {D : va_G} {cI : ClassId} {cS : GS} {A : Nat → Prop} {a : Nat → Nat} {g_row : Nat → Int32} {g_undos : Int32} {g_listed : Int32} {g_papers : Int32} {g_length : Int32} {g_besides : Int32} {g_gapFirst : Int32} {g_gapLast : Int32} {g_layings : Int32} {g_first : Int32} {g_behind : Int32} {g_clauses : Int32} {g_drafts : Int32} {x1 : Int32} (C : MC p s m args meth c D cI cS A RX8 cX8_finds 5 (some .boolean)) (hA : ∀ q, s.heap.size ≤ q → A q) {s0 : Int32} {s1 : Int32} {s2 : Int32} (k : Int32 → Int32 → Option (Int32 × Int32 × Int32)) (hk : ∀ (x3 : Int32) (x4 : Int32) (H : Heap) (locs : List Loc) (ls : Array Slot), Wd D A s.heap H locs [oX8 a g_undos g_listed g_papers g_length g_besides g_gapFirst g_gapLast g_layings g_first g_behind g_clauses g_drafts, ar cI (a 1) 5058 g_row] → lv_has ls 5 [(0, .ref (a 0)), (1, .int x1), (3, .int x3), (4, .int x4)] → k x3 x4 = some (s0, s1, s2) → W p l e rmX8_finds s m args below meth c H locs 0 0 (KQ D A below args s (some (.int s0)) [oX8 a g_undos g_listed g_papers g_length g_besides s1 s2 g_layings g_first g_behind g_clauses g_drafts, ar cI (a 1) 5058 g_row]) (F0 m 68 ls [])) :
    ∀ (n : Nat) (x3 : Int32) (x4 : Int32) (H : Heap) (locs : List Loc) (ls : Array Slot), Wd D A s.heap H locs [oX8 a g_undos g_listed g_papers g_length g_besides g_gapFirst g_gapLast g_layings g_first g_behind g_clauses g_drafts, ar cI (a 1) 5058 g_row] → lv_has ls 5 [(0, .ref (a 0)), (1, .int x1), (3, .int x3), (4, .int x4)] → fX8_finds_13 g_row n k x3 x4 = some (s0, s1, s2) → W p l e rmX8_finds s m args below meth c H locs 0 0 (KQ D A below args s (some (.int s0)) [oX8 a g_undos g_listed g_papers g_length g_besides s1 s2 g_layings g_first g_behind g_clauses g_drafts, ar cI (a 1) 5058 g_row]) (F0 m 13 ls []) := by
  have hx := C.1.1
  have hb := C.1.2.1
  intro n
  induction n with
  | zero =>
    intro x3 x4 H locs ls hw hl h
    rw [fX8_finds_13] at h
    cases h
  | succ n ih =>
    intro x3 x4 H locs ls hw hl h
    rw [fX8_finds_13] at h
    refine lv_iload hx hb dX8_finds_13 (lv_at hl 3 rfl) ?_
    refine lv_aload_n hx hb dX8_finds_15 rfl (lv_at hl 0 rfl) ?_
    refine k_get C inT_X8 hw 0 rfl rfl 0 (by decide) mF_X8_7 rfl dX8_finds_16 ?_
    refine lv_iconst (v := 1) hx hb dX8_finds_19 (by decide) ?_
    obtain ⟨y20, q20, h⟩ := bd h
    refine k_iald C hw 1 rfl q20 dX8_finds_20 ?_
    refine lv_icmp_ge (tgt := 68) hx hb dX8_finds_21 (by decide) (fun c21 => ?_) (fun c21 => ?_)
    · replace h := br_t' h c21
      exact hk _ _ _ _ _ hw (lv_sub hl [0, 1, 2, 3] rfl) h
    · replace h := br_f' h c21
      refine lv_iload_n hx hb dX8_finds_24 rfl (lv_at hl 2 rfl) ?_
      refine lv_i2l (v := x3.toInt64) hx hb dX8_finds_25 rfl ?_
      refine lv_aload_n hx hb dX8_finds_26 rfl (lv_at hl 0 rfl) ?_
      refine lv_iload hx hb dX8_finds_27 (lv_at hl 3 rfl) ?_
      refine lv_iconst (v := 0) hx hb dX8_finds_29 (by decide) ?_
      obtain ⟨r30, q30, h⟩ := bd h
      refine k_callV (nC := 2) [oX8 a g_undos g_listed g_papers g_length g_besides g_gapFirst g_gapLast g_layings g_first g_behind g_clauses g_drafts, ar cI (a 1) 5058 g_row] C hl.1 (tX8_pieceAt (a := a) q30) mL_X8_71 mmX8_pieceAt rfl rfl ⟨Nat.le_of_ble_eq_true rfl, Nat.le_of_ble_eq_true rfl⟩ rfl rfl rfl rfl (Nat.le_of_ble_eq_true rfl) hA hw [0, 1] [] rfl (by decide +kernel) rfl rfl rfl rfl dX8_finds_30 (fun H locs hw30 => ?_)
      refine lv_i2l (v := r30.toInt64) hx hb dX8_finds_33 rfl ?_
      refine lv_aload_n hx hb dX8_finds_34 rfl (lv_at hl 0 rfl) ?_
      refine lv_iload hx hb dX8_finds_35 (lv_at hl 3 rfl) ?_
      refine lv_iconst (v := 1) hx hb dX8_finds_37 (by decide) ?_
      obtain ⟨r38, q38, h⟩ := bd h
      refine k_callV (nC := 2) [oX8 a g_undos g_listed g_papers g_length g_besides g_gapFirst g_gapLast g_layings g_first g_behind g_clauses g_drafts, ar cI (a 1) 5058 g_row] C hl.1 (tX8_pieceAt (a := a) q38) mL_X8_71 mmX8_pieceAt rfl rfl ⟨Nat.le_of_ble_eq_true rfl, Nat.le_of_ble_eq_true rfl⟩ rfl rfl rfl rfl (Nat.le_of_ble_eq_true rfl) hA hw30 [0, 1] [] rfl (by decide +kernel) rfl rfl rfl rfl dX8_finds_38 (fun H locs hw38 => ?_)
      refine lv_i2l (v := r38.toInt64) hx hb dX8_finds_41 rfl ?_
      obtain ⟨r42, q42, h⟩ := bd h
      refine k_callS (nC := 2) [oX8 a g_undos g_listed g_papers g_length g_besides g_gapFirst g_gapLast g_layings g_first g_behind g_clauses g_drafts, ar cI (a 1) 5058 g_row] C hl.1 (tX8_in q42) mL_X8_58 mmX8_in rfl rfl ⟨Nat.le_of_ble_eq_true rfl, Nat.le_of_ble_eq_true rfl⟩ rfl rfl (Nat.le_of_ble_eq_true rfl) hA hw38 [] [0, 1] rfl (by decide +kernel) rfl rfl rfl rfl dX8_finds_42 (fun H locs hw42 => ?_)
      refine lv_if_eq (tgt := 60) hx hb dX8_finds_45 (by decide) (fun c45 => ?_) (fun c45 => ?_)
      · replace h := br_t' h c45
        refine lv_iload_n hx hb dX8_finds_60 rfl (lv_at hl 2 rfl) ?_
        refine lv_istore_n (lv' := [(3, .int x3), (0, .ref (a 0)), (1, .int x1), (4, .int x4)]) hx hb dX8_finds_61 rfl hl (by decide) rfl (fun ls hl => ?_)
        refine lv_iinc (v := (x4 + 1)) (lv' := [(4, .int (x4 + 1)), (3, .int x3), (0, .ref (a 0)), (1, .int x1)]) hx hb dX8_finds_62 hl (k := 3) rfl rfl (by decide) rfl (fun ls hl => ?_)
        refine lv_goto (tgt := 13) hx hb dX8_finds_65 (by decide) ?_
        exact ih _ _ _ _ _ hw42 (lv_sub hl [2, 3, 1, 0] rfl) h
      · replace h := br_f' h c45
        refine lv_aload_n hx hb dX8_finds_48 rfl (lv_at hl 0 rfl) ?_
        refine lv_iload hx hb dX8_finds_49 (lv_at hl 3 rfl) ?_
        refine lv_iconst (v := 1) hx hb dX8_finds_51 (by decide) ?_
        obtain ⟨r52, q52, h⟩ := bd h
        refine k_callV (nC := 2) [oX8 a g_undos g_listed g_papers g_length g_besides g_gapFirst g_gapLast g_layings g_first g_behind g_clauses g_drafts, ar cI (a 1) 5058 g_row] C hl.1 (tX8_pieceAt (a := a) q52) mL_X8_71 mmX8_pieceAt rfl rfl ⟨Nat.le_of_ble_eq_true rfl, Nat.le_of_ble_eq_true rfl⟩ rfl rfl rfl rfl (Nat.le_of_ble_eq_true rfl) hA hw42 [0, 1] [] rfl (by decide +kernel) rfl rfl rfl rfl dX8_finds_52 (fun H locs hw52 => ?_)
        refine lv_iconst (v := 1) hx hb dX8_finds_55 (by decide) ?_
        refine lv_iadd hx hb dX8_finds_56 ?_
        refine lv_goto (tgt := 61) hx hb dX8_finds_57 (by decide) ?_
        refine lv_istore_n (lv' := [(3, .int (r52 + 1)), (0, .ref (a 0)), (1, .int x1), (4, .int x4)]) hx hb dX8_finds_61 rfl hl (by decide) rfl (fun ls hl => ?_)
        refine lv_iinc (v := (x4 + 1)) (lv' := [(4, .int (x4 + 1)), (3, .int (r52 + 1)), (0, .ref (a 0)), (1, .int x1)]) hx hb dX8_finds_62 hl (k := 3) rfl rfl (by decide) rfl (fun ls hl => ?_)
        refine lv_goto (tgt := 13) hx hb dX8_finds_65 (by decide) ?_
        exact ih _ _ _ _ _ hw52 (lv_sub hl [2, 3, 1, 0] rfl) h
def fX8_finds_85 (g_row : Nat → Int32) (x3 : Int32) : (n : Nat) → (k : Int32 → Int32 → Option (Int32 × Int32 × Int32)) → Int32 → Int32 → Option (Int32 × Int32 × Int32)
  | 0, _, _, _ => none
  | n + 1, k, x4, g_gapLast =>
    (ld 5058 g_row 1).bind fun y92 =>
    if y92 ≤ x4 then
      k x4 g_gapLast
    else
      (fX8_pieceAt g_row x4 0).bind fun r101 =>
      if r101 ≤ x3 then
        fX8_finds_85 g_row x3 n k (x4 + 1) g_gapLast
      else
        (fX8_pieceAt g_row x4 0).bind fun r116 =>
        (fX8_lesser g_gapLast (r116 - 1)).bind fun r121 =>
        fX8_finds_85 g_row x3 n k (x4 + 1) r121
set_option maxRecDepth 100000 in
set_option maxHeartbeats 4000000 in
theorem wX8_finds_85 {p : Program} {l : Launch} {e : Env} {s : State} {m : MethodId} {args : Array Value} {below : List Frame} {meth : Method} {c : Code} {D : va_G} {cI : ClassId} {cS : GS} {A : Nat → Prop} {a : Nat → Nat} {g_row : Nat → Int32} {g_undos : Int32} {g_listed : Int32} {g_papers : Int32} {g_length : Int32} {g_besides : Int32} {g_gapFirst : Int32} {g_layings : Int32} {g_first : Int32} {g_behind : Int32} {g_clauses : Int32} {g_drafts : Int32} {x1 : Int32} {x3 : Int32} (C : MC p s m args meth c D cI cS A RX8 cX8_finds 5 (some .boolean)) (hA : ∀ q, s.heap.size ≤ q → A q) {s0 : Int32} {s1 : Int32} {s2 : Int32} (k : Int32 → Int32 → Option (Int32 × Int32 × Int32)) (hk : ∀ (x4 : Int32) (g_gapLast : Int32) (H : Heap) (locs : List Loc) (ls : Array Slot), Wd D A s.heap H locs [oX8 a g_undos g_listed g_papers g_length g_besides g_gapFirst g_gapLast g_layings g_first g_behind g_clauses g_drafts, ar cI (a 1) 5058 g_row] → lv_has ls 5 [(0, .ref (a 0)), (1, .int x1), (3, .int x3), (4, .int x4)] → k x4 g_gapLast = some (s0, s1, s2) → W p l e rmX8_finds s m args below meth c H locs 0 0 (KQ D A below args s (some (.int s0)) [oX8 a g_undos g_listed g_papers g_length g_besides s1 s2 g_layings g_first g_behind g_clauses g_drafts, ar cI (a 1) 5058 g_row]) (F0 m 140 ls [])) :
    ∀ (n : Nat) (x4 : Int32) (g_gapLast : Int32) (H : Heap) (locs : List Loc) (ls : Array Slot), Wd D A s.heap H locs [oX8 a g_undos g_listed g_papers g_length g_besides g_gapFirst g_gapLast g_layings g_first g_behind g_clauses g_drafts, ar cI (a 1) 5058 g_row] → lv_has ls 5 [(0, .ref (a 0)), (1, .int x1), (3, .int x3), (4, .int x4)] → fX8_finds_85 g_row x3 n k x4 g_gapLast = some (s0, s1, s2) → W p l e rmX8_finds s m args below meth c H locs 0 0 (KQ D A below args s (some (.int s0)) [oX8 a g_undos g_listed g_papers g_length g_besides s1 s2 g_layings g_first g_behind g_clauses g_drafts, ar cI (a 1) 5058 g_row]) (F0 m 85 ls []) := by
  have hx := C.1.1
  have hb := C.1.2.1
  intro n
  induction n with
  | zero =>
    intro x4 g_gapLast H locs ls hw hl h
    rw [fX8_finds_85] at h
    cases h
  | succ n ih =>
    intro x4 g_gapLast H locs ls hw hl h
    rw [fX8_finds_85] at h
    refine lv_iload hx hb dX8_finds_85 (lv_at hl 3 rfl) ?_
    refine lv_aload_n hx hb dX8_finds_87 rfl (lv_at hl 0 rfl) ?_
    refine k_get C inT_X8 hw 0 rfl rfl 0 (by decide) mF_X8_7 rfl dX8_finds_88 ?_
    refine lv_iconst (v := 1) hx hb dX8_finds_91 (by decide) ?_
    obtain ⟨y92, q92, h⟩ := bd h
    refine k_iald C hw 1 rfl q92 dX8_finds_92 ?_
    refine lv_icmp_ge (tgt := 140) hx hb dX8_finds_93 (by decide) (fun c93 => ?_) (fun c93 => ?_)
    · replace h := br_t' h c93
      exact hk _ _ _ _ _ hw (lv_sub hl [0, 1, 2, 3] rfl) h
    · replace h := br_f' h c93
      refine lv_aload_n hx hb dX8_finds_96 rfl (lv_at hl 0 rfl) ?_
      refine lv_aload_n hx hb dX8_finds_97 rfl (lv_at hl 0 rfl) ?_
      refine lv_iload hx hb dX8_finds_98 (lv_at hl 3 rfl) ?_
      refine lv_iconst (v := 0) hx hb dX8_finds_100 (by decide) ?_
      obtain ⟨r101, q101, h⟩ := bd h
      refine k_callV (nC := 2) [oX8 a g_undos g_listed g_papers g_length g_besides g_gapFirst g_gapLast g_layings g_first g_behind g_clauses g_drafts, ar cI (a 1) 5058 g_row] C hl.1 (tX8_pieceAt (a := a) q101) mL_X8_71 mmX8_pieceAt rfl rfl ⟨Nat.le_of_ble_eq_true rfl, Nat.le_of_ble_eq_true rfl⟩ rfl rfl rfl rfl (Nat.le_of_ble_eq_true rfl) hA hw [0, 1] [] rfl (by decide +kernel) rfl rfl rfl rfl dX8_finds_101 (fun H locs hw101 => ?_)
      refine lv_iload_n hx hb dX8_finds_104 rfl (lv_at hl 2 rfl) ?_
      refine lv_icmp_le (tgt := 127) hx hb dX8_finds_105 (by decide) (fun c105 => ?_) (fun c105 => ?_)
      · replace h := br_t' h c105
        refine lv_aload_n hx hb dX8_finds_127 rfl (lv_at hl 0 rfl) ?_
        refine k_get C inT_X8 hw101 0 rfl rfl 11 (by decide) mF_X8_109 rfl dX8_finds_128 ?_
        refine k_put C inT_X8 tyX8 tyX8_ok nmX8 hw101 0 rfl rfl 11 (by decide) mF_X8_109 rfl rfl (Nat.le_of_ble_eq_true rfl) [oX8 a g_undos g_listed g_papers g_length g_besides g_gapFirst g_gapLast g_layings g_first g_behind g_clauses g_drafts, ar cI (a 1) 5058 g_row] rfl dX8_finds_131 (fun H locs hw131 => ?_)
        refine lv_iinc (v := (x4 + 1)) (lv' := [(4, .int (x4 + 1)), (0, .ref (a 0)), (1, .int x1), (3, .int x3)]) hx hb dX8_finds_134 hl (k := 3) rfl rfl (by decide) rfl (fun ls hl => ?_)
        refine lv_goto (tgt := 85) hx hb dX8_finds_137 (by decide) ?_
        exact ih _ _ _ _ _ hw131 (lv_sub hl [1, 2, 3, 0] rfl) h
      · replace h := br_f' h c105
        refine lv_aload_n hx hb dX8_finds_108 rfl (lv_at hl 0 rfl) ?_
        refine k_get C inT_X8 hw101 0 rfl rfl 11 (by decide) mF_X8_109 rfl dX8_finds_109 ?_
        refine lv_aload_n hx hb dX8_finds_112 rfl (lv_at hl 0 rfl) ?_
        refine lv_iload hx hb dX8_finds_113 (lv_at hl 3 rfl) ?_
        refine lv_iconst (v := 0) hx hb dX8_finds_115 (by decide) ?_
        obtain ⟨r116, q116, h⟩ := bd h
        refine k_callV (nC := 2) [oX8 a g_undos g_listed g_papers g_length g_besides g_gapFirst g_gapLast g_layings g_first g_behind g_clauses g_drafts, ar cI (a 1) 5058 g_row] C hl.1 (tX8_pieceAt (a := a) q116) mL_X8_71 mmX8_pieceAt rfl rfl ⟨Nat.le_of_ble_eq_true rfl, Nat.le_of_ble_eq_true rfl⟩ rfl rfl rfl rfl (Nat.le_of_ble_eq_true rfl) hA hw101 [0, 1] [] rfl (by decide +kernel) rfl rfl rfl rfl dX8_finds_116 (fun H locs hw116 => ?_)
        refine lv_iconst (v := 1) hx hb dX8_finds_119 (by decide) ?_
        refine lv_isub hx hb dX8_finds_120 ?_
        obtain ⟨r121, q121, h⟩ := bd h
        refine k_callS (nC := 2) [oX8 a g_undos g_listed g_papers g_length g_besides g_gapFirst g_gapLast g_layings g_first g_behind g_clauses g_drafts, ar cI (a 1) 5058 g_row] C hl.1 (tX8_lesser q121) mL_X8_68 mmX8_lesser rfl rfl ⟨Nat.le_of_ble_eq_true rfl, Nat.le_of_ble_eq_true rfl⟩ rfl rfl (Nat.le_of_ble_eq_true rfl) hA hw116 [] [0, 1] rfl (by decide +kernel) rfl rfl rfl rfl dX8_finds_121 (fun H locs hw121 => ?_)
        refine lv_goto (tgt := 131) hx hb dX8_finds_124 (by decide) ?_
        refine k_put C inT_X8 tyX8 tyX8_ok nmX8 hw121 0 rfl rfl 11 (by decide) mF_X8_109 rfl rfl (Nat.le_of_ble_eq_true rfl) [oX8 a g_undos g_listed g_papers g_length g_besides g_gapFirst r121 g_layings g_first g_behind g_clauses g_drafts, ar cI (a 1) 5058 g_row] rfl dX8_finds_131 (fun H locs hw131 => ?_)
        refine lv_iinc (v := (x4 + 1)) (lv' := [(4, .int (x4 + 1)), (0, .ref (a 0)), (1, .int x1), (3, .int x3)]) hx hb dX8_finds_134 hl (k := 3) rfl rfl (by decide) rfl (fun ls hl => ?_)
        refine lv_goto (tgt := 85) hx hb dX8_finds_137 (by decide) ?_
        exact ih _ _ _ _ _ hw131 (lv_sub hl [1, 2, 3, 0] rfl) h
def fX8_finds (g_row : Nat → Int32) (g_gapFirst : Int32) (g_gapLast : Int32) (x1 : Int32) (x2 : Int32) : Option (Int32 × Int32 × Int32) :=
  (fX8_firstOf g_row x1).bind fun r3 =>
  (fX8_greater x2 r3).bind fun r6 =>
  fX8_finds_13 g_row FU (fun x3_13 x4_13 =>
    (fX8_lastOf g_row x1).bind fun r76 =>
    fX8_finds_85 g_row x3_13 FU (fun x4_85 g_gapLast_85 =>
      (fX8_lastOf g_row x1).bind fun r143 =>
      if r143 < x3_13 then
        some (0, x3_13, g_gapLast_85)
      else
        some (1, x3_13, g_gapLast_85)) 0 r76) r6 0
set_option maxRecDepth 100000 in
set_option maxHeartbeats 4000000 in
theorem tX8_finds {l : Launch} {D : va_G} {cI : ClassId} {cS : GS} {a : Nat → Nat} {g_row : Nat → Int32} {g_undos : Int32} {g_listed : Int32} {g_papers : Int32} {g_length : Int32} {g_besides : Int32} {g_gapFirst : Int32} {g_gapLast : Int32} {g_layings : Int32} {g_first : Int32} {g_behind : Int32} {g_clauses : Int32} {g_drafts : Int32} {x1 : Int32} {x2 : Int32} {s0 : Int32} {s1 : Int32} {s2 : Int32} (h : fX8_finds g_row g_gapFirst g_gapLast x1 x2 = some (s0, s1, s2)) : CT l D cI cS yX8_finds cX8_finds 5 (some .boolean) rmX8_finds [.ref (a 0), .int x1, .int x2] [oX8 a g_undos g_listed g_papers g_length g_besides g_gapFirst g_gapLast g_layings g_first g_behind g_clauses g_drafts, ar cI (a 1) 5058 g_row] (some (.int s0)) [oX8 a g_undos g_listed g_papers g_length g_besides s1 s2 g_layings g_first g_behind g_clauses g_drafts, ar cI (a 1) 5058 g_row] := by
  refine CT.of RX8 (by decide) rfl (Nat.le_of_ble_eq_true rfl) (fun p e s m below meth c ls A C hA hl hw => ?_)
  have hx := C.1.1
  have hb := C.1.2.1
  have hl : lv_has ls 5 [(0, .ref (a 0)), (1, .int x1), (2, .int x2)] := hl
  unfold fX8_finds at h
  refine lv_iload_n hx hb dX8_finds_0 rfl (lv_at hl 2 rfl) ?_
  refine lv_aload_n hx hb dX8_finds_1 rfl (lv_at hl 0 rfl) ?_
  refine lv_iload_n hx hb dX8_finds_2 rfl (lv_at hl 1 rfl) ?_
  obtain ⟨r3, q3, h⟩ := bd h
  refine k_callV (nC := 2) [oX8 a g_undos g_listed g_papers g_length g_besides g_gapFirst g_gapLast g_layings g_first g_behind g_clauses g_drafts, ar cI (a 1) 5058 g_row] C hl.1 (tX8_firstOf (a := a) q3) mL_X8_93 mmX8_firstOf rfl rfl ⟨Nat.le_of_ble_eq_true rfl, Nat.le_of_ble_eq_true rfl⟩ rfl rfl rfl rfl (Nat.le_of_ble_eq_true rfl) hA hw [0, 1] [] rfl (by decide +kernel) rfl rfl rfl rfl dX8_finds_3 (fun H locs hw3 => ?_)
  obtain ⟨r6, q6, h⟩ := bd h
  refine k_callS (nC := 2) [oX8 a g_undos g_listed g_papers g_length g_besides g_gapFirst g_gapLast g_layings g_first g_behind g_clauses g_drafts, ar cI (a 1) 5058 g_row] C hl.1 (tX8_greater q6) mL_X8_64 mmX8_greater rfl rfl ⟨Nat.le_of_ble_eq_true rfl, Nat.le_of_ble_eq_true rfl⟩ rfl rfl (Nat.le_of_ble_eq_true rfl) hA hw3 [] [0, 1] rfl (by decide +kernel) rfl rfl rfl rfl dX8_finds_6 (fun H locs hw6 => ?_)
  refine lv_istore_n (lv' := [(3, .int r6), (0, .ref (a 0)), (1, .int x1), (2, .int x2)]) hx hb dX8_finds_9 rfl hl (by decide) rfl (fun ls hl => ?_)
  refine lv_iconst (v := 0) hx hb dX8_finds_10 (by decide) ?_
  refine lv_istore (lv' := [(4, .int 0), (3, .int r6), (0, .ref (a 0)), (1, .int x1), (2, .int x2)]) hx hb dX8_finds_11 hl (by decide) rfl (fun ls hl => ?_)
  refine wX8_finds_13 C hA _ (fun x3_13 x4_13 H locs ls hw13x hl h => ?_) FU _ _ _ _ _ hw6 (lv_sub hl [2, 3, 1, 0] rfl) h
  refine lv_aload_n hx hb dX8_finds_68 rfl (lv_at hl 0 rfl) ?_
  refine lv_iload_n hx hb dX8_finds_69 rfl (lv_at hl 2 rfl) ?_
  refine k_put C inT_X8 tyX8 tyX8_ok nmX8 hw13x 0 rfl rfl 10 (by decide) mF_X8_106 rfl rfl (Nat.le_of_ble_eq_true rfl) [oX8 a g_undos g_listed g_papers g_length g_besides x3_13 g_gapLast g_layings g_first g_behind g_clauses g_drafts, ar cI (a 1) 5058 g_row] rfl dX8_finds_70 (fun H locs hw70 => ?_)
  refine lv_aload_n hx hb dX8_finds_73 rfl (lv_at hl 0 rfl) ?_
  refine lv_aload_n hx hb dX8_finds_74 rfl (lv_at hl 0 rfl) ?_
  refine lv_iload_n hx hb dX8_finds_75 rfl (lv_at hl 1 rfl) ?_
  obtain ⟨r76, q76, h⟩ := bd h
  refine k_callV (nC := 2) [oX8 a g_undos g_listed g_papers g_length g_besides x3_13 g_gapLast g_layings g_first g_behind g_clauses g_drafts, ar cI (a 1) 5058 g_row] C hl.1 (tX8_lastOf (a := a) q76) mL_X8_97 mmX8_lastOf rfl rfl ⟨Nat.le_of_ble_eq_true rfl, Nat.le_of_ble_eq_true rfl⟩ rfl rfl rfl rfl (Nat.le_of_ble_eq_true rfl) hA hw70 [0, 1] [] rfl (by decide +kernel) rfl rfl rfl rfl dX8_finds_76 (fun H locs hw76 => ?_)
  refine k_put C inT_X8 tyX8 tyX8_ok nmX8 hw76 0 rfl rfl 11 (by decide) mF_X8_109 rfl rfl (Nat.le_of_ble_eq_true rfl) [oX8 a g_undos g_listed g_papers g_length g_besides x3_13 r76 g_layings g_first g_behind g_clauses g_drafts, ar cI (a 1) 5058 g_row] rfl dX8_finds_79 (fun H locs hw79 => ?_)
  refine lv_iconst (v := 0) hx hb dX8_finds_82 (by decide) ?_
  refine lv_istore (lv' := [(4, .int 0), (0, .ref (a 0)), (1, .int x1), (3, .int x3_13)]) hx hb dX8_finds_83 hl (by decide) rfl (fun ls hl => ?_)
  refine wX8_finds_85 C hA _ (fun x4_85 g_gapLast_85 H locs ls hw85x hl h => ?_) FU _ _ _ _ _ hw79 (lv_sub hl [1, 2, 3, 0] rfl) h
  refine lv_iload_n hx hb dX8_finds_140 rfl (lv_at hl 2 rfl) ?_
  refine lv_aload_n hx hb dX8_finds_141 rfl (lv_at hl 0 rfl) ?_
  refine lv_iload_n hx hb dX8_finds_142 rfl (lv_at hl 1 rfl) ?_
  obtain ⟨r143, q143, h⟩ := bd h
  refine k_callV (nC := 2) [oX8 a g_undos g_listed g_papers g_length g_besides x3_13 g_gapLast_85 g_layings g_first g_behind g_clauses g_drafts, ar cI (a 1) 5058 g_row] C hl.1 (tX8_lastOf (a := a) q143) mL_X8_97 mmX8_lastOf rfl rfl ⟨Nat.le_of_ble_eq_true rfl, Nat.le_of_ble_eq_true rfl⟩ rfl rfl rfl rfl (Nat.le_of_ble_eq_true rfl) hA hw85x [0, 1] [] rfl (by decide +kernel) rfl rfl rfl rfl dX8_finds_143 (fun H locs hw143 => ?_)
  refine lv_icmp_gt (tgt := 153) hx hb dX8_finds_146 (by decide) (fun c146 => ?_) (fun c146 => ?_)
  · replace h := br_t' h c146
    refine lv_iconst (v := 0) hx hb dX8_finds_153 (by decide) ?_
    cases h
    exact k_zret (v := 0) C rfl hw143 dX8_finds_154
  · replace h := br_f' h c146
    refine lv_iconst (v := 1) hx hb dX8_finds_149 (by decide) ?_
    refine lv_goto (tgt := 154) hx hb dX8_finds_150 (by decide) ?_
    cases h
    exact k_zret (v := 1) C rfl hw143 dX8_finds_154
def rmX8_gaps : Room := { frames := 2, cells := 0, slots := 0, locals := 49 }
def fX8_gaps_4 (g_row : Nat → Int32) (x1 : Int32) : (n : Nat) → (k : Int32 → Int32 → Int32 → Int32 → Option (Int32 × Int32 × Int32)) → Int32 → Int32 → Int32 → Int32 → Option (Int32 × Int32 × Int32)
  | 0, _, _, _, _, _ => none
  | n + 1, k, x2, x3, g_gapFirst, g_gapLast =>
    (fX8_finds g_row g_gapFirst g_gapLast x1 x3).bind fun r7 =>
    if r7.1 = 0 then
      k x2 x3 r7.2.1 r7.2.2
    else
      fX8_gaps_4 g_row x1 n k (x2 + 1) (r7.2.2 + 1) r7.2.1 r7.2.2
set_option maxRecDepth 100000 in
set_option maxHeartbeats 4000000 in
theorem wX8_gaps_4 {p : Program} {l : Launch} {e : Env} {s : State} {m : MethodId} {args : Array Value} {below : List Frame} {meth : Method} {c : Code} {D : va_G} {cI : ClassId} {cS : GS} {A : Nat → Prop} {a : Nat → Nat} {g_row : Nat → Int32} {g_undos : Int32} {g_listed : Int32} {g_papers : Int32} {g_length : Int32} {g_besides : Int32} {g_layings : Int32} {g_first : Int32} {g_behind : Int32} {g_clauses : Int32} {g_drafts : Int32} {x1 : Int32} (C : MC p s m args meth c D cI cS A RX8 cX8_gaps 4 (some .int)) (hA : ∀ q, s.heap.size ≤ q → A q) {s0 : Int32} {s1 : Int32} {s2 : Int32} (k : Int32 → Int32 → Int32 → Int32 → Option (Int32 × Int32 × Int32)) (hk : ∀ (x2 : Int32) (x3 : Int32) (g_gapFirst : Int32) (g_gapLast : Int32) (H : Heap) (locs : List Loc) (ls : Array Slot), Wd D A s.heap H locs [oX8 a g_undos g_listed g_papers g_length g_besides g_gapFirst g_gapLast g_layings g_first g_behind g_clauses g_drafts, ar cI (a 1) 5058 g_row] → lv_has ls 4 [(0, .ref (a 0)), (1, .int x1), (2, .int x2), (3, .int x3)] → k x2 x3 g_gapFirst g_gapLast = some (s0, s1, s2) → W p l e rmX8_gaps s m args below meth c H locs 0 0 (KQ D A below args s (some (.int s0)) [oX8 a g_undos g_listed g_papers g_length g_besides s1 s2 g_layings g_first g_behind g_clauses g_drafts, ar cI (a 1) 5058 g_row]) (F0 m 26 ls [])) :
    ∀ (n : Nat) (x2 : Int32) (x3 : Int32) (g_gapFirst : Int32) (g_gapLast : Int32) (H : Heap) (locs : List Loc) (ls : Array Slot), Wd D A s.heap H locs [oX8 a g_undos g_listed g_papers g_length g_besides g_gapFirst g_gapLast g_layings g_first g_behind g_clauses g_drafts, ar cI (a 1) 5058 g_row] → lv_has ls 4 [(0, .ref (a 0)), (1, .int x1), (2, .int x2), (3, .int x3)] → fX8_gaps_4 g_row x1 n k x2 x3 g_gapFirst g_gapLast = some (s0, s1, s2) → W p l e rmX8_gaps s m args below meth c H locs 0 0 (KQ D A below args s (some (.int s0)) [oX8 a g_undos g_listed g_papers g_length g_besides s1 s2 g_layings g_first g_behind g_clauses g_drafts, ar cI (a 1) 5058 g_row]) (F0 m 4 ls []) := by
  have hx := C.1.1
  have hb := C.1.2.1
  intro n
  induction n with
  | zero =>
    intro x2 x3 g_gapFirst g_gapLast H locs ls hw hl h
    rw [fX8_gaps_4] at h
    cases h
  | succ n ih =>
    intro x2 x3 g_gapFirst g_gapLast H locs ls hw hl h
    rw [fX8_gaps_4] at h
    refine lv_aload_n hx hb dX8_gaps_4 rfl (lv_at hl 0 rfl) ?_
    refine lv_iload_n hx hb dX8_gaps_5 rfl (lv_at hl 1 rfl) ?_
    refine lv_iload_n hx hb dX8_gaps_6 rfl (lv_at hl 3 rfl) ?_
    obtain ⟨r7, q7, h⟩ := bd h
    refine k_callV (nC := 2) [oX8 a g_undos g_listed g_papers g_length g_besides r7.2.1 r7.2.2 g_layings g_first g_behind g_clauses g_drafts, ar cI (a 1) 5058 g_row] C hl.1 (tX8_finds (a := a) q7) mL_X8_112 mmX8_finds rfl rfl ⟨Nat.le_of_ble_eq_true rfl, Nat.le_of_ble_eq_true rfl⟩ rfl rfl rfl rfl (Nat.le_of_ble_eq_true rfl) hA hw [0, 1] [] rfl (by decide +kernel) rfl rfl rfl rfl dX8_gaps_7 (fun H locs hw7 => ?_)
    refine lv_if_eq (tgt := 26) hx hb dX8_gaps_10 (by decide) (fun c10 => ?_) (fun c10 => ?_)
    · replace h := br_t' h c10
      exact hk _ _ _ _ _ _ _ hw7 (lv_sub hl [0, 1, 2, 3] rfl) h
    · replace h := br_f' h c10
      refine lv_iinc (v := (x2 + 1)) (lv' := [(2, .int (x2 + 1)), (0, .ref (a 0)), (1, .int x1), (3, .int x3)]) hx hb dX8_gaps_13 hl (k := 2) rfl rfl (by decide) rfl (fun ls hl => ?_)
      refine lv_aload_n hx hb dX8_gaps_16 rfl (lv_at hl 1 rfl) ?_
      refine k_get C inT_X8 hw7 0 rfl rfl 11 (by decide) mF_X8_109 rfl dX8_gaps_17 ?_
      refine lv_iconst (v := 1) hx hb dX8_gaps_20 (by decide) ?_
      refine lv_iadd hx hb dX8_gaps_21 ?_
      refine lv_istore_n (lv' := [(3, .int (r7.2.2 + 1)), (2, .int (x2 + 1)), (0, .ref (a 0)), (1, .int x1)]) hx hb dX8_gaps_22 rfl hl (by decide) rfl (fun ls hl => ?_)
      refine lv_goto (tgt := 4) hx hb dX8_gaps_23 (by decide) ?_
      exact ih _ _ _ _ _ _ _ hw7 (lv_sub hl [2, 3, 1, 0] rfl) h
def fX8_gaps (g_row : Nat → Int32) (g_gapFirst : Int32) (g_gapLast : Int32) (x1 : Int32) : Option (Int32 × Int32 × Int32) :=
  fX8_gaps_4 g_row x1 FU (fun x2_4 x3_4 g_gapFirst_4 g_gapLast_4 =>
    some (x2_4, g_gapFirst_4, g_gapLast_4)) 0 1 g_gapFirst g_gapLast
set_option maxRecDepth 100000 in
set_option maxHeartbeats 4000000 in
theorem tX8_gaps {l : Launch} {D : va_G} {cI : ClassId} {cS : GS} {a : Nat → Nat} {g_row : Nat → Int32} {g_undos : Int32} {g_listed : Int32} {g_papers : Int32} {g_length : Int32} {g_besides : Int32} {g_gapFirst : Int32} {g_gapLast : Int32} {g_layings : Int32} {g_first : Int32} {g_behind : Int32} {g_clauses : Int32} {g_drafts : Int32} {x1 : Int32} {s0 : Int32} {s1 : Int32} {s2 : Int32} (h : fX8_gaps g_row g_gapFirst g_gapLast x1 = some (s0, s1, s2)) : CT l D cI cS yX8_gaps cX8_gaps 4 (some .int) rmX8_gaps [.ref (a 0), .int x1] [oX8 a g_undos g_listed g_papers g_length g_besides g_gapFirst g_gapLast g_layings g_first g_behind g_clauses g_drafts, ar cI (a 1) 5058 g_row] (some (.int s0)) [oX8 a g_undos g_listed g_papers g_length g_besides s1 s2 g_layings g_first g_behind g_clauses g_drafts, ar cI (a 1) 5058 g_row] := by
  refine CT.of RX8 (by decide) rfl (Nat.le_of_ble_eq_true rfl) (fun p e s m below meth c ls A C hA hl hw => ?_)
  have hx := C.1.1
  have hb := C.1.2.1
  have hl : lv_has ls 4 [(0, .ref (a 0)), (1, .int x1)] := hl
  unfold fX8_gaps at h
  refine lv_iconst (v := 0) hx hb dX8_gaps_0 (by decide) ?_
  refine lv_istore_n (lv' := [(2, .int 0), (0, .ref (a 0)), (1, .int x1)]) hx hb dX8_gaps_1 rfl hl (by decide) rfl (fun ls hl => ?_)
  refine lv_iconst (v := 1) hx hb dX8_gaps_2 (by decide) ?_
  refine lv_istore_n (lv' := [(3, .int 1), (2, .int 0), (0, .ref (a 0)), (1, .int x1)]) hx hb dX8_gaps_3 rfl hl (by decide) rfl (fun ls hl => ?_)
  refine wX8_gaps_4 C hA _ (fun x2_4 x3_4 g_gapFirst_4 g_gapLast_4 H locs ls hw4x hl h => ?_) FU _ _ _ _ _ _ _ hw (lv_sub hl [2, 3, 1, 0] rfl) h
  refine lv_iload_n hx hb dX8_gaps_26 rfl (lv_at hl 2 rfl) ?_
  cases h
  exact k_iret C hw4x dX8_gaps_27
def rmX8_findsGap : Room := { frames := 2, cells := 0, slots := 0, locals := 49 }
def fX8_findsGap_10 (g_row : Nat → Int32) (x1 : Int32) (x2 : Int32) : (n : Nat) → (k : Int32 → Int32 → Int32 → Int32 → Option (Int32 × Int32 × Int32)) → Int32 → Int32 → Int32 → Int32 → Option (Int32 × Int32 × Int32)
  | 0, _, _, _, _, _ => none
  | n + 1, k, x3, x4, g_gapFirst, g_gapLast =>
    if x2 ≤ x4 then
      k x3 x4 g_gapFirst g_gapLast
    else
      if x3 = 0 then
        k x3 x4 g_gapFirst g_gapLast
      else
        (fX8_finds g_row g_gapFirst g_gapLast x1 (g_gapLast + 1)).bind fun r28 =>
        fX8_findsGap_10 g_row x1 x2 n k r28.1 (x4 + 1) r28.2.1 r28.2.2
set_option maxRecDepth 100000 in
set_option maxHeartbeats 4000000 in
theorem wX8_findsGap_10 {p : Program} {l : Launch} {e : Env} {s : State} {m : MethodId} {args : Array Value} {below : List Frame} {meth : Method} {c : Code} {D : va_G} {cI : ClassId} {cS : GS} {A : Nat → Prop} {a : Nat → Nat} {g_row : Nat → Int32} {g_undos : Int32} {g_listed : Int32} {g_papers : Int32} {g_length : Int32} {g_besides : Int32} {g_layings : Int32} {g_first : Int32} {g_behind : Int32} {g_clauses : Int32} {g_drafts : Int32} {x1 : Int32} {x2 : Int32} (C : MC p s m args meth c D cI cS A RX8 cX8_findsGap 5 (some .boolean)) (hA : ∀ q, s.heap.size ≤ q → A q) {s0 : Int32} {s1 : Int32} {s2 : Int32} (k : Int32 → Int32 → Int32 → Int32 → Option (Int32 × Int32 × Int32)) (hk : ∀ (x3 : Int32) (x4 : Int32) (g_gapFirst : Int32) (g_gapLast : Int32) (H : Heap) (locs : List Loc) (ls : Array Slot), Wd D A s.heap H locs [oX8 a g_undos g_listed g_papers g_length g_besides g_gapFirst g_gapLast g_layings g_first g_behind g_clauses g_drafts, ar cI (a 1) 5058 g_row] → lv_has ls 5 [(0, .ref (a 0)), (1, .int x1), (2, .int x2), (3, .int x3), (4, .int x4)] → k x3 x4 g_gapFirst g_gapLast = some (s0, s1, s2) → W p l e rmX8_findsGap s m args below meth c H locs 0 0 (KQ D A below args s (some (.int s0)) [oX8 a g_undos g_listed g_papers g_length g_besides s1 s2 g_layings g_first g_behind g_clauses g_drafts, ar cI (a 1) 5058 g_row]) (F0 m 38 ls [])) :
    ∀ (n : Nat) (x3 : Int32) (x4 : Int32) (g_gapFirst : Int32) (g_gapLast : Int32) (H : Heap) (locs : List Loc) (ls : Array Slot), Wd D A s.heap H locs [oX8 a g_undos g_listed g_papers g_length g_besides g_gapFirst g_gapLast g_layings g_first g_behind g_clauses g_drafts, ar cI (a 1) 5058 g_row] → lv_has ls 5 [(0, .ref (a 0)), (1, .int x1), (2, .int x2), (3, .int x3), (4, .int x4)] → fX8_findsGap_10 g_row x1 x2 n k x3 x4 g_gapFirst g_gapLast = some (s0, s1, s2) → W p l e rmX8_findsGap s m args below meth c H locs 0 0 (KQ D A below args s (some (.int s0)) [oX8 a g_undos g_listed g_papers g_length g_besides s1 s2 g_layings g_first g_behind g_clauses g_drafts, ar cI (a 1) 5058 g_row]) (F0 m 10 ls []) := by
  have hx := C.1.1
  have hb := C.1.2.1
  intro n
  induction n with
  | zero =>
    intro x3 x4 g_gapFirst g_gapLast H locs ls hw hl h
    rw [fX8_findsGap_10] at h
    cases h
  | succ n ih =>
    intro x3 x4 g_gapFirst g_gapLast H locs ls hw hl h
    rw [fX8_findsGap_10] at h
    refine lv_iload hx hb dX8_findsGap_10 (lv_at hl 4 rfl) ?_
    refine lv_iload_n hx hb dX8_findsGap_12 rfl (lv_at hl 2 rfl) ?_
    refine lv_icmp_ge (tgt := 38) hx hb dX8_findsGap_13 (by decide) (fun c13 => ?_) (fun c13 => ?_)
    · replace h := br_t' h c13
      exact hk _ _ _ _ _ _ _ hw (lv_sub hl [0, 1, 2, 3, 4] rfl) h
    · replace h := br_f' h c13
      refine lv_iload_n hx hb dX8_findsGap_16 rfl (lv_at hl 3 rfl) ?_
      refine lv_if_eq (tgt := 38) hx hb dX8_findsGap_17 (by decide) (fun c17 => ?_) (fun c17 => ?_)
      · replace h := br_t' h c17
        exact hk _ _ _ _ _ _ _ hw (lv_sub hl [0, 1, 2, 3, 4] rfl) h
      · replace h := br_f' h c17
        refine lv_aload_n hx hb dX8_findsGap_20 rfl (lv_at hl 0 rfl) ?_
        refine lv_iload_n hx hb dX8_findsGap_21 rfl (lv_at hl 1 rfl) ?_
        refine lv_aload_n hx hb dX8_findsGap_22 rfl (lv_at hl 0 rfl) ?_
        refine k_get C inT_X8 hw 0 rfl rfl 11 (by decide) mF_X8_109 rfl dX8_findsGap_23 ?_
        refine lv_iconst (v := 1) hx hb dX8_findsGap_26 (by decide) ?_
        refine lv_iadd hx hb dX8_findsGap_27 ?_
        obtain ⟨r28, q28, h⟩ := bd h
        refine k_callV (nC := 2) [oX8 a g_undos g_listed g_papers g_length g_besides r28.2.1 r28.2.2 g_layings g_first g_behind g_clauses g_drafts, ar cI (a 1) 5058 g_row] C hl.1 (tX8_finds (a := a) q28) mL_X8_112 mmX8_finds rfl rfl ⟨Nat.le_of_ble_eq_true rfl, Nat.le_of_ble_eq_true rfl⟩ rfl rfl rfl rfl (Nat.le_of_ble_eq_true rfl) hA hw [0, 1] [] rfl (by decide +kernel) rfl rfl rfl rfl dX8_findsGap_28 (fun H locs hw28 => ?_)
        refine lv_istore_n (lv' := [(3, .int r28.1), (0, .ref (a 0)), (1, .int x1), (2, .int x2), (4, .int x4)]) hx hb dX8_findsGap_31 rfl hl (by decide) rfl (fun ls hl => ?_)
        refine lv_iinc (v := (x4 + 1)) (lv' := [(4, .int (x4 + 1)), (3, .int r28.1), (0, .ref (a 0)), (1, .int x1), (2, .int x2)]) hx hb dX8_findsGap_32 hl (k := 4) rfl rfl (by decide) rfl (fun ls hl => ?_)
        refine lv_goto (tgt := 10) hx hb dX8_findsGap_35 (by decide) ?_
        exact ih _ _ _ _ _ _ _ hw28 (lv_sub hl [2, 3, 4, 1, 0] rfl) h
def fX8_findsGap (g_row : Nat → Int32) (g_gapFirst : Int32) (g_gapLast : Int32) (x1 : Int32) (x2 : Int32) : Option (Int32 × Int32 × Int32) :=
  (fX8_finds g_row g_gapFirst g_gapLast x1 1).bind fun r3 =>
  fX8_findsGap_10 g_row x1 x2 FU (fun x3_10 x4_10 g_gapFirst_10 g_gapLast_10 =>
    (bz x3_10).bind fun b39 =>
    some (b39, g_gapFirst_10, g_gapLast_10)) r3.1 0 r3.2.1 r3.2.2
set_option maxRecDepth 100000 in
set_option maxHeartbeats 4000000 in
theorem tX8_findsGap {l : Launch} {D : va_G} {cI : ClassId} {cS : GS} {a : Nat → Nat} {g_row : Nat → Int32} {g_undos : Int32} {g_listed : Int32} {g_papers : Int32} {g_length : Int32} {g_besides : Int32} {g_gapFirst : Int32} {g_gapLast : Int32} {g_layings : Int32} {g_first : Int32} {g_behind : Int32} {g_clauses : Int32} {g_drafts : Int32} {x1 : Int32} {x2 : Int32} {s0 : Int32} {s1 : Int32} {s2 : Int32} (h : fX8_findsGap g_row g_gapFirst g_gapLast x1 x2 = some (s0, s1, s2)) : CT l D cI cS yX8_findsGap cX8_findsGap 5 (some .boolean) rmX8_findsGap [.ref (a 0), .int x1, .int x2] [oX8 a g_undos g_listed g_papers g_length g_besides g_gapFirst g_gapLast g_layings g_first g_behind g_clauses g_drafts, ar cI (a 1) 5058 g_row] (some (.int s0)) [oX8 a g_undos g_listed g_papers g_length g_besides s1 s2 g_layings g_first g_behind g_clauses g_drafts, ar cI (a 1) 5058 g_row] := by
  refine CT.of RX8 (by decide) rfl (Nat.le_of_ble_eq_true rfl) (fun p e s m below meth c ls A C hA hl hw => ?_)
  have hx := C.1.1
  have hb := C.1.2.1
  have hl : lv_has ls 5 [(0, .ref (a 0)), (1, .int x1), (2, .int x2)] := hl
  unfold fX8_findsGap at h
  refine lv_aload_n hx hb dX8_findsGap_0 rfl (lv_at hl 0 rfl) ?_
  refine lv_iload_n hx hb dX8_findsGap_1 rfl (lv_at hl 1 rfl) ?_
  refine lv_iconst (v := 1) hx hb dX8_findsGap_2 (by decide) ?_
  obtain ⟨r3, q3, h⟩ := bd h
  refine k_callV (nC := 2) [oX8 a g_undos g_listed g_papers g_length g_besides r3.2.1 r3.2.2 g_layings g_first g_behind g_clauses g_drafts, ar cI (a 1) 5058 g_row] C hl.1 (tX8_finds (a := a) q3) mL_X8_112 mmX8_finds rfl rfl ⟨Nat.le_of_ble_eq_true rfl, Nat.le_of_ble_eq_true rfl⟩ rfl rfl rfl rfl (Nat.le_of_ble_eq_true rfl) hA hw [0, 1] [] rfl (by decide +kernel) rfl rfl rfl rfl dX8_findsGap_3 (fun H locs hw3 => ?_)
  refine lv_istore_n (lv' := [(3, .int r3.1), (0, .ref (a 0)), (1, .int x1), (2, .int x2)]) hx hb dX8_findsGap_6 rfl hl (by decide) rfl (fun ls hl => ?_)
  refine lv_iconst (v := 0) hx hb dX8_findsGap_7 (by decide) ?_
  refine lv_istore (lv' := [(4, .int 0), (3, .int r3.1), (0, .ref (a 0)), (1, .int x1), (2, .int x2)]) hx hb dX8_findsGap_8 hl (by decide) rfl (fun ls hl => ?_)
  refine wX8_findsGap_10 C hA _ (fun x3_10 x4_10 g_gapFirst_10 g_gapLast_10 H locs ls hw10x hl h => ?_) FU _ _ _ _ _ _ _ hw3 (lv_sub hl [2, 3, 4, 1, 0] rfl) h
  refine lv_iload_n hx hb dX8_findsGap_38 rfl (lv_at hl 3 rfl) ?_
  obtain ⟨b39, q39, h⟩ := bd h
  cases h
  exact k_zretb C q39 hw10x dX8_findsGap_39
def rmX8_bestFor : Room := { frames := 0, cells := 0, slots := 0, locals := 0 }
def fX8_bestFor_8 (g_free : Nat → Int32) (x1 : Int32) : (n : Nat) → (k : Int32 → Int32 → Int32 → Option (Int32)) → Int32 → Int32 → Int32 → Option (Int32)
  | 0, _, _, _, _ => none
  | n + 1, k, x2, x3, x4 =>
    if x4 < 0 then
      k x2 x3 x4
    else
      (ld 8 g_free x4).bind fun y19 =>
      if y19 < x1 then
        (ld 8 g_free x4).bind fun y58 =>
        if y58 ≤ 0 then
          fX8_bestFor_8 g_free x1 n k x2 x3 (x4 + (-1))
        else
          if x3 = (-1) then
            fX8_bestFor_8 g_free x1 n k x2 x4 (x4 + (-1))
          else
            (ld 8 g_free x4).bind fun y73 =>
            (ld 8 g_free x3).bind fun y79 =>
            if y73 < y79 then
              fX8_bestFor_8 g_free x1 n k x2 x3 (x4 + (-1))
            else
              fX8_bestFor_8 g_free x1 n k x2 x4 (x4 + (-1))
      else
        if x2 = (-1) then
          (ld 8 g_free x4).bind fun y58 =>
          if y58 ≤ 0 then
            fX8_bestFor_8 g_free x1 n k x4 x3 (x4 + (-1))
          else
            if x3 = (-1) then
              fX8_bestFor_8 g_free x1 n k x4 x4 (x4 + (-1))
            else
              (ld 8 g_free x4).bind fun y73 =>
              (ld 8 g_free x3).bind fun y79 =>
              if y73 < y79 then
                fX8_bestFor_8 g_free x1 n k x4 x3 (x4 + (-1))
              else
                fX8_bestFor_8 g_free x1 n k x4 x4 (x4 + (-1))
        else
          (ld 8 g_free x4).bind fun y35 =>
          (ld 8 g_free x2).bind fun y41 =>
          if y41 < y35 then
            (ld 8 g_free x4).bind fun y58 =>
            if y58 ≤ 0 then
              fX8_bestFor_8 g_free x1 n k x2 x3 (x4 + (-1))
            else
              if x3 = (-1) then
                fX8_bestFor_8 g_free x1 n k x2 x4 (x4 + (-1))
              else
                (ld 8 g_free x4).bind fun y73 =>
                (ld 8 g_free x3).bind fun y79 =>
                if y73 < y79 then
                  fX8_bestFor_8 g_free x1 n k x2 x3 (x4 + (-1))
                else
                  fX8_bestFor_8 g_free x1 n k x2 x4 (x4 + (-1))
          else
            (ld 8 g_free x4).bind fun y58 =>
            if y58 ≤ 0 then
              fX8_bestFor_8 g_free x1 n k x4 x3 (x4 + (-1))
            else
              if x3 = (-1) then
                fX8_bestFor_8 g_free x1 n k x4 x4 (x4 + (-1))
              else
                (ld 8 g_free x4).bind fun y73 =>
                (ld 8 g_free x3).bind fun y79 =>
                if y73 < y79 then
                  fX8_bestFor_8 g_free x1 n k x4 x3 (x4 + (-1))
                else
                  fX8_bestFor_8 g_free x1 n k x4 x4 (x4 + (-1))
set_option maxRecDepth 100000 in
set_option maxHeartbeats 4000000 in
theorem wX8_bestFor_8 {p : Program} {l : Launch} {e : Env} {s : State} {m : MethodId} {args : Array Value} {below : List Frame} {meth : Method} {c : Code} {D : va_G} {cI : ClassId} {cS : GS} {A : Nat → Prop} {a : Nat → Nat} {g_undos : Int32} {g_listed : Int32} {g_papers : Int32} {g_length : Int32} {g_besides : Int32} {g_gapFirst : Int32} {g_gapLast : Int32} {g_layings : Int32} {g_free : Nat → Int32} {g_first : Int32} {g_behind : Int32} {g_clauses : Int32} {g_drafts : Int32} {x1 : Int32} (C : MC p s m args meth c D cI cS A RX8 cX8_bestFor 5 (some .int)) (hA : ∀ q, s.heap.size ≤ q → A q) {s0 : Int32} (k : Int32 → Int32 → Int32 → Option (Int32)) (hk : ∀ (x2 : Int32) (x3 : Int32) (x4 : Int32) (H : Heap) (locs : List Loc) (ls : Array Slot), Wd D A s.heap H locs [oX8 a g_undos g_listed g_papers g_length g_besides g_gapFirst g_gapLast g_layings g_first g_behind g_clauses g_drafts, ar cI (a 15) 8 g_free] → lv_has ls 5 [(0, .ref (a 0)), (1, .int x1), (2, .int x2), (3, .int x3), (4, .int x4)] → k x2 x3 x4 = some s0 → W p l e rmX8_bestFor s m args below meth c H locs 0 0 (KQ D A below args s (some (.int s0)) [oX8 a g_undos g_listed g_papers g_length g_besides g_gapFirst g_gapLast g_layings g_first g_behind g_clauses g_drafts, ar cI (a 15) 8 g_free]) (F0 m 96 ls [])) :
    ∀ (n : Nat) (x2 : Int32) (x3 : Int32) (x4 : Int32) (H : Heap) (locs : List Loc) (ls : Array Slot), Wd D A s.heap H locs [oX8 a g_undos g_listed g_papers g_length g_besides g_gapFirst g_gapLast g_layings g_first g_behind g_clauses g_drafts, ar cI (a 15) 8 g_free] → lv_has ls 5 [(0, .ref (a 0)), (1, .int x1), (2, .int x2), (3, .int x3), (4, .int x4)] → fX8_bestFor_8 g_free x1 n k x2 x3 x4 = some s0 → W p l e rmX8_bestFor s m args below meth c H locs 0 0 (KQ D A below args s (some (.int s0)) [oX8 a g_undos g_listed g_papers g_length g_besides g_gapFirst g_gapLast g_layings g_first g_behind g_clauses g_drafts, ar cI (a 15) 8 g_free]) (F0 m 8 ls []) := by
  have hx := C.1.1
  have hb := C.1.2.1
  intro n
  induction n with
  | zero =>
    intro x2 x3 x4 H locs ls hw hl h
    rw [fX8_bestFor_8] at h
    cases h
  | succ n ih =>
    intro x2 x3 x4 H locs ls hw hl h
    rw [fX8_bestFor_8] at h
    refine lv_iload hx hb dX8_bestFor_8 (lv_at hl 4 rfl) ?_
    refine lv_if_lt (tgt := 96) hx hb dX8_bestFor_10 (by decide) (fun c10 => ?_) (fun c10 => ?_)
    · replace h := br_t' h c10
      exact hk _ _ _ _ _ _ hw (lv_sub hl [0, 1, 2, 3, 4] rfl) h
    · replace h := br_f' h c10
      refine lv_aload_n hx hb dX8_bestFor_13 rfl (lv_at hl 0 rfl) ?_
      refine k_get C inT_X8 hw 0 rfl rfl 14 (by decide) mF_X8_28 rfl dX8_bestFor_14 ?_
      refine lv_iload hx hb dX8_bestFor_17 (lv_at hl 4 rfl) ?_
      obtain ⟨y19, q19, h⟩ := bd h
      refine k_iald C hw 1 rfl q19 dX8_bestFor_19 ?_
      refine lv_iload_n hx hb dX8_bestFor_20 rfl (lv_at hl 1 rfl) ?_
      refine lv_icmp_lt (tgt := 50) hx hb dX8_bestFor_21 (by decide) (fun c21 => ?_) (fun c21 => ?_)
      · replace h := br_t' h c21
        refine lv_iload_n hx hb dX8_bestFor_50 rfl (lv_at hl 2 rfl) ?_
        refine lv_istore_n (lv' := [(2, .int x2), (0, .ref (a 0)), (1, .int x1), (3, .int x3), (4, .int x4)]) hx hb dX8_bestFor_51 rfl hl (by decide) rfl (fun ls hl => ?_)
        refine lv_aload_n hx hb dX8_bestFor_52 rfl (lv_at hl 1 rfl) ?_
        refine k_get C inT_X8 hw 0 rfl rfl 14 (by decide) mF_X8_28 rfl dX8_bestFor_53 ?_
        refine lv_iload hx hb dX8_bestFor_56 (lv_at hl 4 rfl) ?_
        obtain ⟨y58, q58, h⟩ := bd h
        refine k_iald C hw 1 rfl q58 dX8_bestFor_58 ?_
        refine lv_if_le (tgt := 88) hx hb dX8_bestFor_59 (by decide) (fun c59 => ?_) (fun c59 => ?_)
        · replace h := br_t' h c59
          refine lv_iload_n hx hb dX8_bestFor_88 rfl (lv_at hl 3 rfl) ?_
          refine lv_istore_n (lv' := [(3, .int x3), (2, .int x2), (0, .ref (a 0)), (1, .int x1), (4, .int x4)]) hx hb dX8_bestFor_89 rfl hl (by decide) rfl (fun ls hl => ?_)
          refine lv_iinc (v := (x4 + (-1))) (lv' := [(4, .int (x4 + (-1))), (3, .int x3), (2, .int x2), (0, .ref (a 0)), (1, .int x1)]) hx hb dX8_bestFor_90 hl (k := 4) rfl rfl (by decide) rfl (fun ls hl => ?_)
          refine lv_goto (tgt := 8) hx hb dX8_bestFor_93 (by decide) ?_
          exact ih _ _ _ _ _ _ hw (lv_sub hl [3, 4, 2, 1, 0] rfl) h
        · replace h := br_f' h c59
          refine lv_iload_n hx hb dX8_bestFor_62 rfl (lv_at hl 3 rfl) ?_
          refine lv_iconst (v := (-1)) hx hb dX8_bestFor_63 (by decide) ?_
          refine lv_icmp_eq (tgt := 83) hx hb dX8_bestFor_64 (by decide) (fun c64 => ?_) (fun c64 => ?_)
          · replace h := br_t' h c64
            refine lv_iload hx hb dX8_bestFor_83 (lv_at hl 4 rfl) ?_
            refine lv_goto (tgt := 89) hx hb dX8_bestFor_85 (by decide) ?_
            refine lv_istore_n (lv' := [(3, .int x4), (2, .int x2), (0, .ref (a 0)), (1, .int x1), (4, .int x4)]) hx hb dX8_bestFor_89 rfl hl (by decide) rfl (fun ls hl => ?_)
            refine lv_iinc (v := (x4 + (-1))) (lv' := [(4, .int (x4 + (-1))), (3, .int x4), (2, .int x2), (0, .ref (a 0)), (1, .int x1)]) hx hb dX8_bestFor_90 hl (k := 4) rfl rfl (by decide) rfl (fun ls hl => ?_)
            refine lv_goto (tgt := 8) hx hb dX8_bestFor_93 (by decide) ?_
            exact ih _ _ _ _ _ _ hw (lv_sub hl [3, 4, 2, 1, 0] rfl) h
          · replace h := br_f' h c64
            refine lv_aload_n hx hb dX8_bestFor_67 rfl (lv_at hl 1 rfl) ?_
            refine k_get C inT_X8 hw 0 rfl rfl 14 (by decide) mF_X8_28 rfl dX8_bestFor_68 ?_
            refine lv_iload hx hb dX8_bestFor_71 (lv_at hl 4 rfl) ?_
            obtain ⟨y73, q73, h⟩ := bd h
            refine k_iald C hw 1 rfl q73 dX8_bestFor_73 ?_
            refine lv_aload_n hx hb dX8_bestFor_74 rfl (lv_at hl 1 rfl) ?_
            refine k_get C inT_X8 hw 0 rfl rfl 14 (by decide) mF_X8_28 rfl dX8_bestFor_75 ?_
            refine lv_iload_n hx hb dX8_bestFor_78 rfl (lv_at hl 3 rfl) ?_
            obtain ⟨y79, q79, h⟩ := bd h
            refine k_iald C hw 1 rfl q79 dX8_bestFor_79 ?_
            refine lv_icmp_lt (tgt := 88) hx hb dX8_bestFor_80 (by decide) (fun c80 => ?_) (fun c80 => ?_)
            · replace h := br_t' h c80
              refine lv_iload_n hx hb dX8_bestFor_88 rfl (lv_at hl 3 rfl) ?_
              refine lv_istore_n (lv' := [(3, .int x3), (2, .int x2), (0, .ref (a 0)), (1, .int x1), (4, .int x4)]) hx hb dX8_bestFor_89 rfl hl (by decide) rfl (fun ls hl => ?_)
              refine lv_iinc (v := (x4 + (-1))) (lv' := [(4, .int (x4 + (-1))), (3, .int x3), (2, .int x2), (0, .ref (a 0)), (1, .int x1)]) hx hb dX8_bestFor_90 hl (k := 4) rfl rfl (by decide) rfl (fun ls hl => ?_)
              refine lv_goto (tgt := 8) hx hb dX8_bestFor_93 (by decide) ?_
              exact ih _ _ _ _ _ _ hw (lv_sub hl [3, 4, 2, 1, 0] rfl) h
            · replace h := br_f' h c80
              refine lv_iload hx hb dX8_bestFor_83 (lv_at hl 4 rfl) ?_
              refine lv_goto (tgt := 89) hx hb dX8_bestFor_85 (by decide) ?_
              refine lv_istore_n (lv' := [(3, .int x4), (2, .int x2), (0, .ref (a 0)), (1, .int x1), (4, .int x4)]) hx hb dX8_bestFor_89 rfl hl (by decide) rfl (fun ls hl => ?_)
              refine lv_iinc (v := (x4 + (-1))) (lv' := [(4, .int (x4 + (-1))), (3, .int x4), (2, .int x2), (0, .ref (a 0)), (1, .int x1)]) hx hb dX8_bestFor_90 hl (k := 4) rfl rfl (by decide) rfl (fun ls hl => ?_)
              refine lv_goto (tgt := 8) hx hb dX8_bestFor_93 (by decide) ?_
              exact ih _ _ _ _ _ _ hw (lv_sub hl [3, 4, 2, 1, 0] rfl) h
      · replace h := br_f' h c21
        refine lv_iload_n hx hb dX8_bestFor_24 rfl (lv_at hl 2 rfl) ?_
        refine lv_iconst (v := (-1)) hx hb dX8_bestFor_25 (by decide) ?_
        refine lv_icmp_eq (tgt := 45) hx hb dX8_bestFor_26 (by decide) (fun c26 => ?_) (fun c26 => ?_)
        · replace h := br_t' h c26
          refine lv_iload hx hb dX8_bestFor_45 (lv_at hl 4 rfl) ?_
          refine lv_goto (tgt := 51) hx hb dX8_bestFor_47 (by decide) ?_
          refine lv_istore_n (lv' := [(2, .int x4), (0, .ref (a 0)), (1, .int x1), (3, .int x3), (4, .int x4)]) hx hb dX8_bestFor_51 rfl hl (by decide) rfl (fun ls hl => ?_)
          refine lv_aload_n hx hb dX8_bestFor_52 rfl (lv_at hl 1 rfl) ?_
          refine k_get C inT_X8 hw 0 rfl rfl 14 (by decide) mF_X8_28 rfl dX8_bestFor_53 ?_
          refine lv_iload hx hb dX8_bestFor_56 (lv_at hl 4 rfl) ?_
          obtain ⟨y58, q58, h⟩ := bd h
          refine k_iald C hw 1 rfl q58 dX8_bestFor_58 ?_
          refine lv_if_le (tgt := 88) hx hb dX8_bestFor_59 (by decide) (fun c59 => ?_) (fun c59 => ?_)
          · replace h := br_t' h c59
            refine lv_iload_n hx hb dX8_bestFor_88 rfl (lv_at hl 3 rfl) ?_
            refine lv_istore_n (lv' := [(3, .int x3), (2, .int x4), (0, .ref (a 0)), (1, .int x1), (4, .int x4)]) hx hb dX8_bestFor_89 rfl hl (by decide) rfl (fun ls hl => ?_)
            refine lv_iinc (v := (x4 + (-1))) (lv' := [(4, .int (x4 + (-1))), (3, .int x3), (2, .int x4), (0, .ref (a 0)), (1, .int x1)]) hx hb dX8_bestFor_90 hl (k := 4) rfl rfl (by decide) rfl (fun ls hl => ?_)
            refine lv_goto (tgt := 8) hx hb dX8_bestFor_93 (by decide) ?_
            exact ih _ _ _ _ _ _ hw (lv_sub hl [3, 4, 2, 1, 0] rfl) h
          · replace h := br_f' h c59
            refine lv_iload_n hx hb dX8_bestFor_62 rfl (lv_at hl 3 rfl) ?_
            refine lv_iconst (v := (-1)) hx hb dX8_bestFor_63 (by decide) ?_
            refine lv_icmp_eq (tgt := 83) hx hb dX8_bestFor_64 (by decide) (fun c64 => ?_) (fun c64 => ?_)
            · replace h := br_t' h c64
              refine lv_iload hx hb dX8_bestFor_83 (lv_at hl 4 rfl) ?_
              refine lv_goto (tgt := 89) hx hb dX8_bestFor_85 (by decide) ?_
              refine lv_istore_n (lv' := [(3, .int x4), (2, .int x4), (0, .ref (a 0)), (1, .int x1), (4, .int x4)]) hx hb dX8_bestFor_89 rfl hl (by decide) rfl (fun ls hl => ?_)
              refine lv_iinc (v := (x4 + (-1))) (lv' := [(4, .int (x4 + (-1))), (3, .int x4), (2, .int x4), (0, .ref (a 0)), (1, .int x1)]) hx hb dX8_bestFor_90 hl (k := 4) rfl rfl (by decide) rfl (fun ls hl => ?_)
              refine lv_goto (tgt := 8) hx hb dX8_bestFor_93 (by decide) ?_
              exact ih _ _ _ _ _ _ hw (lv_sub hl [3, 4, 2, 1, 0] rfl) h
            · replace h := br_f' h c64
              refine lv_aload_n hx hb dX8_bestFor_67 rfl (lv_at hl 1 rfl) ?_
              refine k_get C inT_X8 hw 0 rfl rfl 14 (by decide) mF_X8_28 rfl dX8_bestFor_68 ?_
              refine lv_iload hx hb dX8_bestFor_71 (lv_at hl 4 rfl) ?_
              obtain ⟨y73, q73, h⟩ := bd h
              refine k_iald C hw 1 rfl q73 dX8_bestFor_73 ?_
              refine lv_aload_n hx hb dX8_bestFor_74 rfl (lv_at hl 1 rfl) ?_
              refine k_get C inT_X8 hw 0 rfl rfl 14 (by decide) mF_X8_28 rfl dX8_bestFor_75 ?_
              refine lv_iload_n hx hb dX8_bestFor_78 rfl (lv_at hl 3 rfl) ?_
              obtain ⟨y79, q79, h⟩ := bd h
              refine k_iald C hw 1 rfl q79 dX8_bestFor_79 ?_
              refine lv_icmp_lt (tgt := 88) hx hb dX8_bestFor_80 (by decide) (fun c80 => ?_) (fun c80 => ?_)
              · replace h := br_t' h c80
                refine lv_iload_n hx hb dX8_bestFor_88 rfl (lv_at hl 3 rfl) ?_
                refine lv_istore_n (lv' := [(3, .int x3), (2, .int x4), (0, .ref (a 0)), (1, .int x1), (4, .int x4)]) hx hb dX8_bestFor_89 rfl hl (by decide) rfl (fun ls hl => ?_)
                refine lv_iinc (v := (x4 + (-1))) (lv' := [(4, .int (x4 + (-1))), (3, .int x3), (2, .int x4), (0, .ref (a 0)), (1, .int x1)]) hx hb dX8_bestFor_90 hl (k := 4) rfl rfl (by decide) rfl (fun ls hl => ?_)
                refine lv_goto (tgt := 8) hx hb dX8_bestFor_93 (by decide) ?_
                exact ih _ _ _ _ _ _ hw (lv_sub hl [3, 4, 2, 1, 0] rfl) h
              · replace h := br_f' h c80
                refine lv_iload hx hb dX8_bestFor_83 (lv_at hl 4 rfl) ?_
                refine lv_goto (tgt := 89) hx hb dX8_bestFor_85 (by decide) ?_
                refine lv_istore_n (lv' := [(3, .int x4), (2, .int x4), (0, .ref (a 0)), (1, .int x1), (4, .int x4)]) hx hb dX8_bestFor_89 rfl hl (by decide) rfl (fun ls hl => ?_)
                refine lv_iinc (v := (x4 + (-1))) (lv' := [(4, .int (x4 + (-1))), (3, .int x4), (2, .int x4), (0, .ref (a 0)), (1, .int x1)]) hx hb dX8_bestFor_90 hl (k := 4) rfl rfl (by decide) rfl (fun ls hl => ?_)
                refine lv_goto (tgt := 8) hx hb dX8_bestFor_93 (by decide) ?_
                exact ih _ _ _ _ _ _ hw (lv_sub hl [3, 4, 2, 1, 0] rfl) h
        · replace h := br_f' h c26
          refine lv_aload_n hx hb dX8_bestFor_29 rfl (lv_at hl 0 rfl) ?_
          refine k_get C inT_X8 hw 0 rfl rfl 14 (by decide) mF_X8_28 rfl dX8_bestFor_30 ?_
          refine lv_iload hx hb dX8_bestFor_33 (lv_at hl 4 rfl) ?_
          obtain ⟨y35, q35, h⟩ := bd h
          refine k_iald C hw 1 rfl q35 dX8_bestFor_35 ?_
          refine lv_aload_n hx hb dX8_bestFor_36 rfl (lv_at hl 0 rfl) ?_
          refine k_get C inT_X8 hw 0 rfl rfl 14 (by decide) mF_X8_28 rfl dX8_bestFor_37 ?_
          refine lv_iload_n hx hb dX8_bestFor_40 rfl (lv_at hl 2 rfl) ?_
          obtain ⟨y41, q41, h⟩ := bd h
          refine k_iald C hw 1 rfl q41 dX8_bestFor_41 ?_
          refine lv_icmp_gt (tgt := 50) hx hb dX8_bestFor_42 (by decide) (fun c42 => ?_) (fun c42 => ?_)
          · replace h := br_t' h c42
            refine lv_iload_n hx hb dX8_bestFor_50 rfl (lv_at hl 2 rfl) ?_
            refine lv_istore_n (lv' := [(2, .int x2), (0, .ref (a 0)), (1, .int x1), (3, .int x3), (4, .int x4)]) hx hb dX8_bestFor_51 rfl hl (by decide) rfl (fun ls hl => ?_)
            refine lv_aload_n hx hb dX8_bestFor_52 rfl (lv_at hl 1 rfl) ?_
            refine k_get C inT_X8 hw 0 rfl rfl 14 (by decide) mF_X8_28 rfl dX8_bestFor_53 ?_
            refine lv_iload hx hb dX8_bestFor_56 (lv_at hl 4 rfl) ?_
            obtain ⟨y58, q58, h⟩ := bd h
            refine k_iald C hw 1 rfl q58 dX8_bestFor_58 ?_
            refine lv_if_le (tgt := 88) hx hb dX8_bestFor_59 (by decide) (fun c59 => ?_) (fun c59 => ?_)
            · replace h := br_t' h c59
              refine lv_iload_n hx hb dX8_bestFor_88 rfl (lv_at hl 3 rfl) ?_
              refine lv_istore_n (lv' := [(3, .int x3), (2, .int x2), (0, .ref (a 0)), (1, .int x1), (4, .int x4)]) hx hb dX8_bestFor_89 rfl hl (by decide) rfl (fun ls hl => ?_)
              refine lv_iinc (v := (x4 + (-1))) (lv' := [(4, .int (x4 + (-1))), (3, .int x3), (2, .int x2), (0, .ref (a 0)), (1, .int x1)]) hx hb dX8_bestFor_90 hl (k := 4) rfl rfl (by decide) rfl (fun ls hl => ?_)
              refine lv_goto (tgt := 8) hx hb dX8_bestFor_93 (by decide) ?_
              exact ih _ _ _ _ _ _ hw (lv_sub hl [3, 4, 2, 1, 0] rfl) h
            · replace h := br_f' h c59
              refine lv_iload_n hx hb dX8_bestFor_62 rfl (lv_at hl 3 rfl) ?_
              refine lv_iconst (v := (-1)) hx hb dX8_bestFor_63 (by decide) ?_
              refine lv_icmp_eq (tgt := 83) hx hb dX8_bestFor_64 (by decide) (fun c64 => ?_) (fun c64 => ?_)
              · replace h := br_t' h c64
                refine lv_iload hx hb dX8_bestFor_83 (lv_at hl 4 rfl) ?_
                refine lv_goto (tgt := 89) hx hb dX8_bestFor_85 (by decide) ?_
                refine lv_istore_n (lv' := [(3, .int x4), (2, .int x2), (0, .ref (a 0)), (1, .int x1), (4, .int x4)]) hx hb dX8_bestFor_89 rfl hl (by decide) rfl (fun ls hl => ?_)
                refine lv_iinc (v := (x4 + (-1))) (lv' := [(4, .int (x4 + (-1))), (3, .int x4), (2, .int x2), (0, .ref (a 0)), (1, .int x1)]) hx hb dX8_bestFor_90 hl (k := 4) rfl rfl (by decide) rfl (fun ls hl => ?_)
                refine lv_goto (tgt := 8) hx hb dX8_bestFor_93 (by decide) ?_
                exact ih _ _ _ _ _ _ hw (lv_sub hl [3, 4, 2, 1, 0] rfl) h
              · replace h := br_f' h c64
                refine lv_aload_n hx hb dX8_bestFor_67 rfl (lv_at hl 1 rfl) ?_
                refine k_get C inT_X8 hw 0 rfl rfl 14 (by decide) mF_X8_28 rfl dX8_bestFor_68 ?_
                refine lv_iload hx hb dX8_bestFor_71 (lv_at hl 4 rfl) ?_
                obtain ⟨y73, q73, h⟩ := bd h
                refine k_iald C hw 1 rfl q73 dX8_bestFor_73 ?_
                refine lv_aload_n hx hb dX8_bestFor_74 rfl (lv_at hl 1 rfl) ?_
                refine k_get C inT_X8 hw 0 rfl rfl 14 (by decide) mF_X8_28 rfl dX8_bestFor_75 ?_
                refine lv_iload_n hx hb dX8_bestFor_78 rfl (lv_at hl 3 rfl) ?_
                obtain ⟨y79, q79, h⟩ := bd h
                refine k_iald C hw 1 rfl q79 dX8_bestFor_79 ?_
                refine lv_icmp_lt (tgt := 88) hx hb dX8_bestFor_80 (by decide) (fun c80 => ?_) (fun c80 => ?_)
                · replace h := br_t' h c80
                  refine lv_iload_n hx hb dX8_bestFor_88 rfl (lv_at hl 3 rfl) ?_
                  refine lv_istore_n (lv' := [(3, .int x3), (2, .int x2), (0, .ref (a 0)), (1, .int x1), (4, .int x4)]) hx hb dX8_bestFor_89 rfl hl (by decide) rfl (fun ls hl => ?_)
                  refine lv_iinc (v := (x4 + (-1))) (lv' := [(4, .int (x4 + (-1))), (3, .int x3), (2, .int x2), (0, .ref (a 0)), (1, .int x1)]) hx hb dX8_bestFor_90 hl (k := 4) rfl rfl (by decide) rfl (fun ls hl => ?_)
                  refine lv_goto (tgt := 8) hx hb dX8_bestFor_93 (by decide) ?_
                  exact ih _ _ _ _ _ _ hw (lv_sub hl [3, 4, 2, 1, 0] rfl) h
                · replace h := br_f' h c80
                  refine lv_iload hx hb dX8_bestFor_83 (lv_at hl 4 rfl) ?_
                  refine lv_goto (tgt := 89) hx hb dX8_bestFor_85 (by decide) ?_
                  refine lv_istore_n (lv' := [(3, .int x4), (2, .int x2), (0, .ref (a 0)), (1, .int x1), (4, .int x4)]) hx hb dX8_bestFor_89 rfl hl (by decide) rfl (fun ls hl => ?_)
                  refine lv_iinc (v := (x4 + (-1))) (lv' := [(4, .int (x4 + (-1))), (3, .int x4), (2, .int x2), (0, .ref (a 0)), (1, .int x1)]) hx hb dX8_bestFor_90 hl (k := 4) rfl rfl (by decide) rfl (fun ls hl => ?_)
                  refine lv_goto (tgt := 8) hx hb dX8_bestFor_93 (by decide) ?_
                  exact ih _ _ _ _ _ _ hw (lv_sub hl [3, 4, 2, 1, 0] rfl) h
          · replace h := br_f' h c42
            refine lv_iload hx hb dX8_bestFor_45 (lv_at hl 4 rfl) ?_
            refine lv_goto (tgt := 51) hx hb dX8_bestFor_47 (by decide) ?_
            refine lv_istore_n (lv' := [(2, .int x4), (0, .ref (a 0)), (1, .int x1), (3, .int x3), (4, .int x4)]) hx hb dX8_bestFor_51 rfl hl (by decide) rfl (fun ls hl => ?_)
            refine lv_aload_n hx hb dX8_bestFor_52 rfl (lv_at hl 1 rfl) ?_
            refine k_get C inT_X8 hw 0 rfl rfl 14 (by decide) mF_X8_28 rfl dX8_bestFor_53 ?_
            refine lv_iload hx hb dX8_bestFor_56 (lv_at hl 4 rfl) ?_
            obtain ⟨y58, q58, h⟩ := bd h
            refine k_iald C hw 1 rfl q58 dX8_bestFor_58 ?_
            refine lv_if_le (tgt := 88) hx hb dX8_bestFor_59 (by decide) (fun c59 => ?_) (fun c59 => ?_)
            · replace h := br_t' h c59
              refine lv_iload_n hx hb dX8_bestFor_88 rfl (lv_at hl 3 rfl) ?_
              refine lv_istore_n (lv' := [(3, .int x3), (2, .int x4), (0, .ref (a 0)), (1, .int x1), (4, .int x4)]) hx hb dX8_bestFor_89 rfl hl (by decide) rfl (fun ls hl => ?_)
              refine lv_iinc (v := (x4 + (-1))) (lv' := [(4, .int (x4 + (-1))), (3, .int x3), (2, .int x4), (0, .ref (a 0)), (1, .int x1)]) hx hb dX8_bestFor_90 hl (k := 4) rfl rfl (by decide) rfl (fun ls hl => ?_)
              refine lv_goto (tgt := 8) hx hb dX8_bestFor_93 (by decide) ?_
              exact ih _ _ _ _ _ _ hw (lv_sub hl [3, 4, 2, 1, 0] rfl) h
            · replace h := br_f' h c59
              refine lv_iload_n hx hb dX8_bestFor_62 rfl (lv_at hl 3 rfl) ?_
              refine lv_iconst (v := (-1)) hx hb dX8_bestFor_63 (by decide) ?_
              refine lv_icmp_eq (tgt := 83) hx hb dX8_bestFor_64 (by decide) (fun c64 => ?_) (fun c64 => ?_)
              · replace h := br_t' h c64
                refine lv_iload hx hb dX8_bestFor_83 (lv_at hl 4 rfl) ?_
                refine lv_goto (tgt := 89) hx hb dX8_bestFor_85 (by decide) ?_
                refine lv_istore_n (lv' := [(3, .int x4), (2, .int x4), (0, .ref (a 0)), (1, .int x1), (4, .int x4)]) hx hb dX8_bestFor_89 rfl hl (by decide) rfl (fun ls hl => ?_)
                refine lv_iinc (v := (x4 + (-1))) (lv' := [(4, .int (x4 + (-1))), (3, .int x4), (2, .int x4), (0, .ref (a 0)), (1, .int x1)]) hx hb dX8_bestFor_90 hl (k := 4) rfl rfl (by decide) rfl (fun ls hl => ?_)
                refine lv_goto (tgt := 8) hx hb dX8_bestFor_93 (by decide) ?_
                exact ih _ _ _ _ _ _ hw (lv_sub hl [3, 4, 2, 1, 0] rfl) h
              · replace h := br_f' h c64
                refine lv_aload_n hx hb dX8_bestFor_67 rfl (lv_at hl 1 rfl) ?_
                refine k_get C inT_X8 hw 0 rfl rfl 14 (by decide) mF_X8_28 rfl dX8_bestFor_68 ?_
                refine lv_iload hx hb dX8_bestFor_71 (lv_at hl 4 rfl) ?_
                obtain ⟨y73, q73, h⟩ := bd h
                refine k_iald C hw 1 rfl q73 dX8_bestFor_73 ?_
                refine lv_aload_n hx hb dX8_bestFor_74 rfl (lv_at hl 1 rfl) ?_
                refine k_get C inT_X8 hw 0 rfl rfl 14 (by decide) mF_X8_28 rfl dX8_bestFor_75 ?_
                refine lv_iload_n hx hb dX8_bestFor_78 rfl (lv_at hl 3 rfl) ?_
                obtain ⟨y79, q79, h⟩ := bd h
                refine k_iald C hw 1 rfl q79 dX8_bestFor_79 ?_
                refine lv_icmp_lt (tgt := 88) hx hb dX8_bestFor_80 (by decide) (fun c80 => ?_) (fun c80 => ?_)
                · replace h := br_t' h c80
                  refine lv_iload_n hx hb dX8_bestFor_88 rfl (lv_at hl 3 rfl) ?_
                  refine lv_istore_n (lv' := [(3, .int x3), (2, .int x4), (0, .ref (a 0)), (1, .int x1), (4, .int x4)]) hx hb dX8_bestFor_89 rfl hl (by decide) rfl (fun ls hl => ?_)
                  refine lv_iinc (v := (x4 + (-1))) (lv' := [(4, .int (x4 + (-1))), (3, .int x3), (2, .int x4), (0, .ref (a 0)), (1, .int x1)]) hx hb dX8_bestFor_90 hl (k := 4) rfl rfl (by decide) rfl (fun ls hl => ?_)
                  refine lv_goto (tgt := 8) hx hb dX8_bestFor_93 (by decide) ?_
                  exact ih _ _ _ _ _ _ hw (lv_sub hl [3, 4, 2, 1, 0] rfl) h
                · replace h := br_f' h c80
                  refine lv_iload hx hb dX8_bestFor_83 (lv_at hl 4 rfl) ?_
                  refine lv_goto (tgt := 89) hx hb dX8_bestFor_85 (by decide) ?_
                  refine lv_istore_n (lv' := [(3, .int x4), (2, .int x4), (0, .ref (a 0)), (1, .int x1), (4, .int x4)]) hx hb dX8_bestFor_89 rfl hl (by decide) rfl (fun ls hl => ?_)
                  refine lv_iinc (v := (x4 + (-1))) (lv' := [(4, .int (x4 + (-1))), (3, .int x4), (2, .int x4), (0, .ref (a 0)), (1, .int x1)]) hx hb dX8_bestFor_90 hl (k := 4) rfl rfl (by decide) rfl (fun ls hl => ?_)
                  refine lv_goto (tgt := 8) hx hb dX8_bestFor_93 (by decide) ?_
                  exact ih _ _ _ _ _ _ hw (lv_sub hl [3, 4, 2, 1, 0] rfl) h
def fX8_bestFor (g_free : Nat → Int32) (x1 : Int32) : Option (Int32) :=
  fX8_bestFor_8 g_free x1 FU (fun x2_8 x3_8 x4_8 =>
    if x2_8 = (-1) then
      some x3_8
    else
      some x2_8) (-1) (-1) 7
set_option maxRecDepth 100000 in
set_option maxHeartbeats 4000000 in
theorem tX8_bestFor {l : Launch} {D : va_G} {cI : ClassId} {cS : GS} {a : Nat → Nat} {g_undos : Int32} {g_listed : Int32} {g_papers : Int32} {g_length : Int32} {g_besides : Int32} {g_gapFirst : Int32} {g_gapLast : Int32} {g_layings : Int32} {g_free : Nat → Int32} {g_first : Int32} {g_behind : Int32} {g_clauses : Int32} {g_drafts : Int32} {x1 : Int32} {s0 : Int32} (h : fX8_bestFor g_free x1 = some s0) : CT l D cI cS yX8_bestFor cX8_bestFor 5 (some .int) rmX8_bestFor [.ref (a 0), .int x1] [oX8 a g_undos g_listed g_papers g_length g_besides g_gapFirst g_gapLast g_layings g_first g_behind g_clauses g_drafts, ar cI (a 15) 8 g_free] (some (.int s0)) [oX8 a g_undos g_listed g_papers g_length g_besides g_gapFirst g_gapLast g_layings g_first g_behind g_clauses g_drafts, ar cI (a 15) 8 g_free] := by
  refine CT.of RX8 (by decide) rfl (Nat.le_of_ble_eq_true rfl) (fun p e s m below meth c ls A C hA hl hw => ?_)
  have hx := C.1.1
  have hb := C.1.2.1
  have hl : lv_has ls 5 [(0, .ref (a 0)), (1, .int x1)] := hl
  unfold fX8_bestFor at h
  refine lv_iconst (v := (-1)) hx hb dX8_bestFor_0 (by decide) ?_
  refine lv_istore_n (lv' := [(2, .int (-1)), (0, .ref (a 0)), (1, .int x1)]) hx hb dX8_bestFor_1 rfl hl (by decide) rfl (fun ls hl => ?_)
  refine lv_iconst (v := (-1)) hx hb dX8_bestFor_2 (by decide) ?_
  refine lv_istore_n (lv' := [(3, .int (-1)), (2, .int (-1)), (0, .ref (a 0)), (1, .int x1)]) hx hb dX8_bestFor_3 rfl hl (by decide) rfl (fun ls hl => ?_)
  refine lv_bipush (v := 7) hx hb dX8_bestFor_4 (by decide) ?_
  refine lv_istore (lv' := [(4, .int 7), (3, .int (-1)), (2, .int (-1)), (0, .ref (a 0)), (1, .int x1)]) hx hb dX8_bestFor_6 hl (by decide) rfl (fun ls hl => ?_)
  refine wX8_bestFor_8 C hA _ (fun x2_8 x3_8 x4_8 H locs ls hw8x hl h => ?_) FU _ _ _ _ _ _ hw (lv_sub hl [3, 4, 2, 1, 0] rfl) h
  refine lv_iload_n hx hb dX8_bestFor_96 rfl (lv_at hl 2 rfl) ?_
  refine lv_iconst (v := (-1)) hx hb dX8_bestFor_97 (by decide) ?_
  refine lv_icmp_eq (tgt := 105) hx hb dX8_bestFor_98 (by decide) (fun c98 => ?_) (fun c98 => ?_)
  · replace h := br_t' h c98
    refine lv_iload_n hx hb dX8_bestFor_105 rfl (lv_at hl 3 rfl) ?_
    cases h
    exact k_iret C hw8x dX8_bestFor_106
  · replace h := br_f' h c98
    refine lv_iload_n hx hb dX8_bestFor_101 rfl (lv_at hl 2 rfl) ?_
    refine lv_goto (tgt := 106) hx hb dX8_bestFor_102 (by decide) ?_
    cases h
    exact k_iret C hw8x dX8_bestFor_106
def rmX8_plans : Room := { frames := 4, cells := 0, slots := 0, locals := 92 }
def fX8_plans_7 (g_row : Nat → Int32) : (n : Nat) → (k : Int32 → (Nat → Int32) → Option (Int32 × Int32 × (Nat → Int32) × Int32 × (Nat → Int32))) → Int32 → (Nat → Int32) → Option (Int32 × Int32 × (Nat → Int32) × Int32 × (Nat → Int32))
  | 0, _, _, _ => none
  | n + 1, k, x2, g_free =>
    if 8 ≤ x2 then
      k x2 g_free
    else
      (ld 5058 g_row (34 + x2)).bind fun y26 =>
      (fX8_load g_row x2).bind fun r29 =>
      (sv 8 g_free x2 (y26 - r29)).bind fun g33 =>
      fX8_plans_7 g_row n k (x2 + 1) g33
set_option maxRecDepth 100000 in
set_option maxHeartbeats 4000000 in
theorem wX8_plans_7 {p : Program} {l : Launch} {e : Env} {s : State} {m : MethodId} {args : Array Value} {below : List Frame} {meth : Method} {c : Code} {D : va_G} {cI : ClassId} {cS : GS} {A : Nat → Prop} {a : Nat → Nat} {g_row : Nat → Int32} {g_undos : Int32} {g_listed : Int32} {g_papers : Int32} {g_length : Int32} {g_besides : Int32} {g_gapFirst : Int32} {g_gapLast : Int32} {g_laying : Nat → Int32} {g_layings : Int32} {g_first : Int32} {g_behind : Int32} {g_clauses : Int32} {g_drafts : Int32} {x1 : Int32} (C : MC p s m args meth c D cI cS A RX8 cX8_plans 6 none) (hA : ∀ q, s.heap.size ≤ q → A q) {s0 : Int32} {s1 : Int32} {s2 : (Nat → Int32)} {s3 : Int32} {s4 : (Nat → Int32)} (k : Int32 → (Nat → Int32) → Option (Int32 × Int32 × (Nat → Int32) × Int32 × (Nat → Int32))) (hk : ∀ (x2 : Int32) (g_free : Nat → Int32) (H : Heap) (locs : List Loc) (ls : Array Slot), Wd D A s.heap H locs [oX8 a g_undos g_listed g_papers g_length g_besides g_gapFirst g_gapLast g_layings g_first g_behind g_clauses g_drafts, ar cI (a 1) 5058 g_row, ar cI (a 13) 192 g_laying, ar cI (a 15) 8 g_free] → lv_has ls 6 [(0, .ref (a 0)), (1, .int x1), (2, .int x2)] → k x2 g_free = some (s0, s1, s2, s3, s4) → W p l e rmX8_plans s m args below meth c H locs 0 0 (KQ D A below args s none [oX8 a g_undos g_listed g_papers g_length g_besides s0 s1 s3 g_first g_behind g_clauses g_drafts, ar cI (a 1) 5058 g_row, ar cI (a 13) 192 s2, ar cI (a 15) 8 s4]) (F0 m 40 ls [])) :
    ∀ (n : Nat) (x2 : Int32) (g_free : Nat → Int32) (H : Heap) (locs : List Loc) (ls : Array Slot), Wd D A s.heap H locs [oX8 a g_undos g_listed g_papers g_length g_besides g_gapFirst g_gapLast g_layings g_first g_behind g_clauses g_drafts, ar cI (a 1) 5058 g_row, ar cI (a 13) 192 g_laying, ar cI (a 15) 8 g_free] → lv_has ls 6 [(0, .ref (a 0)), (1, .int x1), (2, .int x2)] → fX8_plans_7 g_row n k x2 g_free = some (s0, s1, s2, s3, s4) → W p l e rmX8_plans s m args below meth c H locs 0 0 (KQ D A below args s none [oX8 a g_undos g_listed g_papers g_length g_besides s0 s1 s3 g_first g_behind g_clauses g_drafts, ar cI (a 1) 5058 g_row, ar cI (a 13) 192 s2, ar cI (a 15) 8 s4]) (F0 m 7 ls []) := by
  have hx := C.1.1
  have hb := C.1.2.1
  intro n
  induction n with
  | zero =>
    intro x2 g_free H locs ls hw hl h
    rw [fX8_plans_7] at h
    cases h
  | succ n ih =>
    intro x2 g_free H locs ls hw hl h
    rw [fX8_plans_7] at h
    refine lv_iload_n hx hb dX8_plans_7 rfl (lv_at hl 2 rfl) ?_
    refine lv_bipush (v := 8) hx hb dX8_plans_8 (by decide) ?_
    refine lv_icmp_ge (tgt := 40) hx hb dX8_plans_10 (by decide) (fun c10 => ?_) (fun c10 => ?_)
    · replace h := br_t' h c10
      exact hk _ _ _ _ _ hw (lv_sub hl [0, 1, 2] rfl) h
    · replace h := br_f' h c10
      refine lv_aload_n hx hb dX8_plans_13 rfl (lv_at hl 0 rfl) ?_
      refine k_get C inT_X8 hw 0 rfl rfl 14 (by decide) mF_X8_28 rfl dX8_plans_14 ?_
      refine lv_iload_n hx hb dX8_plans_17 rfl (lv_at hl 2 rfl) ?_
      refine lv_aload_n hx hb dX8_plans_18 rfl (lv_at hl 0 rfl) ?_
      refine k_get C inT_X8 hw 0 rfl rfl 0 (by decide) mF_X8_7 rfl dX8_plans_19 ?_
      refine lv_bipush (v := 34) hx hb dX8_plans_22 (by decide) ?_
      refine lv_iload_n hx hb dX8_plans_24 rfl (lv_at hl 2 rfl) ?_
      refine lv_iadd hx hb dX8_plans_25 ?_
      obtain ⟨y26, q26, h⟩ := bd h
      refine k_iald C hw 1 rfl q26 dX8_plans_26 ?_
      refine lv_aload_n hx hb dX8_plans_27 rfl (lv_at hl 0 rfl) ?_
      refine lv_iload_n hx hb dX8_plans_28 rfl (lv_at hl 2 rfl) ?_
      obtain ⟨r29, q29, h⟩ := bd h
      refine k_callV (nC := 4) [oX8 a g_undos g_listed g_papers g_length g_besides g_gapFirst g_gapLast g_layings g_first g_behind g_clauses g_drafts, ar cI (a 1) 5058 g_row, ar cI (a 13) 192 g_laying, ar cI (a 15) 8 g_free] C hl.1 (tX8_load (a := a) q29) mL_X8_119 mmX8_load rfl rfl ⟨Nat.le_of_ble_eq_true rfl, Nat.le_of_ble_eq_true rfl⟩ rfl rfl rfl rfl (Nat.le_of_ble_eq_true rfl) hA hw [0, 1] [2, 3] rfl (by decide +kernel) rfl rfl rfl rfl dX8_plans_29 (fun H locs hw29 => ?_)
      refine lv_isub hx hb dX8_plans_32 ?_
      obtain ⟨g33, q33, h⟩ := bd h
      refine k_iast C hw29 3 rfl q33 [oX8 a g_undos g_listed g_papers g_length g_besides g_gapFirst g_gapLast g_layings g_first g_behind g_clauses g_drafts, ar cI (a 1) 5058 g_row, ar cI (a 13) 192 g_laying, ar cI (a 15) 8 g33] rfl dX8_plans_33 (fun H locs hw33 => ?_)
      refine lv_iinc (v := (x2 + 1)) (lv' := [(2, .int (x2 + 1)), (0, .ref (a 0)), (1, .int x1)]) hx hb dX8_plans_34 hl (k := 2) rfl rfl (by decide) rfl (fun ls hl => ?_)
      refine lv_goto (tgt := 7) hx hb dX8_plans_37 (by decide) ?_
      exact ih _ _ _ _ _ hw33 (lv_sub hl [1, 2, 0] rfl) h
def fX8_plans_70 (g_gapLast : Int32) : (n : Nat) → (k : Int32 → Int32 → (Nat → Int32) → Int32 → (Nat → Int32) → Option (Int32 × Int32 × (Nat → Int32) × Int32 × (Nat → Int32))) → Int32 → Int32 → (Nat → Int32) → Int32 → (Nat → Int32) → Option (Int32 × Int32 × (Nat → Int32) × Int32 × (Nat → Int32))
  | 0, _, _, _, _, _, _ => none
  | n + 1, k, x3, x4, g_laying, g_layings, g_free =>
    if g_gapLast < x3 then
      k x3 x4 g_laying g_layings g_free
    else
      if x4 = (-1) then
        k x3 x4 g_laying g_layings g_free
      else
        (ld 8 g_free x4).bind fun y90 =>
        (fX8_lesser y90 ((g_gapLast - x3) + 1)).bind fun r99 =>
        (sv 192 g_laying (3 * g_layings) x3).bind fun g115 =>
        (sv 192 g115 ((3 * g_layings) + 1) ((x3 + r99) - 1)).bind fun g134 =>
        (sv 192 g134 ((3 * g_layings) + 2) x4).bind fun g149 =>
        (ld 8 g_free x4).bind fun y167 =>
        (sv 8 g_free x4 (y167 - r99)).bind fun g171 =>
        if g_gapLast < (x3 + r99) then
          fX8_plans_70 g_gapLast n k (x3 + r99) (-1) g149 (g_layings + 1) g171
        else
          (fX8_bestFor g171 ((g_gapLast - (x3 + r99)) + 1)).bind fun r194 =>
          fX8_plans_70 g_gapLast n k (x3 + r99) r194 g149 (g_layings + 1) g171
set_option maxRecDepth 100000 in
set_option maxHeartbeats 4000000 in
theorem wX8_plans_70 {p : Program} {l : Launch} {e : Env} {s : State} {m : MethodId} {args : Array Value} {below : List Frame} {meth : Method} {c : Code} {D : va_G} {cI : ClassId} {cS : GS} {A : Nat → Prop} {a : Nat → Nat} {g_row : Nat → Int32} {g_undos : Int32} {g_listed : Int32} {g_papers : Int32} {g_length : Int32} {g_besides : Int32} {g_gapFirst : Int32} {g_gapLast : Int32} {g_first : Int32} {g_behind : Int32} {g_clauses : Int32} {g_drafts : Int32} {x1 : Int32} (C : MC p s m args meth c D cI cS A RX8 cX8_plans 6 none) (hA : ∀ q, s.heap.size ≤ q → A q) {s0 : Int32} {s1 : Int32} {s2 : (Nat → Int32)} {s3 : Int32} {s4 : (Nat → Int32)} (k : Int32 → Int32 → (Nat → Int32) → Int32 → (Nat → Int32) → Option (Int32 × Int32 × (Nat → Int32) × Int32 × (Nat → Int32))) (hk : ∀ (x3 : Int32) (x4 : Int32) (g_laying : Nat → Int32) (g_layings : Int32) (g_free : Nat → Int32) (H : Heap) (locs : List Loc) (ls : Array Slot), Wd D A s.heap H locs [oX8 a g_undos g_listed g_papers g_length g_besides g_gapFirst g_gapLast g_layings g_first g_behind g_clauses g_drafts, ar cI (a 1) 5058 g_row, ar cI (a 13) 192 g_laying, ar cI (a 15) 8 g_free] → lv_has ls 6 [(0, .ref (a 0)), (1, .int x1), (3, .int x3), (4, .int x4)] → k x3 x4 g_laying g_layings g_free = some (s0, s1, s2, s3, s4) → W p l e rmX8_plans s m args below meth c H locs 0 0 (KQ D A below args s none [oX8 a g_undos g_listed g_papers g_length g_besides s0 s1 s3 g_first g_behind g_clauses g_drafts, ar cI (a 1) 5058 g_row, ar cI (a 13) 192 s2, ar cI (a 15) 8 s4]) (F0 m 206 ls [])) :
    ∀ (n : Nat) (x3 : Int32) (x4 : Int32) (g_laying : Nat → Int32) (g_layings : Int32) (g_free : Nat → Int32) (H : Heap) (locs : List Loc) (ls : Array Slot), Wd D A s.heap H locs [oX8 a g_undos g_listed g_papers g_length g_besides g_gapFirst g_gapLast g_layings g_first g_behind g_clauses g_drafts, ar cI (a 1) 5058 g_row, ar cI (a 13) 192 g_laying, ar cI (a 15) 8 g_free] → lv_has ls 6 [(0, .ref (a 0)), (1, .int x1), (3, .int x3), (4, .int x4)] → fX8_plans_70 g_gapLast n k x3 x4 g_laying g_layings g_free = some (s0, s1, s2, s3, s4) → W p l e rmX8_plans s m args below meth c H locs 0 0 (KQ D A below args s none [oX8 a g_undos g_listed g_papers g_length g_besides s0 s1 s3 g_first g_behind g_clauses g_drafts, ar cI (a 1) 5058 g_row, ar cI (a 13) 192 s2, ar cI (a 15) 8 s4]) (F0 m 70 ls []) := by
  have hx := C.1.1
  have hb := C.1.2.1
  intro n
  induction n with
  | zero =>
    intro x3 x4 g_laying g_layings g_free H locs ls hw hl h
    rw [fX8_plans_70] at h
    cases h
  | succ n ih =>
    intro x3 x4 g_laying g_layings g_free H locs ls hw hl h
    rw [fX8_plans_70] at h
    refine lv_iload_n hx hb dX8_plans_70 rfl (lv_at hl 2 rfl) ?_
    refine lv_aload_n hx hb dX8_plans_71 rfl (lv_at hl 0 rfl) ?_
    refine k_get C inT_X8 hw 0 rfl rfl 11 (by decide) mF_X8_109 rfl dX8_plans_72 ?_
    refine lv_icmp_gt (tgt := 206) hx hb dX8_plans_75 (by decide) (fun c75 => ?_) (fun c75 => ?_)
    · replace h := br_t' h c75
      exact hk _ _ _ _ _ _ _ _ hw (lv_sub hl [0, 1, 2, 3] rfl) h
    · replace h := br_f' h c75
      refine lv_iload hx hb dX8_plans_78 (lv_at hl 3 rfl) ?_
      refine lv_iconst (v := (-1)) hx hb dX8_plans_80 (by decide) ?_
      refine lv_icmp_eq (tgt := 206) hx hb dX8_plans_81 (by decide) (fun c81 => ?_) (fun c81 => ?_)
      · replace h := br_t' h c81
        exact hk _ _ _ _ _ _ _ _ hw (lv_sub hl [0, 1, 2, 3] rfl) h
      · replace h := br_f' h c81
        refine lv_aload_n hx hb dX8_plans_84 rfl (lv_at hl 0 rfl) ?_
        refine k_get C inT_X8 hw 0 rfl rfl 14 (by decide) mF_X8_28 rfl dX8_plans_85 ?_
        refine lv_iload hx hb dX8_plans_88 (lv_at hl 3 rfl) ?_
        obtain ⟨y90, q90, h⟩ := bd h
        refine k_iald C hw 3 rfl q90 dX8_plans_90 ?_
        refine lv_aload_n hx hb dX8_plans_91 rfl (lv_at hl 0 rfl) ?_
        refine k_get C inT_X8 hw 0 rfl rfl 11 (by decide) mF_X8_109 rfl dX8_plans_92 ?_
        refine lv_iload_n hx hb dX8_plans_95 rfl (lv_at hl 2 rfl) ?_
        refine lv_isub hx hb dX8_plans_96 ?_
        refine lv_iconst (v := 1) hx hb dX8_plans_97 (by decide) ?_
        refine lv_iadd hx hb dX8_plans_98 ?_
        obtain ⟨r99, q99, h⟩ := bd h
        refine k_callS (nC := 4) [oX8 a g_undos g_listed g_papers g_length g_besides g_gapFirst g_gapLast g_layings g_first g_behind g_clauses g_drafts, ar cI (a 1) 5058 g_row, ar cI (a 13) 192 g_laying, ar cI (a 15) 8 g_free] C hl.1 (tX8_lesser q99) mL_X8_68 mmX8_lesser rfl rfl ⟨Nat.le_of_ble_eq_true rfl, Nat.le_of_ble_eq_true rfl⟩ rfl rfl (Nat.le_of_ble_eq_true rfl) hA hw [] [0, 1, 2, 3] rfl (by decide +kernel) rfl rfl rfl rfl dX8_plans_99 (fun H locs hw99 => ?_)
        refine lv_istore (lv' := [(5, .int r99), (0, .ref (a 0)), (1, .int x1), (3, .int x3), (4, .int x4)]) hx hb dX8_plans_102 hl (by decide) rfl (fun ls hl => ?_)
        refine lv_aload_n hx hb dX8_plans_104 rfl (lv_at hl 1 rfl) ?_
        refine k_get C inT_X8 hw99 0 rfl rfl 12 (by decide) mF_X8_25 rfl dX8_plans_105 ?_
        refine lv_iconst (v := 3) hx hb dX8_plans_108 (by decide) ?_
        refine lv_aload_n hx hb dX8_plans_109 rfl (lv_at hl 1 rfl) ?_
        refine k_get C inT_X8 hw99 0 rfl rfl 13 (by decide) mF_X8_116 rfl dX8_plans_110 ?_
        refine lv_imul hx hb dX8_plans_113 ?_
        refine lv_iload_n hx hb dX8_plans_114 rfl (lv_at hl 3 rfl) ?_
        obtain ⟨g115, q115, h⟩ := bd h
        refine k_iast C hw99 2 rfl q115 [oX8 a g_undos g_listed g_papers g_length g_besides g_gapFirst g_gapLast g_layings g_first g_behind g_clauses g_drafts, ar cI (a 1) 5058 g_row, ar cI (a 13) 192 g115, ar cI (a 15) 8 g_free] rfl dX8_plans_115 (fun H locs hw115 => ?_)
        refine lv_aload_n hx hb dX8_plans_116 rfl (lv_at hl 1 rfl) ?_
        refine k_get C inT_X8 hw115 0 rfl rfl 12 (by decide) mF_X8_25 rfl dX8_plans_117 ?_
        refine lv_iconst (v := 3) hx hb dX8_plans_120 (by decide) ?_
        refine lv_aload_n hx hb dX8_plans_121 rfl (lv_at hl 1 rfl) ?_
        refine k_get C inT_X8 hw115 0 rfl rfl 13 (by decide) mF_X8_116 rfl dX8_plans_122 ?_
        refine lv_imul hx hb dX8_plans_125 ?_
        refine lv_iconst (v := 1) hx hb dX8_plans_126 (by decide) ?_
        refine lv_iadd hx hb dX8_plans_127 ?_
        refine lv_iload_n hx hb dX8_plans_128 rfl (lv_at hl 3 rfl) ?_
        refine lv_iload hx hb dX8_plans_129 (lv_at hl 0 rfl) ?_
        refine lv_iadd hx hb dX8_plans_131 ?_
        refine lv_iconst (v := 1) hx hb dX8_plans_132 (by decide) ?_
        refine lv_isub hx hb dX8_plans_133 ?_
        obtain ⟨g134, q134, h⟩ := bd h
        refine k_iast C hw115 2 rfl q134 [oX8 a g_undos g_listed g_papers g_length g_besides g_gapFirst g_gapLast g_layings g_first g_behind g_clauses g_drafts, ar cI (a 1) 5058 g_row, ar cI (a 13) 192 g134, ar cI (a 15) 8 g_free] rfl dX8_plans_134 (fun H locs hw134 => ?_)
        refine lv_aload_n hx hb dX8_plans_135 rfl (lv_at hl 1 rfl) ?_
        refine k_get C inT_X8 hw134 0 rfl rfl 12 (by decide) mF_X8_25 rfl dX8_plans_136 ?_
        refine lv_iconst (v := 3) hx hb dX8_plans_139 (by decide) ?_
        refine lv_aload_n hx hb dX8_plans_140 rfl (lv_at hl 1 rfl) ?_
        refine k_get C inT_X8 hw134 0 rfl rfl 13 (by decide) mF_X8_116 rfl dX8_plans_141 ?_
        refine lv_imul hx hb dX8_plans_144 ?_
        refine lv_iconst (v := 2) hx hb dX8_plans_145 (by decide) ?_
        refine lv_iadd hx hb dX8_plans_146 ?_
        refine lv_iload hx hb dX8_plans_147 (lv_at hl 4 rfl) ?_
        obtain ⟨g149, q149, h⟩ := bd h
        refine k_iast C hw134 2 rfl q149 [oX8 a g_undos g_listed g_papers g_length g_besides g_gapFirst g_gapLast g_layings g_first g_behind g_clauses g_drafts, ar cI (a 1) 5058 g_row, ar cI (a 13) 192 g149, ar cI (a 15) 8 g_free] rfl dX8_plans_149 (fun H locs hw149 => ?_)
        refine lv_aload_n hx hb dX8_plans_150 rfl (lv_at hl 1 rfl) ?_
        refine lv_dup hx hb dX8_plans_151 rfl ?_
        refine k_get C inT_X8 hw149 0 rfl rfl 13 (by decide) mF_X8_116 rfl dX8_plans_152 ?_
        refine lv_iconst (v := 1) hx hb dX8_plans_155 (by decide) ?_
        refine lv_iadd hx hb dX8_plans_156 ?_
        refine k_put C inT_X8 tyX8 tyX8_ok nmX8 hw149 0 rfl rfl 13 (by decide) mF_X8_116 rfl rfl (Nat.le_of_ble_eq_true rfl) [oX8 a g_undos g_listed g_papers g_length g_besides g_gapFirst g_gapLast (g_layings + 1) g_first g_behind g_clauses g_drafts, ar cI (a 1) 5058 g_row, ar cI (a 13) 192 g149, ar cI (a 15) 8 g_free] rfl dX8_plans_157 (fun H locs hw157 => ?_)
        refine lv_aload_n hx hb dX8_plans_160 rfl (lv_at hl 1 rfl) ?_
        refine k_get C inT_X8 hw157 0 rfl rfl 14 (by decide) mF_X8_28 rfl dX8_plans_161 ?_
        refine lv_iload hx hb dX8_plans_164 (lv_at hl 4 rfl) ?_
        refine lv_dup2_11 hx hb dX8_plans_166 rfl rfl ?_
        obtain ⟨y167, q167, h⟩ := bd h
        refine k_iald C hw157 3 rfl q167 dX8_plans_167 ?_
        refine lv_iload hx hb dX8_plans_168 (lv_at hl 0 rfl) ?_
        refine lv_isub hx hb dX8_plans_170 ?_
        obtain ⟨g171, q171, h⟩ := bd h
        refine k_iast C hw157 3 rfl q171 [oX8 a g_undos g_listed g_papers g_length g_besides g_gapFirst g_gapLast (g_layings + 1) g_first g_behind g_clauses g_drafts, ar cI (a 1) 5058 g_row, ar cI (a 13) 192 g149, ar cI (a 15) 8 g171] rfl dX8_plans_171 (fun H locs hw171 => ?_)
        refine lv_iload_n hx hb dX8_plans_172 rfl (lv_at hl 3 rfl) ?_
        refine lv_iload hx hb dX8_plans_173 (lv_at hl 0 rfl) ?_
        refine lv_iadd hx hb dX8_plans_175 ?_
        refine lv_istore_n (lv' := [(3, .int (x3 + r99)), (5, .int r99), (0, .ref (a 0)), (1, .int x1), (4, .int x4)]) hx hb dX8_plans_176 rfl hl (by decide) rfl (fun ls hl => ?_)
        refine lv_iload_n hx hb dX8_plans_177 rfl (lv_at hl 0 rfl) ?_
        refine lv_aload_n hx hb dX8_plans_178 rfl (lv_at hl 2 rfl) ?_
        refine k_get C inT_X8 hw171 0 rfl rfl 11 (by decide) mF_X8_109 rfl dX8_plans_179 ?_
        refine lv_icmp_gt (tgt := 200) hx hb dX8_plans_182 (by decide) (fun c182 => ?_) (fun c182 => ?_)
        · replace h := br_t' h c182
          refine lv_iconst (v := (-1)) hx hb dX8_plans_200 (by decide) ?_
          refine lv_istore (lv' := [(4, .int (-1)), (3, .int (x3 + r99)), (5, .int r99), (0, .ref (a 0)), (1, .int x1)]) hx hb dX8_plans_201 hl (by decide) rfl (fun ls hl => ?_)
          refine lv_goto (tgt := 70) hx hb dX8_plans_203 (by decide) ?_
          exact ih _ _ _ _ _ _ _ _ hw171 (lv_sub hl [3, 4, 1, 0] rfl) h
        · replace h := br_f' h c182
          refine lv_aload_n hx hb dX8_plans_185 rfl (lv_at hl 2 rfl) ?_
          refine lv_aload_n hx hb dX8_plans_186 rfl (lv_at hl 2 rfl) ?_
          refine k_get C inT_X8 hw171 0 rfl rfl 11 (by decide) mF_X8_109 rfl dX8_plans_187 ?_
          refine lv_iload_n hx hb dX8_plans_190 rfl (lv_at hl 0 rfl) ?_
          refine lv_isub hx hb dX8_plans_191 ?_
          refine lv_iconst (v := 1) hx hb dX8_plans_192 (by decide) ?_
          refine lv_iadd hx hb dX8_plans_193 ?_
          obtain ⟨r194, q194, h⟩ := bd h
          refine k_callV (nC := 4) [oX8 a g_undos g_listed g_papers g_length g_besides g_gapFirst g_gapLast (g_layings + 1) g_first g_behind g_clauses g_drafts, ar cI (a 1) 5058 g_row, ar cI (a 13) 192 g149, ar cI (a 15) 8 g171] C hl.1 (tX8_bestFor (a := a) q194) mL_X8_122 mmX8_bestFor rfl rfl ⟨Nat.le_of_ble_eq_true rfl, Nat.le_of_ble_eq_true rfl⟩ rfl rfl rfl rfl (Nat.le_of_ble_eq_true rfl) hA hw171 [0, 3] [1, 2] rfl (by decide +kernel) rfl rfl rfl rfl dX8_plans_194 (fun H locs hw194 => ?_)
          refine lv_goto (tgt := 201) hx hb dX8_plans_197 (by decide) ?_
          refine lv_istore (lv' := [(4, .int r194), (3, .int (x3 + r99)), (5, .int r99), (0, .ref (a 0)), (1, .int x1)]) hx hb dX8_plans_201 hl (by decide) rfl (fun ls hl => ?_)
          refine lv_goto (tgt := 70) hx hb dX8_plans_203 (by decide) ?_
          exact ih _ _ _ _ _ _ _ _ hw194 (lv_sub hl [3, 4, 1, 0] rfl) h
def fX8_plans_42 (g_row : Nat → Int32) (x1 : Int32) : (n : Nat) → (k : Int32 → Int32 → Int32 → (Nat → Int32) → Int32 → (Nat → Int32) → Option (Int32 × Int32 × (Nat → Int32) × Int32 × (Nat → Int32))) → Int32 → Int32 → Int32 → (Nat → Int32) → Int32 → (Nat → Int32) → Option (Int32 × Int32 × (Nat → Int32) × Int32 × (Nat → Int32))
  | 0, _, _, _, _, _, _, _ => none
  | n + 1, k, x2, g_gapFirst, g_gapLast, g_laying, g_layings, g_free =>
    (fX8_finds g_row g_gapFirst g_gapLast x1 x2).bind fun r45 =>
    if r45.1 = 0 then
      k x2 r45.2.1 r45.2.2 g_laying g_layings g_free
    else
      (fX8_bestFor g_free ((r45.2.2 - r45.2.1) + 1)).bind fun r65 =>
      fX8_plans_70 r45.2.2 FU (fun x3_70 x4_70 g_laying_70 g_layings_70 g_free_70 =>
        fX8_plans_42 g_row x1 n k (r45.2.2 + 1) r45.2.1 r45.2.2 g_laying_70 g_layings_70 g_free_70) r45.2.1 r65 g_laying g_layings g_free
set_option maxRecDepth 100000 in
set_option maxHeartbeats 4000000 in
theorem wX8_plans_42 {p : Program} {l : Launch} {e : Env} {s : State} {m : MethodId} {args : Array Value} {below : List Frame} {meth : Method} {c : Code} {D : va_G} {cI : ClassId} {cS : GS} {A : Nat → Prop} {a : Nat → Nat} {g_row : Nat → Int32} {g_undos : Int32} {g_listed : Int32} {g_papers : Int32} {g_length : Int32} {g_besides : Int32} {g_first : Int32} {g_behind : Int32} {g_clauses : Int32} {g_drafts : Int32} {x1 : Int32} (C : MC p s m args meth c D cI cS A RX8 cX8_plans 6 none) (hA : ∀ q, s.heap.size ≤ q → A q) {s0 : Int32} {s1 : Int32} {s2 : (Nat → Int32)} {s3 : Int32} {s4 : (Nat → Int32)} (k : Int32 → Int32 → Int32 → (Nat → Int32) → Int32 → (Nat → Int32) → Option (Int32 × Int32 × (Nat → Int32) × Int32 × (Nat → Int32))) (hk : ∀ (x2 : Int32) (g_gapFirst : Int32) (g_gapLast : Int32) (g_laying : Nat → Int32) (g_layings : Int32) (g_free : Nat → Int32) (H : Heap) (locs : List Loc) (ls : Array Slot), Wd D A s.heap H locs [oX8 a g_undos g_listed g_papers g_length g_besides g_gapFirst g_gapLast g_layings g_first g_behind g_clauses g_drafts, ar cI (a 1) 5058 g_row, ar cI (a 13) 192 g_laying, ar cI (a 15) 8 g_free] → lv_has ls 6 [(0, .ref (a 0)), (1, .int x1), (2, .int x2)] → k x2 g_gapFirst g_gapLast g_laying g_layings g_free = some (s0, s1, s2, s3, s4) → W p l e rmX8_plans s m args below meth c H locs 0 0 (KQ D A below args s none [oX8 a g_undos g_listed g_papers g_length g_besides s0 s1 s3 g_first g_behind g_clauses g_drafts, ar cI (a 1) 5058 g_row, ar cI (a 13) 192 s2, ar cI (a 15) 8 s4]) (F0 m 216 ls [])) :
    ∀ (n : Nat) (x2 : Int32) (g_gapFirst : Int32) (g_gapLast : Int32) (g_laying : Nat → Int32) (g_layings : Int32) (g_free : Nat → Int32) (H : Heap) (locs : List Loc) (ls : Array Slot), Wd D A s.heap H locs [oX8 a g_undos g_listed g_papers g_length g_besides g_gapFirst g_gapLast g_layings g_first g_behind g_clauses g_drafts, ar cI (a 1) 5058 g_row, ar cI (a 13) 192 g_laying, ar cI (a 15) 8 g_free] → lv_has ls 6 [(0, .ref (a 0)), (1, .int x1), (2, .int x2)] → fX8_plans_42 g_row x1 n k x2 g_gapFirst g_gapLast g_laying g_layings g_free = some (s0, s1, s2, s3, s4) → W p l e rmX8_plans s m args below meth c H locs 0 0 (KQ D A below args s none [oX8 a g_undos g_listed g_papers g_length g_besides s0 s1 s3 g_first g_behind g_clauses g_drafts, ar cI (a 1) 5058 g_row, ar cI (a 13) 192 s2, ar cI (a 15) 8 s4]) (F0 m 42 ls []) := by
  have hx := C.1.1
  have hb := C.1.2.1
  intro n
  induction n with
  | zero =>
    intro x2 g_gapFirst g_gapLast g_laying g_layings g_free H locs ls hw hl h
    rw [fX8_plans_42] at h
    cases h
  | succ n ih =>
    intro x2 g_gapFirst g_gapLast g_laying g_layings g_free H locs ls hw hl h
    rw [fX8_plans_42] at h
    refine lv_aload_n hx hb dX8_plans_42 rfl (lv_at hl 0 rfl) ?_
    refine lv_iload_n hx hb dX8_plans_43 rfl (lv_at hl 1 rfl) ?_
    refine lv_iload_n hx hb dX8_plans_44 rfl (lv_at hl 2 rfl) ?_
    obtain ⟨r45, q45, h⟩ := bd h
    refine k_callV (nC := 4) [oX8 a g_undos g_listed g_papers g_length g_besides r45.2.1 r45.2.2 g_layings g_first g_behind g_clauses g_drafts, ar cI (a 1) 5058 g_row, ar cI (a 13) 192 g_laying, ar cI (a 15) 8 g_free] C hl.1 (tX8_finds (a := a) q45) mL_X8_112 mmX8_finds rfl rfl ⟨Nat.le_of_ble_eq_true rfl, Nat.le_of_ble_eq_true rfl⟩ rfl rfl rfl rfl (Nat.le_of_ble_eq_true rfl) hA hw [0, 1] [2, 3] rfl (by decide +kernel) rfl rfl rfl rfl dX8_plans_45 (fun H locs hw45 => ?_)
    refine lv_if_eq (tgt := 216) hx hb dX8_plans_48 (by decide) (fun c48 => ?_) (fun c48 => ?_)
    · replace h := br_t' h c48
      exact hk _ _ _ _ _ _ _ _ _ hw45 (lv_sub hl [0, 1, 2] rfl) h
    · replace h := br_f' h c48
      refine lv_aload_n hx hb dX8_plans_51 rfl (lv_at hl 0 rfl) ?_
      refine k_get C inT_X8 hw45 0 rfl rfl 10 (by decide) mF_X8_106 rfl dX8_plans_52 ?_
      refine lv_istore_n (lv' := [(3, .int r45.2.1), (0, .ref (a 0)), (1, .int x1), (2, .int x2)]) hx hb dX8_plans_55 rfl hl (by decide) rfl (fun ls hl => ?_)
      refine lv_aload_n hx hb dX8_plans_56 rfl (lv_at hl 1 rfl) ?_
      refine lv_aload_n hx hb dX8_plans_57 rfl (lv_at hl 1 rfl) ?_
      refine k_get C inT_X8 hw45 0 rfl rfl 11 (by decide) mF_X8_109 rfl dX8_plans_58 ?_
      refine lv_iload_n hx hb dX8_plans_61 rfl (lv_at hl 0 rfl) ?_
      refine lv_isub hx hb dX8_plans_62 ?_
      refine lv_iconst (v := 1) hx hb dX8_plans_63 (by decide) ?_
      refine lv_iadd hx hb dX8_plans_64 ?_
      obtain ⟨r65, q65, h⟩ := bd h
      refine k_callV (nC := 4) [oX8 a g_undos g_listed g_papers g_length g_besides r45.2.1 r45.2.2 g_layings g_first g_behind g_clauses g_drafts, ar cI (a 1) 5058 g_row, ar cI (a 13) 192 g_laying, ar cI (a 15) 8 g_free] C hl.1 (tX8_bestFor (a := a) q65) mL_X8_122 mmX8_bestFor rfl rfl ⟨Nat.le_of_ble_eq_true rfl, Nat.le_of_ble_eq_true rfl⟩ rfl rfl rfl rfl (Nat.le_of_ble_eq_true rfl) hA hw45 [0, 3] [1, 2] rfl (by decide +kernel) rfl rfl rfl rfl dX8_plans_65 (fun H locs hw65 => ?_)
      refine lv_istore (lv' := [(4, .int r65), (3, .int r45.2.1), (0, .ref (a 0)), (1, .int x1), (2, .int x2)]) hx hb dX8_plans_68 hl (by decide) rfl (fun ls hl => ?_)
      refine wX8_plans_70 C hA _ (fun x3_70 x4_70 g_laying_70 g_layings_70 g_free_70 H locs ls hw70x hl h => ?_) FU _ _ _ _ _ _ _ _ hw65 (lv_sub hl [2, 3, 1, 0] rfl) h
      refine lv_aload_n hx hb dX8_plans_206 rfl (lv_at hl 0 rfl) ?_
      refine k_get C inT_X8 hw70x 0 rfl rfl 11 (by decide) mF_X8_109 rfl dX8_plans_207 ?_
      refine lv_iconst (v := 1) hx hb dX8_plans_210 (by decide) ?_
      refine lv_iadd hx hb dX8_plans_211 ?_
      refine lv_istore_n (lv' := [(2, .int (r45.2.2 + 1)), (0, .ref (a 0)), (1, .int x1), (3, .int x3_70), (4, .int x4_70)]) hx hb dX8_plans_212 rfl hl (by decide) rfl (fun ls hl => ?_)
      refine lv_goto (tgt := 42) hx hb dX8_plans_213 (by decide) ?_
      exact ih _ _ _ _ _ _ _ _ _ hw70x (lv_sub hl [1, 2, 0] rfl) h
def fX8_plans (g_row : Nat → Int32) (g_gapFirst : Int32) (g_gapLast : Int32) (g_laying : Nat → Int32) (g_layings : Int32) (g_free : Nat → Int32) (x1 : Int32) : Option (Int32 × Int32 × (Nat → Int32) × Int32 × (Nat → Int32)) :=
  fX8_plans_7 g_row FU (fun x2_7 g_free_7 =>
    fX8_plans_42 g_row x1 FU (fun x2_42 g_gapFirst_42 g_gapLast_42 g_laying_42 g_layings_42 g_free_42 =>
      some (g_gapFirst_42, g_gapLast_42, g_laying_42, g_layings_42, g_free_42)) 1 g_gapFirst g_gapLast g_laying 0 g_free_7) 0 g_free
set_option maxRecDepth 100000 in
set_option maxHeartbeats 4000000 in
theorem tX8_plans {l : Launch} {D : va_G} {cI : ClassId} {cS : GS} {a : Nat → Nat} {g_row : Nat → Int32} {g_undos : Int32} {g_listed : Int32} {g_papers : Int32} {g_length : Int32} {g_besides : Int32} {g_gapFirst : Int32} {g_gapLast : Int32} {g_laying : Nat → Int32} {g_layings : Int32} {g_free : Nat → Int32} {g_first : Int32} {g_behind : Int32} {g_clauses : Int32} {g_drafts : Int32} {x1 : Int32} {s0 : Int32} {s1 : Int32} {s2 : (Nat → Int32)} {s3 : Int32} {s4 : (Nat → Int32)} (h : fX8_plans g_row g_gapFirst g_gapLast g_laying g_layings g_free x1 = some (s0, s1, s2, s3, s4)) : CT l D cI cS yX8_plans cX8_plans 6 none rmX8_plans [.ref (a 0), .int x1] [oX8 a g_undos g_listed g_papers g_length g_besides g_gapFirst g_gapLast g_layings g_first g_behind g_clauses g_drafts, ar cI (a 1) 5058 g_row, ar cI (a 13) 192 g_laying, ar cI (a 15) 8 g_free] none [oX8 a g_undos g_listed g_papers g_length g_besides s0 s1 s3 g_first g_behind g_clauses g_drafts, ar cI (a 1) 5058 g_row, ar cI (a 13) 192 s2, ar cI (a 15) 8 s4] := by
  refine CT.of RX8 (by decide) rfl (Nat.le_of_ble_eq_true rfl) (fun p e s m below meth c ls A C hA hl hw => ?_)
  have hx := C.1.1
  have hb := C.1.2.1
  have hl : lv_has ls 6 [(0, .ref (a 0)), (1, .int x1)] := hl
  unfold fX8_plans at h
  refine lv_aload_n hx hb dX8_plans_0 rfl (lv_at hl 0 rfl) ?_
  refine lv_iconst (v := 0) hx hb dX8_plans_1 (by decide) ?_
  refine k_put C inT_X8 tyX8 tyX8_ok nmX8 hw 0 rfl rfl 13 (by decide) mF_X8_116 rfl rfl (Nat.le_of_ble_eq_true rfl) [oX8 a g_undos g_listed g_papers g_length g_besides g_gapFirst g_gapLast 0 g_first g_behind g_clauses g_drafts, ar cI (a 1) 5058 g_row, ar cI (a 13) 192 g_laying, ar cI (a 15) 8 g_free] rfl dX8_plans_2 (fun H locs hw2 => ?_)
  refine lv_iconst (v := 0) hx hb dX8_plans_5 (by decide) ?_
  refine lv_istore_n (lv' := [(2, .int 0), (0, .ref (a 0)), (1, .int x1)]) hx hb dX8_plans_6 rfl hl (by decide) rfl (fun ls hl => ?_)
  refine wX8_plans_7 C hA _ (fun x2_7 g_free_7 H locs ls hw7x hl h => ?_) FU _ _ _ _ _ hw2 (lv_sub hl [1, 2, 0] rfl) h
  refine lv_iconst (v := 1) hx hb dX8_plans_40 (by decide) ?_
  refine lv_istore_n (lv' := [(2, .int 1), (0, .ref (a 0)), (1, .int x1)]) hx hb dX8_plans_41 rfl hl (by decide) rfl (fun ls hl => ?_)
  refine wX8_plans_42 C hA _ (fun x2_42 g_gapFirst_42 g_gapLast_42 g_laying_42 g_layings_42 g_free_42 H locs ls hw42x hl h => ?_) FU _ _ _ _ _ _ _ _ _ hw7x (lv_sub hl [1, 2, 0] rfl) h
  cases h
  exact k_vret C hw42x dX8_plans_216
def rmX8_type : Room := { frames := 1, cells := 0, slots := 0, locals := 25 }
def fX8_type (g_text : Nat → Int32) (g_length : Int32) (x1 : Int32) : Option (Int32 × (Nat → Int32) × Int32) :=
  (fX8_in x1.toInt64 0 255).bind fun r6 =>
  if r6 = 0 then
    some ((-3), g_text, g_length)
  else
    if g_length = 200 then
      some ((-5), g_text, g_length)
    else
      (sv 200 g_text g_length x1).bind fun g37 =>
      some ((g_length + 1), g37, (g_length + 1))
set_option maxRecDepth 100000 in
set_option maxHeartbeats 4000000 in
theorem tX8_type {l : Launch} {D : va_G} {cI : ClassId} {cS : GS} {a : Nat → Nat} {g_undos : Int32} {g_listed : Int32} {g_papers : Int32} {g_text : Nat → Int32} {g_length : Int32} {g_besides : Int32} {g_gapFirst : Int32} {g_gapLast : Int32} {g_layings : Int32} {g_first : Int32} {g_behind : Int32} {g_clauses : Int32} {g_drafts : Int32} {x1 : Int32} {s0 : Int32} {s1 : (Nat → Int32)} {s2 : Int32} (h : fX8_type g_text g_length x1 = some (s0, s1, s2)) : CT l D cI cS yX8_type cX8_type 2 (some .int) rmX8_type [.ref (a 0), .int x1] [oX8 a g_undos g_listed g_papers g_length g_besides g_gapFirst g_gapLast g_layings g_first g_behind g_clauses g_drafts, ar cI (a 7) 200 g_text] (some (.int s0)) [oX8 a g_undos g_listed g_papers s2 g_besides g_gapFirst g_gapLast g_layings g_first g_behind g_clauses g_drafts, ar cI (a 7) 200 s1] := by
  refine CT.of RX8 (by decide) rfl (Nat.le_of_ble_eq_true rfl) (fun p e s m below meth c ls A C hA hl hw => ?_)
  have hx := C.1.1
  have hb := C.1.2.1
  have hl : lv_has ls 2 [(0, .ref (a 0)), (1, .int x1)] := hl
  unfold fX8_type at h
  refine lv_iload_n hx hb dX8_type_0 rfl (lv_at hl 1 rfl) ?_
  refine lv_i2l (v := x1.toInt64) hx hb dX8_type_1 rfl ?_
  refine lv_lconst (v := 0) hx hb dX8_type_2 (by decide) ?_
  refine k_ldc2 C mD_X8_125 dX8_type_3 ?_
  obtain ⟨r6, q6, h⟩ := bd h
  refine k_callS (nC := 2) [oX8 a g_undos g_listed g_papers g_length g_besides g_gapFirst g_gapLast g_layings g_first g_behind g_clauses g_drafts, ar cI (a 7) 200 g_text] C hl.1 (tX8_in q6) mL_X8_58 mmX8_in rfl rfl ⟨Nat.le_of_ble_eq_true rfl, Nat.le_of_ble_eq_true rfl⟩ rfl rfl (Nat.le_of_ble_eq_true rfl) hA hw [] [0, 1] rfl (by decide +kernel) rfl rfl rfl rfl dX8_type_6 (fun H locs hw6 => ?_)
  refine lv_if_ne (tgt := 15) hx hb dX8_type_9 (by decide) (fun c9 => ?_) (fun c9 => ?_)
  · replace h := br_f' h c9
    refine lv_aload_n hx hb dX8_type_15 rfl (lv_at hl 0 rfl) ?_
    refine k_get C inT_X8 hw6 0 rfl rfl 7 (by decide) mF_X8_127 rfl dX8_type_16 ?_
    refine lv_sipush (v := 200) hx hb dX8_type_19 (by decide) ?_
    refine lv_icmp_ne (tgt := 28) hx hb dX8_type_22 (by decide) (fun c22 => ?_) (fun c22 => ?_)
    · replace h := br_f' h c22
      refine lv_aload_n hx hb dX8_type_28 rfl (lv_at hl 0 rfl) ?_
      refine k_get C inT_X8 hw6 0 rfl rfl 6 (by decide) mF_X8_19 rfl dX8_type_29 ?_
      refine lv_aload_n hx hb dX8_type_32 rfl (lv_at hl 0 rfl) ?_
      refine k_get C inT_X8 hw6 0 rfl rfl 7 (by decide) mF_X8_127 rfl dX8_type_33 ?_
      refine lv_iload_n hx hb dX8_type_36 rfl (lv_at hl 1 rfl) ?_
      obtain ⟨g37, q37, h⟩ := bd h
      refine k_iast C hw6 1 rfl q37 [oX8 a g_undos g_listed g_papers g_length g_besides g_gapFirst g_gapLast g_layings g_first g_behind g_clauses g_drafts, ar cI (a 7) 200 g37] rfl dX8_type_37 (fun H locs hw37 => ?_)
      refine lv_aload_n hx hb dX8_type_38 rfl (lv_at hl 0 rfl) ?_
      refine lv_dup hx hb dX8_type_39 rfl ?_
      refine k_get C inT_X8 hw37 0 rfl rfl 7 (by decide) mF_X8_127 rfl dX8_type_40 ?_
      refine lv_iconst (v := 1) hx hb dX8_type_43 (by decide) ?_
      refine lv_iadd hx hb dX8_type_44 ?_
      refine k_put C inT_X8 tyX8 tyX8_ok nmX8 hw37 0 rfl rfl 7 (by decide) mF_X8_127 rfl rfl (Nat.le_of_ble_eq_true rfl) [oX8 a g_undos g_listed g_papers (g_length + 1) g_besides g_gapFirst g_gapLast g_layings g_first g_behind g_clauses g_drafts, ar cI (a 7) 200 g37] rfl dX8_type_45 (fun H locs hw45 => ?_)
      refine lv_aload_n hx hb dX8_type_48 rfl (lv_at hl 0 rfl) ?_
      refine k_get C inT_X8 hw45 0 rfl rfl 7 (by decide) mF_X8_127 rfl dX8_type_49 ?_
      cases h
      exact k_iret C hw45 dX8_type_52
    · replace h := br_t' h c22
      refine lv_bipush (v := (-5)) hx hb dX8_type_25 (by decide) ?_
      cases h
      exact k_iret C hw6 dX8_type_27
  · replace h := br_t' h c9
    refine lv_bipush (v := (-3)) hx hb dX8_type_12 (by decide) ?_
    cases h
    exact k_iret C hw6 dX8_type_14
def rmX8_erase : Room := { frames := 0, cells := 0, slots := 0, locals := 0 }
def fX8_erase (g_length : Int32) : Option (Int32 × Int32) :=
  some (g_length, 0)
set_option maxRecDepth 100000 in
set_option maxHeartbeats 4000000 in
theorem tX8_erase {l : Launch} {D : va_G} {cI : ClassId} {cS : GS} {a : Nat → Nat} {g_undos : Int32} {g_listed : Int32} {g_papers : Int32} {g_length : Int32} {g_besides : Int32} {g_gapFirst : Int32} {g_gapLast : Int32} {g_layings : Int32} {g_first : Int32} {g_behind : Int32} {g_clauses : Int32} {g_drafts : Int32}  {s0 : Int32} {s1 : Int32} (h : fX8_erase g_length = some (s0, s1)) : CT l D cI cS yX8_erase cX8_erase 2 (some .int) rmX8_erase [.ref (a 0)] [oX8 a g_undos g_listed g_papers g_length g_besides g_gapFirst g_gapLast g_layings g_first g_behind g_clauses g_drafts] (some (.int s0)) [oX8 a g_undos g_listed g_papers s1 g_besides g_gapFirst g_gapLast g_layings g_first g_behind g_clauses g_drafts] := by
  refine CT.of RX8 (by decide) rfl (Nat.le_of_ble_eq_true rfl) (fun p e s m below meth c ls A C hA hl hw => ?_)
  have hx := C.1.1
  have hb := C.1.2.1
  have hl : lv_has ls 2 [(0, .ref (a 0))] := hl
  unfold fX8_erase at h
  refine lv_aload_n hx hb dX8_erase_0 rfl (lv_at hl 0 rfl) ?_
  refine k_get C inT_X8 hw 0 rfl rfl 7 (by decide) mF_X8_127 rfl dX8_erase_1 ?_
  refine lv_istore_n (lv' := [(1, .int g_length), (0, .ref (a 0))]) hx hb dX8_erase_4 rfl hl (by decide) rfl (fun ls hl => ?_)
  refine lv_aload_n hx hb dX8_erase_5 rfl (lv_at hl 1 rfl) ?_
  refine lv_iconst (v := 0) hx hb dX8_erase_6 (by decide) ?_
  refine k_put C inT_X8 tyX8 tyX8_ok nmX8 hw 0 rfl rfl 7 (by decide) mF_X8_127 rfl rfl (Nat.le_of_ble_eq_true rfl) [oX8 a g_undos g_listed g_papers 0 g_besides g_gapFirst g_gapLast g_layings g_first g_behind g_clauses g_drafts] rfl dX8_erase_7 (fun H locs hw7 => ?_)
  refine lv_iload_n hx hb dX8_erase_10 rfl (lv_at hl 0 rfl) ?_
  cases h
  exact k_iret C hw7 dX8_erase_11
def rmX8_isSmall : Room := { frames := 1, cells := 0, slots := 0, locals := 25 }
def fX8_isSmall (x0 : Int32) : Option (Int32) :=
  (fX8_in x0.toInt64 97 122).bind fun r8 =>
  (bz r8).bind fun b11 =>
  some b11
set_option maxRecDepth 100000 in
set_option maxHeartbeats 4000000 in
theorem tX8_isSmall {l : Launch} {D : va_G} {cI : ClassId} {cS : GS}  {x0 : Int32} {s0 : Int32} (h : fX8_isSmall x0 = some s0) : CT l D cI cS yX8_isSmall cX8_isSmall 1 (some .boolean) rmX8_isSmall [.int x0] [] (some (.int s0)) [] := by
  refine CT.of RX8 (by decide) rfl (Nat.le_of_ble_eq_true rfl) (fun p e s m below meth c ls A C hA hl hw => ?_)
  have hx := C.1.1
  have hb := C.1.2.1
  have hl : lv_has ls 1 [(0, .int x0)] := hl
  unfold fX8_isSmall at h
  refine lv_iload_n hx hb dX8_isSmall_0 rfl (lv_at hl 0 rfl) ?_
  refine lv_i2l (v := x0.toInt64) hx hb dX8_isSmall_1 rfl ?_
  refine k_ldc2 C mD_X8_130 dX8_isSmall_2 ?_
  refine k_ldc2 C mD_X8_132 dX8_isSmall_5 ?_
  obtain ⟨r8, q8, h⟩ := bd h
  refine k_callS (nC := 0) [] C hl.1 (tX8_in q8) mL_X8_58 mmX8_in rfl rfl ⟨Nat.le_of_ble_eq_true rfl, Nat.le_of_ble_eq_true rfl⟩ rfl rfl (Nat.le_of_ble_eq_true rfl) hA hw [] [] rfl (by decide +kernel) rfl rfl rfl rfl dX8_isSmall_8 (fun H locs hw8 => ?_)
  obtain ⟨b11, q11, h⟩ := bd h
  cases h
  exact k_zretb C q11 hw8 dX8_isSmall_11
