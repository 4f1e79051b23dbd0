def rmX8_isDigit : Room := { frames := 1, cells := 0, slots := 0, locals := 25 }
def fX8_isDigit (x0 : Int32) : Option (Int32) :=
  (fX8_in x0.toInt64 48 57).bind fun r8 =>
  (bz r8).bind fun b11 =>
  some b11
set_option maxRecDepth 100000 in
set_option maxHeartbeats 4000000 in
theorem tX8_isDigit {l : Launch} {D : va_G} {cI : ClassId} {cS : GS}  {x0 : Int32} {s0 : Int32} (h : fX8_isDigit x0 = some s0) : CT l D cI cS yX8_isDigit cX8_isDigit 1 (some .boolean) rmX8_isDigit [.int x0] [] (some (.int s0)) [] := by
  refine CT.of RX8 (by decide) rfl (Nat.le_of_ble_eq_true rfl) (fun p e s m below meth c ls A C hA hl hw => ?_)
  have hx := C.1.1
  have hb := C.1.2.1
  have hl : lv_has ls 1 [(0, .int x0)] := hl
  unfold fX8_isDigit at h
  refine lv_iload_n hx hb dX8_isDigit_0 rfl (lv_at hl 0 rfl) ?_
  refine lv_i2l (v := x0.toInt64) hx hb dX8_isDigit_1 rfl ?_
  refine k_ldc2 C mD_X8_134 dX8_isDigit_2 ?_
  refine k_ldc2 C mD_X8_136 dX8_isDigit_5 ?_
  obtain ⟨r8, q8, h⟩ := bd h
  refine k_callS (nC := 0) [] C hl.1 (tX8_in q8) mL_X8_58 mmX8_in rfl rfl ⟨Nat.le_of_ble_eq_true rfl, Nat.le_of_ble_eq_true rfl⟩ rfl rfl (Nat.le_of_ble_eq_true rfl) hA hw [] [] rfl (by decide +kernel) rfl rfl rfl rfl dX8_isDigit_8 (fun H locs hw8 => ?_)
  obtain ⟨b11, q11, h⟩ := bd h
  cases h
  exact k_zretb C q11 hw8 dX8_isDigit_11
def rmX8_nextToken : Room := { frames := 2, cells := 0, slots := 0, locals := 45 }
def fX8_nextToken_8 (g_text : Nat → Int32) (g_length : Int32) : (n : Nat) → (k : Int32 → Option (Int32 × Int32)) → Int32 → Option (Int32 × Int32)
  | 0, _, _ => none
  | n + 1, k, g_first =>
    if g_length ≤ g_first then
      k g_first
    else
      (ld 200 g_text g_first).bind fun y27 =>
      if y27 = 32 then
        fX8_nextToken_8 g_text g_length n k (g_first + 1)
      else
        k g_first
set_option maxRecDepth 100000 in
set_option maxHeartbeats 4000000 in
theorem wX8_nextToken_8 {p : Program} {l : Launch} {e : Env} {s : State} {m : MethodId} {args : Array Value} {below : List Frame} {meth : Method} {c : Code} {D : va_G} {cI : ClassId} {cS : GS} {A : Nat → Prop} {a : Nat → Nat} {g_undos : Int32} {g_listed : Int32} {g_papers : Int32} {g_text : Nat → Int32} {g_length : Int32} {g_besides : Int32} {g_gapFirst : Int32} {g_gapLast : Int32} {g_layings : Int32} {g_behind : Int32} {g_clauses : Int32} {g_drafts : Int32} (C : MC p s m args meth c D cI cS A RX8 cX8_nextToken 1 none) (hA : ∀ q, s.heap.size ≤ q → A q) {s0 : Int32} {s1 : Int32} (k : Int32 → Option (Int32 × Int32)) (hk : ∀ (g_first : Int32) (H : Heap) (locs : List Loc) (ls : Array Slot), Wd D A s.heap H locs [oX8 a g_undos g_listed g_papers g_length g_besides g_gapFirst g_gapLast g_layings g_first g_behind g_clauses g_drafts, ar cI (a 7) 200 g_text] → lv_has ls 1 [(0, .ref (a 0))] → k g_first = some (s0, s1) → W p l e rmX8_nextToken s m args below meth c H locs 0 0 (KQ D A below args s none [oX8 a g_undos g_listed g_papers g_length g_besides g_gapFirst g_gapLast g_layings s0 s1 g_clauses g_drafts, ar cI (a 7) 200 g_text]) (F0 m 46 ls [])) :
    ∀ (n : Nat) (g_first : Int32) (H : Heap) (locs : List Loc) (ls : Array Slot), Wd D A s.heap H locs [oX8 a g_undos g_listed g_papers g_length g_besides g_gapFirst g_gapLast g_layings g_first g_behind g_clauses g_drafts, ar cI (a 7) 200 g_text] → lv_has ls 1 [(0, .ref (a 0))] → fX8_nextToken_8 g_text g_length n k g_first = some (s0, s1) → W p l e rmX8_nextToken s m args below meth c H locs 0 0 (KQ D A below args s none [oX8 a g_undos g_listed g_papers g_length g_besides g_gapFirst g_gapLast g_layings s0 s1 g_clauses g_drafts, ar cI (a 7) 200 g_text]) (F0 m 8 ls []) := by
  have hx := C.1.1
  have hb := C.1.2.1
  intro n
  induction n with
  | zero =>
    intro g_first H locs ls hw hl h
    rw [fX8_nextToken_8] at h
    cases h
  | succ n ih =>
    intro g_first H locs ls hw hl h
    rw [fX8_nextToken_8] at h
    refine lv_aload_n hx hb dX8_nextToken_8 rfl (lv_at hl 0 rfl) ?_
    refine k_get C inT_X8 hw 0 rfl rfl 15 (by decide) mF_X8_141 rfl dX8_nextToken_9 ?_
    refine lv_aload_n hx hb dX8_nextToken_12 rfl (lv_at hl 0 rfl) ?_
    refine k_get C inT_X8 hw 0 rfl rfl 7 (by decide) mF_X8_127 rfl dX8_nextToken_13 ?_
    refine lv_icmp_ge (tgt := 46) hx hb dX8_nextToken_16 (by decide) (fun c16 => ?_) (fun c16 => ?_)
    · replace h := br_t' h c16
      exact hk _ _ _ _ hw (lv_sub hl [0] rfl) h
    · replace h := br_f' h c16
      refine lv_aload_n hx hb dX8_nextToken_19 rfl (lv_at hl 0 rfl) ?_
      refine k_get C inT_X8 hw 0 rfl rfl 6 (by decide) mF_X8_19 rfl dX8_nextToken_20 ?_
      refine lv_aload_n hx hb dX8_nextToken_23 rfl (lv_at hl 0 rfl) ?_
      refine k_get C inT_X8 hw 0 rfl rfl 15 (by decide) mF_X8_141 rfl dX8_nextToken_24 ?_
      obtain ⟨y27, q27, h⟩ := bd h
      refine k_iald C hw 1 rfl q27 dX8_nextToken_27 ?_
      refine lv_bipush (v := 32) hx hb dX8_nextToken_28 (by decide) ?_
      refine lv_icmp_ne (tgt := 46) hx hb dX8_nextToken_30 (by decide) (fun c30 => ?_) (fun c30 => ?_)
      · replace h := br_f' h c30
        exact hk _ _ _ _ hw (lv_sub hl [0] rfl) h
      · replace h := br_t' h c30
        refine lv_aload_n hx hb dX8_nextToken_33 rfl (lv_at hl 0 rfl) ?_
        refine lv_dup hx hb dX8_nextToken_34 rfl ?_
        refine k_get C inT_X8 hw 0 rfl rfl 15 (by decide) mF_X8_141 rfl dX8_nextToken_35 ?_
        refine lv_iconst (v := 1) hx hb dX8_nextToken_38 (by decide) ?_
        refine lv_iadd hx hb dX8_nextToken_39 ?_
        refine k_put C inT_X8 tyX8 tyX8_ok nmX8 hw 0 rfl rfl 15 (by decide) mF_X8_141 rfl rfl (Nat.le_of_ble_eq_true rfl) [oX8 a g_undos g_listed g_papers g_length g_besides g_gapFirst g_gapLast g_layings (g_first + 1) g_behind g_clauses g_drafts, ar cI (a 7) 200 g_text] rfl dX8_nextToken_40 (fun H locs hw40 => ?_)
        refine lv_goto (tgt := 8) hx hb dX8_nextToken_43 (by decide) ?_
        exact ih _ _ _ _ hw40 (lv_sub hl [0] rfl) h
def fX8_nextToken_165 (g_text : Nat → Int32) (g_length : Int32) : (n : Nat) → (k : Int32 → Option (Int32 × Int32)) → Int32 → Option (Int32 × Int32)
  | 0, _, _ => none
  | n + 1, k, g_behind =>
    if g_length ≤ g_behind then
      k g_behind
    else
      (ld 200 g_text g_behind).bind fun y184 =>
      (fX8_isDigit y184).bind fun r185 =>
      if r185 = 0 then
        k g_behind
      else
        fX8_nextToken_165 g_text g_length n k (g_behind + 1)
set_option maxRecDepth 100000 in
set_option maxHeartbeats 4000000 in
theorem wX8_nextToken_165 {p : Program} {l : Launch} {e : Env} {s : State} {m : MethodId} {args : Array Value} {below : List Frame} {meth : Method} {c : Code} {D : va_G} {cI : ClassId} {cS : GS} {A : Nat → Prop} {a : Nat → Nat} {g_undos : Int32} {g_listed : Int32} {g_papers : Int32} {g_text : Nat → Int32} {g_length : Int32} {g_besides : Int32} {g_gapFirst : Int32} {g_gapLast : Int32} {g_layings : Int32} {g_first : Int32} {g_clauses : Int32} {g_drafts : Int32} (C : MC p s m args meth c D cI cS A RX8 cX8_nextToken 1 none) (hA : ∀ q, s.heap.size ≤ q → A q) {s0 : Int32} {s1 : Int32} (k : Int32 → Option (Int32 × Int32)) (hk : ∀ (g_behind : Int32) (H : Heap) (locs : List Loc) (ls : Array Slot), Wd D A s.heap H locs [oX8 a g_undos g_listed g_papers g_length g_besides g_gapFirst g_gapLast g_layings g_first g_behind g_clauses g_drafts, ar cI (a 7) 200 g_text] → lv_has ls 1 [(0, .ref (a 0))] → k g_behind = some (s0, s1) → W p l e rmX8_nextToken s m args below meth c H locs 0 0 (KQ D A below args s none [oX8 a g_undos g_listed g_papers g_length g_besides g_gapFirst g_gapLast g_layings s0 s1 g_clauses g_drafts, ar cI (a 7) 200 g_text]) (F0 m 204 ls [])) :
    ∀ (n : Nat) (g_behind : Int32) (H : Heap) (locs : List Loc) (ls : Array Slot), Wd D A s.heap H locs [oX8 a g_undos g_listed g_papers g_length g_besides g_gapFirst g_gapLast g_layings g_first g_behind g_clauses g_drafts, ar cI (a 7) 200 g_text] → lv_has ls 1 [(0, .ref (a 0))] → fX8_nextToken_165 g_text g_length n k g_behind = some (s0, s1) → W p l e rmX8_nextToken s m args below meth c H locs 0 0 (KQ D A below args s none [oX8 a g_undos g_listed g_papers g_length g_besides g_gapFirst g_gapLast g_layings s0 s1 g_clauses g_drafts, ar cI (a 7) 200 g_text]) (F0 m 165 ls []) := by
  have hx := C.1.1
  have hb := C.1.2.1
  intro n
  induction n with
  | zero =>
    intro g_behind H locs ls hw hl h
    rw [fX8_nextToken_165] at h
    cases h
  | succ n ih =>
    intro g_behind H locs ls hw hl h
    rw [fX8_nextToken_165] at h
    refine lv_aload_n hx hb dX8_nextToken_165 rfl (lv_at hl 0 rfl) ?_
    refine k_get C inT_X8 hw 0 rfl rfl 16 (by decide) mF_X8_138 rfl dX8_nextToken_166 ?_
    refine lv_aload_n hx hb dX8_nextToken_169 rfl (lv_at hl 0 rfl) ?_
    refine k_get C inT_X8 hw 0 rfl rfl 7 (by decide) mF_X8_127 rfl dX8_nextToken_170 ?_
    refine lv_icmp_ge (tgt := 204) hx hb dX8_nextToken_173 (by decide) (fun c173 => ?_) (fun c173 => ?_)
    · replace h := br_t' h c173
      exact hk _ _ _ _ hw (lv_sub hl [0] rfl) h
    · replace h := br_f' h c173
      refine lv_aload_n hx hb dX8_nextToken_176 rfl (lv_at hl 0 rfl) ?_
      refine k_get C inT_X8 hw 0 rfl rfl 6 (by decide) mF_X8_19 rfl dX8_nextToken_177 ?_
      refine lv_aload_n hx hb dX8_nextToken_180 rfl (lv_at hl 0 rfl) ?_
      refine k_get C inT_X8 hw 0 rfl rfl 16 (by decide) mF_X8_138 rfl dX8_nextToken_181 ?_
      obtain ⟨y184, q184, h⟩ := bd h
      refine k_iald C hw 1 rfl q184 dX8_nextToken_184 ?_
      obtain ⟨r185, q185, h⟩ := bd h
      refine k_callS (nC := 2) [oX8 a g_undos g_listed g_papers g_length g_besides g_gapFirst g_gapLast g_layings g_first g_behind g_clauses g_drafts, ar cI (a 7) 200 g_text] C hl.1 (tX8_isDigit q185) mL_X8_148 mmX8_isDigit rfl rfl ⟨Nat.le_of_ble_eq_true rfl, Nat.le_of_ble_eq_true rfl⟩ rfl rfl (Nat.le_of_ble_eq_true rfl) hA hw [] [0, 1] rfl (by decide +kernel) rfl rfl rfl rfl dX8_nextToken_185 (fun H locs hw185 => ?_)
      refine lv_if_eq (tgt := 204) hx hb dX8_nextToken_188 (by decide) (fun c188 => ?_) (fun c188 => ?_)
      · replace h := br_t' h c188
        exact hk _ _ _ _ hw185 (lv_sub hl [0] rfl) h
      · replace h := br_f' h c188
        refine lv_aload_n hx hb dX8_nextToken_191 rfl (lv_at hl 0 rfl) ?_
        refine lv_dup hx hb dX8_nextToken_192 rfl ?_
        refine k_get C inT_X8 hw185 0 rfl rfl 16 (by decide) mF_X8_138 rfl dX8_nextToken_193 ?_
        refine lv_iconst (v := 1) hx hb dX8_nextToken_196 (by decide) ?_
        refine lv_iadd hx hb dX8_nextToken_197 ?_
        refine k_put C inT_X8 tyX8 tyX8_ok nmX8 hw185 0 rfl rfl 16 (by decide) mF_X8_138 rfl rfl (Nat.le_of_ble_eq_true rfl) [oX8 a g_undos g_listed g_papers g_length g_besides g_gapFirst g_gapLast g_layings g_first (g_behind + 1) g_clauses g_drafts, ar cI (a 7) 200 g_text] rfl dX8_nextToken_198 (fun H locs hw198 => ?_)
        refine lv_goto (tgt := 165) hx hb dX8_nextToken_201 (by decide) ?_
        exact ih _ _ _ _ hw198 (lv_sub hl [0] rfl) h
def fX8_nextToken_100 (g_text : Nat → Int32) (g_length : Int32) : (n : Nat) → (k : Int32 → Option (Int32 × Int32)) → Int32 → Option (Int32 × Int32)
  | 0, _, _ => none
  | n + 1, k, g_behind =>
    if g_length ≤ g_behind then
      k g_behind
    else
      (ld 200 g_text g_behind).bind fun y119 =>
      (fX8_isSmall y119).bind fun r120 =>
      if r120 = 0 then
        k g_behind
      else
        fX8_nextToken_100 g_text g_length n k (g_behind + 1)
set_option maxRecDepth 100000 in
set_option maxHeartbeats 4000000 in
theorem wX8_nextToken_100 {p : Program} {l : Launch} {e : Env} {s : State} {m : MethodId} {args : Array Value} {below : List Frame} {meth : Method} {c : Code} {D : va_G} {cI : ClassId} {cS : GS} {A : Nat → Prop} {a : Nat → Nat} {g_undos : Int32} {g_listed : Int32} {g_papers : Int32} {g_text : Nat → Int32} {g_length : Int32} {g_besides : Int32} {g_gapFirst : Int32} {g_gapLast : Int32} {g_layings : Int32} {g_first : Int32} {g_clauses : Int32} {g_drafts : Int32} (C : MC p s m args meth c D cI cS A RX8 cX8_nextToken 1 none) (hA : ∀ q, s.heap.size ≤ q → A q) {s0 : Int32} {s1 : Int32} (k : Int32 → Option (Int32 × Int32)) (hk : ∀ (g_behind : Int32) (H : Heap) (locs : List Loc) (ls : Array Slot), Wd D A s.heap H locs [oX8 a g_undos g_listed g_papers g_length g_besides g_gapFirst g_gapLast g_layings g_first g_behind g_clauses g_drafts, ar cI (a 7) 200 g_text] → lv_has ls 1 [(0, .ref (a 0))] → k g_behind = some (s0, s1) → W p l e rmX8_nextToken s m args below meth c H locs 0 0 (KQ D A below args s none [oX8 a g_undos g_listed g_papers g_length g_besides g_gapFirst g_gapLast g_layings s0 s1 g_clauses g_drafts, ar cI (a 7) 200 g_text]) (F0 m 204 ls [])) :
    ∀ (n : Nat) (g_behind : Int32) (H : Heap) (locs : List Loc) (ls : Array Slot), Wd D A s.heap H locs [oX8 a g_undos g_listed g_papers g_length g_besides g_gapFirst g_gapLast g_layings g_first g_behind g_clauses g_drafts, ar cI (a 7) 200 g_text] → lv_has ls 1 [(0, .ref (a 0))] → fX8_nextToken_100 g_text g_length n k g_behind = some (s0, s1) → W p l e rmX8_nextToken s m args below meth c H locs 0 0 (KQ D A below args s none [oX8 a g_undos g_listed g_papers g_length g_besides g_gapFirst g_gapLast g_layings s0 s1 g_clauses g_drafts, ar cI (a 7) 200 g_text]) (F0 m 100 ls []) := by
  have hx := C.1.1
  have hb := C.1.2.1
  intro n
  induction n with
  | zero =>
    intro g_behind H locs ls hw hl h
    rw [fX8_nextToken_100] at h
    cases h
  | succ n ih =>
    intro g_behind H locs ls hw hl h
    rw [fX8_nextToken_100] at h
    refine lv_aload_n hx hb dX8_nextToken_100 rfl (lv_at hl 0 rfl) ?_
    refine k_get C inT_X8 hw 0 rfl rfl 16 (by decide) mF_X8_138 rfl dX8_nextToken_101 ?_
    refine lv_aload_n hx hb dX8_nextToken_104 rfl (lv_at hl 0 rfl) ?_
    refine k_get C inT_X8 hw 0 rfl rfl 7 (by decide) mF_X8_127 rfl dX8_nextToken_105 ?_
    refine lv_icmp_ge (tgt := 204) hx hb dX8_nextToken_108 (by decide) (fun c108 => ?_) (fun c108 => ?_)
    · replace h := br_t' h c108
      exact hk _ _ _ _ hw (lv_sub hl [0] rfl) h
    · replace h := br_f' h c108
      refine lv_aload_n hx hb dX8_nextToken_111 rfl (lv_at hl 0 rfl) ?_
      refine k_get C inT_X8 hw 0 rfl rfl 6 (by decide) mF_X8_19 rfl dX8_nextToken_112 ?_
      refine lv_aload_n hx hb dX8_nextToken_115 rfl (lv_at hl 0 rfl) ?_
      refine k_get C inT_X8 hw 0 rfl rfl 16 (by decide) mF_X8_138 rfl dX8_nextToken_116 ?_
      obtain ⟨y119, q119, h⟩ := bd h
      refine k_iald C hw 1 rfl q119 dX8_nextToken_119 ?_
      obtain ⟨r120, q120, h⟩ := bd h
      refine k_callS (nC := 2) [oX8 a g_undos g_listed g_papers g_length g_besides g_gapFirst g_gapLast g_layings g_first g_behind g_clauses g_drafts, ar cI (a 7) 200 g_text] C hl.1 (tX8_isSmall q120) mL_X8_144 mmX8_isSmall rfl rfl ⟨Nat.le_of_ble_eq_true rfl, Nat.le_of_ble_eq_true rfl⟩ rfl rfl (Nat.le_of_ble_eq_true rfl) hA hw [] [0, 1] rfl (by decide +kernel) rfl rfl rfl rfl dX8_nextToken_120 (fun H locs hw120 => ?_)
      refine lv_if_eq (tgt := 204) hx hb dX8_nextToken_123 (by decide) (fun c123 => ?_) (fun c123 => ?_)
      · replace h := br_t' h c123
        exact hk _ _ _ _ hw120 (lv_sub hl [0] rfl) h
      · replace h := br_f' h c123
        refine lv_aload_n hx hb dX8_nextToken_126 rfl (lv_at hl 0 rfl) ?_
        refine lv_dup hx hb dX8_nextToken_127 rfl ?_
        refine k_get C inT_X8 hw120 0 rfl rfl 16 (by decide) mF_X8_138 rfl dX8_nextToken_128 ?_
        refine lv_iconst (v := 1) hx hb dX8_nextToken_131 (by decide) ?_
        refine lv_iadd hx hb dX8_nextToken_132 ?_
        refine k_put C inT_X8 tyX8 tyX8_ok nmX8 hw120 0 rfl rfl 16 (by decide) mF_X8_138 rfl rfl (Nat.le_of_ble_eq_true rfl) [oX8 a g_undos g_listed g_papers g_length g_besides g_gapFirst g_gapLast g_layings g_first (g_behind + 1) g_clauses g_drafts, ar cI (a 7) 200 g_text] rfl dX8_nextToken_133 (fun H locs hw133 => ?_)
        refine lv_goto (tgt := 100) hx hb dX8_nextToken_136 (by decide) ?_
        exact ih _ _ _ _ hw133 (lv_sub hl [0] rfl) h
def fX8_nextToken (g_text : Nat → Int32) (g_length : Int32) (g_first : Int32) (g_behind : Int32) : Option (Int32 × Int32) :=
  fX8_nextToken_8 g_text g_length FU (fun g_first_8 =>
    if g_length ≤ g_first_8 then
      if g_length ≤ g_first_8 then
        if g_length ≤ g_first_8 then
          some (g_first_8, g_first_8)
        else
          (ld 200 g_text g_first_8).bind fun y158 =>
          (fX8_isDigit y158).bind fun r159 =>
          if r159 = 0 then
            some (g_first_8, g_first_8)
          else
            fX8_nextToken_165 g_text g_length FU (fun g_behind_165 =>
              some (g_first_8, g_behind_165)) g_first_8
      else
        (ld 200 g_text g_first_8).bind fun y93 =>
        (fX8_isSmall y93).bind fun r94 =>
        if r94 = 0 then
          if g_length ≤ g_first_8 then
            some (g_first_8, g_first_8)
          else
            (ld 200 g_text g_first_8).bind fun y158 =>
            (fX8_isDigit y158).bind fun r159 =>
            if r159 = 0 then
              some (g_first_8, g_first_8)
            else
              fX8_nextToken_165 g_text g_length FU (fun g_behind_165 =>
                some (g_first_8, g_behind_165)) g_first_8
        else
          fX8_nextToken_100 g_text g_length FU (fun g_behind_100 =>
            some (g_first_8, g_behind_100)) g_first_8
    else
      if g_length ≤ g_first_8 then
        if g_length ≤ g_first_8 then
          some (g_first_8, (g_first_8 + 1))
        else
          (ld 200 g_text g_first_8).bind fun y158 =>
          (fX8_isDigit y158).bind fun r159 =>
          if r159 = 0 then
            some (g_first_8, (g_first_8 + 1))
          else
            fX8_nextToken_165 g_text g_length FU (fun g_behind_165 =>
              some (g_first_8, g_behind_165)) (g_first_8 + 1)
      else
        (ld 200 g_text g_first_8).bind fun y93 =>
        (fX8_isSmall y93).bind fun r94 =>
        if r94 = 0 then
          if g_length ≤ g_first_8 then
            some (g_first_8, (g_first_8 + 1))
          else
            (ld 200 g_text g_first_8).bind fun y158 =>
            (fX8_isDigit y158).bind fun r159 =>
            if r159 = 0 then
              some (g_first_8, (g_first_8 + 1))
            else
              fX8_nextToken_165 g_text g_length FU (fun g_behind_165 =>
                some (g_first_8, g_behind_165)) (g_first_8 + 1)
        else
          fX8_nextToken_100 g_text g_length FU (fun g_behind_100 =>
            some (g_first_8, g_behind_100)) (g_first_8 + 1)) g_behind
set_option maxRecDepth 100000 in
set_option maxHeartbeats 4000000 in
theorem tX8_nextToken {l : Launch} {D : va_G} {cI : ClassId} {cS : GS} {a : Nat → Nat} {g_undos : Int32} {g_listed : Int32} {g_papers : Int32} {g_text : Nat → Int32} {g_length : Int32} {g_besides : Int32} {g_gapFirst : Int32} {g_gapLast : Int32} {g_layings : Int32} {g_first : Int32} {g_behind : Int32} {g_clauses : Int32} {g_drafts : Int32}  {s0 : Int32} {s1 : Int32} (h : fX8_nextToken g_text g_length g_first g_behind = some (s0, s1)) : CT l D cI cS yX8_nextToken cX8_nextToken 1 none rmX8_nextToken [.ref (a 0)] [oX8 a g_undos g_listed g_papers g_length g_besides g_gapFirst g_gapLast g_layings g_first g_behind g_clauses g_drafts, ar cI (a 7) 200 g_text] none [oX8 a g_undos g_listed g_papers g_length g_besides g_gapFirst g_gapLast g_layings s0 s1 g_clauses g_drafts, ar cI (a 7) 200 g_text] := by
  refine CT.of RX8 (by decide) rfl (Nat.le_of_ble_eq_true rfl) (fun p e s m below meth c ls A C hA hl hw => ?_)
  have hx := C.1.1
  have hb := C.1.2.1
  have hl : lv_has ls 1 [(0, .ref (a 0))] := hl
  unfold fX8_nextToken at h
  refine lv_aload_n hx hb dX8_nextToken_0 rfl (lv_at hl 0 rfl) ?_
  refine lv_aload_n hx hb dX8_nextToken_1 rfl (lv_at hl 0 rfl) ?_
  refine k_get C inT_X8 hw 0 rfl rfl 16 (by decide) mF_X8_138 rfl dX8_nextToken_2 ?_
  refine k_put C inT_X8 tyX8 tyX8_ok nmX8 hw 0 rfl rfl 15 (by decide) mF_X8_141 rfl rfl (Nat.le_of_ble_eq_true rfl) [oX8 a g_undos g_listed g_papers g_length g_besides g_gapFirst g_gapLast g_layings g_behind g_behind g_clauses g_drafts, ar cI (a 7) 200 g_text] rfl dX8_nextToken_5 (fun H locs hw5 => ?_)
  refine wX8_nextToken_8 C hA _ (fun g_first_8 H locs ls hw8x hl h => ?_) FU _ _ _ _ hw5 (lv_sub hl [0] rfl) h
  refine lv_aload_n hx hb dX8_nextToken_46 rfl (lv_at hl 0 rfl) ?_
  refine lv_aload_n hx hb dX8_nextToken_47 rfl (lv_at hl 0 rfl) ?_
  refine k_get C inT_X8 hw8x 0 rfl rfl 15 (by decide) mF_X8_141 rfl dX8_nextToken_48 ?_
  refine lv_aload_n hx hb dX8_nextToken_51 rfl (lv_at hl 0 rfl) ?_
  refine k_get C inT_X8 hw8x 0 rfl rfl 7 (by decide) mF_X8_127 rfl dX8_nextToken_52 ?_
  refine lv_icmp_ge (tgt := 67) hx hb dX8_nextToken_55 (by decide) (fun c55 => ?_) (fun c55 => ?_)
  · replace h := br_t' h c55
    refine lv_aload_n hx hb dX8_nextToken_67 rfl (lv_at hl 0 rfl) ?_
    refine k_get C inT_X8 hw8x 0 rfl rfl 15 (by decide) mF_X8_141 rfl dX8_nextToken_68 ?_
    refine k_put C inT_X8 tyX8 tyX8_ok nmX8 hw8x 0 rfl rfl 16 (by decide) mF_X8_138 rfl rfl (Nat.le_of_ble_eq_true rfl) [oX8 a g_undos g_listed g_papers g_length g_besides g_gapFirst g_gapLast g_layings g_first_8 g_first_8 g_clauses g_drafts, ar cI (a 7) 200 g_text] rfl dX8_nextToken_71 (fun H locs hw71 => ?_)
    refine lv_aload_n hx hb dX8_nextToken_74 rfl (lv_at hl 0 rfl) ?_
    refine k_get C inT_X8 hw71 0 rfl rfl 15 (by decide) mF_X8_141 rfl dX8_nextToken_75 ?_
    refine lv_aload_n hx hb dX8_nextToken_78 rfl (lv_at hl 0 rfl) ?_
    refine k_get C inT_X8 hw71 0 rfl rfl 7 (by decide) mF_X8_127 rfl dX8_nextToken_79 ?_
    refine lv_icmp_ge (tgt := 139) hx hb dX8_nextToken_82 (by decide) (fun c82 => ?_) (fun c82 => ?_)
    · replace h := br_t' h c82
      refine lv_aload_n hx hb dX8_nextToken_139 rfl (lv_at hl 0 rfl) ?_
      refine k_get C inT_X8 hw71 0 rfl rfl 15 (by decide) mF_X8_141 rfl dX8_nextToken_140 ?_
      refine lv_aload_n hx hb dX8_nextToken_143 rfl (lv_at hl 0 rfl) ?_
      refine k_get C inT_X8 hw71 0 rfl rfl 7 (by decide) mF_X8_127 rfl dX8_nextToken_144 ?_
      refine lv_icmp_ge (tgt := 204) hx hb dX8_nextToken_147 (by decide) (fun c147 => ?_) (fun c147 => ?_)
      · replace h := br_t' h c147
        cases h
        exact k_vret C hw71 dX8_nextToken_204
      · replace h := br_f' h c147
        refine lv_aload_n hx hb dX8_nextToken_150 rfl (lv_at hl 0 rfl) ?_
        refine k_get C inT_X8 hw71 0 rfl rfl 6 (by decide) mF_X8_19 rfl dX8_nextToken_151 ?_
        refine lv_aload_n hx hb dX8_nextToken_154 rfl (lv_at hl 0 rfl) ?_
        refine k_get C inT_X8 hw71 0 rfl rfl 15 (by decide) mF_X8_141 rfl dX8_nextToken_155 ?_
        obtain ⟨y158, q158, h⟩ := bd h
        refine k_iald C hw71 1 rfl q158 dX8_nextToken_158 ?_
        obtain ⟨r159, q159, h⟩ := bd h
        refine k_callS (nC := 2) [oX8 a g_undos g_listed g_papers g_length g_besides g_gapFirst g_gapLast g_layings g_first_8 g_first_8 g_clauses g_drafts, ar cI (a 7) 200 g_text] C hl.1 (tX8_isDigit q159) mL_X8_148 mmX8_isDigit rfl rfl ⟨Nat.le_of_ble_eq_true rfl, Nat.le_of_ble_eq_true rfl⟩ rfl rfl (Nat.le_of_ble_eq_true rfl) hA hw71 [] [0, 1] rfl (by decide +kernel) rfl rfl rfl rfl dX8_nextToken_159 (fun H locs hw159 => ?_)
        refine lv_if_eq (tgt := 204) hx hb dX8_nextToken_162 (by decide) (fun c162 => ?_) (fun c162 => ?_)
        · replace h := br_t' h c162
          cases h
          exact k_vret C hw159 dX8_nextToken_204
        · replace h := br_f' h c162
          refine wX8_nextToken_165 C hA _ (fun g_behind_165 H locs ls hw165x hl h => ?_) FU _ _ _ _ hw159 (lv_sub hl [0] rfl) h
          cases h
          exact k_vret C hw165x dX8_nextToken_204
    · replace h := br_f' h c82
      refine lv_aload_n hx hb dX8_nextToken_85 rfl (lv_at hl 0 rfl) ?_
      refine k_get C inT_X8 hw71 0 rfl rfl 6 (by decide) mF_X8_19 rfl dX8_nextToken_86 ?_
      refine lv_aload_n hx hb dX8_nextToken_89 rfl (lv_at hl 0 rfl) ?_
      refine k_get C inT_X8 hw71 0 rfl rfl 15 (by decide) mF_X8_141 rfl dX8_nextToken_90 ?_
      obtain ⟨y93, q93, h⟩ := bd h
      refine k_iald C hw71 1 rfl q93 dX8_nextToken_93 ?_
      obtain ⟨r94, q94, h⟩ := bd h
      refine k_callS (nC := 2) [oX8 a g_undos g_listed g_papers g_length g_besides g_gapFirst g_gapLast g_layings g_first_8 g_first_8 g_clauses g_drafts, ar cI (a 7) 200 g_text] C hl.1 (tX8_isSmall q94) mL_X8_144 mmX8_isSmall rfl rfl ⟨Nat.le_of_ble_eq_true rfl, Nat.le_of_ble_eq_true rfl⟩ rfl rfl (Nat.le_of_ble_eq_true rfl) hA hw71 [] [0, 1] rfl (by decide +kernel) rfl rfl rfl rfl dX8_nextToken_94 (fun H locs hw94 => ?_)
      refine lv_if_eq (tgt := 139) hx hb dX8_nextToken_97 (by decide) (fun c97 => ?_) (fun c97 => ?_)
      · replace h := br_t' h c97
        refine lv_aload_n hx hb dX8_nextToken_139 rfl (lv_at hl 0 rfl) ?_
        refine k_get C inT_X8 hw94 0 rfl rfl 15 (by decide) mF_X8_141 rfl dX8_nextToken_140 ?_
        refine lv_aload_n hx hb dX8_nextToken_143 rfl (lv_at hl 0 rfl) ?_
        refine k_get C inT_X8 hw94 0 rfl rfl 7 (by decide) mF_X8_127 rfl dX8_nextToken_144 ?_
        refine lv_icmp_ge (tgt := 204) hx hb dX8_nextToken_147 (by decide) (fun c147 => ?_) (fun c147 => ?_)
        · replace h := br_t' h c147
          cases h
          exact k_vret C hw94 dX8_nextToken_204
        · replace h := br_f' h c147
          refine lv_aload_n hx hb dX8_nextToken_150 rfl (lv_at hl 0 rfl) ?_
          refine k_get C inT_X8 hw94 0 rfl rfl 6 (by decide) mF_X8_19 rfl dX8_nextToken_151 ?_
          refine lv_aload_n hx hb dX8_nextToken_154 rfl (lv_at hl 0 rfl) ?_
          refine k_get C inT_X8 hw94 0 rfl rfl 15 (by decide) mF_X8_141 rfl dX8_nextToken_155 ?_
          obtain ⟨y158, q158, h⟩ := bd h
          refine k_iald C hw94 1 rfl q158 dX8_nextToken_158 ?_
          obtain ⟨r159, q159, h⟩ := bd h
          refine k_callS (nC := 2) [oX8 a g_undos g_listed g_papers g_length g_besides g_gapFirst g_gapLast g_layings g_first_8 g_first_8 g_clauses g_drafts, ar cI (a 7) 200 g_text] C hl.1 (tX8_isDigit q159) mL_X8_148 mmX8_isDigit rfl rfl ⟨Nat.le_of_ble_eq_true rfl, Nat.le_of_ble_eq_true rfl⟩ rfl rfl (Nat.le_of_ble_eq_true rfl) hA hw94 [] [0, 1] rfl (by decide +kernel) rfl rfl rfl rfl dX8_nextToken_159 (fun H locs hw159 => ?_)
          refine lv_if_eq (tgt := 204) hx hb dX8_nextToken_162 (by decide) (fun c162 => ?_) (fun c162 => ?_)
          · replace h := br_t' h c162
            cases h
            exact k_vret C hw159 dX8_nextToken_204
          · replace h := br_f' h c162
            refine wX8_nextToken_165 C hA _ (fun g_behind_165 H locs ls hw165x hl h => ?_) FU _ _ _ _ hw159 (lv_sub hl [0] rfl) h
            cases h
            exact k_vret C hw165x dX8_nextToken_204
      · replace h := br_f' h c97
        refine wX8_nextToken_100 C hA _ (fun g_behind_100 H locs ls hw100x hl h => ?_) FU _ _ _ _ hw94 (lv_sub hl [0] rfl) h
        cases h
        exact k_vret C hw100x dX8_nextToken_204
  · replace h := br_f' h c55
    refine lv_aload_n hx hb dX8_nextToken_58 rfl (lv_at hl 0 rfl) ?_
    refine k_get C inT_X8 hw8x 0 rfl rfl 15 (by decide) mF_X8_141 rfl dX8_nextToken_59 ?_
    refine lv_iconst (v := 1) hx hb dX8_nextToken_62 (by decide) ?_
    refine lv_iadd hx hb dX8_nextToken_63 ?_
    refine lv_goto (tgt := 71) hx hb dX8_nextToken_64 (by decide) ?_
    refine k_put C inT_X8 tyX8 tyX8_ok nmX8 hw8x 0 rfl rfl 16 (by decide) mF_X8_138 rfl rfl (Nat.le_of_ble_eq_true rfl) [oX8 a g_undos g_listed g_papers g_length g_besides g_gapFirst g_gapLast g_layings g_first_8 (g_first_8 + 1) g_clauses g_drafts, ar cI (a 7) 200 g_text] rfl dX8_nextToken_71 (fun H locs hw71 => ?_)
    refine lv_aload_n hx hb dX8_nextToken_74 rfl (lv_at hl 0 rfl) ?_
    refine k_get C inT_X8 hw71 0 rfl rfl 15 (by decide) mF_X8_141 rfl dX8_nextToken_75 ?_
    refine lv_aload_n hx hb dX8_nextToken_78 rfl (lv_at hl 0 rfl) ?_
    refine k_get C inT_X8 hw71 0 rfl rfl 7 (by decide) mF_X8_127 rfl dX8_nextToken_79 ?_
    refine lv_icmp_ge (tgt := 139) hx hb dX8_nextToken_82 (by decide) (fun c82 => ?_) (fun c82 => ?_)
    · replace h := br_t' h c82
      refine lv_aload_n hx hb dX8_nextToken_139 rfl (lv_at hl 0 rfl) ?_
      refine k_get C inT_X8 hw71 0 rfl rfl 15 (by decide) mF_X8_141 rfl dX8_nextToken_140 ?_
      refine lv_aload_n hx hb dX8_nextToken_143 rfl (lv_at hl 0 rfl) ?_
      refine k_get C inT_X8 hw71 0 rfl rfl 7 (by decide) mF_X8_127 rfl dX8_nextToken_144 ?_
      refine lv_icmp_ge (tgt := 204) hx hb dX8_nextToken_147 (by decide) (fun c147 => ?_) (fun c147 => ?_)
      · replace h := br_t' h c147
        cases h
        exact k_vret C hw71 dX8_nextToken_204
      · replace h := br_f' h c147
        refine lv_aload_n hx hb dX8_nextToken_150 rfl (lv_at hl 0 rfl) ?_
        refine k_get C inT_X8 hw71 0 rfl rfl 6 (by decide) mF_X8_19 rfl dX8_nextToken_151 ?_
        refine lv_aload_n hx hb dX8_nextToken_154 rfl (lv_at hl 0 rfl) ?_
        refine k_get C inT_X8 hw71 0 rfl rfl 15 (by decide) mF_X8_141 rfl dX8_nextToken_155 ?_
        obtain ⟨y158, q158, h⟩ := bd h
        refine k_iald C hw71 1 rfl q158 dX8_nextToken_158 ?_
        obtain ⟨r159, q159, h⟩ := bd h
        refine k_callS (nC := 2) [oX8 a g_undos g_listed g_papers g_length g_besides g_gapFirst g_gapLast g_layings g_first_8 (g_first_8 + 1) g_clauses g_drafts, ar cI (a 7) 200 g_text] C hl.1 (tX8_isDigit q159) mL_X8_148 mmX8_isDigit rfl rfl ⟨Nat.le_of_ble_eq_true rfl, Nat.le_of_ble_eq_true rfl⟩ rfl rfl (Nat.le_of_ble_eq_true rfl) hA hw71 [] [0, 1] rfl (by decide +kernel) rfl rfl rfl rfl dX8_nextToken_159 (fun H locs hw159 => ?_)
        refine lv_if_eq (tgt := 204) hx hb dX8_nextToken_162 (by decide) (fun c162 => ?_) (fun c162 => ?_)
        · replace h := br_t' h c162
          cases h
          exact k_vret C hw159 dX8_nextToken_204
        · replace h := br_f' h c162
          refine wX8_nextToken_165 C hA _ (fun g_behind_165 H locs ls hw165x hl h => ?_) FU _ _ _ _ hw159 (lv_sub hl [0] rfl) h
          cases h
          exact k_vret C hw165x dX8_nextToken_204
    · replace h := br_f' h c82
      refine lv_aload_n hx hb dX8_nextToken_85 rfl (lv_at hl 0 rfl) ?_
      refine k_get C inT_X8 hw71 0 rfl rfl 6 (by decide) mF_X8_19 rfl dX8_nextToken_86 ?_
      refine lv_aload_n hx hb dX8_nextToken_89 rfl (lv_at hl 0 rfl) ?_
      refine k_get C inT_X8 hw71 0 rfl rfl 15 (by decide) mF_X8_141 rfl dX8_nextToken_90 ?_
      obtain ⟨y93, q93, h⟩ := bd h
      refine k_iald C hw71 1 rfl q93 dX8_nextToken_93 ?_
      obtain ⟨r94, q94, h⟩ := bd h
      refine k_callS (nC := 2) [oX8 a g_undos g_listed g_papers g_length g_besides g_gapFirst g_gapLast g_layings g_first_8 (g_first_8 + 1) g_clauses g_drafts, ar cI (a 7) 200 g_text] C hl.1 (tX8_isSmall q94) mL_X8_144 mmX8_isSmall rfl rfl ⟨Nat.le_of_ble_eq_true rfl, Nat.le_of_ble_eq_true rfl⟩ rfl rfl (Nat.le_of_ble_eq_true rfl) hA hw71 [] [0, 1] rfl (by decide +kernel) rfl rfl rfl rfl dX8_nextToken_94 (fun H locs hw94 => ?_)
      refine lv_if_eq (tgt := 139) hx hb dX8_nextToken_97 (by decide) (fun c97 => ?_) (fun c97 => ?_)
      · replace h := br_t' h c97
        refine lv_aload_n hx hb dX8_nextToken_139 rfl (lv_at hl 0 rfl) ?_
        refine k_get C inT_X8 hw94 0 rfl rfl 15 (by decide) mF_X8_141 rfl dX8_nextToken_140 ?_
        refine lv_aload_n hx hb dX8_nextToken_143 rfl (lv_at hl 0 rfl) ?_
        refine k_get C inT_X8 hw94 0 rfl rfl 7 (by decide) mF_X8_127 rfl dX8_nextToken_144 ?_
        refine lv_icmp_ge (tgt := 204) hx hb dX8_nextToken_147 (by decide) (fun c147 => ?_) (fun c147 => ?_)
        · replace h := br_t' h c147
          cases h
          exact k_vret C hw94 dX8_nextToken_204
        · replace h := br_f' h c147
          refine lv_aload_n hx hb dX8_nextToken_150 rfl (lv_at hl 0 rfl) ?_
          refine k_get C inT_X8 hw94 0 rfl rfl 6 (by decide) mF_X8_19 rfl dX8_nextToken_151 ?_
          refine lv_aload_n hx hb dX8_nextToken_154 rfl (lv_at hl 0 rfl) ?_
          refine k_get C inT_X8 hw94 0 rfl rfl 15 (by decide) mF_X8_141 rfl dX8_nextToken_155 ?_
          obtain ⟨y158, q158, h⟩ := bd h
          refine k_iald C hw94 1 rfl q158 dX8_nextToken_158 ?_
          obtain ⟨r159, q159, h⟩ := bd h
          refine k_callS (nC := 2) [oX8 a g_undos g_listed g_papers g_length g_besides g_gapFirst g_gapLast g_layings g_first_8 (g_first_8 + 1) g_clauses g_drafts, ar cI (a 7) 200 g_text] C hl.1 (tX8_isDigit q159) mL_X8_148 mmX8_isDigit rfl rfl ⟨Nat.le_of_ble_eq_true rfl, Nat.le_of_ble_eq_true rfl⟩ rfl rfl (Nat.le_of_ble_eq_true rfl) hA hw94 [] [0, 1] rfl (by decide +kernel) rfl rfl rfl rfl dX8_nextToken_159 (fun H locs hw159 => ?_)
          refine lv_if_eq (tgt := 204) hx hb dX8_nextToken_162 (by decide) (fun c162 => ?_) (fun c162 => ?_)
          · replace h := br_t' h c162
            cases h
            exact k_vret C hw159 dX8_nextToken_204
          · replace h := br_f' h c162
            refine wX8_nextToken_165 C hA _ (fun g_behind_165 H locs ls hw165x hl h => ?_) FU _ _ _ _ hw159 (lv_sub hl [0] rfl) h
            cases h
            exact k_vret C hw165x dX8_nextToken_204
      · replace h := br_f' h c97
        refine wX8_nextToken_100 C hA _ (fun g_behind_100 H locs ls hw100x hl h => ?_) FU _ _ _ _ hw94 (lv_sub hl [0] rfl) h
        cases h
        exact k_vret C hw100x dX8_nextToken_204
def rmX8_wordHere : Room := { frames := 0, cells := 0, slots := 0, locals := 0 }
def fX8_wordHere_41 (g_text : Nat → Int32) (g_first : Int32) (g_behind : Int32) (g_words : Nat → Int32) (x1 : Int32) : (n : Nat) → (k : Int32 → Int32 → Option (Int32)) → Int32 → Int32 → Option (Int32)
  | 0, _, _, _ => none
  | n + 1, k, x2, x3 =>
    if 6 ≤ x3 then
      k x2 x3
    else
      if x2 = 0 then
        k x2 x3
      else
        (ld 48 g_words ((6 * x1) + x3)).bind fun y61 =>
        if g_behind ≤ (g_first + x3) then
          if y61 = 0 then
            fX8_wordHere_41 g_text g_first g_behind g_words x1 n k 1 (x3 + 1)
          else
            fX8_wordHere_41 g_text g_first g_behind g_words x1 n k 0 (x3 + 1)
        else
          (ld 200 g_text (g_first + x3)).bind fun y85 =>
          if y61 = y85 then
            fX8_wordHere_41 g_text g_first g_behind g_words x1 n k 1 (x3 + 1)
          else
            fX8_wordHere_41 g_text g_first g_behind g_words x1 n k 0 (x3 + 1)
set_option maxRecDepth 100000 in
set_option maxHeartbeats 4000000 in
theorem wX8_wordHere_41 {p : Program} {l : Launch} {e : Env} {s : State} {m : MethodId} {args : Array Value} {below : List Frame} {meth : Method} {c : Code} {D : va_G} {cI : ClassId} {cS : GS} {A : Nat → Prop} {a : Nat → Nat} {g_undos : Int32} {g_listed : Int32} {g_papers : Int32} {g_text : Nat → Int32} {g_length : Int32} {g_besides : Int32} {g_gapFirst : Int32} {g_gapLast : Int32} {g_layings : Int32} {g_first : Int32} {g_behind : Int32} {g_clauses : Int32} {g_words : Nat → Int32} {g_drafts : Int32} {x1 : Int32} (C : MC p s m args meth c D cI cS A RX8 cX8_wordHere 4 (some .int)) (hA : ∀ q, s.heap.size ≤ q → A q) {s0 : Int32} (k : Int32 → Int32 → Option (Int32)) (hk : ∀ (x2 : Int32) (x3 : Int32) (H : Heap) (locs : List Loc) (ls : Array Slot), Wd D A s.heap H locs [oX8 a g_undos g_listed g_papers g_length g_besides g_gapFirst g_gapLast g_layings g_first g_behind g_clauses g_drafts, ar cI (a 7) 200 g_text, ar cI (a 20) 48 g_words] → lv_has ls 4 [(0, .ref (a 0)), (1, .int x1), (2, .int x2), (3, .int x3)] → k x2 x3 = some s0 → W p l e rmX8_wordHere s m args below meth c H locs 0 0 (KQ D A below args s (some (.int s0)) [oX8 a g_undos g_listed g_papers g_length g_besides g_gapFirst g_gapLast g_layings g_first g_behind g_clauses g_drafts, ar cI (a 7) 200 g_text, ar cI (a 20) 48 g_words]) (F0 m 105 ls [])) :
    ∀ (n : Nat) (x2 : Int32) (x3 : Int32) (H : Heap) (locs : List Loc) (ls : Array Slot), Wd D A s.heap H locs [oX8 a g_undos g_listed g_papers g_length g_besides g_gapFirst g_gapLast g_layings g_first g_behind g_clauses g_drafts, ar cI (a 7) 200 g_text, ar cI (a 20) 48 g_words] → lv_has ls 4 [(0, .ref (a 0)), (1, .int x1), (2, .int x2), (3, .int x3)] → fX8_wordHere_41 g_text g_first g_behind g_words x1 n k x2 x3 = some s0 → W p l e rmX8_wordHere s m args below meth c H locs 0 0 (KQ D A below args s (some (.int s0)) [oX8 a g_undos g_listed g_papers g_length g_besides g_gapFirst g_gapLast g_layings g_first g_behind g_clauses g_drafts, ar cI (a 7) 200 g_text, ar cI (a 20) 48 g_words]) (F0 m 41 ls []) := by
  have hx := C.1.1
  have hb := C.1.2.1
  intro n
  induction n with
  | zero =>
    intro x2 x3 H locs ls hw hl h
    rw [fX8_wordHere_41] at h
    cases h
  | succ n ih =>
    intro x2 x3 H locs ls hw hl h
    rw [fX8_wordHere_41] at h
    refine lv_iload_n hx hb dX8_wordHere_41 rfl (lv_at hl 3 rfl) ?_
    refine lv_bipush (v := 6) hx hb dX8_wordHere_42 (by decide) ?_
    refine lv_icmp_ge (tgt := 105) hx hb dX8_wordHere_44 (by decide) (fun c44 => ?_) (fun c44 => ?_)
    · replace h := br_t' h c44
      exact hk _ _ _ _ _ hw (lv_sub hl [0, 1, 2, 3] rfl) h
    · replace h := br_f' h c44
      refine lv_iload_n hx hb dX8_wordHere_47 rfl (lv_at hl 2 rfl) ?_
      refine lv_if_eq (tgt := 105) hx hb dX8_wordHere_48 (by decide) (fun c48 => ?_) (fun c48 => ?_)
      · replace h := br_t' h c48
        exact hk _ _ _ _ _ hw (lv_sub hl [0, 1, 2, 3] rfl) h
      · replace h := br_f' h c48
        refine lv_aload_n hx hb dX8_wordHere_51 rfl (lv_at hl 0 rfl) ?_
        refine k_get C inT_X8 hw 0 rfl rfl 19 (by decide) mF_X8_34 rfl dX8_wordHere_52 ?_
        refine lv_bipush (v := 6) hx hb dX8_wordHere_55 (by decide) ?_
        refine lv_iload_n hx hb dX8_wordHere_57 rfl (lv_at hl 1 rfl) ?_
        refine lv_imul hx hb dX8_wordHere_58 ?_
        refine lv_iload_n hx hb dX8_wordHere_59 rfl (lv_at hl 3 rfl) ?_
        refine lv_iadd hx hb dX8_wordHere_60 ?_
        obtain ⟨y61, q61, h⟩ := bd h
        refine k_iald C hw 2 rfl q61 dX8_wordHere_61 ?_
        refine lv_aload_n hx hb dX8_wordHere_62 rfl (lv_at hl 0 rfl) ?_
        refine k_get C inT_X8 hw 0 rfl rfl 15 (by decide) mF_X8_141 rfl dX8_wordHere_63 ?_
        refine lv_iload_n hx hb dX8_wordHere_66 rfl (lv_at hl 3 rfl) ?_
        refine lv_iadd hx hb dX8_wordHere_67 ?_
        refine lv_aload_n hx hb dX8_wordHere_68 rfl (lv_at hl 0 rfl) ?_
        refine k_get C inT_X8 hw 0 rfl rfl 16 (by decide) mF_X8_138 rfl dX8_wordHere_69 ?_
        refine lv_icmp_ge (tgt := 89) hx hb dX8_wordHere_72 (by decide) (fun c72 => ?_) (fun c72 => ?_)
        · replace h := br_t' h c72
          refine lv_iconst (v := 0) hx hb dX8_wordHere_89 (by decide) ?_
          refine lv_icmp_ne (tgt := 97) hx hb dX8_wordHere_90 (by decide) (fun c90 => ?_) (fun c90 => ?_)
          · replace h := br_f' h c90
            refine lv_iconst (v := 0) hx hb dX8_wordHere_97 (by decide) ?_
            refine lv_istore_n (lv' := [(2, .int 0), (0, .ref (a 0)), (1, .int x1), (3, .int x3)]) hx hb dX8_wordHere_98 rfl hl (by decide) rfl (fun ls hl => ?_)
            refine lv_iinc (v := (x3 + 1)) (lv' := [(3, .int (x3 + 1)), (2, .int 0), (0, .ref (a 0)), (1, .int x1)]) hx hb dX8_wordHere_99 hl (k := 3) rfl rfl (by decide) rfl (fun ls hl => ?_)
            refine lv_goto (tgt := 41) hx hb dX8_wordHere_102 (by decide) ?_
            exact ih _ _ _ _ _ hw (lv_sub hl [2, 3, 1, 0] rfl) h
          · replace h := br_t' h c90
            refine lv_iconst (v := 1) hx hb dX8_wordHere_93 (by decide) ?_
            refine lv_goto (tgt := 98) hx hb dX8_wordHere_94 (by decide) ?_
            refine lv_istore_n (lv' := [(2, .int 1), (0, .ref (a 0)), (1, .int x1), (3, .int x3)]) hx hb dX8_wordHere_98 rfl hl (by decide) rfl (fun ls hl => ?_)
            refine lv_iinc (v := (x3 + 1)) (lv' := [(3, .int (x3 + 1)), (2, .int 1), (0, .ref (a 0)), (1, .int x1)]) hx hb dX8_wordHere_99 hl (k := 3) rfl rfl (by decide) rfl (fun ls hl => ?_)
            refine lv_goto (tgt := 41) hx hb dX8_wordHere_102 (by decide) ?_
            exact ih _ _ _ _ _ hw (lv_sub hl [2, 3, 1, 0] rfl) h
        · replace h := br_f' h c72
          refine lv_aload_n hx hb dX8_wordHere_75 rfl (lv_at hl 0 rfl) ?_
          refine k_get C inT_X8 hw 0 rfl rfl 6 (by decide) mF_X8_19 rfl dX8_wordHere_76 ?_
          refine lv_aload_n hx hb dX8_wordHere_79 rfl (lv_at hl 0 rfl) ?_
          refine k_get C inT_X8 hw 0 rfl rfl 15 (by decide) mF_X8_141 rfl dX8_wordHere_80 ?_
          refine lv_iload_n hx hb dX8_wordHere_83 rfl (lv_at hl 3 rfl) ?_
          refine lv_iadd hx hb dX8_wordHere_84 ?_
          obtain ⟨y85, q85, h⟩ := bd h
          refine k_iald C hw 1 rfl q85 dX8_wordHere_85 ?_
          refine lv_goto (tgt := 90) hx hb dX8_wordHere_86 (by decide) ?_
          refine lv_icmp_ne (tgt := 97) hx hb dX8_wordHere_90 (by decide) (fun c90 => ?_) (fun c90 => ?_)
          · replace h := br_f' h c90
            refine lv_iconst (v := 0) hx hb dX8_wordHere_97 (by decide) ?_
            refine lv_istore_n (lv' := [(2, .int 0), (0, .ref (a 0)), (1, .int x1), (3, .int x3)]) hx hb dX8_wordHere_98 rfl hl (by decide) rfl (fun ls hl => ?_)
            refine lv_iinc (v := (x3 + 1)) (lv' := [(3, .int (x3 + 1)), (2, .int 0), (0, .ref (a 0)), (1, .int x1)]) hx hb dX8_wordHere_99 hl (k := 3) rfl rfl (by decide) rfl (fun ls hl => ?_)
            refine lv_goto (tgt := 41) hx hb dX8_wordHere_102 (by decide) ?_
            exact ih _ _ _ _ _ hw (lv_sub hl [2, 3, 1, 0] rfl) h
          · replace h := br_t' h c90
            refine lv_iconst (v := 1) hx hb dX8_wordHere_93 (by decide) ?_
            refine lv_goto (tgt := 98) hx hb dX8_wordHere_94 (by decide) ?_
            refine lv_istore_n (lv' := [(2, .int 1), (0, .ref (a 0)), (1, .int x1), (3, .int x3)]) hx hb dX8_wordHere_98 rfl hl (by decide) rfl (fun ls hl => ?_)
            refine lv_iinc (v := (x3 + 1)) (lv' := [(3, .int (x3 + 1)), (2, .int 1), (0, .ref (a 0)), (1, .int x1)]) hx hb dX8_wordHere_99 hl (k := 3) rfl rfl (by decide) rfl (fun ls hl => ?_)
            refine lv_goto (tgt := 41) hx hb dX8_wordHere_102 (by decide) ?_
            exact ih _ _ _ _ _ hw (lv_sub hl [2, 3, 1, 0] rfl) h
def fX8_wordHere_2 (g_text : Nat → Int32) (g_first : Int32) (g_behind : Int32) (g_words : Nat → Int32) : (n : Nat) → (k : Int32 → Option (Int32)) → Int32 → Option (Int32)
  | 0, _, _ => none
  | n + 1, k, x1 =>
    if 8 ≤ x1 then
      k x1
    else
      if g_behind ≤ g_first then
        fX8_wordHere_41 g_text g_first g_behind g_words x1 FU (fun x2_41 x3_41 =>
          if x2_41 = 0 then
            fX8_wordHere_2 g_text g_first g_behind g_words n k (x1 + 1)
          else
            some x1) 0 0
      else
        if 7 ≤ (g_behind - g_first) then
          fX8_wordHere_41 g_text g_first g_behind g_words x1 FU (fun x2_41 x3_41 =>
            if x2_41 = 0 then
              fX8_wordHere_2 g_text g_first g_behind g_words n k (x1 + 1)
            else
              some x1) 0 0
        else
          fX8_wordHere_41 g_text g_first g_behind g_words x1 FU (fun x2_41 x3_41 =>
            if x2_41 = 0 then
              fX8_wordHere_2 g_text g_first g_behind g_words n k (x1 + 1)
            else
              some x1) 1 0
set_option maxRecDepth 100000 in
set_option maxHeartbeats 4000000 in
theorem wX8_wordHere_2 {p : Program} {l : Launch} {e : Env} {s : State} {m : MethodId} {args : Array Value} {below : List Frame} {meth : Method} {c : Code} {D : va_G} {cI : ClassId} {cS : GS} {A : Nat → Prop} {a : Nat → Nat} {g_undos : Int32} {g_listed : Int32} {g_papers : Int32} {g_text : Nat → Int32} {g_length : Int32} {g_besides : Int32} {g_gapFirst : Int32} {g_gapLast : Int32} {g_layings : Int32} {g_first : Int32} {g_behind : Int32} {g_clauses : Int32} {g_words : Nat → Int32} {g_drafts : Int32} (C : MC p s m args meth c D cI cS A RX8 cX8_wordHere 4 (some .int)) (hA : ∀ q, s.heap.size ≤ q → A q) {s0 : Int32} (k : Int32 → Option (Int32)) (hk : ∀ (x1 : Int32) (H : Heap) (locs : List Loc) (ls : Array Slot), Wd D A s.heap H locs [oX8 a g_undos g_listed g_papers g_length g_besides g_gapFirst g_gapLast g_layings g_first g_behind g_clauses g_drafts, ar cI (a 7) 200 g_text, ar cI (a 20) 48 g_words] → lv_has ls 4 [(0, .ref (a 0)), (1, .int x1)] → k x1 = some s0 → W p l e rmX8_wordHere s m args below meth c H locs 0 0 (KQ D A below args s (some (.int s0)) [oX8 a g_undos g_listed g_papers g_length g_besides g_gapFirst g_gapLast g_layings g_first g_behind g_clauses g_drafts, ar cI (a 7) 200 g_text, ar cI (a 20) 48 g_words]) (F0 m 117 ls [])) :
    ∀ (n : Nat) (x1 : Int32) (H : Heap) (locs : List Loc) (ls : Array Slot), Wd D A s.heap H locs [oX8 a g_undos g_listed g_papers g_length g_besides g_gapFirst g_gapLast g_layings g_first g_behind g_clauses g_drafts, ar cI (a 7) 200 g_text, ar cI (a 20) 48 g_words] → lv_has ls 4 [(0, .ref (a 0)), (1, .int x1)] → fX8_wordHere_2 g_text g_first g_behind g_words n k x1 = some s0 → W p l e rmX8_wordHere s m args below meth c H locs 0 0 (KQ D A below args s (some (.int s0)) [oX8 a g_undos g_listed g_papers g_length g_besides g_gapFirst g_gapLast g_layings g_first g_behind g_clauses g_drafts, ar cI (a 7) 200 g_text, ar cI (a 20) 48 g_words]) (F0 m 2 ls []) := by
  have hx := C.1.1
  have hb := C.1.2.1
  intro n
  induction n with
  | zero =>
    intro x1 H locs ls hw hl h
    rw [fX8_wordHere_2] at h
    cases h
  | succ n ih =>
    intro x1 H locs ls hw hl h
    rw [fX8_wordHere_2] at h
    refine lv_iload_n hx hb dX8_wordHere_2 rfl (lv_at hl 1 rfl) ?_
    refine lv_bipush (v := 8) hx hb dX8_wordHere_3 (by decide) ?_
    refine lv_icmp_ge (tgt := 117) hx hb dX8_wordHere_5 (by decide) (fun c5 => ?_) (fun c5 => ?_)
    · replace h := br_t' h c5
      exact hk _ _ _ _ hw (lv_sub hl [0, 1] rfl) h
    · replace h := br_f' h c5
      refine lv_aload_n hx hb dX8_wordHere_8 rfl (lv_at hl 0 rfl) ?_
      refine k_get C inT_X8 hw 0 rfl rfl 16 (by decide) mF_X8_138 rfl dX8_wordHere_9 ?_
      refine lv_aload_n hx hb dX8_wordHere_12 rfl (lv_at hl 0 rfl) ?_
      refine k_get C inT_X8 hw 0 rfl rfl 15 (by decide) mF_X8_141 rfl dX8_wordHere_13 ?_
      refine lv_icmp_le (tgt := 37) hx hb dX8_wordHere_16 (by decide) (fun c16 => ?_) (fun c16 => ?_)
      · replace h := br_t' h c16
        refine lv_iconst (v := 0) hx hb dX8_wordHere_37 (by decide) ?_
        refine lv_istore_n (lv' := [(2, .int 0), (0, .ref (a 0)), (1, .int x1)]) hx hb dX8_wordHere_38 rfl hl (by decide) rfl (fun ls hl => ?_)
        refine lv_iconst (v := 0) hx hb dX8_wordHere_39 (by decide) ?_
        refine lv_istore_n (lv' := [(3, .int 0), (2, .int 0), (0, .ref (a 0)), (1, .int x1)]) hx hb dX8_wordHere_40 rfl hl (by decide) rfl (fun ls hl => ?_)
        refine wX8_wordHere_41 C hA _ (fun x2_41 x3_41 H locs ls hw41x hl h => ?_) FU _ _ _ _ _ hw (lv_sub hl [2, 3, 1, 0] rfl) h
        refine lv_iload_n hx hb dX8_wordHere_105 rfl (lv_at hl 2 rfl) ?_
        refine lv_if_eq (tgt := 111) hx hb dX8_wordHere_106 (by decide) (fun c106 => ?_) (fun c106 => ?_)
        · replace h := br_t' h c106
          refine lv_iinc (v := (x1 + 1)) (lv' := [(1, .int (x1 + 1)), (0, .ref (a 0)), (2, .int x2_41), (3, .int x3_41)]) hx hb dX8_wordHere_111 hl (k := 1) rfl rfl (by decide) rfl (fun ls hl => ?_)
          refine lv_goto (tgt := 2) hx hb dX8_wordHere_114 (by decide) ?_
          exact ih _ _ _ _ hw41x (lv_sub hl [1, 0] rfl) h
        · replace h := br_f' h c106
          refine lv_iload_n hx hb dX8_wordHere_109 rfl (lv_at hl 1 rfl) ?_
          cases h
          exact k_iret C hw41x dX8_wordHere_110
      · replace h := br_f' h c16
        refine lv_aload_n hx hb dX8_wordHere_19 rfl (lv_at hl 0 rfl) ?_
        refine k_get C inT_X8 hw 0 rfl rfl 16 (by decide) mF_X8_138 rfl dX8_wordHere_20 ?_
        refine lv_aload_n hx hb dX8_wordHere_23 rfl (lv_at hl 0 rfl) ?_
        refine k_get C inT_X8 hw 0 rfl rfl 15 (by decide) mF_X8_141 rfl dX8_wordHere_24 ?_
        refine lv_isub hx hb dX8_wordHere_27 ?_
        refine lv_bipush (v := 7) hx hb dX8_wordHere_28 (by decide) ?_
        refine lv_icmp_ge (tgt := 37) hx hb dX8_wordHere_30 (by decide) (fun c30 => ?_) (fun c30 => ?_)
        · replace h := br_t' h c30
          refine lv_iconst (v := 0) hx hb dX8_wordHere_37 (by decide) ?_
          refine lv_istore_n (lv' := [(2, .int 0), (0, .ref (a 0)), (1, .int x1)]) hx hb dX8_wordHere_38 rfl hl (by decide) rfl (fun ls hl => ?_)
          refine lv_iconst (v := 0) hx hb dX8_wordHere_39 (by decide) ?_
          refine lv_istore_n (lv' := [(3, .int 0), (2, .int 0), (0, .ref (a 0)), (1, .int x1)]) hx hb dX8_wordHere_40 rfl hl (by decide) rfl (fun ls hl => ?_)
          refine wX8_wordHere_41 C hA _ (fun x2_41 x3_41 H locs ls hw41x hl h => ?_) FU _ _ _ _ _ hw (lv_sub hl [2, 3, 1, 0] rfl) h
          refine lv_iload_n hx hb dX8_wordHere_105 rfl (lv_at hl 2 rfl) ?_
          refine lv_if_eq (tgt := 111) hx hb dX8_wordHere_106 (by decide) (fun c106 => ?_) (fun c106 => ?_)
          · replace h := br_t' h c106
            refine lv_iinc (v := (x1 + 1)) (lv' := [(1, .int (x1 + 1)), (0, .ref (a 0)), (2, .int x2_41), (3, .int x3_41)]) hx hb dX8_wordHere_111 hl (k := 1) rfl rfl (by decide) rfl (fun ls hl => ?_)
            refine lv_goto (tgt := 2) hx hb dX8_wordHere_114 (by decide) ?_
            exact ih _ _ _ _ hw41x (lv_sub hl [1, 0] rfl) h
          · replace h := br_f' h c106
            refine lv_iload_n hx hb dX8_wordHere_109 rfl (lv_at hl 1 rfl) ?_
            cases h
            exact k_iret C hw41x dX8_wordHere_110
        · replace h := br_f' h c30
          refine lv_iconst (v := 1) hx hb dX8_wordHere_33 (by decide) ?_
          refine lv_goto (tgt := 38) hx hb dX8_wordHere_34 (by decide) ?_
          refine lv_istore_n (lv' := [(2, .int 1), (0, .ref (a 0)), (1, .int x1)]) hx hb dX8_wordHere_38 rfl hl (by decide) rfl (fun ls hl => ?_)
          refine lv_iconst (v := 0) hx hb dX8_wordHere_39 (by decide) ?_
          refine lv_istore_n (lv' := [(3, .int 0), (2, .int 1), (0, .ref (a 0)), (1, .int x1)]) hx hb dX8_wordHere_40 rfl hl (by decide) rfl (fun ls hl => ?_)
          refine wX8_wordHere_41 C hA _ (fun x2_41 x3_41 H locs ls hw41x hl h => ?_) FU _ _ _ _ _ hw (lv_sub hl [2, 3, 1, 0] rfl) h
          refine lv_iload_n hx hb dX8_wordHere_105 rfl (lv_at hl 2 rfl) ?_
          refine lv_if_eq (tgt := 111) hx hb dX8_wordHere_106 (by decide) (fun c106 => ?_) (fun c106 => ?_)
          · replace h := br_t' h c106
            refine lv_iinc (v := (x1 + 1)) (lv' := [(1, .int (x1 + 1)), (0, .ref (a 0)), (2, .int x2_41), (3, .int x3_41)]) hx hb dX8_wordHere_111 hl (k := 1) rfl rfl (by decide) rfl (fun ls hl => ?_)
            refine lv_goto (tgt := 2) hx hb dX8_wordHere_114 (by decide) ?_
            exact ih _ _ _ _ hw41x (lv_sub hl [1, 0] rfl) h
          · replace h := br_f' h c106
            refine lv_iload_n hx hb dX8_wordHere_109 rfl (lv_at hl 1 rfl) ?_
            cases h
            exact k_iret C hw41x dX8_wordHere_110
def fX8_wordHere (g_text : Nat → Int32) (g_first : Int32) (g_behind : Int32) (g_words : Nat → Int32) : Option (Int32) :=
  fX8_wordHere_2 g_text g_first g_behind g_words FU (fun x1_2 =>
    some (-1)) 0
set_option maxRecDepth 100000 in
set_option maxHeartbeats 4000000 in
theorem tX8_wordHere {l : Launch} {D : va_G} {cI : ClassId} {cS : GS} {a : Nat → Nat} {g_undos : Int32} {g_listed : Int32} {g_papers : Int32} {g_text : Nat → Int32} {g_length : Int32} {g_besides : Int32} {g_gapFirst : Int32} {g_gapLast : Int32} {g_layings : Int32} {g_first : Int32} {g_behind : Int32} {g_clauses : Int32} {g_words : Nat → Int32} {g_drafts : Int32}  {s0 : Int32} (h : fX8_wordHere g_text g_first g_behind g_words = some s0) : CT l D cI cS yX8_wordHere cX8_wordHere 4 (some .int) rmX8_wordHere [.ref (a 0)] [oX8 a g_undos g_listed g_papers g_length g_besides g_gapFirst g_gapLast g_layings g_first g_behind g_clauses g_drafts, ar cI (a 7) 200 g_text, ar cI (a 20) 48 g_words] (some (.int s0)) [oX8 a g_undos g_listed g_papers g_length g_besides g_gapFirst g_gapLast g_layings g_first g_behind g_clauses g_drafts, ar cI (a 7) 200 g_text, ar cI (a 20) 48 g_words] := by
  refine CT.of RX8 (by decide) rfl (Nat.le_of_ble_eq_true rfl) (fun p e s m below meth c ls A C hA hl hw => ?_)
  have hx := C.1.1
  have hb := C.1.2.1
  have hl : lv_has ls 4 [(0, .ref (a 0))] := hl
  unfold fX8_wordHere at h
  refine lv_iconst (v := 0) hx hb dX8_wordHere_0 (by decide) ?_
  refine lv_istore_n (lv' := [(1, .int 0), (0, .ref (a 0))]) hx hb dX8_wordHere_1 rfl hl (by decide) rfl (fun ls hl => ?_)
  refine wX8_wordHere_2 C hA _ (fun x1_2 H locs ls hw2x hl h => ?_) FU _ _ _ _ hw (lv_sub hl [1, 0] rfl) h
  refine lv_iconst (v := (-1)) hx hb dX8_wordHere_117 (by decide) ?_
  cases h
  exact k_iret C hw2x dX8_wordHere_118
def rmX8_number : Room := { frames := 3, cells := 0, slots := 0, locals := 65 }
def fX8_number_50 (g_text : Nat → Int32) (g_behind : Int32) : (n : Nat) → (k : Int64 → Int32 → Option (Int32 × Int32 × Int32 × (Nat → Int32))) → Int64 → Int32 → Option (Int32 × Int32 × Int32 × (Nat → Int32))
  | 0, _, _, _ => none
  | n + 1, k, x3, x5 =>
    if g_behind ≤ x5 then
      k x3 x5
    else
      (ld 200 g_text x5).bind fun y70 =>
      fX8_number_50 g_text g_behind n k (((10 * x3) + y70.toInt64) - 48) (x5 + 1)
set_option maxRecDepth 100000 in
set_option maxHeartbeats 4000000 in
theorem wX8_number_50 {p : Program} {l : Launch} {e : Env} {s : State} {m : MethodId} {args : Array Value} {below : List Frame} {meth : Method} {c : Code} {D : va_G} {cI : ClassId} {cS : GS} {A : Nat → Prop} {a : Nat → Nat} {g_undos : Int32} {g_listed : Int32} {g_papers : Int32} {g_text : Nat → Int32} {g_length : Int32} {g_besides : Int32} {g_gapFirst : Int32} {g_gapLast : Int32} {g_layings : Int32} {g_first : Int32} {g_behind : Int32} {g_numbers : Nat → Int32} {g_clauses : Int32} {g_drafts : Int32} {x1 : Int32} {x2 : Int32} (C : MC p s m args meth c D cI cS A RX8 cX8_number 9 (some .boolean)) (hA : ∀ q, s.heap.size ≤ q → A q) {s0 : Int32} {s1 : Int32} {s2 : Int32} {s3 : (Nat → Int32)} (k : Int64 → Int32 → Option (Int32 × Int32 × Int32 × (Nat → Int32))) (hk : ∀ (x3 : Int64) (x5 : Int32) (H : Heap) (locs : List Loc) (ls : Array Slot), Wd D A s.heap H locs [oX8 a g_undos g_listed g_papers g_length g_besides g_gapFirst g_gapLast g_layings g_first g_behind g_clauses g_drafts, ar cI (a 7) 200 g_text, ar cI (a 18) 3 g_numbers] → lv_has ls 9 [(0, .ref (a 0)), (1, .int x1), (2, .int x2), (3, .long x3), (5, .int x5)] → k x3 x5 = some (s0, s1, s2, s3) → W p l e rmX8_number s m args below meth c H locs 0 0 (KQ D A below args s (some (.int s0)) [oX8 a g_undos g_listed g_papers g_length g_besides g_gapFirst g_gapLast g_layings s1 s2 g_clauses g_drafts, ar cI (a 7) 200 g_text, ar cI (a 18) 3 s3]) (F0 m 84 ls [])) :
    ∀ (n : Nat) (x3 : Int64) (x5 : Int32) (H : Heap) (locs : List Loc) (ls : Array Slot), Wd D A s.heap H locs [oX8 a g_undos g_listed g_papers g_length g_besides g_gapFirst g_gapLast g_layings g_first g_behind g_clauses g_drafts, ar cI (a 7) 200 g_text, ar cI (a 18) 3 g_numbers] → lv_has ls 9 [(0, .ref (a 0)), (1, .int x1), (2, .int x2), (3, .long x3), (5, .int x5)] → fX8_number_50 g_text g_behind n k x3 x5 = some (s0, s1, s2, s3) → W p l e rmX8_number s m args below meth c H locs 0 0 (KQ D A below args s (some (.int s0)) [oX8 a g_undos g_listed g_papers g_length g_besides g_gapFirst g_gapLast g_layings s1 s2 g_clauses g_drafts, ar cI (a 7) 200 g_text, ar cI (a 18) 3 s3]) (F0 m 50 ls []) := by
  have hx := C.1.1
  have hb := C.1.2.1
  intro n
  induction n with
  | zero =>
    intro x3 x5 H locs ls hw hl h
    rw [fX8_number_50] at h
    cases h
  | succ n ih =>
    intro x3 x5 H locs ls hw hl h
    rw [fX8_number_50] at h
    refine lv_iload hx hb dX8_number_50 (lv_at hl 4 rfl) ?_
    refine lv_aload_n hx hb dX8_number_52 rfl (lv_at hl 0 rfl) ?_
    refine k_get C inT_X8 hw 0 rfl rfl 16 (by decide) mF_X8_138 rfl dX8_number_53 ?_
    refine lv_icmp_ge (tgt := 84) hx hb dX8_number_56 (by decide) (fun c56 => ?_) (fun c56 => ?_)
    · replace h := br_t' h c56
      exact hk _ _ _ _ _ hw (lv_sub hl [0, 1, 2, 3, 4] rfl) h
    · replace h := br_f' h c56
      refine k_ldc2 C mD_X8_151 dX8_number_59 ?_
      refine lv_lload_n hx hb dX8_number_62 rfl (lv_at hl 3 rfl) ?_
      refine lv_lmul hx hb dX8_number_63 ?_
      refine lv_aload_n hx hb dX8_number_64 rfl (lv_at hl 0 rfl) ?_
      refine k_get C inT_X8 hw 0 rfl rfl 6 (by decide) mF_X8_19 rfl dX8_number_65 ?_
      refine lv_iload hx hb dX8_number_68 (lv_at hl 4 rfl) ?_
      obtain ⟨y70, q70, h⟩ := bd h
      refine k_iald C hw 1 rfl q70 dX8_number_70 ?_
      refine lv_i2l (v := y70.toInt64) hx hb dX8_number_71 rfl ?_
      refine lv_ladd hx hb dX8_number_72 ?_
      refine k_ldc2 C mD_X8_134 dX8_number_73 ?_
      refine lv_lsub hx hb dX8_number_76 ?_
      refine lv_lstore_n (lv' := [(3, .long (((10 * x3) + y70.toInt64) - 48)), (0, .ref (a 0)), (1, .int x1), (2, .int x2), (5, .int x5)]) hx hb dX8_number_77 rfl hl (by decide) rfl (fun ls hl => ?_)
      refine lv_iinc (v := (x5 + 1)) (lv' := [(5, .int (x5 + 1)), (3, .long (((10 * x3) + y70.toInt64) - 48)), (0, .ref (a 0)), (1, .int x1), (2, .int x2)]) hx hb dX8_number_78 hl (k := 4) rfl rfl (by decide) rfl (fun ls hl => ?_)
      refine lv_goto (tgt := 50) hx hb dX8_number_81 (by decide) ?_
      exact ih _ _ _ _ _ hw (lv_sub hl [2, 3, 4, 1, 0] rfl) h
def fX8_number (g_text : Nat → Int32) (g_length : Int32) (g_first : Int32) (g_behind : Int32) (g_numbers : Nat → Int32) (x1 : Int32) (x2 : Int32) : Option (Int32 × Int32 × Int32 × (Nat → Int32)) :=
  if g_first = g_length then
    some (0, g_first, g_behind, g_numbers)
  else
    (ld 200 g_text g_first).bind fun y19 =>
    (fX8_isDigit y19).bind fun r20 =>
    if r20 = 0 then
      some (0, g_first, g_behind, g_numbers)
    else
      if (g_behind - g_first) ≤ 10 then
        fX8_number_50 g_text g_behind FU (fun x3_50 x5_50 =>
          if x2 = 3 then
            if x2 = 1 then
              (fX8_in x3_50 1 9).bind fun r163 =>
              if r163 = 0 then
                some (0, g_first, g_behind, g_numbers)
              else
                (sv 3 g_numbers x1 x3_50.toInt32).bind fun g178 =>
                (fX8_nextToken g_text g_length g_first g_behind).bind fun r180 =>
                some (1, r180.1, r180.2, g178)
            else
              if x2 = 2 then
                (fX8_in x3_50 1 7).bind fun r163 =>
                if r163 = 0 then
                  some (0, g_first, g_behind, g_numbers)
                else
                  (sv 3 g_numbers x1 x3_50.toInt32).bind fun g178 =>
                  (fX8_nextToken g_text g_length g_first g_behind).bind fun r180 =>
                  some (1, r180.1, r180.2, g178)
              else
                if x2 = 6 then
                  (fX8_in x3_50 1 999).bind fun r163 =>
                  if r163 = 0 then
                    some (0, g_first, g_behind, g_numbers)
                  else
                    (sv 3 g_numbers x1 x3_50.toInt32).bind fun g178 =>
                    (fX8_nextToken g_text g_length g_first g_behind).bind fun r180 =>
                    some (1, r180.1, r180.2, g178)
                else
                  (fX8_in x3_50 1 2000000000).bind fun r163 =>
                  if r163 = 0 then
                    some (0, g_first, g_behind, g_numbers)
                  else
                    (sv 3 g_numbers x1 x3_50.toInt32).bind fun g178 =>
                    (fX8_nextToken g_text g_length g_first g_behind).bind fun r180 =>
                    some (1, r180.1, r180.2, g178)
          else
            if x2 = 6 then
              if x2 = 1 then
                (fX8_in x3_50 1 9).bind fun r163 =>
                if r163 = 0 then
                  some (0, g_first, g_behind, g_numbers)
                else
                  (sv 3 g_numbers x1 x3_50.toInt32).bind fun g178 =>
                  (fX8_nextToken g_text g_length g_first g_behind).bind fun r180 =>
                  some (1, r180.1, r180.2, g178)
              else
                if x2 = 2 then
                  (fX8_in x3_50 1 7).bind fun r163 =>
                  if r163 = 0 then
                    some (0, g_first, g_behind, g_numbers)
                  else
                    (sv 3 g_numbers x1 x3_50.toInt32).bind fun g178 =>
                    (fX8_nextToken g_text g_length g_first g_behind).bind fun r180 =>
                    some (1, r180.1, r180.2, g178)
                else
                  if x2 = 6 then
                    (fX8_in x3_50 1 999).bind fun r163 =>
                    if r163 = 0 then
                      some (0, g_first, g_behind, g_numbers)
                    else
                      (sv 3 g_numbers x1 x3_50.toInt32).bind fun g178 =>
                      (fX8_nextToken g_text g_length g_first g_behind).bind fun r180 =>
                      some (1, r180.1, r180.2, g178)
                  else
                    (fX8_in x3_50 1 2000000000).bind fun r163 =>
                    if r163 = 0 then
                      some (0, g_first, g_behind, g_numbers)
                    else
                      (sv 3 g_numbers x1 x3_50.toInt32).bind fun g178 =>
                      (fX8_nextToken g_text g_length g_first g_behind).bind fun r180 =>
                      some (1, r180.1, r180.2, g178)
            else
              if x2 = 4 then
                (ld 3 g_numbers (x1 - 1)).bind fun y111 =>
                if x2 = 1 then
                  (fX8_in x3_50 y111.toInt64 9).bind fun r163 =>
                  if r163 = 0 then
                    some (0, g_first, g_behind, g_numbers)
                  else
                    (sv 3 g_numbers x1 x3_50.toInt32).bind fun g178 =>
                    (fX8_nextToken g_text g_length g_first g_behind).bind fun r180 =>
                    some (1, r180.1, r180.2, g178)
                else
                  if x2 = 2 then
                    (fX8_in x3_50 y111.toInt64 7).bind fun r163 =>
                    if r163 = 0 then
                      some (0, g_first, g_behind, g_numbers)
                    else
                      (sv 3 g_numbers x1 x3_50.toInt32).bind fun g178 =>
                      (fX8_nextToken g_text g_length g_first g_behind).bind fun r180 =>
                      some (1, r180.1, r180.2, g178)
                  else
                    if x2 = 6 then
                      (fX8_in x3_50 y111.toInt64 999).bind fun r163 =>
                      if r163 = 0 then
                        some (0, g_first, g_behind, g_numbers)
                      else
                        (sv 3 g_numbers x1 x3_50.toInt32).bind fun g178 =>
                        (fX8_nextToken g_text g_length g_first g_behind).bind fun r180 =>
                        some (1, r180.1, r180.2, g178)
                    else
                      (fX8_in x3_50 y111.toInt64 2000000000).bind fun r163 =>
                      if r163 = 0 then
                        some (0, g_first, g_behind, g_numbers)
                      else
                        (sv 3 g_numbers x1 x3_50.toInt32).bind fun g178 =>
                        (fX8_nextToken g_text g_length g_first g_behind).bind fun r180 =>
                        some (1, r180.1, r180.2, g178)
              else
                if x2 = 1 then
                  (fX8_in x3_50 0 9).bind fun r163 =>
                  if r163 = 0 then
                    some (0, g_first, g_behind, g_numbers)
                  else
                    (sv 3 g_numbers x1 x3_50.toInt32).bind fun g178 =>
                    (fX8_nextToken g_text g_length g_first g_behind).bind fun r180 =>
                    some (1, r180.1, r180.2, g178)
                else
                  if x2 = 2 then
                    (fX8_in x3_50 0 7).bind fun r163 =>
                    if r163 = 0 then
                      some (0, g_first, g_behind, g_numbers)
                    else
                      (sv 3 g_numbers x1 x3_50.toInt32).bind fun g178 =>
                      (fX8_nextToken g_text g_length g_first g_behind).bind fun r180 =>
                      some (1, r180.1, r180.2, g178)
                  else
                    if x2 = 6 then
                      (fX8_in x3_50 0 999).bind fun r163 =>
                      if r163 = 0 then
                        some (0, g_first, g_behind, g_numbers)
                      else
                        (sv 3 g_numbers x1 x3_50.toInt32).bind fun g178 =>
                        (fX8_nextToken g_text g_length g_first g_behind).bind fun r180 =>
                        some (1, r180.1, r180.2, g178)
                    else
                      (fX8_in x3_50 0 2000000000).bind fun r163 =>
                      if r163 = 0 then
                        some (0, g_first, g_behind, g_numbers)
                      else
                        (sv 3 g_numbers x1 x3_50.toInt32).bind fun g178 =>
                        (fX8_nextToken g_text g_length g_first g_behind).bind fun r180 =>
                        some (1, r180.1, r180.2, g178)) 0 g_first
      else
        some (0, g_first, g_behind, g_numbers)
set_option maxRecDepth 100000 in
set_option maxHeartbeats 4000000 in
theorem tX8_number {l : Launch} {D : va_G} {cI : ClassId} {cS : GS} {a : Nat → Nat} {g_undos : Int32} {g_listed : Int32} {g_papers : Int32} {g_text : Nat → Int32} {g_length : Int32} {g_besides : Int32} {g_gapFirst : Int32} {g_gapLast : Int32} {g_layings : Int32} {g_first : Int32} {g_behind : Int32} {g_numbers : Nat → Int32} {g_clauses : Int32} {g_drafts : Int32} {x1 : Int32} {x2 : Int32} {s0 : Int32} {s1 : Int32} {s2 : Int32} {s3 : (Nat → Int32)} (h : fX8_number g_text g_length g_first g_behind g_numbers x1 x2 = some (s0, s1, s2, s3)) : CT l D cI cS yX8_number cX8_number 9 (some .boolean) rmX8_number [.ref (a 0), .int x1, .int x2] [oX8 a g_undos g_listed g_papers g_length g_besides g_gapFirst g_gapLast g_layings g_first g_behind g_clauses g_drafts, ar cI (a 7) 200 g_text, ar cI (a 18) 3 g_numbers] (some (.int s0)) [oX8 a g_undos g_listed g_papers g_length g_besides g_gapFirst g_gapLast g_layings s1 s2 g_clauses g_drafts, ar cI (a 7) 200 g_text, ar cI (a 18) 3 s3] := by
  refine CT.of RX8 (by decide) rfl (Nat.le_of_ble_eq_true rfl) (fun p e s m below meth c ls A C hA hl hw => ?_)
  have hx := C.1.1
  have hb := C.1.2.1
  have hl : lv_has ls 9 [(0, .ref (a 0)), (1, .int x1), (2, .int x2)] := hl
  unfold fX8_number at h
  refine lv_aload_n hx hb dX8_number_0 rfl (lv_at hl 0 rfl) ?_
  refine k_get C inT_X8 hw 0 rfl rfl 15 (by decide) mF_X8_141 rfl dX8_number_1 ?_
  refine lv_aload_n hx hb dX8_number_4 rfl (lv_at hl 0 rfl) ?_
  refine k_get C inT_X8 hw 0 rfl rfl 7 (by decide) mF_X8_127 rfl dX8_number_5 ?_
  refine lv_icmp_eq (tgt := 40) hx hb dX8_number_8 (by decide) (fun c8 => ?_) (fun c8 => ?_)
  · replace h := br_t' h c8
    refine lv_iconst (v := 0) hx hb dX8_number_40 (by decide) ?_
    cases h
    exact k_zret (v := 0) C rfl hw dX8_number_41
  · replace h := br_f' h c8
    refine lv_aload_n hx hb dX8_number_11 rfl (lv_at hl 0 rfl) ?_
    refine k_get C inT_X8 hw 0 rfl rfl 6 (by decide) mF_X8_19 rfl dX8_number_12 ?_
    refine lv_aload_n hx hb dX8_number_15 rfl (lv_at hl 0 rfl) ?_
    refine k_get C inT_X8 hw 0 rfl rfl 15 (by decide) mF_X8_141 rfl dX8_number_16 ?_
    obtain ⟨y19, q19, h⟩ := bd h
    refine k_iald C hw 1 rfl q19 dX8_number_19 ?_
    obtain ⟨r20, q20, h⟩ := bd h
    refine k_callS (nC := 3) [oX8 a g_undos g_listed g_papers g_length g_besides g_gapFirst g_gapLast g_layings g_first g_behind g_clauses g_drafts, ar cI (a 7) 200 g_text, ar cI (a 18) 3 g_numbers] C hl.1 (tX8_isDigit q20) mL_X8_148 mmX8_isDigit rfl rfl ⟨Nat.le_of_ble_eq_true rfl, Nat.le_of_ble_eq_true rfl⟩ rfl rfl (Nat.le_of_ble_eq_true rfl) hA hw [] [0, 1, 2] rfl (by decide +kernel) rfl rfl rfl rfl dX8_number_20 (fun H locs hw20 => ?_)
    refine lv_if_eq (tgt := 40) hx hb dX8_number_23 (by decide) (fun c23 => ?_) (fun c23 => ?_)
    · replace h := br_t' h c23
      refine lv_iconst (v := 0) hx hb dX8_number_40 (by decide) ?_
      cases h
      exact k_zret (v := 0) C rfl hw20 dX8_number_41
    · replace h := br_f' h c23
      refine lv_aload_n hx hb dX8_number_26 rfl (lv_at hl 0 rfl) ?_
      refine k_get C inT_X8 hw20 0 rfl rfl 16 (by decide) mF_X8_138 rfl dX8_number_27 ?_
      refine lv_aload_n hx hb dX8_number_30 rfl (lv_at hl 0 rfl) ?_
      refine k_get C inT_X8 hw20 0 rfl rfl 15 (by decide) mF_X8_141 rfl dX8_number_31 ?_
      refine lv_isub hx hb dX8_number_34 ?_
      refine lv_bipush (v := 10) hx hb dX8_number_35 (by decide) ?_
      refine lv_icmp_le (tgt := 42) hx hb dX8_number_37 (by decide) (fun c37 => ?_) (fun c37 => ?_)
      · replace h := br_t' h c37
        refine lv_lconst (v := 0) hx hb dX8_number_42 (by decide) ?_
        refine lv_lstore_n (lv' := [(3, .long 0), (0, .ref (a 0)), (1, .int x1), (2, .int x2)]) hx hb dX8_number_43 rfl hl (by decide) rfl (fun ls hl => ?_)
        refine lv_aload_n hx hb dX8_number_44 rfl (lv_at hl 1 rfl) ?_
        refine k_get C inT_X8 hw20 0 rfl rfl 15 (by decide) mF_X8_141 rfl dX8_number_45 ?_
        refine lv_istore (lv' := [(5, .int g_first), (3, .long 0), (0, .ref (a 0)), (1, .int x1), (2, .int x2)]) hx hb dX8_number_48 hl (by decide) rfl (fun ls hl => ?_)
        refine wX8_number_50 C hA _ (fun x3_50 x5_50 H locs ls hw50x hl h => ?_) FU _ _ _ _ _ hw20 (lv_sub hl [2, 3, 4, 1, 0] rfl) h
        refine lv_iload_n hx hb dX8_number_84 rfl (lv_at hl 2 rfl) ?_
        refine lv_iconst (v := 3) hx hb dX8_number_85 (by decide) ?_
        refine lv_icmp_eq (tgt := 95) hx hb dX8_number_86 (by decide) (fun c86 => ?_) (fun c86 => ?_)
        · replace h := br_t' h c86
          refine lv_lconst (v := 1) hx hb dX8_number_95 (by decide) ?_
          refine lv_goto (tgt := 117) hx hb dX8_number_96 (by decide) ?_
          refine lv_lstore (lv' := [(5, .long 1), (0, .ref (a 0)), (1, .int x1), (2, .int x2), (3, .long x3_50)]) hx hb dX8_number_117 hl (by decide) rfl (fun ls hl => ?_)
          refine lv_iload_n hx hb dX8_number_119 rfl (lv_at hl 3 rfl) ?_
          refine lv_iconst (v := 1) hx hb dX8_number_120 (by decide) ?_
          refine lv_icmp_ne (tgt := 130) hx hb dX8_number_121 (by decide) (fun c121 => ?_) (fun c121 => ?_)
          · replace h := br_f' h c121
            refine lv_iload_n hx hb dX8_number_130 rfl (lv_at hl 3 rfl) ?_
            refine lv_iconst (v := 2) hx hb dX8_number_131 (by decide) ?_
            refine lv_icmp_ne (tgt := 141) hx hb dX8_number_132 (by decide) (fun c132 => ?_) (fun c132 => ?_)
            · replace h := br_f' h c132
              refine lv_iload_n hx hb dX8_number_141 rfl (lv_at hl 3 rfl) ?_
              refine lv_bipush (v := 6) hx hb dX8_number_142 (by decide) ?_
              refine lv_icmp_ne (tgt := 153) hx hb dX8_number_144 (by decide) (fun c144 => ?_) (fun c144 => ?_)
              · replace h := br_f' h c144
                refine k_ldc2 C mD_X8_56 dX8_number_153 ?_
                refine lv_lstore (lv' := [(7, .long 2000000000), (5, .long 1), (0, .ref (a 0)), (1, .int x1), (2, .int x2), (3, .long x3_50)]) hx hb dX8_number_156 hl (by decide) rfl (fun ls hl => ?_)
                refine lv_lload_n hx hb dX8_number_158 rfl (lv_at hl 5 rfl) ?_
                refine lv_lload hx hb dX8_number_159 (lv_at hl 1 rfl) ?_
                refine lv_lload hx hb dX8_number_161 (lv_at hl 0 rfl) ?_
                obtain ⟨r163, q163, h⟩ := bd h
                refine k_callS (nC := 3) [oX8 a g_undos g_listed g_papers g_length g_besides g_gapFirst g_gapLast g_layings g_first g_behind g_clauses g_drafts, ar cI (a 7) 200 g_text, ar cI (a 18) 3 g_numbers] C hl.1 (tX8_in q163) mL_X8_58 mmX8_in rfl rfl ⟨Nat.le_of_ble_eq_true rfl, Nat.le_of_ble_eq_true rfl⟩ rfl rfl (Nat.le_of_ble_eq_true rfl) hA hw50x [] [0, 1, 2] rfl (by decide +kernel) rfl rfl rfl rfl dX8_number_163 (fun H locs hw163 => ?_)
                refine lv_if_ne (tgt := 171) hx hb dX8_number_166 (by decide) (fun c166 => ?_) (fun c166 => ?_)
                · replace h := br_f' h c166
                  refine lv_aload_n hx hb dX8_number_171 rfl (lv_at hl 2 rfl) ?_
                  refine k_get C inT_X8 hw163 0 rfl rfl 17 (by decide) mF_X8_31 rfl dX8_number_172 ?_
                  refine lv_iload_n hx hb dX8_number_175 rfl (lv_at hl 3 rfl) ?_
                  refine lv_lload_n hx hb dX8_number_176 rfl (lv_at hl 5 rfl) ?_
                  refine lv_l2i (v := x3_50.toInt32) hx hb dX8_number_177 rfl ?_
                  obtain ⟨g178, q178, h⟩ := bd h
                  refine k_iast C hw163 2 rfl q178 [oX8 a g_undos g_listed g_papers g_length g_besides g_gapFirst g_gapLast g_layings g_first g_behind g_clauses g_drafts, ar cI (a 7) 200 g_text, ar cI (a 18) 3 g178] rfl dX8_number_178 (fun H locs hw178 => ?_)
                  refine lv_aload_n hx hb dX8_number_179 rfl (lv_at hl 2 rfl) ?_
                  obtain ⟨r180, q180, h⟩ := bd h
                  refine k_callV (nC := 3) [oX8 a g_undos g_listed g_papers g_length g_besides g_gapFirst g_gapLast g_layings r180.1 r180.2 g_clauses g_drafts, ar cI (a 7) 200 g_text, ar cI (a 18) 3 g178] C hl.1 (tX8_nextToken (a := a) q180) mL_X8_157 mmX8_nextToken rfl rfl ⟨Nat.le_of_ble_eq_true rfl, Nat.le_of_ble_eq_true rfl⟩ rfl rfl rfl rfl (Nat.le_of_ble_eq_true rfl) hA hw178 [0, 1] [2] rfl (by decide +kernel) rfl rfl rfl rfl dX8_number_180 (fun H locs hw180 => ?_)
                  refine lv_iconst (v := 1) hx hb dX8_number_183 (by decide) ?_
                  cases h
                  exact k_zret (v := 1) C rfl hw180 dX8_number_184
                · replace h := br_t' h c166
                  refine lv_iconst (v := 0) hx hb dX8_number_169 (by decide) ?_
                  cases h
                  exact k_zret (v := 0) C rfl hw163 dX8_number_170
              · replace h := br_t' h c144
                refine k_ldc2 C mD_X8_155 dX8_number_147 ?_
                refine lv_goto (tgt := 156) hx hb dX8_number_150 (by decide) ?_
                refine lv_lstore (lv' := [(7, .long 999), (5, .long 1), (0, .ref (a 0)), (1, .int x1), (2, .int x2), (3, .long x3_50)]) hx hb dX8_number_156 hl (by decide) rfl (fun ls hl => ?_)
                refine lv_lload_n hx hb dX8_number_158 rfl (lv_at hl 5 rfl) ?_
                refine lv_lload hx hb dX8_number_159 (lv_at hl 1 rfl) ?_
                refine lv_lload hx hb dX8_number_161 (lv_at hl 0 rfl) ?_
                obtain ⟨r163, q163, h⟩ := bd h
                refine k_callS (nC := 3) [oX8 a g_undos g_listed g_papers g_length g_besides g_gapFirst g_gapLast g_layings g_first g_behind g_clauses g_drafts, ar cI (a 7) 200 g_text, ar cI (a 18) 3 g_numbers] C hl.1 (tX8_in q163) mL_X8_58 mmX8_in rfl rfl ⟨Nat.le_of_ble_eq_true rfl, Nat.le_of_ble_eq_true rfl⟩ rfl rfl (Nat.le_of_ble_eq_true rfl) hA hw50x [] [0, 1, 2] rfl (by decide +kernel) rfl rfl rfl rfl dX8_number_163 (fun H locs hw163 => ?_)
                refine lv_if_ne (tgt := 171) hx hb dX8_number_166 (by decide) (fun c166 => ?_) (fun c166 => ?_)
                · replace h := br_f' h c166
                  refine lv_aload_n hx hb dX8_number_171 rfl (lv_at hl 2 rfl) ?_
                  refine k_get C inT_X8 hw163 0 rfl rfl 17 (by decide) mF_X8_31 rfl dX8_number_172 ?_
                  refine lv_iload_n hx hb dX8_number_175 rfl (lv_at hl 3 rfl) ?_
                  refine lv_lload_n hx hb dX8_number_176 rfl (lv_at hl 5 rfl) ?_
                  refine lv_l2i (v := x3_50.toInt32) hx hb dX8_number_177 rfl ?_
                  obtain ⟨g178, q178, h⟩ := bd h
                  refine k_iast C hw163 2 rfl q178 [oX8 a g_undos g_listed g_papers g_length g_besides g_gapFirst g_gapLast g_layings g_first g_behind g_clauses g_drafts, ar cI (a 7) 200 g_text, ar cI (a 18) 3 g178] rfl dX8_number_178 (fun H locs hw178 => ?_)
                  refine lv_aload_n hx hb dX8_number_179 rfl (lv_at hl 2 rfl) ?_
                  obtain ⟨r180, q180, h⟩ := bd h
                  refine k_callV (nC := 3) [oX8 a g_undos g_listed g_papers g_length g_besides g_gapFirst g_gapLast g_layings r180.1 r180.2 g_clauses g_drafts, ar cI (a 7) 200 g_text, ar cI (a 18) 3 g178] C hl.1 (tX8_nextToken (a := a) q180) mL_X8_157 mmX8_nextToken rfl rfl ⟨Nat.le_of_ble_eq_true rfl, Nat.le_of_ble_eq_true rfl⟩ rfl rfl rfl rfl (Nat.le_of_ble_eq_true rfl) hA hw178 [0, 1] [2] rfl (by decide +kernel) rfl rfl rfl rfl dX8_number_180 (fun H locs hw180 => ?_)
                  refine lv_iconst (v := 1) hx hb dX8_number_183 (by decide) ?_
                  cases h
                  exact k_zret (v := 1) C rfl hw180 dX8_number_184
                · replace h := br_t' h c166
                  refine lv_iconst (v := 0) hx hb dX8_number_169 (by decide) ?_
                  cases h
                  exact k_zret (v := 0) C rfl hw163 dX8_number_170
            · replace h := br_t' h c132
              refine k_ldc2 C mD_X8_62 dX8_number_135 ?_
              refine lv_goto (tgt := 156) hx hb dX8_number_138 (by decide) ?_
              refine lv_lstore (lv' := [(7, .long 7), (5, .long 1), (0, .ref (a 0)), (1, .int x1), (2, .int x2), (3, .long x3_50)]) hx hb dX8_number_156 hl (by decide) rfl (fun ls hl => ?_)
              refine lv_lload_n hx hb dX8_number_158 rfl (lv_at hl 5 rfl) ?_
              refine lv_lload hx hb dX8_number_159 (lv_at hl 1 rfl) ?_
              refine lv_lload hx hb dX8_number_161 (lv_at hl 0 rfl) ?_
              obtain ⟨r163, q163, h⟩ := bd h
              refine k_callS (nC := 3) [oX8 a g_undos g_listed g_papers g_length g_besides g_gapFirst g_gapLast g_layings g_first g_behind g_clauses g_drafts, ar cI (a 7) 200 g_text, ar cI (a 18) 3 g_numbers] C hl.1 (tX8_in q163) mL_X8_58 mmX8_in rfl rfl ⟨Nat.le_of_ble_eq_true rfl, Nat.le_of_ble_eq_true rfl⟩ rfl rfl (Nat.le_of_ble_eq_true rfl) hA hw50x [] [0, 1, 2] rfl (by decide +kernel) rfl rfl rfl rfl dX8_number_163 (fun H locs hw163 => ?_)
              refine lv_if_ne (tgt := 171) hx hb dX8_number_166 (by decide) (fun c166 => ?_) (fun c166 => ?_)
              · replace h := br_f' h c166
                refine lv_aload_n hx hb dX8_number_171 rfl (lv_at hl 2 rfl) ?_
                refine k_get C inT_X8 hw163 0 rfl rfl 17 (by decide) mF_X8_31 rfl dX8_number_172 ?_
                refine lv_iload_n hx hb dX8_number_175 rfl (lv_at hl 3 rfl) ?_
                refine lv_lload_n hx hb dX8_number_176 rfl (lv_at hl 5 rfl) ?_
                refine lv_l2i (v := x3_50.toInt32) hx hb dX8_number_177 rfl ?_
                obtain ⟨g178, q178, h⟩ := bd h
                refine k_iast C hw163 2 rfl q178 [oX8 a g_undos g_listed g_papers g_length g_besides g_gapFirst g_gapLast g_layings g_first g_behind g_clauses g_drafts, ar cI (a 7) 200 g_text, ar cI (a 18) 3 g178] rfl dX8_number_178 (fun H locs hw178 => ?_)
                refine lv_aload_n hx hb dX8_number_179 rfl (lv_at hl 2 rfl) ?_
                obtain ⟨r180, q180, h⟩ := bd h
                refine k_callV (nC := 3) [oX8 a g_undos g_listed g_papers g_length g_besides g_gapFirst g_gapLast g_layings r180.1 r180.2 g_clauses g_drafts, ar cI (a 7) 200 g_text, ar cI (a 18) 3 g178] C hl.1 (tX8_nextToken (a := a) q180) mL_X8_157 mmX8_nextToken rfl rfl ⟨Nat.le_of_ble_eq_true rfl, Nat.le_of_ble_eq_true rfl⟩ rfl rfl rfl rfl (Nat.le_of_ble_eq_true rfl) hA hw178 [0, 1] [2] rfl (by decide +kernel) rfl rfl rfl rfl dX8_number_180 (fun H locs hw180 => ?_)
                refine lv_iconst (v := 1) hx hb dX8_number_183 (by decide) ?_
                cases h
                exact k_zret (v := 1) C rfl hw180 dX8_number_184
              · replace h := br_t' h c166
                refine lv_iconst (v := 0) hx hb dX8_number_169 (by decide) ?_
                cases h
                exact k_zret (v := 0) C rfl hw163 dX8_number_170
          · replace h := br_t' h c121
            refine k_ldc2 C mD_X8_153 dX8_number_124 ?_
            refine lv_goto (tgt := 156) hx hb dX8_number_127 (by decide) ?_
            refine lv_lstore (lv' := [(7, .long 9), (5, .long 1), (0, .ref (a 0)), (1, .int x1), (2, .int x2), (3, .long x3_50)]) hx hb dX8_number_156 hl (by decide) rfl (fun ls hl => ?_)
            refine lv_lload_n hx hb dX8_number_158 rfl (lv_at hl 5 rfl) ?_
            refine lv_lload hx hb dX8_number_159 (lv_at hl 1 rfl) ?_
            refine lv_lload hx hb dX8_number_161 (lv_at hl 0 rfl) ?_
            obtain ⟨r163, q163, h⟩ := bd h
            refine k_callS (nC := 3) [oX8 a g_undos g_listed g_papers g_length g_besides g_gapFirst g_gapLast g_layings g_first g_behind g_clauses g_drafts, ar cI (a 7) 200 g_text, ar cI (a 18) 3 g_numbers] C hl.1 (tX8_in q163) mL_X8_58 mmX8_in rfl rfl ⟨Nat.le_of_ble_eq_true rfl, Nat.le_of_ble_eq_true rfl⟩ rfl rfl (Nat.le_of_ble_eq_true rfl) hA hw50x [] [0, 1, 2] rfl (by decide +kernel) rfl rfl rfl rfl dX8_number_163 (fun H locs hw163 => ?_)
            refine lv_if_ne (tgt := 171) hx hb dX8_number_166 (by decide) (fun c166 => ?_) (fun c166 => ?_)
            · replace h := br_f' h c166
              refine lv_aload_n hx hb dX8_number_171 rfl (lv_at hl 2 rfl) ?_
              refine k_get C inT_X8 hw163 0 rfl rfl 17 (by decide) mF_X8_31 rfl dX8_number_172 ?_
              refine lv_iload_n hx hb dX8_number_175 rfl (lv_at hl 3 rfl) ?_
              refine lv_lload_n hx hb dX8_number_176 rfl (lv_at hl 5 rfl) ?_
              refine lv_l2i (v := x3_50.toInt32) hx hb dX8_number_177 rfl ?_
              obtain ⟨g178, q178, h⟩ := bd h
              refine k_iast C hw163 2 rfl q178 [oX8 a g_undos g_listed g_papers g_length g_besides g_gapFirst g_gapLast g_layings g_first g_behind g_clauses g_drafts, ar cI (a 7) 200 g_text, ar cI (a 18) 3 g178] rfl dX8_number_178 (fun H locs hw178 => ?_)
              refine lv_aload_n hx hb dX8_number_179 rfl (lv_at hl 2 rfl) ?_
              obtain ⟨r180, q180, h⟩ := bd h
              refine k_callV (nC := 3) [oX8 a g_undos g_listed g_papers g_length g_besides g_gapFirst g_gapLast g_layings r180.1 r180.2 g_clauses g_drafts, ar cI (a 7) 200 g_text, ar cI (a 18) 3 g178] C hl.1 (tX8_nextToken (a := a) q180) mL_X8_157 mmX8_nextToken rfl rfl ⟨Nat.le_of_ble_eq_true rfl, Nat.le_of_ble_eq_true rfl⟩ rfl rfl rfl rfl (Nat.le_of_ble_eq_true rfl) hA hw178 [0, 1] [2] rfl (by decide +kernel) rfl rfl rfl rfl dX8_number_180 (fun H locs hw180 => ?_)
              refine lv_iconst (v := 1) hx hb dX8_number_183 (by decide) ?_
              cases h
              exact k_zret (v := 1) C rfl hw180 dX8_number_184
            · replace h := br_t' h c166
              refine lv_iconst (v := 0) hx hb dX8_number_169 (by decide) ?_
              cases h
              exact k_zret (v := 0) C rfl hw163 dX8_number_170
        · replace h := br_f' h c86
          refine lv_iload_n hx hb dX8_number_89 rfl (lv_at hl 2 rfl) ?_
          refine lv_bipush (v := 6) hx hb dX8_number_90 (by decide) ?_
          refine lv_icmp_ne (tgt := 99) hx hb dX8_number_92 (by decide) (fun c92 => ?_) (fun c92 => ?_)
          · replace h := br_f' h c92
            refine lv_iload_n hx hb dX8_number_99 rfl (lv_at hl 2 rfl) ?_
            refine lv_iconst (v := 4) hx hb dX8_number_100 (by decide) ?_
            refine lv_icmp_ne (tgt := 116) hx hb dX8_number_101 (by decide) (fun c101 => ?_) (fun c101 => ?_)
            · replace h := br_f' h c101
              refine lv_lconst (v := 0) hx hb dX8_number_116 (by decide) ?_
              refine lv_lstore (lv' := [(5, .long 0), (0, .ref (a 0)), (1, .int x1), (2, .int x2), (3, .long x3_50)]) hx hb dX8_number_117 hl (by decide) rfl (fun ls hl => ?_)
              refine lv_iload_n hx hb dX8_number_119 rfl (lv_at hl 3 rfl) ?_
              refine lv_iconst (v := 1) hx hb dX8_number_120 (by decide) ?_
              refine lv_icmp_ne (tgt := 130) hx hb dX8_number_121 (by decide) (fun c121 => ?_) (fun c121 => ?_)
              · replace h := br_f' h c121
                refine lv_iload_n hx hb dX8_number_130 rfl (lv_at hl 3 rfl) ?_
                refine lv_iconst (v := 2) hx hb dX8_number_131 (by decide) ?_
                refine lv_icmp_ne (tgt := 141) hx hb dX8_number_132 (by decide) (fun c132 => ?_) (fun c132 => ?_)
                · replace h := br_f' h c132
                  refine lv_iload_n hx hb dX8_number_141 rfl (lv_at hl 3 rfl) ?_
                  refine lv_bipush (v := 6) hx hb dX8_number_142 (by decide) ?_
                  refine lv_icmp_ne (tgt := 153) hx hb dX8_number_144 (by decide) (fun c144 => ?_) (fun c144 => ?_)
                  · replace h := br_f' h c144
                    refine k_ldc2 C mD_X8_56 dX8_number_153 ?_
                    refine lv_lstore (lv' := [(7, .long 2000000000), (5, .long 0), (0, .ref (a 0)), (1, .int x1), (2, .int x2), (3, .long x3_50)]) hx hb dX8_number_156 hl (by decide) rfl (fun ls hl => ?_)
                    refine lv_lload_n hx hb dX8_number_158 rfl (lv_at hl 5 rfl) ?_
                    refine lv_lload hx hb dX8_number_159 (lv_at hl 1 rfl) ?_
                    refine lv_lload hx hb dX8_number_161 (lv_at hl 0 rfl) ?_
                    obtain ⟨r163, q163, h⟩ := bd h
                    refine k_callS (nC := 3) [oX8 a g_undos g_listed g_papers g_length g_besides g_gapFirst g_gapLast g_layings g_first g_behind g_clauses g_drafts, ar cI (a 7) 200 g_text, ar cI (a 18) 3 g_numbers] C hl.1 (tX8_in q163) mL_X8_58 mmX8_in rfl rfl ⟨Nat.le_of_ble_eq_true rfl, Nat.le_of_ble_eq_true rfl⟩ rfl rfl (Nat.le_of_ble_eq_true rfl) hA hw50x [] [0, 1, 2] rfl (by decide +kernel) rfl rfl rfl rfl dX8_number_163 (fun H locs hw163 => ?_)
                    refine lv_if_ne (tgt := 171) hx hb dX8_number_166 (by decide) (fun c166 => ?_) (fun c166 => ?_)
                    · replace h := br_f' h c166
                      refine lv_aload_n hx hb dX8_number_171 rfl (lv_at hl 2 rfl) ?_
                      refine k_get C inT_X8 hw163 0 rfl rfl 17 (by decide) mF_X8_31 rfl dX8_number_172 ?_
                      refine lv_iload_n hx hb dX8_number_175 rfl (lv_at hl 3 rfl) ?_
                      refine lv_lload_n hx hb dX8_number_176 rfl (lv_at hl 5 rfl) ?_
                      refine lv_l2i (v := x3_50.toInt32) hx hb dX8_number_177 rfl ?_
                      obtain ⟨g178, q178, h⟩ := bd h
                      refine k_iast C hw163 2 rfl q178 [oX8 a g_undos g_listed g_papers g_length g_besides g_gapFirst g_gapLast g_layings g_first g_behind g_clauses g_drafts, ar cI (a 7) 200 g_text, ar cI (a 18) 3 g178] rfl dX8_number_178 (fun H locs hw178 => ?_)
                      refine lv_aload_n hx hb dX8_number_179 rfl (lv_at hl 2 rfl) ?_
                      obtain ⟨r180, q180, h⟩ := bd h
                      refine k_callV (nC := 3) [oX8 a g_undos g_listed g_papers g_length g_besides g_gapFirst g_gapLast g_layings r180.1 r180.2 g_clauses g_drafts, ar cI (a 7) 200 g_text, ar cI (a 18) 3 g178] C hl.1 (tX8_nextToken (a := a) q180) mL_X8_157 mmX8_nextToken rfl rfl ⟨Nat.le_of_ble_eq_true rfl, Nat.le_of_ble_eq_true rfl⟩ rfl rfl rfl rfl (Nat.le_of_ble_eq_true rfl) hA hw178 [0, 1] [2] rfl (by decide +kernel) rfl rfl rfl rfl dX8_number_180 (fun H locs hw180 => ?_)
                      refine lv_iconst (v := 1) hx hb dX8_number_183 (by decide) ?_
                      cases h
                      exact k_zret (v := 1) C rfl hw180 dX8_number_184
                    · replace h := br_t' h c166
                      refine lv_iconst (v := 0) hx hb dX8_number_169 (by decide) ?_
                      cases h
                      exact k_zret (v := 0) C rfl hw163 dX8_number_170
                  · replace h := br_t' h c144
                    refine k_ldc2 C mD_X8_155 dX8_number_147 ?_
                    refine lv_goto (tgt := 156) hx hb dX8_number_150 (by decide) ?_
                    refine lv_lstore (lv' := [(7, .long 999), (5, .long 0), (0, .ref (a 0)), (1, .int x1), (2, .int x2), (3, .long x3_50)]) hx hb dX8_number_156 hl (by decide) rfl (fun ls hl => ?_)
                    refine lv_lload_n hx hb dX8_number_158 rfl (lv_at hl 5 rfl) ?_
                    refine lv_lload hx hb dX8_number_159 (lv_at hl 1 rfl) ?_
                    refine lv_lload hx hb dX8_number_161 (lv_at hl 0 rfl) ?_
                    obtain ⟨r163, q163, h⟩ := bd h
                    refine k_callS (nC := 3) [oX8 a g_undos g_listed g_papers g_length g_besides g_gapFirst g_gapLast g_layings g_first g_behind g_clauses g_drafts, ar cI (a 7) 200 g_text, ar cI (a 18) 3 g_numbers] C hl.1 (tX8_in q163) mL_X8_58 mmX8_in rfl rfl ⟨Nat.le_of_ble_eq_true rfl, Nat.le_of_ble_eq_true rfl⟩ rfl rfl (Nat.le_of_ble_eq_true rfl) hA hw50x [] [0, 1, 2] rfl (by decide +kernel) rfl rfl rfl rfl dX8_number_163 (fun H locs hw163 => ?_)
                    refine lv_if_ne (tgt := 171) hx hb dX8_number_166 (by decide) (fun c166 => ?_) (fun c166 => ?_)
                    · replace h := br_f' h c166
                      refine lv_aload_n hx hb dX8_number_171 rfl (lv_at hl 2 rfl) ?_
                      refine k_get C inT_X8 hw163 0 rfl rfl 17 (by decide) mF_X8_31 rfl dX8_number_172 ?_
                      refine lv_iload_n hx hb dX8_number_175 rfl (lv_at hl 3 rfl) ?_
                      refine lv_lload_n hx hb dX8_number_176 rfl (lv_at hl 5 rfl) ?_
                      refine lv_l2i (v := x3_50.toInt32) hx hb dX8_number_177 rfl ?_
                      obtain ⟨g178, q178, h⟩ := bd h
                      refine k_iast C hw163 2 rfl q178 [oX8 a g_undos g_listed g_papers g_length g_besides g_gapFirst g_gapLast g_layings g_first g_behind g_clauses g_drafts, ar cI (a 7) 200 g_text, ar cI (a 18) 3 g178] rfl dX8_number_178 (fun H locs hw178 => ?_)
                      refine lv_aload_n hx hb dX8_number_179 rfl (lv_at hl 2 rfl) ?_
                      obtain ⟨r180, q180, h⟩ := bd h
                      refine k_callV (nC := 3) [oX8 a g_undos g_listed g_papers g_length g_besides g_gapFirst g_gapLast g_layings r180.1 r180.2 g_clauses g_drafts, ar cI (a 7) 200 g_text, ar cI (a 18) 3 g178] C hl.1 (tX8_nextToken (a := a) q180) mL_X8_157 mmX8_nextToken rfl rfl ⟨Nat.le_of_ble_eq_true rfl, Nat.le_of_ble_eq_true rfl⟩ rfl rfl rfl rfl (Nat.le_of_ble_eq_true rfl) hA hw178 [0, 1] [2] rfl (by decide +kernel) rfl rfl rfl rfl dX8_number_180 (fun H locs hw180 => ?_)
                      refine lv_iconst (v := 1) hx hb dX8_number_183 (by decide) ?_
                      cases h
                      exact k_zret (v := 1) C rfl hw180 dX8_number_184
                    · replace h := br_t' h c166
                      refine lv_iconst (v := 0) hx hb dX8_number_169 (by decide) ?_
                      cases h
                      exact k_zret (v := 0) C rfl hw163 dX8_number_170
                · replace h := br_t' h c132
                  refine k_ldc2 C mD_X8_62 dX8_number_135 ?_
                  refine lv_goto (tgt := 156) hx hb dX8_number_138 (by decide) ?_
                  refine lv_lstore (lv' := [(7, .long 7), (5, .long 0), (0, .ref (a 0)), (1, .int x1), (2, .int x2), (3, .long x3_50)]) hx hb dX8_number_156 hl (by decide) rfl (fun ls hl => ?_)
                  refine lv_lload_n hx hb dX8_number_158 rfl (lv_at hl 5 rfl) ?_
                  refine lv_lload hx hb dX8_number_159 (lv_at hl 1 rfl) ?_
                  refine lv_lload hx hb dX8_number_161 (lv_at hl 0 rfl) ?_
                  obtain ⟨r163, q163, h⟩ := bd h
                  refine k_callS (nC := 3) [oX8 a g_undos g_listed g_papers g_length g_besides g_gapFirst g_gapLast g_layings g_first g_behind g_clauses g_drafts, ar cI (a 7) 200 g_text, ar cI (a 18) 3 g_numbers] C hl.1 (tX8_in q163) mL_X8_58 mmX8_in rfl rfl ⟨Nat.le_of_ble_eq_true rfl, Nat.le_of_ble_eq_true rfl⟩ rfl rfl (Nat.le_of_ble_eq_true rfl) hA hw50x [] [0, 1, 2] rfl (by decide +kernel) rfl rfl rfl rfl dX8_number_163 (fun H locs hw163 => ?_)
                  refine lv_if_ne (tgt := 171) hx hb dX8_number_166 (by decide) (fun c166 => ?_) (fun c166 => ?_)
                  · replace h := br_f' h c166
                    refine lv_aload_n hx hb dX8_number_171 rfl (lv_at hl 2 rfl) ?_
                    refine k_get C inT_X8 hw163 0 rfl rfl 17 (by decide) mF_X8_31 rfl dX8_number_172 ?_
                    refine lv_iload_n hx hb dX8_number_175 rfl (lv_at hl 3 rfl) ?_
                    refine lv_lload_n hx hb dX8_number_176 rfl (lv_at hl 5 rfl) ?_
                    refine lv_l2i (v := x3_50.toInt32) hx hb dX8_number_177 rfl ?_
                    obtain ⟨g178, q178, h⟩ := bd h
                    refine k_iast C hw163 2 rfl q178 [oX8 a g_undos g_listed g_papers g_length g_besides g_gapFirst g_gapLast g_layings g_first g_behind g_clauses g_drafts, ar cI (a 7) 200 g_text, ar cI (a 18) 3 g178] rfl dX8_number_178 (fun H locs hw178 => ?_)
                    refine lv_aload_n hx hb dX8_number_179 rfl (lv_at hl 2 rfl) ?_
                    obtain ⟨r180, q180, h⟩ := bd h
                    refine k_callV (nC := 3) [oX8 a g_undos g_listed g_papers g_length g_besides g_gapFirst g_gapLast g_layings r180.1 r180.2 g_clauses g_drafts, ar cI (a 7) 200 g_text, ar cI (a 18) 3 g178] C hl.1 (tX8_nextToken (a := a) q180) mL_X8_157 mmX8_nextToken rfl rfl ⟨Nat.le_of_ble_eq_true rfl, Nat.le_of_ble_eq_true rfl⟩ rfl rfl rfl rfl (Nat.le_of_ble_eq_true rfl) hA hw178 [0, 1] [2] rfl (by decide +kernel) rfl rfl rfl rfl dX8_number_180 (fun H locs hw180 => ?_)
                    refine lv_iconst (v := 1) hx hb dX8_number_183 (by decide) ?_
                    cases h
                    exact k_zret (v := 1) C rfl hw180 dX8_number_184
                  · replace h := br_t' h c166
                    refine lv_iconst (v := 0) hx hb dX8_number_169 (by decide) ?_
                    cases h
                    exact k_zret (v := 0) C rfl hw163 dX8_number_170
              · replace h := br_t' h c121
                refine k_ldc2 C mD_X8_153 dX8_number_124 ?_
                refine lv_goto (tgt := 156) hx hb dX8_number_127 (by decide) ?_
                refine lv_lstore (lv' := [(7, .long 9), (5, .long 0), (0, .ref (a 0)), (1, .int x1), (2, .int x2), (3, .long x3_50)]) hx hb dX8_number_156 hl (by decide) rfl (fun ls hl => ?_)
                refine lv_lload_n hx hb dX8_number_158 rfl (lv_at hl 5 rfl) ?_
                refine lv_lload hx hb dX8_number_159 (lv_at hl 1 rfl) ?_
                refine lv_lload hx hb dX8_number_161 (lv_at hl 0 rfl) ?_
                obtain ⟨r163, q163, h⟩ := bd h
                refine k_callS (nC := 3) [oX8 a g_undos g_listed g_papers g_length g_besides g_gapFirst g_gapLast g_layings g_first g_behind g_clauses g_drafts, ar cI (a 7) 200 g_text, ar cI (a 18) 3 g_numbers] C hl.1 (tX8_in q163) mL_X8_58 mmX8_in rfl rfl ⟨Nat.le_of_ble_eq_true rfl, Nat.le_of_ble_eq_true rfl⟩ rfl rfl (Nat.le_of_ble_eq_true rfl) hA hw50x [] [0, 1, 2] rfl (by decide +kernel) rfl rfl rfl rfl dX8_number_163 (fun H locs hw163 => ?_)
                refine lv_if_ne (tgt := 171) hx hb dX8_number_166 (by decide) (fun c166 => ?_) (fun c166 => ?_)
                · replace h := br_f' h c166
                  refine lv_aload_n hx hb dX8_number_171 rfl (lv_at hl 2 rfl) ?_
                  refine k_get C inT_X8 hw163 0 rfl rfl 17 (by decide) mF_X8_31 rfl dX8_number_172 ?_
                  refine lv_iload_n hx hb dX8_number_175 rfl (lv_at hl 3 rfl) ?_
                  refine lv_lload_n hx hb dX8_number_176 rfl (lv_at hl 5 rfl) ?_
                  refine lv_l2i (v := x3_50.toInt32) hx hb dX8_number_177 rfl ?_
                  obtain ⟨g178, q178, h⟩ := bd h
                  refine k_iast C hw163 2 rfl q178 [oX8 a g_undos g_listed g_papers g_length g_besides g_gapFirst g_gapLast g_layings g_first g_behind g_clauses g_drafts, ar cI (a 7) 200 g_text, ar cI (a 18) 3 g178] rfl dX8_number_178 (fun H locs hw178 => ?_)
                  refine lv_aload_n hx hb dX8_number_179 rfl (lv_at hl 2 rfl) ?_
                  obtain ⟨r180, q180, h⟩ := bd h
                  refine k_callV (nC := 3) [oX8 a g_undos g_listed g_papers g_length g_besides g_gapFirst g_gapLast g_layings r180.1 r180.2 g_clauses g_drafts, ar cI (a 7) 200 g_text, ar cI (a 18) 3 g178] C hl.1 (tX8_nextToken (a := a) q180) mL_X8_157 mmX8_nextToken rfl rfl ⟨Nat.le_of_ble_eq_true rfl, Nat.le_of_ble_eq_true rfl⟩ rfl rfl rfl rfl (Nat.le_of_ble_eq_true rfl) hA hw178 [0, 1] [2] rfl (by decide +kernel) rfl rfl rfl rfl dX8_number_180 (fun H locs hw180 => ?_)
                  refine lv_iconst (v := 1) hx hb dX8_number_183 (by decide) ?_
                  cases h
                  exact k_zret (v := 1) C rfl hw180 dX8_number_184
                · replace h := br_t' h c166
                  refine lv_iconst (v := 0) hx hb dX8_number_169 (by decide) ?_
                  cases h
                  exact k_zret (v := 0) C rfl hw163 dX8_number_170
            · replace h := br_t' h c101
              refine lv_aload_n hx hb dX8_number_104 rfl (lv_at hl 0 rfl) ?_
              refine k_get C inT_X8 hw50x 0 rfl rfl 17 (by decide) mF_X8_31 rfl dX8_number_105 ?_
              refine lv_iload_n hx hb dX8_number_108 rfl (lv_at hl 1 rfl) ?_
              refine lv_iconst (v := 1) hx hb dX8_number_109 (by decide) ?_
              refine lv_isub hx hb dX8_number_110 ?_
              obtain ⟨y111, q111, h⟩ := bd h
              refine k_iald C hw50x 2 rfl q111 dX8_number_111 ?_
              refine lv_i2l (v := y111.toInt64) hx hb dX8_number_112 rfl ?_
              refine lv_goto (tgt := 117) hx hb dX8_number_113 (by decide) ?_
              refine lv_lstore (lv' := [(5, .long y111.toInt64), (0, .ref (a 0)), (1, .int x1), (2, .int x2), (3, .long x3_50)]) hx hb dX8_number_117 hl (by decide) rfl (fun ls hl => ?_)
              refine lv_iload_n hx hb dX8_number_119 rfl (lv_at hl 3 rfl) ?_
              refine lv_iconst (v := 1) hx hb dX8_number_120 (by decide) ?_
              refine lv_icmp_ne (tgt := 130) hx hb dX8_number_121 (by decide) (fun c121 => ?_) (fun c121 => ?_)
              · replace h := br_f' h c121
                refine lv_iload_n hx hb dX8_number_130 rfl (lv_at hl 3 rfl) ?_
                refine lv_iconst (v := 2) hx hb dX8_number_131 (by decide) ?_
                refine lv_icmp_ne (tgt := 141) hx hb dX8_number_132 (by decide) (fun c132 => ?_) (fun c132 => ?_)
                · replace h := br_f' h c132
                  refine lv_iload_n hx hb dX8_number_141 rfl (lv_at hl 3 rfl) ?_
                  refine lv_bipush (v := 6) hx hb dX8_number_142 (by decide) ?_
                  refine lv_icmp_ne (tgt := 153) hx hb dX8_number_144 (by decide) (fun c144 => ?_) (fun c144 => ?_)
                  · replace h := br_f' h c144
                    refine k_ldc2 C mD_X8_56 dX8_number_153 ?_
                    refine lv_lstore (lv' := [(7, .long 2000000000), (5, .long y111.toInt64), (0, .ref (a 0)), (1, .int x1), (2, .int x2), (3, .long x3_50)]) hx hb dX8_number_156 hl (by decide) rfl (fun ls hl => ?_)
                    refine lv_lload_n hx hb dX8_number_158 rfl (lv_at hl 5 rfl) ?_
                    refine lv_lload hx hb dX8_number_159 (lv_at hl 1 rfl) ?_
                    refine lv_lload hx hb dX8_number_161 (lv_at hl 0 rfl) ?_
                    obtain ⟨r163, q163, h⟩ := bd h
                    refine k_callS (nC := 3) [oX8 a g_undos g_listed g_papers g_length g_besides g_gapFirst g_gapLast g_layings g_first g_behind g_clauses g_drafts, ar cI (a 7) 200 g_text, ar cI (a 18) 3 g_numbers] C hl.1 (tX8_in q163) mL_X8_58 mmX8_in rfl rfl ⟨Nat.le_of_ble_eq_true rfl, Nat.le_of_ble_eq_true rfl⟩ rfl rfl (Nat.le_of_ble_eq_true rfl) hA hw50x [] [0, 1, 2] rfl (by decide +kernel) rfl rfl rfl rfl dX8_number_163 (fun H locs hw163 => ?_)
                    refine lv_if_ne (tgt := 171) hx hb dX8_number_166 (by decide) (fun c166 => ?_) (fun c166 => ?_)
                    · replace h := br_f' h c166
                      refine lv_aload_n hx hb dX8_number_171 rfl (lv_at hl 2 rfl) ?_
                      refine k_get C inT_X8 hw163 0 rfl rfl 17 (by decide) mF_X8_31 rfl dX8_number_172 ?_
                      refine lv_iload_n hx hb dX8_number_175 rfl (lv_at hl 3 rfl) ?_
                      refine lv_lload_n hx hb dX8_number_176 rfl (lv_at hl 5 rfl) ?_
                      refine lv_l2i (v := x3_50.toInt32) hx hb dX8_number_177 rfl ?_
                      obtain ⟨g178, q178, h⟩ := bd h
                      refine k_iast C hw163 2 rfl q178 [oX8 a g_undos g_listed g_papers g_length g_besides g_gapFirst g_gapLast g_layings g_first g_behind g_clauses g_drafts, ar cI (a 7) 200 g_text, ar cI (a 18) 3 g178] rfl dX8_number_178 (fun H locs hw178 => ?_)
                      refine lv_aload_n hx hb dX8_number_179 rfl (lv_at hl 2 rfl) ?_
                      obtain ⟨r180, q180, h⟩ := bd h
                      refine k_callV (nC := 3) [oX8 a g_undos g_listed g_papers g_length g_besides g_gapFirst g_gapLast g_layings r180.1 r180.2 g_clauses g_drafts, ar cI (a 7) 200 g_text, ar cI (a 18) 3 g178] C hl.1 (tX8_nextToken (a := a) q180) mL_X8_157 mmX8_nextToken rfl rfl ⟨Nat.le_of_ble_eq_true rfl, Nat.le_of_ble_eq_true rfl⟩ rfl rfl rfl rfl (Nat.le_of_ble_eq_true rfl) hA hw178 [0, 1] [2] rfl (by decide +kernel) rfl rfl rfl rfl dX8_number_180 (fun H locs hw180 => ?_)
                      refine lv_iconst (v := 1) hx hb dX8_number_183 (by decide) ?_
                      cases h
                      exact k_zret (v := 1) C rfl hw180 dX8_number_184
                    · replace h := br_t' h c166
                      refine lv_iconst (v := 0) hx hb dX8_number_169 (by decide) ?_
                      cases h
                      exact k_zret (v := 0) C rfl hw163 dX8_number_170
                  · replace h := br_t' h c144
                    refine k_ldc2 C mD_X8_155 dX8_number_147 ?_
                    refine lv_goto (tgt := 156) hx hb dX8_number_150 (by decide) ?_
                    refine lv_lstore (lv' := [(7, .long 999), (5, .long y111.toInt64), (0, .ref (a 0)), (1, .int x1), (2, .int x2), (3, .long x3_50)]) hx hb dX8_number_156 hl (by decide) rfl (fun ls hl => ?_)
                    refine lv_lload_n hx hb dX8_number_158 rfl (lv_at hl 5 rfl) ?_
                    refine lv_lload hx hb dX8_number_159 (lv_at hl 1 rfl) ?_
                    refine lv_lload hx hb dX8_number_161 (lv_at hl 0 rfl) ?_
                    obtain ⟨r163, q163, h⟩ := bd h
                    refine k_callS (nC := 3) [oX8 a g_undos g_listed g_papers g_length g_besides g_gapFirst g_gapLast g_layings g_first g_behind g_clauses g_drafts, ar cI (a 7) 200 g_text, ar cI (a 18) 3 g_numbers] C hl.1 (tX8_in q163) mL_X8_58 mmX8_in rfl rfl ⟨Nat.le_of_ble_eq_true rfl, Nat.le_of_ble_eq_true rfl⟩ rfl rfl (Nat.le_of_ble_eq_true rfl) hA hw50x [] [0, 1, 2] rfl (by decide +kernel) rfl rfl rfl rfl dX8_number_163 (fun H locs hw163 => ?_)
                    refine lv_if_ne (tgt := 171) hx hb dX8_number_166 (by decide) (fun c166 => ?_) (fun c166 => ?_)
                    · replace h := br_f' h c166
                      refine lv_aload_n hx hb dX8_number_171 rfl (lv_at hl 2 rfl) ?_
                      refine k_get C inT_X8 hw163 0 rfl rfl 17 (by decide) mF_X8_31 rfl dX8_number_172 ?_
                      refine lv_iload_n hx hb dX8_number_175 rfl (lv_at hl 3 rfl) ?_
                      refine lv_lload_n hx hb dX8_number_176 rfl (lv_at hl 5 rfl) ?_
                      refine lv_l2i (v := x3_50.toInt32) hx hb dX8_number_177 rfl ?_
                      obtain ⟨g178, q178, h⟩ := bd h
                      refine k_iast C hw163 2 rfl q178 [oX8 a g_undos g_listed g_papers g_length g_besides g_gapFirst g_gapLast g_layings g_first g_behind g_clauses g_drafts, ar cI (a 7) 200 g_text, ar cI (a 18) 3 g178] rfl dX8_number_178 (fun H locs hw178 => ?_)
                      refine lv_aload_n hx hb dX8_number_179 rfl (lv_at hl 2 rfl) ?_
                      obtain ⟨r180, q180, h⟩ := bd h
                      refine k_callV (nC := 3) [oX8 a g_undos g_listed g_papers g_length g_besides g_gapFirst g_gapLast g_layings r180.1 r180.2 g_clauses g_drafts, ar cI (a 7) 200 g_text, ar cI (a 18) 3 g178] C hl.1 (tX8_nextToken (a := a) q180) mL_X8_157 mmX8_nextToken rfl rfl ⟨Nat.le_of_ble_eq_true rfl, Nat.le_of_ble_eq_true rfl⟩ rfl rfl rfl rfl (Nat.le_of_ble_eq_true rfl) hA hw178 [0, 1] [2] rfl (by decide +kernel) rfl rfl rfl rfl dX8_number_180 (fun H locs hw180 => ?_)
                      refine lv_iconst (v := 1) hx hb dX8_number_183 (by decide) ?_
                      cases h
                      exact k_zret (v := 1) C rfl hw180 dX8_number_184
                    · replace h := br_t' h c166
                      refine lv_iconst (v := 0) hx hb dX8_number_169 (by decide) ?_
                      cases h
                      exact k_zret (v := 0) C rfl hw163 dX8_number_170
                · replace h := br_t' h c132
                  refine k_ldc2 C mD_X8_62 dX8_number_135 ?_
                  refine lv_goto (tgt := 156) hx hb dX8_number_138 (by decide) ?_
                  refine lv_lstore (lv' := [(7, .long 7), (5, .long y111.toInt64), (0, .ref (a 0)), (1, .int x1), (2, .int x2), (3, .long x3_50)]) hx hb dX8_number_156 hl (by decide) rfl (fun ls hl => ?_)
                  refine lv_lload_n hx hb dX8_number_158 rfl (lv_at hl 5 rfl) ?_
                  refine lv_lload hx hb dX8_number_159 (lv_at hl 1 rfl) ?_
                  refine lv_lload hx hb dX8_number_161 (lv_at hl 0 rfl) ?_
                  obtain ⟨r163, q163, h⟩ := bd h
                  refine k_callS (nC := 3) [oX8 a g_undos g_listed g_papers g_length g_besides g_gapFirst g_gapLast g_layings g_first g_behind g_clauses g_drafts, ar cI (a 7) 200 g_text, ar cI (a 18) 3 g_numbers] C hl.1 (tX8_in q163) mL_X8_58 mmX8_in rfl rfl ⟨Nat.le_of_ble_eq_true rfl, Nat.le_of_ble_eq_true rfl⟩ rfl rfl (Nat.le_of_ble_eq_true rfl) hA hw50x [] [0, 1, 2] rfl (by decide +kernel) rfl rfl rfl rfl dX8_number_163 (fun H locs hw163 => ?_)
                  refine lv_if_ne (tgt := 171) hx hb dX8_number_166 (by decide) (fun c166 => ?_) (fun c166 => ?_)
                  · replace h := br_f' h c166
                    refine lv_aload_n hx hb dX8_number_171 rfl (lv_at hl 2 rfl) ?_
                    refine k_get C inT_X8 hw163 0 rfl rfl 17 (by decide) mF_X8_31 rfl dX8_number_172 ?_
                    refine lv_iload_n hx hb dX8_number_175 rfl (lv_at hl 3 rfl) ?_
                    refine lv_lload_n hx hb dX8_number_176 rfl (lv_at hl 5 rfl) ?_
                    refine lv_l2i (v := x3_50.toInt32) hx hb dX8_number_177 rfl ?_
                    obtain ⟨g178, q178, h⟩ := bd h
                    refine k_iast C hw163 2 rfl q178 [oX8 a g_undos g_listed g_papers g_length g_besides g_gapFirst g_gapLast g_layings g_first g_behind g_clauses g_drafts, ar cI (a 7) 200 g_text, ar cI (a 18) 3 g178] rfl dX8_number_178 (fun H locs hw178 => ?_)
                    refine lv_aload_n hx hb dX8_number_179 rfl (lv_at hl 2 rfl) ?_
                    obtain ⟨r180, q180, h⟩ := bd h
                    refine k_callV (nC := 3) [oX8 a g_undos g_listed g_papers g_length g_besides g_gapFirst g_gapLast g_layings r180.1 r180.2 g_clauses g_drafts, ar cI (a 7) 200 g_text, ar cI (a 18) 3 g178] C hl.1 (tX8_nextToken (a := a) q180) mL_X8_157 mmX8_nextToken rfl rfl ⟨Nat.le_of_ble_eq_true rfl, Nat.le_of_ble_eq_true rfl⟩ rfl rfl rfl rfl (Nat.le_of_ble_eq_true rfl) hA hw178 [0, 1] [2] rfl (by decide +kernel) rfl rfl rfl rfl dX8_number_180 (fun H locs hw180 => ?_)
                    refine lv_iconst (v := 1) hx hb dX8_number_183 (by decide) ?_
                    cases h
                    exact k_zret (v := 1) C rfl hw180 dX8_number_184
                  · replace h := br_t' h c166
                    refine lv_iconst (v := 0) hx hb dX8_number_169 (by decide) ?_
                    cases h
                    exact k_zret (v := 0) C rfl hw163 dX8_number_170
              · replace h := br_t' h c121
                refine k_ldc2 C mD_X8_153 dX8_number_124 ?_
                refine lv_goto (tgt := 156) hx hb dX8_number_127 (by decide) ?_
                refine lv_lstore (lv' := [(7, .long 9), (5, .long y111.toInt64), (0, .ref (a 0)), (1, .int x1), (2, .int x2), (3, .long x3_50)]) hx hb dX8_number_156 hl (by decide) rfl (fun ls hl => ?_)
                refine lv_lload_n hx hb dX8_number_158 rfl (lv_at hl 5 rfl) ?_
                refine lv_lload hx hb dX8_number_159 (lv_at hl 1 rfl) ?_
                refine lv_lload hx hb dX8_number_161 (lv_at hl 0 rfl) ?_
                obtain ⟨r163, q163, h⟩ := bd h
                refine k_callS (nC := 3) [oX8 a g_undos g_listed g_papers g_length g_besides g_gapFirst g_gapLast g_layings g_first g_behind g_clauses g_drafts, ar cI (a 7) 200 g_text, ar cI (a 18) 3 g_numbers] C hl.1 (tX8_in q163) mL_X8_58 mmX8_in rfl rfl ⟨Nat.le_of_ble_eq_true rfl, Nat.le_of_ble_eq_true rfl⟩ rfl rfl (Nat.le_of_ble_eq_true rfl) hA hw50x [] [0, 1, 2] rfl (by decide +kernel) rfl rfl rfl rfl dX8_number_163 (fun H locs hw163 => ?_)
                refine lv_if_ne (tgt := 171) hx hb dX8_number_166 (by decide) (fun c166 => ?_) (fun c166 => ?_)
                · replace h := br_f' h c166
                  refine lv_aload_n hx hb dX8_number_171 rfl (lv_at hl 2 rfl) ?_
                  refine k_get C inT_X8 hw163 0 rfl rfl 17 (by decide) mF_X8_31 rfl dX8_number_172 ?_
                  refine lv_iload_n hx hb dX8_number_175 rfl (lv_at hl 3 rfl) ?_
                  refine lv_lload_n hx hb dX8_number_176 rfl (lv_at hl 5 rfl) ?_
                  refine lv_l2i (v := x3_50.toInt32) hx hb dX8_number_177 rfl ?_
                  obtain ⟨g178, q178, h⟩ := bd h
                  refine k_iast C hw163 2 rfl q178 [oX8 a g_undos g_listed g_papers g_length g_besides g_gapFirst g_gapLast g_layings g_first g_behind g_clauses g_drafts, ar cI (a 7) 200 g_text, ar cI (a 18) 3 g178] rfl dX8_number_178 (fun H locs hw178 => ?_)
                  refine lv_aload_n hx hb dX8_number_179 rfl (lv_at hl 2 rfl) ?_
                  obtain ⟨r180, q180, h⟩ := bd h
                  refine k_callV (nC := 3) [oX8 a g_undos g_listed g_papers g_length g_besides g_gapFirst g_gapLast g_layings r180.1 r180.2 g_clauses g_drafts, ar cI (a 7) 200 g_text, ar cI (a 18) 3 g178] C hl.1 (tX8_nextToken (a := a) q180) mL_X8_157 mmX8_nextToken rfl rfl ⟨Nat.le_of_ble_eq_true rfl, Nat.le_of_ble_eq_true rfl⟩ rfl rfl rfl rfl (Nat.le_of_ble_eq_true rfl) hA hw178 [0, 1] [2] rfl (by decide +kernel) rfl rfl rfl rfl dX8_number_180 (fun H locs hw180 => ?_)
                  refine lv_iconst (v := 1) hx hb dX8_number_183 (by decide) ?_
                  cases h
                  exact k_zret (v := 1) C rfl hw180 dX8_number_184
                · replace h := br_t' h c166
                  refine lv_iconst (v := 0) hx hb dX8_number_169 (by decide) ?_
                  cases h
                  exact k_zret (v := 0) C rfl hw163 dX8_number_170
          · replace h := br_t' h c92
            refine lv_lconst (v := 1) hx hb dX8_number_95 (by decide) ?_
            refine lv_goto (tgt := 117) hx hb dX8_number_96 (by decide) ?_
            refine lv_lstore (lv' := [(5, .long 1), (0, .ref (a 0)), (1, .int x1), (2, .int x2), (3, .long x3_50)]) hx hb dX8_number_117 hl (by decide) rfl (fun ls hl => ?_)
            refine lv_iload_n hx hb dX8_number_119 rfl (lv_at hl 3 rfl) ?_
            refine lv_iconst (v := 1) hx hb dX8_number_120 (by decide) ?_
            refine lv_icmp_ne (tgt := 130) hx hb dX8_number_121 (by decide) (fun c121 => ?_) (fun c121 => ?_)
            · replace h := br_f' h c121
              refine lv_iload_n hx hb dX8_number_130 rfl (lv_at hl 3 rfl) ?_
              refine lv_iconst (v := 2) hx hb dX8_number_131 (by decide) ?_
              refine lv_icmp_ne (tgt := 141) hx hb dX8_number_132 (by decide) (fun c132 => ?_) (fun c132 => ?_)
              · replace h := br_f' h c132
                refine lv_iload_n hx hb dX8_number_141 rfl (lv_at hl 3 rfl) ?_
                refine lv_bipush (v := 6) hx hb dX8_number_142 (by decide) ?_
                refine lv_icmp_ne (tgt := 153) hx hb dX8_number_144 (by decide) (fun c144 => ?_) (fun c144 => ?_)
                · replace h := br_f' h c144
                  refine k_ldc2 C mD_X8_56 dX8_number_153 ?_
                  refine lv_lstore (lv' := [(7, .long 2000000000), (5, .long 1), (0, .ref (a 0)), (1, .int x1), (2, .int x2), (3, .long x3_50)]) hx hb dX8_number_156 hl (by decide) rfl (fun ls hl => ?_)
                  refine lv_lload_n hx hb dX8_number_158 rfl (lv_at hl 5 rfl) ?_
                  refine lv_lload hx hb dX8_number_159 (lv_at hl 1 rfl) ?_
                  refine lv_lload hx hb dX8_number_161 (lv_at hl 0 rfl) ?_
                  obtain ⟨r163, q163, h⟩ := bd h
                  refine k_callS (nC := 3) [oX8 a g_undos g_listed g_papers g_length g_besides g_gapFirst g_gapLast g_layings g_first g_behind g_clauses g_drafts, ar cI (a 7) 200 g_text, ar cI (a 18) 3 g_numbers] C hl.1 (tX8_in q163) mL_X8_58 mmX8_in rfl rfl ⟨Nat.le_of_ble_eq_true rfl, Nat.le_of_ble_eq_true rfl⟩ rfl rfl (Nat.le_of_ble_eq_true rfl) hA hw50x [] [0, 1, 2] rfl (by decide +kernel) rfl rfl rfl rfl dX8_number_163 (fun H locs hw163 => ?_)
                  refine lv_if_ne (tgt := 171) hx hb dX8_number_166 (by decide) (fun c166 => ?_) (fun c166 => ?_)
                  · replace h := br_f' h c166
                    refine lv_aload_n hx hb dX8_number_171 rfl (lv_at hl 2 rfl) ?_
                    refine k_get C inT_X8 hw163 0 rfl rfl 17 (by decide) mF_X8_31 rfl dX8_number_172 ?_
                    refine lv_iload_n hx hb dX8_number_175 rfl (lv_at hl 3 rfl) ?_
                    refine lv_lload_n hx hb dX8_number_176 rfl (lv_at hl 5 rfl) ?_
                    refine lv_l2i (v := x3_50.toInt32) hx hb dX8_number_177 rfl ?_
                    obtain ⟨g178, q178, h⟩ := bd h
                    refine k_iast C hw163 2 rfl q178 [oX8 a g_undos g_listed g_papers g_length g_besides g_gapFirst g_gapLast g_layings g_first g_behind g_clauses g_drafts, ar cI (a 7) 200 g_text, ar cI (a 18) 3 g178] rfl dX8_number_178 (fun H locs hw178 => ?_)
                    refine lv_aload_n hx hb dX8_number_179 rfl (lv_at hl 2 rfl) ?_
                    obtain ⟨r180, q180, h⟩ := bd h
                    refine k_callV (nC := 3) [oX8 a g_undos g_listed g_papers g_length g_besides g_gapFirst g_gapLast g_layings r180.1 r180.2 g_clauses g_drafts, ar cI (a 7) 200 g_text, ar cI (a 18) 3 g178] C hl.1 (tX8_nextToken (a := a) q180) mL_X8_157 mmX8_nextToken rfl rfl ⟨Nat.le_of_ble_eq_true rfl, Nat.le_of_ble_eq_true rfl⟩ rfl rfl rfl rfl (Nat.le_of_ble_eq_true rfl) hA hw178 [0, 1] [2] rfl (by decide +kernel) rfl rfl rfl rfl dX8_number_180 (fun H locs hw180 => ?_)
                    refine lv_iconst (v := 1) hx hb dX8_number_183 (by decide) ?_
                    cases h
                    exact k_zret (v := 1) C rfl hw180 dX8_number_184
                  · replace h := br_t' h c166
                    refine lv_iconst (v := 0) hx hb dX8_number_169 (by decide) ?_
                    cases h
                    exact k_zret (v := 0) C rfl hw163 dX8_number_170
                · replace h := br_t' h c144
                  refine k_ldc2 C mD_X8_155 dX8_number_147 ?_
                  refine lv_goto (tgt := 156) hx hb dX8_number_150 (by decide) ?_
                  refine lv_lstore (lv' := [(7, .long 999), (5, .long 1), (0, .ref (a 0)), (1, .int x1), (2, .int x2), (3, .long x3_50)]) hx hb dX8_number_156 hl (by decide) rfl (fun ls hl => ?_)
                  refine lv_lload_n hx hb dX8_number_158 rfl (lv_at hl 5 rfl) ?_
                  refine lv_lload hx hb dX8_number_159 (lv_at hl 1 rfl) ?_
                  refine lv_lload hx hb dX8_number_161 (lv_at hl 0 rfl) ?_
                  obtain ⟨r163, q163, h⟩ := bd h
                  refine k_callS (nC := 3) [oX8 a g_undos g_listed g_papers g_length g_besides g_gapFirst g_gapLast g_layings g_first g_behind g_clauses g_drafts, ar cI (a 7) 200 g_text, ar cI (a 18) 3 g_numbers] C hl.1 (tX8_in q163) mL_X8_58 mmX8_in rfl rfl ⟨Nat.le_of_ble_eq_true rfl, Nat.le_of_ble_eq_true rfl⟩ rfl rfl (Nat.le_of_ble_eq_true rfl) hA hw50x [] [0, 1, 2] rfl (by decide +kernel) rfl rfl rfl rfl dX8_number_163 (fun H locs hw163 => ?_)
                  refine lv_if_ne (tgt := 171) hx hb dX8_number_166 (by decide) (fun c166 => ?_) (fun c166 => ?_)
                  · replace h := br_f' h c166
                    refine lv_aload_n hx hb dX8_number_171 rfl (lv_at hl 2 rfl) ?_
                    refine k_get C inT_X8 hw163 0 rfl rfl 17 (by decide) mF_X8_31 rfl dX8_number_172 ?_
                    refine lv_iload_n hx hb dX8_number_175 rfl (lv_at hl 3 rfl) ?_
                    refine lv_lload_n hx hb dX8_number_176 rfl (lv_at hl 5 rfl) ?_
                    refine lv_l2i (v := x3_50.toInt32) hx hb dX8_number_177 rfl ?_
                    obtain ⟨g178, q178, h⟩ := bd h
                    refine k_iast C hw163 2 rfl q178 [oX8 a g_undos g_listed g_papers g_length g_besides g_gapFirst g_gapLast g_layings g_first g_behind g_clauses g_drafts, ar cI (a 7) 200 g_text, ar cI (a 18) 3 g178] rfl dX8_number_178 (fun H locs hw178 => ?_)
                    refine lv_aload_n hx hb dX8_number_179 rfl (lv_at hl 2 rfl) ?_
                    obtain ⟨r180, q180, h⟩ := bd h
                    refine k_callV (nC := 3) [oX8 a g_undos g_listed g_papers g_length g_besides g_gapFirst g_gapLast g_layings r180.1 r180.2 g_clauses g_drafts, ar cI (a 7) 200 g_text, ar cI (a 18) 3 g178] C hl.1 (tX8_nextToken (a := a) q180) mL_X8_157 mmX8_nextToken rfl rfl ⟨Nat.le_of_ble_eq_true rfl, Nat.le_of_ble_eq_true rfl⟩ rfl rfl rfl rfl (Nat.le_of_ble_eq_true rfl) hA hw178 [0, 1] [2] rfl (by decide +kernel) rfl rfl rfl rfl dX8_number_180 (fun H locs hw180 => ?_)
                    refine lv_iconst (v := 1) hx hb dX8_number_183 (by decide) ?_
                    cases h
                    exact k_zret (v := 1) C rfl hw180 dX8_number_184
                  · replace h := br_t' h c166
                    refine lv_iconst (v := 0) hx hb dX8_number_169 (by decide) ?_
                    cases h
                    exact k_zret (v := 0) C rfl hw163 dX8_number_170
              · replace h := br_t' h c132
                refine k_ldc2 C mD_X8_62 dX8_number_135 ?_
                refine lv_goto (tgt := 156) hx hb dX8_number_138 (by decide) ?_
                refine lv_lstore (lv' := [(7, .long 7), (5, .long 1), (0, .ref (a 0)), (1, .int x1), (2, .int x2), (3, .long x3_50)]) hx hb dX8_number_156 hl (by decide) rfl (fun ls hl => ?_)
                refine lv_lload_n hx hb dX8_number_158 rfl (lv_at hl 5 rfl) ?_
                refine lv_lload hx hb dX8_number_159 (lv_at hl 1 rfl) ?_
                refine lv_lload hx hb dX8_number_161 (lv_at hl 0 rfl) ?_
                obtain ⟨r163, q163, h⟩ := bd h
                refine k_callS (nC := 3) [oX8 a g_undos g_listed g_papers g_length g_besides g_gapFirst g_gapLast g_layings g_first g_behind g_clauses g_drafts, ar cI (a 7) 200 g_text, ar cI (a 18) 3 g_numbers] C hl.1 (tX8_in q163) mL_X8_58 mmX8_in rfl rfl ⟨Nat.le_of_ble_eq_true rfl, Nat.le_of_ble_eq_true rfl⟩ rfl rfl (Nat.le_of_ble_eq_true rfl) hA hw50x [] [0, 1, 2] rfl (by decide +kernel) rfl rfl rfl rfl dX8_number_163 (fun H locs hw163 => ?_)
                refine lv_if_ne (tgt := 171) hx hb dX8_number_166 (by decide) (fun c166 => ?_) (fun c166 => ?_)
                · replace h := br_f' h c166
                  refine lv_aload_n hx hb dX8_number_171 rfl (lv_at hl 2 rfl) ?_
                  refine k_get C inT_X8 hw163 0 rfl rfl 17 (by decide) mF_X8_31 rfl dX8_number_172 ?_
                  refine lv_iload_n hx hb dX8_number_175 rfl (lv_at hl 3 rfl) ?_
                  refine lv_lload_n hx hb dX8_number_176 rfl (lv_at hl 5 rfl) ?_
                  refine lv_l2i (v := x3_50.toInt32) hx hb dX8_number_177 rfl ?_
                  obtain ⟨g178, q178, h⟩ := bd h
                  refine k_iast C hw163 2 rfl q178 [oX8 a g_undos g_listed g_papers g_length g_besides g_gapFirst g_gapLast g_layings g_first g_behind g_clauses g_drafts, ar cI (a 7) 200 g_text, ar cI (a 18) 3 g178] rfl dX8_number_178 (fun H locs hw178 => ?_)
                  refine lv_aload_n hx hb dX8_number_179 rfl (lv_at hl 2 rfl) ?_
                  obtain ⟨r180, q180, h⟩ := bd h
                  refine k_callV (nC := 3) [oX8 a g_undos g_listed g_papers g_length g_besides g_gapFirst g_gapLast g_layings r180.1 r180.2 g_clauses g_drafts, ar cI (a 7) 200 g_text, ar cI (a 18) 3 g178] C hl.1 (tX8_nextToken (a := a) q180) mL_X8_157 mmX8_nextToken rfl rfl ⟨Nat.le_of_ble_eq_true rfl, Nat.le_of_ble_eq_true rfl⟩ rfl rfl rfl rfl (Nat.le_of_ble_eq_true rfl) hA hw178 [0, 1] [2] rfl (by decide +kernel) rfl rfl rfl rfl dX8_number_180 (fun H locs hw180 => ?_)
                  refine lv_iconst (v := 1) hx hb dX8_number_183 (by decide) ?_
                  cases h
                  exact k_zret (v := 1) C rfl hw180 dX8_number_184
                · replace h := br_t' h c166
                  refine lv_iconst (v := 0) hx hb dX8_number_169 (by decide) ?_
                  cases h
                  exact k_zret (v := 0) C rfl hw163 dX8_number_170
            · replace h := br_t' h c121
              refine k_ldc2 C mD_X8_153 dX8_number_124 ?_
              refine lv_goto (tgt := 156) hx hb dX8_number_127 (by decide) ?_
              refine lv_lstore (lv' := [(7, .long 9), (5, .long 1), (0, .ref (a 0)), (1, .int x1), (2, .int x2), (3, .long x3_50)]) hx hb dX8_number_156 hl (by decide) rfl (fun ls hl => ?_)
              refine lv_lload_n hx hb dX8_number_158 rfl (lv_at hl 5 rfl) ?_
              refine lv_lload hx hb dX8_number_159 (lv_at hl 1 rfl) ?_
              refine lv_lload hx hb dX8_number_161 (lv_at hl 0 rfl) ?_
              obtain ⟨r163, q163, h⟩ := bd h
              refine k_callS (nC := 3) [oX8 a g_undos g_listed g_papers g_length g_besides g_gapFirst g_gapLast g_layings g_first g_behind g_clauses g_drafts, ar cI (a 7) 200 g_text, ar cI (a 18) 3 g_numbers] C hl.1 (tX8_in q163) mL_X8_58 mmX8_in rfl rfl ⟨Nat.le_of_ble_eq_true rfl, Nat.le_of_ble_eq_true rfl⟩ rfl rfl (Nat.le_of_ble_eq_true rfl) hA hw50x [] [0, 1, 2] rfl (by decide +kernel) rfl rfl rfl rfl dX8_number_163 (fun H locs hw163 => ?_)
              refine lv_if_ne (tgt := 171) hx hb dX8_number_166 (by decide) (fun c166 => ?_) (fun c166 => ?_)
              · replace h := br_f' h c166
                refine lv_aload_n hx hb dX8_number_171 rfl (lv_at hl 2 rfl) ?_
                refine k_get C inT_X8 hw163 0 rfl rfl 17 (by decide) mF_X8_31 rfl dX8_number_172 ?_
                refine lv_iload_n hx hb dX8_number_175 rfl (lv_at hl 3 rfl) ?_
                refine lv_lload_n hx hb dX8_number_176 rfl (lv_at hl 5 rfl) ?_
                refine lv_l2i (v := x3_50.toInt32) hx hb dX8_number_177 rfl ?_
                obtain ⟨g178, q178, h⟩ := bd h
                refine k_iast C hw163 2 rfl q178 [oX8 a g_undos g_listed g_papers g_length g_besides g_gapFirst g_gapLast g_layings g_first g_behind g_clauses g_drafts, ar cI (a 7) 200 g_text, ar cI (a 18) 3 g178] rfl dX8_number_178 (fun H locs hw178 => ?_)
                refine lv_aload_n hx hb dX8_number_179 rfl (lv_at hl 2 rfl) ?_
                obtain ⟨r180, q180, h⟩ := bd h
                refine k_callV (nC := 3) [oX8 a g_undos g_listed g_papers g_length g_besides g_gapFirst g_gapLast g_layings r180.1 r180.2 g_clauses g_drafts, ar cI (a 7) 200 g_text, ar cI (a 18) 3 g178] C hl.1 (tX8_nextToken (a := a) q180) mL_X8_157 mmX8_nextToken rfl rfl ⟨Nat.le_of_ble_eq_true rfl, Nat.le_of_ble_eq_true rfl⟩ rfl rfl rfl rfl (Nat.le_of_ble_eq_true rfl) hA hw178 [0, 1] [2] rfl (by decide +kernel) rfl rfl rfl rfl dX8_number_180 (fun H locs hw180 => ?_)
                refine lv_iconst (v := 1) hx hb dX8_number_183 (by decide) ?_
                cases h
                exact k_zret (v := 1) C rfl hw180 dX8_number_184
              · replace h := br_t' h c166
                refine lv_iconst (v := 0) hx hb dX8_number_169 (by decide) ?_
                cases h
                exact k_zret (v := 0) C rfl hw163 dX8_number_170
      · replace h := br_f' h c37
        refine lv_iconst (v := 0) hx hb dX8_number_40 (by decide) ?_
        cases h
        exact k_zret (v := 0) C rfl hw20 dX8_number_41
def rmX8_whyNoSeries : Room := { frames := 2, cells := 0, slots := 0, locals := 46 }
def fX8_whyNoSeries_60 (g_row : Nat → Int32) (x1 : Int32) (x2 : Int32) (x3 : Int32) : (n : Nat) → (k : Int32 → Int32 → Option (Int32)) → Int32 → Int32 → Option (Int32)
  | 0, _, _, _ => none
  | n + 1, k, x4, x5 =>
    (ld 5058 g_row 0).bind fun y67 =>
    if y67 ≤ x5 then
      k x4 x5
    else
      if x4 = 0 then
        fX8_whyNoSeries_60 g_row x1 x2 x3 n k 0 (x5 + 1)
      else
        (fX8_parent g_row x5).bind fun r79 =>
        if r79 = x1 then
          (fX8_firstOf g_row x5).bind fun r89 =>
          (fX8_lastOf g_row x5).bind fun r95 =>
          (fX8_common r89 r95 x2 x3).bind fun r100 =>
          if r100 = 0 then
            fX8_whyNoSeries_60 g_row x1 x2 x3 n k 1 (x5 + 1)
          else
            fX8_whyNoSeries_60 g_row x1 x2 x3 n k 0 (x5 + 1)
        else
          fX8_whyNoSeries_60 g_row x1 x2 x3 n k 1 (x5 + 1)
set_option maxRecDepth 100000 in
set_option maxHeartbeats 4000000 in
theorem wX8_whyNoSeries_60 {p : Program} {l : Launch} {e : Env} {s : State} {m : MethodId} {args : Array Value} {below : List Frame} {meth : Method} {c : Code} {D : va_G} {cI : ClassId} {cS : GS} {A : Nat → Prop} {a : Nat → Nat} {g_row : Nat → Int32} {g_undos : Int32} {g_listed : Int32} {g_papers : Int32} {g_length : Int32} {g_besides : Int32} {g_gapFirst : Int32} {g_gapLast : Int32} {g_layings : Int32} {g_first : Int32} {g_behind : Int32} {g_clauses : Int32} {g_drafts : Int32} {x1 : Int32} {x2 : Int32} {x3 : Int32} (C : MC p s m args meth c D cI cS A RX8 cX8_whyNoSeries 6 (some .int)) (hA : ∀ q, s.heap.size ≤ q → A q) {s0 : Int32} (k : Int32 → Int32 → Option (Int32)) (hk : ∀ (x4 : Int32) (x5 : Int32) (H : Heap) (locs : List Loc) (ls : Array Slot), Wd D A s.heap H locs [oX8 a g_undos g_listed g_papers g_length g_besides g_gapFirst g_gapLast g_layings g_first g_behind g_clauses g_drafts, ar cI (a 1) 5058 g_row] → lv_has ls 6 [(0, .ref (a 0)), (1, .int x1), (2, .int x2), (3, .int x3), (4, .int x4), (5, .int x5)] → k x4 x5 = some s0 → W p l e rmX8_whyNoSeries s m args below meth c H locs 0 0 (KQ D A below args s (some (.int s0)) [oX8 a g_undos g_listed g_papers g_length g_besides g_gapFirst g_gapLast g_layings g_first g_behind g_clauses g_drafts, ar cI (a 1) 5058 g_row]) (F0 m 119 ls [])) :
    ∀ (n : Nat) (x4 : Int32) (x5 : Int32) (H : Heap) (locs : List Loc) (ls : Array Slot), Wd D A s.heap H locs [oX8 a g_undos g_listed g_papers g_length g_besides g_gapFirst g_gapLast g_layings g_first g_behind g_clauses g_drafts, ar cI (a 1) 5058 g_row] → lv_has ls 6 [(0, .ref (a 0)), (1, .int x1), (2, .int x2), (3, .int x3), (4, .int x4), (5, .int x5)] → fX8_whyNoSeries_60 g_row x1 x2 x3 n k x4 x5 = some s0 → W p l e rmX8_whyNoSeries s m args below meth c H locs 0 0 (KQ D A below args s (some (.int s0)) [oX8 a g_undos g_listed g_papers g_length g_besides g_gapFirst g_gapLast g_layings g_first g_behind g_clauses g_drafts, ar cI (a 1) 5058 g_row]) (F0 m 60 ls []) := by
  have hx := C.1.1
  have hb := C.1.2.1
  intro n
  induction n with
  | zero =>
    intro x4 x5 H locs ls hw hl h
    rw [fX8_whyNoSeries_60] at h
    cases h
  | succ n ih =>
    intro x4 x5 H locs ls hw hl h
    rw [fX8_whyNoSeries_60] at h
    refine lv_iload hx hb dX8_whyNoSeries_60 (lv_at hl 5 rfl) ?_
    refine lv_aload_n hx hb dX8_whyNoSeries_62 rfl (lv_at hl 0 rfl) ?_
    refine k_get C inT_X8 hw 0 rfl rfl 0 (by decide) mF_X8_7 rfl dX8_whyNoSeries_63 ?_
    refine lv_iconst (v := 0) hx hb dX8_whyNoSeries_66 (by decide) ?_
    obtain ⟨y67, q67, h⟩ := bd h
    refine k_iald C hw 1 rfl q67 dX8_whyNoSeries_67 ?_
    refine lv_icmp_ge (tgt := 119) hx hb dX8_whyNoSeries_68 (by decide) (fun c68 => ?_) (fun c68 => ?_)
    · replace h := br_t' h c68
      exact hk _ _ _ _ _ hw (lv_sub hl [0, 1, 2, 3, 4, 5] rfl) h
    · replace h := br_f' h c68
      refine lv_iload hx hb dX8_whyNoSeries_71 (lv_at hl 4 rfl) ?_
      refine lv_if_eq (tgt := 110) hx hb dX8_whyNoSeries_73 (by decide) (fun c73 => ?_) (fun c73 => ?_)
      · replace h := br_t' h c73
        refine lv_iconst (v := 0) hx hb dX8_whyNoSeries_110 (by decide) ?_
        refine lv_istore (lv' := [(4, .int 0), (0, .ref (a 0)), (1, .int x1), (2, .int x2), (3, .int x3), (5, .int x5)]) hx hb dX8_whyNoSeries_111 hl (by decide) rfl (fun ls hl => ?_)
        refine lv_iinc (v := (x5 + 1)) (lv' := [(5, .int (x5 + 1)), (4, .int 0), (0, .ref (a 0)), (1, .int x1), (2, .int x2), (3, .int x3)]) hx hb dX8_whyNoSeries_113 hl (k := 5) rfl rfl (by decide) rfl (fun ls hl => ?_)
        refine lv_goto (tgt := 60) hx hb dX8_whyNoSeries_116 (by decide) ?_
        exact ih _ _ _ _ _ hw (lv_sub hl [2, 3, 4, 5, 1, 0] rfl) h
      · replace h := br_f' h c73
        refine lv_aload_n hx hb dX8_whyNoSeries_76 rfl (lv_at hl 0 rfl) ?_
        refine lv_iload hx hb dX8_whyNoSeries_77 (lv_at hl 5 rfl) ?_
        obtain ⟨r79, q79, h⟩ := bd h
        refine k_callV (nC := 2) [oX8 a g_undos g_listed g_papers g_length g_besides g_gapFirst g_gapLast g_layings g_first g_behind g_clauses g_drafts, ar cI (a 1) 5058 g_row] C hl.1 (tX8_parent (a := a) q79) mL_X8_100 mmX8_parent rfl rfl ⟨Nat.le_of_ble_eq_true rfl, Nat.le_of_ble_eq_true rfl⟩ rfl rfl rfl rfl (Nat.le_of_ble_eq_true rfl) hA hw [0, 1] [] rfl (by decide +kernel) rfl rfl rfl rfl dX8_whyNoSeries_79 (fun H locs hw79 => ?_)
        refine lv_iload_n hx hb dX8_whyNoSeries_82 rfl (lv_at hl 1 rfl) ?_
        refine lv_icmp_ne (tgt := 106) hx hb dX8_whyNoSeries_83 (by decide) (fun c83 => ?_) (fun c83 => ?_)
        · replace h := br_f' h c83
          refine lv_iconst (v := 1) hx hb dX8_whyNoSeries_106 (by decide) ?_
          refine lv_goto (tgt := 111) hx hb dX8_whyNoSeries_107 (by decide) ?_
          refine lv_istore (lv' := [(4, .int 1), (0, .ref (a 0)), (1, .int x1), (2, .int x2), (3, .int x3), (5, .int x5)]) hx hb dX8_whyNoSeries_111 hl (by decide) rfl (fun ls hl => ?_)
          refine lv_iinc (v := (x5 + 1)) (lv' := [(5, .int (x5 + 1)), (4, .int 1), (0, .ref (a 0)), (1, .int x1), (2, .int x2), (3, .int x3)]) hx hb dX8_whyNoSeries_113 hl (k := 5) rfl rfl (by decide) rfl (fun ls hl => ?_)
          refine lv_goto (tgt := 60) hx hb dX8_whyNoSeries_116 (by decide) ?_
          exact ih _ _ _ _ _ hw79 (lv_sub hl [2, 3, 4, 5, 1, 0] rfl) h
        · replace h := br_t' h c83
          refine lv_aload_n hx hb dX8_whyNoSeries_86 rfl (lv_at hl 0 rfl) ?_
          refine lv_iload hx hb dX8_whyNoSeries_87 (lv_at hl 5 rfl) ?_
          obtain ⟨r89, q89, h⟩ := bd h
          refine k_callV (nC := 2) [oX8 a g_undos g_listed g_papers g_length g_besides g_gapFirst g_gapLast g_layings g_first g_behind g_clauses g_drafts, ar cI (a 1) 5058 g_row] C hl.1 (tX8_firstOf (a := a) q89) mL_X8_93 mmX8_firstOf rfl rfl ⟨Nat.le_of_ble_eq_true rfl, Nat.le_of_ble_eq_true rfl⟩ rfl rfl rfl rfl (Nat.le_of_ble_eq_true rfl) hA hw79 [0, 1] [] rfl (by decide +kernel) rfl rfl rfl rfl dX8_whyNoSeries_89 (fun H locs hw89 => ?_)
          refine lv_aload_n hx hb dX8_whyNoSeries_92 rfl (lv_at hl 0 rfl) ?_
          refine lv_iload hx hb dX8_whyNoSeries_93 (lv_at hl 5 rfl) ?_
          obtain ⟨r95, q95, h⟩ := bd h
          refine k_callV (nC := 2) [oX8 a g_undos g_listed g_papers g_length g_besides g_gapFirst g_gapLast g_layings g_first g_behind g_clauses g_drafts, ar cI (a 1) 5058 g_row] C hl.1 (tX8_lastOf (a := a) q95) mL_X8_97 mmX8_lastOf rfl rfl ⟨Nat.le_of_ble_eq_true rfl, Nat.le_of_ble_eq_true rfl⟩ rfl rfl rfl rfl (Nat.le_of_ble_eq_true rfl) hA hw89 [0, 1] [] rfl (by decide +kernel) rfl rfl rfl rfl dX8_whyNoSeries_95 (fun H locs hw95 => ?_)
          refine lv_iload_n hx hb dX8_whyNoSeries_98 rfl (lv_at hl 2 rfl) ?_
          refine lv_iload_n hx hb dX8_whyNoSeries_99 rfl (lv_at hl 3 rfl) ?_
          obtain ⟨r100, q100, h⟩ := bd h
          refine k_callS (nC := 2) [oX8 a g_undos g_listed g_papers g_length g_besides g_gapFirst g_gapLast g_layings g_first g_behind g_clauses g_drafts, ar cI (a 1) 5058 g_row] C hl.1 (tX8_common q100) mL_X8_74 mmX8_common rfl rfl ⟨Nat.le_of_ble_eq_true rfl, Nat.le_of_ble_eq_true rfl⟩ rfl rfl (Nat.le_of_ble_eq_true rfl) hA hw95 [] [0, 1] rfl (by decide +kernel) rfl rfl rfl rfl dX8_whyNoSeries_100 (fun H locs hw100 => ?_)
          refine lv_if_ne (tgt := 110) hx hb dX8_whyNoSeries_103 (by decide) (fun c103 => ?_) (fun c103 => ?_)
          · replace h := br_f' h c103
            refine lv_iconst (v := 0) hx hb dX8_whyNoSeries_110 (by decide) ?_
            refine lv_istore (lv' := [(4, .int 0), (0, .ref (a 0)), (1, .int x1), (2, .int x2), (3, .int x3), (5, .int x5)]) hx hb dX8_whyNoSeries_111 hl (by decide) rfl (fun ls hl => ?_)
            refine lv_iinc (v := (x5 + 1)) (lv' := [(5, .int (x5 + 1)), (4, .int 0), (0, .ref (a 0)), (1, .int x1), (2, .int x2), (3, .int x3)]) hx hb dX8_whyNoSeries_113 hl (k := 5) rfl rfl (by decide) rfl (fun ls hl => ?_)
            refine lv_goto (tgt := 60) hx hb dX8_whyNoSeries_116 (by decide) ?_
            exact ih _ _ _ _ _ hw100 (lv_sub hl [2, 3, 4, 5, 1, 0] rfl) h
          · replace h := br_t' h c103
            refine lv_iconst (v := 1) hx hb dX8_whyNoSeries_106 (by decide) ?_
            refine lv_goto (tgt := 111) hx hb dX8_whyNoSeries_107 (by decide) ?_
            refine lv_istore (lv' := [(4, .int 1), (0, .ref (a 0)), (1, .int x1), (2, .int x2), (3, .int x3), (5, .int x5)]) hx hb dX8_whyNoSeries_111 hl (by decide) rfl (fun ls hl => ?_)
            refine lv_iinc (v := (x5 + 1)) (lv' := [(5, .int (x5 + 1)), (4, .int 1), (0, .ref (a 0)), (1, .int x1), (2, .int x2), (3, .int x3)]) hx hb dX8_whyNoSeries_113 hl (k := 5) rfl rfl (by decide) rfl (fun ls hl => ?_)
            refine lv_goto (tgt := 60) hx hb dX8_whyNoSeries_116 (by decide) ?_
            exact ih _ _ _ _ _ hw100 (lv_sub hl [2, 3, 4, 5, 1, 0] rfl) h
def fX8_whyNoSeries (g_row : Nat → Int32) (x1 : Int32) (x2 : Int32) (x3 : Int32) : Option (Int32) :=
  if x1 = (-1) then
    (fX8_isRange x2 x3).bind fun r18 =>
    if r18 = 0 then
      some (-3)
    else
      if x1 = (-1) then
        fX8_whyNoSeries_60 g_row x1 x2 x3 FU (fun x4_60 x5_60 =>
          if x4_60 = 0 then
            some (-4)
          else
            (ld 5058 g_row 0).bind fun y134 =>
            if y134 = 10 then
              some (-5)
            else
              some 0) 1 0
      else
        (fX8_firstOf g_row x1).bind fun r35 =>
        if x2 < r35 then
          fX8_whyNoSeries_60 g_row x1 x2 x3 FU (fun x4_60 x5_60 =>
            if x4_60 = 0 then
              some (-4)
            else
              (ld 5058 g_row 0).bind fun y134 =>
              if y134 = 10 then
                some (-5)
              else
                some 0) 0 0
        else
          (fX8_lastOf g_row x1).bind fun r44 =>
          if r44 < x3 then
            fX8_whyNoSeries_60 g_row x1 x2 x3 FU (fun x4_60 x5_60 =>
              if x4_60 = 0 then
                some (-4)
              else
                (ld 5058 g_row 0).bind fun y134 =>
                if y134 = 10 then
                  some (-5)
                else
                  some 0) 0 0
          else
            fX8_whyNoSeries_60 g_row x1 x2 x3 FU (fun x4_60 x5_60 =>
              if x4_60 = 0 then
                some (-4)
              else
                (ld 5058 g_row 0).bind fun y134 =>
                if y134 = 10 then
                  some (-5)
                else
                  some 0) 1 0
  else
    (fX8_isSeries g_row x1).bind fun r7 =>
    if r7 = 0 then
      some (-2)
    else
      (fX8_isRange x2 x3).bind fun r18 =>
      if r18 = 0 then
        some (-3)
      else
        if x1 = (-1) then
          fX8_whyNoSeries_60 g_row x1 x2 x3 FU (fun x4_60 x5_60 =>
            if x4_60 = 0 then
              some (-4)
            else
              (ld 5058 g_row 0).bind fun y134 =>
              if y134 = 10 then
                some (-5)
              else
                some 0) 1 0
        else
          (fX8_firstOf g_row x1).bind fun r35 =>
          if x2 < r35 then
            fX8_whyNoSeries_60 g_row x1 x2 x3 FU (fun x4_60 x5_60 =>
              if x4_60 = 0 then
                some (-4)
              else
                (ld 5058 g_row 0).bind fun y134 =>
                if y134 = 10 then
                  some (-5)
                else
                  some 0) 0 0
          else
            (fX8_lastOf g_row x1).bind fun r44 =>
            if r44 < x3 then
              fX8_whyNoSeries_60 g_row x1 x2 x3 FU (fun x4_60 x5_60 =>
                if x4_60 = 0 then
                  some (-4)
                else
                  (ld 5058 g_row 0).bind fun y134 =>
                  if y134 = 10 then
                    some (-5)
                  else
                    some 0) 0 0
            else
              fX8_whyNoSeries_60 g_row x1 x2 x3 FU (fun x4_60 x5_60 =>
                if x4_60 = 0 then
                  some (-4)
                else
                  (ld 5058 g_row 0).bind fun y134 =>
                  if y134 = 10 then
                    some (-5)
                  else
                    some 0) 1 0
set_option maxRecDepth 100000 in
set_option maxHeartbeats 4000000 in
theorem tX8_whyNoSeries {l : Launch} {D : va_G} {cI : ClassId} {cS : GS} {a : Nat → Nat} {g_row : Nat → Int32} {g_undos : Int32} {g_listed : Int32} {g_papers : Int32} {g_length : Int32} {g_besides : Int32} {g_gapFirst : Int32} {g_gapLast : Int32} {g_layings : Int32} {g_first : Int32} {g_behind : Int32} {g_clauses : Int32} {g_drafts : Int32} {x1 : Int32} {x2 : Int32} {x3 : Int32} {s0 : Int32} (h : fX8_whyNoSeries g_row x1 x2 x3 = some s0) : CT l D cI cS yX8_whyNoSeries cX8_whyNoSeries 6 (some .int) rmX8_whyNoSeries [.ref (a 0), .int x1, .int x2, .int x3] [oX8 a g_undos g_listed g_papers g_length g_besides g_gapFirst g_gapLast g_layings g_first g_behind g_clauses g_drafts, ar cI (a 1) 5058 g_row] (some (.int s0)) [oX8 a g_undos g_listed g_papers g_length g_besides g_gapFirst g_gapLast g_layings g_first g_behind g_clauses g_drafts, ar cI (a 1) 5058 g_row] := by
  refine CT.of RX8 (by decide) rfl (Nat.le_of_ble_eq_true rfl) (fun p e s m below meth c ls A C hA hl hw => ?_)
  have hx := C.1.1
  have hb := C.1.2.1
  have hl : lv_has ls 6 [(0, .ref (a 0)), (1, .int x1), (2, .int x2), (3, .int x3)] := hl
  unfold fX8_whyNoSeries at h
  refine lv_iload_n hx hb dX8_whyNoSeries_0 rfl (lv_at hl 1 rfl) ?_
  refine lv_iconst (v := (-1)) hx hb dX8_whyNoSeries_1 (by decide) ?_
  refine lv_icmp_eq (tgt := 16) hx hb dX8_whyNoSeries_2 (by decide) (fun c2 => ?_) (fun c2 => ?_)
  · replace h := br_t' h c2
    refine lv_iload_n hx hb dX8_whyNoSeries_16 rfl (lv_at hl 2 rfl) ?_
    refine lv_iload_n hx hb dX8_whyNoSeries_17 rfl (lv_at hl 3 rfl) ?_
    obtain ⟨r18, q18, h⟩ := bd h
    refine k_callS (nC := 2) [oX8 a g_undos g_listed g_papers g_length g_besides g_gapFirst g_gapLast g_layings g_first g_behind g_clauses g_drafts, ar cI (a 1) 5058 g_row] C hl.1 (tX8_isRange q18) mL_X8_203 mmX8_isRange rfl rfl ⟨Nat.le_of_ble_eq_true rfl, Nat.le_of_ble_eq_true rfl⟩ rfl rfl (Nat.le_of_ble_eq_true rfl) hA hw [] [0, 1] rfl (by decide +kernel) rfl rfl rfl rfl dX8_whyNoSeries_18 (fun H locs hw18 => ?_)
    refine lv_if_ne (tgt := 27) hx hb dX8_whyNoSeries_21 (by decide) (fun c21 => ?_) (fun c21 => ?_)
    · replace h := br_f' h c21
      refine lv_iload_n hx hb dX8_whyNoSeries_27 rfl (lv_at hl 1 rfl) ?_
      refine lv_iconst (v := (-1)) hx hb dX8_whyNoSeries_28 (by decide) ?_
      refine lv_icmp_eq (tgt := 50) hx hb dX8_whyNoSeries_29 (by decide) (fun c29 => ?_) (fun c29 => ?_)
      · replace h := br_t' h c29
        refine lv_iconst (v := 1) hx hb dX8_whyNoSeries_50 (by decide) ?_
        refine lv_goto (tgt := 55) hx hb dX8_whyNoSeries_51 (by decide) ?_
        refine lv_istore (lv' := [(4, .int 1), (0, .ref (a 0)), (1, .int x1), (2, .int x2), (3, .int x3)]) hx hb dX8_whyNoSeries_55 hl (by decide) rfl (fun ls hl => ?_)
        refine lv_iconst (v := 0) hx hb dX8_whyNoSeries_57 (by decide) ?_
        refine lv_istore (lv' := [(5, .int 0), (4, .int 1), (0, .ref (a 0)), (1, .int x1), (2, .int x2), (3, .int x3)]) hx hb dX8_whyNoSeries_58 hl (by decide) rfl (fun ls hl => ?_)
        refine wX8_whyNoSeries_60 C hA _ (fun x4_60 x5_60 H locs ls hw60x hl h => ?_) FU _ _ _ _ _ hw18 (lv_sub hl [2, 3, 4, 5, 1, 0] rfl) h
        refine lv_iload hx hb dX8_whyNoSeries_119 (lv_at hl 4 rfl) ?_
        refine lv_if_ne (tgt := 129) hx hb dX8_whyNoSeries_121 (by decide) (fun c121 => ?_) (fun c121 => ?_)
        · replace h := br_f' h c121
          refine lv_aload_n hx hb dX8_whyNoSeries_129 rfl (lv_at hl 0 rfl) ?_
          refine k_get C inT_X8 hw60x 0 rfl rfl 0 (by decide) mF_X8_7 rfl dX8_whyNoSeries_130 ?_
          refine lv_iconst (v := 0) hx hb dX8_whyNoSeries_133 (by decide) ?_
          obtain ⟨y134, q134, h⟩ := bd h
          refine k_iald C hw60x 1 rfl q134 dX8_whyNoSeries_134 ?_
          refine lv_bipush (v := 10) hx hb dX8_whyNoSeries_135 (by decide) ?_
          refine lv_icmp_ne (tgt := 145) hx hb dX8_whyNoSeries_137 (by decide) (fun c137 => ?_) (fun c137 => ?_)
          · replace h := br_f' h c137
            refine lv_iconst (v := 0) hx hb dX8_whyNoSeries_145 (by decide) ?_
            cases h
            exact k_iret C hw60x dX8_whyNoSeries_146
          · replace h := br_t' h c137
            refine lv_bipush (v := (-5)) hx hb dX8_whyNoSeries_140 (by decide) ?_
            refine lv_goto (tgt := 146) hx hb dX8_whyNoSeries_142 (by decide) ?_
            cases h
            exact k_iret C hw60x dX8_whyNoSeries_146
        · replace h := br_t' h c121
          refine lv_bipush (v := (-4)) hx hb dX8_whyNoSeries_124 (by decide) ?_
          refine lv_goto (tgt := 146) hx hb dX8_whyNoSeries_126 (by decide) ?_
          cases h
          exact k_iret C hw60x dX8_whyNoSeries_146
      · replace h := br_f' h c29
        refine lv_iload_n hx hb dX8_whyNoSeries_32 rfl (lv_at hl 2 rfl) ?_
        refine lv_aload_n hx hb dX8_whyNoSeries_33 rfl (lv_at hl 0 rfl) ?_
        refine lv_iload_n hx hb dX8_whyNoSeries_34 rfl (lv_at hl 1 rfl) ?_
        obtain ⟨r35, q35, h⟩ := bd h
        refine k_callV (nC := 2) [oX8 a g_undos g_listed g_papers g_length g_besides g_gapFirst g_gapLast g_layings g_first g_behind g_clauses g_drafts, ar cI (a 1) 5058 g_row] C hl.1 (tX8_firstOf (a := a) q35) mL_X8_93 mmX8_firstOf rfl rfl ⟨Nat.le_of_ble_eq_true rfl, Nat.le_of_ble_eq_true rfl⟩ rfl rfl rfl rfl (Nat.le_of_ble_eq_true rfl) hA hw18 [0, 1] [] rfl (by decide +kernel) rfl rfl rfl rfl dX8_whyNoSeries_35 (fun H locs hw35 => ?_)
        refine lv_icmp_lt (tgt := 54) hx hb dX8_whyNoSeries_38 (by decide) (fun c38 => ?_) (fun c38 => ?_)
        · replace h := br_t' h c38
          refine lv_iconst (v := 0) hx hb dX8_whyNoSeries_54 (by decide) ?_
          refine lv_istore (lv' := [(4, .int 0), (0, .ref (a 0)), (1, .int x1), (2, .int x2), (3, .int x3)]) hx hb dX8_whyNoSeries_55 hl (by decide) rfl (fun ls hl => ?_)
          refine lv_iconst (v := 0) hx hb dX8_whyNoSeries_57 (by decide) ?_
          refine lv_istore (lv' := [(5, .int 0), (4, .int 0), (0, .ref (a 0)), (1, .int x1), (2, .int x2), (3, .int x3)]) hx hb dX8_whyNoSeries_58 hl (by decide) rfl (fun ls hl => ?_)
          refine wX8_whyNoSeries_60 C hA _ (fun x4_60 x5_60 H locs ls hw60x hl h => ?_) FU _ _ _ _ _ hw35 (lv_sub hl [2, 3, 4, 5, 1, 0] rfl) h
          refine lv_iload hx hb dX8_whyNoSeries_119 (lv_at hl 4 rfl) ?_
          refine lv_if_ne (tgt := 129) hx hb dX8_whyNoSeries_121 (by decide) (fun c121 => ?_) (fun c121 => ?_)
          · replace h := br_f' h c121
            refine lv_aload_n hx hb dX8_whyNoSeries_129 rfl (lv_at hl 0 rfl) ?_
            refine k_get C inT_X8 hw60x 0 rfl rfl 0 (by decide) mF_X8_7 rfl dX8_whyNoSeries_130 ?_
            refine lv_iconst (v := 0) hx hb dX8_whyNoSeries_133 (by decide) ?_
            obtain ⟨y134, q134, h⟩ := bd h
            refine k_iald C hw60x 1 rfl q134 dX8_whyNoSeries_134 ?_
            refine lv_bipush (v := 10) hx hb dX8_whyNoSeries_135 (by decide) ?_
            refine lv_icmp_ne (tgt := 145) hx hb dX8_whyNoSeries_137 (by decide) (fun c137 => ?_) (fun c137 => ?_)
            · replace h := br_f' h c137
              refine lv_iconst (v := 0) hx hb dX8_whyNoSeries_145 (by decide) ?_
              cases h
              exact k_iret C hw60x dX8_whyNoSeries_146
            · replace h := br_t' h c137
              refine lv_bipush (v := (-5)) hx hb dX8_whyNoSeries_140 (by decide) ?_
              refine lv_goto (tgt := 146) hx hb dX8_whyNoSeries_142 (by decide) ?_
              cases h
              exact k_iret C hw60x dX8_whyNoSeries_146
          · replace h := br_t' h c121
            refine lv_bipush (v := (-4)) hx hb dX8_whyNoSeries_124 (by decide) ?_
            refine lv_goto (tgt := 146) hx hb dX8_whyNoSeries_126 (by decide) ?_
            cases h
            exact k_iret C hw60x dX8_whyNoSeries_146
        · replace h := br_f' h c38
          refine lv_iload_n hx hb dX8_whyNoSeries_41 rfl (lv_at hl 3 rfl) ?_
          refine lv_aload_n hx hb dX8_whyNoSeries_42 rfl (lv_at hl 0 rfl) ?_
          refine lv_iload_n hx hb dX8_whyNoSeries_43 rfl (lv_at hl 1 rfl) ?_
          obtain ⟨r44, q44, h⟩ := bd h
          refine k_callV (nC := 2) [oX8 a g_undos g_listed g_papers g_length g_besides g_gapFirst g_gapLast g_layings g_first g_behind g_clauses g_drafts, ar cI (a 1) 5058 g_row] C hl.1 (tX8_lastOf (a := a) q44) mL_X8_97 mmX8_lastOf rfl rfl ⟨Nat.le_of_ble_eq_true rfl, Nat.le_of_ble_eq_true rfl⟩ rfl rfl rfl rfl (Nat.le_of_ble_eq_true rfl) hA hw35 [0, 1] [] rfl (by decide +kernel) rfl rfl rfl rfl dX8_whyNoSeries_44 (fun H locs hw44 => ?_)
          refine lv_icmp_gt (tgt := 54) hx hb dX8_whyNoSeries_47 (by decide) (fun c47 => ?_) (fun c47 => ?_)
          · replace h := br_t' h c47
            refine lv_iconst (v := 0) hx hb dX8_whyNoSeries_54 (by decide) ?_
            refine lv_istore (lv' := [(4, .int 0), (0, .ref (a 0)), (1, .int x1), (2, .int x2), (3, .int x3)]) hx hb dX8_whyNoSeries_55 hl (by decide) rfl (fun ls hl => ?_)
            refine lv_iconst (v := 0) hx hb dX8_whyNoSeries_57 (by decide) ?_
            refine lv_istore (lv' := [(5, .int 0), (4, .int 0), (0, .ref (a 0)), (1, .int x1), (2, .int x2), (3, .int x3)]) hx hb dX8_whyNoSeries_58 hl (by decide) rfl (fun ls hl => ?_)
            refine wX8_whyNoSeries_60 C hA _ (fun x4_60 x5_60 H locs ls hw60x hl h => ?_) FU _ _ _ _ _ hw44 (lv_sub hl [2, 3, 4, 5, 1, 0] rfl) h
            refine lv_iload hx hb dX8_whyNoSeries_119 (lv_at hl 4 rfl) ?_
            refine lv_if_ne (tgt := 129) hx hb dX8_whyNoSeries_121 (by decide) (fun c121 => ?_) (fun c121 => ?_)
            · replace h := br_f' h c121
              refine lv_aload_n hx hb dX8_whyNoSeries_129 rfl (lv_at hl 0 rfl) ?_
              refine k_get C inT_X8 hw60x 0 rfl rfl 0 (by decide) mF_X8_7 rfl dX8_whyNoSeries_130 ?_
              refine lv_iconst (v := 0) hx hb dX8_whyNoSeries_133 (by decide) ?_
              obtain ⟨y134, q134, h⟩ := bd h
              refine k_iald C hw60x 1 rfl q134 dX8_whyNoSeries_134 ?_
              refine lv_bipush (v := 10) hx hb dX8_whyNoSeries_135 (by decide) ?_
              refine lv_icmp_ne (tgt := 145) hx hb dX8_whyNoSeries_137 (by decide) (fun c137 => ?_) (fun c137 => ?_)
              · replace h := br_f' h c137
                refine lv_iconst (v := 0) hx hb dX8_whyNoSeries_145 (by decide) ?_
                cases h
                exact k_iret C hw60x dX8_whyNoSeries_146
              · replace h := br_t' h c137
                refine lv_bipush (v := (-5)) hx hb dX8_whyNoSeries_140 (by decide) ?_
                refine lv_goto (tgt := 146) hx hb dX8_whyNoSeries_142 (by decide) ?_
                cases h
                exact k_iret C hw60x dX8_whyNoSeries_146
            · replace h := br_t' h c121
              refine lv_bipush (v := (-4)) hx hb dX8_whyNoSeries_124 (by decide) ?_
              refine lv_goto (tgt := 146) hx hb dX8_whyNoSeries_126 (by decide) ?_
              cases h
              exact k_iret C hw60x dX8_whyNoSeries_146
          · replace h := br_f' h c47
            refine lv_iconst (v := 1) hx hb dX8_whyNoSeries_50 (by decide) ?_
            refine lv_goto (tgt := 55) hx hb dX8_whyNoSeries_51 (by decide) ?_
            refine lv_istore (lv' := [(4, .int 1), (0, .ref (a 0)), (1, .int x1), (2, .int x2), (3, .int x3)]) hx hb dX8_whyNoSeries_55 hl (by decide) rfl (fun ls hl => ?_)
            refine lv_iconst (v := 0) hx hb dX8_whyNoSeries_57 (by decide) ?_
            refine lv_istore (lv' := [(5, .int 0), (4, .int 1), (0, .ref (a 0)), (1, .int x1), (2, .int x2), (3, .int x3)]) hx hb dX8_whyNoSeries_58 hl (by decide) rfl (fun ls hl => ?_)
            refine wX8_whyNoSeries_60 C hA _ (fun x4_60 x5_60 H locs ls hw60x hl h => ?_) FU _ _ _ _ _ hw44 (lv_sub hl [2, 3, 4, 5, 1, 0] rfl) h
            refine lv_iload hx hb dX8_whyNoSeries_119 (lv_at hl 4 rfl) ?_
            refine lv_if_ne (tgt := 129) hx hb dX8_whyNoSeries_121 (by decide) (fun c121 => ?_) (fun c121 => ?_)
            · replace h := br_f' h c121
              refine lv_aload_n hx hb dX8_whyNoSeries_129 rfl (lv_at hl 0 rfl) ?_
              refine k_get C inT_X8 hw60x 0 rfl rfl 0 (by decide) mF_X8_7 rfl dX8_whyNoSeries_130 ?_
              refine lv_iconst (v := 0) hx hb dX8_whyNoSeries_133 (by decide) ?_
              obtain ⟨y134, q134, h⟩ := bd h
              refine k_iald C hw60x 1 rfl q134 dX8_whyNoSeries_134 ?_
              refine lv_bipush (v := 10) hx hb dX8_whyNoSeries_135 (by decide) ?_
              refine lv_icmp_ne (tgt := 145) hx hb dX8_whyNoSeries_137 (by decide) (fun c137 => ?_) (fun c137 => ?_)
              · replace h := br_f' h c137
                refine lv_iconst (v := 0) hx hb dX8_whyNoSeries_145 (by decide) ?_
                cases h
                exact k_iret C hw60x dX8_whyNoSeries_146
              · replace h := br_t' h c137
                refine lv_bipush (v := (-5)) hx hb dX8_whyNoSeries_140 (by decide) ?_
                refine lv_goto (tgt := 146) hx hb dX8_whyNoSeries_142 (by decide) ?_
                cases h
                exact k_iret C hw60x dX8_whyNoSeries_146
            · replace h := br_t' h c121
              refine lv_bipush (v := (-4)) hx hb dX8_whyNoSeries_124 (by decide) ?_
              refine lv_goto (tgt := 146) hx hb dX8_whyNoSeries_126 (by decide) ?_
              cases h
              exact k_iret C hw60x dX8_whyNoSeries_146
    · replace h := br_t' h c21
      refine lv_bipush (v := (-3)) hx hb dX8_whyNoSeries_24 (by decide) ?_
      cases h
      exact k_iret C hw18 dX8_whyNoSeries_26
  · replace h := br_f' h c2
    refine lv_aload_n hx hb dX8_whyNoSeries_5 rfl (lv_at hl 0 rfl) ?_
    refine lv_iload_n hx hb dX8_whyNoSeries_6 rfl (lv_at hl 1 rfl) ?_
    obtain ⟨r7, q7, h⟩ := bd h
    refine k_callV (nC := 2) [oX8 a g_undos g_listed g_papers g_length g_besides g_gapFirst g_gapLast g_layings g_first g_behind g_clauses g_drafts, ar cI (a 1) 5058 g_row] C hl.1 (tX8_isSeries (a := a) q7) mL_X8_200 mmX8_isSeries rfl rfl ⟨Nat.le_of_ble_eq_true rfl, Nat.le_of_ble_eq_true rfl⟩ rfl rfl rfl rfl (Nat.le_of_ble_eq_true rfl) hA hw [0, 1] [] rfl (by decide +kernel) rfl rfl rfl rfl dX8_whyNoSeries_7 (fun H locs hw7 => ?_)
    refine lv_if_ne (tgt := 16) hx hb dX8_whyNoSeries_10 (by decide) (fun c10 => ?_) (fun c10 => ?_)
    · replace h := br_f' h c10
      refine lv_iload_n hx hb dX8_whyNoSeries_16 rfl (lv_at hl 2 rfl) ?_
      refine lv_iload_n hx hb dX8_whyNoSeries_17 rfl (lv_at hl 3 rfl) ?_
      obtain ⟨r18, q18, h⟩ := bd h
      refine k_callS (nC := 2) [oX8 a g_undos g_listed g_papers g_length g_besides g_gapFirst g_gapLast g_layings g_first g_behind g_clauses g_drafts, ar cI (a 1) 5058 g_row] C hl.1 (tX8_isRange q18) mL_X8_203 mmX8_isRange rfl rfl ⟨Nat.le_of_ble_eq_true rfl, Nat.le_of_ble_eq_true rfl⟩ rfl rfl (Nat.le_of_ble_eq_true rfl) hA hw7 [] [0, 1] rfl (by decide +kernel) rfl rfl rfl rfl dX8_whyNoSeries_18 (fun H locs hw18 => ?_)
      refine lv_if_ne (tgt := 27) hx hb dX8_whyNoSeries_21 (by decide) (fun c21 => ?_) (fun c21 => ?_)
      · replace h := br_f' h c21
        refine lv_iload_n hx hb dX8_whyNoSeries_27 rfl (lv_at hl 1 rfl) ?_
        refine lv_iconst (v := (-1)) hx hb dX8_whyNoSeries_28 (by decide) ?_
        refine lv_icmp_eq (tgt := 50) hx hb dX8_whyNoSeries_29 (by decide) (fun c29 => ?_) (fun c29 => ?_)
        · replace h := br_t' h c29
          refine lv_iconst (v := 1) hx hb dX8_whyNoSeries_50 (by decide) ?_
          refine lv_goto (tgt := 55) hx hb dX8_whyNoSeries_51 (by decide) ?_
          refine lv_istore (lv' := [(4, .int 1), (0, .ref (a 0)), (1, .int x1), (2, .int x2), (3, .int x3)]) hx hb dX8_whyNoSeries_55 hl (by decide) rfl (fun ls hl => ?_)
          refine lv_iconst (v := 0) hx hb dX8_whyNoSeries_57 (by decide) ?_
          refine lv_istore (lv' := [(5, .int 0), (4, .int 1), (0, .ref (a 0)), (1, .int x1), (2, .int x2), (3, .int x3)]) hx hb dX8_whyNoSeries_58 hl (by decide) rfl (fun ls hl => ?_)
          refine wX8_whyNoSeries_60 C hA _ (fun x4_60 x5_60 H locs ls hw60x hl h => ?_) FU _ _ _ _ _ hw18 (lv_sub hl [2, 3, 4, 5, 1, 0] rfl) h
          refine lv_iload hx hb dX8_whyNoSeries_119 (lv_at hl 4 rfl) ?_
          refine lv_if_ne (tgt := 129) hx hb dX8_whyNoSeries_121 (by decide) (fun c121 => ?_) (fun c121 => ?_)
          · replace h := br_f' h c121
            refine lv_aload_n hx hb dX8_whyNoSeries_129 rfl (lv_at hl 0 rfl) ?_
            refine k_get C inT_X8 hw60x 0 rfl rfl 0 (by decide) mF_X8_7 rfl dX8_whyNoSeries_130 ?_
            refine lv_iconst (v := 0) hx hb dX8_whyNoSeries_133 (by decide) ?_
            obtain ⟨y134, q134, h⟩ := bd h
            refine k_iald C hw60x 1 rfl q134 dX8_whyNoSeries_134 ?_
            refine lv_bipush (v := 10) hx hb dX8_whyNoSeries_135 (by decide) ?_
            refine lv_icmp_ne (tgt := 145) hx hb dX8_whyNoSeries_137 (by decide) (fun c137 => ?_) (fun c137 => ?_)
            · replace h := br_f' h c137
              refine lv_iconst (v := 0) hx hb dX8_whyNoSeries_145 (by decide) ?_
              cases h
              exact k_iret C hw60x dX8_whyNoSeries_146
            · replace h := br_t' h c137
              refine lv_bipush (v := (-5)) hx hb dX8_whyNoSeries_140 (by decide) ?_
              refine lv_goto (tgt := 146) hx hb dX8_whyNoSeries_142 (by decide) ?_
              cases h
              exact k_iret C hw60x dX8_whyNoSeries_146
          · replace h := br_t' h c121
            refine lv_bipush (v := (-4)) hx hb dX8_whyNoSeries_124 (by decide) ?_
            refine lv_goto (tgt := 146) hx hb dX8_whyNoSeries_126 (by decide) ?_
            cases h
            exact k_iret C hw60x dX8_whyNoSeries_146
        · replace h := br_f' h c29
          refine lv_iload_n hx hb dX8_whyNoSeries_32 rfl (lv_at hl 2 rfl) ?_
          refine lv_aload_n hx hb dX8_whyNoSeries_33 rfl (lv_at hl 0 rfl) ?_
          refine lv_iload_n hx hb dX8_whyNoSeries_34 rfl (lv_at hl 1 rfl) ?_
          obtain ⟨r35, q35, h⟩ := bd h
          refine k_callV (nC := 2) [oX8 a g_undos g_listed g_papers g_length g_besides g_gapFirst g_gapLast g_layings g_first g_behind g_clauses g_drafts, ar cI (a 1) 5058 g_row] C hl.1 (tX8_firstOf (a := a) q35) mL_X8_93 mmX8_firstOf rfl rfl ⟨Nat.le_of_ble_eq_true rfl, Nat.le_of_ble_eq_true rfl⟩ rfl rfl rfl rfl (Nat.le_of_ble_eq_true rfl) hA hw18 [0, 1] [] rfl (by decide +kernel) rfl rfl rfl rfl dX8_whyNoSeries_35 (fun H locs hw35 => ?_)
          refine lv_icmp_lt (tgt := 54) hx hb dX8_whyNoSeries_38 (by decide) (fun c38 => ?_) (fun c38 => ?_)
          · replace h := br_t' h c38
            refine lv_iconst (v := 0) hx hb dX8_whyNoSeries_54 (by decide) ?_
            refine lv_istore (lv' := [(4, .int 0), (0, .ref (a 0)), (1, .int x1), (2, .int x2), (3, .int x3)]) hx hb dX8_whyNoSeries_55 hl (by decide) rfl (fun ls hl => ?_)
            refine lv_iconst (v := 0) hx hb dX8_whyNoSeries_57 (by decide) ?_
            refine lv_istore (lv' := [(5, .int 0), (4, .int 0), (0, .ref (a 0)), (1, .int x1), (2, .int x2), (3, .int x3)]) hx hb dX8_whyNoSeries_58 hl (by decide) rfl (fun ls hl => ?_)
            refine wX8_whyNoSeries_60 C hA _ (fun x4_60 x5_60 H locs ls hw60x hl h => ?_) FU _ _ _ _ _ hw35 (lv_sub hl [2, 3, 4, 5, 1, 0] rfl) h
            refine lv_iload hx hb dX8_whyNoSeries_119 (lv_at hl 4 rfl) ?_
            refine lv_if_ne (tgt := 129) hx hb dX8_whyNoSeries_121 (by decide) (fun c121 => ?_) (fun c121 => ?_)
            · replace h := br_f' h c121
              refine lv_aload_n hx hb dX8_whyNoSeries_129 rfl (lv_at hl 0 rfl) ?_
              refine k_get C inT_X8 hw60x 0 rfl rfl 0 (by decide) mF_X8_7 rfl dX8_whyNoSeries_130 ?_
              refine lv_iconst (v := 0) hx hb dX8_whyNoSeries_133 (by decide) ?_
              obtain ⟨y134, q134, h⟩ := bd h
              refine k_iald C hw60x 1 rfl q134 dX8_whyNoSeries_134 ?_
              refine lv_bipush (v := 10) hx hb dX8_whyNoSeries_135 (by decide) ?_
              refine lv_icmp_ne (tgt := 145) hx hb dX8_whyNoSeries_137 (by decide) (fun c137 => ?_) (fun c137 => ?_)
              · replace h := br_f' h c137
                refine lv_iconst (v := 0) hx hb dX8_whyNoSeries_145 (by decide) ?_
                cases h
                exact k_iret C hw60x dX8_whyNoSeries_146
              · replace h := br_t' h c137
                refine lv_bipush (v := (-5)) hx hb dX8_whyNoSeries_140 (by decide) ?_
                refine lv_goto (tgt := 146) hx hb dX8_whyNoSeries_142 (by decide) ?_
                cases h
                exact k_iret C hw60x dX8_whyNoSeries_146
            · replace h := br_t' h c121
              refine lv_bipush (v := (-4)) hx hb dX8_whyNoSeries_124 (by decide) ?_
              refine lv_goto (tgt := 146) hx hb dX8_whyNoSeries_126 (by decide) ?_
              cases h
              exact k_iret C hw60x dX8_whyNoSeries_146
          · replace h := br_f' h c38
            refine lv_iload_n hx hb dX8_whyNoSeries_41 rfl (lv_at hl 3 rfl) ?_
            refine lv_aload_n hx hb dX8_whyNoSeries_42 rfl (lv_at hl 0 rfl) ?_
            refine lv_iload_n hx hb dX8_whyNoSeries_43 rfl (lv_at hl 1 rfl) ?_
            obtain ⟨r44, q44, h⟩ := bd h
            refine k_callV (nC := 2) [oX8 a g_undos g_listed g_papers g_length g_besides g_gapFirst g_gapLast g_layings g_first g_behind g_clauses g_drafts, ar cI (a 1) 5058 g_row] C hl.1 (tX8_lastOf (a := a) q44) mL_X8_97 mmX8_lastOf rfl rfl ⟨Nat.le_of_ble_eq_true rfl, Nat.le_of_ble_eq_true rfl⟩ rfl rfl rfl rfl (Nat.le_of_ble_eq_true rfl) hA hw35 [0, 1] [] rfl (by decide +kernel) rfl rfl rfl rfl dX8_whyNoSeries_44 (fun H locs hw44 => ?_)
            refine lv_icmp_gt (tgt := 54) hx hb dX8_whyNoSeries_47 (by decide) (fun c47 => ?_) (fun c47 => ?_)
            · replace h := br_t' h c47
              refine lv_iconst (v := 0) hx hb dX8_whyNoSeries_54 (by decide) ?_
              refine lv_istore (lv' := [(4, .int 0), (0, .ref (a 0)), (1, .int x1), (2, .int x2), (3, .int x3)]) hx hb dX8_whyNoSeries_55 hl (by decide) rfl (fun ls hl => ?_)
              refine lv_iconst (v := 0) hx hb dX8_whyNoSeries_57 (by decide) ?_
              refine lv_istore (lv' := [(5, .int 0), (4, .int 0), (0, .ref (a 0)), (1, .int x1), (2, .int x2), (3, .int x3)]) hx hb dX8_whyNoSeries_58 hl (by decide) rfl (fun ls hl => ?_)
              refine wX8_whyNoSeries_60 C hA _ (fun x4_60 x5_60 H locs ls hw60x hl h => ?_) FU _ _ _ _ _ hw44 (lv_sub hl [2, 3, 4, 5, 1, 0] rfl) h
              refine lv_iload hx hb dX8_whyNoSeries_119 (lv_at hl 4 rfl) ?_
              refine lv_if_ne (tgt := 129) hx hb dX8_whyNoSeries_121 (by decide) (fun c121 => ?_) (fun c121 => ?_)
              · replace h := br_f' h c121
                refine lv_aload_n hx hb dX8_whyNoSeries_129 rfl (lv_at hl 0 rfl) ?_
                refine k_get C inT_X8 hw60x 0 rfl rfl 0 (by decide) mF_X8_7 rfl dX8_whyNoSeries_130 ?_
                refine lv_iconst (v := 0) hx hb dX8_whyNoSeries_133 (by decide) ?_
                obtain ⟨y134, q134, h⟩ := bd h
                refine k_iald C hw60x 1 rfl q134 dX8_whyNoSeries_134 ?_
                refine lv_bipush (v := 10) hx hb dX8_whyNoSeries_135 (by decide) ?_
                refine lv_icmp_ne (tgt := 145) hx hb dX8_whyNoSeries_137 (by decide) (fun c137 => ?_) (fun c137 => ?_)
                · replace h := br_f' h c137
                  refine lv_iconst (v := 0) hx hb dX8_whyNoSeries_145 (by decide) ?_
                  cases h
                  exact k_iret C hw60x dX8_whyNoSeries_146
                · replace h := br_t' h c137
                  refine lv_bipush (v := (-5)) hx hb dX8_whyNoSeries_140 (by decide) ?_
                  refine lv_goto (tgt := 146) hx hb dX8_whyNoSeries_142 (by decide) ?_
                  cases h
                  exact k_iret C hw60x dX8_whyNoSeries_146
              · replace h := br_t' h c121
                refine lv_bipush (v := (-4)) hx hb dX8_whyNoSeries_124 (by decide) ?_
                refine lv_goto (tgt := 146) hx hb dX8_whyNoSeries_126 (by decide) ?_
                cases h
                exact k_iret C hw60x dX8_whyNoSeries_146
            · replace h := br_f' h c47
              refine lv_iconst (v := 1) hx hb dX8_whyNoSeries_50 (by decide) ?_
              refine lv_goto (tgt := 55) hx hb dX8_whyNoSeries_51 (by decide) ?_
              refine lv_istore (lv' := [(4, .int 1), (0, .ref (a 0)), (1, .int x1), (2, .int x2), (3, .int x3)]) hx hb dX8_whyNoSeries_55 hl (by decide) rfl (fun ls hl => ?_)
              refine lv_iconst (v := 0) hx hb dX8_whyNoSeries_57 (by decide) ?_
              refine lv_istore (lv' := [(5, .int 0), (4, .int 1), (0, .ref (a 0)), (1, .int x1), (2, .int x2), (3, .int x3)]) hx hb dX8_whyNoSeries_58 hl (by decide) rfl (fun ls hl => ?_)
              refine wX8_whyNoSeries_60 C hA _ (fun x4_60 x5_60 H locs ls hw60x hl h => ?_) FU _ _ _ _ _ hw44 (lv_sub hl [2, 3, 4, 5, 1, 0] rfl) h
              refine lv_iload hx hb dX8_whyNoSeries_119 (lv_at hl 4 rfl) ?_
              refine lv_if_ne (tgt := 129) hx hb dX8_whyNoSeries_121 (by decide) (fun c121 => ?_) (fun c121 => ?_)
              · replace h := br_f' h c121
                refine lv_aload_n hx hb dX8_whyNoSeries_129 rfl (lv_at hl 0 rfl) ?_
                refine k_get C inT_X8 hw60x 0 rfl rfl 0 (by decide) mF_X8_7 rfl dX8_whyNoSeries_130 ?_
                refine lv_iconst (v := 0) hx hb dX8_whyNoSeries_133 (by decide) ?_
                obtain ⟨y134, q134, h⟩ := bd h
                refine k_iald C hw60x 1 rfl q134 dX8_whyNoSeries_134 ?_
                refine lv_bipush (v := 10) hx hb dX8_whyNoSeries_135 (by decide) ?_
                refine lv_icmp_ne (tgt := 145) hx hb dX8_whyNoSeries_137 (by decide) (fun c137 => ?_) (fun c137 => ?_)
                · replace h := br_f' h c137
                  refine lv_iconst (v := 0) hx hb dX8_whyNoSeries_145 (by decide) ?_
                  cases h
                  exact k_iret C hw60x dX8_whyNoSeries_146
                · replace h := br_t' h c137
                  refine lv_bipush (v := (-5)) hx hb dX8_whyNoSeries_140 (by decide) ?_
                  refine lv_goto (tgt := 146) hx hb dX8_whyNoSeries_142 (by decide) ?_
                  cases h
                  exact k_iret C hw60x dX8_whyNoSeries_146
              · replace h := br_t' h c121
                refine lv_bipush (v := (-4)) hx hb dX8_whyNoSeries_124 (by decide) ?_
                refine lv_goto (tgt := 146) hx hb dX8_whyNoSeries_126 (by decide) ?_
                cases h
                exact k_iret C hw60x dX8_whyNoSeries_146
      · replace h := br_t' h c21
        refine lv_bipush (v := (-3)) hx hb dX8_whyNoSeries_24 (by decide) ?_
        cases h
        exact k_iret C hw18 dX8_whyNoSeries_26
    · replace h := br_t' h c10
      refine lv_bipush (v := (-2)) hx hb dX8_whyNoSeries_13 (by decide) ?_
      cases h
      exact k_iret C hw7 dX8_whyNoSeries_15
def rmX8_adds : Room := { frames := 3, cells := 0, slots := 0, locals := 71 }
def fX8_adds (g_row : Nat → Int32) (x1 : Int32) (x2 : Int32) (x3 : Int32) : Option ((Nat → Int32)) :=
  (fX8_whyNoSeries g_row x1 x2 x3).bind fun r4 =>
  if r4 = 0 then
    (ld 5058 g_row 0).bind fun y18 =>
    (sv 5058 g_row (4 + (3 * y18)) x1).bind fun g30 =>
    (sv 5058 g30 ((4 + (3 * y18)) + 1) x2).bind fun g40 =>
    (sv 5058 g40 ((4 + (3 * y18)) + 2) x3).bind fun g50 =>
    (ld 5058 g50 0).bind fun y57 =>
    (sv 5058 g50 0 (y57 + 1)).bind fun g60 =>
    some g60
  else
    some g_row
set_option maxRecDepth 100000 in
set_option maxHeartbeats 4000000 in
theorem tX8_adds {l : Launch} {D : va_G} {cI : ClassId} {cS : GS} {a : Nat → Nat} {g_row : Nat → Int32} {g_undos : Int32} {g_listed : Int32} {g_papers : Int32} {g_length : Int32} {g_besides : Int32} {g_gapFirst : Int32} {g_gapLast : Int32} {g_layings : Int32} {g_first : Int32} {g_behind : Int32} {g_clauses : Int32} {g_drafts : Int32} {x1 : Int32} {x2 : Int32} {x3 : Int32} {s0 : (Nat → Int32)} (h : fX8_adds g_row x1 x2 x3 = some s0) : CT l D cI cS yX8_adds cX8_adds 5 none rmX8_adds [.ref (a 0), .int x1, .int x2, .int x3] [oX8 a g_undos g_listed g_papers g_length g_besides g_gapFirst g_gapLast g_layings g_first g_behind g_clauses g_drafts, ar cI (a 1) 5058 g_row] none [oX8 a g_undos g_listed g_papers g_length g_besides g_gapFirst g_gapLast g_layings g_first g_behind g_clauses g_drafts, ar cI (a 1) 5058 s0] := by
  refine CT.of RX8 (by decide) rfl (Nat.le_of_ble_eq_true rfl) (fun p e s m below meth c ls A C hA hl hw => ?_)
  have hx := C.1.1
  have hb := C.1.2.1
  have hl : lv_has ls 5 [(0, .ref (a 0)), (1, .int x1), (2, .int x2), (3, .int x3)] := hl
  unfold fX8_adds at h
  refine lv_aload_n hx hb dX8_adds_0 rfl (lv_at hl 0 rfl) ?_
  refine lv_iload_n hx hb dX8_adds_1 rfl (lv_at hl 1 rfl) ?_
  refine lv_iload_n hx hb dX8_adds_2 rfl (lv_at hl 2 rfl) ?_
  refine lv_iload_n hx hb dX8_adds_3 rfl (lv_at hl 3 rfl) ?_
  obtain ⟨r4, q4, h⟩ := bd h
  refine k_callV (nC := 2) [oX8 a g_undos g_listed g_papers g_length g_besides g_gapFirst g_gapLast g_layings g_first g_behind g_clauses g_drafts, ar cI (a 1) 5058 g_row] C hl.1 (tX8_whyNoSeries (a := a) q4) mL_X8_206 mmX8_whyNoSeries rfl rfl ⟨Nat.le_of_ble_eq_true rfl, Nat.le_of_ble_eq_true rfl⟩ rfl rfl rfl rfl (Nat.le_of_ble_eq_true rfl) hA hw [0, 1] [] rfl (by decide +kernel) rfl rfl rfl rfl dX8_adds_4 (fun H locs hw4 => ?_)
  refine lv_if_eq (tgt := 11) hx hb dX8_adds_7 (by decide) (fun c7 => ?_) (fun c7 => ?_)
  · replace h := br_t' h c7
    refine lv_iconst (v := 4) hx hb dX8_adds_11 (by decide) ?_
    refine lv_iconst (v := 3) hx hb dX8_adds_12 (by decide) ?_
    refine lv_aload_n hx hb dX8_adds_13 rfl (lv_at hl 0 rfl) ?_
    refine k_get C inT_X8 hw4 0 rfl rfl 0 (by decide) mF_X8_7 rfl dX8_adds_14 ?_
    refine lv_iconst (v := 0) hx hb dX8_adds_17 (by decide) ?_
    obtain ⟨y18, q18, h⟩ := bd h
    refine k_iald C hw4 1 rfl q18 dX8_adds_18 ?_
    refine lv_imul hx hb dX8_adds_19 ?_
    refine lv_iadd hx hb dX8_adds_20 ?_
    refine lv_istore (lv' := [(4, .int (4 + (3 * y18))), (0, .ref (a 0)), (1, .int x1), (2, .int x2), (3, .int x3)]) hx hb dX8_adds_21 hl (by decide) rfl (fun ls hl => ?_)
    refine lv_aload_n hx hb dX8_adds_23 rfl (lv_at hl 1 rfl) ?_
    refine k_get C inT_X8 hw4 0 rfl rfl 0 (by decide) mF_X8_7 rfl dX8_adds_24 ?_
    refine lv_iload hx hb dX8_adds_27 (lv_at hl 0 rfl) ?_
    refine lv_iload_n hx hb dX8_adds_29 rfl (lv_at hl 2 rfl) ?_
    obtain ⟨g30, q30, h⟩ := bd h
    refine k_iast C hw4 1 rfl q30 [oX8 a g_undos g_listed g_papers g_length g_besides g_gapFirst g_gapLast g_layings g_first g_behind g_clauses g_drafts, ar cI (a 1) 5058 g30] rfl dX8_adds_30 (fun H locs hw30 => ?_)
    refine lv_aload_n hx hb dX8_adds_31 rfl (lv_at hl 1 rfl) ?_
    refine k_get C inT_X8 hw30 0 rfl rfl 0 (by decide) mF_X8_7 rfl dX8_adds_32 ?_
    refine lv_iload hx hb dX8_adds_35 (lv_at hl 0 rfl) ?_
    refine lv_iconst (v := 1) hx hb dX8_adds_37 (by decide) ?_
    refine lv_iadd hx hb dX8_adds_38 ?_
    refine lv_iload_n hx hb dX8_adds_39 rfl (lv_at hl 3 rfl) ?_
    obtain ⟨g40, q40, h⟩ := bd h
    refine k_iast C hw30 1 rfl q40 [oX8 a g_undos g_listed g_papers g_length g_besides g_gapFirst g_gapLast g_layings g_first g_behind g_clauses g_drafts, ar cI (a 1) 5058 g40] rfl dX8_adds_40 (fun H locs hw40 => ?_)
    refine lv_aload_n hx hb dX8_adds_41 rfl (lv_at hl 1 rfl) ?_
    refine k_get C inT_X8 hw40 0 rfl rfl 0 (by decide) mF_X8_7 rfl dX8_adds_42 ?_
    refine lv_iload hx hb dX8_adds_45 (lv_at hl 0 rfl) ?_
    refine lv_iconst (v := 2) hx hb dX8_adds_47 (by decide) ?_
    refine lv_iadd hx hb dX8_adds_48 ?_
    refine lv_iload_n hx hb dX8_adds_49 rfl (lv_at hl 4 rfl) ?_
    obtain ⟨g50, q50, h⟩ := bd h
    refine k_iast C hw40 1 rfl q50 [oX8 a g_undos g_listed g_papers g_length g_besides g_gapFirst g_gapLast g_layings g_first g_behind g_clauses g_drafts, ar cI (a 1) 5058 g50] rfl dX8_adds_50 (fun H locs hw50 => ?_)
    refine lv_aload_n hx hb dX8_adds_51 rfl (lv_at hl 1 rfl) ?_
    refine k_get C inT_X8 hw50 0 rfl rfl 0 (by decide) mF_X8_7 rfl dX8_adds_52 ?_
    refine lv_iconst (v := 0) hx hb dX8_adds_55 (by decide) ?_
    refine lv_dup2_11 hx hb dX8_adds_56 rfl rfl ?_
    obtain ⟨y57, q57, h⟩ := bd h
    refine k_iald C hw50 1 rfl q57 dX8_adds_57 ?_
    refine lv_iconst (v := 1) hx hb dX8_adds_58 (by decide) ?_
    refine lv_iadd hx hb dX8_adds_59 ?_
    obtain ⟨g60, q60, h⟩ := bd h
    refine k_iast C hw50 1 rfl q60 [oX8 a g_undos g_listed g_papers g_length g_besides g_gapFirst g_gapLast g_layings g_first g_behind g_clauses g_drafts, ar cI (a 1) 5058 g60] rfl dX8_adds_60 (fun H locs hw60 => ?_)
    cases h
    exact k_vret C hw60 dX8_adds_61
  · replace h := br_f' h c7
    cases h
    exact k_vret C hw4 dX8_adds_10
def rmX8_brings : Room := { frames := 3, cells := 0, slots := 0, locals := 76 }
def fX8_brings (g_row : Nat → Int32) (g_beside : Nat → Int32) (g_besides : Int32) (x1 : Int32) (x2 : Int32) (x3 : Int32) : Option ((Nat → Int32) × (Nat → Int32) × Int32) :=
  (fX8_fits g_row g_beside g_besides x1 x2 x3).bind fun r4 =>
  if r4.1 = 0 then
    some (g_row, r4.2.1, r4.2.2)
  else
    (fX8_moves g_row r4.2.1 r4.2.2 x1 x2 x3).bind fun r14 =>
    some (r14, r4.2.1, r4.2.2)
set_option maxRecDepth 100000 in
set_option maxHeartbeats 4000000 in
theorem tX8_brings {l : Launch} {D : va_G} {cI : ClassId} {cS : GS} {a : Nat → Nat} {g_row : Nat → Int32} {g_undos : Int32} {g_listed : Int32} {g_papers : Int32} {g_length : Int32} {g_beside : Nat → Int32} {g_besides : Int32} {g_gapFirst : Int32} {g_gapLast : Int32} {g_layings : Int32} {g_first : Int32} {g_behind : Int32} {g_clauses : Int32} {g_drafts : Int32} {x1 : Int32} {x2 : Int32} {x3 : Int32} {s0 : (Nat → Int32)} {s1 : (Nat → Int32)} {s2 : Int32} (h : fX8_brings g_row g_beside g_besides x1 x2 x3 = some (s0, s1, s2)) : CT l D cI cS yX8_brings cX8_brings 4 none rmX8_brings [.ref (a 0), .int x1, .int x2, .int x3] [oX8 a g_undos g_listed g_papers g_length g_besides g_gapFirst g_gapLast g_layings g_first g_behind g_clauses g_drafts, ar cI (a 1) 5058 g_row, ar cI (a 9) 132 g_beside] none [oX8 a g_undos g_listed g_papers g_length s2 g_gapFirst g_gapLast g_layings g_first g_behind g_clauses g_drafts, ar cI (a 1) 5058 s0, ar cI (a 9) 132 s1] := by
  refine CT.of RX8 (by decide) rfl (Nat.le_of_ble_eq_true rfl) (fun p e s m below meth c ls A C hA hl hw => ?_)
  have hx := C.1.1
  have hb := C.1.2.1
  have hl : lv_has ls 4 [(0, .ref (a 0)), (1, .int x1), (2, .int x2), (3, .int x3)] := hl
  unfold fX8_brings at h
  refine lv_aload_n hx hb dX8_brings_0 rfl (lv_at hl 0 rfl) ?_
  refine lv_iload_n hx hb dX8_brings_1 rfl (lv_at hl 1 rfl) ?_
  refine lv_iload_n hx hb dX8_brings_2 rfl (lv_at hl 2 rfl) ?_
  refine lv_iload_n hx hb dX8_brings_3 rfl (lv_at hl 3 rfl) ?_
  obtain ⟨r4, q4, h⟩ := bd h
  refine k_callV (nC := 3) [oX8 a g_undos g_listed g_papers g_length r4.2.2 g_gapFirst g_gapLast g_layings g_first g_behind g_clauses g_drafts, ar cI (a 1) 5058 g_row, ar cI (a 9) 132 r4.2.1] C hl.1 (tX8_fits (a := a) q4) mL_X8_215 mmX8_fits rfl rfl ⟨Nat.le_of_ble_eq_true rfl, Nat.le_of_ble_eq_true rfl⟩ rfl rfl rfl rfl (Nat.le_of_ble_eq_true rfl) hA hw [0, 1, 2] [] rfl (by decide +kernel) rfl rfl rfl rfl dX8_brings_4 (fun H locs hw4 => ?_)
  refine lv_if_eq (tgt := 17) hx hb dX8_brings_7 (by decide) (fun c7 => ?_) (fun c7 => ?_)
  · replace h := br_t' h c7
    cases h
    exact k_vret C hw4 dX8_brings_17
  · replace h := br_f' h c7
    refine lv_aload_n hx hb dX8_brings_10 rfl (lv_at hl 0 rfl) ?_
    refine lv_iload_n hx hb dX8_brings_11 rfl (lv_at hl 1 rfl) ?_
    refine lv_iload_n hx hb dX8_brings_12 rfl (lv_at hl 2 rfl) ?_
    refine lv_iload_n hx hb dX8_brings_13 rfl (lv_at hl 3 rfl) ?_
    obtain ⟨r14, q14, h⟩ := bd h
    refine k_callV (nC := 3) [oX8 a g_undos g_listed g_papers g_length r4.2.2 g_gapFirst g_gapLast g_layings g_first g_behind g_clauses g_drafts, ar cI (a 1) 5058 r14, ar cI (a 9) 132 r4.2.1] C hl.1 (tX8_moves (a := a) q14) mL_X8_219 mmX8_moves rfl rfl ⟨Nat.le_of_ble_eq_true rfl, Nat.le_of_ble_eq_true rfl⟩ rfl rfl rfl rfl (Nat.le_of_ble_eq_true rfl) hA hw4 [0, 1, 2] [] rfl (by decide +kernel) rfl rfl rfl rfl dX8_brings_14 (fun H locs hw14 => ?_)
    cases h
    exact k_vret C hw14 dX8_brings_17
def rmX8_lists : Room := { frames := 0, cells := 0, slots := 0, locals := 0 }
def fX8_lists (g_list : Nat → Int32) (g_listed : Int32) (x1 : Int32) (x2 : Int32) (x3 : Int32) : Option ((Nat → Int32) × Int32) :=
  if g_listed = 12 then
    some (g_list, g_listed)
  else
    (sv 36 g_list (3 * g_listed) x1).bind fun g21 =>
    (sv 36 g21 ((3 * g_listed) + 1) x2).bind fun g35 =>
    (sv 36 g35 ((3 * g_listed) + 2) x3).bind fun g49 =>
    some (g49, (g_listed + 1))
set_option maxRecDepth 100000 in
set_option maxHeartbeats 4000000 in
theorem tX8_lists {l : Launch} {D : va_G} {cI : ClassId} {cS : GS} {a : Nat → Nat} {g_undos : Int32} {g_list : Nat → Int32} {g_listed : Int32} {g_papers : Int32} {g_length : Int32} {g_besides : Int32} {g_gapFirst : Int32} {g_gapLast : Int32} {g_layings : Int32} {g_first : Int32} {g_behind : Int32} {g_clauses : Int32} {g_drafts : Int32} {x1 : Int32} {x2 : Int32} {x3 : Int32} {s0 : (Nat → Int32)} {s1 : Int32} (h : fX8_lists g_list g_listed x1 x2 x3 = some (s0, s1)) : CT l D cI cS yX8_lists cX8_lists 4 none rmX8_lists [.ref (a 0), .int x1, .int x2, .int x3] [oX8 a g_undos g_listed g_papers g_length g_besides g_gapFirst g_gapLast g_layings g_first g_behind g_clauses g_drafts, ar cI (a 3) 36 g_list] none [oX8 a g_undos s1 g_papers g_length g_besides g_gapFirst g_gapLast g_layings g_first g_behind g_clauses g_drafts, ar cI (a 3) 36 s0] := by
  refine CT.of RX8 (by decide) rfl (Nat.le_of_ble_eq_true rfl) (fun p e s m below meth c ls A C hA hl hw => ?_)
  have hx := C.1.1
  have hb := C.1.2.1
  have hl : lv_has ls 4 [(0, .ref (a 0)), (1, .int x1), (2, .int x2), (3, .int x3)] := hl
  unfold fX8_lists at h
  refine lv_aload_n hx hb dX8_lists_0 rfl (lv_at hl 0 rfl) ?_
  refine k_get C inT_X8 hw 0 rfl rfl 3 (by decide) mF_X8_49 rfl dX8_lists_1 ?_
  refine lv_bipush (v := 12) hx hb dX8_lists_4 (by decide) ?_
  refine lv_icmp_ne (tgt := 10) hx hb dX8_lists_6 (by decide) (fun c6 => ?_) (fun c6 => ?_)
  · replace h := br_f' h c6
    refine lv_aload_n hx hb dX8_lists_10 rfl (lv_at hl 0 rfl) ?_
    refine k_get C inT_X8 hw 0 rfl rfl 2 (by decide) mF_X8_13 rfl dX8_lists_11 ?_
    refine lv_iconst (v := 3) hx hb dX8_lists_14 (by decide) ?_
    refine lv_aload_n hx hb dX8_lists_15 rfl (lv_at hl 0 rfl) ?_
    refine k_get C inT_X8 hw 0 rfl rfl 3 (by decide) mF_X8_49 rfl dX8_lists_16 ?_
    refine lv_imul hx hb dX8_lists_19 ?_
    refine lv_iload_n hx hb dX8_lists_20 rfl (lv_at hl 1 rfl) ?_
    obtain ⟨g21, q21, h⟩ := bd h
    refine k_iast C hw 1 rfl q21 [oX8 a g_undos g_listed g_papers g_length g_besides g_gapFirst g_gapLast g_layings g_first g_behind g_clauses g_drafts, ar cI (a 3) 36 g21] rfl dX8_lists_21 (fun H locs hw21 => ?_)
    refine lv_aload_n hx hb dX8_lists_22 rfl (lv_at hl 0 rfl) ?_
    refine k_get C inT_X8 hw21 0 rfl rfl 2 (by decide) mF_X8_13 rfl dX8_lists_23 ?_
    refine lv_iconst (v := 3) hx hb dX8_lists_26 (by decide) ?_
    refine lv_aload_n hx hb dX8_lists_27 rfl (lv_at hl 0 rfl) ?_
    refine k_get C inT_X8 hw21 0 rfl rfl 3 (by decide) mF_X8_49 rfl dX8_lists_28 ?_
    refine lv_imul hx hb dX8_lists_31 ?_
    refine lv_iconst (v := 1) hx hb dX8_lists_32 (by decide) ?_
    refine lv_iadd hx hb dX8_lists_33 ?_
    refine lv_iload_n hx hb dX8_lists_34 rfl (lv_at hl 2 rfl) ?_
    obtain ⟨g35, q35, h⟩ := bd h
    refine k_iast C hw21 1 rfl q35 [oX8 a g_undos g_listed g_papers g_length g_besides g_gapFirst g_gapLast g_layings g_first g_behind g_clauses g_drafts, ar cI (a 3) 36 g35] rfl dX8_lists_35 (fun H locs hw35 => ?_)
    refine lv_aload_n hx hb dX8_lists_36 rfl (lv_at hl 0 rfl) ?_
    refine k_get C inT_X8 hw35 0 rfl rfl 2 (by decide) mF_X8_13 rfl dX8_lists_37 ?_
    refine lv_iconst (v := 3) hx hb dX8_lists_40 (by decide) ?_
    refine lv_aload_n hx hb dX8_lists_41 rfl (lv_at hl 0 rfl) ?_
    refine k_get C inT_X8 hw35 0 rfl rfl 3 (by decide) mF_X8_49 rfl dX8_lists_42 ?_
    refine lv_imul hx hb dX8_lists_45 ?_
    refine lv_iconst (v := 2) hx hb dX8_lists_46 (by decide) ?_
    refine lv_iadd hx hb dX8_lists_47 ?_
    refine lv_iload_n hx hb dX8_lists_48 rfl (lv_at hl 3 rfl) ?_
    obtain ⟨g49, q49, h⟩ := bd h
    refine k_iast C hw35 1 rfl q49 [oX8 a g_undos g_listed g_papers g_length g_besides g_gapFirst g_gapLast g_layings g_first g_behind g_clauses g_drafts, ar cI (a 3) 36 g49] rfl dX8_lists_49 (fun H locs hw49 => ?_)
    refine lv_aload_n hx hb dX8_lists_50 rfl (lv_at hl 0 rfl) ?_
    refine lv_dup hx hb dX8_lists_51 rfl ?_
    refine k_get C inT_X8 hw49 0 rfl rfl 3 (by decide) mF_X8_49 rfl dX8_lists_52 ?_
    refine lv_iconst (v := 1) hx hb dX8_lists_55 (by decide) ?_
    refine lv_iadd hx hb dX8_lists_56 ?_
    refine k_put C inT_X8 tyX8 tyX8_ok nmX8 hw49 0 rfl rfl 3 (by decide) mF_X8_49 rfl rfl (Nat.le_of_ble_eq_true rfl) [oX8 a g_undos (g_listed + 1) g_papers g_length g_besides g_gapFirst g_gapLast g_layings g_first g_behind g_clauses g_drafts, ar cI (a 3) 36 g49] rfl dX8_lists_57 (fun H locs hw57 => ?_)
    cases h
    exact k_vret C hw57 dX8_lists_60
  · replace h := br_t' h c6
    cases h
    exact k_vret C hw dX8_lists_9
def rmX8_rooms : Room := { frames := 4, cells := 0, slots := 0, locals := 92 }
def fX8_rooms (g_row : Nat → Int32) (x1 : Int32) (x2 : Int32) : Option ((Nat → Int32)) :=
  (fX8_load g_row x1).bind fun r10 =>
  if r10 ≤ x2 then
    (sv 5058 g_row (34 + x1) x2).bind fun g30 =>
    some g30
  else
    (ld 5058 g_row (34 + x1)).bind fun y25 =>
    (sv 5058 g_row (34 + x1) y25).bind fun g30 =>
    some g30
set_option maxRecDepth 100000 in
set_option maxHeartbeats 4000000 in
theorem tX8_rooms {l : Launch} {D : va_G} {cI : ClassId} {cS : GS} {a : Nat → Nat} {g_row : Nat → Int32} {g_undos : Int32} {g_listed : Int32} {g_papers : Int32} {g_length : Int32} {g_besides : Int32} {g_gapFirst : Int32} {g_gapLast : Int32} {g_layings : Int32} {g_first : Int32} {g_behind : Int32} {g_clauses : Int32} {g_drafts : Int32} {x1 : Int32} {x2 : Int32} {s0 : (Nat → Int32)} (h : fX8_rooms g_row x1 x2 = some s0) : CT l D cI cS yX8_rooms cX8_rooms 3 none rmX8_rooms [.ref (a 0), .int x1, .int x2] [oX8 a g_undos g_listed g_papers g_length g_besides g_gapFirst g_gapLast g_layings g_first g_behind g_clauses g_drafts, ar cI (a 1) 5058 g_row] none [oX8 a g_undos g_listed g_papers g_length g_besides g_gapFirst g_gapLast g_layings g_first g_behind g_clauses g_drafts, ar cI (a 1) 5058 s0] := by
  refine CT.of RX8 (by decide) rfl (Nat.le_of_ble_eq_true rfl) (fun p e s m below meth c ls A C hA hl hw => ?_)
  have hx := C.1.1
  have hb := C.1.2.1
  have hl : lv_has ls 3 [(0, .ref (a 0)), (1, .int x1), (2, .int x2)] := hl
  unfold fX8_rooms at h
  refine lv_aload_n hx hb dX8_rooms_0 rfl (lv_at hl 0 rfl) ?_
  refine k_get C inT_X8 hw 0 rfl rfl 0 (by decide) mF_X8_7 rfl dX8_rooms_1 ?_
  refine lv_bipush (v := 34) hx hb dX8_rooms_4 (by decide) ?_
  refine lv_iload_n hx hb dX8_rooms_6 rfl (lv_at hl 1 rfl) ?_
  refine lv_iadd hx hb dX8_rooms_7 ?_
  refine lv_aload_n hx hb dX8_rooms_8 rfl (lv_at hl 0 rfl) ?_
  refine lv_iload_n hx hb dX8_rooms_9 rfl (lv_at hl 1 rfl) ?_
  obtain ⟨r10, q10, h⟩ := bd h
  refine k_callV (nC := 2) [oX8 a g_undos g_listed g_papers g_length g_besides g_gapFirst g_gapLast g_layings g_first g_behind g_clauses g_drafts, ar cI (a 1) 5058 g_row] C hl.1 (tX8_load (a := a) q10) mL_X8_119 mmX8_load rfl rfl ⟨Nat.le_of_ble_eq_true rfl, Nat.le_of_ble_eq_true rfl⟩ rfl rfl rfl rfl (Nat.le_of_ble_eq_true rfl) hA hw [0, 1] [] rfl (by decide +kernel) rfl rfl rfl rfl dX8_rooms_10 (fun H locs hw10 => ?_)
  refine lv_iload_n hx hb dX8_rooms_13 rfl (lv_at hl 2 rfl) ?_
  refine lv_icmp_le (tgt := 29) hx hb dX8_rooms_14 (by decide) (fun c14 => ?_) (fun c14 => ?_)
  · replace h := br_t' h c14
    refine lv_iload_n hx hb dX8_rooms_29 rfl (lv_at hl 2 rfl) ?_
    obtain ⟨g30, q30, h⟩ := bd h
    refine k_iast C hw10 1 rfl q30 [oX8 a g_undos g_listed g_papers g_length g_besides g_gapFirst g_gapLast g_layings g_first g_behind g_clauses g_drafts, ar cI (a 1) 5058 g30] rfl dX8_rooms_30 (fun H locs hw30 => ?_)
    cases h
    exact k_vret C hw30 dX8_rooms_31
  · replace h := br_f' h c14
    refine lv_aload_n hx hb dX8_rooms_17 rfl (lv_at hl 0 rfl) ?_
    refine k_get C inT_X8 hw10 0 rfl rfl 0 (by decide) mF_X8_7 rfl dX8_rooms_18 ?_
    refine lv_bipush (v := 34) hx hb dX8_rooms_21 (by decide) ?_
    refine lv_iload_n hx hb dX8_rooms_23 rfl (lv_at hl 1 rfl) ?_
    refine lv_iadd hx hb dX8_rooms_24 ?_
    obtain ⟨y25, q25, h⟩ := bd h
    refine k_iald C hw10 1 rfl q25 dX8_rooms_25 ?_
    refine lv_goto (tgt := 30) hx hb dX8_rooms_26 (by decide) ?_
    obtain ⟨g30, q30, h⟩ := bd h
    refine k_iast C hw10 1 rfl q30 [oX8 a g_undos g_listed g_papers g_length g_besides g_gapFirst g_gapLast g_layings g_first g_behind g_clauses g_drafts, ar cI (a 1) 5058 g30] rfl dX8_rooms_30 (fun H locs hw30 => ?_)
    cases h
    exact k_vret C hw30 dX8_rooms_31
def rmX8_done : Room := { frames := 5, cells := 0, slots := 0, locals := 114 }
def fX8_done (g_row : Nat → Int32) (g_list : Nat → Int32) (g_listed : Int32) (g_papers : Int32) (g_beside : Nat → Int32) (g_besides : Int32) (g_numbers : Nat → Int32) (x1 : Int32) : Option ((Nat → Int32) × (Nat → Int32) × Int32 × Int32 × (Nat → Int32) × Int32) :=
  if x1 = 0 then
    (fX8_begins g_row g_listed g_papers).bind fun r45 =>
    some (r45.1, g_list, r45.2.1, r45.2.2, g_beside, g_besides)
  else
  if x1 = 1 then
    (ld 3 g_numbers 0).bind fun y57 =>
    (ld 3 g_numbers 1).bind fun y63 =>
    (ld 3 g_numbers 2).bind fun y69 =>
    (fX8_adds g_row y57 y63 y69).bind fun r70 =>
    some (r70, g_list, g_listed, g_papers, g_beside, g_besides)
  else
  if x1 = 2 then
    (ld 3 g_numbers 0).bind fun y83 =>
    (ld 3 g_numbers 1).bind fun y89 =>
    (fX8_adds g_row (-1) y83 y89).bind fun r90 =>
    some (r90, g_list, g_listed, g_papers, g_beside, g_besides)
  else
  if x1 = 3 then
    (ld 3 g_numbers 0).bind fun y102 =>
    (ld 3 g_numbers 1).bind fun y108 =>
    (fX8_rooms g_row y102 y108).bind fun r109 =>
    some (r109, g_list, g_listed, g_papers, g_beside, g_besides)
  else
  if x1 = 4 then
    (ld 3 g_numbers 1).bind fun y121 =>
    (ld 3 g_numbers 2).bind fun y127 =>
    (ld 3 g_numbers 0).bind fun y133 =>
    (fX8_brings g_row g_beside g_besides y121 y127 y133).bind fun r134 =>
    some (r134.1, g_list, g_listed, g_papers, r134.2.1, r134.2.2)
  else
  if x1 = 5 then
    (ld 3 g_numbers 0).bind fun y146 =>
    (ld 3 g_numbers 1).bind fun y152 =>
    (fX8_brings g_row g_beside g_besides y146 y152 (-1)).bind fun r154 =>
    some (r154.1, g_list, g_listed, g_papers, r154.2.1, r154.2.2)
  else
  if x1 = 6 then
    (ld 3 g_numbers 0).bind fun y166 =>
    (ld 3 g_numbers 1).bind fun y172 =>
    (ld 3 g_numbers 2).bind fun y178 =>
    (fX8_lists g_list g_listed y166 y172 y178).bind fun r179 =>
    some (g_row, r179.1, r179.2, g_papers, g_beside, g_besides)
  else
    (ld 5058 g_row 3).bind fun y191 =>
    (ld 3 g_numbers 0).bind fun y197 =>
    (sv 5058 g_row 3 (y191 + y197)).bind fun g199 =>
    some (g199, g_list, g_listed, g_papers, g_beside, g_besides)
set_option maxRecDepth 100000 in
set_option maxHeartbeats 4000000 in
theorem tX8_done {l : Launch} {D : va_G} {cI : ClassId} {cS : GS} {a : Nat → Nat} {g_row : Nat → Int32} {g_undos : Int32} {g_list : Nat → Int32} {g_listed : Int32} {g_papers : Int32} {g_length : Int32} {g_beside : Nat → Int32} {g_besides : Int32} {g_gapFirst : Int32} {g_gapLast : Int32} {g_layings : Int32} {g_first : Int32} {g_behind : Int32} {g_numbers : Nat → Int32} {g_clauses : Int32} {g_drafts : Int32} {x1 : Int32} {s0 : (Nat → Int32)} {s1 : (Nat → Int32)} {s2 : Int32} {s3 : Int32} {s4 : (Nat → Int32)} {s5 : Int32} (h : fX8_done g_row g_list g_listed g_papers g_beside g_besides g_numbers x1 = some (s0, s1, s2, s3, s4, s5)) : CT l D cI cS yX8_done cX8_done 2 none rmX8_done [.ref (a 0), .int x1] [oX8 a g_undos g_listed g_papers g_length g_besides g_gapFirst g_gapLast g_layings g_first g_behind g_clauses g_drafts, ar cI (a 1) 5058 g_row, ar cI (a 3) 36 g_list, ar cI (a 9) 132 g_beside, ar cI (a 18) 3 g_numbers] none [oX8 a g_undos s2 s3 g_length s5 g_gapFirst g_gapLast g_layings g_first g_behind g_clauses g_drafts, ar cI (a 1) 5058 s0, ar cI (a 3) 36 s1, ar cI (a 9) 132 s4, ar cI (a 18) 3 g_numbers] := by
  refine CT.of RX8 (by decide) rfl (Nat.le_of_ble_eq_true rfl) (fun p e s m below meth c ls A C hA hl hw => ?_)
  have hx := C.1.1
  have hb := C.1.2.1
  have hl : lv_has ls 2 [(0, .ref (a 0)), (1, .int x1)] := hl
  unfold fX8_done at h
  refine lv_iload_n hx hb dX8_done_0 rfl (lv_at hl 1 rfl) ?_
  by_cases c1_0 : x1 = 0
  · replace h := br_t' h c1_0
    refine lv_tableIn (tgt := 44) hx hb dX8_done_1 (by rw [c1_0]; decide) (by rw [c1_0]; decide) (off := 43) (by rw [c1_0]; decide) (by decide) ?_
    refine lv_aload_n hx hb dX8_done_44 rfl (lv_at hl 0 rfl) ?_
    obtain ⟨r45, q45, h⟩ := bd h
    refine k_callV (nC := 5) [oX8 a g_undos r45.2.1 r45.2.2 g_length g_besides g_gapFirst g_gapLast g_layings g_first g_behind g_clauses g_drafts, ar cI (a 1) 5058 r45.1, ar cI (a 3) 36 g_list, ar cI (a 9) 132 g_beside, ar cI (a 18) 3 g_numbers] C hl.1 (tX8_begins (a := a) q45) mL_X8_160 mmX8_begins rfl rfl ⟨Nat.le_of_ble_eq_true rfl, Nat.le_of_ble_eq_true rfl⟩ rfl rfl rfl rfl (Nat.le_of_ble_eq_true rfl) hA hw [0, 1] [2, 3, 4] rfl (by decide +kernel) rfl rfl rfl rfl dX8_done_45 (fun H locs hw45 => ?_)
    refine lv_goto (tgt := 200) hx hb dX8_done_48 (by decide) ?_
    cases h
    exact k_vret C hw45 dX8_done_200
  replace h := br_f' h c1_0
  by_cases c1_1 : x1 = 1
  · replace h := br_t' h c1_1
    refine lv_tableIn (tgt := 51) hx hb dX8_done_1 (by rw [c1_1]; decide) (by rw [c1_1]; decide) (off := 50) (by rw [c1_1]; decide) (by decide) ?_
    refine lv_aload_n hx hb dX8_done_51 rfl (lv_at hl 0 rfl) ?_
    refine lv_aload_n hx hb dX8_done_52 rfl (lv_at hl 0 rfl) ?_
    refine k_get C inT_X8 hw 0 rfl rfl 17 (by decide) mF_X8_31 rfl dX8_done_53 ?_
    refine lv_iconst (v := 0) hx hb dX8_done_56 (by decide) ?_
    obtain ⟨y57, q57, h⟩ := bd h
    refine k_iald C hw 4 rfl q57 dX8_done_57 ?_
    refine lv_aload_n hx hb dX8_done_58 rfl (lv_at hl 0 rfl) ?_
    refine k_get C inT_X8 hw 0 rfl rfl 17 (by decide) mF_X8_31 rfl dX8_done_59 ?_
    refine lv_iconst (v := 1) hx hb dX8_done_62 (by decide) ?_
    obtain ⟨y63, q63, h⟩ := bd h
    refine k_iald C hw 4 rfl q63 dX8_done_63 ?_
    refine lv_aload_n hx hb dX8_done_64 rfl (lv_at hl 0 rfl) ?_
    refine k_get C inT_X8 hw 0 rfl rfl 17 (by decide) mF_X8_31 rfl dX8_done_65 ?_
    refine lv_iconst (v := 2) hx hb dX8_done_68 (by decide) ?_
    obtain ⟨y69, q69, h⟩ := bd h
    refine k_iald C hw 4 rfl q69 dX8_done_69 ?_
    obtain ⟨r70, q70, h⟩ := bd h
    refine k_callV (nC := 5) [oX8 a g_undos g_listed g_papers g_length g_besides g_gapFirst g_gapLast g_layings g_first g_behind g_clauses g_drafts, ar cI (a 1) 5058 r70, ar cI (a 3) 36 g_list, ar cI (a 9) 132 g_beside, ar cI (a 18) 3 g_numbers] C hl.1 (tX8_adds (a := a) q70) mL_X8_163 mmX8_adds rfl rfl ⟨Nat.le_of_ble_eq_true rfl, Nat.le_of_ble_eq_true rfl⟩ rfl rfl rfl rfl (Nat.le_of_ble_eq_true rfl) hA hw [0, 1] [2, 3, 4] rfl (by decide +kernel) rfl rfl rfl rfl dX8_done_70 (fun H locs hw70 => ?_)
    refine lv_goto (tgt := 200) hx hb dX8_done_73 (by decide) ?_
    cases h
    exact k_vret C hw70 dX8_done_200
  replace h := br_f' h c1_1
  by_cases c1_2 : x1 = 2
  · replace h := br_t' h c1_2
    refine lv_tableIn (tgt := 76) hx hb dX8_done_1 (by rw [c1_2]; decide) (by rw [c1_2]; decide) (off := 75) (by rw [c1_2]; decide) (by decide) ?_
    refine lv_aload_n hx hb dX8_done_76 rfl (lv_at hl 0 rfl) ?_
    refine lv_iconst (v := (-1)) hx hb dX8_done_77 (by decide) ?_
    refine lv_aload_n hx hb dX8_done_78 rfl (lv_at hl 0 rfl) ?_
    refine k_get C inT_X8 hw 0 rfl rfl 17 (by decide) mF_X8_31 rfl dX8_done_79 ?_
    refine lv_iconst (v := 0) hx hb dX8_done_82 (by decide) ?_
    obtain ⟨y83, q83, h⟩ := bd h
    refine k_iald C hw 4 rfl q83 dX8_done_83 ?_
    refine lv_aload_n hx hb dX8_done_84 rfl (lv_at hl 0 rfl) ?_
    refine k_get C inT_X8 hw 0 rfl rfl 17 (by decide) mF_X8_31 rfl dX8_done_85 ?_
    refine lv_iconst (v := 1) hx hb dX8_done_88 (by decide) ?_
    obtain ⟨y89, q89, h⟩ := bd h
    refine k_iald C hw 4 rfl q89 dX8_done_89 ?_
    obtain ⟨r90, q90, h⟩ := bd h
    refine k_callV (nC := 5) [oX8 a g_undos g_listed g_papers g_length g_besides g_gapFirst g_gapLast g_layings g_first g_behind g_clauses g_drafts, ar cI (a 1) 5058 r90, ar cI (a 3) 36 g_list, ar cI (a 9) 132 g_beside, ar cI (a 18) 3 g_numbers] C hl.1 (tX8_adds (a := a) q90) mL_X8_163 mmX8_adds rfl rfl ⟨Nat.le_of_ble_eq_true rfl, Nat.le_of_ble_eq_true rfl⟩ rfl rfl rfl rfl (Nat.le_of_ble_eq_true rfl) hA hw [0, 1] [2, 3, 4] rfl (by decide +kernel) rfl rfl rfl rfl dX8_done_90 (fun H locs hw90 => ?_)
    refine lv_goto (tgt := 200) hx hb dX8_done_93 (by decide) ?_
    cases h
    exact k_vret C hw90 dX8_done_200
  replace h := br_f' h c1_2
  by_cases c1_3 : x1 = 3
  · replace h := br_t' h c1_3
    refine lv_tableIn (tgt := 96) hx hb dX8_done_1 (by rw [c1_3]; decide) (by rw [c1_3]; decide) (off := 95) (by rw [c1_3]; decide) (by decide) ?_
    refine lv_aload_n hx hb dX8_done_96 rfl (lv_at hl 0 rfl) ?_
    refine lv_aload_n hx hb dX8_done_97 rfl (lv_at hl 0 rfl) ?_
    refine k_get C inT_X8 hw 0 rfl rfl 17 (by decide) mF_X8_31 rfl dX8_done_98 ?_
    refine lv_iconst (v := 0) hx hb dX8_done_101 (by decide) ?_
    obtain ⟨y102, q102, h⟩ := bd h
    refine k_iald C hw 4 rfl q102 dX8_done_102 ?_
    refine lv_aload_n hx hb dX8_done_103 rfl (lv_at hl 0 rfl) ?_
    refine k_get C inT_X8 hw 0 rfl rfl 17 (by decide) mF_X8_31 rfl dX8_done_104 ?_
    refine lv_iconst (v := 1) hx hb dX8_done_107 (by decide) ?_
    obtain ⟨y108, q108, h⟩ := bd h
    refine k_iald C hw 4 rfl q108 dX8_done_108 ?_
    obtain ⟨r109, q109, h⟩ := bd h
    refine k_callV (nC := 5) [oX8 a g_undos g_listed g_papers g_length g_besides g_gapFirst g_gapLast g_layings g_first g_behind g_clauses g_drafts, ar cI (a 1) 5058 r109, ar cI (a 3) 36 g_list, ar cI (a 9) 132 g_beside, ar cI (a 18) 3 g_numbers] C hl.1 (tX8_rooms (a := a) q109) mL_X8_166 mmX8_rooms rfl rfl ⟨Nat.le_of_ble_eq_true rfl, Nat.le_of_ble_eq_true rfl⟩ rfl rfl rfl rfl (Nat.le_of_ble_eq_true rfl) hA hw [0, 1] [2, 3, 4] rfl (by decide +kernel) rfl rfl rfl rfl dX8_done_109 (fun H locs hw109 => ?_)
    refine lv_goto (tgt := 200) hx hb dX8_done_112 (by decide) ?_
    cases h
    exact k_vret C hw109 dX8_done_200
  replace h := br_f' h c1_3
  by_cases c1_4 : x1 = 4
  · replace h := br_t' h c1_4
    refine lv_tableIn (tgt := 115) hx hb dX8_done_1 (by rw [c1_4]; decide) (by rw [c1_4]; decide) (off := 114) (by rw [c1_4]; decide) (by decide) ?_
    refine lv_aload_n hx hb dX8_done_115 rfl (lv_at hl 0 rfl) ?_
    refine lv_aload_n hx hb dX8_done_116 rfl (lv_at hl 0 rfl) ?_
    refine k_get C inT_X8 hw 0 rfl rfl 17 (by decide) mF_X8_31 rfl dX8_done_117 ?_
    refine lv_iconst (v := 1) hx hb dX8_done_120 (by decide) ?_
    obtain ⟨y121, q121, h⟩ := bd h
    refine k_iald C hw 4 rfl q121 dX8_done_121 ?_
    refine lv_aload_n hx hb dX8_done_122 rfl (lv_at hl 0 rfl) ?_
    refine k_get C inT_X8 hw 0 rfl rfl 17 (by decide) mF_X8_31 rfl dX8_done_123 ?_
    refine lv_iconst (v := 2) hx hb dX8_done_126 (by decide) ?_
    obtain ⟨y127, q127, h⟩ := bd h
    refine k_iald C hw 4 rfl q127 dX8_done_127 ?_
    refine lv_aload_n hx hb dX8_done_128 rfl (lv_at hl 0 rfl) ?_
    refine k_get C inT_X8 hw 0 rfl rfl 17 (by decide) mF_X8_31 rfl dX8_done_129 ?_
    refine lv_iconst (v := 0) hx hb dX8_done_132 (by decide) ?_
    obtain ⟨y133, q133, h⟩ := bd h
    refine k_iald C hw 4 rfl q133 dX8_done_133 ?_
    obtain ⟨r134, q134, h⟩ := bd h
    refine k_callV (nC := 5) [oX8 a g_undos g_listed g_papers g_length r134.2.2 g_gapFirst g_gapLast g_layings g_first g_behind g_clauses g_drafts, ar cI (a 1) 5058 r134.1, ar cI (a 3) 36 g_list, ar cI (a 9) 132 r134.2.1, ar cI (a 18) 3 g_numbers] C hl.1 (tX8_brings (a := a) q134) mL_X8_170 mmX8_brings rfl rfl ⟨Nat.le_of_ble_eq_true rfl, Nat.le_of_ble_eq_true rfl⟩ rfl rfl rfl rfl (Nat.le_of_ble_eq_true rfl) hA hw [0, 1, 3] [2, 4] rfl (by decide +kernel) rfl rfl rfl rfl dX8_done_134 (fun H locs hw134 => ?_)
    refine lv_goto (tgt := 200) hx hb dX8_done_137 (by decide) ?_
    cases h
    exact k_vret C hw134 dX8_done_200
  replace h := br_f' h c1_4
  by_cases c1_5 : x1 = 5
  · replace h := br_t' h c1_5
    refine lv_tableIn (tgt := 140) hx hb dX8_done_1 (by rw [c1_5]; decide) (by rw [c1_5]; decide) (off := 139) (by rw [c1_5]; decide) (by decide) ?_
    refine lv_aload_n hx hb dX8_done_140 rfl (lv_at hl 0 rfl) ?_
    refine lv_aload_n hx hb dX8_done_141 rfl (lv_at hl 0 rfl) ?_
    refine k_get C inT_X8 hw 0 rfl rfl 17 (by decide) mF_X8_31 rfl dX8_done_142 ?_
    refine lv_iconst (v := 0) hx hb dX8_done_145 (by decide) ?_
    obtain ⟨y146, q146, h⟩ := bd h
    refine k_iald C hw 4 rfl q146 dX8_done_146 ?_
    refine lv_aload_n hx hb dX8_done_147 rfl (lv_at hl 0 rfl) ?_
    refine k_get C inT_X8 hw 0 rfl rfl 17 (by decide) mF_X8_31 rfl dX8_done_148 ?_
    refine lv_iconst (v := 1) hx hb dX8_done_151 (by decide) ?_
    obtain ⟨y152, q152, h⟩ := bd h
    refine k_iald C hw 4 rfl q152 dX8_done_152 ?_
    refine lv_iconst (v := (-1)) hx hb dX8_done_153 (by decide) ?_
    obtain ⟨r154, q154, h⟩ := bd h
    refine k_callV (nC := 5) [oX8 a g_undos g_listed g_papers g_length r154.2.2 g_gapFirst g_gapLast g_layings g_first g_behind g_clauses g_drafts, ar cI (a 1) 5058 r154.1, ar cI (a 3) 36 g_list, ar cI (a 9) 132 r154.2.1, ar cI (a 18) 3 g_numbers] C hl.1 (tX8_brings (a := a) q154) mL_X8_170 mmX8_brings rfl rfl ⟨Nat.le_of_ble_eq_true rfl, Nat.le_of_ble_eq_true rfl⟩ rfl rfl rfl rfl (Nat.le_of_ble_eq_true rfl) hA hw [0, 1, 3] [2, 4] rfl (by decide +kernel) rfl rfl rfl rfl dX8_done_154 (fun H locs hw154 => ?_)
    refine lv_goto (tgt := 200) hx hb dX8_done_157 (by decide) ?_
    cases h
    exact k_vret C hw154 dX8_done_200
  replace h := br_f' h c1_5
  by_cases c1_6 : x1 = 6
  · replace h := br_t' h c1_6
    refine lv_tableIn (tgt := 160) hx hb dX8_done_1 (by rw [c1_6]; decide) (by rw [c1_6]; decide) (off := 159) (by rw [c1_6]; decide) (by decide) ?_
    refine lv_aload_n hx hb dX8_done_160 rfl (lv_at hl 0 rfl) ?_
    refine lv_aload_n hx hb dX8_done_161 rfl (lv_at hl 0 rfl) ?_
    refine k_get C inT_X8 hw 0 rfl rfl 17 (by decide) mF_X8_31 rfl dX8_done_162 ?_
    refine lv_iconst (v := 0) hx hb dX8_done_165 (by decide) ?_
    obtain ⟨y166, q166, h⟩ := bd h
    refine k_iald C hw 4 rfl q166 dX8_done_166 ?_
    refine lv_aload_n hx hb dX8_done_167 rfl (lv_at hl 0 rfl) ?_
    refine k_get C inT_X8 hw 0 rfl rfl 17 (by decide) mF_X8_31 rfl dX8_done_168 ?_
    refine lv_iconst (v := 1) hx hb dX8_done_171 (by decide) ?_
    obtain ⟨y172, q172, h⟩ := bd h
    refine k_iald C hw 4 rfl q172 dX8_done_172 ?_
    refine lv_aload_n hx hb dX8_done_173 rfl (lv_at hl 0 rfl) ?_
    refine k_get C inT_X8 hw 0 rfl rfl 17 (by decide) mF_X8_31 rfl dX8_done_174 ?_
    refine lv_iconst (v := 2) hx hb dX8_done_177 (by decide) ?_
    obtain ⟨y178, q178, h⟩ := bd h
    refine k_iald C hw 4 rfl q178 dX8_done_178 ?_
    obtain ⟨r179, q179, h⟩ := bd h
    refine k_callV (nC := 5) [oX8 a g_undos r179.2 g_papers g_length g_besides g_gapFirst g_gapLast g_layings g_first g_behind g_clauses g_drafts, ar cI (a 1) 5058 g_row, ar cI (a 3) 36 r179.1, ar cI (a 9) 132 g_beside, ar cI (a 18) 3 g_numbers] C hl.1 (tX8_lists (a := a) q179) mL_X8_173 mmX8_lists rfl rfl ⟨Nat.le_of_ble_eq_true rfl, Nat.le_of_ble_eq_true rfl⟩ rfl rfl rfl rfl (Nat.le_of_ble_eq_true rfl) hA hw [0, 2] [1, 3, 4] rfl (by decide +kernel) rfl rfl rfl rfl dX8_done_179 (fun H locs hw179 => ?_)
    refine lv_goto (tgt := 200) hx hb dX8_done_182 (by decide) ?_
    cases h
    exact k_vret C hw179 dX8_done_200
  replace h := br_f' h c1_6
  refine lv_tableOut (tgt := 185) hx hb dX8_done_1 (by have t0 := ti_ne (i := 0) c1_0 (by decide); have t1 := ti_ne (i := 1) c1_1 (by decide); have t2 := ti_ne (i := 2) c1_2 (by decide); have t3 := ti_ne (i := 3) c1_3 (by decide); have t4 := ti_ne (i := 4) c1_4 (by decide); have t5 := ti_ne (i := 5) c1_5 (by decide); have t6 := ti_ne (i := 6) c1_6 (by decide); omega) (by decide) ?_
  refine lv_aload_n hx hb dX8_done_185 rfl (lv_at hl 0 rfl) ?_
  refine k_get C inT_X8 hw 0 rfl rfl 0 (by decide) mF_X8_7 rfl dX8_done_186 ?_
  refine lv_iconst (v := 3) hx hb dX8_done_189 (by decide) ?_
  refine lv_dup2_11 hx hb dX8_done_190 rfl rfl ?_
  obtain ⟨y191, q191, h⟩ := bd h
  refine k_iald C hw 1 rfl q191 dX8_done_191 ?_
  refine lv_aload_n hx hb dX8_done_192 rfl (lv_at hl 0 rfl) ?_
  refine k_get C inT_X8 hw 0 rfl rfl 17 (by decide) mF_X8_31 rfl dX8_done_193 ?_
  refine lv_iconst (v := 0) hx hb dX8_done_196 (by decide) ?_
  obtain ⟨y197, q197, h⟩ := bd h
  refine k_iald C hw 4 rfl q197 dX8_done_197 ?_
  refine lv_iadd hx hb dX8_done_198 ?_
  obtain ⟨g199, q199, h⟩ := bd h
  refine k_iast C hw 1 rfl q199 [oX8 a g_undos g_listed g_papers g_length g_besides g_gapFirst g_gapLast g_layings g_first g_behind g_clauses g_drafts, ar cI (a 1) 5058 g199, ar cI (a 3) 36 g_list, ar cI (a 9) 132 g_beside, ar cI (a 18) 3 g_numbers] rfl dX8_done_199 (fun H locs hw199 => ?_)
  cases h
  exact k_vret C hw199 dX8_done_200
def rmX8_readsClause : Room := { frames := 6, cells := 0, slots := 0, locals := 135 }
def fX8_readsClause_18 (g_row : Nat → Int32) (g_list : Nat → Int32) (g_listed : Int32) (g_papers : Int32) (g_text : Nat → Int32) (g_length : Int32) (g_beside : Nat → Int32) (g_besides : Int32) (g_sorts : Nat → Int32) (x2 : Int32) : (n : Nat) → (k : Int32 → Int32 → Int32 → (Nat → Int32) → Option (Int32 × (Nat → Int32) × (Nat → Int32) × Int32 × Int32 × (Nat → Int32) × Int32 × Int32 × Int32 × (Nat → Int32))) → Int32 → Int32 → Int32 → (Nat → Int32) → Option (Int32 × (Nat → Int32) × (Nat → Int32) × Int32 × Int32 × (Nat → Int32) × Int32 × Int32 × Int32 × (Nat → Int32))
  | 0, _, _, _, _, _ => none
  | n + 1, k, x3, g_first, g_behind, g_numbers =>
    if 3 ≤ x3 then
      k x3 g_first g_behind g_numbers
    else
      (ld 24 g_sorts ((3 * x2) + x3)).bind fun y32 =>
      if y32 ≤ 0 then
        k x3 g_first g_behind g_numbers
      else
        (ld 24 g_sorts ((3 * x2) + x3)).bind fun y47 =>
        (fX8_number g_text g_length g_first g_behind g_numbers x3 y47).bind fun r48 =>
        if r48.1 = 0 then
          some (0, g_row, g_list, g_listed, g_papers, g_beside, g_besides, r48.2.1, r48.2.2.1, r48.2.2.2)
        else
          fX8_readsClause_18 g_row g_list g_listed g_papers g_text g_length g_beside g_besides g_sorts x2 n k (x3 + 1) r48.2.1 r48.2.2.1 r48.2.2.2
set_option maxRecDepth 100000 in
set_option maxHeartbeats 4000000 in
theorem wX8_readsClause_18 {p : Program} {l : Launch} {e : Env} {s : State} {m : MethodId} {args : Array Value} {below : List Frame} {meth : Method} {c : Code} {D : va_G} {cI : ClassId} {cS : GS} {A : Nat → Prop} {a : Nat → Nat} {g_row : Nat → Int32} {g_undos : Int32} {g_list : Nat → Int32} {g_listed : Int32} {g_papers : Int32} {g_text : Nat → Int32} {g_length : Int32} {g_beside : Nat → Int32} {g_besides : Int32} {g_gapFirst : Int32} {g_gapLast : Int32} {g_layings : Int32} {g_clauses : Int32} {g_words : Nat → Int32} {g_sorts : Nat → Int32} {g_drafts : Int32} {x1 : Int32} {x2 : Int32} (C : MC p s m args meth c D cI cS A RX8 cX8_readsClause 4 (some .boolean)) (hA : ∀ q, s.heap.size ≤ q → A q) {s0 : Int32} {s1 : (Nat → Int32)} {s2 : (Nat → Int32)} {s3 : Int32} {s4 : Int32} {s5 : (Nat → Int32)} {s6 : Int32} {s7 : Int32} {s8 : Int32} {s9 : (Nat → Int32)} (k : Int32 → Int32 → Int32 → (Nat → Int32) → Option (Int32 × (Nat → Int32) × (Nat → Int32) × Int32 × Int32 × (Nat → Int32) × Int32 × Int32 × Int32 × (Nat → Int32))) (hk : ∀ (x3 : Int32) (g_first : Int32) (g_behind : Int32) (g_numbers : Nat → Int32) (H : Heap) (locs : List Loc) (ls : Array Slot), Wd D A s.heap H locs [oX8 a g_undos g_listed g_papers g_length g_besides g_gapFirst g_gapLast g_layings g_first g_behind g_clauses g_drafts, ar cI (a 1) 5058 g_row, ar cI (a 3) 36 g_list, ar cI (a 7) 200 g_text, ar cI (a 9) 132 g_beside, ar cI (a 18) 3 g_numbers, ar cI (a 20) 48 g_words, ar cI (a 21) 24 g_sorts] → lv_has ls 4 [(0, .ref (a 0)), (1, .int x1), (2, .int x2), (3, .int x3)] → k x3 g_first g_behind g_numbers = some (s0, s1, s2, s3, s4, s5, s6, s7, s8, s9) → W p l e rmX8_readsClause s m args below meth c H locs 0 0 (KQ D A below args s (some (.int s0)) [oX8 a g_undos s3 s4 g_length s6 g_gapFirst g_gapLast g_layings s7 s8 g_clauses g_drafts, ar cI (a 1) 5058 s1, ar cI (a 3) 36 s2, ar cI (a 7) 200 g_text, ar cI (a 9) 132 s5, ar cI (a 18) 3 s9, ar cI (a 20) 48 g_words, ar cI (a 21) 24 g_sorts]) (F0 m 62 ls [])) :
    ∀ (n : Nat) (x3 : Int32) (g_first : Int32) (g_behind : Int32) (g_numbers : Nat → Int32) (H : Heap) (locs : List Loc) (ls : Array Slot), Wd D A s.heap H locs [oX8 a g_undos g_listed g_papers g_length g_besides g_gapFirst g_gapLast g_layings g_first g_behind g_clauses g_drafts, ar cI (a 1) 5058 g_row, ar cI (a 3) 36 g_list, ar cI (a 7) 200 g_text, ar cI (a 9) 132 g_beside, ar cI (a 18) 3 g_numbers, ar cI (a 20) 48 g_words, ar cI (a 21) 24 g_sorts] → lv_has ls 4 [(0, .ref (a 0)), (1, .int x1), (2, .int x2), (3, .int x3)] → fX8_readsClause_18 g_row g_list g_listed g_papers g_text g_length g_beside g_besides g_sorts x2 n k x3 g_first g_behind g_numbers = some (s0, s1, s2, s3, s4, s5, s6, s7, s8, s9) → W p l e rmX8_readsClause s m args below meth c H locs 0 0 (KQ D A below args s (some (.int s0)) [oX8 a g_undos s3 s4 g_length s6 g_gapFirst g_gapLast g_layings s7 s8 g_clauses g_drafts, ar cI (a 1) 5058 s1, ar cI (a 3) 36 s2, ar cI (a 7) 200 g_text, ar cI (a 9) 132 s5, ar cI (a 18) 3 s9, ar cI (a 20) 48 g_words, ar cI (a 21) 24 g_sorts]) (F0 m 18 ls []) := by
  have hx := C.1.1
  have hb := C.1.2.1
  intro n
  induction n with
  | zero =>
    intro x3 g_first g_behind g_numbers H locs ls hw hl h
    rw [fX8_readsClause_18] at h
    cases h
  | succ n ih =>
    intro x3 g_first g_behind g_numbers H locs ls hw hl h
    rw [fX8_readsClause_18] at h
    refine lv_iload_n hx hb dX8_readsClause_18 rfl (lv_at hl 3 rfl) ?_
    refine lv_iconst (v := 3) hx hb dX8_readsClause_19 (by decide) ?_
    refine lv_icmp_ge (tgt := 62) hx hb dX8_readsClause_20 (by decide) (fun c20 => ?_) (fun c20 => ?_)
    · replace h := br_t' h c20
      exact hk _ _ _ _ _ _ _ hw (lv_sub hl [0, 1, 2, 3] rfl) h
    · replace h := br_f' h c20
      refine lv_aload_n hx hb dX8_readsClause_23 rfl (lv_at hl 0 rfl) ?_
      refine k_get C inT_X8 hw 0 rfl rfl 20 (by decide) mF_X8_37 rfl dX8_readsClause_24 ?_
      refine lv_iconst (v := 3) hx hb dX8_readsClause_27 (by decide) ?_
      refine lv_iload_n hx hb dX8_readsClause_28 rfl (lv_at hl 2 rfl) ?_
      refine lv_imul hx hb dX8_readsClause_29 ?_
      refine lv_iload_n hx hb dX8_readsClause_30 rfl (lv_at hl 3 rfl) ?_
      refine lv_iadd hx hb dX8_readsClause_31 ?_
      obtain ⟨y32, q32, h⟩ := bd h
      refine k_iald C hw 7 rfl q32 dX8_readsClause_32 ?_
      refine lv_if_le (tgt := 62) hx hb dX8_readsClause_33 (by decide) (fun c33 => ?_) (fun c33 => ?_)
      · replace h := br_t' h c33
        exact hk _ _ _ _ _ _ _ hw (lv_sub hl [0, 1, 2, 3] rfl) h
      · replace h := br_f' h c33
        refine lv_aload_n hx hb dX8_readsClause_36 rfl (lv_at hl 0 rfl) ?_
        refine lv_iload_n hx hb dX8_readsClause_37 rfl (lv_at hl 3 rfl) ?_
        refine lv_aload_n hx hb dX8_readsClause_38 rfl (lv_at hl 0 rfl) ?_
        refine k_get C inT_X8 hw 0 rfl rfl 20 (by decide) mF_X8_37 rfl dX8_readsClause_39 ?_
        refine lv_iconst (v := 3) hx hb dX8_readsClause_42 (by decide) ?_
        refine lv_iload_n hx hb dX8_readsClause_43 rfl (lv_at hl 2 rfl) ?_
        refine lv_imul hx hb dX8_readsClause_44 ?_
        refine lv_iload_n hx hb dX8_readsClause_45 rfl (lv_at hl 3 rfl) ?_
        refine lv_iadd hx hb dX8_readsClause_46 ?_
        obtain ⟨y47, q47, h⟩ := bd h
        refine k_iald C hw 7 rfl q47 dX8_readsClause_47 ?_
        obtain ⟨r48, q48, h⟩ := bd h
        refine k_callV (nC := 8) [oX8 a g_undos g_listed g_papers g_length g_besides g_gapFirst g_gapLast g_layings r48.2.1 r48.2.2.1 g_clauses g_drafts, ar cI (a 1) 5058 g_row, ar cI (a 3) 36 g_list, ar cI (a 7) 200 g_text, ar cI (a 9) 132 g_beside, ar cI (a 18) 3 r48.2.2.2, ar cI (a 20) 48 g_words, ar cI (a 21) 24 g_sorts] C hl.1 (tX8_number (a := a) q48) mL_X8_180 mmX8_number rfl rfl ⟨Nat.le_of_ble_eq_true rfl, Nat.le_of_ble_eq_true rfl⟩ rfl rfl rfl rfl (Nat.le_of_ble_eq_true rfl) hA hw [0, 3, 5] [1, 2, 4, 6, 7] rfl (by decide +kernel) rfl rfl rfl rfl dX8_readsClause_48 (fun H locs hw48 => ?_)
        refine lv_if_ne (tgt := 56) hx hb dX8_readsClause_51 (by decide) (fun c51 => ?_) (fun c51 => ?_)
        · replace h := br_f' h c51
          refine lv_iinc (v := (x3 + 1)) (lv' := [(3, .int (x3 + 1)), (0, .ref (a 0)), (1, .int x1), (2, .int x2)]) hx hb dX8_readsClause_56 hl (k := 3) rfl rfl (by decide) rfl (fun ls hl => ?_)
          refine lv_goto (tgt := 18) hx hb dX8_readsClause_59 (by decide) ?_
          exact ih _ _ _ _ _ _ _ hw48 (lv_sub hl [1, 2, 3, 0] rfl) h
        · replace h := br_t' h c51
          refine lv_iconst (v := 0) hx hb dX8_readsClause_54 (by decide) ?_
          cases h
          exact k_zret (v := 0) C rfl hw48 dX8_readsClause_55
def fX8_readsClause (g_row : Nat → Int32) (g_list : Nat → Int32) (g_listed : Int32) (g_papers : Int32) (g_text : Nat → Int32) (g_length : Int32) (g_beside : Nat → Int32) (g_besides : Int32) (g_first : Int32) (g_behind : Int32) (g_numbers : Nat → Int32) (g_words : Nat → Int32) (g_sorts : Nat → Int32) (x1 : Int32) : Option (Int32 × (Nat → Int32) × (Nat → Int32) × Int32 × Int32 × (Nat → Int32) × Int32 × Int32 × Int32 × (Nat → Int32)) :=
  (fX8_wordHere g_text g_first g_behind g_words).bind fun r1 =>
  if r1 = (-1) then
    some (0, g_row, g_list, g_listed, g_papers, g_beside, g_besides, g_first, g_behind, g_numbers)
  else
    (fX8_nextToken g_text g_length g_first g_behind).bind fun r13 =>
    fX8_readsClause_18 g_row g_list g_listed g_papers g_text g_length g_beside g_besides g_sorts r1 FU (fun x3_18 g_first_18 g_behind_18 g_numbers_18 =>
      if x1 = 0 then
        some (1, g_row, g_list, g_listed, g_papers, g_beside, g_besides, g_first_18, g_behind_18, g_numbers_18)
      else
        (fX8_done g_row g_list g_listed g_papers g_beside g_besides g_numbers_18 r1).bind fun r68 =>
        some (1, r68.1, r68.2.1, r68.2.2.1, r68.2.2.2.1, r68.2.2.2.2.1, r68.2.2.2.2.2, g_first_18, g_behind_18, g_numbers_18)) 0 r13.1 r13.2 g_numbers
set_option maxRecDepth 100000 in
set_option maxHeartbeats 4000000 in
theorem tX8_readsClause {l : Launch} {D : va_G} {cI : ClassId} {cS : GS} {a : Nat → Nat} {g_row : Nat → Int32} {g_undos : Int32} {g_list : Nat → Int32} {g_listed : Int32} {g_papers : Int32} {g_text : Nat → Int32} {g_length : Int32} {g_beside : Nat → Int32} {g_besides : Int32} {g_gapFirst : Int32} {g_gapLast : Int32} {g_layings : Int32} {g_first : Int32} {g_behind : Int32} {g_numbers : Nat → Int32} {g_clauses : Int32} {g_words : Nat → Int32} {g_sorts : Nat → Int32} {g_drafts : Int32} {x1 : Int32} {s0 : Int32} {s1 : (Nat → Int32)} {s2 : (Nat → Int32)} {s3 : Int32} {s4 : Int32} {s5 : (Nat → Int32)} {s6 : Int32} {s7 : Int32} {s8 : Int32} {s9 : (Nat → Int32)} (h : fX8_readsClause g_row g_list g_listed g_papers g_text g_length g_beside g_besides g_first g_behind g_numbers g_words g_sorts x1 = some (s0, s1, s2, s3, s4, s5, s6, s7, s8, s9)) : CT l D cI cS yX8_readsClause cX8_readsClause 4 (some .boolean) rmX8_readsClause [.ref (a 0), .int x1] [oX8 a g_undos g_listed g_papers g_length g_besides g_gapFirst g_gapLast g_layings g_first g_behind g_clauses g_drafts, ar cI (a 1) 5058 g_row, ar cI (a 3) 36 g_list, ar cI (a 7) 200 g_text, ar cI (a 9) 132 g_beside, ar cI (a 18) 3 g_numbers, ar cI (a 20) 48 g_words, ar cI (a 21) 24 g_sorts] (some (.int s0)) [oX8 a g_undos s3 s4 g_length s6 g_gapFirst g_gapLast g_layings s7 s8 g_clauses g_drafts, ar cI (a 1) 5058 s1, ar cI (a 3) 36 s2, ar cI (a 7) 200 g_text, ar cI (a 9) 132 s5, ar cI (a 18) 3 s9, ar cI (a 20) 48 g_words, ar cI (a 21) 24 g_sorts] := by
  refine CT.of RX8 (by decide) rfl (Nat.le_of_ble_eq_true rfl) (fun p e s m below meth c ls A C hA hl hw => ?_)
  have hx := C.1.1
  have hb := C.1.2.1
  have hl : lv_has ls 4 [(0, .ref (a 0)), (1, .int x1)] := hl
  unfold fX8_readsClause at h
  refine lv_aload_n hx hb dX8_readsClause_0 rfl (lv_at hl 0 rfl) ?_
  obtain ⟨r1, q1, h⟩ := bd h
  refine k_callV (nC := 8) [oX8 a g_undos g_listed g_papers g_length g_besides g_gapFirst g_gapLast g_layings g_first g_behind g_clauses g_drafts, ar cI (a 1) 5058 g_row, ar cI (a 3) 36 g_list, ar cI (a 7) 200 g_text, ar cI (a 9) 132 g_beside, ar cI (a 18) 3 g_numbers, ar cI (a 20) 48 g_words, ar cI (a 21) 24 g_sorts] C hl.1 (tX8_wordHere (a := a) q1) mL_X8_176 mmX8_wordHere rfl rfl ⟨Nat.le_of_ble_eq_true rfl, Nat.le_of_ble_eq_true rfl⟩ rfl rfl rfl rfl (Nat.le_of_ble_eq_true rfl) hA hw [0, 3, 6] [1, 2, 4, 5, 7] rfl (by decide +kernel) rfl rfl rfl rfl dX8_readsClause_1 (fun H locs hw1 => ?_)
  refine lv_istore_n (lv' := [(2, .int r1), (0, .ref (a 0)), (1, .int x1)]) hx hb dX8_readsClause_4 rfl hl (by decide) rfl (fun ls hl => ?_)
  refine lv_iload_n hx hb dX8_readsClause_5 rfl (lv_at hl 0 rfl) ?_
  refine lv_iconst (v := (-1)) hx hb dX8_readsClause_6 (by decide) ?_
  refine lv_icmp_ne (tgt := 12) hx hb dX8_readsClause_7 (by decide) (fun c7 => ?_) (fun c7 => ?_)
  · replace h := br_f' h c7
    refine lv_aload_n hx hb dX8_readsClause_12 rfl (lv_at hl 1 rfl) ?_
    obtain ⟨r13, q13, h⟩ := bd h
    refine k_callV (nC := 8) [oX8 a g_undos g_listed g_papers g_length g_besides g_gapFirst g_gapLast g_layings r13.1 r13.2 g_clauses g_drafts, ar cI (a 1) 5058 g_row, ar cI (a 3) 36 g_list, ar cI (a 7) 200 g_text, ar cI (a 9) 132 g_beside, ar cI (a 18) 3 g_numbers, ar cI (a 20) 48 g_words, ar cI (a 21) 24 g_sorts] C hl.1 (tX8_nextToken (a := a) q13) mL_X8_157 mmX8_nextToken rfl rfl ⟨Nat.le_of_ble_eq_true rfl, Nat.le_of_ble_eq_true rfl⟩ rfl rfl rfl rfl (Nat.le_of_ble_eq_true rfl) hA hw1 [0, 3] [1, 2, 4, 5, 6, 7] rfl (by decide +kernel) rfl rfl rfl rfl dX8_readsClause_13 (fun H locs hw13 => ?_)
    refine lv_iconst (v := 0) hx hb dX8_readsClause_16 (by decide) ?_
    refine lv_istore_n (lv' := [(3, .int 0), (2, .int r1), (0, .ref (a 0)), (1, .int x1)]) hx hb dX8_readsClause_17 rfl hl (by decide) rfl (fun ls hl => ?_)
    refine wX8_readsClause_18 C hA _ (fun x3_18 g_first_18 g_behind_18 g_numbers_18 H locs ls hw18x hl h => ?_) FU _ _ _ _ _ _ _ hw13 (lv_sub hl [2, 3, 1, 0] rfl) h
    refine lv_iload_n hx hb dX8_readsClause_62 rfl (lv_at hl 1 rfl) ?_
    refine lv_if_eq (tgt := 71) hx hb dX8_readsClause_63 (by decide) (fun c63 => ?_) (fun c63 => ?_)
    · replace h := br_t' h c63
      refine lv_iconst (v := 1) hx hb dX8_readsClause_71 (by decide) ?_
      cases h
      exact k_zret (v := 1) C rfl hw18x dX8_readsClause_72
    · replace h := br_f' h c63
      refine lv_aload_n hx hb dX8_readsClause_66 rfl (lv_at hl 0 rfl) ?_
      refine lv_iload_n hx hb dX8_readsClause_67 rfl (lv_at hl 2 rfl) ?_
      obtain ⟨r68, q68, h⟩ := bd h
      refine k_callV (nC := 8) [oX8 a g_undos r68.2.2.1 r68.2.2.2.1 g_length r68.2.2.2.2.2 g_gapFirst g_gapLast g_layings g_first_18 g_behind_18 g_clauses g_drafts, ar cI (a 1) 5058 r68.1, ar cI (a 3) 36 r68.2.1, ar cI (a 7) 200 g_text, ar cI (a 9) 132 r68.2.2.2.2.1, ar cI (a 18) 3 g_numbers_18, ar cI (a 20) 48 g_words, ar cI (a 21) 24 g_sorts] C hl.1 (tX8_done (a := a) q68) mL_X8_183 mmX8_done rfl rfl ⟨Nat.le_of_ble_eq_true rfl, Nat.le_of_ble_eq_true rfl⟩ rfl rfl rfl rfl (Nat.le_of_ble_eq_true rfl) hA hw18x [0, 1, 2, 4, 5] [3, 6, 7] rfl (by decide +kernel) rfl rfl rfl rfl dX8_readsClause_68 (fun H locs hw68 => ?_)
      refine lv_iconst (v := 1) hx hb dX8_readsClause_71 (by decide) ?_
      cases h
      exact k_zret (v := 1) C rfl hw68 dX8_readsClause_72
  · replace h := br_t' h c7
    refine lv_iconst (v := 0) hx hb dX8_readsClause_10 (by decide) ?_
    cases h
    exact k_zret (v := 0) C rfl hw1 dX8_readsClause_11
def rmX8_reads : Room := { frames := 7, cells := 0, slots := 0, locals := 158 }
def fX8_reads_20 (g_text : Nat → Int32) (g_length : Int32) (g_words : Nat → Int32) (g_sorts : Nat → Int32) (x1 : Int32) : (n : Nat) → (k : Int32 → (Nat → Int32) → (Nat → Int32) → Int32 → Int32 → (Nat → Int32) → Int32 → Int32 → Int32 → (Nat → Int32) → Int32 → Option (Int32 × (Nat → Int32) × (Nat → Int32) × Int32 × Int32 × (Nat → Int32) × Int32 × Int32 × Int32 × (Nat → Int32) × Int32)) → Int32 → (Nat → Int32) → (Nat → Int32) → Int32 → Int32 → (Nat → Int32) → Int32 → Int32 → Int32 → (Nat → Int32) → Int32 → Option (Int32 × (Nat → Int32) × (Nat → Int32) × Int32 × Int32 × (Nat → Int32) × Int32 × Int32 × Int32 × (Nat → Int32) × Int32)
  | 0, _, _, _, _, _, _, _, _, _, _, _, _ => none
  | n + 1, k, x2, g_row, g_list, g_listed, g_papers, g_beside, g_besides, g_first, g_behind, g_numbers, g_clauses =>
    if x2 = 0 then
      k x2 g_row g_list g_listed g_papers g_beside g_besides g_first g_behind g_numbers g_clauses
    else
      if g_length ≤ g_first then
        k x2 g_row g_list g_listed g_papers g_beside g_besides g_first g_behind g_numbers g_clauses
      else
        if 24 ≤ g_clauses then
          if (0 : Int32) = 0 then
            fX8_reads_20 g_text g_length g_words g_sorts x1 n k 0 g_row g_list g_listed g_papers g_beside g_besides g_first g_behind g_numbers g_clauses
          else
            (fX8_nextToken g_text g_length g_first g_behind).bind fun r69 =>
            (fX8_readsClause g_row g_list g_listed g_papers g_text g_length g_beside g_besides r69.1 r69.2 g_numbers g_words g_sorts x1).bind fun r74 =>
            fX8_reads_20 g_text g_length g_words g_sorts x1 n k r74.1 r74.2.1 r74.2.2.1 r74.2.2.2.1 r74.2.2.2.2.1 r74.2.2.2.2.2.1 r74.2.2.2.2.2.2.1 r74.2.2.2.2.2.2.2.1 r74.2.2.2.2.2.2.2.2.1 r74.2.2.2.2.2.2.2.2.2 (g_clauses + 1)
        else
          (ld 200 g_text g_first).bind fun y52 =>
          if y52 = 59 then
            if (1 : Int32) = 0 then
              fX8_reads_20 g_text g_length g_words g_sorts x1 n k 1 g_row g_list g_listed g_papers g_beside g_besides g_first g_behind g_numbers g_clauses
            else
              (fX8_nextToken g_text g_length g_first g_behind).bind fun r69 =>
              (fX8_readsClause g_row g_list g_listed g_papers g_text g_length g_beside g_besides r69.1 r69.2 g_numbers g_words g_sorts x1).bind fun r74 =>
              fX8_reads_20 g_text g_length g_words g_sorts x1 n k r74.1 r74.2.1 r74.2.2.1 r74.2.2.2.1 r74.2.2.2.2.1 r74.2.2.2.2.2.1 r74.2.2.2.2.2.2.1 r74.2.2.2.2.2.2.2.1 r74.2.2.2.2.2.2.2.2.1 r74.2.2.2.2.2.2.2.2.2 (g_clauses + 1)
          else
            if (0 : Int32) = 0 then
              fX8_reads_20 g_text g_length g_words g_sorts x1 n k 0 g_row g_list g_listed g_papers g_beside g_besides g_first g_behind g_numbers g_clauses
            else
              (fX8_nextToken g_text g_length g_first g_behind).bind fun r69 =>
              (fX8_readsClause g_row g_list g_listed g_papers g_text g_length g_beside g_besides r69.1 r69.2 g_numbers g_words g_sorts x1).bind fun r74 =>
              fX8_reads_20 g_text g_length g_words g_sorts x1 n k r74.1 r74.2.1 r74.2.2.1 r74.2.2.2.1 r74.2.2.2.2.1 r74.2.2.2.2.2.1 r74.2.2.2.2.2.2.1 r74.2.2.2.2.2.2.2.1 r74.2.2.2.2.2.2.2.2.1 r74.2.2.2.2.2.2.2.2.2 (g_clauses + 1)
set_option maxRecDepth 100000 in
set_option maxHeartbeats 4000000 in
theorem wX8_reads_20 {p : Program} {l : Launch} {e : Env} {s : State} {m : MethodId} {args : Array Value} {below : List Frame} {meth : Method} {c : Code} {D : va_G} {cI : ClassId} {cS : GS} {A : Nat → Prop} {a : Nat → Nat} {g_undos : Int32} {g_text : Nat → Int32} {g_length : Int32} {g_gapFirst : Int32} {g_gapLast : Int32} {g_layings : Int32} {g_words : Nat → Int32} {g_sorts : Nat → Int32} {g_drafts : Int32} {x1 : Int32} (C : MC p s m args meth c D cI cS A RX8 cX8_reads 3 (some .boolean)) (hA : ∀ q, s.heap.size ≤ q → A q) {s0 : Int32} {s1 : (Nat → Int32)} {s2 : (Nat → Int32)} {s3 : Int32} {s4 : Int32} {s5 : (Nat → Int32)} {s6 : Int32} {s7 : Int32} {s8 : Int32} {s9 : (Nat → Int32)} {s10 : Int32} (k : Int32 → (Nat → Int32) → (Nat → Int32) → Int32 → Int32 → (Nat → Int32) → Int32 → Int32 → Int32 → (Nat → Int32) → Int32 → Option (Int32 × (Nat → Int32) × (Nat → Int32) × Int32 × Int32 × (Nat → Int32) × Int32 × Int32 × Int32 × (Nat → Int32) × Int32)) (hk : ∀ (x2 : Int32) (g_row : Nat → Int32) (g_list : Nat → Int32) (g_listed : Int32) (g_papers : Int32) (g_beside : Nat → Int32) (g_besides : Int32) (g_first : Int32) (g_behind : Int32) (g_numbers : Nat → Int32) (g_clauses : Int32) (H : Heap) (locs : List Loc) (ls : Array Slot), Wd D A s.heap H locs [oX8 a g_undos g_listed g_papers g_length g_besides g_gapFirst g_gapLast g_layings g_first g_behind g_clauses g_drafts, ar cI (a 1) 5058 g_row, ar cI (a 3) 36 g_list, ar cI (a 7) 200 g_text, ar cI (a 9) 132 g_beside, ar cI (a 18) 3 g_numbers, ar cI (a 20) 48 g_words, ar cI (a 21) 24 g_sorts] → lv_has ls 3 [(0, .ref (a 0)), (1, .int x1), (2, .int x2)] → k x2 g_row g_list g_listed g_papers g_beside g_besides g_first g_behind g_numbers g_clauses = some (s0, s1, s2, s3, s4, s5, s6, s7, s8, s9, s10) → W p l e rmX8_reads s m args below meth c H locs 0 0 (KQ D A below args s (some (.int s0)) [oX8 a g_undos s3 s4 g_length s6 g_gapFirst g_gapLast g_layings s7 s8 s10 g_drafts, ar cI (a 1) 5058 s1, ar cI (a 3) 36 s2, ar cI (a 7) 200 g_text, ar cI (a 9) 132 s5, ar cI (a 18) 3 s9, ar cI (a 20) 48 g_words, ar cI (a 21) 24 g_sorts]) (F0 m 91 ls [])) :
    ∀ (n : Nat) (x2 : Int32) (g_row : Nat → Int32) (g_list : Nat → Int32) (g_listed : Int32) (g_papers : Int32) (g_beside : Nat → Int32) (g_besides : Int32) (g_first : Int32) (g_behind : Int32) (g_numbers : Nat → Int32) (g_clauses : Int32) (H : Heap) (locs : List Loc) (ls : Array Slot), Wd D A s.heap H locs [oX8 a g_undos g_listed g_papers g_length g_besides g_gapFirst g_gapLast g_layings g_first g_behind g_clauses g_drafts, ar cI (a 1) 5058 g_row, ar cI (a 3) 36 g_list, ar cI (a 7) 200 g_text, ar cI (a 9) 132 g_beside, ar cI (a 18) 3 g_numbers, ar cI (a 20) 48 g_words, ar cI (a 21) 24 g_sorts] → lv_has ls 3 [(0, .ref (a 0)), (1, .int x1), (2, .int x2)] → fX8_reads_20 g_text g_length g_words g_sorts x1 n k x2 g_row g_list g_listed g_papers g_beside g_besides g_first g_behind g_numbers g_clauses = some (s0, s1, s2, s3, s4, s5, s6, s7, s8, s9, s10) → W p l e rmX8_reads s m args below meth c H locs 0 0 (KQ D A below args s (some (.int s0)) [oX8 a g_undos s3 s4 g_length s6 g_gapFirst g_gapLast g_layings s7 s8 s10 g_drafts, ar cI (a 1) 5058 s1, ar cI (a 3) 36 s2, ar cI (a 7) 200 g_text, ar cI (a 9) 132 s5, ar cI (a 18) 3 s9, ar cI (a 20) 48 g_words, ar cI (a 21) 24 g_sorts]) (F0 m 20 ls []) := by
  have hx := C.1.1
  have hb := C.1.2.1
  intro n
  induction n with
  | zero =>
    intro x2 g_row g_list g_listed g_papers g_beside g_besides g_first g_behind g_numbers g_clauses H locs ls hw hl h
    rw [fX8_reads_20] at h
    cases h
  | succ n ih =>
    intro x2 g_row g_list g_listed g_papers g_beside g_besides g_first g_behind g_numbers g_clauses H locs ls hw hl h
    rw [fX8_reads_20] at h
    refine lv_iload_n hx hb dX8_reads_20 rfl (lv_at hl 2 rfl) ?_
    refine lv_if_eq (tgt := 91) hx hb dX8_reads_21 (by decide) (fun c21 => ?_) (fun c21 => ?_)
    · replace h := br_t' h c21
      exact hk _ _ _ _ _ _ _ _ _ _ _ _ _ _ hw (lv_sub hl [0, 1, 2] rfl) h
    · replace h := br_f' h c21
      refine lv_aload_n hx hb dX8_reads_24 rfl (lv_at hl 0 rfl) ?_
      refine k_get C inT_X8 hw 0 rfl rfl 15 (by decide) mF_X8_141 rfl dX8_reads_25 ?_
      refine lv_aload_n hx hb dX8_reads_28 rfl (lv_at hl 0 rfl) ?_
      refine k_get C inT_X8 hw 0 rfl rfl 7 (by decide) mF_X8_127 rfl dX8_reads_29 ?_
      refine lv_icmp_ge (tgt := 91) hx hb dX8_reads_32 (by decide) (fun c32 => ?_) (fun c32 => ?_)
      · replace h := br_t' h c32
        exact hk _ _ _ _ _ _ _ _ _ _ _ _ _ _ hw (lv_sub hl [0, 1, 2] rfl) h
      · replace h := br_f' h c32
        refine lv_aload_n hx hb dX8_reads_35 rfl (lv_at hl 0 rfl) ?_
        refine k_get C inT_X8 hw 0 rfl rfl 18 (by decide) mF_X8_187 rfl dX8_reads_36 ?_
        refine lv_bipush (v := 24) hx hb dX8_reads_39 (by decide) ?_
        refine lv_icmp_ge (tgt := 62) hx hb dX8_reads_41 (by decide) (fun c41 => ?_) (fun c41 => ?_)
        · replace h := br_t' h c41
          refine lv_iconst (v := 0) hx hb dX8_reads_62 (by decide) ?_
          refine lv_istore_n (lv' := [(2, .int 0), (0, .ref (a 0)), (1, .int x1)]) hx hb dX8_reads_63 rfl hl (by decide) rfl (fun ls hl => ?_)
          refine lv_iload_n hx hb dX8_reads_64 rfl (lv_at hl 0 rfl) ?_
          refine lv_if_eq (tgt := 20) hx hb dX8_reads_65 (by decide) (fun c65 => ?_) (fun c65 => ?_)
          · replace h := br_t' h c65
            exact ih _ _ _ _ _ _ _ _ _ _ _ _ _ _ hw (lv_sub hl [1, 2, 0] rfl) h
          · replace h := br_f' h c65
            refine lv_aload_n hx hb dX8_reads_68 rfl (lv_at hl 1 rfl) ?_
            obtain ⟨r69, q69, h⟩ := bd h
            refine k_callV (nC := 8) [oX8 a g_undos g_listed g_papers g_length g_besides g_gapFirst g_gapLast g_layings r69.1 r69.2 g_clauses g_drafts, ar cI (a 1) 5058 g_row, ar cI (a 3) 36 g_list, ar cI (a 7) 200 g_text, ar cI (a 9) 132 g_beside, ar cI (a 18) 3 g_numbers, ar cI (a 20) 48 g_words, ar cI (a 21) 24 g_sorts] C hl.1 (tX8_nextToken (a := a) q69) mL_X8_157 mmX8_nextToken rfl rfl ⟨Nat.le_of_ble_eq_true rfl, Nat.le_of_ble_eq_true rfl⟩ rfl rfl rfl rfl (Nat.le_of_ble_eq_true rfl) hA hw [0, 3] [1, 2, 4, 5, 6, 7] rfl (by decide +kernel) rfl rfl rfl rfl dX8_reads_69 (fun H locs hw69 => ?_)
            refine lv_aload_n hx hb dX8_reads_72 rfl (lv_at hl 1 rfl) ?_
            refine lv_iload_n hx hb dX8_reads_73 rfl (lv_at hl 2 rfl) ?_
            obtain ⟨r74, q74, h⟩ := bd h
            refine k_callV (nC := 8) [oX8 a g_undos r74.2.2.2.1 r74.2.2.2.2.1 g_length r74.2.2.2.2.2.2.1 g_gapFirst g_gapLast g_layings r74.2.2.2.2.2.2.2.1 r74.2.2.2.2.2.2.2.2.1 g_clauses g_drafts, ar cI (a 1) 5058 r74.2.1, ar cI (a 3) 36 r74.2.2.1, ar cI (a 7) 200 g_text, ar cI (a 9) 132 r74.2.2.2.2.2.1, ar cI (a 18) 3 r74.2.2.2.2.2.2.2.2.2, ar cI (a 20) 48 g_words, ar cI (a 21) 24 g_sorts] C hl.1 (tX8_readsClause (a := a) q74) mL_X8_190 mmX8_readsClause rfl rfl ⟨Nat.le_of_ble_eq_true rfl, Nat.le_of_ble_eq_true rfl⟩ rfl rfl rfl rfl (Nat.le_of_ble_eq_true rfl) hA hw69 [0, 1, 2, 3, 4, 5, 6, 7] [] rfl (by decide +kernel) rfl rfl rfl rfl dX8_reads_74 (fun H locs hw74 => ?_)
            refine lv_istore_n (lv' := [(2, .int r74.1), (0, .ref (a 0)), (1, .int x1)]) hx hb dX8_reads_77 rfl hl (by decide) rfl (fun ls hl => ?_)
            refine lv_aload_n hx hb dX8_reads_78 rfl (lv_at hl 1 rfl) ?_
            refine lv_dup hx hb dX8_reads_79 rfl ?_
            refine k_get C inT_X8 hw74 0 rfl rfl 18 (by decide) mF_X8_187 rfl dX8_reads_80 ?_
            refine lv_iconst (v := 1) hx hb dX8_reads_83 (by decide) ?_
            refine lv_iadd hx hb dX8_reads_84 ?_
            refine k_put C inT_X8 tyX8 tyX8_ok nmX8 hw74 0 rfl rfl 18 (by decide) mF_X8_187 rfl rfl (Nat.le_of_ble_eq_true rfl) [oX8 a g_undos r74.2.2.2.1 r74.2.2.2.2.1 g_length r74.2.2.2.2.2.2.1 g_gapFirst g_gapLast g_layings r74.2.2.2.2.2.2.2.1 r74.2.2.2.2.2.2.2.2.1 (g_clauses + 1) g_drafts, ar cI (a 1) 5058 r74.2.1, ar cI (a 3) 36 r74.2.2.1, ar cI (a 7) 200 g_text, ar cI (a 9) 132 r74.2.2.2.2.2.1, ar cI (a 18) 3 r74.2.2.2.2.2.2.2.2.2, ar cI (a 20) 48 g_words, ar cI (a 21) 24 g_sorts] rfl dX8_reads_85 (fun H locs hw85 => ?_)
            refine lv_goto (tgt := 20) hx hb dX8_reads_88 (by decide) ?_
            exact ih _ _ _ _ _ _ _ _ _ _ _ _ _ _ hw85 (lv_sub hl [1, 2, 0] rfl) h
        · replace h := br_f' h c41
          refine lv_aload_n hx hb dX8_reads_44 rfl (lv_at hl 0 rfl) ?_
          refine k_get C inT_X8 hw 0 rfl rfl 6 (by decide) mF_X8_19 rfl dX8_reads_45 ?_
          refine lv_aload_n hx hb dX8_reads_48 rfl (lv_at hl 0 rfl) ?_
          refine k_get C inT_X8 hw 0 rfl rfl 15 (by decide) mF_X8_141 rfl dX8_reads_49 ?_
          obtain ⟨y52, q52, h⟩ := bd h
          refine k_iald C hw 3 rfl q52 dX8_reads_52 ?_
          refine lv_bipush (v := 59) hx hb dX8_reads_53 (by decide) ?_
          refine lv_icmp_ne (tgt := 62) hx hb dX8_reads_55 (by decide) (fun c55 => ?_) (fun c55 => ?_)
          · replace h := br_f' h c55
            refine lv_iconst (v := 0) hx hb dX8_reads_62 (by decide) ?_
            refine lv_istore_n (lv' := [(2, .int 0), (0, .ref (a 0)), (1, .int x1)]) hx hb dX8_reads_63 rfl hl (by decide) rfl (fun ls hl => ?_)
            refine lv_iload_n hx hb dX8_reads_64 rfl (lv_at hl 0 rfl) ?_
            refine lv_if_eq (tgt := 20) hx hb dX8_reads_65 (by decide) (fun c65 => ?_) (fun c65 => ?_)
            · replace h := br_t' h c65
              exact ih _ _ _ _ _ _ _ _ _ _ _ _ _ _ hw (lv_sub hl [1, 2, 0] rfl) h
            · replace h := br_f' h c65
              refine lv_aload_n hx hb dX8_reads_68 rfl (lv_at hl 1 rfl) ?_
              obtain ⟨r69, q69, h⟩ := bd h
              refine k_callV (nC := 8) [oX8 a g_undos g_listed g_papers g_length g_besides g_gapFirst g_gapLast g_layings r69.1 r69.2 g_clauses g_drafts, ar cI (a 1) 5058 g_row, ar cI (a 3) 36 g_list, ar cI (a 7) 200 g_text, ar cI (a 9) 132 g_beside, ar cI (a 18) 3 g_numbers, ar cI (a 20) 48 g_words, ar cI (a 21) 24 g_sorts] C hl.1 (tX8_nextToken (a := a) q69) mL_X8_157 mmX8_nextToken rfl rfl ⟨Nat.le_of_ble_eq_true rfl, Nat.le_of_ble_eq_true rfl⟩ rfl rfl rfl rfl (Nat.le_of_ble_eq_true rfl) hA hw [0, 3] [1, 2, 4, 5, 6, 7] rfl (by decide +kernel) rfl rfl rfl rfl dX8_reads_69 (fun H locs hw69 => ?_)
              refine lv_aload_n hx hb dX8_reads_72 rfl (lv_at hl 1 rfl) ?_
              refine lv_iload_n hx hb dX8_reads_73 rfl (lv_at hl 2 rfl) ?_
              obtain ⟨r74, q74, h⟩ := bd h
              refine k_callV (nC := 8) [oX8 a g_undos r74.2.2.2.1 r74.2.2.2.2.1 g_length r74.2.2.2.2.2.2.1 g_gapFirst g_gapLast g_layings r74.2.2.2.2.2.2.2.1 r74.2.2.2.2.2.2.2.2.1 g_clauses g_drafts, ar cI (a 1) 5058 r74.2.1, ar cI (a 3) 36 r74.2.2.1, ar cI (a 7) 200 g_text, ar cI (a 9) 132 r74.2.2.2.2.2.1, ar cI (a 18) 3 r74.2.2.2.2.2.2.2.2.2, ar cI (a 20) 48 g_words, ar cI (a 21) 24 g_sorts] C hl.1 (tX8_readsClause (a := a) q74) mL_X8_190 mmX8_readsClause rfl rfl ⟨Nat.le_of_ble_eq_true rfl, Nat.le_of_ble_eq_true rfl⟩ rfl rfl rfl rfl (Nat.le_of_ble_eq_true rfl) hA hw69 [0, 1, 2, 3, 4, 5, 6, 7] [] rfl (by decide +kernel) rfl rfl rfl rfl dX8_reads_74 (fun H locs hw74 => ?_)
              refine lv_istore_n (lv' := [(2, .int r74.1), (0, .ref (a 0)), (1, .int x1)]) hx hb dX8_reads_77 rfl hl (by decide) rfl (fun ls hl => ?_)
              refine lv_aload_n hx hb dX8_reads_78 rfl (lv_at hl 1 rfl) ?_
              refine lv_dup hx hb dX8_reads_79 rfl ?_
              refine k_get C inT_X8 hw74 0 rfl rfl 18 (by decide) mF_X8_187 rfl dX8_reads_80 ?_
              refine lv_iconst (v := 1) hx hb dX8_reads_83 (by decide) ?_
              refine lv_iadd hx hb dX8_reads_84 ?_
              refine k_put C inT_X8 tyX8 tyX8_ok nmX8 hw74 0 rfl rfl 18 (by decide) mF_X8_187 rfl rfl (Nat.le_of_ble_eq_true rfl) [oX8 a g_undos r74.2.2.2.1 r74.2.2.2.2.1 g_length r74.2.2.2.2.2.2.1 g_gapFirst g_gapLast g_layings r74.2.2.2.2.2.2.2.1 r74.2.2.2.2.2.2.2.2.1 (g_clauses + 1) g_drafts, ar cI (a 1) 5058 r74.2.1, ar cI (a 3) 36 r74.2.2.1, ar cI (a 7) 200 g_text, ar cI (a 9) 132 r74.2.2.2.2.2.1, ar cI (a 18) 3 r74.2.2.2.2.2.2.2.2.2, ar cI (a 20) 48 g_words, ar cI (a 21) 24 g_sorts] rfl dX8_reads_85 (fun H locs hw85 => ?_)
              refine lv_goto (tgt := 20) hx hb dX8_reads_88 (by decide) ?_
              exact ih _ _ _ _ _ _ _ _ _ _ _ _ _ _ hw85 (lv_sub hl [1, 2, 0] rfl) h
          · replace h := br_t' h c55
            refine lv_iconst (v := 1) hx hb dX8_reads_58 (by decide) ?_
            refine lv_goto (tgt := 63) hx hb dX8_reads_59 (by decide) ?_
            refine lv_istore_n (lv' := [(2, .int 1), (0, .ref (a 0)), (1, .int x1)]) hx hb dX8_reads_63 rfl hl (by decide) rfl (fun ls hl => ?_)
            refine lv_iload_n hx hb dX8_reads_64 rfl (lv_at hl 0 rfl) ?_
            refine lv_if_eq (tgt := 20) hx hb dX8_reads_65 (by decide) (fun c65 => ?_) (fun c65 => ?_)
            · replace h := br_t' h c65
              exact ih _ _ _ _ _ _ _ _ _ _ _ _ _ _ hw (lv_sub hl [1, 2, 0] rfl) h
            · replace h := br_f' h c65
              refine lv_aload_n hx hb dX8_reads_68 rfl (lv_at hl 1 rfl) ?_
              obtain ⟨r69, q69, h⟩ := bd h
              refine k_callV (nC := 8) [oX8 a g_undos g_listed g_papers g_length g_besides g_gapFirst g_gapLast g_layings r69.1 r69.2 g_clauses g_drafts, ar cI (a 1) 5058 g_row, ar cI (a 3) 36 g_list, ar cI (a 7) 200 g_text, ar cI (a 9) 132 g_beside, ar cI (a 18) 3 g_numbers, ar cI (a 20) 48 g_words, ar cI (a 21) 24 g_sorts] C hl.1 (tX8_nextToken (a := a) q69) mL_X8_157 mmX8_nextToken rfl rfl ⟨Nat.le_of_ble_eq_true rfl, Nat.le_of_ble_eq_true rfl⟩ rfl rfl rfl rfl (Nat.le_of_ble_eq_true rfl) hA hw [0, 3] [1, 2, 4, 5, 6, 7] rfl (by decide +kernel) rfl rfl rfl rfl dX8_reads_69 (fun H locs hw69 => ?_)
              refine lv_aload_n hx hb dX8_reads_72 rfl (lv_at hl 1 rfl) ?_
              refine lv_iload_n hx hb dX8_reads_73 rfl (lv_at hl 2 rfl) ?_
              obtain ⟨r74, q74, h⟩ := bd h
              refine k_callV (nC := 8) [oX8 a g_undos r74.2.2.2.1 r74.2.2.2.2.1 g_length r74.2.2.2.2.2.2.1 g_gapFirst g_gapLast g_layings r74.2.2.2.2.2.2.2.1 r74.2.2.2.2.2.2.2.2.1 g_clauses g_drafts, ar cI (a 1) 5058 r74.2.1, ar cI (a 3) 36 r74.2.2.1, ar cI (a 7) 200 g_text, ar cI (a 9) 132 r74.2.2.2.2.2.1, ar cI (a 18) 3 r74.2.2.2.2.2.2.2.2.2, ar cI (a 20) 48 g_words, ar cI (a 21) 24 g_sorts] C hl.1 (tX8_readsClause (a := a) q74) mL_X8_190 mmX8_readsClause rfl rfl ⟨Nat.le_of_ble_eq_true rfl, Nat.le_of_ble_eq_true rfl⟩ rfl rfl rfl rfl (Nat.le_of_ble_eq_true rfl) hA hw69 [0, 1, 2, 3, 4, 5, 6, 7] [] rfl (by decide +kernel) rfl rfl rfl rfl dX8_reads_74 (fun H locs hw74 => ?_)
              refine lv_istore_n (lv' := [(2, .int r74.1), (0, .ref (a 0)), (1, .int x1)]) hx hb dX8_reads_77 rfl hl (by decide) rfl (fun ls hl => ?_)
              refine lv_aload_n hx hb dX8_reads_78 rfl (lv_at hl 1 rfl) ?_
              refine lv_dup hx hb dX8_reads_79 rfl ?_
              refine k_get C inT_X8 hw74 0 rfl rfl 18 (by decide) mF_X8_187 rfl dX8_reads_80 ?_
              refine lv_iconst (v := 1) hx hb dX8_reads_83 (by decide) ?_
              refine lv_iadd hx hb dX8_reads_84 ?_
              refine k_put C inT_X8 tyX8 tyX8_ok nmX8 hw74 0 rfl rfl 18 (by decide) mF_X8_187 rfl rfl (Nat.le_of_ble_eq_true rfl) [oX8 a g_undos r74.2.2.2.1 r74.2.2.2.2.1 g_length r74.2.2.2.2.2.2.1 g_gapFirst g_gapLast g_layings r74.2.2.2.2.2.2.2.1 r74.2.2.2.2.2.2.2.2.1 (g_clauses + 1) g_drafts, ar cI (a 1) 5058 r74.2.1, ar cI (a 3) 36 r74.2.2.1, ar cI (a 7) 200 g_text, ar cI (a 9) 132 r74.2.2.2.2.2.1, ar cI (a 18) 3 r74.2.2.2.2.2.2.2.2.2, ar cI (a 20) 48 g_words, ar cI (a 21) 24 g_sorts] rfl dX8_reads_85 (fun H locs hw85 => ?_)
              refine lv_goto (tgt := 20) hx hb dX8_reads_88 (by decide) ?_
              exact ih _ _ _ _ _ _ _ _ _ _ _ _ _ _ hw85 (lv_sub hl [1, 2, 0] rfl) h
def fX8_reads (g_row : Nat → Int32) (g_list : Nat → Int32) (g_listed : Int32) (g_papers : Int32) (g_text : Nat → Int32) (g_length : Int32) (g_beside : Nat → Int32) (g_besides : Int32) (g_first : Int32) (g_behind : Int32) (g_numbers : Nat → Int32) (g_clauses : Int32) (g_words : Nat → Int32) (g_sorts : Nat → Int32) (x1 : Int32) : Option (Int32 × (Nat → Int32) × (Nat → Int32) × Int32 × Int32 × (Nat → Int32) × Int32 × Int32 × Int32 × (Nat → Int32) × Int32) :=
  (fX8_nextToken g_text g_length g_first 0).bind fun r11 =>
  (fX8_readsClause g_row g_list g_listed g_papers g_text g_length g_beside g_besides r11.1 r11.2 g_numbers g_words g_sorts x1).bind fun r16 =>
  fX8_reads_20 g_text g_length g_words g_sorts x1 FU (fun x2_20 g_row_20 g_list_20 g_listed_20 g_papers_20 g_beside_20 g_besides_20 g_first_20 g_behind_20 g_numbers_20 g_clauses_20 =>
    (bz x2_20).bind fun b92 =>
    some (b92, g_row_20, g_list_20, g_listed_20, g_papers_20, g_beside_20, g_besides_20, g_first_20, g_behind_20, g_numbers_20, g_clauses_20)) r16.1 r16.2.1 r16.2.2.1 r16.2.2.2.1 r16.2.2.2.2.1 r16.2.2.2.2.2.1 r16.2.2.2.2.2.2.1 r16.2.2.2.2.2.2.2.1 r16.2.2.2.2.2.2.2.2.1 r16.2.2.2.2.2.2.2.2.2 1
set_option maxRecDepth 100000 in
set_option maxHeartbeats 4000000 in
theorem tX8_reads {l : Launch} {D : va_G} {cI : ClassId} {cS : GS} {a : Nat → Nat} {g_row : Nat → Int32} {g_undos : Int32} {g_list : Nat → Int32} {g_listed : Int32} {g_papers : Int32} {g_text : Nat → Int32} {g_length : Int32} {g_beside : Nat → Int32} {g_besides : Int32} {g_gapFirst : Int32} {g_gapLast : Int32} {g_layings : Int32} {g_first : Int32} {g_behind : Int32} {g_numbers : Nat → Int32} {g_clauses : Int32} {g_words : Nat → Int32} {g_sorts : Nat → Int32} {g_drafts : Int32} {x1 : Int32} {s0 : Int32} {s1 : (Nat → Int32)} {s2 : (Nat → Int32)} {s3 : Int32} {s4 : Int32} {s5 : (Nat → Int32)} {s6 : Int32} {s7 : Int32} {s8 : Int32} {s9 : (Nat → Int32)} {s10 : Int32} (h : fX8_reads g_row g_list g_listed g_papers g_text g_length g_beside g_besides g_first g_behind g_numbers g_clauses g_words g_sorts x1 = some (s0, s1, s2, s3, s4, s5, s6, s7, s8, s9, s10)) : CT l D cI cS yX8_reads cX8_reads 3 (some .boolean) rmX8_reads [.ref (a 0), .int x1] [oX8 a g_undos g_listed g_papers g_length g_besides g_gapFirst g_gapLast g_layings g_first g_behind g_clauses g_drafts, ar cI (a 1) 5058 g_row, ar cI (a 3) 36 g_list, ar cI (a 7) 200 g_text, ar cI (a 9) 132 g_beside, ar cI (a 18) 3 g_numbers, ar cI (a 20) 48 g_words, ar cI (a 21) 24 g_sorts] (some (.int s0)) [oX8 a g_undos s3 s4 g_length s6 g_gapFirst g_gapLast g_layings s7 s8 s10 g_drafts, ar cI (a 1) 5058 s1, ar cI (a 3) 36 s2, ar cI (a 7) 200 g_text, ar cI (a 9) 132 s5, ar cI (a 18) 3 s9, ar cI (a 20) 48 g_words, ar cI (a 21) 24 g_sorts] := by
  refine CT.of RX8 (by decide) rfl (Nat.le_of_ble_eq_true rfl) (fun p e s m below meth c ls A C hA hl hw => ?_)
  have hx := C.1.1
  have hb := C.1.2.1
  have hl : lv_has ls 3 [(0, .ref (a 0)), (1, .int x1)] := hl
  unfold fX8_reads at h
  refine lv_aload_n hx hb dX8_reads_0 rfl (lv_at hl 0 rfl) ?_
  refine lv_iconst (v := 0) hx hb dX8_reads_1 (by decide) ?_
  refine k_put C inT_X8 tyX8 tyX8_ok nmX8 hw 0 rfl rfl 16 (by decide) mF_X8_138 rfl rfl (Nat.le_of_ble_eq_true rfl) [oX8 a g_undos g_listed g_papers g_length g_besides g_gapFirst g_gapLast g_layings g_first 0 g_clauses g_drafts, ar cI (a 1) 5058 g_row, ar cI (a 3) 36 g_list, ar cI (a 7) 200 g_text, ar cI (a 9) 132 g_beside, ar cI (a 18) 3 g_numbers, ar cI (a 20) 48 g_words, ar cI (a 21) 24 g_sorts] rfl dX8_reads_2 (fun H locs hw2 => ?_)
  refine lv_aload_n hx hb dX8_reads_5 rfl (lv_at hl 0 rfl) ?_
  refine lv_iconst (v := 1) hx hb dX8_reads_6 (by decide) ?_
  refine k_put C inT_X8 tyX8 tyX8_ok nmX8 hw2 0 rfl rfl 18 (by decide) mF_X8_187 rfl rfl (Nat.le_of_ble_eq_true rfl) [oX8 a g_undos g_listed g_papers g_length g_besides g_gapFirst g_gapLast g_layings g_first 0 1 g_drafts, ar cI (a 1) 5058 g_row, ar cI (a 3) 36 g_list, ar cI (a 7) 200 g_text, ar cI (a 9) 132 g_beside, ar cI (a 18) 3 g_numbers, ar cI (a 20) 48 g_words, ar cI (a 21) 24 g_sorts] rfl dX8_reads_7 (fun H locs hw7 => ?_)
  refine lv_aload_n hx hb dX8_reads_10 rfl (lv_at hl 0 rfl) ?_
  obtain ⟨r11, q11, h⟩ := bd h
  refine k_callV (nC := 8) [oX8 a g_undos g_listed g_papers g_length g_besides g_gapFirst g_gapLast g_layings r11.1 r11.2 1 g_drafts, ar cI (a 1) 5058 g_row, ar cI (a 3) 36 g_list, ar cI (a 7) 200 g_text, ar cI (a 9) 132 g_beside, ar cI (a 18) 3 g_numbers, ar cI (a 20) 48 g_words, ar cI (a 21) 24 g_sorts] C hl.1 (tX8_nextToken (a := a) q11) mL_X8_157 mmX8_nextToken rfl rfl ⟨Nat.le_of_ble_eq_true rfl, Nat.le_of_ble_eq_true rfl⟩ rfl rfl rfl rfl (Nat.le_of_ble_eq_true rfl) hA hw7 [0, 3] [1, 2, 4, 5, 6, 7] rfl (by decide +kernel) rfl rfl rfl rfl dX8_reads_11 (fun H locs hw11 => ?_)
  refine lv_aload_n hx hb dX8_reads_14 rfl (lv_at hl 0 rfl) ?_
  refine lv_iload_n hx hb dX8_reads_15 rfl (lv_at hl 1 rfl) ?_
  obtain ⟨r16, q16, h⟩ := bd h
  refine k_callV (nC := 8) [oX8 a g_undos r16.2.2.2.1 r16.2.2.2.2.1 g_length r16.2.2.2.2.2.2.1 g_gapFirst g_gapLast g_layings r16.2.2.2.2.2.2.2.1 r16.2.2.2.2.2.2.2.2.1 1 g_drafts, ar cI (a 1) 5058 r16.2.1, ar cI (a 3) 36 r16.2.2.1, ar cI (a 7) 200 g_text, ar cI (a 9) 132 r16.2.2.2.2.2.1, ar cI (a 18) 3 r16.2.2.2.2.2.2.2.2.2, ar cI (a 20) 48 g_words, ar cI (a 21) 24 g_sorts] C hl.1 (tX8_readsClause (a := a) q16) mL_X8_190 mmX8_readsClause rfl rfl ⟨Nat.le_of_ble_eq_true rfl, Nat.le_of_ble_eq_true rfl⟩ rfl rfl rfl rfl (Nat.le_of_ble_eq_true rfl) hA hw11 [0, 1, 2, 3, 4, 5, 6, 7] [] rfl (by decide +kernel) rfl rfl rfl rfl dX8_reads_16 (fun H locs hw16 => ?_)
  refine lv_istore_n (lv' := [(2, .int r16.1), (0, .ref (a 0)), (1, .int x1)]) hx hb dX8_reads_19 rfl hl (by decide) rfl (fun ls hl => ?_)
  refine wX8_reads_20 C hA _ (fun x2_20 g_row_20 g_list_20 g_listed_20 g_papers_20 g_beside_20 g_besides_20 g_first_20 g_behind_20 g_numbers_20 g_clauses_20 H locs ls hw20x hl h => ?_) FU _ _ _ _ _ _ _ _ _ _ _ _ _ _ hw16 (lv_sub hl [1, 2, 0] rfl) h
  refine lv_iload_n hx hb dX8_reads_91 rfl (lv_at hl 2 rfl) ?_
  obtain ⟨b92, q92, h⟩ := bd h
  cases h
  exact k_zretb C q92 hw20x dX8_reads_92
def rmX8_fault : Room := { frames := 8, cells := 0, slots := 0, locals := 180 }
def fX8_fault (g_row : Nat → Int32) (g_list : Nat → Int32) (g_listed : Int32) (g_papers : Int32) (g_text : Nat → Int32) (g_length : Int32) (g_beside : Nat → Int32) (g_besides : Int32) (g_first : Int32) (g_behind : Int32) (g_numbers : Nat → Int32) (g_clauses : Int32) (g_words : Nat → Int32) (g_sorts : Nat → Int32) : Option (Int32 × (Nat → Int32) × (Nat → Int32) × Int32 × Int32 × (Nat → Int32) × Int32 × Int32 × Int32 × (Nat → Int32) × Int32) :=
  (fX8_reads g_row g_list g_listed g_papers g_text g_length g_beside g_besides g_first g_behind g_numbers g_clauses g_words g_sorts 0).bind fun r2 =>
  if r2.1 = 0 then
    some (r2.2.2.2.2.2.2.2.1, r2.2.1, r2.2.2.1, r2.2.2.2.1, r2.2.2.2.2.1, r2.2.2.2.2.2.1, r2.2.2.2.2.2.2.1, r2.2.2.2.2.2.2.2.1, r2.2.2.2.2.2.2.2.2.1, r2.2.2.2.2.2.2.2.2.2.1, r2.2.2.2.2.2.2.2.2.2.2)
  else
    some ((-1), r2.2.1, r2.2.2.1, r2.2.2.2.1, r2.2.2.2.2.1, r2.2.2.2.2.2.1, r2.2.2.2.2.2.2.1, r2.2.2.2.2.2.2.2.1, r2.2.2.2.2.2.2.2.2.1, r2.2.2.2.2.2.2.2.2.2.1, r2.2.2.2.2.2.2.2.2.2.2)
set_option maxRecDepth 100000 in
set_option maxHeartbeats 4000000 in
theorem tX8_fault {l : Launch} {D : va_G} {cI : ClassId} {cS : GS} {a : Nat → Nat} {g_row : Nat → Int32} {g_undos : Int32} {g_list : Nat → Int32} {g_listed : Int32} {g_papers : Int32} {g_text : Nat → Int32} {g_length : Int32} {g_beside : Nat → Int32} {g_besides : Int32} {g_gapFirst : Int32} {g_gapLast : Int32} {g_layings : Int32} {g_first : Int32} {g_behind : Int32} {g_numbers : Nat → Int32} {g_clauses : Int32} {g_words : Nat → Int32} {g_sorts : Nat → Int32} {g_drafts : Int32}  {s0 : Int32} {s1 : (Nat → Int32)} {s2 : (Nat → Int32)} {s3 : Int32} {s4 : Int32} {s5 : (Nat → Int32)} {s6 : Int32} {s7 : Int32} {s8 : Int32} {s9 : (Nat → Int32)} {s10 : Int32} (h : fX8_fault g_row g_list g_listed g_papers g_text g_length g_beside g_besides g_first g_behind g_numbers g_clauses g_words g_sorts = some (s0, s1, s2, s3, s4, s5, s6, s7, s8, s9, s10)) : CT l D cI cS yX8_fault cX8_fault 1 (some .int) rmX8_fault [.ref (a 0)] [oX8 a g_undos g_listed g_papers g_length g_besides g_gapFirst g_gapLast g_layings g_first g_behind g_clauses g_drafts, ar cI (a 1) 5058 g_row, ar cI (a 3) 36 g_list, ar cI (a 7) 200 g_text, ar cI (a 9) 132 g_beside, ar cI (a 18) 3 g_numbers, ar cI (a 20) 48 g_words, ar cI (a 21) 24 g_sorts] (some (.int s0)) [oX8 a g_undos s3 s4 g_length s6 g_gapFirst g_gapLast g_layings s7 s8 s10 g_drafts, ar cI (a 1) 5058 s1, ar cI (a 3) 36 s2, ar cI (a 7) 200 g_text, ar cI (a 9) 132 s5, ar cI (a 18) 3 s9, ar cI (a 20) 48 g_words, ar cI (a 21) 24 g_sorts] := by
  refine CT.of RX8 (by decide) rfl (Nat.le_of_ble_eq_true rfl) (fun p e s m below meth c ls A C hA hl hw => ?_)
  have hx := C.1.1
  have hb := C.1.2.1
  have hl : lv_has ls 1 [(0, .ref (a 0))] := hl
  unfold fX8_fault at h
  refine lv_aload_n hx hb dX8_fault_0 rfl (lv_at hl 0 rfl) ?_
  refine lv_iconst (v := 0) hx hb dX8_fault_1 (by decide) ?_
  obtain ⟨r2, q2, h⟩ := bd h
  refine k_callV (nC := 8) [oX8 a g_undos r2.2.2.2.1 r2.2.2.2.2.1 g_length r2.2.2.2.2.2.2.1 g_gapFirst g_gapLast g_layings r2.2.2.2.2.2.2.2.1 r2.2.2.2.2.2.2.2.2.1 r2.2.2.2.2.2.2.2.2.2.2 g_drafts, ar cI (a 1) 5058 r2.2.1, ar cI (a 3) 36 r2.2.2.1, ar cI (a 7) 200 g_text, ar cI (a 9) 132 r2.2.2.2.2.2.1, ar cI (a 18) 3 r2.2.2.2.2.2.2.2.2.2.1, ar cI (a 20) 48 g_words, ar cI (a 21) 24 g_sorts] C hl.1 (tX8_reads (a := a) q2) mL_X8_194 mmX8_reads rfl rfl ⟨Nat.le_of_ble_eq_true rfl, Nat.le_of_ble_eq_true rfl⟩ rfl rfl rfl rfl (Nat.le_of_ble_eq_true rfl) hA hw [0, 1, 2, 3, 4, 5, 6, 7] [] rfl (by decide +kernel) rfl rfl rfl rfl dX8_fault_2 (fun H locs hw2 => ?_)
  refine lv_if_eq (tgt := 12) hx hb dX8_fault_5 (by decide) (fun c5 => ?_) (fun c5 => ?_)
  · replace h := br_t' h c5
    refine lv_aload_n hx hb dX8_fault_12 rfl (lv_at hl 0 rfl) ?_
    refine k_get C inT_X8 hw2 0 rfl rfl 15 (by decide) mF_X8_141 rfl dX8_fault_13 ?_
    cases h
    exact k_iret C hw2 dX8_fault_16
  · replace h := br_f' h c5
    refine lv_iconst (v := (-1)) hx hb dX8_fault_8 (by decide) ?_
    refine lv_goto (tgt := 16) hx hb dX8_fault_9 (by decide) ?_
    cases h
    exact k_iret C hw2 dX8_fault_16
def rmX8_tell : Room := { frames := 8, cells := 0, slots := 0, locals := 180 }
def fX8_tell (g_row : Nat → Int32) (g_undos : Int32) (g_list : Nat → Int32) (g_listed : Int32) (g_papers : Int32) (g_text : Nat → Int32) (g_length : Int32) (g_beside : Nat → Int32) (g_besides : Int32) (g_first : Int32) (g_behind : Int32) (g_numbers : Nat → Int32) (g_clauses : Int32) (g_words : Nat → Int32) (g_sorts : Nat → Int32) : Option (Int32 × (Nat → Int32) × Int32 × (Nat → Int32) × Int32 × Int32 × Int32 × (Nat → Int32) × Int32 × Int32 × Int32 × (Nat → Int32) × Int32) :=
  (fX8_reads g_row g_list g_listed g_papers g_text g_length g_beside g_besides g_first g_behind g_numbers g_clauses g_words g_sorts 0).bind fun r2 =>
  if r2.1 = 0 then
    some ((-4), r2.2.1, g_undos, r2.2.2.1, r2.2.2.2.1, r2.2.2.2.2.1, g_length, r2.2.2.2.2.2.1, r2.2.2.2.2.2.2.1, r2.2.2.2.2.2.2.2.1, r2.2.2.2.2.2.2.2.2.1, r2.2.2.2.2.2.2.2.2.2.1, r2.2.2.2.2.2.2.2.2.2.2)
  else
    (fX8_reads r2.2.1 r2.2.2.1 r2.2.2.2.1 r2.2.2.2.2.1 g_text g_length r2.2.2.2.2.2.1 r2.2.2.2.2.2.2.1 r2.2.2.2.2.2.2.2.1 r2.2.2.2.2.2.2.2.2.1 r2.2.2.2.2.2.2.2.2.2.1 r2.2.2.2.2.2.2.2.2.2.2 g_words g_sorts 1).bind fun r13 =>
    some (r13.2.2.2.2.2.2.2.2.2.2, r13.2.1, 0, r13.2.2.1, r13.2.2.2.1, r13.2.2.2.2.1, 0, r13.2.2.2.2.2.1, r13.2.2.2.2.2.2.1, r13.2.2.2.2.2.2.2.1, r13.2.2.2.2.2.2.2.2.1, r13.2.2.2.2.2.2.2.2.2.1, r13.2.2.2.2.2.2.2.2.2.2)
set_option maxRecDepth 100000 in
set_option maxHeartbeats 4000000 in
theorem tX8_tell {l : Launch} {D : va_G} {cI : ClassId} {cS : GS} {a : Nat → Nat} {g_row : Nat → Int32} {g_undos : Int32} {g_list : Nat → Int32} {g_listed : Int32} {g_papers : Int32} {g_text : Nat → Int32} {g_length : Int32} {g_beside : Nat → Int32} {g_besides : Int32} {g_gapFirst : Int32} {g_gapLast : Int32} {g_layings : Int32} {g_first : Int32} {g_behind : Int32} {g_numbers : Nat → Int32} {g_clauses : Int32} {g_words : Nat → Int32} {g_sorts : Nat → Int32} {g_drafts : Int32}  {s0 : Int32} {s1 : (Nat → Int32)} {s2 : Int32} {s3 : (Nat → Int32)} {s4 : Int32} {s5 : Int32} {s6 : Int32} {s7 : (Nat → Int32)} {s8 : Int32} {s9 : Int32} {s10 : Int32} {s11 : (Nat → Int32)} {s12 : Int32} (h : fX8_tell g_row g_undos g_list g_listed g_papers g_text g_length g_beside g_besides g_first g_behind g_numbers g_clauses g_words g_sorts = some (s0, s1, s2, s3, s4, s5, s6, s7, s8, s9, s10, s11, s12)) : CT l D cI cS yX8_tell cX8_tell 1 (some .int) rmX8_tell [.ref (a 0)] [oX8 a g_undos g_listed g_papers g_length g_besides g_gapFirst g_gapLast g_layings g_first g_behind g_clauses g_drafts, ar cI (a 1) 5058 g_row, ar cI (a 3) 36 g_list, ar cI (a 7) 200 g_text, ar cI (a 9) 132 g_beside, ar cI (a 18) 3 g_numbers, ar cI (a 20) 48 g_words, ar cI (a 21) 24 g_sorts] (some (.int s0)) [oX8 a s2 s4 s5 s6 s8 g_gapFirst g_gapLast g_layings s9 s10 s12 g_drafts, ar cI (a 1) 5058 s1, ar cI (a 3) 36 s3, ar cI (a 7) 200 g_text, ar cI (a 9) 132 s7, ar cI (a 18) 3 s11, ar cI (a 20) 48 g_words, ar cI (a 21) 24 g_sorts] := by
  refine CT.of RX8 (by decide) rfl (Nat.le_of_ble_eq_true rfl) (fun p e s m below meth c ls A C hA hl hw => ?_)
  have hx := C.1.1
  have hb := C.1.2.1
  have hl : lv_has ls 1 [(0, .ref (a 0))] := hl
  unfold fX8_tell at h
  refine lv_aload_n hx hb dX8_tell_0 rfl (lv_at hl 0 rfl) ?_
  refine lv_iconst (v := 0) hx hb dX8_tell_1 (by decide) ?_
  obtain ⟨r2, q2, h⟩ := bd h
  refine k_callV (nC := 8) [oX8 a g_undos r2.2.2.2.1 r2.2.2.2.2.1 g_length r2.2.2.2.2.2.2.1 g_gapFirst g_gapLast g_layings r2.2.2.2.2.2.2.2.1 r2.2.2.2.2.2.2.2.2.1 r2.2.2.2.2.2.2.2.2.2.2 g_drafts, ar cI (a 1) 5058 r2.2.1, ar cI (a 3) 36 r2.2.2.1, ar cI (a 7) 200 g_text, ar cI (a 9) 132 r2.2.2.2.2.2.1, ar cI (a 18) 3 r2.2.2.2.2.2.2.2.2.2.1, ar cI (a 20) 48 g_words, ar cI (a 21) 24 g_sorts] C hl.1 (tX8_reads (a := a) q2) mL_X8_194 mmX8_reads rfl rfl ⟨Nat.le_of_ble_eq_true rfl, Nat.le_of_ble_eq_true rfl⟩ rfl rfl rfl rfl (Nat.le_of_ble_eq_true rfl) hA hw [0, 1, 2, 3, 4, 5, 6, 7] [] rfl (by decide +kernel) rfl rfl rfl rfl dX8_tell_2 (fun H locs hw2 => ?_)
  refine lv_if_ne (tgt := 11) hx hb dX8_tell_5 (by decide) (fun c5 => ?_) (fun c5 => ?_)
  · replace h := br_f' h c5
    refine lv_aload_n hx hb dX8_tell_11 rfl (lv_at hl 0 rfl) ?_
    refine lv_iconst (v := 1) hx hb dX8_tell_12 (by decide) ?_
    obtain ⟨r13, q13, h⟩ := bd h
    refine k_callV (nC := 8) [oX8 a g_undos r13.2.2.2.1 r13.2.2.2.2.1 g_length r13.2.2.2.2.2.2.1 g_gapFirst g_gapLast g_layings r13.2.2.2.2.2.2.2.1 r13.2.2.2.2.2.2.2.2.1 r13.2.2.2.2.2.2.2.2.2.2 g_drafts, ar cI (a 1) 5058 r13.2.1, ar cI (a 3) 36 r13.2.2.1, ar cI (a 7) 200 g_text, ar cI (a 9) 132 r13.2.2.2.2.2.1, ar cI (a 18) 3 r13.2.2.2.2.2.2.2.2.2.1, ar cI (a 20) 48 g_words, ar cI (a 21) 24 g_sorts] C hl.1 (tX8_reads (a := a) q13) mL_X8_194 mmX8_reads rfl rfl ⟨Nat.le_of_ble_eq_true rfl, Nat.le_of_ble_eq_true rfl⟩ rfl rfl rfl rfl (Nat.le_of_ble_eq_true rfl) hA hw2 [0, 1, 2, 3, 4, 5, 6, 7] [] rfl (by decide +kernel) rfl rfl rfl rfl dX8_tell_13 (fun H locs hw13 => ?_)
    refine lv_pop hx hb dX8_tell_16 rfl ?_
    refine lv_aload_n hx hb dX8_tell_17 rfl (lv_at hl 0 rfl) ?_
    refine lv_iconst (v := 0) hx hb dX8_tell_18 (by decide) ?_
    refine k_put C inT_X8 tyX8 tyX8_ok nmX8 hw13 0 rfl rfl 7 (by decide) mF_X8_127 rfl rfl (Nat.le_of_ble_eq_true rfl) [oX8 a g_undos r13.2.2.2.1 r13.2.2.2.2.1 0 r13.2.2.2.2.2.2.1 g_gapFirst g_gapLast g_layings r13.2.2.2.2.2.2.2.1 r13.2.2.2.2.2.2.2.2.1 r13.2.2.2.2.2.2.2.2.2.2 g_drafts, ar cI (a 1) 5058 r13.2.1, ar cI (a 3) 36 r13.2.2.1, ar cI (a 7) 200 g_text, ar cI (a 9) 132 r13.2.2.2.2.2.1, ar cI (a 18) 3 r13.2.2.2.2.2.2.2.2.2.1, ar cI (a 20) 48 g_words, ar cI (a 21) 24 g_sorts] rfl dX8_tell_19 (fun H locs hw19 => ?_)
    refine lv_aload_n hx hb dX8_tell_22 rfl (lv_at hl 0 rfl) ?_
    refine lv_iconst (v := 0) hx hb dX8_tell_23 (by decide) ?_
    refine k_put C inT_X8 tyX8 tyX8_ok nmX8 hw19 0 rfl rfl 1 (by decide) mF_X8_197 rfl rfl (Nat.le_of_ble_eq_true rfl) [oX8 a 0 r13.2.2.2.1 r13.2.2.2.2.1 0 r13.2.2.2.2.2.2.1 g_gapFirst g_gapLast g_layings r13.2.2.2.2.2.2.2.1 r13.2.2.2.2.2.2.2.2.1 r13.2.2.2.2.2.2.2.2.2.2 g_drafts, ar cI (a 1) 5058 r13.2.1, ar cI (a 3) 36 r13.2.2.1, ar cI (a 7) 200 g_text, ar cI (a 9) 132 r13.2.2.2.2.2.1, ar cI (a 18) 3 r13.2.2.2.2.2.2.2.2.2.1, ar cI (a 20) 48 g_words, ar cI (a 21) 24 g_sorts] rfl dX8_tell_24 (fun H locs hw24 => ?_)
    refine lv_aload_n hx hb dX8_tell_27 rfl (lv_at hl 0 rfl) ?_
    refine k_get C inT_X8 hw24 0 rfl rfl 18 (by decide) mF_X8_187 rfl dX8_tell_28 ?_
    cases h
    exact k_iret C hw24 dX8_tell_31
  · replace h := br_t' h c5
    refine lv_bipush (v := (-4)) hx hb dX8_tell_8 (by decide) ?_
    cases h
    exact k_iret C hw2 dX8_tell_10
def rmX8_keepPast : Room := { frames := 0, cells := 0, slots := 0, locals := 0 }
def fX8_keepPast_4 (g_undos : Int32) : (n : Nat) → (k : Int32 → (Nat → Int32) → Option ((Nat → Int32) × Int32)) → Int32 → (Nat → Int32) → Option ((Nat → Int32) × Int32)
  | 0, _, _, _ => none
  | n + 1, k, x1, g_row =>
    if 4496 ≤ x1 then
      k x1 g_row
    else
      if g_undos = 8 then
        (ld 5058 g_row (x1 + 562)).bind fun y34 =>
        (sv 5058 g_row x1 y34).bind fun g35 =>
        fX8_keepPast_4 g_undos n k (x1 + 1) g35
      else
        k x1 g_row
set_option maxRecDepth 100000 in
set_option maxHeartbeats 4000000 in
theorem wX8_keepPast_4 {p : Program} {l : Launch} {e : Env} {s : State} {m : MethodId} {args : Array Value} {below : List Frame} {meth : Method} {c : Code} {D : va_G} {cI : ClassId} {cS : GS} {A : Nat → Prop} {a : Nat → Nat} {g_undos : Int32} {g_listed : Int32} {g_papers : Int32} {g_length : Int32} {g_besides : Int32} {g_gapFirst : Int32} {g_gapLast : Int32} {g_layings : Int32} {g_first : Int32} {g_behind : Int32} {g_clauses : Int32} {g_drafts : Int32} (C : MC p s m args meth c D cI cS A RX8 cX8_keepPast 2 none) (hA : ∀ q, s.heap.size ≤ q → A q) {s0 : (Nat → Int32)} {s1 : Int32} (k : Int32 → (Nat → Int32) → Option ((Nat → Int32) × Int32)) (hk : ∀ (x1 : Int32) (g_row : Nat → Int32) (H : Heap) (locs : List Loc) (ls : Array Slot), Wd D A s.heap H locs [oX8 a g_undos g_listed g_papers g_length g_besides g_gapFirst g_gapLast g_layings g_first g_behind g_clauses g_drafts, ar cI (a 1) 5058 g_row] → lv_has ls 2 [(0, .ref (a 0)), (1, .int x1)] → k x1 g_row = some (s0, s1) → W p l e rmX8_keepPast s m args below meth c H locs 0 0 (KQ D A below args s none [oX8 a s1 g_listed g_papers g_length g_besides g_gapFirst g_gapLast g_layings g_first g_behind g_clauses g_drafts, ar cI (a 1) 5058 s0]) (F0 m 42 ls [])) :
    ∀ (n : Nat) (x1 : Int32) (g_row : Nat → Int32) (H : Heap) (locs : List Loc) (ls : Array Slot), Wd D A s.heap H locs [oX8 a g_undos g_listed g_papers g_length g_besides g_gapFirst g_gapLast g_layings g_first g_behind g_clauses g_drafts, ar cI (a 1) 5058 g_row] → lv_has ls 2 [(0, .ref (a 0)), (1, .int x1)] → fX8_keepPast_4 g_undos n k x1 g_row = some (s0, s1) → W p l e rmX8_keepPast s m args below meth c H locs 0 0 (KQ D A below args s none [oX8 a s1 g_listed g_papers g_length g_besides g_gapFirst g_gapLast g_layings g_first g_behind g_clauses g_drafts, ar cI (a 1) 5058 s0]) (F0 m 4 ls []) := by
  have hx := C.1.1
  have hb := C.1.2.1
  intro n
  induction n with
  | zero =>
    intro x1 g_row H locs ls hw hl h
    rw [fX8_keepPast_4] at h
    cases h
  | succ n ih =>
    intro x1 g_row H locs ls hw hl h
    rw [fX8_keepPast_4] at h
    refine lv_iload_n hx hb dX8_keepPast_4 rfl (lv_at hl 1 rfl) ?_
    refine lv_sipush (v := 4496) hx hb dX8_keepPast_5 (by decide) ?_
    refine lv_icmp_ge (tgt := 42) hx hb dX8_keepPast_8 (by decide) (fun c8 => ?_) (fun c8 => ?_)
    · replace h := br_t' h c8
      exact hk _ _ _ _ _ hw (lv_sub hl [0, 1] rfl) h
    · replace h := br_f' h c8
      refine lv_aload_n hx hb dX8_keepPast_11 rfl (lv_at hl 0 rfl) ?_
      refine k_get C inT_X8 hw 0 rfl rfl 1 (by decide) mF_X8_197 rfl dX8_keepPast_12 ?_
      refine lv_bipush (v := 8) hx hb dX8_keepPast_15 (by decide) ?_
      refine lv_icmp_ne (tgt := 42) hx hb dX8_keepPast_17 (by decide) (fun c17 => ?_) (fun c17 => ?_)
      · replace h := br_f' h c17
        exact hk _ _ _ _ _ hw (lv_sub hl [0, 1] rfl) h
      · replace h := br_t' h c17
        refine lv_aload_n hx hb dX8_keepPast_20 rfl (lv_at hl 0 rfl) ?_
        refine k_get C inT_X8 hw 0 rfl rfl 0 (by decide) mF_X8_7 rfl dX8_keepPast_21 ?_
        refine lv_iload_n hx hb dX8_keepPast_24 rfl (lv_at hl 1 rfl) ?_
        refine lv_aload_n hx hb dX8_keepPast_25 rfl (lv_at hl 0 rfl) ?_
        refine k_get C inT_X8 hw 0 rfl rfl 0 (by decide) mF_X8_7 rfl dX8_keepPast_26 ?_
        refine lv_iload_n hx hb dX8_keepPast_29 rfl (lv_at hl 1 rfl) ?_
        refine lv_sipush (v := 562) hx hb dX8_keepPast_30 (by decide) ?_
        refine lv_iadd hx hb dX8_keepPast_33 ?_
        obtain ⟨y34, q34, h⟩ := bd h
        refine k_iald C hw 1 rfl q34 dX8_keepPast_34 ?_
        obtain ⟨g35, q35, h⟩ := bd h
        refine k_iast C hw 1 rfl q35 [oX8 a g_undos g_listed g_papers g_length g_besides g_gapFirst g_gapLast g_layings g_first g_behind g_clauses g_drafts, ar cI (a 1) 5058 g35] rfl dX8_keepPast_35 (fun H locs hw35 => ?_)
        refine lv_iinc (v := (x1 + 1)) (lv' := [(1, .int (x1 + 1)), (0, .ref (a 0))]) hx hb dX8_keepPast_36 hl (k := 1) rfl rfl (by decide) rfl (fun ls hl => ?_)
        refine lv_goto (tgt := 4) hx hb dX8_keepPast_39 (by decide) ?_
        exact ih _ _ _ _ _ hw35 (lv_sub hl [1, 0] rfl) h
def fX8_keepPast_67 (g_undos : Int32) : (n : Nat) → (k : Int32 → (Nat → Int32) → Option ((Nat → Int32) × Int32)) → Int32 → (Nat → Int32) → Option ((Nat → Int32) × Int32)
  | 0, _, _, _ => none
  | n + 1, k, x1, g_row =>
    if 562 ≤ x1 then
      k x1 g_row
    else
      (ld 5058 g_row x1).bind fun y97 =>
      (sv 5058 g_row ((562 + (562 * g_undos)) + x1) y97).bind fun g98 =>
      fX8_keepPast_67 g_undos n k (x1 + 1) g98
set_option maxRecDepth 100000 in
set_option maxHeartbeats 4000000 in
theorem wX8_keepPast_67 {p : Program} {l : Launch} {e : Env} {s : State} {m : MethodId} {args : Array Value} {below : List Frame} {meth : Method} {c : Code} {D : va_G} {cI : ClassId} {cS : GS} {A : Nat → Prop} {a : Nat → Nat} {g_undos : Int32} {g_listed : Int32} {g_papers : Int32} {g_length : Int32} {g_besides : Int32} {g_gapFirst : Int32} {g_gapLast : Int32} {g_layings : Int32} {g_first : Int32} {g_behind : Int32} {g_clauses : Int32} {g_drafts : Int32} (C : MC p s m args meth c D cI cS A RX8 cX8_keepPast 2 none) (hA : ∀ q, s.heap.size ≤ q → A q) {s0 : (Nat → Int32)} {s1 : Int32} (k : Int32 → (Nat → Int32) → Option ((Nat → Int32) × Int32)) (hk : ∀ (x1 : Int32) (g_row : Nat → Int32) (H : Heap) (locs : List Loc) (ls : Array Slot), Wd D A s.heap H locs [oX8 a g_undos g_listed g_papers g_length g_besides g_gapFirst g_gapLast g_layings g_first g_behind g_clauses g_drafts, ar cI (a 1) 5058 g_row] → lv_has ls 2 [(0, .ref (a 0)), (1, .int x1)] → k x1 g_row = some (s0, s1) → W p l e rmX8_keepPast s m args below meth c H locs 0 0 (KQ D A below args s none [oX8 a s1 g_listed g_papers g_length g_besides g_gapFirst g_gapLast g_layings g_first g_behind g_clauses g_drafts, ar cI (a 1) 5058 s0]) (F0 m 105 ls [])) :
    ∀ (n : Nat) (x1 : Int32) (g_row : Nat → Int32) (H : Heap) (locs : List Loc) (ls : Array Slot), Wd D A s.heap H locs [oX8 a g_undos g_listed g_papers g_length g_besides g_gapFirst g_gapLast g_layings g_first g_behind g_clauses g_drafts, ar cI (a 1) 5058 g_row] → lv_has ls 2 [(0, .ref (a 0)), (1, .int x1)] → fX8_keepPast_67 g_undos n k x1 g_row = some (s0, s1) → W p l e rmX8_keepPast s m args below meth c H locs 0 0 (KQ D A below args s none [oX8 a s1 g_listed g_papers g_length g_besides g_gapFirst g_gapLast g_layings g_first g_behind g_clauses g_drafts, ar cI (a 1) 5058 s0]) (F0 m 67 ls []) := by
  have hx := C.1.1
  have hb := C.1.2.1
  intro n
  induction n with
  | zero =>
    intro x1 g_row H locs ls hw hl h
    rw [fX8_keepPast_67] at h
    cases h
  | succ n ih =>
    intro x1 g_row H locs ls hw hl h
    rw [fX8_keepPast_67] at h
    refine lv_iload_n hx hb dX8_keepPast_67 rfl (lv_at hl 1 rfl) ?_
    refine lv_sipush (v := 562) hx hb dX8_keepPast_68 (by decide) ?_
    refine lv_icmp_ge (tgt := 105) hx hb dX8_keepPast_71 (by decide) (fun c71 => ?_) (fun c71 => ?_)
    · replace h := br_t' h c71
      exact hk _ _ _ _ _ hw (lv_sub hl [0, 1] rfl) h
    · replace h := br_f' h c71
      refine lv_aload_n hx hb dX8_keepPast_74 rfl (lv_at hl 0 rfl) ?_
      refine k_get C inT_X8 hw 0 rfl rfl 0 (by decide) mF_X8_7 rfl dX8_keepPast_75 ?_
      refine lv_sipush (v := 562) hx hb dX8_keepPast_78 (by decide) ?_
      refine lv_sipush (v := 562) hx hb dX8_keepPast_81 (by decide) ?_
      refine lv_aload_n hx hb dX8_keepPast_84 rfl (lv_at hl 0 rfl) ?_
      refine k_get C inT_X8 hw 0 rfl rfl 1 (by decide) mF_X8_197 rfl dX8_keepPast_85 ?_
      refine lv_imul hx hb dX8_keepPast_88 ?_
      refine lv_iadd hx hb dX8_keepPast_89 ?_
      refine lv_iload_n hx hb dX8_keepPast_90 rfl (lv_at hl 1 rfl) ?_
      refine lv_iadd hx hb dX8_keepPast_91 ?_
      refine lv_aload_n hx hb dX8_keepPast_92 rfl (lv_at hl 0 rfl) ?_
      refine k_get C inT_X8 hw 0 rfl rfl 0 (by decide) mF_X8_7 rfl dX8_keepPast_93 ?_
      refine lv_iload_n hx hb dX8_keepPast_96 rfl (lv_at hl 1 rfl) ?_
      obtain ⟨y97, q97, h⟩ := bd h
      refine k_iald C hw 1 rfl q97 dX8_keepPast_97 ?_
      obtain ⟨g98, q98, h⟩ := bd h
      refine k_iast C hw 1 rfl q98 [oX8 a g_undos g_listed g_papers g_length g_besides g_gapFirst g_gapLast g_layings g_first g_behind g_clauses g_drafts, ar cI (a 1) 5058 g98] rfl dX8_keepPast_98 (fun H locs hw98 => ?_)
      refine lv_iinc (v := (x1 + 1)) (lv' := [(1, .int (x1 + 1)), (0, .ref (a 0))]) hx hb dX8_keepPast_99 hl (k := 1) rfl rfl (by decide) rfl (fun ls hl => ?_)
      refine lv_goto (tgt := 67) hx hb dX8_keepPast_102 (by decide) ?_
      exact ih _ _ _ _ _ hw98 (lv_sub hl [1, 0] rfl) h
def fX8_keepPast (g_row : Nat → Int32) (g_undos : Int32) : Option ((Nat → Int32) × Int32) :=
  fX8_keepPast_4 g_undos FU (fun x1_4 g_row_4 =>
    if g_undos = 8 then
      fX8_keepPast_67 (g_undos - 1) FU (fun x1_67 g_row_67 =>
        some (g_row_67, ((g_undos - 1) + 1))) 0 g_row_4
    else
      fX8_keepPast_67 (g_undos - 0) FU (fun x1_67 g_row_67 =>
        some (g_row_67, ((g_undos - 0) + 1))) 0 g_row_4) 562 g_row
set_option maxRecDepth 100000 in
set_option maxHeartbeats 4000000 in
theorem tX8_keepPast {l : Launch} {D : va_G} {cI : ClassId} {cS : GS} {a : Nat → Nat} {g_row : Nat → Int32} {g_undos : Int32} {g_listed : Int32} {g_papers : Int32} {g_length : Int32} {g_besides : Int32} {g_gapFirst : Int32} {g_gapLast : Int32} {g_layings : Int32} {g_first : Int32} {g_behind : Int32} {g_clauses : Int32} {g_drafts : Int32}  {s0 : (Nat → Int32)} {s1 : Int32} (h : fX8_keepPast g_row g_undos = some (s0, s1)) : CT l D cI cS yX8_keepPast cX8_keepPast 2 none rmX8_keepPast [.ref (a 0)] [oX8 a g_undos g_listed g_papers g_length g_besides g_gapFirst g_gapLast g_layings g_first g_behind g_clauses g_drafts, ar cI (a 1) 5058 g_row] none [oX8 a s1 g_listed g_papers g_length g_besides g_gapFirst g_gapLast g_layings g_first g_behind g_clauses g_drafts, ar cI (a 1) 5058 s0] := by
  refine CT.of RX8 (by decide) rfl (Nat.le_of_ble_eq_true rfl) (fun p e s m below meth c ls A C hA hl hw => ?_)
  have hx := C.1.1
  have hb := C.1.2.1
  have hl : lv_has ls 2 [(0, .ref (a 0))] := hl
  unfold fX8_keepPast at h
  refine lv_sipush (v := 562) hx hb dX8_keepPast_0 (by decide) ?_
  refine lv_istore_n (lv' := [(1, .int 562), (0, .ref (a 0))]) hx hb dX8_keepPast_3 rfl hl (by decide) rfl (fun ls hl => ?_)
  refine wX8_keepPast_4 C hA _ (fun x1_4 g_row_4 H locs ls hw4x hl h => ?_) FU _ _ _ _ _ hw (lv_sub hl [1, 0] rfl) h
  refine lv_aload_n hx hb dX8_keepPast_42 rfl (lv_at hl 0 rfl) ?_
  refine lv_dup hx hb dX8_keepPast_43 rfl ?_
  refine k_get C inT_X8 hw4x 0 rfl rfl 1 (by decide) mF_X8_197 rfl dX8_keepPast_44 ?_
  refine lv_aload_n hx hb dX8_keepPast_47 rfl (lv_at hl 0 rfl) ?_
  refine k_get C inT_X8 hw4x 0 rfl rfl 1 (by decide) mF_X8_197 rfl dX8_keepPast_48 ?_
  refine lv_bipush (v := 8) hx hb dX8_keepPast_51 (by decide) ?_
  refine lv_icmp_ne (tgt := 60) hx hb dX8_keepPast_53 (by decide) (fun c53 => ?_) (fun c53 => ?_)
  · replace h := br_f' h c53
    refine lv_iconst (v := 0) hx hb dX8_keepPast_60 (by decide) ?_
    refine lv_isub hx hb dX8_keepPast_61 ?_
    refine k_put C inT_X8 tyX8 tyX8_ok nmX8 hw4x 0 rfl rfl 1 (by decide) mF_X8_197 rfl rfl (Nat.le_of_ble_eq_true rfl) [oX8 a (g_undos - 0) g_listed g_papers g_length g_besides g_gapFirst g_gapLast g_layings g_first g_behind g_clauses g_drafts, ar cI (a 1) 5058 g_row_4] rfl dX8_keepPast_62 (fun H locs hw62 => ?_)
    refine lv_iconst (v := 0) hx hb dX8_keepPast_65 (by decide) ?_
    refine lv_istore_n (lv' := [(1, .int 0), (0, .ref (a 0))]) hx hb dX8_keepPast_66 rfl hl (by decide) rfl (fun ls hl => ?_)
    refine wX8_keepPast_67 C hA _ (fun x1_67 g_row_67 H locs ls hw67x hl h => ?_) FU _ _ _ _ _ hw62 (lv_sub hl [1, 0] rfl) h
    refine lv_aload_n hx hb dX8_keepPast_105 rfl (lv_at hl 0 rfl) ?_
    refine lv_dup hx hb dX8_keepPast_106 rfl ?_
    refine k_get C inT_X8 hw67x 0 rfl rfl 1 (by decide) mF_X8_197 rfl dX8_keepPast_107 ?_
    refine lv_iconst (v := 1) hx hb dX8_keepPast_110 (by decide) ?_
    refine lv_iadd hx hb dX8_keepPast_111 ?_
    refine k_put C inT_X8 tyX8 tyX8_ok nmX8 hw67x 0 rfl rfl 1 (by decide) mF_X8_197 rfl rfl (Nat.le_of_ble_eq_true rfl) [oX8 a ((g_undos - 0) + 1) g_listed g_papers g_length g_besides g_gapFirst g_gapLast g_layings g_first g_behind g_clauses g_drafts, ar cI (a 1) 5058 g_row_67] rfl dX8_keepPast_112 (fun H locs hw112 => ?_)
    cases h
    exact k_vret C hw112 dX8_keepPast_115
  · replace h := br_t' h c53
    refine lv_iconst (v := 1) hx hb dX8_keepPast_56 (by decide) ?_
    refine lv_goto (tgt := 61) hx hb dX8_keepPast_57 (by decide) ?_
    refine lv_isub hx hb dX8_keepPast_61 ?_
    refine k_put C inT_X8 tyX8 tyX8_ok nmX8 hw4x 0 rfl rfl 1 (by decide) mF_X8_197 rfl rfl (Nat.le_of_ble_eq_true rfl) [oX8 a (g_undos - 1) g_listed g_papers g_length g_besides g_gapFirst g_gapLast g_layings g_first g_behind g_clauses g_drafts, ar cI (a 1) 5058 g_row_4] rfl dX8_keepPast_62 (fun H locs hw62 => ?_)
    refine lv_iconst (v := 0) hx hb dX8_keepPast_65 (by decide) ?_
    refine lv_istore_n (lv' := [(1, .int 0), (0, .ref (a 0))]) hx hb dX8_keepPast_66 rfl hl (by decide) rfl (fun ls hl => ?_)
    refine wX8_keepPast_67 C hA _ (fun x1_67 g_row_67 H locs ls hw67x hl h => ?_) FU _ _ _ _ _ hw62 (lv_sub hl [1, 0] rfl) h
    refine lv_aload_n hx hb dX8_keepPast_105 rfl (lv_at hl 0 rfl) ?_
    refine lv_dup hx hb dX8_keepPast_106 rfl ?_
    refine k_get C inT_X8 hw67x 0 rfl rfl 1 (by decide) mF_X8_197 rfl dX8_keepPast_107 ?_
    refine lv_iconst (v := 1) hx hb dX8_keepPast_110 (by decide) ?_
    refine lv_iadd hx hb dX8_keepPast_111 ?_
    refine k_put C inT_X8 tyX8 tyX8_ok nmX8 hw67x 0 rfl rfl 1 (by decide) mF_X8_197 rfl rfl (Nat.le_of_ble_eq_true rfl) [oX8 a ((g_undos - 1) + 1) g_listed g_papers g_length g_besides g_gapFirst g_gapLast g_layings g_first g_behind g_clauses g_drafts, ar cI (a 1) 5058 g_row_67] rfl dX8_keepPast_112 (fun H locs hw112 => ?_)
    cases h
    exact k_vret C hw112 dX8_keepPast_115
def rmX8_series : Room := { frames := 4, cells := 0, slots := 0, locals := 95 }
def fX8_series (g_row : Nat → Int32) (g_undos : Int32) (x1 : Int32) (x2 : Int32) (x3 : Int32) : Option (Int32 × (Nat → Int32) × Int32) :=
  (fX8_whyNoSeries g_row x1 x2 x3).bind fun r4 =>
  if r4 = 0 then
    (fX8_keepPast g_row g_undos).bind fun r18 =>
    (fX8_adds r18.1 x1 x2 x3).bind fun r25 =>
    (ld 5058 r25 0).bind fun y33 =>
    some ((y33 - 1), r25, r18.2)
  else
    some (r4, g_row, g_undos)
set_option maxRecDepth 100000 in
set_option maxHeartbeats 4000000 in
theorem tX8_series {l : Launch} {D : va_G} {cI : ClassId} {cS : GS} {a : Nat → Nat} {g_row : Nat → Int32} {g_undos : Int32} {g_listed : Int32} {g_papers : Int32} {g_length : Int32} {g_besides : Int32} {g_gapFirst : Int32} {g_gapLast : Int32} {g_layings : Int32} {g_first : Int32} {g_behind : Int32} {g_clauses : Int32} {g_drafts : Int32} {x1 : Int32} {x2 : Int32} {x3 : Int32} {s0 : Int32} {s1 : (Nat → Int32)} {s2 : Int32} (h : fX8_series g_row g_undos x1 x2 x3 = some (s0, s1, s2)) : CT l D cI cS yX8_series cX8_series 5 (some .int) rmX8_series [.ref (a 0), .int x1, .int x2, .int x3] [oX8 a g_undos g_listed g_papers g_length g_besides g_gapFirst g_gapLast g_layings g_first g_behind g_clauses g_drafts, ar cI (a 1) 5058 g_row] (some (.int s0)) [oX8 a s2 g_listed g_papers g_length g_besides g_gapFirst g_gapLast g_layings g_first g_behind g_clauses g_drafts, ar cI (a 1) 5058 s1] := by
  refine CT.of RX8 (by decide) rfl (Nat.le_of_ble_eq_true rfl) (fun p e s m below meth c ls A C hA hl hw => ?_)
  have hx := C.1.1
  have hb := C.1.2.1
  have hl : lv_has ls 5 [(0, .ref (a 0)), (1, .int x1), (2, .int x2), (3, .int x3)] := hl
  unfold fX8_series at h
  refine lv_aload_n hx hb dX8_series_0 rfl (lv_at hl 0 rfl) ?_
  refine lv_iload_n hx hb dX8_series_1 rfl (lv_at hl 1 rfl) ?_
  refine lv_iload_n hx hb dX8_series_2 rfl (lv_at hl 2 rfl) ?_
  refine lv_iload_n hx hb dX8_series_3 rfl (lv_at hl 3 rfl) ?_
  obtain ⟨r4, q4, h⟩ := bd h
  refine k_callV (nC := 2) [oX8 a g_undos g_listed g_papers g_length g_besides g_gapFirst g_gapLast g_layings g_first g_behind g_clauses g_drafts, ar cI (a 1) 5058 g_row] C hl.1 (tX8_whyNoSeries (a := a) q4) mL_X8_206 mmX8_whyNoSeries rfl rfl ⟨Nat.le_of_ble_eq_true rfl, Nat.le_of_ble_eq_true rfl⟩ rfl rfl rfl rfl (Nat.le_of_ble_eq_true rfl) hA hw [0, 1] [] rfl (by decide +kernel) rfl rfl rfl rfl dX8_series_4 (fun H locs hw4 => ?_)
  refine lv_istore (lv' := [(4, .int r4), (0, .ref (a 0)), (1, .int x1), (2, .int x2), (3, .int x3)]) hx hb dX8_series_7 hl (by decide) rfl (fun ls hl => ?_)
  refine lv_iload hx hb dX8_series_9 (lv_at hl 0 rfl) ?_
  refine lv_if_eq (tgt := 17) hx hb dX8_series_11 (by decide) (fun c11 => ?_) (fun c11 => ?_)
  · replace h := br_t' h c11
    refine lv_aload_n hx hb dX8_series_17 rfl (lv_at hl 1 rfl) ?_
    obtain ⟨r18, q18, h⟩ := bd h
    refine k_callV (nC := 2) [oX8 a r18.2 g_listed g_papers g_length g_besides g_gapFirst g_gapLast g_layings g_first g_behind g_clauses g_drafts, ar cI (a 1) 5058 r18.1] C hl.1 (tX8_keepPast (a := a) q18) mL_X8_209 mmX8_keepPast rfl rfl ⟨Nat.le_of_ble_eq_true rfl, Nat.le_of_ble_eq_true rfl⟩ rfl rfl rfl rfl (Nat.le_of_ble_eq_true rfl) hA hw4 [0, 1] [] rfl (by decide +kernel) rfl rfl rfl rfl dX8_series_18 (fun H locs hw18 => ?_)
    refine lv_aload_n hx hb dX8_series_21 rfl (lv_at hl 1 rfl) ?_
    refine lv_iload_n hx hb dX8_series_22 rfl (lv_at hl 2 rfl) ?_
    refine lv_iload_n hx hb dX8_series_23 rfl (lv_at hl 3 rfl) ?_
    refine lv_iload_n hx hb dX8_series_24 rfl (lv_at hl 4 rfl) ?_
    obtain ⟨r25, q25, h⟩ := bd h
    refine k_callV (nC := 2) [oX8 a r18.2 g_listed g_papers g_length g_besides g_gapFirst g_gapLast g_layings g_first g_behind g_clauses g_drafts, ar cI (a 1) 5058 r25] C hl.1 (tX8_adds (a := a) q25) mL_X8_163 mmX8_adds rfl rfl ⟨Nat.le_of_ble_eq_true rfl, Nat.le_of_ble_eq_true rfl⟩ rfl rfl rfl rfl (Nat.le_of_ble_eq_true rfl) hA hw18 [0, 1] [] rfl (by decide +kernel) rfl rfl rfl rfl dX8_series_25 (fun H locs hw25 => ?_)
    refine lv_aload_n hx hb dX8_series_28 rfl (lv_at hl 1 rfl) ?_
    refine k_get C inT_X8 hw25 0 rfl rfl 0 (by decide) mF_X8_7 rfl dX8_series_29 ?_
    refine lv_iconst (v := 0) hx hb dX8_series_32 (by decide) ?_
    obtain ⟨y33, q33, h⟩ := bd h
    refine k_iald C hw25 1 rfl q33 dX8_series_33 ?_
    refine lv_iconst (v := 1) hx hb dX8_series_34 (by decide) ?_
    refine lv_isub hx hb dX8_series_35 ?_
    cases h
    exact k_iret C hw25 dX8_series_36
  · replace h := br_f' h c11
    refine lv_iload hx hb dX8_series_14 (lv_at hl 0 rfl) ?_
    cases h
    exact k_iret C hw4 dX8_series_16
def rmX8_room : Room := { frames := 5, cells := 0, slots := 0, locals := 114 }
def fX8_room (g_row : Nat → Int32) (g_undos : Int32) (x1 : Int32) (x2 : Int32) : Option (Int32 × (Nat → Int32) × Int32) :=
  (fX8_isBox x1).bind fun r1 =>
  if r1 = 0 then
    some ((-2), g_row, g_undos)
  else
    (fX8_in x2.toInt64 0 2000000000).bind fun r16 =>
    if r16 = 0 then
      some ((-3), g_row, g_undos)
    else
      (fX8_load g_row x1).bind fun r27 =>
      if r27 ≤ x2 then
        (fX8_keepPast g_row g_undos).bind fun r38 =>
        (ld 5058 r38.1 (34 + x1)).bind fun y49 =>
        (fX8_rooms r38.1 x1 x2).bind fun r54 =>
        some (y49, r54, r38.2)
      else
        some ((-4), g_row, g_undos)
set_option maxRecDepth 100000 in
set_option maxHeartbeats 4000000 in
theorem tX8_room {l : Launch} {D : va_G} {cI : ClassId} {cS : GS} {a : Nat → Nat} {g_row : Nat → Int32} {g_undos : Int32} {g_listed : Int32} {g_papers : Int32} {g_length : Int32} {g_besides : Int32} {g_gapFirst : Int32} {g_gapLast : Int32} {g_layings : Int32} {g_first : Int32} {g_behind : Int32} {g_clauses : Int32} {g_drafts : Int32} {x1 : Int32} {x2 : Int32} {s0 : Int32} {s1 : (Nat → Int32)} {s2 : Int32} (h : fX8_room g_row g_undos x1 x2 = some (s0, s1, s2)) : CT l D cI cS yX8_room cX8_room 4 (some .int) rmX8_room [.ref (a 0), .int x1, .int x2] [oX8 a g_undos g_listed g_papers g_length g_besides g_gapFirst g_gapLast g_layings g_first g_behind g_clauses g_drafts, ar cI (a 1) 5058 g_row] (some (.int s0)) [oX8 a s2 g_listed g_papers g_length g_besides g_gapFirst g_gapLast g_layings g_first g_behind g_clauses g_drafts, ar cI (a 1) 5058 s1] := by
  refine CT.of RX8 (by decide) rfl (Nat.le_of_ble_eq_true rfl) (fun p e s m below meth c ls A C hA hl hw => ?_)
  have hx := C.1.1
  have hb := C.1.2.1
  have hl : lv_has ls 4 [(0, .ref (a 0)), (1, .int x1), (2, .int x2)] := hl
  unfold fX8_room at h
  refine lv_iload_n hx hb dX8_room_0 rfl (lv_at hl 1 rfl) ?_
  obtain ⟨r1, q1, h⟩ := bd h
  refine k_callS (nC := 2) [oX8 a g_undos g_listed g_papers g_length g_besides g_gapFirst g_gapLast g_layings g_first g_behind g_clauses g_drafts, ar cI (a 1) 5058 g_row] C hl.1 (tX8_isBox q1) mL_X8_212 mmX8_isBox rfl rfl ⟨Nat.le_of_ble_eq_true rfl, Nat.le_of_ble_eq_true rfl⟩ rfl rfl (Nat.le_of_ble_eq_true rfl) hA hw [] [0, 1] rfl (by decide +kernel) rfl rfl rfl rfl dX8_room_1 (fun H locs hw1 => ?_)
  refine lv_if_ne (tgt := 10) hx hb dX8_room_4 (by decide) (fun c4 => ?_) (fun c4 => ?_)
  · replace h := br_f' h c4
    refine lv_iload_n hx hb dX8_room_10 rfl (lv_at hl 2 rfl) ?_
    refine lv_i2l (v := x2.toInt64) hx hb dX8_room_11 rfl ?_
    refine lv_lconst (v := 0) hx hb dX8_room_12 (by decide) ?_
    refine k_ldc2 C mD_X8_56 dX8_room_13 ?_
    obtain ⟨r16, q16, h⟩ := bd h
    refine k_callS (nC := 2) [oX8 a g_undos g_listed g_papers g_length g_besides g_gapFirst g_gapLast g_layings g_first g_behind g_clauses g_drafts, ar cI (a 1) 5058 g_row] C hl.1 (tX8_in q16) mL_X8_58 mmX8_in rfl rfl ⟨Nat.le_of_ble_eq_true rfl, Nat.le_of_ble_eq_true rfl⟩ rfl rfl (Nat.le_of_ble_eq_true rfl) hA hw1 [] [0, 1] rfl (by decide +kernel) rfl rfl rfl rfl dX8_room_16 (fun H locs hw16 => ?_)
    refine lv_if_ne (tgt := 25) hx hb dX8_room_19 (by decide) (fun c19 => ?_) (fun c19 => ?_)
    · replace h := br_f' h c19
      refine lv_aload_n hx hb dX8_room_25 rfl (lv_at hl 0 rfl) ?_
      refine lv_iload_n hx hb dX8_room_26 rfl (lv_at hl 1 rfl) ?_
      obtain ⟨r27, q27, h⟩ := bd h
      refine k_callV (nC := 2) [oX8 a g_undos g_listed g_papers g_length g_besides g_gapFirst g_gapLast g_layings g_first g_behind g_clauses g_drafts, ar cI (a 1) 5058 g_row] C hl.1 (tX8_load (a := a) q27) mL_X8_119 mmX8_load rfl rfl ⟨Nat.le_of_ble_eq_true rfl, Nat.le_of_ble_eq_true rfl⟩ rfl rfl rfl rfl (Nat.le_of_ble_eq_true rfl) hA hw16 [0, 1] [] rfl (by decide +kernel) rfl rfl rfl rfl dX8_room_27 (fun H locs hw27 => ?_)
      refine lv_iload_n hx hb dX8_room_30 rfl (lv_at hl 2 rfl) ?_
      refine lv_icmp_le (tgt := 37) hx hb dX8_room_31 (by decide) (fun c31 => ?_) (fun c31 => ?_)
      · replace h := br_t' h c31
        refine lv_aload_n hx hb dX8_room_37 rfl (lv_at hl 0 rfl) ?_
        obtain ⟨r38, q38, h⟩ := bd h
        refine k_callV (nC := 2) [oX8 a r38.2 g_listed g_papers g_length g_besides g_gapFirst g_gapLast g_layings g_first g_behind g_clauses g_drafts, ar cI (a 1) 5058 r38.1] C hl.1 (tX8_keepPast (a := a) q38) mL_X8_209 mmX8_keepPast rfl rfl ⟨Nat.le_of_ble_eq_true rfl, Nat.le_of_ble_eq_true rfl⟩ rfl rfl rfl rfl (Nat.le_of_ble_eq_true rfl) hA hw27 [0, 1] [] rfl (by decide +kernel) rfl rfl rfl rfl dX8_room_38 (fun H locs hw38 => ?_)
        refine lv_aload_n hx hb dX8_room_41 rfl (lv_at hl 0 rfl) ?_
        refine k_get C inT_X8 hw38 0 rfl rfl 0 (by decide) mF_X8_7 rfl dX8_room_42 ?_
        refine lv_bipush (v := 34) hx hb dX8_room_45 (by decide) ?_
        refine lv_iload_n hx hb dX8_room_47 rfl (lv_at hl 1 rfl) ?_
        refine lv_iadd hx hb dX8_room_48 ?_
        obtain ⟨y49, q49, h⟩ := bd h
        refine k_iald C hw38 1 rfl q49 dX8_room_49 ?_
        refine lv_istore_n (lv' := [(3, .int y49), (0, .ref (a 0)), (1, .int x1), (2, .int x2)]) hx hb dX8_room_50 rfl hl (by decide) rfl (fun ls hl => ?_)
        refine lv_aload_n hx hb dX8_room_51 rfl (lv_at hl 1 rfl) ?_
        refine lv_iload_n hx hb dX8_room_52 rfl (lv_at hl 2 rfl) ?_
        refine lv_iload_n hx hb dX8_room_53 rfl (lv_at hl 3 rfl) ?_
        obtain ⟨r54, q54, h⟩ := bd h
        refine k_callV (nC := 2) [oX8 a r38.2 g_listed g_papers g_length g_besides g_gapFirst g_gapLast g_layings g_first g_behind g_clauses g_drafts, ar cI (a 1) 5058 r54] C hl.1 (tX8_rooms (a := a) q54) mL_X8_166 mmX8_rooms rfl rfl ⟨Nat.le_of_ble_eq_true rfl, Nat.le_of_ble_eq_true rfl⟩ rfl rfl rfl rfl (Nat.le_of_ble_eq_true rfl) hA hw38 [0, 1] [] rfl (by decide +kernel) rfl rfl rfl rfl dX8_room_54 (fun H locs hw54 => ?_)
        refine lv_iload_n hx hb dX8_room_57 rfl (lv_at hl 0 rfl) ?_
        cases h
        exact k_iret C hw54 dX8_room_58
      · replace h := br_f' h c31
        refine lv_bipush (v := (-4)) hx hb dX8_room_34 (by decide) ?_
        cases h
        exact k_iret C hw27 dX8_room_36
    · replace h := br_t' h c19
      refine lv_bipush (v := (-3)) hx hb dX8_room_22 (by decide) ?_
      cases h
      exact k_iret C hw16 dX8_room_24
  · replace h := br_t' h c4
    refine lv_bipush (v := (-2)) hx hb dX8_room_7 (by decide) ?_
    cases h
    exact k_iret C hw1 dX8_room_9
def rmX8_lay : Room := { frames := 3, cells := 0, slots := 0, locals := 76 }
def fX8_lay (g_row : Nat → Int32) (g_undos : Int32) (g_beside : Nat → Int32) (g_besides : Int32) (x1 : Int32) (x2 : Int32) (x3 : Int32) : Option (Int32 × (Nat → Int32) × Int32 × (Nat → Int32) × Int32) :=
  (fX8_isBox x1).bind fun r1 =>
  if r1 = 0 then
    some ((-2), g_row, g_undos, g_beside, g_besides)
  else
    (fX8_isRange x2 x3).bind fun r12 =>
    if r12 = 0 then
      some ((-3), g_row, g_undos, g_beside, g_besides)
    else
      (fX8_fits g_row g_beside g_besides x2 x3 x1).bind fun r25 =>
      if r25.1 = 0 then
        some ((-5), g_row, g_undos, r25.2.1, r25.2.2)
      else
        (fX8_inBox g_row x1 x2 x3).bind fun r38 =>
        (fX8_keepPast g_row g_undos).bind fun r44 =>
        (fX8_moves r44.1 r25.2.1 r25.2.2 x2 x3 x1).bind fun r51 =>
        some ((((x3 - x2) + 1) - r38), r51, r44.2, r25.2.1, r25.2.2)
set_option maxRecDepth 100000 in
set_option maxHeartbeats 4000000 in
theorem tX8_lay {l : Launch} {D : va_G} {cI : ClassId} {cS : GS} {a : Nat → Nat} {g_row : Nat → Int32} {g_undos : Int32} {g_listed : Int32} {g_papers : Int32} {g_length : Int32} {g_beside : Nat → Int32} {g_besides : Int32} {g_gapFirst : Int32} {g_gapLast : Int32} {g_layings : Int32} {g_first : Int32} {g_behind : Int32} {g_clauses : Int32} {g_drafts : Int32} {x1 : Int32} {x2 : Int32} {x3 : Int32} {s0 : Int32} {s1 : (Nat → Int32)} {s2 : Int32} {s3 : (Nat → Int32)} {s4 : Int32} (h : fX8_lay g_row g_undos g_beside g_besides x1 x2 x3 = some (s0, s1, s2, s3, s4)) : CT l D cI cS yX8_lay cX8_lay 5 (some .int) rmX8_lay [.ref (a 0), .int x1, .int x2, .int x3] [oX8 a g_undos g_listed g_papers g_length g_besides g_gapFirst g_gapLast g_layings g_first g_behind g_clauses g_drafts, ar cI (a 1) 5058 g_row, ar cI (a 9) 132 g_beside] (some (.int s0)) [oX8 a s2 g_listed g_papers g_length s4 g_gapFirst g_gapLast g_layings g_first g_behind g_clauses g_drafts, ar cI (a 1) 5058 s1, ar cI (a 9) 132 s3] := by
  refine CT.of RX8 (by decide) rfl (Nat.le_of_ble_eq_true rfl) (fun p e s m below meth c ls A C hA hl hw => ?_)
  have hx := C.1.1
  have hb := C.1.2.1
  have hl : lv_has ls 5 [(0, .ref (a 0)), (1, .int x1), (2, .int x2), (3, .int x3)] := hl
  unfold fX8_lay at h
  refine lv_iload_n hx hb dX8_lay_0 rfl (lv_at hl 1 rfl) ?_
  obtain ⟨r1, q1, h⟩ := bd h
  refine k_callS (nC := 3) [oX8 a g_undos g_listed g_papers g_length g_besides g_gapFirst g_gapLast g_layings g_first g_behind g_clauses g_drafts, ar cI (a 1) 5058 g_row, ar cI (a 9) 132 g_beside] C hl.1 (tX8_isBox q1) mL_X8_212 mmX8_isBox rfl rfl ⟨Nat.le_of_ble_eq_true rfl, Nat.le_of_ble_eq_true rfl⟩ rfl rfl (Nat.le_of_ble_eq_true rfl) hA hw [] [0, 1, 2] rfl (by decide +kernel) rfl rfl rfl rfl dX8_lay_1 (fun H locs hw1 => ?_)
  refine lv_if_ne (tgt := 10) hx hb dX8_lay_4 (by decide) (fun c4 => ?_) (fun c4 => ?_)
  · replace h := br_f' h c4
    refine lv_iload_n hx hb dX8_lay_10 rfl (lv_at hl 2 rfl) ?_
    refine lv_iload_n hx hb dX8_lay_11 rfl (lv_at hl 3 rfl) ?_
    obtain ⟨r12, q12, h⟩ := bd h
    refine k_callS (nC := 3) [oX8 a g_undos g_listed g_papers g_length g_besides g_gapFirst g_gapLast g_layings g_first g_behind g_clauses g_drafts, ar cI (a 1) 5058 g_row, ar cI (a 9) 132 g_beside] C hl.1 (tX8_isRange q12) mL_X8_203 mmX8_isRange rfl rfl ⟨Nat.le_of_ble_eq_true rfl, Nat.le_of_ble_eq_true rfl⟩ rfl rfl (Nat.le_of_ble_eq_true rfl) hA hw1 [] [0, 1, 2] rfl (by decide +kernel) rfl rfl rfl rfl dX8_lay_12 (fun H locs hw12 => ?_)
    refine lv_if_ne (tgt := 21) hx hb dX8_lay_15 (by decide) (fun c15 => ?_) (fun c15 => ?_)
    · replace h := br_f' h c15
      refine lv_aload_n hx hb dX8_lay_21 rfl (lv_at hl 0 rfl) ?_
      refine lv_iload_n hx hb dX8_lay_22 rfl (lv_at hl 2 rfl) ?_
      refine lv_iload_n hx hb dX8_lay_23 rfl (lv_at hl 3 rfl) ?_
      refine lv_iload_n hx hb dX8_lay_24 rfl (lv_at hl 1 rfl) ?_
      obtain ⟨r25, q25, h⟩ := bd h
      refine k_callV (nC := 3) [oX8 a g_undos g_listed g_papers g_length r25.2.2 g_gapFirst g_gapLast g_layings g_first g_behind g_clauses g_drafts, ar cI (a 1) 5058 g_row, ar cI (a 9) 132 r25.2.1] C hl.1 (tX8_fits (a := a) q25) mL_X8_215 mmX8_fits rfl rfl ⟨Nat.le_of_ble_eq_true rfl, Nat.le_of_ble_eq_true rfl⟩ rfl rfl rfl rfl (Nat.le_of_ble_eq_true rfl) hA hw12 [0, 1, 2] [] rfl (by decide +kernel) rfl rfl rfl rfl dX8_lay_25 (fun H locs hw25 => ?_)
      refine lv_if_ne (tgt := 34) hx hb dX8_lay_28 (by decide) (fun c28 => ?_) (fun c28 => ?_)
      · replace h := br_f' h c28
        refine lv_aload_n hx hb dX8_lay_34 rfl (lv_at hl 0 rfl) ?_
        refine lv_iload_n hx hb dX8_lay_35 rfl (lv_at hl 1 rfl) ?_
        refine lv_iload_n hx hb dX8_lay_36 rfl (lv_at hl 2 rfl) ?_
        refine lv_iload_n hx hb dX8_lay_37 rfl (lv_at hl 3 rfl) ?_
        obtain ⟨r38, q38, h⟩ := bd h
        refine k_callV (nC := 3) [oX8 a g_undos g_listed g_papers g_length r25.2.2 g_gapFirst g_gapLast g_layings g_first g_behind g_clauses g_drafts, ar cI (a 1) 5058 g_row, ar cI (a 9) 132 r25.2.1] C hl.1 (tX8_inBox (a := a) q38) mL_X8_79 mmX8_inBox rfl rfl ⟨Nat.le_of_ble_eq_true rfl, Nat.le_of_ble_eq_true rfl⟩ rfl rfl rfl rfl (Nat.le_of_ble_eq_true rfl) hA hw25 [0, 1] [2] rfl (by decide +kernel) rfl rfl rfl rfl dX8_lay_38 (fun H locs hw38 => ?_)
        refine lv_istore (lv' := [(4, .int r38), (0, .ref (a 0)), (1, .int x1), (2, .int x2), (3, .int x3)]) hx hb dX8_lay_41 hl (by decide) rfl (fun ls hl => ?_)
        refine lv_aload_n hx hb dX8_lay_43 rfl (lv_at hl 1 rfl) ?_
        obtain ⟨r44, q44, h⟩ := bd h
        refine k_callV (nC := 3) [oX8 a r44.2 g_listed g_papers g_length r25.2.2 g_gapFirst g_gapLast g_layings g_first g_behind g_clauses g_drafts, ar cI (a 1) 5058 r44.1, ar cI (a 9) 132 r25.2.1] C hl.1 (tX8_keepPast (a := a) q44) mL_X8_209 mmX8_keepPast rfl rfl ⟨Nat.le_of_ble_eq_true rfl, Nat.le_of_ble_eq_true rfl⟩ rfl rfl rfl rfl (Nat.le_of_ble_eq_true rfl) hA hw38 [0, 1] [2] rfl (by decide +kernel) rfl rfl rfl rfl dX8_lay_44 (fun H locs hw44 => ?_)
        refine lv_aload_n hx hb dX8_lay_47 rfl (lv_at hl 1 rfl) ?_
        refine lv_iload_n hx hb dX8_lay_48 rfl (lv_at hl 3 rfl) ?_
        refine lv_iload_n hx hb dX8_lay_49 rfl (lv_at hl 4 rfl) ?_
        refine lv_iload_n hx hb dX8_lay_50 rfl (lv_at hl 2 rfl) ?_
        obtain ⟨r51, q51, h⟩ := bd h
        refine k_callV (nC := 3) [oX8 a r44.2 g_listed g_papers g_length r25.2.2 g_gapFirst g_gapLast g_layings g_first g_behind g_clauses g_drafts, ar cI (a 1) 5058 r51, ar cI (a 9) 132 r25.2.1] C hl.1 (tX8_moves (a := a) q51) mL_X8_219 mmX8_moves rfl rfl ⟨Nat.le_of_ble_eq_true rfl, Nat.le_of_ble_eq_true rfl⟩ rfl rfl rfl rfl (Nat.le_of_ble_eq_true rfl) hA hw44 [0, 1, 2] [] rfl (by decide +kernel) rfl rfl rfl rfl dX8_lay_51 (fun H locs hw51 => ?_)
        refine lv_iload_n hx hb dX8_lay_54 rfl (lv_at hl 4 rfl) ?_
        refine lv_iload_n hx hb dX8_lay_55 rfl (lv_at hl 3 rfl) ?_
        refine lv_isub hx hb dX8_lay_56 ?_
        refine lv_iconst (v := 1) hx hb dX8_lay_57 (by decide) ?_
        refine lv_iadd hx hb dX8_lay_58 ?_
        refine lv_iload hx hb dX8_lay_59 (lv_at hl 0 rfl) ?_
        refine lv_isub hx hb dX8_lay_61 ?_
        cases h
        exact k_iret C hw51 dX8_lay_62
      · replace h := br_t' h c28
        refine lv_bipush (v := (-5)) hx hb dX8_lay_31 (by decide) ?_
        cases h
        exact k_iret C hw25 dX8_lay_33
    · replace h := br_t' h c15
      refine lv_bipush (v := (-3)) hx hb dX8_lay_18 (by decide) ?_
      cases h
      exact k_iret C hw12 dX8_lay_20
  · replace h := br_t' h c4
    refine lv_bipush (v := (-2)) hx hb dX8_lay_7 (by decide) ?_
    cases h
    exact k_iret C hw1 dX8_lay_9
def rmX8_take : Room := { frames := 3, cells := 0, slots := 0, locals := 76 }
def fX8_take (g_row : Nat → Int32) (g_undos : Int32) (g_beside : Nat → Int32) (g_besides : Int32) (x1 : Int32) (x2 : Int32) : Option (Int32 × (Nat → Int32) × Int32 × (Nat → Int32) × Int32) :=
  (fX8_isRange x1 x2).bind fun r2 =>
  if r2 = 0 then
    some ((-3), g_row, g_undos, g_beside, g_besides)
  else
    (fX8_fits g_row g_beside g_besides x1 x2 (-1)).bind fun r15 =>
    if r15.1 = 0 then
      some ((-5), g_row, g_undos, r15.2.1, r15.2.2)
    else
      (fX8_inBox g_row (-1) x1 x2).bind fun r28 =>
      (fX8_keepPast g_row g_undos).bind fun r33 =>
      (fX8_moves r33.1 r15.2.1 r15.2.2 x1 x2 (-1)).bind fun r40 =>
      some (r28, r40, r33.2, r15.2.1, r15.2.2)
set_option maxRecDepth 100000 in
set_option maxHeartbeats 4000000 in
theorem tX8_take {l : Launch} {D : va_G} {cI : ClassId} {cS : GS} {a : Nat → Nat} {g_row : Nat → Int32} {g_undos : Int32} {g_listed : Int32} {g_papers : Int32} {g_length : Int32} {g_beside : Nat → Int32} {g_besides : Int32} {g_gapFirst : Int32} {g_gapLast : Int32} {g_layings : Int32} {g_first : Int32} {g_behind : Int32} {g_clauses : Int32} {g_drafts : Int32} {x1 : Int32} {x2 : Int32} {s0 : Int32} {s1 : (Nat → Int32)} {s2 : Int32} {s3 : (Nat → Int32)} {s4 : Int32} (h : fX8_take g_row g_undos g_beside g_besides x1 x2 = some (s0, s1, s2, s3, s4)) : CT l D cI cS yX8_take cX8_take 4 (some .int) rmX8_take [.ref (a 0), .int x1, .int x2] [oX8 a g_undos g_listed g_papers g_length g_besides g_gapFirst g_gapLast g_layings g_first g_behind g_clauses g_drafts, ar cI (a 1) 5058 g_row, ar cI (a 9) 132 g_beside] (some (.int s0)) [oX8 a s2 g_listed g_papers g_length s4 g_gapFirst g_gapLast g_layings g_first g_behind g_clauses g_drafts, ar cI (a 1) 5058 s1, ar cI (a 9) 132 s3] := by
  refine CT.of RX8 (by decide) rfl (Nat.le_of_ble_eq_true rfl) (fun p e s m below meth c ls A C hA hl hw => ?_)
  have hx := C.1.1
  have hb := C.1.2.1
  have hl : lv_has ls 4 [(0, .ref (a 0)), (1, .int x1), (2, .int x2)] := hl
  unfold fX8_take at h
  refine lv_iload_n hx hb dX8_take_0 rfl (lv_at hl 1 rfl) ?_
  refine lv_iload_n hx hb dX8_take_1 rfl (lv_at hl 2 rfl) ?_
  obtain ⟨r2, q2, h⟩ := bd h
  refine k_callS (nC := 3) [oX8 a g_undos g_listed g_papers g_length g_besides g_gapFirst g_gapLast g_layings g_first g_behind g_clauses g_drafts, ar cI (a 1) 5058 g_row, ar cI (a 9) 132 g_beside] C hl.1 (tX8_isRange q2) mL_X8_203 mmX8_isRange rfl rfl ⟨Nat.le_of_ble_eq_true rfl, Nat.le_of_ble_eq_true rfl⟩ rfl rfl (Nat.le_of_ble_eq_true rfl) hA hw [] [0, 1, 2] rfl (by decide +kernel) rfl rfl rfl rfl dX8_take_2 (fun H locs hw2 => ?_)
  refine lv_if_ne (tgt := 11) hx hb dX8_take_5 (by decide) (fun c5 => ?_) (fun c5 => ?_)
  · replace h := br_f' h c5
    refine lv_aload_n hx hb dX8_take_11 rfl (lv_at hl 0 rfl) ?_
    refine lv_iload_n hx hb dX8_take_12 rfl (lv_at hl 1 rfl) ?_
    refine lv_iload_n hx hb dX8_take_13 rfl (lv_at hl 2 rfl) ?_
    refine lv_iconst (v := (-1)) hx hb dX8_take_14 (by decide) ?_
    obtain ⟨r15, q15, h⟩ := bd h
    refine k_callV (nC := 3) [oX8 a g_undos g_listed g_papers g_length r15.2.2 g_gapFirst g_gapLast g_layings g_first g_behind g_clauses g_drafts, ar cI (a 1) 5058 g_row, ar cI (a 9) 132 r15.2.1] C hl.1 (tX8_fits (a := a) q15) mL_X8_215 mmX8_fits rfl rfl ⟨Nat.le_of_ble_eq_true rfl, Nat.le_of_ble_eq_true rfl⟩ rfl rfl rfl rfl (Nat.le_of_ble_eq_true rfl) hA hw2 [0, 1, 2] [] rfl (by decide +kernel) rfl rfl rfl rfl dX8_take_15 (fun H locs hw15 => ?_)
    refine lv_if_ne (tgt := 24) hx hb dX8_take_18 (by decide) (fun c18 => ?_) (fun c18 => ?_)
    · replace h := br_f' h c18
      refine lv_aload_n hx hb dX8_take_24 rfl (lv_at hl 0 rfl) ?_
      refine lv_iconst (v := (-1)) hx hb dX8_take_25 (by decide) ?_
      refine lv_iload_n hx hb dX8_take_26 rfl (lv_at hl 1 rfl) ?_
      refine lv_iload_n hx hb dX8_take_27 rfl (lv_at hl 2 rfl) ?_
      obtain ⟨r28, q28, h⟩ := bd h
      refine k_callV (nC := 3) [oX8 a g_undos g_listed g_papers g_length r15.2.2 g_gapFirst g_gapLast g_layings g_first g_behind g_clauses g_drafts, ar cI (a 1) 5058 g_row, ar cI (a 9) 132 r15.2.1] C hl.1 (tX8_inBox (a := a) q28) mL_X8_79 mmX8_inBox rfl rfl ⟨Nat.le_of_ble_eq_true rfl, Nat.le_of_ble_eq_true rfl⟩ rfl rfl rfl rfl (Nat.le_of_ble_eq_true rfl) hA hw15 [0, 1] [2] rfl (by decide +kernel) rfl rfl rfl rfl dX8_take_28 (fun H locs hw28 => ?_)
      refine lv_istore_n (lv' := [(3, .int r28), (0, .ref (a 0)), (1, .int x1), (2, .int x2)]) hx hb dX8_take_31 rfl hl (by decide) rfl (fun ls hl => ?_)
      refine lv_aload_n hx hb dX8_take_32 rfl (lv_at hl 1 rfl) ?_
      obtain ⟨r33, q33, h⟩ := bd h
      refine k_callV (nC := 3) [oX8 a r33.2 g_listed g_papers g_length r15.2.2 g_gapFirst g_gapLast g_layings g_first g_behind g_clauses g_drafts, ar cI (a 1) 5058 r33.1, ar cI (a 9) 132 r15.2.1] C hl.1 (tX8_keepPast (a := a) q33) mL_X8_209 mmX8_keepPast rfl rfl ⟨Nat.le_of_ble_eq_true rfl, Nat.le_of_ble_eq_true rfl⟩ rfl rfl rfl rfl (Nat.le_of_ble_eq_true rfl) hA hw28 [0, 1] [2] rfl (by decide +kernel) rfl rfl rfl rfl dX8_take_33 (fun H locs hw33 => ?_)
      refine lv_aload_n hx hb dX8_take_36 rfl (lv_at hl 1 rfl) ?_
      refine lv_iload_n hx hb dX8_take_37 rfl (lv_at hl 2 rfl) ?_
      refine lv_iload_n hx hb dX8_take_38 rfl (lv_at hl 3 rfl) ?_
      refine lv_iconst (v := (-1)) hx hb dX8_take_39 (by decide) ?_
      obtain ⟨r40, q40, h⟩ := bd h
      refine k_callV (nC := 3) [oX8 a r33.2 g_listed g_papers g_length r15.2.2 g_gapFirst g_gapLast g_layings g_first g_behind g_clauses g_drafts, ar cI (a 1) 5058 r40, ar cI (a 9) 132 r15.2.1] C hl.1 (tX8_moves (a := a) q40) mL_X8_219 mmX8_moves rfl rfl ⟨Nat.le_of_ble_eq_true rfl, Nat.le_of_ble_eq_true rfl⟩ rfl rfl rfl rfl (Nat.le_of_ble_eq_true rfl) hA hw33 [0, 1, 2] [] rfl (by decide +kernel) rfl rfl rfl rfl dX8_take_40 (fun H locs hw40 => ?_)
      refine lv_iload_n hx hb dX8_take_43 rfl (lv_at hl 0 rfl) ?_
      cases h
      exact k_iret C hw40 dX8_take_44
    · replace h := br_t' h c18
      refine lv_bipush (v := (-5)) hx hb dX8_take_21 (by decide) ?_
      cases h
      exact k_iret C hw15 dX8_take_23
  · replace h := br_t' h c5
    refine lv_bipush (v := (-3)) hx hb dX8_take_8 (by decide) ?_
    cases h
    exact k_iret C hw2 dX8_take_10
def rmX8_piecesOf : Room := { frames := 1, cells := 0, slots := 0, locals := 22 }
def fX8_piecesOf_4 (g_row : Nat → Int32) (x1 : Int32) : (n : Nat) → (k : Int32 → Int32 → Option (Int32)) → Int32 → Int32 → Option (Int32)
  | 0, _, _, _ => none
  | n + 1, k, x2, x3 =>
    (ld 5058 g_row 1).bind fun y10 =>
    if y10 ≤ x3 then
      k x2 x3
    else
      (fX8_pieceAt g_row x3 2).bind fun r18 =>
      if r18 = x1 then
        fX8_piecesOf_4 g_row x1 n k (x2 + 1) (x3 + 1)
      else
        fX8_piecesOf_4 g_row x1 n k (x2 + 0) (x3 + 1)
set_option maxRecDepth 100000 in
set_option maxHeartbeats 4000000 in
theorem wX8_piecesOf_4 {p : Program} {l : Launch} {e : Env} {s : State} {m : MethodId} {args : Array Value} {below : List Frame} {meth : Method} {c : Code} {D : va_G} {cI : ClassId} {cS : GS} {A : Nat → Prop} {a : Nat → Nat} {g_row : Nat → Int32} {g_undos : Int32} {g_listed : Int32} {g_papers : Int32} {g_length : Int32} {g_besides : Int32} {g_gapFirst : Int32} {g_gapLast : Int32} {g_layings : Int32} {g_first : Int32} {g_behind : Int32} {g_clauses : Int32} {g_drafts : Int32} {x1 : Int32} (C : MC p s m args meth c D cI cS A RX8 cX8_piecesOf 4 (some .int)) (hA : ∀ q, s.heap.size ≤ q → A q) {s0 : Int32} (k : Int32 → Int32 → Option (Int32)) (hk : ∀ (x2 : Int32) (x3 : Int32) (H : Heap) (locs : List Loc) (ls : Array Slot), Wd D A s.heap H locs [oX8 a g_undos g_listed g_papers g_length g_besides g_gapFirst g_gapLast g_layings g_first g_behind g_clauses g_drafts, ar cI (a 1) 5058 g_row] → lv_has ls 4 [(0, .ref (a 0)), (1, .int x1), (2, .int x2), (3, .int x3)] → k x2 x3 = some s0 → W p l e rmX8_piecesOf s m args below meth c H locs 0 0 (KQ D A below args s (some (.int s0)) [oX8 a g_undos g_listed g_papers g_length g_besides g_gapFirst g_gapLast g_layings g_first g_behind g_clauses g_drafts, ar cI (a 1) 5058 g_row]) (F0 m 38 ls [])) :
    ∀ (n : Nat) (x2 : Int32) (x3 : Int32) (H : Heap) (locs : List Loc) (ls : Array Slot), Wd D A s.heap H locs [oX8 a g_undos g_listed g_papers g_length g_besides g_gapFirst g_gapLast g_layings g_first g_behind g_clauses g_drafts, ar cI (a 1) 5058 g_row] → lv_has ls 4 [(0, .ref (a 0)), (1, .int x1), (2, .int x2), (3, .int x3)] → fX8_piecesOf_4 g_row x1 n k x2 x3 = some s0 → W p l e rmX8_piecesOf s m args below meth c H locs 0 0 (KQ D A below args s (some (.int s0)) [oX8 a g_undos g_listed g_papers g_length g_besides g_gapFirst g_gapLast g_layings g_first g_behind g_clauses g_drafts, ar cI (a 1) 5058 g_row]) (F0 m 4 ls []) := by
  have hx := C.1.1
  have hb := C.1.2.1
  intro n
  induction n with
  | zero =>
    intro x2 x3 H locs ls hw hl h
    rw [fX8_piecesOf_4] at h
    cases h
  | succ n ih =>
    intro x2 x3 H locs ls hw hl h
    rw [fX8_piecesOf_4] at h
    refine lv_iload_n hx hb dX8_piecesOf_4 rfl (lv_at hl 3 rfl) ?_
    refine lv_aload_n hx hb dX8_piecesOf_5 rfl (lv_at hl 0 rfl) ?_
    refine k_get C inT_X8 hw 0 rfl rfl 0 (by decide) mF_X8_7 rfl dX8_piecesOf_6 ?_
    refine lv_iconst (v := 1) hx hb dX8_piecesOf_9 (by decide) ?_
    obtain ⟨y10, q10, h⟩ := bd h
    refine k_iald C hw 1 rfl q10 dX8_piecesOf_10 ?_
    refine lv_icmp_ge (tgt := 38) hx hb dX8_piecesOf_11 (by decide) (fun c11 => ?_) (fun c11 => ?_)
    · replace h := br_t' h c11
      exact hk _ _ _ _ _ hw (lv_sub hl [0, 1, 2, 3] rfl) h
    · replace h := br_f' h c11
      refine lv_iload_n hx hb dX8_piecesOf_14 rfl (lv_at hl 2 rfl) ?_
      refine lv_aload_n hx hb dX8_piecesOf_15 rfl (lv_at hl 0 rfl) ?_
      refine lv_iload_n hx hb dX8_piecesOf_16 rfl (lv_at hl 3 rfl) ?_
      refine lv_iconst (v := 2) hx hb dX8_piecesOf_17 (by decide) ?_
      obtain ⟨r18, q18, h⟩ := bd h
      refine k_callV (nC := 2) [oX8 a g_undos g_listed g_papers g_length g_besides g_gapFirst g_gapLast g_layings g_first g_behind g_clauses g_drafts, ar cI (a 1) 5058 g_row] C hl.1 (tX8_pieceAt (a := a) q18) mL_X8_71 mmX8_pieceAt rfl rfl ⟨Nat.le_of_ble_eq_true rfl, Nat.le_of_ble_eq_true rfl⟩ rfl rfl rfl rfl (Nat.le_of_ble_eq_true rfl) hA hw [0, 1] [] rfl (by decide +kernel) rfl rfl rfl rfl dX8_piecesOf_18 (fun H locs hw18 => ?_)
      refine lv_iload_n hx hb dX8_piecesOf_21 rfl (lv_at hl 1 rfl) ?_
      refine lv_icmp_ne (tgt := 29) hx hb dX8_piecesOf_22 (by decide) (fun c22 => ?_) (fun c22 => ?_)
      · replace h := br_f' h c22
        refine lv_iconst (v := 0) hx hb dX8_piecesOf_29 (by decide) ?_
        refine lv_iadd hx hb dX8_piecesOf_30 ?_
        refine lv_istore_n (lv' := [(2, .int (x2 + 0)), (0, .ref (a 0)), (1, .int x1), (3, .int x3)]) hx hb dX8_piecesOf_31 rfl hl (by decide) rfl (fun ls hl => ?_)
        refine lv_iinc (v := (x3 + 1)) (lv' := [(3, .int (x3 + 1)), (2, .int (x2 + 0)), (0, .ref (a 0)), (1, .int x1)]) hx hb dX8_piecesOf_32 hl (k := 3) rfl rfl (by decide) rfl (fun ls hl => ?_)
        refine lv_goto (tgt := 4) hx hb dX8_piecesOf_35 (by decide) ?_
        exact ih _ _ _ _ _ hw18 (lv_sub hl [2, 3, 1, 0] rfl) h
      · replace h := br_t' h c22
        refine lv_iconst (v := 1) hx hb dX8_piecesOf_25 (by decide) ?_
        refine lv_goto (tgt := 30) hx hb dX8_piecesOf_26 (by decide) ?_
        refine lv_iadd hx hb dX8_piecesOf_30 ?_
        refine lv_istore_n (lv' := [(2, .int (x2 + 1)), (0, .ref (a 0)), (1, .int x1), (3, .int x3)]) hx hb dX8_piecesOf_31 rfl hl (by decide) rfl (fun ls hl => ?_)
        refine lv_iinc (v := (x3 + 1)) (lv' := [(3, .int (x3 + 1)), (2, .int (x2 + 1)), (0, .ref (a 0)), (1, .int x1)]) hx hb dX8_piecesOf_32 hl (k := 3) rfl rfl (by decide) rfl (fun ls hl => ?_)
        refine lv_goto (tgt := 4) hx hb dX8_piecesOf_35 (by decide) ?_
        exact ih _ _ _ _ _ hw18 (lv_sub hl [2, 3, 1, 0] rfl) h
def fX8_piecesOf (g_row : Nat → Int32) (x1 : Int32) : Option (Int32) :=
  fX8_piecesOf_4 g_row x1 FU (fun x2_4 x3_4 =>
    some x2_4) 0 0
set_option maxRecDepth 100000 in
set_option maxHeartbeats 4000000 in
theorem tX8_piecesOf {l : Launch} {D : va_G} {cI : ClassId} {cS : GS} {a : Nat → Nat} {g_row : Nat → Int32} {g_undos : Int32} {g_listed : Int32} {g_papers : Int32} {g_length : Int32} {g_besides : Int32} {g_gapFirst : Int32} {g_gapLast : Int32} {g_layings : Int32} {g_first : Int32} {g_behind : Int32} {g_clauses : Int32} {g_drafts : Int32} {x1 : Int32} {s0 : Int32} (h : fX8_piecesOf g_row x1 = some s0) : CT l D cI cS yX8_piecesOf cX8_piecesOf 4 (some .int) rmX8_piecesOf [.ref (a 0), .int x1] [oX8 a g_undos g_listed g_papers g_length g_besides g_gapFirst g_gapLast g_layings g_first g_behind g_clauses g_drafts, ar cI (a 1) 5058 g_row] (some (.int s0)) [oX8 a g_undos g_listed g_papers g_length g_besides g_gapFirst g_gapLast g_layings g_first g_behind g_clauses g_drafts, ar cI (a 1) 5058 g_row] := by
  refine CT.of RX8 (by decide) rfl (Nat.le_of_ble_eq_true rfl) (fun p e s m below meth c ls A C hA hl hw => ?_)
  have hx := C.1.1
  have hb := C.1.2.1
  have hl : lv_has ls 4 [(0, .ref (a 0)), (1, .int x1)] := hl
  unfold fX8_piecesOf at h
  refine lv_iconst (v := 0) hx hb dX8_piecesOf_0 (by decide) ?_
  refine lv_istore_n (lv' := [(2, .int 0), (0, .ref (a 0)), (1, .int x1)]) hx hb dX8_piecesOf_1 rfl hl (by decide) rfl (fun ls hl => ?_)
  refine lv_iconst (v := 0) hx hb dX8_piecesOf_2 (by decide) ?_
  refine lv_istore_n (lv' := [(3, .int 0), (2, .int 0), (0, .ref (a 0)), (1, .int x1)]) hx hb dX8_piecesOf_3 rfl hl (by decide) rfl (fun ls hl => ?_)
  refine wX8_piecesOf_4 C hA _ (fun x2_4 x3_4 H locs ls hw4x hl h => ?_) FU _ _ _ _ _ hw (lv_sub hl [2, 3, 1, 0] rfl) h
  refine lv_iload_n hx hb dX8_piecesOf_38 rfl (lv_at hl 2 rfl) ?_
  cases h
  exact k_iret C hw4x dX8_piecesOf_39
def rmX8_shift : Room := { frames := 4, cells := 0, slots := 0, locals := 92 }
def fX8_shift_81 (g_row : Nat → Int32) (x1 : Int32) : (n : Nat) → (k : Int32 → Int32 → (Nat → Int32) → Option (Int32 × (Nat → Int32) × Int32 × (Nat → Int32) × Int32 × (Nat → Int32))) → Int32 → Int32 → (Nat → Int32) → Option (Int32 × (Nat → Int32) × Int32 × (Nat → Int32) × Int32 × (Nat → Int32))
  | 0, _, _, _, _ => none
  | n + 1, k, x4, x5, g_shifted =>
    (ld 5058 g_row 1).bind fun y88 =>
    if y88 ≤ x5 then
      k x4 x5 g_shifted
    else
      (fX8_pieceAt g_row x5 2).bind fun r96 =>
      if r96 = x1 then
        (fX8_pieceAt g_row x5 0).bind fun r115 =>
        (sv 80 g_shifted (2 * x4) r115).bind fun g118 =>
        (fX8_pieceAt g_row x5 1).bind fun r133 =>
        (sv 80 g118 ((2 * x4) + 1) r133).bind fun g136 =>
        fX8_shift_81 g_row x1 n k (x4 + 1) (x5 + 1) g136
      else
        fX8_shift_81 g_row x1 n k x4 (x5 + 1) g_shifted
set_option maxRecDepth 100000 in
set_option maxHeartbeats 4000000 in
theorem wX8_shift_81 {p : Program} {l : Launch} {e : Env} {s : State} {m : MethodId} {args : Array Value} {below : List Frame} {meth : Method} {c : Code} {D : va_G} {cI : ClassId} {cS : GS} {A : Nat → Prop} {a : Nat → Nat} {g_row : Nat → Int32} {g_undos : Int32} {g_listed : Int32} {g_papers : Int32} {g_length : Int32} {g_beside : Nat → Int32} {g_besides : Int32} {g_gapFirst : Int32} {g_gapLast : Int32} {g_layings : Int32} {g_first : Int32} {g_behind : Int32} {g_clauses : Int32} {g_drafts : Int32} {x1 : Int32} {x2 : Int32} {x3 : Int32} (C : MC p s m args meth c D cI cS A RX8 cX8_shift 6 (some .int)) (hA : ∀ q, s.heap.size ≤ q → A q) {s0 : Int32} {s1 : (Nat → Int32)} {s2 : Int32} {s3 : (Nat → Int32)} {s4 : Int32} {s5 : (Nat → Int32)} (k : Int32 → Int32 → (Nat → Int32) → Option (Int32 × (Nat → Int32) × Int32 × (Nat → Int32) × Int32 × (Nat → Int32))) (hk : ∀ (x4 : Int32) (x5 : Int32) (g_shifted : Nat → Int32) (H : Heap) (locs : List Loc) (ls : Array Slot), Wd D A s.heap H locs [oX8 a g_undos g_listed g_papers g_length g_besides g_gapFirst g_gapLast g_layings g_first g_behind g_clauses g_drafts, ar cI (a 1) 5058 g_row, ar cI (a 9) 132 g_beside, ar cI (a 22) 80 g_shifted] → lv_has ls 6 [(0, .ref (a 0)), (1, .int x1), (2, .int x2), (3, .int x3), (4, .int x4), (5, .int x5)] → k x4 x5 g_shifted = some (s0, s1, s2, s3, s4, s5) → W p l e rmX8_shift s m args below meth c H locs 0 0 (KQ D A below args s (some (.int s0)) [oX8 a s2 g_listed g_papers g_length s4 g_gapFirst g_gapLast g_layings g_first g_behind g_clauses g_drafts, ar cI (a 1) 5058 s1, ar cI (a 9) 132 s3, ar cI (a 22) 80 s5]) (F0 m 146 ls [])) :
    ∀ (n : Nat) (x4 : Int32) (x5 : Int32) (g_shifted : Nat → Int32) (H : Heap) (locs : List Loc) (ls : Array Slot), Wd D A s.heap H locs [oX8 a g_undos g_listed g_papers g_length g_besides g_gapFirst g_gapLast g_layings g_first g_behind g_clauses g_drafts, ar cI (a 1) 5058 g_row, ar cI (a 9) 132 g_beside, ar cI (a 22) 80 g_shifted] → lv_has ls 6 [(0, .ref (a 0)), (1, .int x1), (2, .int x2), (3, .int x3), (4, .int x4), (5, .int x5)] → fX8_shift_81 g_row x1 n k x4 x5 g_shifted = some (s0, s1, s2, s3, s4, s5) → W p l e rmX8_shift s m args below meth c H locs 0 0 (KQ D A below args s (some (.int s0)) [oX8 a s2 g_listed g_papers g_length s4 g_gapFirst g_gapLast g_layings g_first g_behind g_clauses g_drafts, ar cI (a 1) 5058 s1, ar cI (a 9) 132 s3, ar cI (a 22) 80 s5]) (F0 m 81 ls []) := by
  have hx := C.1.1
  have hb := C.1.2.1
  intro n
  induction n with
  | zero =>
    intro x4 x5 g_shifted H locs ls hw hl h
    rw [fX8_shift_81] at h
    cases h
  | succ n ih =>
    intro x4 x5 g_shifted H locs ls hw hl h
    rw [fX8_shift_81] at h
    refine lv_iload hx hb dX8_shift_81 (lv_at hl 5 rfl) ?_
    refine lv_aload_n hx hb dX8_shift_83 rfl (lv_at hl 0 rfl) ?_
    refine k_get C inT_X8 hw 0 rfl rfl 0 (by decide) mF_X8_7 rfl dX8_shift_84 ?_
    refine lv_iconst (v := 1) hx hb dX8_shift_87 (by decide) ?_
    obtain ⟨y88, q88, h⟩ := bd h
    refine k_iald C hw 1 rfl q88 dX8_shift_88 ?_
    refine lv_icmp_ge (tgt := 146) hx hb dX8_shift_89 (by decide) (fun c89 => ?_) (fun c89 => ?_)
    · replace h := br_t' h c89
      exact hk _ _ _ _ _ _ hw (lv_sub hl [0, 1, 2, 3, 4, 5] rfl) h
    · replace h := br_f' h c89
      refine lv_aload_n hx hb dX8_shift_92 rfl (lv_at hl 0 rfl) ?_
      refine lv_iload hx hb dX8_shift_93 (lv_at hl 5 rfl) ?_
      refine lv_iconst (v := 2) hx hb dX8_shift_95 (by decide) ?_
      obtain ⟨r96, q96, h⟩ := bd h
      refine k_callV (nC := 4) [oX8 a g_undos g_listed g_papers g_length g_besides g_gapFirst g_gapLast g_layings g_first g_behind g_clauses g_drafts, ar cI (a 1) 5058 g_row, ar cI (a 9) 132 g_beside, ar cI (a 22) 80 g_shifted] C hl.1 (tX8_pieceAt (a := a) q96) mL_X8_71 mmX8_pieceAt rfl rfl ⟨Nat.le_of_ble_eq_true rfl, Nat.le_of_ble_eq_true rfl⟩ rfl rfl rfl rfl (Nat.le_of_ble_eq_true rfl) hA hw [0, 1] [2, 3] rfl (by decide +kernel) rfl rfl rfl rfl dX8_shift_96 (fun H locs hw96 => ?_)
      refine lv_iload_n hx hb dX8_shift_99 rfl (lv_at hl 1 rfl) ?_
      refine lv_icmp_ne (tgt := 140) hx hb dX8_shift_100 (by decide) (fun c100 => ?_) (fun c100 => ?_)
      · replace h := br_f' h c100
        refine lv_iinc (v := (x5 + 1)) (lv' := [(5, .int (x5 + 1)), (0, .ref (a 0)), (1, .int x1), (2, .int x2), (3, .int x3), (4, .int x4)]) hx hb dX8_shift_140 hl (k := 5) rfl rfl (by decide) rfl (fun ls hl => ?_)
        refine lv_goto (tgt := 81) hx hb dX8_shift_143 (by decide) ?_
        exact ih _ _ _ _ _ _ hw96 (lv_sub hl [1, 2, 3, 4, 5, 0] rfl) h
      · replace h := br_t' h c100
        refine lv_aload_n hx hb dX8_shift_103 rfl (lv_at hl 0 rfl) ?_
        refine k_get C inT_X8 hw96 0 rfl rfl 21 (by decide) mF_X8_40 rfl dX8_shift_104 ?_
        refine lv_iconst (v := 2) hx hb dX8_shift_107 (by decide) ?_
        refine lv_iload hx hb dX8_shift_108 (lv_at hl 4 rfl) ?_
        refine lv_imul hx hb dX8_shift_110 ?_
        refine lv_aload_n hx hb dX8_shift_111 rfl (lv_at hl 0 rfl) ?_
        refine lv_iload hx hb dX8_shift_112 (lv_at hl 5 rfl) ?_
        refine lv_iconst (v := 0) hx hb dX8_shift_114 (by decide) ?_
        obtain ⟨r115, q115, h⟩ := bd h
        refine k_callV (nC := 4) [oX8 a g_undos g_listed g_papers g_length g_besides g_gapFirst g_gapLast g_layings g_first g_behind g_clauses g_drafts, ar cI (a 1) 5058 g_row, ar cI (a 9) 132 g_beside, ar cI (a 22) 80 g_shifted] C hl.1 (tX8_pieceAt (a := a) q115) mL_X8_71 mmX8_pieceAt rfl rfl ⟨Nat.le_of_ble_eq_true rfl, Nat.le_of_ble_eq_true rfl⟩ rfl rfl rfl rfl (Nat.le_of_ble_eq_true rfl) hA hw96 [0, 1] [2, 3] rfl (by decide +kernel) rfl rfl rfl rfl dX8_shift_115 (fun H locs hw115 => ?_)
        obtain ⟨g118, q118, h⟩ := bd h
        refine k_iast C hw115 3 rfl q118 [oX8 a g_undos g_listed g_papers g_length g_besides g_gapFirst g_gapLast g_layings g_first g_behind g_clauses g_drafts, ar cI (a 1) 5058 g_row, ar cI (a 9) 132 g_beside, ar cI (a 22) 80 g118] rfl dX8_shift_118 (fun H locs hw118 => ?_)
        refine lv_aload_n hx hb dX8_shift_119 rfl (lv_at hl 0 rfl) ?_
        refine k_get C inT_X8 hw118 0 rfl rfl 21 (by decide) mF_X8_40 rfl dX8_shift_120 ?_
        refine lv_iconst (v := 2) hx hb dX8_shift_123 (by decide) ?_
        refine lv_iload hx hb dX8_shift_124 (lv_at hl 4 rfl) ?_
        refine lv_imul hx hb dX8_shift_126 ?_
        refine lv_iconst (v := 1) hx hb dX8_shift_127 (by decide) ?_
        refine lv_iadd hx hb dX8_shift_128 ?_
        refine lv_aload_n hx hb dX8_shift_129 rfl (lv_at hl 0 rfl) ?_
        refine lv_iload hx hb dX8_shift_130 (lv_at hl 5 rfl) ?_
        refine lv_iconst (v := 1) hx hb dX8_shift_132 (by decide) ?_
        obtain ⟨r133, q133, h⟩ := bd h
        refine k_callV (nC := 4) [oX8 a g_undos g_listed g_papers g_length g_besides g_gapFirst g_gapLast g_layings g_first g_behind g_clauses g_drafts, ar cI (a 1) 5058 g_row, ar cI (a 9) 132 g_beside, ar cI (a 22) 80 g118] C hl.1 (tX8_pieceAt (a := a) q133) mL_X8_71 mmX8_pieceAt rfl rfl ⟨Nat.le_of_ble_eq_true rfl, Nat.le_of_ble_eq_true rfl⟩ rfl rfl rfl rfl (Nat.le_of_ble_eq_true rfl) hA hw118 [0, 1] [2, 3] rfl (by decide +kernel) rfl rfl rfl rfl dX8_shift_133 (fun H locs hw133 => ?_)
        obtain ⟨g136, q136, h⟩ := bd h
        refine k_iast C hw133 3 rfl q136 [oX8 a g_undos g_listed g_papers g_length g_besides g_gapFirst g_gapLast g_layings g_first g_behind g_clauses g_drafts, ar cI (a 1) 5058 g_row, ar cI (a 9) 132 g_beside, ar cI (a 22) 80 g136] rfl dX8_shift_136 (fun H locs hw136 => ?_)
        refine lv_iinc (v := (x4 + 1)) (lv' := [(4, .int (x4 + 1)), (0, .ref (a 0)), (1, .int x1), (2, .int x2), (3, .int x3), (5, .int x5)]) hx hb dX8_shift_137 hl (k := 4) rfl rfl (by decide) rfl (fun ls hl => ?_)
        refine lv_iinc (v := (x5 + 1)) (lv' := [(5, .int (x5 + 1)), (4, .int (x4 + 1)), (0, .ref (a 0)), (1, .int x1), (2, .int x2), (3, .int x3)]) hx hb dX8_shift_140 hl (k := 5) rfl rfl (by decide) rfl (fun ls hl => ?_)
        refine lv_goto (tgt := 81) hx hb dX8_shift_143 (by decide) ?_
        exact ih _ _ _ _ _ _ hw136 (lv_sub hl [2, 3, 4, 5, 1, 0] rfl) h
def fX8_shift_149 (g_shifted : Nat → Int32) (x2 : Int32) (x3 : Int32) : (n : Nat) → (k : Int32 → (Nat → Int32) → (Nat → Int32) → Int32 → Option (Int32 × (Nat → Int32) × Int32 × (Nat → Int32) × Int32 × (Nat → Int32))) → Int32 → (Nat → Int32) → (Nat → Int32) → Int32 → Option (Int32 × (Nat → Int32) × Int32 × (Nat → Int32) × Int32 × (Nat → Int32))
  | 0, _, _, _, _, _ => none
  | n + 1, k, x5, g_row, g_beside, g_besides =>
    if x3 ≤ x5 then
      k x5 g_row g_beside g_besides
    else
      (ld 80 g_shifted (2 * x5)).bind fun y164 =>
      (ld 80 g_shifted ((2 * x5) + 1)).bind fun y175 =>
      (fX8_lays g_row g_beside g_besides y164 y175 x2).bind fun r177 =>
      (ld 80 g_shifted (2 * x5)).bind fun y189 =>
      (ld 80 g_shifted ((2 * x5) + 1)).bind fun y200 =>
      (fX8_moves g_row r177.1 r177.2 y189 y200 x2).bind fun r202 =>
      fX8_shift_149 g_shifted x2 x3 n k (x5 + 1) r202 r177.1 r177.2
set_option maxRecDepth 100000 in
set_option maxHeartbeats 4000000 in
theorem wX8_shift_149 {p : Program} {l : Launch} {e : Env} {s : State} {m : MethodId} {args : Array Value} {below : List Frame} {meth : Method} {c : Code} {D : va_G} {cI : ClassId} {cS : GS} {A : Nat → Prop} {a : Nat → Nat} {g_undos : Int32} {g_listed : Int32} {g_papers : Int32} {g_length : Int32} {g_gapFirst : Int32} {g_gapLast : Int32} {g_layings : Int32} {g_first : Int32} {g_behind : Int32} {g_clauses : Int32} {g_shifted : Nat → Int32} {g_drafts : Int32} {x2 : Int32} {x3 : Int32} (C : MC p s m args meth c D cI cS A RX8 cX8_shift 6 (some .int)) (hA : ∀ q, s.heap.size ≤ q → A q) {s0 : Int32} {s1 : (Nat → Int32)} {s2 : Int32} {s3 : (Nat → Int32)} {s4 : Int32} {s5 : (Nat → Int32)} (k : Int32 → (Nat → Int32) → (Nat → Int32) → Int32 → Option (Int32 × (Nat → Int32) × Int32 × (Nat → Int32) × Int32 × (Nat → Int32))) (hk : ∀ (x5 : Int32) (g_row : Nat → Int32) (g_beside : Nat → Int32) (g_besides : Int32) (H : Heap) (locs : List Loc) (ls : Array Slot), Wd D A s.heap H locs [oX8 a g_undos g_listed g_papers g_length g_besides g_gapFirst g_gapLast g_layings g_first g_behind g_clauses g_drafts, ar cI (a 1) 5058 g_row, ar cI (a 9) 132 g_beside, ar cI (a 22) 80 g_shifted] → lv_has ls 6 [(0, .ref (a 0)), (2, .int x2), (3, .int x3), (5, .int x5)] → k x5 g_row g_beside g_besides = some (s0, s1, s2, s3, s4, s5) → W p l e rmX8_shift s m args below meth c H locs 0 0 (KQ D A below args s (some (.int s0)) [oX8 a s2 g_listed g_papers g_length s4 g_gapFirst g_gapLast g_layings g_first g_behind g_clauses g_drafts, ar cI (a 1) 5058 s1, ar cI (a 9) 132 s3, ar cI (a 22) 80 s5]) (F0 m 211 ls [])) :
    ∀ (n : Nat) (x5 : Int32) (g_row : Nat → Int32) (g_beside : Nat → Int32) (g_besides : Int32) (H : Heap) (locs : List Loc) (ls : Array Slot), Wd D A s.heap H locs [oX8 a g_undos g_listed g_papers g_length g_besides g_gapFirst g_gapLast g_layings g_first g_behind g_clauses g_drafts, ar cI (a 1) 5058 g_row, ar cI (a 9) 132 g_beside, ar cI (a 22) 80 g_shifted] → lv_has ls 6 [(0, .ref (a 0)), (2, .int x2), (3, .int x3), (5, .int x5)] → fX8_shift_149 g_shifted x2 x3 n k x5 g_row g_beside g_besides = some (s0, s1, s2, s3, s4, s5) → W p l e rmX8_shift s m args below meth c H locs 0 0 (KQ D A below args s (some (.int s0)) [oX8 a s2 g_listed g_papers g_length s4 g_gapFirst g_gapLast g_layings g_first g_behind g_clauses g_drafts, ar cI (a 1) 5058 s1, ar cI (a 9) 132 s3, ar cI (a 22) 80 s5]) (F0 m 149 ls []) := by
  have hx := C.1.1
  have hb := C.1.2.1
  intro n
  induction n with
  | zero =>
    intro x5 g_row g_beside g_besides H locs ls hw hl h
    rw [fX8_shift_149] at h
    cases h
  | succ n ih =>
    intro x5 g_row g_beside g_besides H locs ls hw hl h
    rw [fX8_shift_149] at h
    refine lv_iload hx hb dX8_shift_149 (lv_at hl 3 rfl) ?_
    refine lv_iload_n hx hb dX8_shift_151 rfl (lv_at hl 2 rfl) ?_
    refine lv_icmp_ge (tgt := 211) hx hb dX8_shift_152 (by decide) (fun c152 => ?_) (fun c152 => ?_)
    · replace h := br_t' h c152
      exact hk _ _ _ _ _ _ _ hw (lv_sub hl [0, 1, 2, 3] rfl) h
    · replace h := br_f' h c152
      refine lv_aload_n hx hb dX8_shift_155 rfl (lv_at hl 0 rfl) ?_
      refine lv_aload_n hx hb dX8_shift_156 rfl (lv_at hl 0 rfl) ?_
      refine k_get C inT_X8 hw 0 rfl rfl 21 (by decide) mF_X8_40 rfl dX8_shift_157 ?_
      refine lv_iconst (v := 2) hx hb dX8_shift_160 (by decide) ?_
      refine lv_iload hx hb dX8_shift_161 (lv_at hl 3 rfl) ?_
      refine lv_imul hx hb dX8_shift_163 ?_
      obtain ⟨y164, q164, h⟩ := bd h
      refine k_iald C hw 3 rfl q164 dX8_shift_164 ?_
      refine lv_aload_n hx hb dX8_shift_165 rfl (lv_at hl 0 rfl) ?_
      refine k_get C inT_X8 hw 0 rfl rfl 21 (by decide) mF_X8_40 rfl dX8_shift_166 ?_
      refine lv_iconst (v := 2) hx hb dX8_shift_169 (by decide) ?_
      refine lv_iload hx hb dX8_shift_170 (lv_at hl 3 rfl) ?_
      refine lv_imul hx hb dX8_shift_172 ?_
      refine lv_iconst (v := 1) hx hb dX8_shift_173 (by decide) ?_
      refine lv_iadd hx hb dX8_shift_174 ?_
      obtain ⟨y175, q175, h⟩ := bd h
      refine k_iald C hw 3 rfl q175 dX8_shift_175 ?_
      refine lv_iload_n hx hb dX8_shift_176 rfl (lv_at hl 1 rfl) ?_
      obtain ⟨r177, q177, h⟩ := bd h
      refine k_callV (nC := 4) [oX8 a g_undos g_listed g_papers g_length r177.2 g_gapFirst g_gapLast g_layings g_first g_behind g_clauses g_drafts, ar cI (a 1) 5058 g_row, ar cI (a 9) 132 r177.1, ar cI (a 22) 80 g_shifted] C hl.1 (tX8_lays (a := a) q177) mL_X8_90 mmX8_lays rfl rfl ⟨Nat.le_of_ble_eq_true rfl, Nat.le_of_ble_eq_true rfl⟩ rfl rfl rfl rfl (Nat.le_of_ble_eq_true rfl) hA hw [0, 1, 2] [3] rfl (by decide +kernel) rfl rfl rfl rfl dX8_shift_177 (fun H locs hw177 => ?_)
      refine lv_aload_n hx hb dX8_shift_180 rfl (lv_at hl 0 rfl) ?_
      refine lv_aload_n hx hb dX8_shift_181 rfl (lv_at hl 0 rfl) ?_
      refine k_get C inT_X8 hw177 0 rfl rfl 21 (by decide) mF_X8_40 rfl dX8_shift_182 ?_
      refine lv_iconst (v := 2) hx hb dX8_shift_185 (by decide) ?_
      refine lv_iload hx hb dX8_shift_186 (lv_at hl 3 rfl) ?_
      refine lv_imul hx hb dX8_shift_188 ?_
      obtain ⟨y189, q189, h⟩ := bd h
      refine k_iald C hw177 3 rfl q189 dX8_shift_189 ?_
      refine lv_aload_n hx hb dX8_shift_190 rfl (lv_at hl 0 rfl) ?_
      refine k_get C inT_X8 hw177 0 rfl rfl 21 (by decide) mF_X8_40 rfl dX8_shift_191 ?_
      refine lv_iconst (v := 2) hx hb dX8_shift_194 (by decide) ?_
      refine lv_iload hx hb dX8_shift_195 (lv_at hl 3 rfl) ?_
      refine lv_imul hx hb dX8_shift_197 ?_
      refine lv_iconst (v := 1) hx hb dX8_shift_198 (by decide) ?_
      refine lv_iadd hx hb dX8_shift_199 ?_
      obtain ⟨y200, q200, h⟩ := bd h
      refine k_iald C hw177 3 rfl q200 dX8_shift_200 ?_
      refine lv_iload_n hx hb dX8_shift_201 rfl (lv_at hl 1 rfl) ?_
      obtain ⟨r202, q202, h⟩ := bd h
      refine k_callV (nC := 4) [oX8 a g_undos g_listed g_papers g_length r177.2 g_gapFirst g_gapLast g_layings g_first g_behind g_clauses g_drafts, ar cI (a 1) 5058 r202, ar cI (a 9) 132 r177.1, ar cI (a 22) 80 g_shifted] C hl.1 (tX8_moves (a := a) q202) mL_X8_219 mmX8_moves rfl rfl ⟨Nat.le_of_ble_eq_true rfl, Nat.le_of_ble_eq_true rfl⟩ rfl rfl rfl rfl (Nat.le_of_ble_eq_true rfl) hA hw177 [0, 1, 2] [3] rfl (by decide +kernel) rfl rfl rfl rfl dX8_shift_202 (fun H locs hw202 => ?_)
      refine lv_iinc (v := (x5 + 1)) (lv' := [(5, .int (x5 + 1)), (0, .ref (a 0)), (2, .int x2), (3, .int x3)]) hx hb dX8_shift_205 hl (k := 3) rfl rfl (by decide) rfl (fun ls hl => ?_)
      refine lv_goto (tgt := 149) hx hb dX8_shift_208 (by decide) ?_
      exact ih _ _ _ _ _ _ _ hw202 (lv_sub hl [1, 2, 3, 0] rfl) h
def fX8_shift (g_row : Nat → Int32) (g_undos : Int32) (g_beside : Nat → Int32) (g_besides : Int32) (g_shifted : Nat → Int32) (x1 : Int32) (x2 : Int32) : Option (Int32 × (Nat → Int32) × Int32 × (Nat → Int32) × Int32 × (Nat → Int32)) :=
  (fX8_isBox x1).bind fun r1 =>
  if r1 = 0 then
    some ((-2), g_row, g_undos, g_beside, g_besides, g_shifted)
  else
    (fX8_isBox x2).bind fun r8 =>
    if r8 = 0 then
      some ((-2), g_row, g_undos, g_beside, g_besides, g_shifted)
    else
      if x1 = x2 then
        some ((-2), g_row, g_undos, g_beside, g_besides, g_shifted)
      else
        (fX8_piecesOf g_row x1).bind fun r24 =>
        (fX8_load g_row x1).bind fun r30 =>
        (fX8_load g_row x2).bind fun r36 =>
        (ld 5058 g_row (34 + x2)).bind fun y49 =>
        if 0 < (lg_cmp (r30.toInt64 + r36.toInt64) y49.toInt64) then
          some ((-5), g_row, g_undos, g_beside, g_besides, g_shifted)
        else
          (ld 5058 g_row 2).bind fun y60 =>
          if (y60 + r24) ≤ 100 then
            (fX8_keepPast g_row g_undos).bind fun r72 =>
            fX8_shift_81 r72.1 x1 FU (fun x4_81 x5_81 g_shifted_81 =>
              fX8_shift_149 g_shifted_81 x2 r24 FU (fun x5_149 g_row_149 g_beside_149 g_besides_149 =>
                some (r24, g_row_149, r72.2, g_beside_149, g_besides_149, g_shifted_81)) 0 r72.1 g_beside g_besides) 0 0 g_shifted
          else
            some ((-5), g_row, g_undos, g_beside, g_besides, g_shifted)
set_option maxRecDepth 100000 in
set_option maxHeartbeats 4000000 in
theorem tX8_shift {l : Launch} {D : va_G} {cI : ClassId} {cS : GS} {a : Nat → Nat} {g_row : Nat → Int32} {g_undos : Int32} {g_listed : Int32} {g_papers : Int32} {g_length : Int32} {g_beside : Nat → Int32} {g_besides : Int32} {g_gapFirst : Int32} {g_gapLast : Int32} {g_layings : Int32} {g_first : Int32} {g_behind : Int32} {g_clauses : Int32} {g_shifted : Nat → Int32} {g_drafts : Int32} {x1 : Int32} {x2 : Int32} {s0 : Int32} {s1 : (Nat → Int32)} {s2 : Int32} {s3 : (Nat → Int32)} {s4 : Int32} {s5 : (Nat → Int32)} (h : fX8_shift g_row g_undos g_beside g_besides g_shifted x1 x2 = some (s0, s1, s2, s3, s4, s5)) : CT l D cI cS yX8_shift cX8_shift 6 (some .int) rmX8_shift [.ref (a 0), .int x1, .int x2] [oX8 a g_undos g_listed g_papers g_length g_besides g_gapFirst g_gapLast g_layings g_first g_behind g_clauses g_drafts, ar cI (a 1) 5058 g_row, ar cI (a 9) 132 g_beside, ar cI (a 22) 80 g_shifted] (some (.int s0)) [oX8 a s2 g_listed g_papers g_length s4 g_gapFirst g_gapLast g_layings g_first g_behind g_clauses g_drafts, ar cI (a 1) 5058 s1, ar cI (a 9) 132 s3, ar cI (a 22) 80 s5] := by
  refine CT.of RX8 (by decide) rfl (Nat.le_of_ble_eq_true rfl) (fun p e s m below meth c ls A C hA hl hw => ?_)
  have hx := C.1.1
  have hb := C.1.2.1
  have hl : lv_has ls 6 [(0, .ref (a 0)), (1, .int x1), (2, .int x2)] := hl
  unfold fX8_shift at h
  refine lv_iload_n hx hb dX8_shift_0 rfl (lv_at hl 1 rfl) ?_
  obtain ⟨r1, q1, h⟩ := bd h
  refine k_callS (nC := 4) [oX8 a g_undos g_listed g_papers g_length g_besides g_gapFirst g_gapLast g_layings g_first g_behind g_clauses g_drafts, ar cI (a 1) 5058 g_row, ar cI (a 9) 132 g_beside, ar cI (a 22) 80 g_shifted] C hl.1 (tX8_isBox q1) mL_X8_212 mmX8_isBox rfl rfl ⟨Nat.le_of_ble_eq_true rfl, Nat.le_of_ble_eq_true rfl⟩ rfl rfl (Nat.le_of_ble_eq_true rfl) hA hw [] [0, 1, 2, 3] rfl (by decide +kernel) rfl rfl rfl rfl dX8_shift_1 (fun H locs hw1 => ?_)
  refine lv_if_eq (tgt := 19) hx hb dX8_shift_4 (by decide) (fun c4 => ?_) (fun c4 => ?_)
  · replace h := br_t' h c4
    refine lv_bipush (v := (-2)) hx hb dX8_shift_19 (by decide) ?_
    cases h
    exact k_iret C hw1 dX8_shift_21
  · replace h := br_f' h c4
    refine lv_iload_n hx hb dX8_shift_7 rfl (lv_at hl 2 rfl) ?_
    obtain ⟨r8, q8, h⟩ := bd h
    refine k_callS (nC := 4) [oX8 a g_undos g_listed g_papers g_length g_besides g_gapFirst g_gapLast g_layings g_first g_behind g_clauses g_drafts, ar cI (a 1) 5058 g_row, ar cI (a 9) 132 g_beside, ar cI (a 22) 80 g_shifted] C hl.1 (tX8_isBox q8) mL_X8_212 mmX8_isBox rfl rfl ⟨Nat.le_of_ble_eq_true rfl, Nat.le_of_ble_eq_true rfl⟩ rfl rfl (Nat.le_of_ble_eq_true rfl) hA hw1 [] [0, 1, 2, 3] rfl (by decide +kernel) rfl rfl rfl rfl dX8_shift_8 (fun H locs hw8 => ?_)
    refine lv_if_eq (tgt := 19) hx hb dX8_shift_11 (by decide) (fun c11 => ?_) (fun c11 => ?_)
    · replace h := br_t' h c11
      refine lv_bipush (v := (-2)) hx hb dX8_shift_19 (by decide) ?_
      cases h
      exact k_iret C hw8 dX8_shift_21
    · replace h := br_f' h c11
      refine lv_iload_n hx hb dX8_shift_14 rfl (lv_at hl 1 rfl) ?_
      refine lv_iload_n hx hb dX8_shift_15 rfl (lv_at hl 2 rfl) ?_
      refine lv_icmp_ne (tgt := 22) hx hb dX8_shift_16 (by decide) (fun c16 => ?_) (fun c16 => ?_)
      · replace h := br_f' h c16
        refine lv_aload_n hx hb dX8_shift_22 rfl (lv_at hl 0 rfl) ?_
        refine lv_iload_n hx hb dX8_shift_23 rfl (lv_at hl 1 rfl) ?_
        obtain ⟨r24, q24, h⟩ := bd h
        refine k_callV (nC := 4) [oX8 a g_undos g_listed g_papers g_length g_besides g_gapFirst g_gapLast g_layings g_first g_behind g_clauses g_drafts, ar cI (a 1) 5058 g_row, ar cI (a 9) 132 g_beside, ar cI (a 22) 80 g_shifted] C hl.1 (tX8_piecesOf (a := a) q24) mL_X8_222 mmX8_piecesOf rfl rfl ⟨Nat.le_of_ble_eq_true rfl, Nat.le_of_ble_eq_true rfl⟩ rfl rfl rfl rfl (Nat.le_of_ble_eq_true rfl) hA hw8 [0, 1] [2, 3] rfl (by decide +kernel) rfl rfl rfl rfl dX8_shift_24 (fun H locs hw24 => ?_)
        refine lv_istore_n (lv' := [(3, .int r24), (0, .ref (a 0)), (1, .int x1), (2, .int x2)]) hx hb dX8_shift_27 rfl hl (by decide) rfl (fun ls hl => ?_)
        refine lv_aload_n hx hb dX8_shift_28 rfl (lv_at hl 1 rfl) ?_
        refine lv_iload_n hx hb dX8_shift_29 rfl (lv_at hl 2 rfl) ?_
        obtain ⟨r30, q30, h⟩ := bd h
        refine k_callV (nC := 4) [oX8 a g_undos g_listed g_papers g_length g_besides g_gapFirst g_gapLast g_layings g_first g_behind g_clauses g_drafts, ar cI (a 1) 5058 g_row, ar cI (a 9) 132 g_beside, ar cI (a 22) 80 g_shifted] C hl.1 (tX8_load (a := a) q30) mL_X8_119 mmX8_load rfl rfl ⟨Nat.le_of_ble_eq_true rfl, Nat.le_of_ble_eq_true rfl⟩ rfl rfl rfl rfl (Nat.le_of_ble_eq_true rfl) hA hw24 [0, 1] [2, 3] rfl (by decide +kernel) rfl rfl rfl rfl dX8_shift_30 (fun H locs hw30 => ?_)
        refine lv_i2l (v := r30.toInt64) hx hb dX8_shift_33 rfl ?_
        refine lv_aload_n hx hb dX8_shift_34 rfl (lv_at hl 1 rfl) ?_
        refine lv_iload_n hx hb dX8_shift_35 rfl (lv_at hl 3 rfl) ?_
        obtain ⟨r36, q36, h⟩ := bd h
        refine k_callV (nC := 4) [oX8 a g_undos g_listed g_papers g_length g_besides g_gapFirst g_gapLast g_layings g_first g_behind g_clauses g_drafts, ar cI (a 1) 5058 g_row, ar cI (a 9) 132 g_beside, ar cI (a 22) 80 g_shifted] C hl.1 (tX8_load (a := a) q36) mL_X8_119 mmX8_load rfl rfl ⟨Nat.le_of_ble_eq_true rfl, Nat.le_of_ble_eq_true rfl⟩ rfl rfl rfl rfl (Nat.le_of_ble_eq_true rfl) hA hw30 [0, 1] [2, 3] rfl (by decide +kernel) rfl rfl rfl rfl dX8_shift_36 (fun H locs hw36 => ?_)
        refine lv_i2l (v := r36.toInt64) hx hb dX8_shift_39 rfl ?_
        refine lv_ladd hx hb dX8_shift_40 ?_
        refine lv_aload_n hx hb dX8_shift_41 rfl (lv_at hl 1 rfl) ?_
        refine k_get C inT_X8 hw36 0 rfl rfl 0 (by decide) mF_X8_7 rfl dX8_shift_42 ?_
        refine lv_bipush (v := 34) hx hb dX8_shift_45 (by decide) ?_
        refine lv_iload_n hx hb dX8_shift_47 rfl (lv_at hl 3 rfl) ?_
        refine lv_iadd hx hb dX8_shift_48 ?_
        obtain ⟨y49, q49, h⟩ := bd h
        refine k_iald C hw36 1 rfl q49 dX8_shift_49 ?_
        refine lv_i2l (v := y49.toInt64) hx hb dX8_shift_50 rfl ?_
        refine W.lcmp hx hb dX8_shift_51 ?_
        refine lv_if_gt (tgt := 68) hx hb dX8_shift_52 (by decide) (fun c52 => ?_) (fun c52 => ?_)
        · replace h := br_t' h c52
          refine lv_bipush (v := (-5)) hx hb dX8_shift_68 (by decide) ?_
          cases h
          exact k_iret C hw36 dX8_shift_70
        · replace h := br_f' h c52
          refine lv_aload_n hx hb dX8_shift_55 rfl (lv_at hl 1 rfl) ?_
          refine k_get C inT_X8 hw36 0 rfl rfl 0 (by decide) mF_X8_7 rfl dX8_shift_56 ?_
          refine lv_iconst (v := 2) hx hb dX8_shift_59 (by decide) ?_
          obtain ⟨y60, q60, h⟩ := bd h
          refine k_iald C hw36 1 rfl q60 dX8_shift_60 ?_
          refine lv_iload_n hx hb dX8_shift_61 rfl (lv_at hl 0 rfl) ?_
          refine lv_iadd hx hb dX8_shift_62 ?_
          refine lv_bipush (v := 100) hx hb dX8_shift_63 (by decide) ?_
          refine lv_icmp_le (tgt := 71) hx hb dX8_shift_65 (by decide) (fun c65 => ?_) (fun c65 => ?_)
          · replace h := br_t' h c65
            refine lv_aload_n hx hb dX8_shift_71 rfl (lv_at hl 1 rfl) ?_
            obtain ⟨r72, q72, h⟩ := bd h
            refine k_callV (nC := 4) [oX8 a r72.2 g_listed g_papers g_length g_besides g_gapFirst g_gapLast g_layings g_first g_behind g_clauses g_drafts, ar cI (a 1) 5058 r72.1, ar cI (a 9) 132 g_beside, ar cI (a 22) 80 g_shifted] C hl.1 (tX8_keepPast (a := a) q72) mL_X8_209 mmX8_keepPast rfl rfl ⟨Nat.le_of_ble_eq_true rfl, Nat.le_of_ble_eq_true rfl⟩ rfl rfl rfl rfl (Nat.le_of_ble_eq_true rfl) hA hw36 [0, 1] [2, 3] rfl (by decide +kernel) rfl rfl rfl rfl dX8_shift_72 (fun H locs hw72 => ?_)
            refine lv_iconst (v := 0) hx hb dX8_shift_75 (by decide) ?_
            refine lv_istore (lv' := [(4, .int 0), (3, .int r24), (0, .ref (a 0)), (1, .int x1), (2, .int x2)]) hx hb dX8_shift_76 hl (by decide) rfl (fun ls hl => ?_)
            refine lv_iconst (v := 0) hx hb dX8_shift_78 (by decide) ?_
            refine lv_istore (lv' := [(5, .int 0), (4, .int 0), (3, .int r24), (0, .ref (a 0)), (1, .int x1), (2, .int x2)]) hx hb dX8_shift_79 hl (by decide) rfl (fun ls hl => ?_)
            refine wX8_shift_81 C hA _ (fun x4_81 x5_81 g_shifted_81 H locs ls hw81x hl h => ?_) FU _ _ _ _ _ _ hw72 (lv_sub hl [3, 4, 5, 2, 1, 0] rfl) h
            refine lv_iconst (v := 0) hx hb dX8_shift_146 (by decide) ?_
            refine lv_istore (lv' := [(5, .int 0), (0, .ref (a 0)), (1, .int x1), (2, .int x2), (3, .int r24), (4, .int x4_81)]) hx hb dX8_shift_147 hl (by decide) rfl (fun ls hl => ?_)
            refine wX8_shift_149 C hA _ (fun x5_149 g_row_149 g_beside_149 g_besides_149 H locs ls hw149x hl h => ?_) FU _ _ _ _ _ _ _ hw81x (lv_sub hl [1, 3, 4, 0] rfl) h
            refine lv_iload_n hx hb dX8_shift_211 rfl (lv_at hl 2 rfl) ?_
            cases h
            exact k_iret C hw149x dX8_shift_212
          · replace h := br_f' h c65
            refine lv_bipush (v := (-5)) hx hb dX8_shift_68 (by decide) ?_
            cases h
            exact k_iret C hw36 dX8_shift_70
      · replace h := br_t' h c16
        refine lv_bipush (v := (-2)) hx hb dX8_shift_19 (by decide) ?_
        cases h
        exact k_iret C hw8 dX8_shift_21
def rmX8_copyRow : Room := { frames := 0, cells := 0, slots := 0, locals := 0 }
def fX8_copyRow_2 (Np1 : Nat) (Np2 : Nat) (g_p1 : Nat → Int32) : (n : Nat) → (k : Int32 → (Nat → Int32) → Option ((Nat → Int32))) → Int32 → (Nat → Int32) → Option ((Nat → Int32))
  | 0, _, _, _ => none
  | n + 1, k, x2, g_p2 =>
    if 562 ≤ x2 then
      k x2 g_p2
    else
      (ld Np1 g_p1 x2).bind fun y13 =>
      (sv Np2 g_p2 x2 y13).bind fun g14 =>
      fX8_copyRow_2 Np1 Np2 g_p1 n k (x2 + 1) g14
set_option maxRecDepth 100000 in
set_option maxHeartbeats 4000000 in
theorem wX8_copyRow_2 {p : Program} {l : Launch} {e : Env} {s : State} {m : MethodId} {args : Array Value} {below : List Frame} {meth : Method} {c : Code} {D : va_G} {cI : ClassId} {cS : GS} {A : Nat → Prop} {a_p1 : Nat → Nat} {a_p2 : Nat → Nat} {Np1 : Nat} {Np2 : Nat} {g_p1 : Nat → Int32} (C : MC p s m args meth c D cI cS A RX8 cX8_copyRow 3 none) (hA : ∀ q, s.heap.size ≤ q → A q) {s0 : (Nat → Int32)} (k : Int32 → (Nat → Int32) → Option ((Nat → Int32))) (hk : ∀ (x2 : Int32) (g_p2 : Nat → Int32) (H : Heap) (locs : List Loc) (ls : Array Slot), Wd D A s.heap H locs [ar cI (a_p1 0) Np1 g_p1, ar cI (a_p2 0) Np2 g_p2] → lv_has ls 3 [(0, .ref (a_p1 0)), (1, .ref (a_p2 0)), (2, .int x2)] → k x2 g_p2 = some s0 → W p l e rmX8_copyRow s m args below meth c H locs 0 0 (KQ D A below args s none [ar cI (a_p1 0) Np1 g_p1, ar cI (a_p2 0) Np2 s0]) (F0 m 21 ls [])) :
    ∀ (n : Nat) (x2 : Int32) (g_p2 : Nat → Int32) (H : Heap) (locs : List Loc) (ls : Array Slot), Wd D A s.heap H locs [ar cI (a_p1 0) Np1 g_p1, ar cI (a_p2 0) Np2 g_p2] → lv_has ls 3 [(0, .ref (a_p1 0)), (1, .ref (a_p2 0)), (2, .int x2)] → fX8_copyRow_2 Np1 Np2 g_p1 n k x2 g_p2 = some s0 → W p l e rmX8_copyRow s m args below meth c H locs 0 0 (KQ D A below args s none [ar cI (a_p1 0) Np1 g_p1, ar cI (a_p2 0) Np2 s0]) (F0 m 2 ls []) := by
  have hx := C.1.1
  have hb := C.1.2.1
  intro n
  induction n with
  | zero =>
    intro x2 g_p2 H locs ls hw hl h
    rw [fX8_copyRow_2] at h
    cases h
  | succ n ih =>
    intro x2 g_p2 H locs ls hw hl h
    rw [fX8_copyRow_2] at h
    refine lv_iload_n hx hb dX8_copyRow_2 rfl (lv_at hl 2 rfl) ?_
    refine lv_sipush (v := 562) hx hb dX8_copyRow_3 (by decide) ?_
    refine lv_icmp_ge (tgt := 21) hx hb dX8_copyRow_6 (by decide) (fun c6 => ?_) (fun c6 => ?_)
    · replace h := br_t' h c6
      exact hk _ _ _ _ _ hw (lv_sub hl [0, 1, 2] rfl) h
    · replace h := br_f' h c6
      refine lv_aload_n hx hb dX8_copyRow_9 rfl (lv_at hl 1 rfl) ?_
      refine lv_iload_n hx hb dX8_copyRow_10 rfl (lv_at hl 2 rfl) ?_
      refine lv_aload_n hx hb dX8_copyRow_11 rfl (lv_at hl 0 rfl) ?_
      refine lv_iload_n hx hb dX8_copyRow_12 rfl (lv_at hl 2 rfl) ?_
      obtain ⟨y13, q13, h⟩ := bd h
      refine k_iald C hw 0 rfl q13 dX8_copyRow_13 ?_
      obtain ⟨g14, q14, h⟩ := bd h
      refine k_iast C hw 1 rfl q14 [ar cI (a_p1 0) Np1 g_p1, ar cI (a_p2 0) Np2 g14] rfl dX8_copyRow_14 (fun H locs hw14 => ?_)
      refine lv_iinc (v := (x2 + 1)) (lv' := [(2, .int (x2 + 1)), (0, .ref (a_p1 0)), (1, .ref (a_p2 0))]) hx hb dX8_copyRow_15 hl (k := 2) rfl rfl (by decide) rfl (fun ls hl => ?_)
      refine lv_goto (tgt := 2) hx hb dX8_copyRow_18 (by decide) ?_
      exact ih _ _ _ _ _ hw14 (lv_sub hl [1, 2, 0] rfl) h
def fX8_copyRow (Np1 : Nat) (Np2 : Nat) (g_p1 : Nat → Int32) (g_p2 : Nat → Int32) : Option ((Nat → Int32)) :=
  fX8_copyRow_2 Np1 Np2 g_p1 FU (fun x2_2 g_p2_2 =>
    some g_p2_2) 0 g_p2
set_option maxRecDepth 100000 in
set_option maxHeartbeats 4000000 in
theorem tX8_copyRow {l : Launch} {D : va_G} {cI : ClassId} {cS : GS} {a_p1 : Nat → Nat} {a_p2 : Nat → Nat} {Np1 : Nat} {Np2 : Nat} {g_p1 : Nat → Int32} {g_p2 : Nat → Int32}  {s0 : (Nat → Int32)} (h : fX8_copyRow Np1 Np2 g_p1 g_p2 = some s0) : CT l D cI cS yX8_copyRow cX8_copyRow 3 none rmX8_copyRow [.ref (a_p1 0), .ref (a_p2 0)] [ar cI (a_p1 0) Np1 g_p1, ar cI (a_p2 0) Np2 g_p2] none [ar cI (a_p1 0) Np1 g_p1, ar cI (a_p2 0) Np2 s0] := by
  refine CT.of RX8 (by decide) rfl (Nat.le_of_ble_eq_true rfl) (fun p e s m below meth c ls A C hA hl hw => ?_)
  have hx := C.1.1
  have hb := C.1.2.1
  have hl : lv_has ls 3 [(0, .ref (a_p1 0)), (1, .ref (a_p2 0))] := hl
  unfold fX8_copyRow at h
  refine lv_iconst (v := 0) hx hb dX8_copyRow_0 (by decide) ?_
  refine lv_istore_n (lv' := [(2, .int 0), (0, .ref (a_p1 0)), (1, .ref (a_p2 0))]) hx hb dX8_copyRow_1 rfl hl (by decide) rfl (fun ls hl => ?_)
  refine wX8_copyRow_2 C hA _ (fun x2_2 g_p2_2 H locs ls hw2x hl h => ?_) FU _ _ _ _ _ hw (lv_sub hl [1, 2, 0] rfl) h
  cases h
  exact k_vret C hw2x dX8_copyRow_21
def rmX8_stows : Room := { frames := 3, cells := 0, slots := 0, locals := 76 }
def fX8_stows_4 (g_laying : Nat → Int32) (g_layings : Int32) : (n : Nat) → (k : Int32 → Int32 → (Nat → Int32) → (Nat → Int32) → Int32 → Option (Int32 × (Nat → Int32) × (Nat → Int32) × Int32)) → Int32 → Int32 → (Nat → Int32) → (Nat → Int32) → Int32 → Option (Int32 × (Nat → Int32) × (Nat → Int32) × Int32)
  | 0, _, _, _, _, _, _ => none
  | n + 1, k, x1, x2, g_row, g_beside, g_besides =>
    if g_layings ≤ x2 then
      k x1 x2 g_row g_beside g_besides
    else
      if x1 = 0 then
        k x1 x2 g_row g_beside g_besides
      else
        (ld 192 g_laying (3 * x2)).bind fun y24 =>
        (ld 192 g_laying ((3 * x2) + 1)).bind fun y34 =>
        (ld 192 g_laying ((3 * x2) + 2)).bind fun y44 =>
        (fX8_fits g_row g_beside g_besides y24 y34 y44).bind fun r45 =>
        if r45.1 = 0 then
          fX8_stows_4 g_laying g_layings n k r45.1 (x2 + 1) g_row r45.2.1 r45.2.2
        else
          (ld 192 g_laying (3 * x2)).bind fun y61 =>
          (ld 192 g_laying ((3 * x2) + 1)).bind fun y71 =>
          (ld 192 g_laying ((3 * x2) + 2)).bind fun y81 =>
          (fX8_moves g_row r45.2.1 r45.2.2 y61 y71 y81).bind fun r82 =>
          fX8_stows_4 g_laying g_layings n k r45.1 (x2 + 1) r82 r45.2.1 r45.2.2
set_option maxRecDepth 100000 in
set_option maxHeartbeats 4000000 in
theorem wX8_stows_4 {p : Program} {l : Launch} {e : Env} {s : State} {m : MethodId} {args : Array Value} {below : List Frame} {meth : Method} {c : Code} {D : va_G} {cI : ClassId} {cS : GS} {A : Nat → Prop} {a : Nat → Nat} {g_undos : Int32} {g_listed : Int32} {g_papers : Int32} {g_length : Int32} {g_gapFirst : Int32} {g_gapLast : Int32} {g_laying : Nat → Int32} {g_layings : Int32} {g_first : Int32} {g_behind : Int32} {g_clauses : Int32} {g_drafts : Int32} (C : MC p s m args meth c D cI cS A RX8 cX8_stows 3 (some .boolean)) (hA : ∀ q, s.heap.size ≤ q → A q) {s0 : Int32} {s1 : (Nat → Int32)} {s2 : (Nat → Int32)} {s3 : Int32} (k : Int32 → Int32 → (Nat → Int32) → (Nat → Int32) → Int32 → Option (Int32 × (Nat → Int32) × (Nat → Int32) × Int32)) (hk : ∀ (x1 : Int32) (x2 : Int32) (g_row : Nat → Int32) (g_beside : Nat → Int32) (g_besides : Int32) (H : Heap) (locs : List Loc) (ls : Array Slot), Wd D A s.heap H locs [oX8 a g_undos g_listed g_papers g_length g_besides g_gapFirst g_gapLast g_layings g_first g_behind g_clauses g_drafts, ar cI (a 1) 5058 g_row, ar cI (a 9) 132 g_beside, ar cI (a 13) 192 g_laying] → lv_has ls 3 [(0, .ref (a 0)), (1, .int x1), (2, .int x2)] → k x1 x2 g_row g_beside g_besides = some (s0, s1, s2, s3) → W p l e rmX8_stows s m args below meth c H locs 0 0 (KQ D A below args s (some (.int s0)) [oX8 a g_undos g_listed g_papers g_length s3 g_gapFirst g_gapLast g_layings g_first g_behind g_clauses g_drafts, ar cI (a 1) 5058 s1, ar cI (a 9) 132 s2, ar cI (a 13) 192 g_laying]) (F0 m 91 ls [])) :
    ∀ (n : Nat) (x1 : Int32) (x2 : Int32) (g_row : Nat → Int32) (g_beside : Nat → Int32) (g_besides : Int32) (H : Heap) (locs : List Loc) (ls : Array Slot), Wd D A s.heap H locs [oX8 a g_undos g_listed g_papers g_length g_besides g_gapFirst g_gapLast g_layings g_first g_behind g_clauses g_drafts, ar cI (a 1) 5058 g_row, ar cI (a 9) 132 g_beside, ar cI (a 13) 192 g_laying] → lv_has ls 3 [(0, .ref (a 0)), (1, .int x1), (2, .int x2)] → fX8_stows_4 g_laying g_layings n k x1 x2 g_row g_beside g_besides = some (s0, s1, s2, s3) → W p l e rmX8_stows s m args below meth c H locs 0 0 (KQ D A below args s (some (.int s0)) [oX8 a g_undos g_listed g_papers g_length s3 g_gapFirst g_gapLast g_layings g_first g_behind g_clauses g_drafts, ar cI (a 1) 5058 s1, ar cI (a 9) 132 s2, ar cI (a 13) 192 g_laying]) (F0 m 4 ls []) := by
  have hx := C.1.1
  have hb := C.1.2.1
  intro n
  induction n with
  | zero =>
    intro x1 x2 g_row g_beside g_besides H locs ls hw hl h
    rw [fX8_stows_4] at h
    cases h
  | succ n ih =>
    intro x1 x2 g_row g_beside g_besides H locs ls hw hl h
    rw [fX8_stows_4] at h
    refine lv_iload_n hx hb dX8_stows_4 rfl (lv_at hl 2 rfl) ?_
    refine lv_aload_n hx hb dX8_stows_5 rfl (lv_at hl 0 rfl) ?_
    refine k_get C inT_X8 hw 0 rfl rfl 13 (by decide) mF_X8_116 rfl dX8_stows_6 ?_
    refine lv_icmp_ge (tgt := 91) hx hb dX8_stows_9 (by decide) (fun c9 => ?_) (fun c9 => ?_)
    · replace h := br_t' h c9
      exact hk _ _ _ _ _ _ _ _ hw (lv_sub hl [0, 1, 2] rfl) h
    · replace h := br_f' h c9
      refine lv_iload_n hx hb dX8_stows_12 rfl (lv_at hl 1 rfl) ?_
      refine lv_if_eq (tgt := 91) hx hb dX8_stows_13 (by decide) (fun c13 => ?_) (fun c13 => ?_)
      · replace h := br_t' h c13
        exact hk _ _ _ _ _ _ _ _ hw (lv_sub hl [0, 1, 2] rfl) h
      · replace h := br_f' h c13
        refine lv_aload_n hx hb dX8_stows_16 rfl (lv_at hl 0 rfl) ?_
        refine lv_aload_n hx hb dX8_stows_17 rfl (lv_at hl 0 rfl) ?_
        refine k_get C inT_X8 hw 0 rfl rfl 12 (by decide) mF_X8_25 rfl dX8_stows_18 ?_
        refine lv_iconst (v := 3) hx hb dX8_stows_21 (by decide) ?_
        refine lv_iload_n hx hb dX8_stows_22 rfl (lv_at hl 2 rfl) ?_
        refine lv_imul hx hb dX8_stows_23 ?_
        obtain ⟨y24, q24, h⟩ := bd h
        refine k_iald C hw 3 rfl q24 dX8_stows_24 ?_
        refine lv_aload_n hx hb dX8_stows_25 rfl (lv_at hl 0 rfl) ?_
        refine k_get C inT_X8 hw 0 rfl rfl 12 (by decide) mF_X8_25 rfl dX8_stows_26 ?_
        refine lv_iconst (v := 3) hx hb dX8_stows_29 (by decide) ?_
        refine lv_iload_n hx hb dX8_stows_30 rfl (lv_at hl 2 rfl) ?_
        refine lv_imul hx hb dX8_stows_31 ?_
        refine lv_iconst (v := 1) hx hb dX8_stows_32 (by decide) ?_
        refine lv_iadd hx hb dX8_stows_33 ?_
        obtain ⟨y34, q34, h⟩ := bd h
        refine k_iald C hw 3 rfl q34 dX8_stows_34 ?_
        refine lv_aload_n hx hb dX8_stows_35 rfl (lv_at hl 0 rfl) ?_
        refine k_get C inT_X8 hw 0 rfl rfl 12 (by decide) mF_X8_25 rfl dX8_stows_36 ?_
        refine lv_iconst (v := 3) hx hb dX8_stows_39 (by decide) ?_
        refine lv_iload_n hx hb dX8_stows_40 rfl (lv_at hl 2 rfl) ?_
        refine lv_imul hx hb dX8_stows_41 ?_
        refine lv_iconst (v := 2) hx hb dX8_stows_42 (by decide) ?_
        refine lv_iadd hx hb dX8_stows_43 ?_
        obtain ⟨y44, q44, h⟩ := bd h
        refine k_iald C hw 3 rfl q44 dX8_stows_44 ?_
        obtain ⟨r45, q45, h⟩ := bd h
        refine k_callV (nC := 4) [oX8 a g_undos g_listed g_papers g_length r45.2.2 g_gapFirst g_gapLast g_layings g_first g_behind g_clauses g_drafts, ar cI (a 1) 5058 g_row, ar cI (a 9) 132 r45.2.1, ar cI (a 13) 192 g_laying] C hl.1 (tX8_fits (a := a) q45) mL_X8_215 mmX8_fits rfl rfl ⟨Nat.le_of_ble_eq_true rfl, Nat.le_of_ble_eq_true rfl⟩ rfl rfl rfl rfl (Nat.le_of_ble_eq_true rfl) hA hw [0, 1, 2] [3] rfl (by decide +kernel) rfl rfl rfl rfl dX8_stows_45 (fun H locs hw45 => ?_)
        refine lv_istore_n (lv' := [(1, .int r45.1), (0, .ref (a 0)), (2, .int x2)]) hx hb dX8_stows_48 rfl hl (by decide) rfl (fun ls hl => ?_)
        refine lv_iload_n hx hb dX8_stows_49 rfl (lv_at hl 0 rfl) ?_
        refine lv_if_eq (tgt := 85) hx hb dX8_stows_50 (by decide) (fun c50 => ?_) (fun c50 => ?_)
        · replace h := br_t' h c50
          refine lv_iinc (v := (x2 + 1)) (lv' := [(2, .int (x2 + 1)), (1, .int r45.1), (0, .ref (a 0))]) hx hb dX8_stows_85 hl (k := 2) rfl rfl (by decide) rfl (fun ls hl => ?_)
          refine lv_goto (tgt := 4) hx hb dX8_stows_88 (by decide) ?_
          exact ih _ _ _ _ _ _ _ _ hw45 (lv_sub hl [2, 1, 0] rfl) h
        · replace h := br_f' h c50
          refine lv_aload_n hx hb dX8_stows_53 rfl (lv_at hl 1 rfl) ?_
          refine lv_aload_n hx hb dX8_stows_54 rfl (lv_at hl 1 rfl) ?_
          refine k_get C inT_X8 hw45 0 rfl rfl 12 (by decide) mF_X8_25 rfl dX8_stows_55 ?_
          refine lv_iconst (v := 3) hx hb dX8_stows_58 (by decide) ?_
          refine lv_iload_n hx hb dX8_stows_59 rfl (lv_at hl 2 rfl) ?_
          refine lv_imul hx hb dX8_stows_60 ?_
          obtain ⟨y61, q61, h⟩ := bd h
          refine k_iald C hw45 3 rfl q61 dX8_stows_61 ?_
          refine lv_aload_n hx hb dX8_stows_62 rfl (lv_at hl 1 rfl) ?_
          refine k_get C inT_X8 hw45 0 rfl rfl 12 (by decide) mF_X8_25 rfl dX8_stows_63 ?_
          refine lv_iconst (v := 3) hx hb dX8_stows_66 (by decide) ?_
          refine lv_iload_n hx hb dX8_stows_67 rfl (lv_at hl 2 rfl) ?_
          refine lv_imul hx hb dX8_stows_68 ?_
          refine lv_iconst (v := 1) hx hb dX8_stows_69 (by decide) ?_
          refine lv_iadd hx hb dX8_stows_70 ?_
          obtain ⟨y71, q71, h⟩ := bd h
          refine k_iald C hw45 3 rfl q71 dX8_stows_71 ?_
          refine lv_aload_n hx hb dX8_stows_72 rfl (lv_at hl 1 rfl) ?_
          refine k_get C inT_X8 hw45 0 rfl rfl 12 (by decide) mF_X8_25 rfl dX8_stows_73 ?_
          refine lv_iconst (v := 3) hx hb dX8_stows_76 (by decide) ?_
          refine lv_iload_n hx hb dX8_stows_77 rfl (lv_at hl 2 rfl) ?_
          refine lv_imul hx hb dX8_stows_78 ?_
          refine lv_iconst (v := 2) hx hb dX8_stows_79 (by decide) ?_
          refine lv_iadd hx hb dX8_stows_80 ?_
          obtain ⟨y81, q81, h⟩ := bd h
          refine k_iald C hw45 3 rfl q81 dX8_stows_81 ?_
          obtain ⟨r82, q82, h⟩ := bd h
          refine k_callV (nC := 4) [oX8 a g_undos g_listed g_papers g_length r45.2.2 g_gapFirst g_gapLast g_layings g_first g_behind g_clauses g_drafts, ar cI (a 1) 5058 r82, ar cI (a 9) 132 r45.2.1, ar cI (a 13) 192 g_laying] C hl.1 (tX8_moves (a := a) q82) mL_X8_219 mmX8_moves rfl rfl ⟨Nat.le_of_ble_eq_true rfl, Nat.le_of_ble_eq_true rfl⟩ rfl rfl rfl rfl (Nat.le_of_ble_eq_true rfl) hA hw45 [0, 1, 2] [3] rfl (by decide +kernel) rfl rfl rfl rfl dX8_stows_82 (fun H locs hw82 => ?_)
          refine lv_iinc (v := (x2 + 1)) (lv' := [(2, .int (x2 + 1)), (1, .int r45.1), (0, .ref (a 0))]) hx hb dX8_stows_85 hl (k := 2) rfl rfl (by decide) rfl (fun ls hl => ?_)
          refine lv_goto (tgt := 4) hx hb dX8_stows_88 (by decide) ?_
          exact ih _ _ _ _ _ _ _ _ hw82 (lv_sub hl [2, 1, 0] rfl) h
def fX8_stows (g_row : Nat → Int32) (g_beside : Nat → Int32) (g_besides : Int32) (g_laying : Nat → Int32) (g_layings : Int32) : Option (Int32 × (Nat → Int32) × (Nat → Int32) × Int32) :=
  fX8_stows_4 g_laying g_layings FU (fun x1_4 x2_4 g_row_4 g_beside_4 g_besides_4 =>
    (bz x1_4).bind fun b92 =>
    some (b92, g_row_4, g_beside_4, g_besides_4)) 1 0 g_row g_beside g_besides
set_option maxRecDepth 100000 in
set_option maxHeartbeats 4000000 in
theorem tX8_stows {l : Launch} {D : va_G} {cI : ClassId} {cS : GS} {a : Nat → Nat} {g_row : Nat → Int32} {g_undos : Int32} {g_listed : Int32} {g_papers : Int32} {g_length : Int32} {g_beside : Nat → Int32} {g_besides : Int32} {g_gapFirst : Int32} {g_gapLast : Int32} {g_laying : Nat → Int32} {g_layings : Int32} {g_first : Int32} {g_behind : Int32} {g_clauses : Int32} {g_drafts : Int32}  {s0 : Int32} {s1 : (Nat → Int32)} {s2 : (Nat → Int32)} {s3 : Int32} (h : fX8_stows g_row g_beside g_besides g_laying g_layings = some (s0, s1, s2, s3)) : CT l D cI cS yX8_stows cX8_stows 3 (some .boolean) rmX8_stows [.ref (a 0)] [oX8 a g_undos g_listed g_papers g_length g_besides g_gapFirst g_gapLast g_layings g_first g_behind g_clauses g_drafts, ar cI (a 1) 5058 g_row, ar cI (a 9) 132 g_beside, ar cI (a 13) 192 g_laying] (some (.int s0)) [oX8 a g_undos g_listed g_papers g_length s3 g_gapFirst g_gapLast g_layings g_first g_behind g_clauses g_drafts, ar cI (a 1) 5058 s1, ar cI (a 9) 132 s2, ar cI (a 13) 192 g_laying] := by
  refine CT.of RX8 (by decide) rfl (Nat.le_of_ble_eq_true rfl) (fun p e s m below meth c ls A C hA hl hw => ?_)
  have hx := C.1.1
  have hb := C.1.2.1
  have hl : lv_has ls 3 [(0, .ref (a 0))] := hl
  unfold fX8_stows at h
  refine lv_iconst (v := 1) hx hb dX8_stows_0 (by decide) ?_
  refine lv_istore_n (lv' := [(1, .int 1), (0, .ref (a 0))]) hx hb dX8_stows_1 rfl hl (by decide) rfl (fun ls hl => ?_)
  refine lv_iconst (v := 0) hx hb dX8_stows_2 (by decide) ?_
  refine lv_istore_n (lv' := [(2, .int 0), (1, .int 1), (0, .ref (a 0))]) hx hb dX8_stows_3 rfl hl (by decide) rfl (fun ls hl => ?_)
  refine wX8_stows_4 C hA _ (fun x1_4 x2_4 g_row_4 g_beside_4 g_besides_4 H locs ls hw4x hl h => ?_) FU _ _ _ _ _ _ _ _ hw (lv_sub hl [2, 1, 0] rfl) h
  refine lv_iload_n hx hb dX8_stows_91 rfl (lv_at hl 1 rfl) ?_
  obtain ⟨b92, q92, h⟩ := bd h
  cases h
  exact k_zretb C q92 hw4x dX8_stows_92
def rmX8_stow : Room := { frames := 5, cells := 0, slots := 0, locals := 117 }
def fX8_stow (g_row : Nat → Int32) (g_undos : Int32) (g_beside : Nat → Int32) (g_besides : Int32) (g_gapFirst : Int32) (g_gapLast : Int32) (g_laying : Nat → Int32) (g_layings : Int32) (g_free : Nat → Int32) (g_saved : Nat → Int32) (x1 : Int32) : Option (Int32 × (Nat → Int32) × Int32 × (Nat → Int32) × Int32 × Int32 × Int32 × (Nat → Int32) × Int32 × (Nat → Int32) × (Nat → Int32)) :=
  (fX8_isSeries g_row x1).bind fun r2 =>
  if r2 = 0 then
    some ((-2), g_row, g_undos, g_beside, g_besides, g_gapFirst, g_gapLast, g_laying, g_layings, g_free, g_saved)
  else
    (fX8_plans g_row g_gapFirst g_gapLast g_laying g_layings g_free x1).bind fun r13 =>
    (fX8_copyRow 5058 562 g_row g_saved).bind fun r24 =>
    (fX8_stows g_row g_beside g_besides r13.2.2.1 r13.2.2.2.1).bind fun r28 =>
    (fX8_copyRow 562 5058 r24 r28.2.1).bind fun r40 =>
    if r28.1 = 0 then
      some ((-5), r40, g_undos, r28.2.2.1, r28.2.2.2, r13.1, r13.2.1, r13.2.2.1, r13.2.2.2.1, r13.2.2.2.2, r24)
    else
      (fX8_keepPast r40 g_undos).bind fun r51 =>
      (fX8_stows r51.1 r28.2.2.1 r28.2.2.2 r13.2.2.1 r13.2.2.2.1).bind fun r55 =>
      some (r13.2.2.2.1, r55.2.1, r51.2, r55.2.2.1, r55.2.2.2, r13.1, r13.2.1, r13.2.2.1, r13.2.2.2.1, r13.2.2.2.2, r24)
set_option maxRecDepth 100000 in
set_option maxHeartbeats 4000000 in
theorem tX8_stow {l : Launch} {D : va_G} {cI : ClassId} {cS : GS} {a : Nat → Nat} {g_row : Nat → Int32} {g_undos : Int32} {g_listed : Int32} {g_papers : Int32} {g_length : Int32} {g_beside : Nat → Int32} {g_besides : Int32} {g_gapFirst : Int32} {g_gapLast : Int32} {g_laying : Nat → Int32} {g_layings : Int32} {g_free : Nat → Int32} {g_first : Int32} {g_behind : Int32} {g_clauses : Int32} {g_saved : Nat → Int32} {g_drafts : Int32} {x1 : Int32} {s0 : Int32} {s1 : (Nat → Int32)} {s2 : Int32} {s3 : (Nat → Int32)} {s4 : Int32} {s5 : Int32} {s6 : Int32} {s7 : (Nat → Int32)} {s8 : Int32} {s9 : (Nat → Int32)} {s10 : (Nat → Int32)} (h : fX8_stow g_row g_undos g_beside g_besides g_gapFirst g_gapLast g_laying g_layings g_free g_saved x1 = some (s0, s1, s2, s3, s4, s5, s6, s7, s8, s9, s10)) : CT l D cI cS yX8_stow cX8_stow 3 (some .int) rmX8_stow [.ref (a 0), .int x1] [oX8 a g_undos g_listed g_papers g_length g_besides g_gapFirst g_gapLast g_layings g_first g_behind g_clauses g_drafts, ar cI (a 1) 5058 g_row, ar cI (a 9) 132 g_beside, ar cI (a 13) 192 g_laying, ar cI (a 15) 8 g_free, ar cI (a 23) 562 g_saved] (some (.int s0)) [oX8 a s2 g_listed g_papers g_length s4 s5 s6 s8 g_first g_behind g_clauses g_drafts, ar cI (a 1) 5058 s1, ar cI (a 9) 132 s3, ar cI (a 13) 192 s7, ar cI (a 15) 8 s9, ar cI (a 23) 562 s10] := by
  refine CT.of RX8 (by decide) rfl (Nat.le_of_ble_eq_true rfl) (fun p e s m below meth c ls A C hA hl hw => ?_)
  have hx := C.1.1
  have hb := C.1.2.1
  have hl : lv_has ls 3 [(0, .ref (a 0)), (1, .int x1)] := hl
  unfold fX8_stow at h
  refine lv_aload_n hx hb dX8_stow_0 rfl (lv_at hl 0 rfl) ?_
  refine lv_iload_n hx hb dX8_stow_1 rfl (lv_at hl 1 rfl) ?_
  obtain ⟨r2, q2, h⟩ := bd h
  refine k_callV (nC := 6) [oX8 a g_undos g_listed g_papers g_length g_besides g_gapFirst g_gapLast g_layings g_first g_behind g_clauses g_drafts, ar cI (a 1) 5058 g_row, ar cI (a 9) 132 g_beside, ar cI (a 13) 192 g_laying, ar cI (a 15) 8 g_free, ar cI (a 23) 562 g_saved] C hl.1 (tX8_isSeries (a := a) q2) mL_X8_200 mmX8_isSeries rfl rfl ⟨Nat.le_of_ble_eq_true rfl, Nat.le_of_ble_eq_true rfl⟩ rfl rfl rfl rfl (Nat.le_of_ble_eq_true rfl) hA hw [0, 1] [2, 3, 4, 5] rfl (by decide +kernel) rfl rfl rfl rfl dX8_stow_2 (fun H locs hw2 => ?_)
  refine lv_if_ne (tgt := 11) hx hb dX8_stow_5 (by decide) (fun c5 => ?_) (fun c5 => ?_)
  · replace h := br_f' h c5
    refine lv_aload_n hx hb dX8_stow_11 rfl (lv_at hl 0 rfl) ?_
    refine lv_iload_n hx hb dX8_stow_12 rfl (lv_at hl 1 rfl) ?_
    obtain ⟨r13, q13, h⟩ := bd h
    refine k_callV (nC := 6) [oX8 a g_undos g_listed g_papers g_length g_besides r13.1 r13.2.1 r13.2.2.2.1 g_first g_behind g_clauses g_drafts, ar cI (a 1) 5058 g_row, ar cI (a 9) 132 g_beside, ar cI (a 13) 192 r13.2.2.1, ar cI (a 15) 8 r13.2.2.2.2, ar cI (a 23) 562 g_saved] C hl.1 (tX8_plans (a := a) q13) mL_X8_225 mmX8_plans rfl rfl ⟨Nat.le_of_ble_eq_true rfl, Nat.le_of_ble_eq_true rfl⟩ rfl rfl rfl rfl (Nat.le_of_ble_eq_true rfl) hA hw2 [0, 1, 3, 4] [2, 5] rfl (by decide +kernel) rfl rfl rfl rfl dX8_stow_13 (fun H locs hw13 => ?_)
    refine lv_aload_n hx hb dX8_stow_16 rfl (lv_at hl 0 rfl) ?_
    refine k_get C inT_X8 hw13 0 rfl rfl 0 (by decide) mF_X8_7 rfl dX8_stow_17 ?_
    refine lv_aload_n hx hb dX8_stow_20 rfl (lv_at hl 0 rfl) ?_
    refine k_get C inT_X8 hw13 0 rfl rfl 22 (by decide) mF_X8_43 rfl dX8_stow_21 ?_
    obtain ⟨r24, q24, h⟩ := bd h
    refine k_callS (nC := 6) [oX8 a g_undos g_listed g_papers g_length g_besides r13.1 r13.2.1 r13.2.2.2.1 g_first g_behind g_clauses g_drafts, ar cI (a 1) 5058 g_row, ar cI (a 9) 132 g_beside, ar cI (a 13) 192 r13.2.2.1, ar cI (a 15) 8 r13.2.2.2.2, ar cI (a 23) 562 r24] C hl.1 (tX8_copyRow (a_p1 := fun _ => a 1) (a_p2 := fun _ => a 23) q24) mL_X8_228 mmX8_copyRow rfl rfl ⟨Nat.le_of_ble_eq_true rfl, Nat.le_of_ble_eq_true rfl⟩ rfl rfl (Nat.le_of_ble_eq_true rfl) hA hw13 [1, 5] [0, 2, 3, 4] rfl (by decide +kernel) rfl rfl rfl rfl dX8_stow_24 (fun H locs hw24 => ?_)
    refine lv_aload_n hx hb dX8_stow_27 rfl (lv_at hl 0 rfl) ?_
    obtain ⟨r28, q28, h⟩ := bd h
    refine k_callV (nC := 6) [oX8 a g_undos g_listed g_papers g_length r28.2.2.2 r13.1 r13.2.1 r13.2.2.2.1 g_first g_behind g_clauses g_drafts, ar cI (a 1) 5058 r28.2.1, ar cI (a 9) 132 r28.2.2.1, ar cI (a 13) 192 r13.2.2.1, ar cI (a 15) 8 r13.2.2.2.2, ar cI (a 23) 562 r24] C hl.1 (tX8_stows (a := a) q28) mL_X8_232 mmX8_stows rfl rfl ⟨Nat.le_of_ble_eq_true rfl, Nat.le_of_ble_eq_true rfl⟩ rfl rfl rfl rfl (Nat.le_of_ble_eq_true rfl) hA hw24 [0, 1, 2, 3] [4, 5] rfl (by decide +kernel) rfl rfl rfl rfl dX8_stow_28 (fun H locs hw28 => ?_)
    refine lv_istore_n (lv' := [(2, .int r28.1), (0, .ref (a 0)), (1, .int x1)]) hx hb dX8_stow_31 rfl hl (by decide) rfl (fun ls hl => ?_)
    refine lv_aload_n hx hb dX8_stow_32 rfl (lv_at hl 1 rfl) ?_
    refine k_get C inT_X8 hw28 0 rfl rfl 22 (by decide) mF_X8_43 rfl dX8_stow_33 ?_
    refine lv_aload_n hx hb dX8_stow_36 rfl (lv_at hl 1 rfl) ?_
    refine k_get C inT_X8 hw28 0 rfl rfl 0 (by decide) mF_X8_7 rfl dX8_stow_37 ?_
    obtain ⟨r40, q40, h⟩ := bd h
    refine k_callS (nC := 6) [oX8 a g_undos g_listed g_papers g_length r28.2.2.2 r13.1 r13.2.1 r13.2.2.2.1 g_first g_behind g_clauses g_drafts, ar cI (a 1) 5058 r40, ar cI (a 9) 132 r28.2.2.1, ar cI (a 13) 192 r13.2.2.1, ar cI (a 15) 8 r13.2.2.2.2, ar cI (a 23) 562 r24] C hl.1 (tX8_copyRow (a_p1 := fun _ => a 23) (a_p2 := fun _ => a 1) q40) mL_X8_228 mmX8_copyRow rfl rfl ⟨Nat.le_of_ble_eq_true rfl, Nat.le_of_ble_eq_true rfl⟩ rfl rfl (Nat.le_of_ble_eq_true rfl) hA hw28 [5, 1] [0, 2, 3, 4] rfl (by decide +kernel) rfl rfl rfl rfl dX8_stow_40 (fun H locs hw40 => ?_)
    refine lv_iload_n hx hb dX8_stow_43 rfl (lv_at hl 0 rfl) ?_
    refine lv_if_ne (tgt := 50) hx hb dX8_stow_44 (by decide) (fun c44 => ?_) (fun c44 => ?_)
    · replace h := br_f' h c44
      refine lv_aload_n hx hb dX8_stow_50 rfl (lv_at hl 1 rfl) ?_
      obtain ⟨r51, q51, h⟩ := bd h
      refine k_callV (nC := 6) [oX8 a r51.2 g_listed g_papers g_length r28.2.2.2 r13.1 r13.2.1 r13.2.2.2.1 g_first g_behind g_clauses g_drafts, ar cI (a 1) 5058 r51.1, ar cI (a 9) 132 r28.2.2.1, ar cI (a 13) 192 r13.2.2.1, ar cI (a 15) 8 r13.2.2.2.2, ar cI (a 23) 562 r24] C hl.1 (tX8_keepPast (a := a) q51) mL_X8_209 mmX8_keepPast rfl rfl ⟨Nat.le_of_ble_eq_true rfl, Nat.le_of_ble_eq_true rfl⟩ rfl rfl rfl rfl (Nat.le_of_ble_eq_true rfl) hA hw40 [0, 1] [2, 3, 4, 5] rfl (by decide +kernel) rfl rfl rfl rfl dX8_stow_51 (fun H locs hw51 => ?_)
      refine lv_aload_n hx hb dX8_stow_54 rfl (lv_at hl 1 rfl) ?_
      obtain ⟨r55, q55, h⟩ := bd h
      refine k_callV (nC := 6) [oX8 a r51.2 g_listed g_papers g_length r55.2.2.2 r13.1 r13.2.1 r13.2.2.2.1 g_first g_behind g_clauses g_drafts, ar cI (a 1) 5058 r55.2.1, ar cI (a 9) 132 r55.2.2.1, ar cI (a 13) 192 r13.2.2.1, ar cI (a 15) 8 r13.2.2.2.2, ar cI (a 23) 562 r24] C hl.1 (tX8_stows (a := a) q55) mL_X8_232 mmX8_stows rfl rfl ⟨Nat.le_of_ble_eq_true rfl, Nat.le_of_ble_eq_true rfl⟩ rfl rfl rfl rfl (Nat.le_of_ble_eq_true rfl) hA hw51 [0, 1, 2, 3] [4, 5] rfl (by decide +kernel) rfl rfl rfl rfl dX8_stow_55 (fun H locs hw55 => ?_)
      refine lv_pop hx hb dX8_stow_58 rfl ?_
      refine lv_aload_n hx hb dX8_stow_59 rfl (lv_at hl 1 rfl) ?_
      refine k_get C inT_X8 hw55 0 rfl rfl 13 (by decide) mF_X8_116 rfl dX8_stow_60 ?_
      cases h
      exact k_iret C hw55 dX8_stow_63
    · replace h := br_t' h c44
      refine lv_bipush (v := (-5)) hx hb dX8_stow_47 (by decide) ?_
      cases h
      exact k_iret C hw40 dX8_stow_49
  · replace h := br_t' h c5
    refine lv_bipush (v := (-2)) hx hb dX8_stow_8 (by decide) ?_
    cases h
    exact k_iret C hw2 dX8_stow_10
def rmX8_pass : Room := { frames := 1, cells := 0, slots := 0, locals := 25 }
def fX8_pass (g_row : Nat → Int32) (g_undos : Int32) (x1 : Int32) : Option (Int32 × (Nat → Int32) × Int32) :=
  (fX8_in x1.toInt64 1 999).bind fun r6 =>
  if r6 = 0 then
    some ((-3), g_row, g_undos)
  else
    (fX8_keepPast g_row g_undos).bind fun r16 =>
    (ld 5058 r16.1 3).bind fun y25 =>
    (sv 5058 r16.1 3 (y25 + x1)).bind fun g28 =>
    (ld 5058 g28 3).bind fun y34 =>
    some (y34, g28, r16.2)
set_option maxRecDepth 100000 in
set_option maxHeartbeats 4000000 in
theorem tX8_pass {l : Launch} {D : va_G} {cI : ClassId} {cS : GS} {a : Nat → Nat} {g_row : Nat → Int32} {g_undos : Int32} {g_listed : Int32} {g_papers : Int32} {g_length : Int32} {g_besides : Int32} {g_gapFirst : Int32} {g_gapLast : Int32} {g_layings : Int32} {g_first : Int32} {g_behind : Int32} {g_clauses : Int32} {g_drafts : Int32} {x1 : Int32} {s0 : Int32} {s1 : (Nat → Int32)} {s2 : Int32} (h : fX8_pass g_row g_undos x1 = some (s0, s1, s2)) : CT l D cI cS yX8_pass cX8_pass 2 (some .int) rmX8_pass [.ref (a 0), .int x1] [oX8 a g_undos g_listed g_papers g_length g_besides g_gapFirst g_gapLast g_layings g_first g_behind g_clauses g_drafts, ar cI (a 1) 5058 g_row] (some (.int s0)) [oX8 a s2 g_listed g_papers g_length g_besides g_gapFirst g_gapLast g_layings g_first g_behind g_clauses g_drafts, ar cI (a 1) 5058 s1] := by
  refine CT.of RX8 (by decide) rfl (Nat.le_of_ble_eq_true rfl) (fun p e s m below meth c ls A C hA hl hw => ?_)
  have hx := C.1.1
  have hb := C.1.2.1
  have hl : lv_has ls 2 [(0, .ref (a 0)), (1, .int x1)] := hl
  unfold fX8_pass at h
  refine lv_iload_n hx hb dX8_pass_0 rfl (lv_at hl 1 rfl) ?_
  refine lv_i2l (v := x1.toInt64) hx hb dX8_pass_1 rfl ?_
  refine lv_lconst (v := 1) hx hb dX8_pass_2 (by decide) ?_
  refine k_ldc2 C mD_X8_155 dX8_pass_3 ?_
  obtain ⟨r6, q6, h⟩ := bd h
  refine k_callS (nC := 2) [oX8 a g_undos g_listed g_papers g_length g_besides g_gapFirst g_gapLast g_layings g_first g_behind g_clauses g_drafts, ar cI (a 1) 5058 g_row] C hl.1 (tX8_in q6) mL_X8_58 mmX8_in rfl rfl ⟨Nat.le_of_ble_eq_true rfl, Nat.le_of_ble_eq_true rfl⟩ rfl rfl (Nat.le_of_ble_eq_true rfl) hA hw [] [0, 1] rfl (by decide +kernel) rfl rfl rfl rfl dX8_pass_6 (fun H locs hw6 => ?_)
  refine lv_if_ne (tgt := 15) hx hb dX8_pass_9 (by decide) (fun c9 => ?_) (fun c9 => ?_)
  · replace h := br_f' h c9
    refine lv_aload_n hx hb dX8_pass_15 rfl (lv_at hl 0 rfl) ?_
    obtain ⟨r16, q16, h⟩ := bd h
    refine k_callV (nC := 2) [oX8 a r16.2 g_listed g_papers g_length g_besides g_gapFirst g_gapLast g_layings g_first g_behind g_clauses g_drafts, ar cI (a 1) 5058 r16.1] C hl.1 (tX8_keepPast (a := a) q16) mL_X8_209 mmX8_keepPast rfl rfl ⟨Nat.le_of_ble_eq_true rfl, Nat.le_of_ble_eq_true rfl⟩ rfl rfl rfl rfl (Nat.le_of_ble_eq_true rfl) hA hw6 [0, 1] [] rfl (by decide +kernel) rfl rfl rfl rfl dX8_pass_16 (fun H locs hw16 => ?_)
    refine lv_aload_n hx hb dX8_pass_19 rfl (lv_at hl 0 rfl) ?_
    refine k_get C inT_X8 hw16 0 rfl rfl 0 (by decide) mF_X8_7 rfl dX8_pass_20 ?_
    refine lv_iconst (v := 3) hx hb dX8_pass_23 (by decide) ?_
    refine lv_dup2_11 hx hb dX8_pass_24 rfl rfl ?_
    obtain ⟨y25, q25, h⟩ := bd h
    refine k_iald C hw16 1 rfl q25 dX8_pass_25 ?_
    refine lv_iload_n hx hb dX8_pass_26 rfl (lv_at hl 1 rfl) ?_
    refine lv_iadd hx hb dX8_pass_27 ?_
    obtain ⟨g28, q28, h⟩ := bd h
    refine k_iast C hw16 1 rfl q28 [oX8 a r16.2 g_listed g_papers g_length g_besides g_gapFirst g_gapLast g_layings g_first g_behind g_clauses g_drafts, ar cI (a 1) 5058 g28] rfl dX8_pass_28 (fun H locs hw28 => ?_)
    refine lv_aload_n hx hb dX8_pass_29 rfl (lv_at hl 0 rfl) ?_
    refine k_get C inT_X8 hw28 0 rfl rfl 0 (by decide) mF_X8_7 rfl dX8_pass_30 ?_
    refine lv_iconst (v := 3) hx hb dX8_pass_33 (by decide) ?_
    obtain ⟨y34, q34, h⟩ := bd h
    refine k_iald C hw28 1 rfl q34 dX8_pass_34 ?_
    cases h
    exact k_iret C hw28 dX8_pass_35
  · replace h := br_t' h c9
    refine lv_bipush (v := (-3)) hx hb dX8_pass_12 (by decide) ?_
    cases h
    exact k_iret C hw6 dX8_pass_14
def rmX8_undo : Room := { frames := 0, cells := 0, slots := 0, locals := 0 }
def fX8_undo_22 (g_undos : Int32) : (n : Nat) → (k : Int32 → (Nat → Int32) → Option (Int32 × (Nat → Int32) × Int32)) → Int32 → (Nat → Int32) → Option (Int32 × (Nat → Int32) × Int32)
  | 0, _, _, _ => none
  | n + 1, k, x1, g_row =>
    if 562 ≤ x1 then
      k x1 g_row
    else
      (ld 5058 g_row ((562 + (562 * g_undos)) + x1)).bind fun y52 =>
      (sv 5058 g_row x1 y52).bind fun g53 =>
      fX8_undo_22 g_undos n k (x1 + 1) g53
set_option maxRecDepth 100000 in
set_option maxHeartbeats 4000000 in
theorem wX8_undo_22 {p : Program} {l : Launch} {e : Env} {s : State} {m : MethodId} {args : Array Value} {below : List Frame} {meth : Method} {c : Code} {D : va_G} {cI : ClassId} {cS : GS} {A : Nat → Prop} {a : Nat → Nat} {g_undos : Int32} {g_listed : Int32} {g_papers : Int32} {g_length : Int32} {g_besides : Int32} {g_gapFirst : Int32} {g_gapLast : Int32} {g_layings : Int32} {g_first : Int32} {g_behind : Int32} {g_clauses : Int32} {g_drafts : Int32} (C : MC p s m args meth c D cI cS A RX8 cX8_undo 2 (some .int)) (hA : ∀ q, s.heap.size ≤ q → A q) {s0 : Int32} {s1 : (Nat → Int32)} {s2 : Int32} (k : Int32 → (Nat → Int32) → Option (Int32 × (Nat → Int32) × Int32)) (hk : ∀ (x1 : Int32) (g_row : Nat → Int32) (H : Heap) (locs : List Loc) (ls : Array Slot), Wd D A s.heap H locs [oX8 a g_undos g_listed g_papers g_length g_besides g_gapFirst g_gapLast g_layings g_first g_behind g_clauses g_drafts, ar cI (a 1) 5058 g_row] → lv_has ls 2 [(0, .ref (a 0)), (1, .int x1)] → k x1 g_row = some (s0, s1, s2) → W p l e rmX8_undo s m args below meth c H locs 0 0 (KQ D A below args s (some (.int s0)) [oX8 a s2 g_listed g_papers g_length g_besides g_gapFirst g_gapLast g_layings g_first g_behind g_clauses g_drafts, ar cI (a 1) 5058 s1]) (F0 m 60 ls [])) :
    ∀ (n : Nat) (x1 : Int32) (g_row : Nat → Int32) (H : Heap) (locs : List Loc) (ls : Array Slot), Wd D A s.heap H locs [oX8 a g_undos g_listed g_papers g_length g_besides g_gapFirst g_gapLast g_layings g_first g_behind g_clauses g_drafts, ar cI (a 1) 5058 g_row] → lv_has ls 2 [(0, .ref (a 0)), (1, .int x1)] → fX8_undo_22 g_undos n k x1 g_row = some (s0, s1, s2) → W p l e rmX8_undo s m args below meth c H locs 0 0 (KQ D A below args s (some (.int s0)) [oX8 a s2 g_listed g_papers g_length g_besides g_gapFirst g_gapLast g_layings g_first g_behind g_clauses g_drafts, ar cI (a 1) 5058 s1]) (F0 m 22 ls []) := by
  have hx := C.1.1
  have hb := C.1.2.1
  intro n
  induction n with
  | zero =>
    intro x1 g_row H locs ls hw hl h
    rw [fX8_undo_22] at h
    cases h
  | succ n ih =>
    intro x1 g_row H locs ls hw hl h
    rw [fX8_undo_22] at h
    refine lv_iload_n hx hb dX8_undo_22 rfl (lv_at hl 1 rfl) ?_
    refine lv_sipush (v := 562) hx hb dX8_undo_23 (by decide) ?_
    refine lv_icmp_ge (tgt := 60) hx hb dX8_undo_26 (by decide) (fun c26 => ?_) (fun c26 => ?_)
    · replace h := br_t' h c26
      exact hk _ _ _ _ _ hw (lv_sub hl [0, 1] rfl) h
    · replace h := br_f' h c26
      refine lv_aload_n hx hb dX8_undo_29 rfl (lv_at hl 0 rfl) ?_
      refine k_get C inT_X8 hw 0 rfl rfl 0 (by decide) mF_X8_7 rfl dX8_undo_30 ?_
      refine lv_iload_n hx hb dX8_undo_33 rfl (lv_at hl 1 rfl) ?_
      refine lv_aload_n hx hb dX8_undo_34 rfl (lv_at hl 0 rfl) ?_
      refine k_get C inT_X8 hw 0 rfl rfl 0 (by decide) mF_X8_7 rfl dX8_undo_35 ?_
      refine lv_sipush (v := 562) hx hb dX8_undo_38 (by decide) ?_
      refine lv_sipush (v := 562) hx hb dX8_undo_41 (by decide) ?_
      refine lv_aload_n hx hb dX8_undo_44 rfl (lv_at hl 0 rfl) ?_
      refine k_get C inT_X8 hw 0 rfl rfl 1 (by decide) mF_X8_197 rfl dX8_undo_45 ?_
      refine lv_imul hx hb dX8_undo_48 ?_
      refine lv_iadd hx hb dX8_undo_49 ?_
      refine lv_iload_n hx hb dX8_undo_50 rfl (lv_at hl 1 rfl) ?_
      refine lv_iadd hx hb dX8_undo_51 ?_
      obtain ⟨y52, q52, h⟩ := bd h
      refine k_iald C hw 1 rfl q52 dX8_undo_52 ?_
      obtain ⟨g53, q53, h⟩ := bd h
      refine k_iast C hw 1 rfl q53 [oX8 a g_undos g_listed g_papers g_length g_besides g_gapFirst g_gapLast g_layings g_first g_behind g_clauses g_drafts, ar cI (a 1) 5058 g53] rfl dX8_undo_53 (fun H locs hw53 => ?_)
      refine lv_iinc (v := (x1 + 1)) (lv' := [(1, .int (x1 + 1)), (0, .ref (a 0))]) hx hb dX8_undo_54 hl (k := 1) rfl rfl (by decide) rfl (fun ls hl => ?_)
      refine lv_goto (tgt := 22) hx hb dX8_undo_57 (by decide) ?_
      exact ih _ _ _ _ _ hw53 (lv_sub hl [1, 0] rfl) h
def fX8_undo (g_row : Nat → Int32) (g_undos : Int32) : Option (Int32 × (Nat → Int32) × Int32) :=
  if g_undos = 0 then
    some ((-4), g_row, g_undos)
  else
    fX8_undo_22 (g_undos - 1) FU (fun x1_22 g_row_22 =>
      some ((g_undos - 1), g_row_22, (g_undos - 1))) 0 g_row
set_option maxRecDepth 100000 in
set_option maxHeartbeats 4000000 in
theorem tX8_undo {l : Launch} {D : va_G} {cI : ClassId} {cS : GS} {a : Nat → Nat} {g_row : Nat → Int32} {g_undos : Int32} {g_listed : Int32} {g_papers : Int32} {g_length : Int32} {g_besides : Int32} {g_gapFirst : Int32} {g_gapLast : Int32} {g_layings : Int32} {g_first : Int32} {g_behind : Int32} {g_clauses : Int32} {g_drafts : Int32}  {s0 : Int32} {s1 : (Nat → Int32)} {s2 : Int32} (h : fX8_undo g_row g_undos = some (s0, s1, s2)) : CT l D cI cS yX8_undo cX8_undo 2 (some .int) rmX8_undo [.ref (a 0)] [oX8 a g_undos g_listed g_papers g_length g_besides g_gapFirst g_gapLast g_layings g_first g_behind g_clauses g_drafts, ar cI (a 1) 5058 g_row] (some (.int s0)) [oX8 a s2 g_listed g_papers g_length g_besides g_gapFirst g_gapLast g_layings g_first g_behind g_clauses g_drafts, ar cI (a 1) 5058 s1] := by
  refine CT.of RX8 (by decide) rfl (Nat.le_of_ble_eq_true rfl) (fun p e s m below meth c ls A C hA hl hw => ?_)
  have hx := C.1.1
  have hb := C.1.2.1
  have hl : lv_has ls 2 [(0, .ref (a 0))] := hl
  unfold fX8_undo at h
  refine lv_aload_n hx hb dX8_undo_0 rfl (lv_at hl 0 rfl) ?_
  refine k_get C inT_X8 hw 0 rfl rfl 1 (by decide) mF_X8_197 rfl dX8_undo_1 ?_
  refine lv_if_ne (tgt := 10) hx hb dX8_undo_4 (by decide) (fun c4 => ?_) (fun c4 => ?_)
  · replace h := br_f' h c4
    refine lv_aload_n hx hb dX8_undo_10 rfl (lv_at hl 0 rfl) ?_
    refine lv_dup hx hb dX8_undo_11 rfl ?_
    refine k_get C inT_X8 hw 0 rfl rfl 1 (by decide) mF_X8_197 rfl dX8_undo_12 ?_
    refine lv_iconst (v := 1) hx hb dX8_undo_15 (by decide) ?_
    refine lv_isub hx hb dX8_undo_16 ?_
    refine k_put C inT_X8 tyX8 tyX8_ok nmX8 hw 0 rfl rfl 1 (by decide) mF_X8_197 rfl rfl (Nat.le_of_ble_eq_true rfl) [oX8 a (g_undos - 1) g_listed g_papers g_length g_besides g_gapFirst g_gapLast g_layings g_first g_behind g_clauses g_drafts, ar cI (a 1) 5058 g_row] rfl dX8_undo_17 (fun H locs hw17 => ?_)
    refine lv_iconst (v := 0) hx hb dX8_undo_20 (by decide) ?_
    refine lv_istore_n (lv' := [(1, .int 0), (0, .ref (a 0))]) hx hb dX8_undo_21 rfl hl (by decide) rfl (fun ls hl => ?_)
    refine wX8_undo_22 C hA _ (fun x1_22 g_row_22 H locs ls hw22x hl h => ?_) FU _ _ _ _ _ hw17 (lv_sub hl [1, 0] rfl) h
    refine lv_aload_n hx hb dX8_undo_60 rfl (lv_at hl 0 rfl) ?_
    refine k_get C inT_X8 hw22x 0 rfl rfl 1 (by decide) mF_X8_197 rfl dX8_undo_61 ?_
    cases h
    exact k_iret C hw22x dX8_undo_64
  · replace h := br_t' h c4
    refine lv_bipush (v := (-4)) hx hb dX8_undo_7 (by decide) ?_
    cases h
    exact k_iret C hw dX8_undo_9
def rmX8_children : Room := { frames := 1, cells := 0, slots := 0, locals := 21 }
def fX8_children_4 (g_row : Nat → Int32) (x1 : Int32) : (n : Nat) → (k : Int32 → Int32 → Option (Int32)) → Int32 → Int32 → Option (Int32)
  | 0, _, _, _ => none
  | n + 1, k, x2, x3 =>
    (ld 5058 g_row 0).bind fun y10 =>
    if y10 ≤ x3 then
      k x2 x3
    else
      (fX8_parent g_row x3).bind fun r17 =>
      if r17 = x1 then
        fX8_children_4 g_row x1 n k (x2 ||| (1 <<< (x3 &&& 31))) (x3 + 1)
      else
        fX8_children_4 g_row x1 n k (x2 ||| 0) (x3 + 1)
set_option maxRecDepth 100000 in
set_option maxHeartbeats 4000000 in
theorem wX8_children_4 {p : Program} {l : Launch} {e : Env} {s : State} {m : MethodId} {args : Array Value} {below : List Frame} {meth : Method} {c : Code} {D : va_G} {cI : ClassId} {cS : GS} {A : Nat → Prop} {a : Nat → Nat} {g_row : Nat → Int32} {g_undos : Int32} {g_listed : Int32} {g_papers : Int32} {g_length : Int32} {g_besides : Int32} {g_gapFirst : Int32} {g_gapLast : Int32} {g_layings : Int32} {g_first : Int32} {g_behind : Int32} {g_clauses : Int32} {g_drafts : Int32} {x1 : Int32} (C : MC p s m args meth c D cI cS A RX8 cX8_children 4 (some .int)) (hA : ∀ q, s.heap.size ≤ q → A q) {s0 : Int32} (k : Int32 → Int32 → Option (Int32)) (hk : ∀ (x2 : Int32) (x3 : Int32) (H : Heap) (locs : List Loc) (ls : Array Slot), Wd D A s.heap H locs [oX8 a g_undos g_listed g_papers g_length g_besides g_gapFirst g_gapLast g_layings g_first g_behind g_clauses g_drafts, ar cI (a 1) 5058 g_row] → lv_has ls 4 [(0, .ref (a 0)), (1, .int x1), (2, .int x2), (3, .int x3)] → k x2 x3 = some s0 → W p l e rmX8_children s m args below meth c H locs 0 0 (KQ D A below args s (some (.int s0)) [oX8 a g_undos g_listed g_papers g_length g_besides g_gapFirst g_gapLast g_layings g_first g_behind g_clauses g_drafts, ar cI (a 1) 5058 g_row]) (F0 m 39 ls [])) :
    ∀ (n : Nat) (x2 : Int32) (x3 : Int32) (H : Heap) (locs : List Loc) (ls : Array Slot), Wd D A s.heap H locs [oX8 a g_undos g_listed g_papers g_length g_besides g_gapFirst g_gapLast g_layings g_first g_behind g_clauses g_drafts, ar cI (a 1) 5058 g_row] → lv_has ls 4 [(0, .ref (a 0)), (1, .int x1), (2, .int x2), (3, .int x3)] → fX8_children_4 g_row x1 n k x2 x3 = some s0 → W p l e rmX8_children s m args below meth c H locs 0 0 (KQ D A below args s (some (.int s0)) [oX8 a g_undos g_listed g_papers g_length g_besides g_gapFirst g_gapLast g_layings g_first g_behind g_clauses g_drafts, ar cI (a 1) 5058 g_row]) (F0 m 4 ls []) := by
  have hx := C.1.1
  have hb := C.1.2.1
  intro n
  induction n with
  | zero =>
    intro x2 x3 H locs ls hw hl h
    rw [fX8_children_4] at h
    cases h
  | succ n ih =>
    intro x2 x3 H locs ls hw hl h
    rw [fX8_children_4] at h
    refine lv_iload_n hx hb dX8_children_4 rfl (lv_at hl 3 rfl) ?_
    refine lv_aload_n hx hb dX8_children_5 rfl (lv_at hl 0 rfl) ?_
    refine k_get C inT_X8 hw 0 rfl rfl 0 (by decide) mF_X8_7 rfl dX8_children_6 ?_
    refine lv_iconst (v := 0) hx hb dX8_children_9 (by decide) ?_
    obtain ⟨y10, q10, h⟩ := bd h
    refine k_iald C hw 1 rfl q10 dX8_children_10 ?_
    refine lv_icmp_ge (tgt := 39) hx hb dX8_children_11 (by decide) (fun c11 => ?_) (fun c11 => ?_)
    · replace h := br_t' h c11
      exact hk _ _ _ _ _ hw (lv_sub hl [0, 1, 2, 3] rfl) h
    · replace h := br_f' h c11
      refine lv_iload_n hx hb dX8_children_14 rfl (lv_at hl 2 rfl) ?_
      refine lv_aload_n hx hb dX8_children_15 rfl (lv_at hl 0 rfl) ?_
      refine lv_iload_n hx hb dX8_children_16 rfl (lv_at hl 3 rfl) ?_
      obtain ⟨r17, q17, h⟩ := bd h
      refine k_callV (nC := 2) [oX8 a g_undos g_listed g_papers g_length g_besides g_gapFirst g_gapLast g_layings g_first g_behind g_clauses g_drafts, ar cI (a 1) 5058 g_row] C hl.1 (tX8_parent (a := a) q17) mL_X8_100 mmX8_parent rfl rfl ⟨Nat.le_of_ble_eq_true rfl, Nat.le_of_ble_eq_true rfl⟩ rfl rfl rfl rfl (Nat.le_of_ble_eq_true rfl) hA hw [0, 1] [] rfl (by decide +kernel) rfl rfl rfl rfl dX8_children_17 (fun H locs hw17 => ?_)
      refine lv_iload_n hx hb dX8_children_20 rfl (lv_at hl 1 rfl) ?_
      refine lv_icmp_ne (tgt := 30) hx hb dX8_children_21 (by decide) (fun c21 => ?_) (fun c21 => ?_)
      · replace h := br_f' h c21
        refine lv_iconst (v := 0) hx hb dX8_children_30 (by decide) ?_
        refine lv_ior hx hb dX8_children_31 ?_
        refine lv_istore_n (lv' := [(2, .int (x2 ||| 0)), (0, .ref (a 0)), (1, .int x1), (3, .int x3)]) hx hb dX8_children_32 rfl hl (by decide) rfl (fun ls hl => ?_)
        refine lv_iinc (v := (x3 + 1)) (lv' := [(3, .int (x3 + 1)), (2, .int (x2 ||| 0)), (0, .ref (a 0)), (1, .int x1)]) hx hb dX8_children_33 hl (k := 3) rfl rfl (by decide) rfl (fun ls hl => ?_)
        refine lv_goto (tgt := 4) hx hb dX8_children_36 (by decide) ?_
        exact ih _ _ _ _ _ hw17 (lv_sub hl [2, 3, 1, 0] rfl) h
      · replace h := br_t' h c21
        refine lv_iconst (v := 1) hx hb dX8_children_24 (by decide) ?_
        refine lv_iload_n hx hb dX8_children_25 rfl (lv_at hl 3 rfl) ?_
        refine lv_ishl hx hb dX8_children_26 ?_
        refine lv_goto (tgt := 31) hx hb dX8_children_27 (by decide) ?_
        refine lv_ior hx hb dX8_children_31 ?_
        refine lv_istore_n (lv' := [(2, .int (x2 ||| (1 <<< (x3 &&& 31)))), (0, .ref (a 0)), (1, .int x1), (3, .int x3)]) hx hb dX8_children_32 rfl hl (by decide) rfl (fun ls hl => ?_)
        refine lv_iinc (v := (x3 + 1)) (lv' := [(3, .int (x3 + 1)), (2, .int (x2 ||| (1 <<< (x3 &&& 31)))), (0, .ref (a 0)), (1, .int x1)]) hx hb dX8_children_33 hl (k := 3) rfl rfl (by decide) rfl (fun ls hl => ?_)
        refine lv_goto (tgt := 4) hx hb dX8_children_36 (by decide) ?_
        exact ih _ _ _ _ _ hw17 (lv_sub hl [2, 3, 1, 0] rfl) h
def fX8_children (g_row : Nat → Int32) (x1 : Int32) : Option (Int32) :=
  fX8_children_4 g_row x1 FU (fun x2_4 x3_4 =>
    some x2_4) 0 0
set_option maxRecDepth 100000 in
set_option maxHeartbeats 4000000 in
theorem tX8_children {l : Launch} {D : va_G} {cI : ClassId} {cS : GS} {a : Nat → Nat} {g_row : Nat → Int32} {g_undos : Int32} {g_listed : Int32} {g_papers : Int32} {g_length : Int32} {g_besides : Int32} {g_gapFirst : Int32} {g_gapLast : Int32} {g_layings : Int32} {g_first : Int32} {g_behind : Int32} {g_clauses : Int32} {g_drafts : Int32} {x1 : Int32} {s0 : Int32} (h : fX8_children g_row x1 = some s0) : CT l D cI cS yX8_children cX8_children 4 (some .int) rmX8_children [.ref (a 0), .int x1] [oX8 a g_undos g_listed g_papers g_length g_besides g_gapFirst g_gapLast g_layings g_first g_behind g_clauses g_drafts, ar cI (a 1) 5058 g_row] (some (.int s0)) [oX8 a g_undos g_listed g_papers g_length g_besides g_gapFirst g_gapLast g_layings g_first g_behind g_clauses g_drafts, ar cI (a 1) 5058 g_row] := by
  refine CT.of RX8 (by decide) rfl (Nat.le_of_ble_eq_true rfl) (fun p e s m below meth c ls A C hA hl hw => ?_)
  have hx := C.1.1
  have hb := C.1.2.1
  have hl : lv_has ls 4 [(0, .ref (a 0)), (1, .int x1)] := hl
  unfold fX8_children at h
  refine lv_iconst (v := 0) hx hb dX8_children_0 (by decide) ?_
  refine lv_istore_n (lv' := [(2, .int 0), (0, .ref (a 0)), (1, .int x1)]) hx hb dX8_children_1 rfl hl (by decide) rfl (fun ls hl => ?_)
  refine lv_iconst (v := 0) hx hb dX8_children_2 (by decide) ?_
  refine lv_istore_n (lv' := [(3, .int 0), (2, .int 0), (0, .ref (a 0)), (1, .int x1)]) hx hb dX8_children_3 rfl hl (by decide) rfl (fun ls hl => ?_)
  refine wX8_children_4 C hA _ (fun x2_4 x3_4 H locs ls hw4x hl h => ?_) FU _ _ _ _ _ hw (lv_sub hl [2, 3, 1, 0] rfl) h
  refine lv_iload_n hx hb dX8_children_39 rfl (lv_at hl 2 rfl) ?_
  cases h
  exact k_iret C hw4x dX8_children_40
def rmX8_boxesOf : Room := { frames := 3, cells := 0, slots := 0, locals := 71 }
def fX8_boxesOf_4 (g_row : Nat → Int32) (x1 : Int32) : (n : Nat) → (k : Int32 → Int32 → Option (Int32)) → Int32 → Int32 → Option (Int32)
  | 0, _, _, _ => none
  | n + 1, k, x2, x3 =>
    if 8 ≤ x3 then
      k x2 x3
    else
      (fX8_firstOf g_row x1).bind fun r15 =>
      (fX8_lastOf g_row x1).bind fun r20 =>
      (fX8_inBox g_row x3 r15 r20).bind fun r23 =>
      if r23 ≤ 0 then
        fX8_boxesOf_4 g_row x1 n k (x2 ||| 0) (x3 + 1)
      else
        fX8_boxesOf_4 g_row x1 n k (x2 ||| (1 <<< (x3 &&& 31))) (x3 + 1)
set_option maxRecDepth 100000 in
set_option maxHeartbeats 4000000 in
theorem wX8_boxesOf_4 {p : Program} {l : Launch} {e : Env} {s : State} {m : MethodId} {args : Array Value} {below : List Frame} {meth : Method} {c : Code} {D : va_G} {cI : ClassId} {cS : GS} {A : Nat → Prop} {a : Nat → Nat} {g_row : Nat → Int32} {g_undos : Int32} {g_listed : Int32} {g_papers : Int32} {g_length : Int32} {g_besides : Int32} {g_gapFirst : Int32} {g_gapLast : Int32} {g_layings : Int32} {g_first : Int32} {g_behind : Int32} {g_clauses : Int32} {g_drafts : Int32} {x1 : Int32} (C : MC p s m args meth c D cI cS A RX8 cX8_boxesOf 4 (some .int)) (hA : ∀ q, s.heap.size ≤ q → A q) {s0 : Int32} (k : Int32 → Int32 → Option (Int32)) (hk : ∀ (x2 : Int32) (x3 : Int32) (H : Heap) (locs : List Loc) (ls : Array Slot), Wd D A s.heap H locs [oX8 a g_undos g_listed g_papers g_length g_besides g_gapFirst g_gapLast g_layings g_first g_behind g_clauses g_drafts, ar cI (a 1) 5058 g_row] → lv_has ls 4 [(0, .ref (a 0)), (1, .int x1), (2, .int x2), (3, .int x3)] → k x2 x3 = some s0 → W p l e rmX8_boxesOf s m args below meth c H locs 0 0 (KQ D A below args s (some (.int s0)) [oX8 a g_undos g_listed g_papers g_length g_besides g_gapFirst g_gapLast g_layings g_first g_behind g_clauses g_drafts, ar cI (a 1) 5058 g_row]) (F0 m 44 ls [])) :
    ∀ (n : Nat) (x2 : Int32) (x3 : Int32) (H : Heap) (locs : List Loc) (ls : Array Slot), Wd D A s.heap H locs [oX8 a g_undos g_listed g_papers g_length g_besides g_gapFirst g_gapLast g_layings g_first g_behind g_clauses g_drafts, ar cI (a 1) 5058 g_row] → lv_has ls 4 [(0, .ref (a 0)), (1, .int x1), (2, .int x2), (3, .int x3)] → fX8_boxesOf_4 g_row x1 n k x2 x3 = some s0 → W p l e rmX8_boxesOf s m args below meth c H locs 0 0 (KQ D A below args s (some (.int s0)) [oX8 a g_undos g_listed g_papers g_length g_besides g_gapFirst g_gapLast g_layings g_first g_behind g_clauses g_drafts, ar cI (a 1) 5058 g_row]) (F0 m 4 ls []) := by
  have hx := C.1.1
  have hb := C.1.2.1
  intro n
  induction n with
  | zero =>
    intro x2 x3 H locs ls hw hl h
    rw [fX8_boxesOf_4] at h
    cases h
  | succ n ih =>
    intro x2 x3 H locs ls hw hl h
    rw [fX8_boxesOf_4] at h
    refine lv_iload_n hx hb dX8_boxesOf_4 rfl (lv_at hl 3 rfl) ?_
    refine lv_bipush (v := 8) hx hb dX8_boxesOf_5 (by decide) ?_
    refine lv_icmp_ge (tgt := 44) hx hb dX8_boxesOf_7 (by decide) (fun c7 => ?_) (fun c7 => ?_)
    · replace h := br_t' h c7
      exact hk _ _ _ _ _ hw (lv_sub hl [0, 1, 2, 3] rfl) h
    · replace h := br_f' h c7
      refine lv_iload_n hx hb dX8_boxesOf_10 rfl (lv_at hl 2 rfl) ?_
      refine lv_aload_n hx hb dX8_boxesOf_11 rfl (lv_at hl 0 rfl) ?_
      refine lv_iload_n hx hb dX8_boxesOf_12 rfl (lv_at hl 3 rfl) ?_
      refine lv_aload_n hx hb dX8_boxesOf_13 rfl (lv_at hl 0 rfl) ?_
      refine lv_iload_n hx hb dX8_boxesOf_14 rfl (lv_at hl 1 rfl) ?_
      obtain ⟨r15, q15, h⟩ := bd h
      refine k_callV (nC := 2) [oX8 a g_undos g_listed g_papers g_length g_besides g_gapFirst g_gapLast g_layings g_first g_behind g_clauses g_drafts, ar cI (a 1) 5058 g_row] C hl.1 (tX8_firstOf (a := a) q15) mL_X8_93 mmX8_firstOf rfl rfl ⟨Nat.le_of_ble_eq_true rfl, Nat.le_of_ble_eq_true rfl⟩ rfl rfl rfl rfl (Nat.le_of_ble_eq_true rfl) hA hw [0, 1] [] rfl (by decide +kernel) rfl rfl rfl rfl dX8_boxesOf_15 (fun H locs hw15 => ?_)
      refine lv_aload_n hx hb dX8_boxesOf_18 rfl (lv_at hl 0 rfl) ?_
      refine lv_iload_n hx hb dX8_boxesOf_19 rfl (lv_at hl 1 rfl) ?_
      obtain ⟨r20, q20, h⟩ := bd h
      refine k_callV (nC := 2) [oX8 a g_undos g_listed g_papers g_length g_besides g_gapFirst g_gapLast g_layings g_first g_behind g_clauses g_drafts, ar cI (a 1) 5058 g_row] C hl.1 (tX8_lastOf (a := a) q20) mL_X8_97 mmX8_lastOf rfl rfl ⟨Nat.le_of_ble_eq_true rfl, Nat.le_of_ble_eq_true rfl⟩ rfl rfl rfl rfl (Nat.le_of_ble_eq_true rfl) hA hw15 [0, 1] [] rfl (by decide +kernel) rfl rfl rfl rfl dX8_boxesOf_20 (fun H locs hw20 => ?_)
      obtain ⟨r23, q23, h⟩ := bd h
      refine k_callV (nC := 2) [oX8 a g_undos g_listed g_papers g_length g_besides g_gapFirst g_gapLast g_layings g_first g_behind g_clauses g_drafts, ar cI (a 1) 5058 g_row] C hl.1 (tX8_inBox (a := a) q23) mL_X8_79 mmX8_inBox rfl rfl ⟨Nat.le_of_ble_eq_true rfl, Nat.le_of_ble_eq_true rfl⟩ rfl rfl rfl rfl (Nat.le_of_ble_eq_true rfl) hA hw20 [0, 1] [] rfl (by decide +kernel) rfl rfl rfl rfl dX8_boxesOf_23 (fun H locs hw23 => ?_)
      refine lv_if_le (tgt := 35) hx hb dX8_boxesOf_26 (by decide) (fun c26 => ?_) (fun c26 => ?_)
      · replace h := br_t' h c26
        refine lv_iconst (v := 0) hx hb dX8_boxesOf_35 (by decide) ?_
        refine lv_ior hx hb dX8_boxesOf_36 ?_
        refine lv_istore_n (lv' := [(2, .int (x2 ||| 0)), (0, .ref (a 0)), (1, .int x1), (3, .int x3)]) hx hb dX8_boxesOf_37 rfl hl (by decide) rfl (fun ls hl => ?_)
        refine lv_iinc (v := (x3 + 1)) (lv' := [(3, .int (x3 + 1)), (2, .int (x2 ||| 0)), (0, .ref (a 0)), (1, .int x1)]) hx hb dX8_boxesOf_38 hl (k := 3) rfl rfl (by decide) rfl (fun ls hl => ?_)
        refine lv_goto (tgt := 4) hx hb dX8_boxesOf_41 (by decide) ?_
        exact ih _ _ _ _ _ hw23 (lv_sub hl [2, 3, 1, 0] rfl) h
      · replace h := br_f' h c26
        refine lv_iconst (v := 1) hx hb dX8_boxesOf_29 (by decide) ?_
        refine lv_iload_n hx hb dX8_boxesOf_30 rfl (lv_at hl 3 rfl) ?_
        refine lv_ishl hx hb dX8_boxesOf_31 ?_
        refine lv_goto (tgt := 36) hx hb dX8_boxesOf_32 (by decide) ?_
        refine lv_ior hx hb dX8_boxesOf_36 ?_
        refine lv_istore_n (lv' := [(2, .int (x2 ||| (1 <<< (x3 &&& 31)))), (0, .ref (a 0)), (1, .int x1), (3, .int x3)]) hx hb dX8_boxesOf_37 rfl hl (by decide) rfl (fun ls hl => ?_)
        refine lv_iinc (v := (x3 + 1)) (lv' := [(3, .int (x3 + 1)), (2, .int (x2 ||| (1 <<< (x3 &&& 31)))), (0, .ref (a 0)), (1, .int x1)]) hx hb dX8_boxesOf_38 hl (k := 3) rfl rfl (by decide) rfl (fun ls hl => ?_)
        refine lv_goto (tgt := 4) hx hb dX8_boxesOf_41 (by decide) ?_
        exact ih _ _ _ _ _ hw23 (lv_sub hl [2, 3, 1, 0] rfl) h
def fX8_boxesOf (g_row : Nat → Int32) (x1 : Int32) : Option (Int32) :=
  fX8_boxesOf_4 g_row x1 FU (fun x2_4 x3_4 =>
    some x2_4) 0 0
set_option maxRecDepth 100000 in
set_option maxHeartbeats 4000000 in
theorem tX8_boxesOf {l : Launch} {D : va_G} {cI : ClassId} {cS : GS} {a : Nat → Nat} {g_row : Nat → Int32} {g_undos : Int32} {g_listed : Int32} {g_papers : Int32} {g_length : Int32} {g_besides : Int32} {g_gapFirst : Int32} {g_gapLast : Int32} {g_layings : Int32} {g_first : Int32} {g_behind : Int32} {g_clauses : Int32} {g_drafts : Int32} {x1 : Int32} {s0 : Int32} (h : fX8_boxesOf g_row x1 = some s0) : CT l D cI cS yX8_boxesOf cX8_boxesOf 4 (some .int) rmX8_boxesOf [.ref (a 0), .int x1] [oX8 a g_undos g_listed g_papers g_length g_besides g_gapFirst g_gapLast g_layings g_first g_behind g_clauses g_drafts, ar cI (a 1) 5058 g_row] (some (.int s0)) [oX8 a g_undos g_listed g_papers g_length g_besides g_gapFirst g_gapLast g_layings g_first g_behind g_clauses g_drafts, ar cI (a 1) 5058 g_row] := by
  refine CT.of RX8 (by decide) rfl (Nat.le_of_ble_eq_true rfl) (fun p e s m below meth c ls A C hA hl hw => ?_)
  have hx := C.1.1
  have hb := C.1.2.1
  have hl : lv_has ls 4 [(0, .ref (a 0)), (1, .int x1)] := hl
  unfold fX8_boxesOf at h
  refine lv_iconst (v := 0) hx hb dX8_boxesOf_0 (by decide) ?_
  refine lv_istore_n (lv' := [(2, .int 0), (0, .ref (a 0)), (1, .int x1)]) hx hb dX8_boxesOf_1 rfl hl (by decide) rfl (fun ls hl => ?_)
  refine lv_iconst (v := 0) hx hb dX8_boxesOf_2 (by decide) ?_
  refine lv_istore_n (lv' := [(3, .int 0), (2, .int 0), (0, .ref (a 0)), (1, .int x1)]) hx hb dX8_boxesOf_3 rfl hl (by decide) rfl (fun ls hl => ?_)
  refine wX8_boxesOf_4 C hA _ (fun x2_4 x3_4 H locs ls hw4x hl h => ?_) FU _ _ _ _ _ hw (lv_sub hl [2, 3, 1, 0] rfl) h
  refine lv_iload_n hx hb dX8_boxesOf_44 rfl (lv_at hl 2 rfl) ?_
  cases h
  exact k_iret C hw4x dX8_boxesOf_45
def rmX8_of : Room := { frames := 4, cells := 0, slots := 0, locals := 94 }
def fX8_of (g_row : Nat → Int32) (g_gapFirst : Int32) (g_gapLast : Int32) (x1 : Int32) (x2 : Int32) : Option (Int32 × Int32 × Int32) :=
  (fX8_isSeries g_row x1).bind fun r2 =>
  if r2 = 0 then
    some ((-2), g_gapFirst, g_gapLast)
  else
    if x2 = 0 then
      (ld 5058 g_row ((4 + (3 * x1)) + x2)).bind fun y71 =>
      some (y71, g_gapFirst, g_gapLast)
    else
    if x2 = 1 then
      (ld 5058 g_row ((4 + (3 * x1)) + x2)).bind fun y71 =>
      some (y71, g_gapFirst, g_gapLast)
    else
    if x2 = 2 then
      (ld 5058 g_row ((4 + (3 * x1)) + x2)).bind fun y71 =>
      some (y71, g_gapFirst, g_gapLast)
    else
    if x2 = 3 then
      (fX8_firstOf g_row x1).bind fun r77 =>
      (fX8_lastOf g_row x1).bind fun r82 =>
      (fX8_ownIn g_row x1 r77 r82).bind fun r85 =>
      some (r85, g_gapFirst, g_gapLast)
    else
    if x2 = 4 then
      (fX8_children g_row x1).bind fun r91 =>
      some (r91, g_gapFirst, g_gapLast)
    else
    if x2 = 5 then
      (fX8_boxesOf g_row x1).bind fun r97 =>
      some (r97, g_gapFirst, g_gapLast)
    else
    if x2 = 6 then
      (fX8_lastOf g_row x1).bind fun r103 =>
      (fX8_firstOf g_row x1).bind fun r108 =>
      (fX8_firstOf g_row x1).bind fun r118 =>
      (fX8_lastOf g_row x1).bind fun r123 =>
      (fX8_inBox g_row (-1) r118 r123).bind fun r126 =>
      some ((((r103 - r108) + 1) - r126), g_gapFirst, g_gapLast)
    else
    if x2 = 7 then
      (fX8_gaps g_row g_gapFirst g_gapLast x1).bind fun r133 =>
      some (r133.1, r133.2.1, r133.2.2)
    else
      some ((-3), g_gapFirst, g_gapLast)
set_option maxRecDepth 100000 in
set_option maxHeartbeats 4000000 in
theorem tX8_of {l : Launch} {D : va_G} {cI : ClassId} {cS : GS} {a : Nat → Nat} {g_row : Nat → Int32} {g_undos : Int32} {g_listed : Int32} {g_papers : Int32} {g_length : Int32} {g_besides : Int32} {g_gapFirst : Int32} {g_gapLast : Int32} {g_layings : Int32} {g_first : Int32} {g_behind : Int32} {g_clauses : Int32} {g_drafts : Int32} {x1 : Int32} {x2 : Int32} {s0 : Int32} {s1 : Int32} {s2 : Int32} (h : fX8_of g_row g_gapFirst g_gapLast x1 x2 = some (s0, s1, s2)) : CT l D cI cS yX8_of cX8_of 3 (some .int) rmX8_of [.ref (a 0), .int x1, .int x2] [oX8 a g_undos g_listed g_papers g_length g_besides g_gapFirst g_gapLast g_layings g_first g_behind g_clauses g_drafts, ar cI (a 1) 5058 g_row] (some (.int s0)) [oX8 a g_undos g_listed g_papers g_length g_besides s1 s2 g_layings g_first g_behind g_clauses g_drafts, ar cI (a 1) 5058 g_row] := by
  refine CT.of RX8 (by decide) rfl (Nat.le_of_ble_eq_true rfl) (fun p e s m below meth c ls A C hA hl hw => ?_)
  have hx := C.1.1
  have hb := C.1.2.1
  have hl : lv_has ls 3 [(0, .ref (a 0)), (1, .int x1), (2, .int x2)] := hl
  unfold fX8_of at h
  refine lv_aload_n hx hb dX8_of_0 rfl (lv_at hl 0 rfl) ?_
  refine lv_iload_n hx hb dX8_of_1 rfl (lv_at hl 1 rfl) ?_
  obtain ⟨r2, q2, h⟩ := bd h
  refine k_callV (nC := 2) [oX8 a g_undos g_listed g_papers g_length g_besides g_gapFirst g_gapLast g_layings g_first g_behind g_clauses g_drafts, ar cI (a 1) 5058 g_row] C hl.1 (tX8_isSeries (a := a) q2) mL_X8_200 mmX8_isSeries rfl rfl ⟨Nat.le_of_ble_eq_true rfl, Nat.le_of_ble_eq_true rfl⟩ rfl rfl rfl rfl (Nat.le_of_ble_eq_true rfl) hA hw [0, 1] [] rfl (by decide +kernel) rfl rfl rfl rfl dX8_of_2 (fun H locs hw2 => ?_)
  refine lv_if_ne (tgt := 11) hx hb dX8_of_5 (by decide) (fun c5 => ?_) (fun c5 => ?_)
  · replace h := br_f' h c5
    refine lv_iload_n hx hb dX8_of_11 rfl (lv_at hl 2 rfl) ?_
    by_cases c12_0 : x2 = 0
    · replace h := br_t' h c12_0
      refine lv_tableIn (tgt := 60) hx hb dX8_of_12 (by rw [c12_0]; decide) (by rw [c12_0]; decide) (off := 48) (by rw [c12_0]; decide) (by decide) ?_
      refine lv_aload_n hx hb dX8_of_60 rfl (lv_at hl 0 rfl) ?_
      refine k_get C inT_X8 hw2 0 rfl rfl 0 (by decide) mF_X8_7 rfl dX8_of_61 ?_
      refine lv_iconst (v := 4) hx hb dX8_of_64 (by decide) ?_
      refine lv_iconst (v := 3) hx hb dX8_of_65 (by decide) ?_
      refine lv_iload_n hx hb dX8_of_66 rfl (lv_at hl 1 rfl) ?_
      refine lv_imul hx hb dX8_of_67 ?_
      refine lv_iadd hx hb dX8_of_68 ?_
      refine lv_iload_n hx hb dX8_of_69 rfl (lv_at hl 2 rfl) ?_
      refine lv_iadd hx hb dX8_of_70 ?_
      obtain ⟨y71, q71, h⟩ := bd h
      refine k_iald C hw2 1 rfl q71 dX8_of_71 ?_
      cases h
      exact k_iret C hw2 dX8_of_72
    replace h := br_f' h c12_0
    by_cases c12_1 : x2 = 1
    · replace h := br_t' h c12_1
      refine lv_tableIn (tgt := 60) hx hb dX8_of_12 (by rw [c12_1]; decide) (by rw [c12_1]; decide) (off := 48) (by rw [c12_1]; decide) (by decide) ?_
      refine lv_aload_n hx hb dX8_of_60 rfl (lv_at hl 0 rfl) ?_
      refine k_get C inT_X8 hw2 0 rfl rfl 0 (by decide) mF_X8_7 rfl dX8_of_61 ?_
      refine lv_iconst (v := 4) hx hb dX8_of_64 (by decide) ?_
      refine lv_iconst (v := 3) hx hb dX8_of_65 (by decide) ?_
      refine lv_iload_n hx hb dX8_of_66 rfl (lv_at hl 1 rfl) ?_
      refine lv_imul hx hb dX8_of_67 ?_
      refine lv_iadd hx hb dX8_of_68 ?_
      refine lv_iload_n hx hb dX8_of_69 rfl (lv_at hl 2 rfl) ?_
      refine lv_iadd hx hb dX8_of_70 ?_
      obtain ⟨y71, q71, h⟩ := bd h
      refine k_iald C hw2 1 rfl q71 dX8_of_71 ?_
      cases h
      exact k_iret C hw2 dX8_of_72
    replace h := br_f' h c12_1
    by_cases c12_2 : x2 = 2
    · replace h := br_t' h c12_2
      refine lv_tableIn (tgt := 60) hx hb dX8_of_12 (by rw [c12_2]; decide) (by rw [c12_2]; decide) (off := 48) (by rw [c12_2]; decide) (by decide) ?_
      refine lv_aload_n hx hb dX8_of_60 rfl (lv_at hl 0 rfl) ?_
      refine k_get C inT_X8 hw2 0 rfl rfl 0 (by decide) mF_X8_7 rfl dX8_of_61 ?_
      refine lv_iconst (v := 4) hx hb dX8_of_64 (by decide) ?_
      refine lv_iconst (v := 3) hx hb dX8_of_65 (by decide) ?_
      refine lv_iload_n hx hb dX8_of_66 rfl (lv_at hl 1 rfl) ?_
      refine lv_imul hx hb dX8_of_67 ?_
      refine lv_iadd hx hb dX8_of_68 ?_
      refine lv_iload_n hx hb dX8_of_69 rfl (lv_at hl 2 rfl) ?_
      refine lv_iadd hx hb dX8_of_70 ?_
      obtain ⟨y71, q71, h⟩ := bd h
      refine k_iald C hw2 1 rfl q71 dX8_of_71 ?_
      cases h
      exact k_iret C hw2 dX8_of_72
    replace h := br_f' h c12_2
    by_cases c12_3 : x2 = 3
    · replace h := br_t' h c12_3
      refine lv_tableIn (tgt := 73) hx hb dX8_of_12 (by rw [c12_3]; decide) (by rw [c12_3]; decide) (off := 61) (by rw [c12_3]; decide) (by decide) ?_
      refine lv_aload_n hx hb dX8_of_73 rfl (lv_at hl 0 rfl) ?_
      refine lv_iload_n hx hb dX8_of_74 rfl (lv_at hl 1 rfl) ?_
      refine lv_aload_n hx hb dX8_of_75 rfl (lv_at hl 0 rfl) ?_
      refine lv_iload_n hx hb dX8_of_76 rfl (lv_at hl 1 rfl) ?_
      obtain ⟨r77, q77, h⟩ := bd h
      refine k_callV (nC := 2) [oX8 a g_undos g_listed g_papers g_length g_besides g_gapFirst g_gapLast g_layings g_first g_behind g_clauses g_drafts, ar cI (a 1) 5058 g_row] C hl.1 (tX8_firstOf (a := a) q77) mL_X8_93 mmX8_firstOf rfl rfl ⟨Nat.le_of_ble_eq_true rfl, Nat.le_of_ble_eq_true rfl⟩ rfl rfl rfl rfl (Nat.le_of_ble_eq_true rfl) hA hw2 [0, 1] [] rfl (by decide +kernel) rfl rfl rfl rfl dX8_of_77 (fun H locs hw77 => ?_)
      refine lv_aload_n hx hb dX8_of_80 rfl (lv_at hl 0 rfl) ?_
      refine lv_iload_n hx hb dX8_of_81 rfl (lv_at hl 1 rfl) ?_
      obtain ⟨r82, q82, h⟩ := bd h
      refine k_callV (nC := 2) [oX8 a g_undos g_listed g_papers g_length g_besides g_gapFirst g_gapLast g_layings g_first g_behind g_clauses g_drafts, ar cI (a 1) 5058 g_row] C hl.1 (tX8_lastOf (a := a) q82) mL_X8_97 mmX8_lastOf rfl rfl ⟨Nat.le_of_ble_eq_true rfl, Nat.le_of_ble_eq_true rfl⟩ rfl rfl rfl rfl (Nat.le_of_ble_eq_true rfl) hA hw77 [0, 1] [] rfl (by decide +kernel) rfl rfl rfl rfl dX8_of_82 (fun H locs hw82 => ?_)
      obtain ⟨r85, q85, h⟩ := bd h
      refine k_callV (nC := 2) [oX8 a g_undos g_listed g_papers g_length g_besides g_gapFirst g_gapLast g_layings g_first g_behind g_clauses g_drafts, ar cI (a 1) 5058 g_row] C hl.1 (tX8_ownIn (a := a) q85) mL_X8_103 mmX8_ownIn rfl rfl ⟨Nat.le_of_ble_eq_true rfl, Nat.le_of_ble_eq_true rfl⟩ rfl rfl rfl rfl (Nat.le_of_ble_eq_true rfl) hA hw82 [0, 1] [] rfl (by decide +kernel) rfl rfl rfl rfl dX8_of_85 (fun H locs hw85 => ?_)
      cases h
      exact k_iret C hw85 dX8_of_88
    replace h := br_f' h c12_3
    by_cases c12_4 : x2 = 4
    · replace h := br_t' h c12_4
      refine lv_tableIn (tgt := 89) hx hb dX8_of_12 (by rw [c12_4]; decide) (by rw [c12_4]; decide) (off := 77) (by rw [c12_4]; decide) (by decide) ?_
      refine lv_aload_n hx hb dX8_of_89 rfl (lv_at hl 0 rfl) ?_
      refine lv_iload_n hx hb dX8_of_90 rfl (lv_at hl 1 rfl) ?_
      obtain ⟨r91, q91, h⟩ := bd h
      refine k_callV (nC := 2) [oX8 a g_undos g_listed g_papers g_length g_besides g_gapFirst g_gapLast g_layings g_first g_behind g_clauses g_drafts, ar cI (a 1) 5058 g_row] C hl.1 (tX8_children (a := a) q91) mL_X8_236 mmX8_children rfl rfl ⟨Nat.le_of_ble_eq_true rfl, Nat.le_of_ble_eq_true rfl⟩ rfl rfl rfl rfl (Nat.le_of_ble_eq_true rfl) hA hw2 [0, 1] [] rfl (by decide +kernel) rfl rfl rfl rfl dX8_of_91 (fun H locs hw91 => ?_)
      cases h
      exact k_iret C hw91 dX8_of_94
    replace h := br_f' h c12_4
    by_cases c12_5 : x2 = 5
    · replace h := br_t' h c12_5
      refine lv_tableIn (tgt := 95) hx hb dX8_of_12 (by rw [c12_5]; decide) (by rw [c12_5]; decide) (off := 83) (by rw [c12_5]; decide) (by decide) ?_
      refine lv_aload_n hx hb dX8_of_95 rfl (lv_at hl 0 rfl) ?_
      refine lv_iload_n hx hb dX8_of_96 rfl (lv_at hl 1 rfl) ?_
      obtain ⟨r97, q97, h⟩ := bd h
      refine k_callV (nC := 2) [oX8 a g_undos g_listed g_papers g_length g_besides g_gapFirst g_gapLast g_layings g_first g_behind g_clauses g_drafts, ar cI (a 1) 5058 g_row] C hl.1 (tX8_boxesOf (a := a) q97) mL_X8_239 mmX8_boxesOf rfl rfl ⟨Nat.le_of_ble_eq_true rfl, Nat.le_of_ble_eq_true rfl⟩ rfl rfl rfl rfl (Nat.le_of_ble_eq_true rfl) hA hw2 [0, 1] [] rfl (by decide +kernel) rfl rfl rfl rfl dX8_of_97 (fun H locs hw97 => ?_)
      cases h
      exact k_iret C hw97 dX8_of_100
    replace h := br_f' h c12_5
    by_cases c12_6 : x2 = 6
    · replace h := br_t' h c12_6
      refine lv_tableIn (tgt := 101) hx hb dX8_of_12 (by rw [c12_6]; decide) (by rw [c12_6]; decide) (off := 89) (by rw [c12_6]; decide) (by decide) ?_
      refine lv_aload_n hx hb dX8_of_101 rfl (lv_at hl 0 rfl) ?_
      refine lv_iload_n hx hb dX8_of_102 rfl (lv_at hl 1 rfl) ?_
      obtain ⟨r103, q103, h⟩ := bd h
      refine k_callV (nC := 2) [oX8 a g_undos g_listed g_papers g_length g_besides g_gapFirst g_gapLast g_layings g_first g_behind g_clauses g_drafts, ar cI (a 1) 5058 g_row] C hl.1 (tX8_lastOf (a := a) q103) mL_X8_97 mmX8_lastOf rfl rfl ⟨Nat.le_of_ble_eq_true rfl, Nat.le_of_ble_eq_true rfl⟩ rfl rfl rfl rfl (Nat.le_of_ble_eq_true rfl) hA hw2 [0, 1] [] rfl (by decide +kernel) rfl rfl rfl rfl dX8_of_103 (fun H locs hw103 => ?_)
      refine lv_aload_n hx hb dX8_of_106 rfl (lv_at hl 0 rfl) ?_
      refine lv_iload_n hx hb dX8_of_107 rfl (lv_at hl 1 rfl) ?_
      obtain ⟨r108, q108, h⟩ := bd h
      refine k_callV (nC := 2) [oX8 a g_undos g_listed g_papers g_length g_besides g_gapFirst g_gapLast g_layings g_first g_behind g_clauses g_drafts, ar cI (a 1) 5058 g_row] C hl.1 (tX8_firstOf (a := a) q108) mL_X8_93 mmX8_firstOf rfl rfl ⟨Nat.le_of_ble_eq_true rfl, Nat.le_of_ble_eq_true rfl⟩ rfl rfl rfl rfl (Nat.le_of_ble_eq_true rfl) hA hw103 [0, 1] [] rfl (by decide +kernel) rfl rfl rfl rfl dX8_of_108 (fun H locs hw108 => ?_)
      refine lv_isub hx hb dX8_of_111 ?_
      refine lv_iconst (v := 1) hx hb dX8_of_112 (by decide) ?_
      refine lv_iadd hx hb dX8_of_113 ?_
      refine lv_aload_n hx hb dX8_of_114 rfl (lv_at hl 0 rfl) ?_
      refine lv_iconst (v := (-1)) hx hb dX8_of_115 (by decide) ?_
      refine lv_aload_n hx hb dX8_of_116 rfl (lv_at hl 0 rfl) ?_
      refine lv_iload_n hx hb dX8_of_117 rfl (lv_at hl 1 rfl) ?_
      obtain ⟨r118, q118, h⟩ := bd h
      refine k_callV (nC := 2) [oX8 a g_undos g_listed g_papers g_length g_besides g_gapFirst g_gapLast g_layings g_first g_behind g_clauses g_drafts, ar cI (a 1) 5058 g_row] C hl.1 (tX8_firstOf (a := a) q118) mL_X8_93 mmX8_firstOf rfl rfl ⟨Nat.le_of_ble_eq_true rfl, Nat.le_of_ble_eq_true rfl⟩ rfl rfl rfl rfl (Nat.le_of_ble_eq_true rfl) hA hw108 [0, 1] [] rfl (by decide +kernel) rfl rfl rfl rfl dX8_of_118 (fun H locs hw118 => ?_)
      refine lv_aload_n hx hb dX8_of_121 rfl (lv_at hl 0 rfl) ?_
      refine lv_iload_n hx hb dX8_of_122 rfl (lv_at hl 1 rfl) ?_
      obtain ⟨r123, q123, h⟩ := bd h
      refine k_callV (nC := 2) [oX8 a g_undos g_listed g_papers g_length g_besides g_gapFirst g_gapLast g_layings g_first g_behind g_clauses g_drafts, ar cI (a 1) 5058 g_row] C hl.1 (tX8_lastOf (a := a) q123) mL_X8_97 mmX8_lastOf rfl rfl ⟨Nat.le_of_ble_eq_true rfl, Nat.le_of_ble_eq_true rfl⟩ rfl rfl rfl rfl (Nat.le_of_ble_eq_true rfl) hA hw118 [0, 1] [] rfl (by decide +kernel) rfl rfl rfl rfl dX8_of_123 (fun H locs hw123 => ?_)
      obtain ⟨r126, q126, h⟩ := bd h
      refine k_callV (nC := 2) [oX8 a g_undos g_listed g_papers g_length g_besides g_gapFirst g_gapLast g_layings g_first g_behind g_clauses g_drafts, ar cI (a 1) 5058 g_row] C hl.1 (tX8_inBox (a := a) q126) mL_X8_79 mmX8_inBox rfl rfl ⟨Nat.le_of_ble_eq_true rfl, Nat.le_of_ble_eq_true rfl⟩ rfl rfl rfl rfl (Nat.le_of_ble_eq_true rfl) hA hw123 [0, 1] [] rfl (by decide +kernel) rfl rfl rfl rfl dX8_of_126 (fun H locs hw126 => ?_)
      refine lv_isub hx hb dX8_of_129 ?_
      cases h
      exact k_iret C hw126 dX8_of_130
    replace h := br_f' h c12_6
    by_cases c12_7 : x2 = 7
    · replace h := br_t' h c12_7
      refine lv_tableIn (tgt := 131) hx hb dX8_of_12 (by rw [c12_7]; decide) (by rw [c12_7]; decide) (off := 119) (by rw [c12_7]; decide) (by decide) ?_
      refine lv_aload_n hx hb dX8_of_131 rfl (lv_at hl 0 rfl) ?_
      refine lv_iload_n hx hb dX8_of_132 rfl (lv_at hl 1 rfl) ?_
      obtain ⟨r133, q133, h⟩ := bd h
      refine k_callV (nC := 2) [oX8 a g_undos g_listed g_papers g_length g_besides r133.2.1 r133.2.2 g_layings g_first g_behind g_clauses g_drafts, ar cI (a 1) 5058 g_row] C hl.1 (tX8_gaps (a := a) q133) mL_X8_242 mmX8_gaps rfl rfl ⟨Nat.le_of_ble_eq_true rfl, Nat.le_of_ble_eq_true rfl⟩ rfl rfl rfl rfl (Nat.le_of_ble_eq_true rfl) hA hw2 [0, 1] [] rfl (by decide +kernel) rfl rfl rfl rfl dX8_of_133 (fun H locs hw133 => ?_)
      cases h
      exact k_iret C hw133 dX8_of_136
    replace h := br_f' h c12_7
    refine lv_tableOut (tgt := 137) hx hb dX8_of_12 (by have t0 := ti_ne (i := 0) c12_0 (by decide); have t1 := ti_ne (i := 1) c12_1 (by decide); have t2 := ti_ne (i := 2) c12_2 (by decide); have t3 := ti_ne (i := 3) c12_3 (by decide); have t4 := ti_ne (i := 4) c12_4 (by decide); have t5 := ti_ne (i := 5) c12_5 (by decide); have t6 := ti_ne (i := 6) c12_6 (by decide); have t7 := ti_ne (i := 7) c12_7 (by decide); omega) (by decide) ?_
    refine lv_bipush (v := (-3)) hx hb dX8_of_137 (by decide) ?_
    cases h
    exact k_iret C hw2 dX8_of_139
  · replace h := br_t' h c5
    refine lv_bipush (v := (-2)) hx hb dX8_of_8 (by decide) ?_
    cases h
    exact k_iret C hw2 dX8_of_10
def rmX8_ownsIn : Room := { frames := 4, cells := 0, slots := 0, locals := 95 }
def fX8_ownsIn_4 (g_row : Nat → Int32) (x1 : Int32) : (n : Nat) → (k : Int32 → Int32 → Option (Int32)) → Int32 → Int32 → Option (Int32)
  | 0, _, _, _ => none
  | n + 1, k, x2, x3 =>
    (ld 5058 g_row 0).bind fun y10 =>
    if y10 ≤ x3 then
      k x2 x3
    else
      (fX8_ownInBox g_row x3 x1).bind fun r18 =>
      if r18 ≤ 0 then
        fX8_ownsIn_4 g_row x1 n k (x2 ||| 0) (x3 + 1)
      else
        fX8_ownsIn_4 g_row x1 n k (x2 ||| (1 <<< (x3 &&& 31))) (x3 + 1)
set_option maxRecDepth 100000 in
set_option maxHeartbeats 4000000 in
theorem wX8_ownsIn_4 {p : Program} {l : Launch} {e : Env} {s : State} {m : MethodId} {args : Array Value} {below : List Frame} {meth : Method} {c : Code} {D : va_G} {cI : ClassId} {cS : GS} {A : Nat → Prop} {a : Nat → Nat} {g_row : Nat → Int32} {g_undos : Int32} {g_listed : Int32} {g_papers : Int32} {g_length : Int32} {g_besides : Int32} {g_gapFirst : Int32} {g_gapLast : Int32} {g_layings : Int32} {g_first : Int32} {g_behind : Int32} {g_clauses : Int32} {g_drafts : Int32} {x1 : Int32} (C : MC p s m args meth c D cI cS A RX8 cX8_ownsIn 4 (some .int)) (hA : ∀ q, s.heap.size ≤ q → A q) {s0 : Int32} (k : Int32 → Int32 → Option (Int32)) (hk : ∀ (x2 : Int32) (x3 : Int32) (H : Heap) (locs : List Loc) (ls : Array Slot), Wd D A s.heap H locs [oX8 a g_undos g_listed g_papers g_length g_besides g_gapFirst g_gapLast g_layings g_first g_behind g_clauses g_drafts, ar cI (a 1) 5058 g_row] → lv_has ls 4 [(0, .ref (a 0)), (1, .int x1), (2, .int x2), (3, .int x3)] → k x2 x3 = some s0 → W p l e rmX8_ownsIn s m args below meth c H locs 0 0 (KQ D A below args s (some (.int s0)) [oX8 a g_undos g_listed g_papers g_length g_besides g_gapFirst g_gapLast g_layings g_first g_behind g_clauses g_drafts, ar cI (a 1) 5058 g_row]) (F0 m 39 ls [])) :
    ∀ (n : Nat) (x2 : Int32) (x3 : Int32) (H : Heap) (locs : List Loc) (ls : Array Slot), Wd D A s.heap H locs [oX8 a g_undos g_listed g_papers g_length g_besides g_gapFirst g_gapLast g_layings g_first g_behind g_clauses g_drafts, ar cI (a 1) 5058 g_row] → lv_has ls 4 [(0, .ref (a 0)), (1, .int x1), (2, .int x2), (3, .int x3)] → fX8_ownsIn_4 g_row x1 n k x2 x3 = some s0 → W p l e rmX8_ownsIn s m args below meth c H locs 0 0 (KQ D A below args s (some (.int s0)) [oX8 a g_undos g_listed g_papers g_length g_besides g_gapFirst g_gapLast g_layings g_first g_behind g_clauses g_drafts, ar cI (a 1) 5058 g_row]) (F0 m 4 ls []) := by
  have hx := C.1.1
  have hb := C.1.2.1
  intro n
  induction n with
  | zero =>
    intro x2 x3 H locs ls hw hl h
    rw [fX8_ownsIn_4] at h
    cases h
  | succ n ih =>
    intro x2 x3 H locs ls hw hl h
    rw [fX8_ownsIn_4] at h
    refine lv_iload_n hx hb dX8_ownsIn_4 rfl (lv_at hl 3 rfl) ?_
    refine lv_aload_n hx hb dX8_ownsIn_5 rfl (lv_at hl 0 rfl) ?_
    refine k_get C inT_X8 hw 0 rfl rfl 0 (by decide) mF_X8_7 rfl dX8_ownsIn_6 ?_
    refine lv_iconst (v := 0) hx hb dX8_ownsIn_9 (by decide) ?_
    obtain ⟨y10, q10, h⟩ := bd h
    refine k_iald C hw 1 rfl q10 dX8_ownsIn_10 ?_
    refine lv_icmp_ge (tgt := 39) hx hb dX8_ownsIn_11 (by decide) (fun c11 => ?_) (fun c11 => ?_)
    · replace h := br_t' h c11
      exact hk _ _ _ _ _ hw (lv_sub hl [0, 1, 2, 3] rfl) h
    · replace h := br_f' h c11
      refine lv_iload_n hx hb dX8_ownsIn_14 rfl (lv_at hl 2 rfl) ?_
      refine lv_aload_n hx hb dX8_ownsIn_15 rfl (lv_at hl 0 rfl) ?_
      refine lv_iload_n hx hb dX8_ownsIn_16 rfl (lv_at hl 3 rfl) ?_
      refine lv_iload_n hx hb dX8_ownsIn_17 rfl (lv_at hl 1 rfl) ?_
      obtain ⟨r18, q18, h⟩ := bd h
      refine k_callV (nC := 2) [oX8 a g_undos g_listed g_papers g_length g_besides g_gapFirst g_gapLast g_layings g_first g_behind g_clauses g_drafts, ar cI (a 1) 5058 g_row] C hl.1 (tX8_ownInBox (a := a) q18) mL_X8_245 mmX8_ownInBox rfl rfl ⟨Nat.le_of_ble_eq_true rfl, Nat.le_of_ble_eq_true rfl⟩ rfl rfl rfl rfl (Nat.le_of_ble_eq_true rfl) hA hw [0, 1] [] rfl (by decide +kernel) rfl rfl rfl rfl dX8_ownsIn_18 (fun H locs hw18 => ?_)
      refine lv_if_le (tgt := 30) hx hb dX8_ownsIn_21 (by decide) (fun c21 => ?_) (fun c21 => ?_)
      · replace h := br_t' h c21
        refine lv_iconst (v := 0) hx hb dX8_ownsIn_30 (by decide) ?_
        refine lv_ior hx hb dX8_ownsIn_31 ?_
        refine lv_istore_n (lv' := [(2, .int (x2 ||| 0)), (0, .ref (a 0)), (1, .int x1), (3, .int x3)]) hx hb dX8_ownsIn_32 rfl hl (by decide) rfl (fun ls hl => ?_)
        refine lv_iinc (v := (x3 + 1)) (lv' := [(3, .int (x3 + 1)), (2, .int (x2 ||| 0)), (0, .ref (a 0)), (1, .int x1)]) hx hb dX8_ownsIn_33 hl (k := 3) rfl rfl (by decide) rfl (fun ls hl => ?_)
        refine lv_goto (tgt := 4) hx hb dX8_ownsIn_36 (by decide) ?_
        exact ih _ _ _ _ _ hw18 (lv_sub hl [2, 3, 1, 0] rfl) h
      · replace h := br_f' h c21
        refine lv_iconst (v := 1) hx hb dX8_ownsIn_24 (by decide) ?_
        refine lv_iload_n hx hb dX8_ownsIn_25 rfl (lv_at hl 3 rfl) ?_
        refine lv_ishl hx hb dX8_ownsIn_26 ?_
        refine lv_goto (tgt := 31) hx hb dX8_ownsIn_27 (by decide) ?_
        refine lv_ior hx hb dX8_ownsIn_31 ?_
        refine lv_istore_n (lv' := [(2, .int (x2 ||| (1 <<< (x3 &&& 31)))), (0, .ref (a 0)), (1, .int x1), (3, .int x3)]) hx hb dX8_ownsIn_32 rfl hl (by decide) rfl (fun ls hl => ?_)
        refine lv_iinc (v := (x3 + 1)) (lv' := [(3, .int (x3 + 1)), (2, .int (x2 ||| (1 <<< (x3 &&& 31)))), (0, .ref (a 0)), (1, .int x1)]) hx hb dX8_ownsIn_33 hl (k := 3) rfl rfl (by decide) rfl (fun ls hl => ?_)
        refine lv_goto (tgt := 4) hx hb dX8_ownsIn_36 (by decide) ?_
        exact ih _ _ _ _ _ hw18 (lv_sub hl [2, 3, 1, 0] rfl) h
def fX8_ownsIn (g_row : Nat → Int32) (x1 : Int32) : Option (Int32) :=
  fX8_ownsIn_4 g_row x1 FU (fun x2_4 x3_4 =>
    some x2_4) 0 0
set_option maxRecDepth 100000 in
set_option maxHeartbeats 4000000 in
theorem tX8_ownsIn {l : Launch} {D : va_G} {cI : ClassId} {cS : GS} {a : Nat → Nat} {g_row : Nat → Int32} {g_undos : Int32} {g_listed : Int32} {g_papers : Int32} {g_length : Int32} {g_besides : Int32} {g_gapFirst : Int32} {g_gapLast : Int32} {g_layings : Int32} {g_first : Int32} {g_behind : Int32} {g_clauses : Int32} {g_drafts : Int32} {x1 : Int32} {s0 : Int32} (h : fX8_ownsIn g_row x1 = some s0) : CT l D cI cS yX8_ownsIn cX8_ownsIn 4 (some .int) rmX8_ownsIn [.ref (a 0), .int x1] [oX8 a g_undos g_listed g_papers g_length g_besides g_gapFirst g_gapLast g_layings g_first g_behind g_clauses g_drafts, ar cI (a 1) 5058 g_row] (some (.int s0)) [oX8 a g_undos g_listed g_papers g_length g_besides g_gapFirst g_gapLast g_layings g_first g_behind g_clauses g_drafts, ar cI (a 1) 5058 g_row] := by
  refine CT.of RX8 (by decide) rfl (Nat.le_of_ble_eq_true rfl) (fun p e s m below meth c ls A C hA hl hw => ?_)
  have hx := C.1.1
  have hb := C.1.2.1
  have hl : lv_has ls 4 [(0, .ref (a 0)), (1, .int x1)] := hl
  unfold fX8_ownsIn at h
  refine lv_iconst (v := 0) hx hb dX8_ownsIn_0 (by decide) ?_
  refine lv_istore_n (lv' := [(2, .int 0), (0, .ref (a 0)), (1, .int x1)]) hx hb dX8_ownsIn_1 rfl hl (by decide) rfl (fun ls hl => ?_)
  refine lv_iconst (v := 0) hx hb dX8_ownsIn_2 (by decide) ?_
  refine lv_istore_n (lv' := [(3, .int 0), (2, .int 0), (0, .ref (a 0)), (1, .int x1)]) hx hb dX8_ownsIn_3 rfl hl (by decide) rfl (fun ls hl => ?_)
  refine wX8_ownsIn_4 C hA _ (fun x2_4 x3_4 H locs ls hw4x hl h => ?_) FU _ _ _ _ _ hw (lv_sub hl [2, 3, 1, 0] rfl) h
  refine lv_iload_n hx hb dX8_ownsIn_39 rfl (lv_at hl 2 rfl) ?_
  cases h
  exact k_iret C hw4x dX8_ownsIn_40
def rmX8_endOf : Room := { frames := 1, cells := 0, slots := 0, locals := 22 }
def fX8_endOf_5 (g_row : Nat → Int32) (x1 : Int32) (x2 : Int32) : (n : Nat) → (k : Int32 → Int32 → Option (Int32)) → Int32 → Int32 → Option (Int32)
  | 0, _, _, _ => none
  | n + 1, k, x3, x4 =>
    (ld 5058 g_row 1).bind fun y12 =>
    if y12 ≤ x4 then
      k x3 x4
    else
      (fX8_pieceAt g_row x4 2).bind fun r20 =>
      if r20 = x1 then
        if x2 = 0 then
          (fX8_pieceAt g_row x4 1).bind fun r54 =>
          fX8_endOf_5 g_row x1 x2 n k r54 (x4 + 1)
        else
          if x3 = (-1) then
            (fX8_pieceAt g_row x4 0).bind fun r40 =>
            fX8_endOf_5 g_row x1 x2 n k r40 (x4 + 1)
          else
            fX8_endOf_5 g_row x1 x2 n k x3 (x4 + 1)
      else
        fX8_endOf_5 g_row x1 x2 n k x3 (x4 + 1)
set_option maxRecDepth 100000 in
set_option maxHeartbeats 4000000 in
theorem wX8_endOf_5 {p : Program} {l : Launch} {e : Env} {s : State} {m : MethodId} {args : Array Value} {below : List Frame} {meth : Method} {c : Code} {D : va_G} {cI : ClassId} {cS : GS} {A : Nat → Prop} {a : Nat → Nat} {g_row : Nat → Int32} {g_undos : Int32} {g_listed : Int32} {g_papers : Int32} {g_length : Int32} {g_besides : Int32} {g_gapFirst : Int32} {g_gapLast : Int32} {g_layings : Int32} {g_first : Int32} {g_behind : Int32} {g_clauses : Int32} {g_drafts : Int32} {x1 : Int32} {x2 : Int32} (C : MC p s m args meth c D cI cS A RX8 cX8_endOf 5 (some .int)) (hA : ∀ q, s.heap.size ≤ q → A q) {s0 : Int32} (k : Int32 → Int32 → Option (Int32)) (hk : ∀ (x3 : Int32) (x4 : Int32) (H : Heap) (locs : List Loc) (ls : Array Slot), Wd D A s.heap H locs [oX8 a g_undos g_listed g_papers g_length g_besides g_gapFirst g_gapLast g_layings g_first g_behind g_clauses g_drafts, ar cI (a 1) 5058 g_row] → lv_has ls 5 [(0, .ref (a 0)), (1, .int x1), (2, .int x2), (3, .int x3), (4, .int x4)] → k x3 x4 = some s0 → W p l e rmX8_endOf s m args below meth c H locs 0 0 (KQ D A below args s (some (.int s0)) [oX8 a g_undos g_listed g_papers g_length g_besides g_gapFirst g_gapLast g_layings g_first g_behind g_clauses g_drafts, ar cI (a 1) 5058 g_row]) (F0 m 64 ls [])) :
    ∀ (n : Nat) (x3 : Int32) (x4 : Int32) (H : Heap) (locs : List Loc) (ls : Array Slot), Wd D A s.heap H locs [oX8 a g_undos g_listed g_papers g_length g_besides g_gapFirst g_gapLast g_layings g_first g_behind g_clauses g_drafts, ar cI (a 1) 5058 g_row] → lv_has ls 5 [(0, .ref (a 0)), (1, .int x1), (2, .int x2), (3, .int x3), (4, .int x4)] → fX8_endOf_5 g_row x1 x2 n k x3 x4 = some s0 → W p l e rmX8_endOf s m args below meth c H locs 0 0 (KQ D A below args s (some (.int s0)) [oX8 a g_undos g_listed g_papers g_length g_besides g_gapFirst g_gapLast g_layings g_first g_behind g_clauses g_drafts, ar cI (a 1) 5058 g_row]) (F0 m 5 ls []) := by
  have hx := C.1.1
  have hb := C.1.2.1
  intro n
  induction n with
  | zero =>
    intro x3 x4 H locs ls hw hl h
    rw [fX8_endOf_5] at h
    cases h
  | succ n ih =>
    intro x3 x4 H locs ls hw hl h
    rw [fX8_endOf_5] at h
    refine lv_iload hx hb dX8_endOf_5 (lv_at hl 4 rfl) ?_
    refine lv_aload_n hx hb dX8_endOf_7 rfl (lv_at hl 0 rfl) ?_
    refine k_get C inT_X8 hw 0 rfl rfl 0 (by decide) mF_X8_7 rfl dX8_endOf_8 ?_
    refine lv_iconst (v := 1) hx hb dX8_endOf_11 (by decide) ?_
    obtain ⟨y12, q12, h⟩ := bd h
    refine k_iald C hw 1 rfl q12 dX8_endOf_12 ?_
    refine lv_icmp_ge (tgt := 64) hx hb dX8_endOf_13 (by decide) (fun c13 => ?_) (fun c13 => ?_)
    · replace h := br_t' h c13
      exact hk _ _ _ _ _ hw (lv_sub hl [0, 1, 2, 3, 4] rfl) h
    · replace h := br_f' h c13
      refine lv_aload_n hx hb dX8_endOf_16 rfl (lv_at hl 0 rfl) ?_
      refine lv_iload hx hb dX8_endOf_17 (lv_at hl 4 rfl) ?_
      refine lv_iconst (v := 2) hx hb dX8_endOf_19 (by decide) ?_
      obtain ⟨r20, q20, h⟩ := bd h
      refine k_callV (nC := 2) [oX8 a g_undos g_listed g_papers g_length g_besides g_gapFirst g_gapLast g_layings g_first g_behind g_clauses g_drafts, ar cI (a 1) 5058 g_row] C hl.1 (tX8_pieceAt (a := a) q20) mL_X8_71 mmX8_pieceAt rfl rfl ⟨Nat.le_of_ble_eq_true rfl, Nat.le_of_ble_eq_true rfl⟩ rfl rfl rfl rfl (Nat.le_of_ble_eq_true rfl) hA hw [0, 1] [] rfl (by decide +kernel) rfl rfl rfl rfl dX8_endOf_20 (fun H locs hw20 => ?_)
      refine lv_iload_n hx hb dX8_endOf_23 rfl (lv_at hl 1 rfl) ?_
      refine lv_icmp_ne (tgt := 58) hx hb dX8_endOf_24 (by decide) (fun c24 => ?_) (fun c24 => ?_)
      · replace h := br_f' h c24
        refine lv_iinc (v := (x4 + 1)) (lv' := [(4, .int (x4 + 1)), (0, .ref (a 0)), (1, .int x1), (2, .int x2), (3, .int x3)]) hx hb dX8_endOf_58 hl (k := 4) rfl rfl (by decide) rfl (fun ls hl => ?_)
        refine lv_goto (tgt := 5) hx hb dX8_endOf_61 (by decide) ?_
        exact ih _ _ _ _ _ hw20 (lv_sub hl [1, 2, 3, 4, 0] rfl) h
      · replace h := br_t' h c24
        refine lv_iload_n hx hb dX8_endOf_27 rfl (lv_at hl 2 rfl) ?_
        refine lv_if_eq (tgt := 50) hx hb dX8_endOf_28 (by decide) (fun c28 => ?_) (fun c28 => ?_)
        · replace h := br_t' h c28
          refine lv_aload_n hx hb dX8_endOf_50 rfl (lv_at hl 0 rfl) ?_
          refine lv_iload hx hb dX8_endOf_51 (lv_at hl 4 rfl) ?_
          refine lv_iconst (v := 1) hx hb dX8_endOf_53 (by decide) ?_
          obtain ⟨r54, q54, h⟩ := bd h
          refine k_callV (nC := 2) [oX8 a g_undos g_listed g_papers g_length g_besides g_gapFirst g_gapLast g_layings g_first g_behind g_clauses g_drafts, ar cI (a 1) 5058 g_row] C hl.1 (tX8_pieceAt (a := a) q54) mL_X8_71 mmX8_pieceAt rfl rfl ⟨Nat.le_of_ble_eq_true rfl, Nat.le_of_ble_eq_true rfl⟩ rfl rfl rfl rfl (Nat.le_of_ble_eq_true rfl) hA hw20 [0, 1] [] rfl (by decide +kernel) rfl rfl rfl rfl dX8_endOf_54 (fun H locs hw54 => ?_)
          refine lv_istore_n (lv' := [(3, .int r54), (0, .ref (a 0)), (1, .int x1), (2, .int x2), (4, .int x4)]) hx hb dX8_endOf_57 rfl hl (by decide) rfl (fun ls hl => ?_)
          refine lv_iinc (v := (x4 + 1)) (lv' := [(4, .int (x4 + 1)), (3, .int r54), (0, .ref (a 0)), (1, .int x1), (2, .int x2)]) hx hb dX8_endOf_58 hl (k := 4) rfl rfl (by decide) rfl (fun ls hl => ?_)
          refine lv_goto (tgt := 5) hx hb dX8_endOf_61 (by decide) ?_
          exact ih _ _ _ _ _ hw54 (lv_sub hl [2, 3, 4, 1, 0] rfl) h
        · replace h := br_f' h c28
          refine lv_iload_n hx hb dX8_endOf_31 rfl (lv_at hl 3 rfl) ?_
          refine lv_iconst (v := (-1)) hx hb dX8_endOf_32 (by decide) ?_
          refine lv_icmp_ne (tgt := 46) hx hb dX8_endOf_33 (by decide) (fun c33 => ?_) (fun c33 => ?_)
          · replace h := br_f' h c33
            refine lv_iload_n hx hb dX8_endOf_46 rfl (lv_at hl 3 rfl) ?_
            refine lv_goto (tgt := 57) hx hb dX8_endOf_47 (by decide) ?_
            refine lv_istore_n (lv' := [(3, .int x3), (0, .ref (a 0)), (1, .int x1), (2, .int x2), (4, .int x4)]) hx hb dX8_endOf_57 rfl hl (by decide) rfl (fun ls hl => ?_)
            refine lv_iinc (v := (x4 + 1)) (lv' := [(4, .int (x4 + 1)), (3, .int x3), (0, .ref (a 0)), (1, .int x1), (2, .int x2)]) hx hb dX8_endOf_58 hl (k := 4) rfl rfl (by decide) rfl (fun ls hl => ?_)
            refine lv_goto (tgt := 5) hx hb dX8_endOf_61 (by decide) ?_
            exact ih _ _ _ _ _ hw20 (lv_sub hl [2, 3, 4, 1, 0] rfl) h
          · replace h := br_t' h c33
            refine lv_aload_n hx hb dX8_endOf_36 rfl (lv_at hl 0 rfl) ?_
            refine lv_iload hx hb dX8_endOf_37 (lv_at hl 4 rfl) ?_
            refine lv_iconst (v := 0) hx hb dX8_endOf_39 (by decide) ?_
            obtain ⟨r40, q40, h⟩ := bd h
            refine k_callV (nC := 2) [oX8 a g_undos g_listed g_papers g_length g_besides g_gapFirst g_gapLast g_layings g_first g_behind g_clauses g_drafts, ar cI (a 1) 5058 g_row] C hl.1 (tX8_pieceAt (a := a) q40) mL_X8_71 mmX8_pieceAt rfl rfl ⟨Nat.le_of_ble_eq_true rfl, Nat.le_of_ble_eq_true rfl⟩ rfl rfl rfl rfl (Nat.le_of_ble_eq_true rfl) hA hw20 [0, 1] [] rfl (by decide +kernel) rfl rfl rfl rfl dX8_endOf_40 (fun H locs hw40 => ?_)
            refine lv_goto (tgt := 57) hx hb dX8_endOf_43 (by decide) ?_
            refine lv_istore_n (lv' := [(3, .int r40), (0, .ref (a 0)), (1, .int x1), (2, .int x2), (4, .int x4)]) hx hb dX8_endOf_57 rfl hl (by decide) rfl (fun ls hl => ?_)
            refine lv_iinc (v := (x4 + 1)) (lv' := [(4, .int (x4 + 1)), (3, .int r40), (0, .ref (a 0)), (1, .int x1), (2, .int x2)]) hx hb dX8_endOf_58 hl (k := 4) rfl rfl (by decide) rfl (fun ls hl => ?_)
            refine lv_goto (tgt := 5) hx hb dX8_endOf_61 (by decide) ?_
            exact ih _ _ _ _ _ hw40 (lv_sub hl [2, 3, 4, 1, 0] rfl) h
def fX8_endOf (g_row : Nat → Int32) (x1 : Int32) (x2 : Int32) : Option (Int32) :=
  fX8_endOf_5 g_row x1 x2 FU (fun x3_5 x4_5 =>
    some x3_5) (-1) 0
set_option maxRecDepth 100000 in
set_option maxHeartbeats 4000000 in
theorem tX8_endOf {l : Launch} {D : va_G} {cI : ClassId} {cS : GS} {a : Nat → Nat} {g_row : Nat → Int32} {g_undos : Int32} {g_listed : Int32} {g_papers : Int32} {g_length : Int32} {g_besides : Int32} {g_gapFirst : Int32} {g_gapLast : Int32} {g_layings : Int32} {g_first : Int32} {g_behind : Int32} {g_clauses : Int32} {g_drafts : Int32} {x1 : Int32} {x2 : Int32} {s0 : Int32} (h : fX8_endOf g_row x1 x2 = some s0) : CT l D cI cS yX8_endOf cX8_endOf 5 (some .int) rmX8_endOf [.ref (a 0), .int x1, .int x2] [oX8 a g_undos g_listed g_papers g_length g_besides g_gapFirst g_gapLast g_layings g_first g_behind g_clauses g_drafts, ar cI (a 1) 5058 g_row] (some (.int s0)) [oX8 a g_undos g_listed g_papers g_length g_besides g_gapFirst g_gapLast g_layings g_first g_behind g_clauses g_drafts, ar cI (a 1) 5058 g_row] := by
  refine CT.of RX8 (by decide) rfl (Nat.le_of_ble_eq_true rfl) (fun p e s m below meth c ls A C hA hl hw => ?_)
  have hx := C.1.1
  have hb := C.1.2.1
  have hl : lv_has ls 5 [(0, .ref (a 0)), (1, .int x1), (2, .int x2)] := hl
  unfold fX8_endOf at h
  refine lv_iconst (v := (-1)) hx hb dX8_endOf_0 (by decide) ?_
  refine lv_istore_n (lv' := [(3, .int (-1)), (0, .ref (a 0)), (1, .int x1), (2, .int x2)]) hx hb dX8_endOf_1 rfl hl (by decide) rfl (fun ls hl => ?_)
  refine lv_iconst (v := 0) hx hb dX8_endOf_2 (by decide) ?_
  refine lv_istore (lv' := [(4, .int 0), (3, .int (-1)), (0, .ref (a 0)), (1, .int x1), (2, .int x2)]) hx hb dX8_endOf_3 hl (by decide) rfl (fun ls hl => ?_)
  refine wX8_endOf_5 C hA _ (fun x3_5 x4_5 H locs ls hw5x hl h => ?_) FU _ _ _ _ _ hw (lv_sub hl [2, 3, 4, 1, 0] rfl) h
  refine lv_iload_n hx hb dX8_endOf_64 rfl (lv_at hl 3 rfl) ?_
  cases h
  exact k_iret C hw5x dX8_endOf_65
