/-! the JDK's own members over the text constants -/
section StrRows
variable {p : Program} {l : Launch} {e : Env} {R : Room} {s : State} {m : MethodId} {args : Array Value} {below : List Frame} {meth : Method} {c : Code} {H : Heap} {locs : List Loc} {Q : State → Prop} {D : va_G} {cI : ClassId} {cS : GS} {own : String} {cc : ByteArray} {nL : Nat} {ret : Option FieldType} {A : Nat → Prop} {cs : List va_W} {pc : Nat} {ls : Array Slot} {rest : List Value}
theorem k_callW {nC : Nat} {ds es : List va_W} (cs' : List va_W) {v : Option Value} {index maxL n b : Nat} {y : MethodName} {bytes : ByteArray} {rt : Option FieldType} {rm : Room} {As : List Value} {Cn : String} {st0 : List Value} (C : MC p s m args meth c D cI cS A own cc nL ret) (hls : ls.size = nL) (hM : CT l D cI cS y bytes maxL rt rm (.ref b :: As) ds v es) (hlk : Cond.methodLink own index y ∈ TT) (hcw : CWv y bytes maxL rt n Cn) (hrc : rm.cells = 0) (hrs : rm.slots = 0)
    (hR : rm.frames + 1 ≤ R.frames ∧ 8 + (maxL + 11) + rm.locals ≤ R.locals) (hn : As.length = n) (hrec : ∃ cellB : Cell, H[b]? = some cellB ∧ cellB.vm.isStatics = false ∧ s.vm.findClass Cn = some cellB.cls) (hst : st0 = As.reverse ++ .ref b :: rest) (hro : (rest.map fun v => v.category).sum ≤ 8)
    (hA : ∀ q, s.heap.size ≤ q → A q) (hw : Wd D A s.heap H locs cs) (isC isR : List Nat) (hN : cs.length = nC) (hp : (isC ++ isR).isPerm (List.range nC) = true) (hC : isC.map (fun i => cs[i]?) = ds.map some) (hC' : isC.map (fun i => cs'[i]?) = es.map some) (hR' : isR.map (fun i => cs'[i]?) = isR.map (fun i => cs[i]?)) (hl : cs'.length = cs.length) (hdg : decode cc pc = .ok (.invokevirtual index, 3))
    (kk : ∀ (H1 : Heap) (locs1 : List Loc), Wd D A s.heap H1 locs1 cs' → W p l e R s m args below meth c H1 locs1 0 0 Q (F0 m (pc + 3) ls (v.toList ++ rest))) : W p l e R s m args below meth c H locs 0 0 Q (F0 m pc ls st0) := by
  have hT : GoodIn TT (wsV own index Cn y (Cond.code y bytes maxL rt :: TT)) := TT_in (fun w hw => by
    rcases List.mem_append.mp hw with h | h
    · simp only [List.mem_cons, List.not_mem_nil, or_false] at h
      rcases h with rfl | rfl | rfl | rfl
      · exact hlk
      · exact hcw.1.1
      · exact hcw.1.2.1
      · exact hcw.1.2.2 ▸ hcw.2.1
    · exact (hcw.2.good w h).1)
  have hq := k_pre C hA hw isC isR hN hp hC (.ref b :: As)
  exact k_back (va_runV C.1 (hM H.size) (cwV n C.1.2.2.2.2 hT rfl hrc hrs ⟨hcw.1.2.2, hcw.2.2.2⟩ hR) ⟨hq.1, hrec, hq.2⟩ rfl hn hls hst (lv_room hro) hdg ⟨Nat.zero_le _, Nat.zero_le _⟩) hA hw isC isR hN hp hC hC' hR' hl kk
theorem k_cret {v : Int32} {es : List va_W} {ty : FieldType} (C : MC p s m args meth c D cI cS A own cc nL (some ty)) (hn : narrow ty (.int v) = .int v) (hw : Wd D A s.heap H locs es) (hdg : decode cc pc = .ok (.ireturn, 1)) : W p l e R s m args below meth c H locs 0 0 (KQ D A below args s (some (.int v)) es) (F0 m pc ls [.int v]) :=
  W.zret C.1.1 C.1.2.1 C.2.1 hn (fun t ht hW => ⟨⟨rfl, by rw [ht]; exact hw.1, hw.2.1⟩, hw.2.2.F ht⟩) hw.2.2.2.2 hdg C.2.2.1
theorem k_sget (C : MC p s m args meth c D cI cS A own cc nL ret) {i index : Nat} (hi : i < 14) {f d : String} {v : Value} (hE : va_OF "java/lang/String" f d v (cS.2.1 i) A s s.heap) (hm : Cond.fieldLink own index "java/lang/String" f d ∈ TT) (hw : Wd D A s.heap H locs cs) (hdg : decode cc pc = .ok (.getfield index, 3)) (kk : W p l e R s m args below meth c H locs 0 0 Q (F0 m (pc + 3) ls (v :: rest))) : W p l e R s m args below meth c H locs 0 0 Q (F0 m pc ls (.ref (cS.2.1 i) :: rest)) :=
  vk_getf C.1.1 C.1.2.1 hE hw.2.2 C.1.2.2.2.1 (C.1.2.2.2.2 _ hm) (fun _ h => h) hdg kk
theorem k_gets (C : MC p s m args meth c D cI cS A own cc nL ret) {C0 f d : String} {index : Nat} {v : Value} (hE : va_Z C0 f d v A s s.heap) (hm : Cond.fieldLink own index C0 f d ∈ TT) (hw : Wd D A s.heap H locs cs) (hdg : decode cc pc = .ok (.getstatic index, 3)) (kk : W p l e R s m args below meth c H locs 0 0 Q (F0 m (pc + 3) ls (v :: rest))) : W p l e R s m args below meth c H locs 0 0 Q (F0 m pc ls rest) :=
  va_gets C.1.1 C.1.2.1 hE hw.2.2 C.1.2.2.2.1 (C.1.2.2.2.2 _ hm) (fun _ h => h) hdg kk
theorem k_ldcS (C : MC p s m args meth c D cI cS A own cc nL ret) (i : Nat) (hi : i < 14) {index : Nat} (ho : own = RX6) (hx : index = 86 + 2 * i) (hdg : decode cc pc = .ok (.ldc index, 2)) (kk : W p l e R s m args below meth c H locs 0 0 Q (F0 m (pc + 2) ls (.ref (cS.2.1 i) :: rest))) : W p l e R s m args below meth c H locs 0 0 Q (F0 m pc ls rest) := by
  subst hx
  subst ho
  exact va_ldcS C.1.1 C.1.2.1 C.1.2.2.2.1 (C.2.2.2.1.2.2.2 i hi) hdg kk
end StrRows
def rmJ3_checkIndex_8e157 : Room := { frames := 0, cells := 0, slots := 0, locals := 0 }
set_option maxRecDepth 100000 in
theorem tJ3_checkIndex {l : Launch} {D : va_G} {cI : ClassId} {cS : GS} {x0 x1 : Int32} {v2 : Value} (hv : v2 = .null ∨ ∃ a, v2 = .ref a) (h0 : ¬ x0 < 0) (h1 : x0 < x1) : CT l D cI cS yJ3_checkIndex_8e157 cJ3_checkIndex_8e157 3 (some .int) rmJ3_checkIndex_8e157 [.int x0, .int x1, v2] [] (some (.int x0)) [] := by
  refine CT.of RJ3 (by decide) rfl (by rcases hv with rfl | ⟨a, rfl⟩ <;> exact Nat.le_of_ble_eq_true rfl) (fun p e s m below meth c ls A C hA hl hw => ?_)
  have hx := C.1.1
  have hb := C.1.2.1
  have hl : lv_has ls 3 [(0, .int x0), (1, .int x1), (2, v2)] := by rcases hv with rfl | ⟨a, rfl⟩ <;> exact hl
  refine lv_iload_n hx hb dJ3_checkIndex_8e157_0 rfl (lv_at hl 0 rfl) ?_
  refine lv_if_lt (tgt := 9) hx hb dJ3_checkIndex_8e157_1 (by decide) (fun c1 => absurd c1 h0) (fun c1 => ?_)
  refine lv_iload_n hx hb dJ3_checkIndex_8e157_4 rfl (lv_at hl 0 rfl) ?_
  refine lv_iload_n hx hb dJ3_checkIndex_8e157_5 rfl (lv_at hl 1 rfl) ?_
  refine lv_icmp_lt (tgt := 16) hx hb dJ3_checkIndex_8e157_6 (by decide) (fun c6 => ?_) (fun c6 => absurd h1 c6)
  refine lv_iload_n hx hb dJ3_checkIndex_8e157_16 rfl (lv_at hl 0 rfl) ?_
  exact k_iret C hw dJ3_checkIndex_8e157_17
def rmJ0_checkIndex_df160 : Room := { frames := 1, cells := 0, slots := 0, locals := 22 }
set_option maxRecDepth 100000 in
theorem tJ0_checkIndex {l : Launch} {D : va_G} {cI : ClassId} {cS : GS} {x0 x1 : Int32} (h0 : ¬ x0 < 0) (h1 : x0 < x1) : CT l D cI cS yJ0_checkIndex_df160 cJ0_checkIndex_df160 2 none rmJ0_checkIndex_df160 [.int x0, .int x1] [] none [] := by
  refine CT.of RJ0 (by decide) rfl (Nat.le_of_ble_eq_true rfl) (fun p e s m below meth c ls A C hA hl hw => ?_)
  have hx := C.1.1
  have hb := C.1.2.1
  have hl : lv_has ls 2 [(0, .int x0), (1, .int x1)] := hl
  have hz : ∃ v2 : Value, (v2 = .null ∨ ∃ a, v2 = .ref a) ∧ v2.category = 1 ∧ va_Z "jdk/internal/util/Preconditions" "SIOOBE_FORMATTER" "Ljava/util/function/BiFunction;" v2 A s s.heap := by
    rcases C.2.2.2.2.2.2 with h | ⟨t, h⟩
    · exact ⟨.null, Or.inl rfl, rfl, h⟩
    · exact ⟨.ref t, Or.inr ⟨t, rfl⟩, rfl, h⟩
  obtain ⟨v2, hv, hc, hz⟩ := hz
  refine lv_iload_n hx hb dJ0_checkIndex_df160_0 rfl (lv_at hl 0 rfl) ?_
  refine lv_iload_n hx hb dJ0_checkIndex_df160_1 rfl (lv_at hl 1 rfl) ?_
  refine k_gets C hz mF_J0_1053 hw dJ0_checkIndex_df160_2 ?_
  refine k_callS (nC := 0) [] C hl.1 (tJ3_checkIndex hv h0 h1) mL_J0_1059 mmJ3_checkIndex_8e157 rfl rfl ⟨Nat.le_of_ble_eq_true rfl, Nat.le_of_ble_eq_true rfl⟩ rfl rfl (Nat.le_of_ble_eq_true rfl) hA hw [] [] rfl (by decide +kernel) rfl rfl rfl rfl dJ0_checkIndex_df160_5 (fun H locs hw => ?_)
  refine lv_pop hx hb dJ0_checkIndex_df160_8 rfl ?_
  exact k_vret C hw dJ0_checkIndex_df160_9
/-- the char of text i at k -/
def sCh (i : Nat) (k : Int32) : Int32 := ((((sByt.getD i []).getD k.toNatClampNeg 0) &&& 255).toUInt32 % 65536).toInt32
def rmJ1_charAt_3b067 : Room := { frames := 2, cells := 0, slots := 0, locals := 43 }
set_option maxRecDepth 100000 in
theorem tJ1_charAt {l : Launch} {D : va_G} {cI : ClassId} {cS : GS} {i : Nat} {x1 : Int32} (hi : i < 14) (h0 : ¬ x1 < 0) (h1 : x1 < nI (sLen.getD i 0)) (hv : vp_in x1 (sLen.getD i 0)) : CT l D cI cS yJ1_charAt_3b067 cJ1_charAt_3b067 2 (some .char) rmJ1_charAt_3b067 [.ref (cS.2.2 i), .int x1] [] (some (.int (sCh i x1))) [] := by
  refine CT.of RJ1 (by decide) rfl (Nat.le_of_ble_eq_true rfl) (fun p e s m below meth c ls A C hA hl hw => ?_)
  have hx := C.1.1
  have hb := C.1.2.1
  have hl : lv_has ls 2 [(0, .ref (cS.2.2 i)), (1, .int x1)] := hl
  have hT := (C.2.2.2.2.1.1 i hi).2.2.2
  refine lv_iload_n hx hb dJ1_charAt_3b067_0 rfl (lv_at hl 1 rfl) ?_
  refine lv_aload_n hx hb dJ1_charAt_3b067_1 rfl (lv_at hl 0 rfl) ?_
  refine va_tlen hx hb hT hw.2.2 (v := nI (sLen.getD i 0)) rfl dJ1_charAt_3b067_2 ?_
  refine k_callS (nC := 0) [] C hl.1 (tJ0_checkIndex h0 h1) mL_J1_9 mmJ0_checkIndex_df160 rfl rfl ⟨Nat.le_of_ble_eq_true rfl, Nat.le_of_ble_eq_true rfl⟩ rfl rfl (Nat.le_of_ble_eq_true rfl) hA hw [] [] rfl (by decide +kernel) rfl rfl rfl rfl dJ1_charAt_3b067_3 (fun H locs hw => ?_)
  refine lv_aload_n hx hb dJ1_charAt_3b067_6 rfl (lv_at hl 0 rfl) ?_
  refine lv_iload_n hx hb dJ1_charAt_3b067_7 rfl (lv_at hl 1 rfl) ?_
  refine va_tb hx hb hT hw.2.2 hv rfl dJ1_charAt_3b067_8 ?_
  refine lv_sipush (v := 255) hx hb dJ1_charAt_3b067_9 (by decide) ?_
  refine lv_iand hx hb dJ1_charAt_3b067_12 ?_
  refine lv_i2c (v := sCh i x1) hx hb dJ1_charAt_3b067_13 rfl ?_
  exact k_cret C (pk_nc _) hw dJ1_charAt_3b067_14
def rmJ0_isLatin1_aae02 : Room := { frames := 0, cells := 0, slots := 0, locals := 0 }
set_option maxRecDepth 100000 in
theorem tJ0_isLatin1 {l : Launch} {D : va_G} {cI : ClassId} {cS : GS} {i : Nat} (hi : i < 14) : CT l D cI cS yJ0_isLatin1_aae02 cJ0_isLatin1_aae02 1 (some .boolean) rmJ0_isLatin1_aae02 [.ref (cS.2.1 i)] [] (some (.int 1)) [] := by
  refine CT.of RJ0 (by decide) rfl (Nat.le_of_ble_eq_true rfl) (fun p e s m below meth c ls A C hA hl hw => ?_)
  have hx := C.1.1
  have hb := C.1.2.1
  have hl : lv_has ls 1 [(0, .ref (cS.2.1 i))] := hl
  refine k_gets C C.2.2.2.2.2.1 mF_J0_38 hw dJ0_isLatin1_aae02_0 ?_
  refine lv_if_eq (tgt := 17) hx hb dJ0_isLatin1_aae02_3 (by decide) (fun c1 => absurd c1 (by decide)) (fun c1 => ?_)
  refine lv_aload_n hx hb dJ0_isLatin1_aae02_6 rfl (lv_at hl 0 rfl) ?_
  refine k_sget C hi (C.2.2.2.2.1.1 i hi).2.1 mF_J0_15 hw dJ0_isLatin1_aae02_7 ?_
  refine lv_if_ne (tgt := 17) hx hb dJ0_isLatin1_aae02_10 (by decide) (fun c1 => absurd rfl c1) (fun c1 => ?_)
  refine lv_iconst (v := 1) hx hb dJ0_isLatin1_aae02_13 (by decide) ?_
  refine lv_goto (tgt := 18) hx hb dJ0_isLatin1_aae02_14 (by decide) ?_
  exact k_zret (v := 1) C rfl hw dJ0_isLatin1_aae02_18
def rmJ0_coder_7d493 : Room := { frames := 0, cells := 0, slots := 0, locals := 0 }
set_option maxRecDepth 100000 in
theorem tJ0_coder {l : Launch} {D : va_G} {cI : ClassId} {cS : GS} {i : Nat} (hi : i < 14) : CT l D cI cS yJ0_coder_7d493 cJ0_coder_7d493 1 (some .byte) rmJ0_coder_7d493 [.ref (cS.2.1 i)] [] (some (.int 0)) [] := by
  refine CT.of RJ0 (by decide) rfl (Nat.le_of_ble_eq_true rfl) (fun p e s m below meth c ls A C hA hl hw => ?_)
  have hx := C.1.1
  have hb := C.1.2.1
  have hl : lv_has ls 1 [(0, .ref (cS.2.1 i))] := hl
  refine k_gets C C.2.2.2.2.2.1 mF_J0_38 hw dJ0_coder_7d493_0 ?_
  refine lv_if_eq (tgt := 13) hx hb dJ0_coder_7d493_3 (by decide) (fun c1 => absurd c1 (by decide)) (fun c1 => ?_)
  refine lv_aload_n hx hb dJ0_coder_7d493_6 rfl (lv_at hl 0 rfl) ?_
  refine k_sget C hi (C.2.2.2.2.1.1 i hi).2.1 mF_J0_15 hw dJ0_coder_7d493_7 ?_
  refine lv_goto (tgt := 14) hx hb dJ0_coder_7d493_10 (by decide) ?_
  exact k_cret (v := 0) C rfl hw dJ0_coder_7d493_14
def rmJ0_length_8abf5 : Room := { frames := 1, cells := 0, slots := 0, locals := 20 }
theorem s_shr0 : ∀ i, i < 14 → nI (sLen.getD i 0) >>> ((0 : Int32) &&& 31) = nI (sLen.getD i 0) := by decide +kernel
set_option maxRecDepth 100000 in
theorem tJ0_length {l : Launch} {D : va_G} {cI : ClassId} {cS : GS} {i : Nat} (hi : i < 14) : CT l D cI cS yJ0_length_8abf5 cJ0_length_8abf5 1 (some .int) rmJ0_length_8abf5 [.ref (cS.2.1 i)] [] (some (.int (nI (sLen.getD i 0)))) [] := by
  refine CT.of RJ0 (by decide) rfl (Nat.le_of_ble_eq_true rfl) (fun p e s m below meth c ls A C hA hl hw => ?_)
  have hx := C.1.1
  have hb := C.1.2.1
  have hl : lv_has ls 1 [(0, .ref (cS.2.1 i))] := hl
  have hT := (C.2.2.2.2.1.1 i hi).2.2.2
  refine lv_aload_n hx hb dJ0_length_8abf5_0 rfl (lv_at hl 0 rfl) ?_
  refine k_sget C hi (C.2.2.2.2.1.1 i hi).2.2.1 mF_J0_9 hw dJ0_length_8abf5_1 ?_
  refine va_tlen hx hb hT hw.2.2 (v := nI (sLen.getD i 0)) rfl dJ0_length_8abf5_4 ?_
  refine lv_aload_n hx hb dJ0_length_8abf5_5 rfl (lv_at hl 0 rfl) ?_
  refine k_callW (nC := 0) [] C hl.1 (tJ0_coder hi) mL_J0_335 mmJ0_coder_7d493 rfl rfl ⟨Nat.le_of_ble_eq_true rfl, Nat.le_of_ble_eq_true rfl⟩ rfl (vk_recv C.2.2.2.2.1 hi hw.2.2) rfl (Nat.le_of_ble_eq_true rfl) hA hw [] [] rfl (by decide +kernel) rfl rfl rfl rfl dJ0_length_8abf5_6 (fun H locs hw => ?_)
  refine lv_ishr hx hb dJ0_length_8abf5_9 ?_
  have e0 := s_shr0 i hi
  refine k_nm (congrArg some e0) ?_
  exact k_iret C hw dJ0_length_8abf5_10
def rmJ0_charAt_5068e : Room := { frames := 3, cells := 0, slots := 0, locals := 64 }
set_option maxRecDepth 100000 in
theorem tJ0_charAt {l : Launch} {D : va_G} {cI : ClassId} {cS : GS} {i : Nat} {x1 : Int32} (hi : i < 14) (h0 : ¬ x1 < 0) (h1 : x1 < nI (sLen.getD i 0)) (hv : vp_in x1 (sLen.getD i 0)) : CT l D cI cS yJ0_charAt_5068e cJ0_charAt_5068e 2 (some .char) rmJ0_charAt_5068e [.ref (cS.2.1 i), .int x1] [] (some (.int (sCh i x1))) [] := by
  refine CT.of RJ0 (by decide) rfl (Nat.le_of_ble_eq_true rfl) (fun p e s m below meth c ls A C hA hl hw => ?_)
  have hx := C.1.1
  have hb := C.1.2.1
  have hl : lv_has ls 2 [(0, .ref (cS.2.1 i)), (1, .int x1)] := hl
  refine lv_aload_n hx hb dJ0_charAt_5068e_0 rfl (lv_at hl 0 rfl) ?_
  refine k_callW (nC := 0) [] C hl.1 (tJ0_isLatin1 hi) mL_J0_492 mmJ0_isLatin1_aae02 rfl rfl ⟨Nat.le_of_ble_eq_true rfl, Nat.le_of_ble_eq_true rfl⟩ rfl (vk_recv C.2.2.2.2.1 hi hw.2.2) rfl (Nat.le_of_ble_eq_true rfl) hA hw [] [] rfl (by decide +kernel) rfl rfl rfl rfl dJ0_charAt_5068e_1 (fun H locs hw => ?_)
  refine lv_if_eq (tgt := 16) hx hb dJ0_charAt_5068e_4 (by decide) (fun c1 => absurd c1 (by decide)) (fun c1 => ?_)
  refine lv_aload_n hx hb dJ0_charAt_5068e_7 rfl (lv_at hl 0 rfl) ?_
  refine k_sget C hi (C.2.2.2.2.1.1 i hi).2.2.1 mF_J0_9 hw dJ0_charAt_5068e_8 ?_
  refine lv_iload_n hx hb dJ0_charAt_5068e_11 rfl (lv_at hl 1 rfl) ?_
  refine k_callS (nC := 0) [] C hl.1 (tJ1_charAt hi h0 h1 hv) mL_J0_495 mmJ1_charAt_3b067 rfl rfl ⟨Nat.le_of_ble_eq_true rfl, Nat.le_of_ble_eq_true rfl⟩ rfl rfl (Nat.le_of_ble_eq_true rfl) hA hw [] [] rfl (by decide +kernel) rfl rfl rfl rfl dJ0_charAt_5068e_12 (fun H locs hw => ?_)
  exact k_cret C (pk_nc _) hw dJ0_charAt_5068e_15
/-- the pure side: length and charAt of text i -/
def sLn (i : Nat) : Option Int32 := if i < 14 then some (nI (sLen.getD i 0)) else none
def sAt (i : Nat) (k : Int32) : Option Int32 := if i < 14 ∧ ¬ k < 0 ∧ k < nI (sLen.getD i 0) ∧ ¬ (k < 0 ∨ sLen.getD i 0 ≤ k.toNatClampNeg) then some (sCh i k) else none
theorem tS_length {l : Launch} {D : va_G} {cI : ClassId} {cS : GS} {i : Nat} {res : Int32} (h : sLn i = some res) : CT l D cI cS yJ0_length_8abf5 cJ0_length_8abf5 1 (some .int) rmJ0_length_8abf5 [.ref (cS.2.1 i)] [] (some (.int res)) [] := by
  unfold sLn at h
  split at h
  · cases h; exact tJ0_length (by assumption)
  · cases h
theorem tS_charAt {l : Launch} {D : va_G} {cI : ClassId} {cS : GS} {i : Nat} {x1 res : Int32} (h : sAt i x1 = some res) : CT l D cI cS yJ0_charAt_5068e cJ0_charAt_5068e 2 (some .char) rmJ0_charAt_5068e [.ref (cS.2.1 i), .int x1] [] (some (.int res)) [] := by
  unfold sAt at h
  split at h
  · rename_i c; cases h; exact tJ0_charAt c.1 c.2.1 c.2.2.1 c.2.2.2
  · cases h
theorem sLn_lt {i : Nat} {res : Int32} (h : sLn i = some res) : i < 14 := by
  unfold sLn at h
  split at h
  · assumption
  · cases h
theorem sAt_lt {i : Nat} {k res : Int32} (h : sAt i k = some res) : i < 14 := by
  unfold sAt at h
  split at h
  · rename_i c; exact c.1
  · cases h
