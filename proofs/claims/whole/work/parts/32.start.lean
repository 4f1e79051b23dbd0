/-! what is known at the law's entry -/
def tmS (i : Nat) : Term := Term.string "BoxedPapers$Text" (86 + 2 * i)
def FLC : List Cond := flatC (Jvm.Cond.and given_1 narrow_1)
theorem st_ex : ∀ i, i < 14 → Cond.exactly (tmS i) "java/lang/String" ∈ FLC := by decide +kernel
theorem st_co : ∀ i, i < 14 → Cond.eq (.field (tmS i) "java/lang/String" "coder" "B") (.int 0) ∈ FLC := by decide +kernel
theorem st_ar : ∀ i, i < 14 → Cond.arrayOf (.field (tmS i) "java/lang/String" "value" "[B") .byte ∈ FLC := by decide +kernel
theorem st_le : ∀ i, i < 14 → Cond.eq (.length (.field (tmS i) "java/lang/String" "value" "[B")) (.int (Int32.ofNat (sLen.getD i 0))) ∈ FLC := by decide +kernel
theorem st_el : ∀ i, i < 14 → ∀ j, j < sLen.getD i 0 → Cond.eq (.elem (.field (tmS i) "java/lang/String" "value" "[B") (.int (Int32.ofNat j))) (.int ((sByt.getD i []).getD j 0)) ∈ FLC := by decide +kernel
theorem st_ne0 : ∀ j, j < 14 → j ≠ 0 → Cond.not (Cond.eq (tmS 0) (tmS j)) ∈ FLC ∨ Cond.not (Cond.eq (tmS j) (tmS 0)) ∈ FLC := by decide +kernel
theorem st_ne1 : ∀ j, j < 14 → j ≠ 1 → Cond.not (Cond.eq (tmS 1) (tmS j)) ∈ FLC ∨ Cond.not (Cond.eq (tmS j) (tmS 1)) ∈ FLC := by decide +kernel
theorem st_ne2 : ∀ j, j < 14 → j ≠ 2 → Cond.not (Cond.eq (tmS 2) (tmS j)) ∈ FLC ∨ Cond.not (Cond.eq (tmS j) (tmS 2)) ∈ FLC := by decide +kernel
theorem st_ne3 : ∀ j, j < 14 → j ≠ 3 → Cond.not (Cond.eq (tmS 3) (tmS j)) ∈ FLC ∨ Cond.not (Cond.eq (tmS j) (tmS 3)) ∈ FLC := by decide +kernel
theorem st_ne4 : ∀ j, j < 14 → j ≠ 4 → Cond.not (Cond.eq (tmS 4) (tmS j)) ∈ FLC ∨ Cond.not (Cond.eq (tmS j) (tmS 4)) ∈ FLC := by decide +kernel
theorem st_ne5 : ∀ j, j < 14 → j ≠ 5 → Cond.not (Cond.eq (tmS 5) (tmS j)) ∈ FLC ∨ Cond.not (Cond.eq (tmS j) (tmS 5)) ∈ FLC := by decide +kernel
theorem st_ne6 : ∀ j, j < 14 → j ≠ 6 → Cond.not (Cond.eq (tmS 6) (tmS j)) ∈ FLC ∨ Cond.not (Cond.eq (tmS j) (tmS 6)) ∈ FLC := by decide +kernel
theorem st_ne7 : ∀ j, j < 14 → j ≠ 7 → Cond.not (Cond.eq (tmS 7) (tmS j)) ∈ FLC ∨ Cond.not (Cond.eq (tmS j) (tmS 7)) ∈ FLC := by decide +kernel
theorem st_ne8 : ∀ j, j < 14 → j ≠ 8 → Cond.not (Cond.eq (tmS 8) (tmS j)) ∈ FLC ∨ Cond.not (Cond.eq (tmS j) (tmS 8)) ∈ FLC := by decide +kernel
theorem st_ne9 : ∀ j, j < 14 → j ≠ 9 → Cond.not (Cond.eq (tmS 9) (tmS j)) ∈ FLC ∨ Cond.not (Cond.eq (tmS j) (tmS 9)) ∈ FLC := by decide +kernel
theorem st_ne10 : ∀ j, j < 14 → j ≠ 10 → Cond.not (Cond.eq (tmS 10) (tmS j)) ∈ FLC ∨ Cond.not (Cond.eq (tmS j) (tmS 10)) ∈ FLC := by decide +kernel
theorem st_ne11 : ∀ j, j < 14 → j ≠ 11 → Cond.not (Cond.eq (tmS 11) (tmS j)) ∈ FLC ∨ Cond.not (Cond.eq (tmS j) (tmS 11)) ∈ FLC := by decide +kernel
theorem st_ne12 : ∀ j, j < 14 → j ≠ 12 → Cond.not (Cond.eq (tmS 12) (tmS j)) ∈ FLC ∨ Cond.not (Cond.eq (tmS j) (tmS 12)) ∈ FLC := by decide +kernel
theorem st_ne13 : ∀ j, j < 14 → j ≠ 13 → Cond.not (Cond.eq (tmS 13) (tmS j)) ∈ FLC ∨ Cond.not (Cond.eq (tmS j) (tmS 13)) ∈ FLC := by decide +kernel
theorem st_ne (i : Nat) (hi : i < 14) (j : Nat) (hj : j < 14) (h : i ≠ j) : Cond.not (Cond.eq (tmS i) (tmS j)) ∈ FLC ∨ Cond.not (Cond.eq (tmS j) (tmS i)) ∈ FLC := by
  rcases (show i = 0 ∨ i = 1 ∨ i = 2 ∨ i = 3 ∨ i = 4 ∨ i = 5 ∨ i = 6 ∨ i = 7 ∨ i = 8 ∨ i = 9 ∨ i = 10 ∨ i = 11 ∨ i = 12 ∨ i = 13 by omega) with rfl | rfl | rfl | rfl | rfl | rfl | rfl | rfl | rfl | rfl | rfl | rfl | rfl | rfl
  · exact st_ne0 j hj h.symm
  · exact st_ne1 j hj h.symm
  · exact st_ne2 j hj h.symm
  · exact st_ne3 j hj h.symm
  · exact st_ne4 j hj h.symm
  · exact st_ne5 j hj h.symm
  · exact st_ne6 j hj h.symm
  · exact st_ne7 j hj h.symm
  · exact st_ne8 j hj h.symm
  · exact st_ne9 j hj h.symm
  · exact st_ne10 j hj h.symm
  · exact st_ne11 j hj h.symm
  · exact st_ne12 j hj h.symm
  · exact st_ne13 j hj h.symm
theorem st_sl : ∀ i, i < 14 → sLen.getD i 0 < 2 ^ 31 := by decide +kernel
theorem st_cs : Cond.eq (.static "java/lang/String" "COMPACT_STRINGS" "Z") (.int 1) ∈ FLC := by decide +kernel
theorem st_pf : Cond.isRef (.static "jdk/internal/util/Preconditions" "SIOOBE_FORMATTER" "Ljava/util/function/BiFunction;") ∈ FLC := by decide +kernel
theorem mN_X7 : Cond.instantiable RX7 7 ∈ TT := TT_1 18 rfl rfl
theorem mK_X7_init : Cond.code yX7_init cX7_init 1 none ∈ TT := TT_1 21 rfl rfl
theorem mM_X7_init : Cond.instanceMethod yX7_init ∈ TT := TT_1 20 rfl rfl
theorem hdX7_init : yX7_init.cls ≠ "java/lang/invoke/MethodHandle" ∧ yX7_init.cls ≠ "java/lang/invoke/VarHandle" ∧ (parseMethodDescriptor yX7_init.desc).map (fun d => d.parameters.length) = some 0 := by decide +kernel
theorem mmX7_init : CWd yX7_init cX7_init 1 none 0 := ⟨mI_BoxedPapers, mK_X7_init, hdX7_init⟩
theorem mN_X8 : Cond.instantiable RX8 25 ∈ TT := TT_4 176 rfl rfl
theorem mK_X8_init : Cond.code yX8_init cX8_init 1 none ∈ TT := TT_4 179 rfl rfl
theorem mM_X8_init : Cond.instanceMethod yX8_init ∈ TT := TT_4 178 rfl rfl
theorem hdX8_init : yX8_init.cls ≠ "java/lang/invoke/MethodHandle" ∧ yX8_init.cls ≠ "java/lang/invoke/VarHandle" ∧ (parseMethodDescriptor yX8_init.desc).map (fun d => d.parameters.length) = some 0 := by decide +kernel
theorem mmX8_init : CWd yX8_init cX8_init 1 none 0 := ⟨mI_BoxedPapersModel, mK_X8_init, hdX8_init⟩
theorem mJ_L_7 : Cond.classLink RL 7 RX7 ∈ TT := TT_1 17 rfl rfl
theorem mJ_L_10 : Cond.classLink RL 10 RX8 ∈ TT := TT_4 175 rfl rfl
theorem mL_L_9 : Cond.methodLink RL 9 yX7_init ∈ TT := TT_1 19 rfl rfl
theorem mL_L_12 : Cond.methodLink RL 12 yX8_init ∈ TT := TT_4 177 rfl rfl
theorem sr_0 : Cond.stringRef RX6 86 "all" ∈ lw_tbl := (List.mem_append_right _ (List.mem_append_right _ (List.mem_append_left _ (List.mem_of_getElem? (i := 19) rfl))))
theorem sr_1 : Cond.stringRef RX6 88 "series" ∈ lw_tbl := (List.mem_append_right _ (List.mem_append_right _ (List.mem_append_left _ (List.mem_of_getElem? (i := 20) rfl))))
theorem sr_2 : Cond.stringRef RX6 90 "top" ∈ lw_tbl := (List.mem_append_right _ (List.mem_append_right _ (List.mem_append_left _ (List.mem_of_getElem? (i := 21) rfl))))
theorem sr_3 : Cond.stringRef RX6 92 "box" ∈ lw_tbl := (List.mem_append_right _ (List.mem_append_right _ (List.mem_append_left _ (List.mem_of_getElem? (i := 22) rfl))))
theorem sr_4 : Cond.stringRef RX6 94 "lay" ∈ lw_tbl := (List.mem_append_right _ (List.mem_append_right _ (List.mem_append_left _ (List.mem_of_getElem? (i := 23) rfl))))
theorem sr_5 : Cond.stringRef RX6 96 "take" ∈ lw_tbl := (List.mem_append_right _ (List.mem_append_right _ (List.mem_append_left _ (List.mem_of_getElem? (i := 24) rfl))))
theorem sr_6 : Cond.stringRef RX6 98 "row" ∈ lw_tbl := (List.mem_append_right _ (List.mem_append_right _ (List.mem_append_left _ (List.mem_of_getElem? (i := 25) rfl))))
theorem sr_7 : Cond.stringRef RX6 100 "pass" ∈ lw_tbl := (List.mem_append_right _ (List.mem_append_right _ (List.mem_append_left _ (List.mem_of_getElem? (i := 26) rfl))))
theorem sr_8 : Cond.stringRef RX6 102 "" ∈ lw_tbl := (List.mem_append_right _ (List.mem_append_right _ (List.mem_append_left _ (List.mem_of_getElem? (i := 82) rfl))))
theorem sr_9 : Cond.stringRef RX6 104 "PAB" ∈ lw_tbl := (List.mem_append_right _ (List.mem_append_right _ (List.mem_append_left _ (List.mem_of_getElem? (i := 83) rfl))))
theorem sr_10 : Cond.stringRef RX6 106 "AB" ∈ lw_tbl := (List.mem_append_right _ (List.mem_append_right _ (List.mem_append_left _ (List.mem_of_getElem? (i := 84) rfl))))
theorem sr_11 : Cond.stringRef RX6 108 "XR" ∈ lw_tbl := (List.mem_append_right _ (List.mem_append_right _ (List.mem_append_left _ (List.mem_of_getElem? (i := 85) rfl))))
theorem sr_12 : Cond.stringRef RX6 110 "XAB" ∈ lw_tbl := (List.mem_append_right _ (List.mem_append_right _ (List.mem_append_left _ (List.mem_of_getElem? (i := 86) rfl))))
theorem sr_13 : Cond.stringRef RX6 112 "N" ∈ lw_tbl := (List.mem_append_right _ (List.mem_append_right _ (List.mem_append_left _ (List.mem_of_getElem? (i := 87) rfl))))
theorem nf_61 : Cond.fieldLinkNest RX0 61 "BoxedPapers$Snapshot" "rooms" "[I" RX7 ∈ lw_tbl := (List.mem_append_right _ (List.mem_append_left _ (List.mem_of_getElem? (i := 92) rfl)))
theorem nf_56 : Cond.fieldLinkNest RX0 56 "BoxedPapers$Snapshot" "pieces" "LBoxedPapers$Ranges;" RX7 ∈ lw_tbl := (List.mem_append_right _ (List.mem_append_left _ (List.mem_of_getElem? (i := 94) rfl)))
theorem nf_47 : Cond.fieldLinkNest RX0 47 "BoxedPapers$Snapshot" "seriesCount" "I" RX7 ∈ lw_tbl := (List.mem_append_right _ (List.mem_append_left _ (List.mem_of_getElem? (i := 96) rfl)))
theorem nf_52 : Cond.fieldLinkNest RX0 52 "BoxedPapers$Snapshot" "moveCount" "I" RX7 ∈ lw_tbl := (List.mem_append_right _ (List.mem_append_left _ (List.mem_of_getElem? (i := 98) rfl)))
theorem nf_55 : Cond.fieldLinkNest RX0 55 "BoxedPapers$Snapshot" "day" "I" RX7 ∈ lw_tbl := (List.mem_append_right _ (List.mem_append_left _ (List.mem_of_getElem? (i := 100) rfl)))
theorem nm_X0_72 : Cond.methodLinkNest RX0 72 yX7_isRange RX7 ∈ lw_tbl := (List.mem_append_right _ (List.mem_append_right _ (List.mem_append_left _ (List.mem_of_getElem? (i := 155) rfl))))
theorem nm_X0_91 : Cond.methodLinkNest RX0 91 yX7_isBox RX7 ∈ lw_tbl := (List.mem_append_right _ (List.mem_append_right _ (List.mem_append_left _ (List.mem_of_getElem? (i := 203) rfl))))
theorem nm_X3_78 : Cond.methodLinkNest RX3 78 yX7_isBox RX7 ∈ lw_tbl := (List.mem_append_right _ (List.mem_append_right _ (List.mem_append_right _ (List.mem_append_left _ (List.mem_of_getElem? (i := 134) rfl)))))
theorem sa_over : Cond.arrayOver (.object "BoxedPapers$Snapshot") ∈ lw_tbl := (List.mem_append_right _ (List.mem_append_left _ (List.mem_of_getElem? (i := 83) rfl)))
theorem ls_cs : Cond.laysStatic "java/lang/String" "COMPACT_STRINGS" "Z" ∈ lw_tbl := (List.mem_append_right _ (List.mem_append_right _ (List.mem_append_left _ (List.mem_of_getElem? (i := 40) rfl))))
theorem ls_pf : Cond.laysStatic "jdk/internal/util/Preconditions" "SIOOBE_FORMATTER" "Ljava/util/function/BiFunction;" ∈ lw_tbl := (List.mem_append_right _ (List.mem_append_right _ (List.mem_append_left _ (List.mem_of_getElem? (i := 56) rfl))))
theorem in_java_lang_String : Cond.initialized "java/lang/String" ∈ lw_tbl := (List.mem_append_right _ (List.mem_append_left _ (List.mem_of_getElem? (i := 11) rfl)))
theorem in_jdk_internal_util_Preconditions : Cond.initialized "jdk/internal/util/Preconditions" ∈ lw_tbl := (List.mem_append_right _ (List.mem_append_left _ (List.mem_of_getElem? (i := 13) rfl)))
set_option maxHeartbeats 4000000 in
set_option maxRecDepth 100000 in
theorem st_env {s : State} {args : Array Value} (hts : ∀ w ∈ lw_tbl, w.before args s = true) (hgv : (Jvm.Cond.and given_1 narrow_1).before args s = true) : ∃ (D : va_G) (cI : ClassId) (cS : GS), KK D cI cS s ∧ SE cS (fun q : Nat => s.heap.size ≤ q) s s.heap ∧ va_AO SNP s := by
  have htT : ∀ w ∈ TT, w.before args s = true := fun w h => hts w (List.mem_filter.mp h).1
  have hs : ∀ w ∈ FLC, w.before args s = true := flat_of_before _ hgv
  have hA0 : ∀ a : Nat, a < s.heap.size → ¬ (fun q : Nat => s.heap.size ≤ q) a := fun a h => Nat.not_le.mpr h
  obtain ⟨c0, iS0, hKn0⟩ := u_known (C := RX0) (T := TX0) (N := 7) (n := 7) htT inT_X0 (htT _ mN_X0)
  obtain ⟨c1, iS1, hKn1⟩ := u_known (C := RX1) (T := TX1) (N := 3) (n := 3) htT inT_X1 (htT _ mN_X1)
  obtain ⟨c2, iS2, hKn2⟩ := u_known (C := RX2) (T := TX2) (N := 3) (n := 3) htT inT_X2 (htT _ mN_X2)
  obtain ⟨c3, iS3, hKn3⟩ := u_known (C := RX3) (T := TX3) (N := 4) (n := 4) htT inT_X3 (htT _ mN_X3)
  obtain ⟨c4, iS4, hKn4⟩ := u_known (C := RX4) (T := TX4) (N := 4) (n := 4) htT inT_X4 (htT _ mN_X4)
  obtain ⟨c5, iS5, hKn5⟩ := u_known (C := RX5) (T := TX5) (N := 5) (n := 5) htT inT_X5 (htT _ mN_X5)
  obtain ⟨c6, iS6, hKn6⟩ := u_known (C := RX6) (T := TX6) (N := 6) (n := 6) htT inT_X6 (htT _ mN_X6)
  obtain ⟨c7, iS7, hKn7⟩ := u_known (C := RX7) (T := TX7) (N := 7) (n := 7) htT inT_X7 (htT _ mN_X7)
  obtain ⟨c8, iS8, hKn8⟩ := u_known (C := RX8) (T := TX8) (N := 25) (n := 25) htT inT_X8 (htT _ mN_X8)
  obtain ⟨dC, dI, hKc⟩ : ∃ (dC : Nat → ClassId) (dI : Nat → Nat → Nat), ∀ (k : Nat) (q : vw_C), vwCl[k]? = some q → u_Kn s q.1 q.2.1 q.2.2 (dC k) (dI k) := by
    refine ⟨fun k => if k = 0 then c0 else if k = 1 then c1 else if k = 2 then c2 else if k = 3 then c3 else if k = 4 then c4 else if k = 5 then c5 else if k = 6 then c6 else if k = 7 then c7 else c8, fun k => if k = 0 then iS0 else if k = 1 then iS1 else if k = 2 then iS2 else if k = 3 then iS3 else if k = 4 then iS4 else if k = 5 then iS5 else if k = 6 then iS6 else if k = 7 then iS7 else iS8, ?_⟩
    intro k q hq
    match k, hq with
    | 0, hq => cases hq; exact hKn0
    | 1, hq => cases hq; exact hKn1
    | 2, hq => cases hq; exact hKn2
    | 3, hq => cases hq; exact hKn3
    | 4, hq => cases hq; exact hKn4
    | 5, hq => cases hq; exact hKn5
    | 6, hq => cases hq; exact hKn6
    | 7, hq => cases hq; exact hKn7
    | 8, hq => cases hq; exact hKn8
    | k + 9, hq => simp [vwCl] at hq
  obtain ⟨cI, kI, mI, i1, i2, i3⟩ := Cond.arrayClass_spec (htT _ mA_int)
  obtain ⟨mS, c9, kS, s1, s2, s3, s4, s5⟩ := Cond.arrayOver_spec (hts _ sa_over)
  obtain ⟨adK, adV, hStr, hev⟩ := vk_Sof (args := args) (s := s) (N := 14) (tm := tmS) (len := sLen) (byt := sByt) (A := fun q : Nat => s.heap.size ≤ q) st_sl (fun i hi => hs _ (st_ex i hi)) (fun i hi => hs _ (st_co i hi)) (fun i hi => hs _ (st_ar i hi)) (fun i hi => hs _ (st_le i hi)) (fun i hi j hj => hs _ (st_el i hi j hj)) (fun i j hi hj hij => (st_ne i hi j hj hij).elim (fun h => Or.inl (hs _ h)) (fun h => Or.inr (hs _ h))) hA0
  have hR : ∀ i : Nat, i < 14 → vk_R RX6 (86 + 2 * i) (sTx.getD i "") (adK i) s := by
    intro i hi
    have hw : (Cond.stringRef RX6 (86 + 2 * i) (sTx.getD i "")).before args s = true := by
      rcases (show i = 0 ∨ i = 1 ∨ i = 2 ∨ i = 3 ∨ i = 4 ∨ i = 5 ∨ i = 6 ∨ i = 7 ∨ i = 8 ∨ i = 9 ∨ i = 10 ∨ i = 11 ∨ i = 12 ∨ i = 13 by omega) with rfl | rfl | rfl | rfl | rfl | rfl | rfl | rfl | rfl | rfl | rfl | rfl | rfl | rfl
      · exact hts _ sr_0
      · exact hts _ sr_1
      · exact hts _ sr_2
      · exact hts _ sr_3
      · exact hts _ sr_4
      · exact hts _ sr_5
      · exact hts _ sr_6
      · exact hts _ sr_7
      · exact hts _ sr_8
      · exact hts _ sr_9
      · exact hts _ sr_10
      · exact hts _ sr_11
      · exact hts _ sr_12
      · exact hts _ sr_13
    exact vk_R.of hw (hev i hi)
  refine ⟨(dC, dI), cI, (c9, adK, adV), ⟨⟨hKc, ?_⟩, ⟨va_Nw.of rfl (hts _ nf_61), va_Nw.of rfl (hts _ nf_56), va_Nw.of rfl (hts _ nf_47), va_Nw.of rfl (hts _ nf_52), va_Nw.of rfl (hts _ nf_55)⟩, ⟨va_Nw.of rfl (hts _ nm_X0_72), va_Nw.of rfl (hts _ nm_X0_91), va_Nw.of rfl (hts _ nm_X3_78)⟩, hR⟩, ⟨hStr, va_Zof (hts _ ls_cs) (hts _ in_java_lang_String) (va_eqt (hs _ st_cs)) hA0, va_Zqof (hts _ ls_pf) (hts _ in_jdk_internal_util_Preconditions) (hs _ st_pf) hA0⟩, va_AO.of (hts _ sa_over)⟩
  intro k q hq
  match k, hq with
  | 0, hq => cases hq; exact ⟨fun n z => ⟨fun k h => (by cases h), kI, i2, mI, i3⟩, i1⟩
  | 1, hq => cases hq; exact ⟨fun n z => ⟨fun k h => (by cases h), kS, s3, mS, s4⟩, kS, mS, s3, s4, s1, s5⟩
  | k + 2, hq => simp at hq
def XS0 : XS := (Zf, Zf, 0, (Zf, Zf, Zf, 0), (Zf, Zf, Zf, 0), (Zf, Zf, Zf, 0), (Zf, Zf, Zf, 0), (fun _ => (Zf, (Zf, Zf, Zf, 0), 0, 0, 0)), 0, 0, Zf, 0, (Zf, Zf, Zf, 0), (Zf, Zf, Zf, 0), (Zf, Zf, Zf, 0), Zf, Zf, Zf, 0, 0, 0, Zf, 0, (-1), Zf, 0, (-1))
def MS0 : MS := (Zf, 0, Zf, 0, Zf, 0, Zf, 0, Zf, 0, 0, 0, Zf, 0, Zf, 0, 0, Zf, 0, wX8_339, wX8_462, Zf, Zf, Zf, 0)
theorem Wd.fl1 {D : va_G} {A : Nat → Prop} {H0 H : Heap} {locs : List Loc} {cs : List va_W} (h : Wd D A H0 H locs cs) : Wd D A H0 H locs [cs.flatten] := h.perm (by simp)
theorem Wd.fl2 {D : va_G} {A : Nat → Prop} {H0 H : Heap} {locs : List Loc} {c : va_W} {cs : List va_W} (h : Wd D A H0 H locs (c :: cs)) : Wd D A H0 H locs [c, cs.flatten] := h.perm (by simp)
set_option maxHeartbeats 4000000 in
set_option maxRecDepth 100000 in
theorem start_of {R : Nat → XS → MS → Prop} (hSim : Sim R) (h0 : R 0 XS0 MS0) {p : Program} {e : Env} {s : State} {m : MethodId} {below : List Frame} {meth : Method} {c : Code} (l : Launch) {b L : Nat} {xs : Nat → Int32} (hL : L ≤ 2048) (C0 : lw_At p s m meth c b L xs) : W p l e room_1 s m #[Value.ref b] below meth c s.heap [] 0 0 (lw_Z below #[Value.ref b] s) (entryFrame m ([Value.ref b] : List Value).toArray 4) := by
  obtain ⟨hx, hb, hr, hml, hown, hts, hX, hbl, hlocks, hgv⟩ := id C0
  obtain ⟨D, cI, cS, hKK, hSE, hO⟩ := st_env hts hgv
  have C : MC p s m #[Value.ref b] meth c D cI cS (fun q : Nat => s.heap.size ≤ q) RL code 4 ret := ⟨⟨hx, hb, hml, hown, fun w h => hts w (List.mem_filter.mp h).1⟩, hr, hlocks, hKK, hSE⟩
  have hA : ∀ q : Nat, s.heap.size ≤ q → (fun q : Nat => s.heap.size ≤ q) q := fun _ h => h
  have hw : Wd D (fun q : Nat => s.heap.size ≤ q) s.heap s.heap [] [] := ⟨fun k q h => by simp at h, ⟨fun i j p q h => by simp at h, fun k q h => by simp at h⟩, va_S.rf⟩
  have hl := lv_entry ([.ref b]) (n := 4) (Nat.le_of_ble_eq_true rfl)
  rw [lg_entry_eq]
  generalize (lg_sl ([.ref b]) ++ List.replicate (4 - (lg_sl ([.ref b])).length) Slot.unset).toArray = ls at hl ⊢
  have hl : lv_has ls 4 [(0, .ref b)] := hl
  refine n_new (ci := 7) C hA hw inT_X7 tyX7 tyX7_ok mJ_L_7 mN_X7 mI_BoxedPapers rfl [.null, .null, .null, .null, .null, .null, .null] (fun j hj => by rcases (show j = 0 ∨ j = 1 ∨ j = 2 ∨ j = 3 ∨ j = 4 ∨ j = 5 ∨ j = 6 by omega) with rfl | rfl | rfl | rfl | rfl | rfl | rfl <;> rfl) (Nat.le_of_ble_eq_true rfl) (Nat.le_of_ble_eq_true rfl) dL_law_0 (fun q0 H hw0 => ?_)
  refine lv_dup hx hb dL_law_3 rfl ?_
  refine n_call C hO hA hl.1 hw0 (nX7 (h0 := q0)) mL_L_9 rfl mM_X7_init mmX7_init ⟨(Nat.le_of_ble_eq_true rfl), (Nat.le_of_ble_eq_true rfl)⟩ rfl rfl (Nat.le_of_ble_eq_true rfl) (Nat.le_of_ble_eq_true rfl) (Nat.le_of_ble_eq_true rfl) dL_law_4 (fun u H locs hu hw4 => ?_)
  obtain ⟨ux, eu⟩ : ∃ z : UX, z = u := ⟨_, rfl⟩
  subst eu
  have hu : q0 = ux.1 0 := hu
  subst hu
  have hw5 : Wd D (fun q : Nat => s.heap.size ≤ q) s.heap H locs [(wX cI cS ux Zf Zf 0 (Zf, Zf, Zf, 0) (Zf, Zf, Zf, 0) (Zf, Zf, Zf, 0) (Zf, Zf, Zf, 0) (fun _ => (Zf, (Zf, Zf, Zf, 0), 0, 0, 0)) 0 0 Zf 0 (Zf, Zf, Zf, 0) (Zf, Zf, Zf, 0) (Zf, Zf, Zf, 0) Zf Zf Zf 0 0 0 Zf 0 (-1) Zf 0 (-1)).flatten] := Wd.fl1 hw4
  refine lv_astore_n (lv' := [(1, .ref (ux.1 0)), (0, .ref b)]) hx hb dL_law_7 rfl hl (by decide) rfl (fun ls hl => ?_)
  refine n_new (ci := 8) C hA hw5 inT_X8 tyX8 tyX8_ok mJ_L_10 mN_X8 mI_BoxedPapersModel rfl [.null, .int 0, .null, .int 0, .null, .int 0, .null, .int 0, .null, .int 0, .int 0, .int 0, .null, .int 0, .null, .int 0, .int 0, .null, .int 0, .null, .null, .null, .null, .null, .int 0] (fun j hj => by rcases (show j = 0 ∨ j = 1 ∨ j = 2 ∨ j = 3 ∨ j = 4 ∨ j = 5 ∨ j = 6 ∨ j = 7 ∨ j = 8 ∨ j = 9 ∨ j = 10 ∨ j = 11 ∨ j = 12 ∨ j = 13 ∨ j = 14 ∨ j = 15 ∨ j = 16 ∨ j = 17 ∨ j = 18 ∨ j = 19 ∨ j = 20 ∨ j = 21 ∨ j = 22 ∨ j = 23 ∨ j = 24 by omega) with rfl | rfl | rfl | rfl | rfl | rfl | rfl | rfl | rfl | rfl | rfl | rfl | rfl | rfl | rfl | rfl | rfl | rfl | rfl | rfl | rfl | rfl | rfl | rfl | rfl <;> rfl) (Nat.le_of_ble_eq_true rfl) (Nat.le_of_ble_eq_true rfl) dL_law_8 (fun q8 H hw8 => ?_)
  refine lv_dup hx hb dL_law_11 rfl ?_
  refine n_call C hO hA hl.1 hw8 (nX8 (h0 := q8)) mL_L_12 rfl mM_X8_init mmX8_init ⟨(Nat.le_of_ble_eq_true rfl), (Nat.le_of_ble_eq_true rfl)⟩ rfl rfl (Nat.le_of_ble_eq_true rfl) (Nat.le_of_ble_eq_true rfl) (Nat.le_of_ble_eq_true rfl) dL_law_12 (fun u H locs hu hw12 => ?_)
  obtain ⟨um, eu⟩ : ∃ z : Nat → Nat, z = u := ⟨_, rfl⟩
  subst eu
  have hu : q8 = um 0 := hu
  subst hu
  have hw13 : Wd D (fun q : Nat => s.heap.size ≤ q) s.heap H locs [(wX cI cS ux Zf Zf 0 (Zf, Zf, Zf, 0) (Zf, Zf, Zf, 0) (Zf, Zf, Zf, 0) (Zf, Zf, Zf, 0) (fun _ => (Zf, (Zf, Zf, Zf, 0), 0, 0, 0)) 0 0 Zf 0 (Zf, Zf, Zf, 0) (Zf, Zf, Zf, 0) (Zf, Zf, Zf, 0) Zf Zf Zf 0 0 0 Zf 0 (-1) Zf 0 (-1)).flatten, (wM cI um Zf 0 Zf 0 Zf 0 Zf 0 Zf 0 0 0 Zf 0 Zf 0 0 Zf 0 wX8_339 wX8_462 Zf Zf Zf 0).flatten] := Wd.fl2 hw12
  refine lv_astore_n (lv' := [(2, .ref (um 0)), (1, .ref (ux.1 0)), (0, .ref b)]) hx hb dL_law_15 rfl hl (by decide) rfl (fun ls hl => ?_)
  refine lv_iconst (v := 0) hx hb dL_law_16 (by decide) ?_
  refine lv_istore_n (lv' := [(3, .int 0), (2, .ref (um 0)), (1, .ref (ux.1 0)), (0, .ref b)]) hx hb dL_law_17 rfl hl (by decide) rfl (fun ls hl => ?_)
  refine W.widen (k := 112) (n := 9771) (Nat.le_of_ble_eq_true rfl) (Nat.le_of_ble_eq_true rfl) ?_
  exact law_loop hSim hL hX hbl C (L + 4) 0 _ _ _ _ _ _ _ _ _ _ _ _ _ _ _ _ _ _ _ _ _ _ _ _ _ _ _ _ _ _ _ _ _ _ _ _ _ _ _ _ _ _ _ _ _ _ _ _ _ _ _ _ H locs ls (Nat.zero_le L) (by omega) h0 hw13 (lv_sub hl [3, 2, 1, 0] rfl)
