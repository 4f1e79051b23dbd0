theorem inT_X0 : ∀ w ∈ u_ws RX0 TX0 7, w ∈ TT := fun w h => by
  obtain ⟨k, hk, rfl⟩ := List.mem_map.mp h
  have hk := List.mem_range.mp hk
  rcases (show k = 0 ∨ k = 1 ∨ k = 2 ∨ k = 3 ∨ k = 4 ∨ k = 5 ∨ k = 6 by omega) with rfl | rfl | rfl | rfl | rfl | rfl | rfl
  · exact (TT_1 61 rfl rfl)
  · exact (TT_1 63 rfl rfl)
  · exact (TT_1 65 rfl rfl)
  · exact (TT_1 67 rfl rfl)
  · exact (TT_1 69 rfl rfl)
  · exact (TT_1 71 rfl rfl)
  · exact (TT_1 73 rfl rfl)
theorem inT_X1 : ∀ w ∈ u_ws RX1 TX1 3, w ∈ TT := fun w h => by
  obtain ⟨k, hk, rfl⟩ := List.mem_map.mp h
  have hk := List.mem_range.mp hk
  rcases (show k = 0 ∨ k = 1 ∨ k = 2 by omega) with rfl | rfl | rfl
  · exact (TT_1 115 rfl rfl)
  · exact (TT_1 117 rfl rfl)
  · exact (TT_1 119 rfl rfl)
theorem inT_X2 : ∀ w ∈ u_ws RX2 TX2 3, w ∈ TT := fun w h => by
  obtain ⟨k, hk, rfl⟩ := List.mem_map.mp h
  have hk := List.mem_range.mp hk
  rcases (show k = 0 ∨ k = 1 ∨ k = 2 by omega) with rfl | rfl | rfl
  · exact (TT_1 179 rfl rfl)
  · exact (TT_1 181 rfl rfl)
  · exact (TT_1 183 rfl rfl)
theorem inT_X3 : ∀ w ∈ u_ws RX3 TX3 4, w ∈ TT := fun w h => by
  obtain ⟨k, hk, rfl⟩ := List.mem_map.mp h
  have hk := List.mem_range.mp hk
  rcases (show k = 0 ∨ k = 1 ∨ k = 2 ∨ k = 3 by omega) with rfl | rfl | rfl | rfl
  · exact (TT_1 134 rfl rfl)
  · exact (TT_1 136 rfl rfl)
  · exact (TT_1 138 rfl rfl)
  · exact (TT_1 140 rfl rfl)
theorem inT_X4 : ∀ w ∈ u_ws RX4 TX4 4, w ∈ TT := fun w h => by
  obtain ⟨k, hk, rfl⟩ := List.mem_map.mp h
  have hk := List.mem_range.mp hk
  rcases (show k = 0 ∨ k = 1 ∨ k = 2 ∨ k = 3 by omega) with rfl | rfl | rfl | rfl
  · exact (TT_1 44 rfl rfl)
  · exact (TT_1 46 rfl rfl)
  · exact (TT_1 48 rfl rfl)
  · exact (TT_1 50 rfl rfl)
theorem inT_X5 : ∀ w ∈ u_ws RX5 TX5 5, w ∈ TT := fun w h => by
  obtain ⟨k, hk, rfl⟩ := List.mem_map.mp h
  have hk := List.mem_range.mp hk
  rcases (show k = 0 ∨ k = 1 ∨ k = 2 ∨ k = 3 ∨ k = 4 by omega) with rfl | rfl | rfl | rfl | rfl
  · exact (TT_1 101 rfl rfl)
  · exact (TT_1 103 rfl rfl)
  · exact (TT_1 105 rfl rfl)
  · exact (TT_1 107 rfl rfl)
  · exact (TT_1 109 rfl rfl)
theorem inT_X6 : ∀ w ∈ u_ws RX6 TX6 6, w ∈ TT := fun w h => by
  obtain ⟨k, hk, rfl⟩ := List.mem_map.mp h
  have hk := List.mem_range.mp hk
  rcases (show k = 0 ∨ k = 1 ∨ k = 2 ∨ k = 3 ∨ k = 4 ∨ k = 5 by omega) with rfl | rfl | rfl | rfl | rfl | rfl
  · exact (TT_1 157 rfl rfl)
  · exact (TT_1 159 rfl rfl)
  · exact (TT_1 161 rfl rfl)
  · exact (TT_1 163 rfl rfl)
  · exact (TT_1 165 rfl rfl)
  · exact (TT_1 167 rfl rfl)
theorem inT_X7 : ∀ w ∈ u_ws RX7 TX7 7, w ∈ TT := fun w h => by
  obtain ⟨k, hk, rfl⟩ := List.mem_map.mp h
  have hk := List.mem_range.mp hk
  rcases (show k = 0 ∨ k = 1 ∨ k = 2 ∨ k = 3 ∨ k = 4 ∨ k = 5 ∨ k = 6 by omega) with rfl | rfl | rfl | rfl | rfl | rfl | rfl
  · exact (TT_1 193 rfl rfl)
  · exact (TT_1 195 rfl rfl)
  · exact (TT_1 197 rfl rfl)
  · exact (TT_1 199 rfl rfl)
  · exact (TT_1 201 rfl rfl)
  · exact (TT_1 203 rfl rfl)
  · exact (TT_1 205 rfl rfl)
theorem inT_X8 : ∀ w ∈ u_ws RX8 TX8 25, w ∈ TT := fun w h => by
  obtain ⟨k, hk, rfl⟩ := List.mem_map.mp h
  have hk := List.mem_range.mp hk
  rcases (show k = 0 ∨ k = 1 ∨ k = 2 ∨ k = 3 ∨ k = 4 ∨ k = 5 ∨ k = 6 ∨ k = 7 ∨ k = 8 ∨ k = 9 ∨ k = 10 ∨ k = 11 ∨ k = 12 ∨ k = 13 ∨ k = 14 ∨ k = 15 ∨ k = 16 ∨ k = 17 ∨ k = 18 ∨ k = 19 ∨ k = 20 ∨ k = 21 ∨ k = 22 ∨ k = 23 ∨ k = 24 by omega) with rfl | rfl | rfl | rfl | rfl | rfl | rfl | rfl | rfl | rfl | rfl | rfl | rfl | rfl | rfl | rfl | rfl | rfl | rfl | rfl | rfl | rfl | rfl | rfl | rfl
  · exact (TT_4 206 rfl rfl)
  · exact (TT_4 208 rfl rfl)
  · exact (TT_4 210 rfl rfl)
  · exact (TT_4 212 rfl rfl)
  · exact (TT_4 214 rfl rfl)
  · exact (TT_4 216 rfl rfl)
  · exact (TT_4 218 rfl rfl)
  · exact (TT_4 220 rfl rfl)
  · exact (TT_4 222 rfl rfl)
  · exact (TT_4 224 rfl rfl)
  · exact (TT_4 226 rfl rfl)
  · exact (TT_4 228 rfl rfl)
  · exact (TT_4 230 rfl rfl)
  · exact (TT_4 232 rfl rfl)
  · exact (TT_4 234 rfl rfl)
  · exact (TT_4 236 rfl rfl)
  · exact (TT_4 238 rfl rfl)
  · exact (TT_5 0 rfl rfl)
  · exact (TT_5 2 rfl rfl)
  · exact (TT_5 4 rfl rfl)
  · exact (TT_5 6 rfl rfl)
  · exact (TT_5 8 rfl rfl)
  · exact (TT_5 10 rfl rfl)
  · exact (TT_5 12 rfl rfl)
  · exact (TT_5 14 rfl rfl)
theorem mF_X4_27 : Cond.fieldLink RX4 27 "BoxedPapers$Ranges" "size" "I" ∈ TT := TT_1 43 rfl rfl
theorem mL_X4_31 : Cond.methodLink RX4 31 yX4_has ∈ TT := TT_2 170 rfl rfl
theorem mI_BoxedPapers_Ranges : Cond.initialized RX4 ∈ TT := TT_1 3 rfl rfl
theorem mK_X4_has : Cond.code yX4_has cX4_has 2 (some .boolean) ∈ TT := TT_2 154 rfl rfl
theorem hdX4_has : yX4_has.cls ≠ "java/lang/invoke/MethodHandle" ∧ yX4_has.cls ≠ "java/lang/invoke/VarHandle" ∧ (parseMethodDescriptor yX4_has.desc).map (fun d => d.parameters.length) = some 1 := by decide +kernel
theorem mM_X4_has : Cond.instanceMethod yX4_has ∈ TT := TT_2 152 rfl rfl
theorem mS_X4_has : Cond.selects RX4 yX4_has yX4_has ∈ TT := TT_2 153 rfl rfl
theorem mmX4_has : CWv yX4_has cX4_has 2 (some .boolean) 1 RX4 := ⟨⟨mM_X4_has, mS_X4_has, rfl⟩, mI_BoxedPapers_Ranges, mK_X4_has, hdX4_has⟩
theorem mF_X4_15 : Cond.fieldLink RX4 15 "BoxedPapers$Ranges" "marks" "[I" ∈ TT := TT_1 40 rfl rfl
theorem mF_X4_21 : Cond.fieldLink RX4 21 "BoxedPapers$Ranges" "firsts" "[I" ∈ TT := TT_1 41 rfl rfl
theorem mF_X4_24 : Cond.fieldLink RX4 24 "BoxedPapers$Ranges" "lasts" "[I" ∈ TT := TT_1 42 rfl rfl
theorem mL_X4_35 : Cond.methodLink RX4 35 yX4_add ∈ TT := TT_2 234 rfl rfl
theorem mK_X4_add : Cond.code yX4_add cX4_add 4 (some .boolean) ∈ TT := TT_2 194 rfl rfl
theorem hdX4_add : yX4_add.cls ≠ "java/lang/invoke/MethodHandle" ∧ yX4_add.cls ≠ "java/lang/invoke/VarHandle" ∧ (parseMethodDescriptor yX4_add.desc).map (fun d => d.parameters.length) = some 3 := by decide +kernel
theorem mM_X4_add : Cond.instanceMethod yX4_add ∈ TT := TT_2 192 rfl rfl
theorem mS_X4_add : Cond.selects RX4 yX4_add yX4_add ∈ TT := TT_2 193 rfl rfl
theorem mmX4_add : CWv yX4_add cX4_add 4 (some .boolean) 3 RX4 := ⟨⟨mM_X4_add, mS_X4_add, rfl⟩, mI_BoxedPapers_Ranges, mK_X4_add, hdX4_add⟩
theorem mL_X4_39 : Cond.methodLink RX4 39 Lib.Math.min.name ∈ TT := TT_2 188 rfl rfl
theorem mL_X4_42 : Cond.methodLink RX4 42 arraycopyName ∈ TT := TT_2 239 rfl rfl
theorem mL_X4_48 : Cond.methodLink RX4 48 yX4_join ∈ TT := TT_2 230 rfl rfl
theorem mK_X4_join : Cond.code yX4_join cX4_join 5 none ∈ TT := TT_2 233 rfl rfl
theorem hdX4_join : yX4_join.cls ≠ "java/lang/invoke/MethodHandle" ∧ yX4_join.cls ≠ "java/lang/invoke/VarHandle" ∧ (parseMethodDescriptor yX4_join.desc).map (fun d => d.parameters.length) = some 3 := by decide +kernel
theorem mM_X4_join : Cond.instanceMethod yX4_join ∈ TT := TT_2 232 rfl rfl
theorem mS_X4_join : Cond.selects RX4 yX4_join yX4_join ∈ TT := TT_s (n := 4) 11 rfl rfl
theorem mmX4_join : CWv yX4_join cX4_join 5 none 3 RX4 := ⟨⟨mM_X4_join, mS_X4_join, rfl⟩, mI_BoxedPapers_Ranges, mK_X4_join, hdX4_join⟩
theorem mL_X4_9 : Cond.methodLink RX4 9 Lib.Math.max.name ∈ TT := TT_1 37 rfl rfl
theorem mL_X4_52 : Cond.methodLink RX4 52 yX4_meets ∈ TT := TT_2 184 rfl rfl
theorem mK_X4_meets : Cond.code yX4_meets cX4_meets 4 (some .boolean) ∈ TT := TT_2 187 rfl rfl
theorem hdX4_meets : yX4_meets.cls ≠ "java/lang/invoke/MethodHandle" ∧ yX4_meets.cls ≠ "java/lang/invoke/VarHandle" ∧ (parseMethodDescriptor yX4_meets.desc).map (fun d => d.parameters.length) = some 3 := by decide +kernel
theorem mM_X4_meets : Cond.instanceMethod yX4_meets ∈ TT := TT_2 185 rfl rfl
theorem mS_X4_meets : Cond.selects RX4 yX4_meets yX4_meets ∈ TT := TT_2 186 rfl rfl
theorem mmX4_meets : CWv yX4_meets cX4_meets 4 (some .boolean) 3 RX4 := ⟨⟨mM_X4_meets, mS_X4_meets, rfl⟩, mI_BoxedPapers_Ranges, mK_X4_meets, hdX4_meets⟩
theorem mL_X4_55 : Cond.methodLink RX4 55 yX4_includes ∈ TT := TT_4 70 rfl rfl
theorem mK_X4_includes : Cond.code yX4_includes cX4_includes 3 (some .boolean) ∈ TT := TT_3 239 rfl rfl
theorem hdX4_includes : yX4_includes.cls ≠ "java/lang/invoke/MethodHandle" ∧ yX4_includes.cls ≠ "java/lang/invoke/VarHandle" ∧ (parseMethodDescriptor yX4_includes.desc).map (fun d => d.parameters.length) = some 2 := by decide +kernel
theorem mM_X4_includes : Cond.instanceMethod yX4_includes ∈ TT := TT_3 237 rfl rfl
theorem mS_X4_includes : Cond.selects RX4 yX4_includes yX4_includes ∈ TT := TT_3 238 rfl rfl
theorem mmX4_includes : CWv yX4_includes cX4_includes 3 (some .boolean) 2 RX4 := ⟨⟨mM_X4_includes, mS_X4_includes, rfl⟩, mI_BoxedPapers_Ranges, mK_X4_includes, hdX4_includes⟩
theorem mL_X4_59 : Cond.methodLink RX4 59 yX4_bareFrom ∈ TT := TT_4 66 rfl rfl
theorem mK_X4_bareFrom : Cond.code yX4_bareFrom cX4_bareFrom 7 (some .int) ∈ TT := TT_4 69 rfl rfl
theorem hdX4_bareFrom : yX4_bareFrom.cls ≠ "java/lang/invoke/MethodHandle" ∧ yX4_bareFrom.cls ≠ "java/lang/invoke/VarHandle" ∧ (parseMethodDescriptor yX4_bareFrom.desc).map (fun d => d.parameters.length) = some 2 := by decide +kernel
theorem mM_X4_bareFrom : Cond.instanceMethod yX4_bareFrom ∈ TT := TT_4 67 rfl rfl
theorem mS_X4_bareFrom : Cond.selects RX4 yX4_bareFrom yX4_bareFrom ∈ TT := TT_4 68 rfl rfl
theorem mmX4_bareFrom : CWv yX4_bareFrom cX4_bareFrom 7 (some .int) 2 RX4 := ⟨⟨mM_X4_bareFrom, mS_X4_bareFrom, rfl⟩, mI_BoxedPapers_Ranges, mK_X4_bareFrom, hdX4_bareFrom⟩
theorem mL_X4_62 : Cond.methodLink RX4 62 yX4_bareTo ∈ TT := TT_4 71 rfl rfl
theorem mK_X4_bareTo : Cond.code yX4_bareTo cX4_bareTo 6 (some .int) ∈ TT := TT_4 74 rfl rfl
theorem hdX4_bareTo : yX4_bareTo.cls ≠ "java/lang/invoke/MethodHandle" ∧ yX4_bareTo.cls ≠ "java/lang/invoke/VarHandle" ∧ (parseMethodDescriptor yX4_bareTo.desc).map (fun d => d.parameters.length) = some 3 := by decide +kernel
theorem mM_X4_bareTo : Cond.instanceMethod yX4_bareTo ∈ TT := TT_4 72 rfl rfl
theorem mS_X4_bareTo : Cond.selects RX4 yX4_bareTo yX4_bareTo ∈ TT := TT_4 73 rfl rfl
theorem mmX4_bareTo : CWv yX4_bareTo cX4_bareTo 6 (some .int) 3 RX4 := ⟨⟨mM_X4_bareTo, mS_X4_bareTo, rfl⟩, mI_BoxedPapers_Ranges, mK_X4_bareTo, hdX4_bareTo⟩
theorem mF_X0_14 : Cond.fieldLink RX0 14 "BoxedPapers$Archive" "series" "LBoxedPapers$Ranges;" ∈ TT := TT_1 54 rfl rfl
theorem mL_X0_40 : Cond.methodLink RX0 40 yX4_cutTo ∈ TT := TT_2 134 rfl rfl
theorem mK_X4_cutTo : Cond.code yX4_cutTo cX4_cutTo 2 none ∈ TT := TT_2 137 rfl rfl
theorem hdX4_cutTo : yX4_cutTo.cls ≠ "java/lang/invoke/MethodHandle" ∧ yX4_cutTo.cls ≠ "java/lang/invoke/VarHandle" ∧ (parseMethodDescriptor yX4_cutTo.desc).map (fun d => d.parameters.length) = some 1 := by decide +kernel
theorem mM_X4_cutTo : Cond.instanceMethod yX4_cutTo ∈ TT := TT_2 135 rfl rfl
theorem mS_X4_cutTo : Cond.selects RX4 yX4_cutTo yX4_cutTo ∈ TT := TT_2 136 rfl rfl
theorem mmX4_cutTo : CWv yX4_cutTo cX4_cutTo 2 none 1 RX4 := ⟨⟨mM_X4_cutTo, mS_X4_cutTo, rfl⟩, mI_BoxedPapers_Ranges, mK_X4_cutTo, hdX4_cutTo⟩
theorem mF_X0_24 : Cond.fieldLink RX0 24 "BoxedPapers$Archive" "pieces" "LBoxedPapers$Ranges;" ∈ TT := TT_1 56 rfl rfl
theorem mF_X0_30 : Cond.fieldLink RX0 30 "BoxedPapers$Archive" "moves" "LBoxedPapers$Ranges;" ∈ TT := TT_1 58 rfl rfl
theorem mF_X0_36 : Cond.fieldLink RX0 36 "BoxedPapers$Archive" "day" "I" ∈ TT := TT_1 60 rfl rfl
theorem mF_X0_20 : Cond.fieldLink RX0 20 "BoxedPapers$Archive" "rooms" "[I" ∈ TT := TT_1 55 rfl rfl
theorem mL_X0_43 : Cond.methodLink RX0 43 yX4_size ∈ TT := TT_2 195 rfl rfl
theorem mK_X4_size : Cond.code yX4_size cX4_size 1 (some .int) ∈ TT := TT_2 198 rfl rfl
theorem hdX4_size : yX4_size.cls ≠ "java/lang/invoke/MethodHandle" ∧ yX4_size.cls ≠ "java/lang/invoke/VarHandle" ∧ (parseMethodDescriptor yX4_size.desc).map (fun d => d.parameters.length) = some 0 := by decide +kernel
theorem mM_X4_size : Cond.instanceMethod yX4_size ∈ TT := TT_2 196 rfl rfl
theorem mS_X4_size : Cond.selects RX4 yX4_size yX4_size ∈ TT := TT_2 197 rfl rfl
theorem mmX4_size : CWv yX4_size cX4_size 1 (some .int) 0 RX4 := ⟨⟨mM_X4_size, mS_X4_size, rfl⟩, mI_BoxedPapers_Ranges, mK_X4_size, hdX4_size⟩
theorem mL_X0_57 : Cond.methodLink RX0 57 yX4_copyFrom ∈ TT := TT_2 235 rfl rfl
theorem mK_X4_copyFrom : Cond.code yX4_copyFrom cX4_copyFrom 3 none ∈ TT := TT_2 238 rfl rfl
theorem hdX4_copyFrom : yX4_copyFrom.cls ≠ "java/lang/invoke/MethodHandle" ∧ yX4_copyFrom.cls ≠ "java/lang/invoke/VarHandle" ∧ (parseMethodDescriptor yX4_copyFrom.desc).map (fun d => d.parameters.length) = some 1 := by decide +kernel
theorem mM_X4_copyFrom : Cond.instanceMethod yX4_copyFrom ∈ TT := TT_2 236 rfl rfl
theorem mS_X4_copyFrom : Cond.selects RX4 yX4_copyFrom yX4_copyFrom ∈ TT := TT_2 237 rfl rfl
theorem mmX4_copyFrom : CWv yX4_copyFrom cX4_copyFrom 3 none 1 RX4 := ⟨⟨mM_X4_copyFrom, mS_X4_copyFrom, rfl⟩, mI_BoxedPapers_Ranges, mK_X4_copyFrom, hdX4_copyFrom⟩
theorem mL_X0_62 : Cond.methodLink RX0 62 arraycopyName ∈ TT := TT_3 42 rfl rfl
theorem mL_X0_118 : Cond.methodLink RX0 118 yX4_firstOf ∈ TT := TT_2 166 rfl rfl
theorem mK_X4_firstOf : Cond.code yX4_firstOf cX4_firstOf 2 (some .int) ∈ TT := TT_2 169 rfl rfl
theorem hdX4_firstOf : yX4_firstOf.cls ≠ "java/lang/invoke/MethodHandle" ∧ yX4_firstOf.cls ≠ "java/lang/invoke/VarHandle" ∧ (parseMethodDescriptor yX4_firstOf.desc).map (fun d => d.parameters.length) = some 1 := by decide +kernel
theorem mM_X4_firstOf : Cond.instanceMethod yX4_firstOf ∈ TT := TT_2 167 rfl rfl
theorem mS_X4_firstOf : Cond.selects RX4 yX4_firstOf yX4_firstOf ∈ TT := TT_2 168 rfl rfl
theorem mmX4_firstOf : CWv yX4_firstOf cX4_firstOf 2 (some .int) 1 RX4 := ⟨⟨mM_X4_firstOf, mS_X4_firstOf, rfl⟩, mI_BoxedPapers_Ranges, mK_X4_firstOf, hdX4_firstOf⟩
theorem mL_X0_131 : Cond.methodLink RX0 131 yX4_has ∈ TT := TT_2 151 rfl rfl
theorem mL_X0_121 : Cond.methodLink RX0 121 yX4_lastOf ∈ TT := TT_2 176 rfl rfl
theorem mK_X4_lastOf : Cond.code yX4_lastOf cX4_lastOf 2 (some .int) ∈ TT := TT_2 179 rfl rfl
theorem hdX4_lastOf : yX4_lastOf.cls ≠ "java/lang/invoke/MethodHandle" ∧ yX4_lastOf.cls ≠ "java/lang/invoke/VarHandle" ∧ (parseMethodDescriptor yX4_lastOf.desc).map (fun d => d.parameters.length) = some 1 := by decide +kernel
theorem mM_X4_lastOf : Cond.instanceMethod yX4_lastOf ∈ TT := TT_2 177 rfl rfl
theorem mS_X4_lastOf : Cond.selects RX4 yX4_lastOf yX4_lastOf ∈ TT := TT_2 178 rfl rfl
theorem mmX4_lastOf : CWv yX4_lastOf cX4_lastOf 2 (some .int) 1 RX4 := ⟨⟨mM_X4_lastOf, mS_X4_lastOf, rfl⟩, mI_BoxedPapers_Ranges, mK_X4_lastOf, hdX4_lastOf⟩
theorem mC_X0_94 : Cond.constant RX0 94 (2000000000) ∈ TT := TT_2 175 rfl rfl
theorem mC_X7_285 : Cond.constant RX7 285 (2000000000) ∈ TT := TT_2 161 rfl rfl
theorem mL_X7_221 : Cond.methodLink RX7 221 yX7_isSheet ∈ TT := TT_2 158 rfl rfl
theorem mI_BoxedPapers : Cond.initialized RX7 ∈ TT := TT_1 1 rfl rfl
theorem mK_X7_isSheet : Cond.code yX7_isSheet cX7_isSheet 1 (some .boolean) ∈ TT := TT_2 160 rfl rfl
theorem hdX7_isSheet : yX7_isSheet.cls ≠ "java/lang/invoke/MethodHandle" ∧ yX7_isSheet.cls ≠ "java/lang/invoke/VarHandle" ∧ (parseMethodDescriptor yX7_isSheet.desc).map (fun d => d.parameters.length) = some 1 := by decide +kernel
theorem mS_X7_isSheet : Cond.static yX7_isSheet ∈ TT := TT_2 159 rfl rfl
theorem mmX7_isSheet : CWs yX7_isSheet cX7_isSheet 1 (some .boolean) 1 := ⟨mS_X7_isSheet, mI_BoxedPapers, mK_X7_isSheet, hdX7_isSheet⟩
theorem mK_X7_isRange : Cond.code yX7_isRange cX7_isRange 2 (some .boolean) ∈ TT := TT_2 157 rfl rfl
theorem hdX7_isRange : yX7_isRange.cls ≠ "java/lang/invoke/MethodHandle" ∧ yX7_isRange.cls ≠ "java/lang/invoke/VarHandle" ∧ (parseMethodDescriptor yX7_isRange.desc).map (fun d => d.parameters.length) = some 2 := by decide +kernel
theorem mS_X7_isRange : Cond.static yX7_isRange ∈ TT := TT_2 156 rfl rfl
theorem mmX7_isRange : CWs yX7_isRange cX7_isRange 2 (some .boolean) 2 := ⟨mS_X7_isRange, mI_BoxedPapers, mK_X7_isRange, hdX7_isRange⟩
theorem mL_X0_76 : Cond.methodLink RX0 76 yX0_firstIn ∈ TT := TT_2 162 rfl rfl
theorem mI_BoxedPapers_Archive : Cond.initialized RX0 ∈ TT := TT_1 2 rfl rfl
theorem mK_X0_firstIn : Cond.code yX0_firstIn cX0_firstIn 2 (some .int) ∈ TT := TT_2 165 rfl rfl
theorem hdX0_firstIn : yX0_firstIn.cls ≠ "java/lang/invoke/MethodHandle" ∧ yX0_firstIn.cls ≠ "java/lang/invoke/VarHandle" ∧ (parseMethodDescriptor yX0_firstIn.desc).map (fun d => d.parameters.length) = some 1 := by decide +kernel
theorem mM_X0_firstIn : Cond.instanceMethod yX0_firstIn ∈ TT := TT_2 163 rfl rfl
theorem mS_X0_firstIn : Cond.selects RX0 yX0_firstIn yX0_firstIn ∈ TT := TT_2 164 rfl rfl
theorem mmX0_firstIn : CWv yX0_firstIn cX0_firstIn 2 (some .int) 1 RX0 := ⟨⟨mM_X0_firstIn, mS_X0_firstIn, rfl⟩, mI_BoxedPapers_Archive, mK_X0_firstIn, hdX0_firstIn⟩
theorem mL_X0_80 : Cond.methodLink RX0 80 yX0_lastIn ∈ TT := TT_2 171 rfl rfl
theorem mK_X0_lastIn : Cond.code yX0_lastIn cX0_lastIn 2 (some .int) ∈ TT := TT_2 174 rfl rfl
theorem hdX0_lastIn : yX0_lastIn.cls ≠ "java/lang/invoke/MethodHandle" ∧ yX0_lastIn.cls ≠ "java/lang/invoke/VarHandle" ∧ (parseMethodDescriptor yX0_lastIn.desc).map (fun d => d.parameters.length) = some 1 := by decide +kernel
theorem mM_X0_lastIn : Cond.instanceMethod yX0_lastIn ∈ TT := TT_2 172 rfl rfl
theorem mS_X0_lastIn : Cond.selects RX0 yX0_lastIn yX0_lastIn ∈ TT := TT_2 173 rfl rfl
theorem mmX0_lastIn : CWv yX0_lastIn cX0_lastIn 2 (some .int) 1 RX0 := ⟨⟨mM_X0_lastIn, mS_X0_lastIn, rfl⟩, mI_BoxedPapers_Archive, mK_X0_lastIn, hdX0_lastIn⟩
theorem mL_X0_83 : Cond.methodLink RX0 83 yX4_sheetsIn ∈ TT := TT_2 180 rfl rfl
theorem mK_X4_sheetsIn : Cond.code yX4_sheetsIn cX4_sheetsIn 6 (some .int) ∈ TT := TT_2 183 rfl rfl
theorem hdX4_sheetsIn : yX4_sheetsIn.cls ≠ "java/lang/invoke/MethodHandle" ∧ yX4_sheetsIn.cls ≠ "java/lang/invoke/VarHandle" ∧ (parseMethodDescriptor yX4_sheetsIn.desc).map (fun d => d.parameters.length) = some 3 := by decide +kernel
theorem mM_X4_sheetsIn : Cond.instanceMethod yX4_sheetsIn ∈ TT := TT_2 181 rfl rfl
theorem mS_X4_sheetsIn : Cond.selects RX4 yX4_sheetsIn yX4_sheetsIn ∈ TT := TT_2 182 rfl rfl
theorem mmX4_sheetsIn : CWv yX4_sheetsIn cX4_sheetsIn 6 (some .int) 3 RX4 := ⟨⟨mM_X4_sheetsIn, mS_X4_sheetsIn, rfl⟩, mI_BoxedPapers_Ranges, mK_X4_sheetsIn, hdX4_sheetsIn⟩
theorem mL_X0_87 : Cond.methodLink RX0 87 yX4_add ∈ TT := TT_2 191 rfl rfl
theorem mL_X0_68 : Cond.methodLink RX0 68 yX0_isSeries ∈ TT := TT_2 147 rfl rfl
theorem mK_X0_isSeries : Cond.code yX0_isSeries cX0_isSeries 2 (some .boolean) ∈ TT := TT_2 150 rfl rfl
theorem hdX0_isSeries : yX0_isSeries.cls ≠ "java/lang/invoke/MethodHandle" ∧ yX0_isSeries.cls ≠ "java/lang/invoke/VarHandle" ∧ (parseMethodDescriptor yX0_isSeries.desc).map (fun d => d.parameters.length) = some 1 := by decide +kernel
theorem mM_X0_isSeries : Cond.instanceMethod yX0_isSeries ∈ TT := TT_2 148 rfl rfl
theorem mS_X0_isSeries : Cond.selects RX0 yX0_isSeries yX0_isSeries ∈ TT := TT_2 149 rfl rfl
theorem mmX0_isSeries : CWv yX0_isSeries cX0_isSeries 2 (some .boolean) 1 RX0 := ⟨⟨mM_X0_isSeries, mS_X0_isSeries, rfl⟩, mI_BoxedPapers_Archive, mK_X0_isSeries, hdX0_isSeries⟩
theorem mK_X7_isBox : Cond.code yX7_isBox cX7_isBox 1 (some .boolean) ∈ TT := TT_2 205 rfl rfl
theorem hdX7_isBox : yX7_isBox.cls ≠ "java/lang/invoke/MethodHandle" ∧ yX7_isBox.cls ≠ "java/lang/invoke/VarHandle" ∧ (parseMethodDescriptor yX7_isBox.desc).map (fun d => d.parameters.length) = some 1 := by decide +kernel
theorem mS_X7_isBox : Cond.static yX7_isBox ∈ TT := TT_2 204 rfl rfl
theorem mmX7_isBox : CWs yX7_isBox cX7_isBox 1 (some .boolean) 1 := ⟨mS_X7_isBox, mI_BoxedPapers, mK_X7_isBox, hdX7_isBox⟩
theorem mL_X0_95 : Cond.methodLink RX0 95 yX0_loadOf ∈ TT := TT_2 206 rfl rfl
theorem mK_X0_loadOf : Cond.code yX0_loadOf cX0_loadOf 2 (some .int) ∈ TT := TT_2 209 rfl rfl
theorem hdX0_loadOf : yX0_loadOf.cls ≠ "java/lang/invoke/MethodHandle" ∧ yX0_loadOf.cls ≠ "java/lang/invoke/VarHandle" ∧ (parseMethodDescriptor yX0_loadOf.desc).map (fun d => d.parameters.length) = some 1 := by decide +kernel
theorem mM_X0_loadOf : Cond.instanceMethod yX0_loadOf ∈ TT := TT_2 207 rfl rfl
theorem mS_X0_loadOf : Cond.selects RX0 yX0_loadOf yX0_loadOf ∈ TT := TT_2 208 rfl rfl
theorem mmX0_loadOf : CWv yX0_loadOf cX0_loadOf 2 (some .int) 1 RX0 := ⟨⟨mM_X0_loadOf, mS_X0_loadOf, rfl⟩, mI_BoxedPapers_Archive, mK_X0_loadOf, hdX0_loadOf⟩
theorem mF_X0_33 : Cond.fieldLink RX0 33 "BoxedPapers$Archive" "moveDays" "[I" ∈ TT := TT_1 59 rfl rfl
theorem mF_X0_27 : Cond.fieldLink RX0 27 "BoxedPapers$Archive" "trial" "LBoxedPapers$Ranges;" ∈ TT := TT_1 57 rfl rfl
theorem mL_X0_104 : Cond.methodLink RX0 104 yX4_becomeWith ∈ TT := TT_2 226 rfl rfl
theorem mK_X4_becomeWith : Cond.code yX4_becomeWith cX4_becomeWith 6 none ∈ TT := TT_2 229 rfl rfl
theorem hdX4_becomeWith : yX4_becomeWith.cls ≠ "java/lang/invoke/MethodHandle" ∧ yX4_becomeWith.cls ≠ "java/lang/invoke/VarHandle" ∧ (parseMethodDescriptor yX4_becomeWith.desc).map (fun d => d.parameters.length) = some 4 := by decide +kernel
theorem mM_X4_becomeWith : Cond.instanceMethod yX4_becomeWith ∈ TT := TT_2 227 rfl rfl
theorem mS_X4_becomeWith : Cond.selects RX4 yX4_becomeWith yX4_becomeWith ∈ TT := TT_2 228 rfl rfl
theorem mmX4_becomeWith : CWv yX4_becomeWith cX4_becomeWith 6 none 4 RX4 := ⟨⟨mM_X4_becomeWith, mS_X4_becomeWith, rfl⟩, mI_BoxedPapers_Ranges, mK_X4_becomeWith, hdX4_becomeWith⟩
theorem mL_X0_108 : Cond.methodLink RX0 108 yX0_enter ∈ TT := TT_3 2 rfl rfl
theorem mK_X0_enter : Cond.code yX0_enter cX0_enter 5 none ∈ TT := TT_3 5 rfl rfl
theorem hdX0_enter : yX0_enter.cls ≠ "java/lang/invoke/MethodHandle" ∧ yX0_enter.cls ≠ "java/lang/invoke/VarHandle" ∧ (parseMethodDescriptor yX0_enter.desc).map (fun d => d.parameters.length) = some 3 := by decide +kernel
theorem mM_X0_enter : Cond.instanceMethod yX0_enter ∈ TT := TT_3 4 rfl rfl
theorem mS_X0_enter : Cond.selects RX0 yX0_enter yX0_enter ∈ TT := TT_s (n := 7) 12 rfl rfl
theorem mmX0_enter : CWv yX0_enter cX0_enter 5 none 3 RX0 := ⟨⟨mM_X0_enter, mS_X0_enter, rfl⟩, mI_BoxedPapers_Archive, mK_X0_enter, hdX0_enter⟩
theorem mL_X0_128 : Cond.methodLink RX0 128 yX0_roomOf ∈ TT := TT_2 218 rfl rfl
theorem mK_X0_roomOf : Cond.code yX0_roomOf cX0_roomOf 2 (some .int) ∈ TT := TT_2 221 rfl rfl
theorem hdX0_roomOf : yX0_roomOf.cls ≠ "java/lang/invoke/MethodHandle" ∧ yX0_roomOf.cls ≠ "java/lang/invoke/VarHandle" ∧ (parseMethodDescriptor yX0_roomOf.desc).map (fun d => d.parameters.length) = some 1 := by decide +kernel
theorem mM_X0_roomOf : Cond.instanceMethod yX0_roomOf ∈ TT := TT_2 219 rfl rfl
theorem mS_X0_roomOf : Cond.selects RX0 yX0_roomOf yX0_roomOf ∈ TT := TT_2 220 rfl rfl
theorem mmX0_roomOf : CWv yX0_roomOf cX0_roomOf 2 (some .int) 1 RX0 := ⟨⟨mM_X0_roomOf, mS_X0_roomOf, rfl⟩, mI_BoxedPapers_Archive, mK_X0_roomOf, hdX0_roomOf⟩
theorem mL_X0_98 : Cond.methodLink RX0 98 yX0_freeIn ∈ TT := TT_2 214 rfl rfl
theorem mK_X0_freeIn : Cond.code yX0_freeIn cX0_freeIn 2 (some .int) ∈ TT := TT_2 217 rfl rfl
theorem hdX0_freeIn : yX0_freeIn.cls ≠ "java/lang/invoke/MethodHandle" ∧ yX0_freeIn.cls ≠ "java/lang/invoke/VarHandle" ∧ (parseMethodDescriptor yX0_freeIn.desc).map (fun d => d.parameters.length) = some 1 := by decide +kernel
theorem mM_X0_freeIn : Cond.instanceMethod yX0_freeIn ∈ TT := TT_2 215 rfl rfl
theorem mS_X0_freeIn : Cond.selects RX0 yX0_freeIn yX0_freeIn ∈ TT := TT_2 216 rfl rfl
theorem mmX0_freeIn : CWv yX0_freeIn cX0_freeIn 2 (some .int) 1 RX0 := ⟨⟨mM_X0_freeIn, mS_X0_freeIn, rfl⟩, mI_BoxedPapers_Archive, mK_X0_freeIn, hdX0_freeIn⟩
theorem mL_X0_101 : Cond.methodLink RX0 101 yX0_bring ∈ TT := TT_2 222 rfl rfl
theorem mK_X0_bring : Cond.code yX0_bring cX0_bring 4 (some .boolean) ∈ TT := TT_2 225 rfl rfl
theorem hdX0_bring : yX0_bring.cls ≠ "java/lang/invoke/MethodHandle" ∧ yX0_bring.cls ≠ "java/lang/invoke/VarHandle" ∧ (parseMethodDescriptor yX0_bring.desc).map (fun d => d.parameters.length) = some 3 := by decide +kernel
theorem mM_X0_bring : Cond.instanceMethod yX0_bring ∈ TT := TT_2 224 rfl rfl
theorem mS_X0_bring : Cond.selects RX0 yX0_bring yX0_bring ∈ TT := TT_s (n := 7) 10 rfl rfl
theorem mmX0_bring : CWv yX0_bring cX0_bring 4 (some .boolean) 3 RX0 := ⟨⟨mM_X0_bring, mS_X0_bring, rfl⟩, mI_BoxedPapers_Archive, mK_X0_bring, hdX0_bring⟩
theorem mL_X0_112 : Cond.methodLink RX0 112 yX4_countOf ∈ TT := TT_3 80 rfl rfl
theorem mK_X4_countOf : Cond.code yX4_countOf cX4_countOf 4 (some .int) ∈ TT := TT_3 83 rfl rfl
theorem hdX4_countOf : yX4_countOf.cls ≠ "java/lang/invoke/MethodHandle" ∧ yX4_countOf.cls ≠ "java/lang/invoke/VarHandle" ∧ (parseMethodDescriptor yX4_countOf.desc).map (fun d => d.parameters.length) = some 1 := by decide +kernel
theorem mM_X4_countOf : Cond.instanceMethod yX4_countOf ∈ TT := TT_3 81 rfl rfl
theorem mS_X4_countOf : Cond.selects RX4 yX4_countOf yX4_countOf ∈ TT := TT_3 82 rfl rfl
theorem mmX4_countOf : CWv yX4_countOf cX4_countOf 4 (some .int) 1 RX4 := ⟨⟨mM_X4_countOf, mS_X4_countOf, rfl⟩, mI_BoxedPapers_Ranges, mK_X4_countOf, hdX4_countOf⟩
theorem mL_X0_115 : Cond.methodLink RX0 115 yX4_markOf ∈ TT := TT_3 84 rfl rfl
theorem mK_X4_markOf : Cond.code yX4_markOf cX4_markOf 2 (some .int) ∈ TT := TT_3 87 rfl rfl
theorem hdX4_markOf : yX4_markOf.cls ≠ "java/lang/invoke/MethodHandle" ∧ yX4_markOf.cls ≠ "java/lang/invoke/VarHandle" ∧ (parseMethodDescriptor yX4_markOf.desc).map (fun d => d.parameters.length) = some 1 := by decide +kernel
theorem mM_X4_markOf : Cond.instanceMethod yX4_markOf ∈ TT := TT_3 85 rfl rfl
theorem mS_X4_markOf : Cond.selects RX4 yX4_markOf yX4_markOf ∈ TT := TT_3 86 rfl rfl
theorem mmX4_markOf : CWv yX4_markOf cX4_markOf 2 (some .int) 1 RX4 := ⟨⟨mM_X4_markOf, mS_X4_markOf, rfl⟩, mI_BoxedPapers_Ranges, mK_X4_markOf, hdX4_markOf⟩
theorem mL_X0_124 : Cond.methodLink RX0 124 yX4_becomeRemarked ∈ TT := TT_3 88 rfl rfl
theorem mK_X4_becomeRemarked : Cond.code yX4_becomeRemarked cX4_becomeRemarked 5 none ∈ TT := TT_3 91 rfl rfl
theorem hdX4_becomeRemarked : yX4_becomeRemarked.cls ≠ "java/lang/invoke/MethodHandle" ∧ yX4_becomeRemarked.cls ≠ "java/lang/invoke/VarHandle" ∧ (parseMethodDescriptor yX4_becomeRemarked.desc).map (fun d => d.parameters.length) = some 3 := by decide +kernel
theorem mM_X4_becomeRemarked : Cond.instanceMethod yX4_becomeRemarked ∈ TT := TT_3 89 rfl rfl
theorem mS_X4_becomeRemarked : Cond.selects RX4 yX4_becomeRemarked yX4_becomeRemarked ∈ TT := TT_3 90 rfl rfl
theorem mmX4_becomeRemarked : CWv yX4_becomeRemarked cX4_becomeRemarked 5 none 3 RX4 := ⟨⟨mM_X4_becomeRemarked, mS_X4_becomeRemarked, rfl⟩, mI_BoxedPapers_Ranges, mK_X4_becomeRemarked, hdX4_becomeRemarked⟩
theorem mL_X0_134 : Cond.methodLink RX0 134 yX0_ownIn ∈ TT := TT_3 201 rfl rfl
theorem mK_X0_ownIn : Cond.code yX0_ownIn cX0_ownIn 5 (some .int) ∈ TT := TT_3 204 rfl rfl
theorem hdX0_ownIn : yX0_ownIn.cls ≠ "java/lang/invoke/MethodHandle" ∧ yX0_ownIn.cls ≠ "java/lang/invoke/VarHandle" ∧ (parseMethodDescriptor yX0_ownIn.desc).map (fun d => d.parameters.length) = some 2 := by decide +kernel
theorem mM_X0_ownIn : Cond.instanceMethod yX0_ownIn ∈ TT := TT_3 202 rfl rfl
theorem mS_X0_ownIn : Cond.selects RX0 yX0_ownIn yX0_ownIn ∈ TT := TT_3 203 rfl rfl
theorem mmX0_ownIn : CWv yX0_ownIn cX0_ownIn 5 (some .int) 2 RX0 := ⟨⟨mM_X0_ownIn, mS_X0_ownIn, rfl⟩, mI_BoxedPapers_Archive, mK_X0_ownIn, hdX0_ownIn⟩
theorem mL_X0_138 : Cond.methodLink RX0 138 yX4_includes ∈ TT := TT_3 236 rfl rfl
theorem mL_X0_141 : Cond.methodLink RX0 141 yX0_dayOf ∈ TT := TT_4 16 rfl rfl
theorem mK_X0_dayOf : Cond.code yX0_dayOf cX0_dayOf 2 (some .int) ∈ TT := TT_4 19 rfl rfl
theorem hdX0_dayOf : yX0_dayOf.cls ≠ "java/lang/invoke/MethodHandle" ∧ yX0_dayOf.cls ≠ "java/lang/invoke/VarHandle" ∧ (parseMethodDescriptor yX0_dayOf.desc).map (fun d => d.parameters.length) = some 1 := by decide +kernel
theorem mM_X0_dayOf : Cond.instanceMethod yX0_dayOf ∈ TT := TT_4 17 rfl rfl
theorem mS_X0_dayOf : Cond.selects RX0 yX0_dayOf yX0_dayOf ∈ TT := TT_4 18 rfl rfl
theorem mmX0_dayOf : CWv yX0_dayOf cX0_dayOf 2 (some .int) 1 RX0 := ⟨⟨mM_X0_dayOf, mS_X0_dayOf, rfl⟩, mI_BoxedPapers_Archive, mK_X0_dayOf, hdX0_dayOf⟩
theorem mF_X3_14 : Cond.fieldLink RX3 14 "BoxedPapers$Planner" "gaps" "LBoxedPapers$Ranges;" ∈ TT := TT_1 130 rfl rfl
theorem mF_X3_20 : Cond.fieldLink RX3 20 "BoxedPapers$Planner" "layings" "LBoxedPapers$Ranges;" ∈ TT := TT_1 131 rfl rfl
theorem mF_X3_27 : Cond.fieldLink RX3 27 "BoxedPapers$Planner" "remaining" "I" ∈ TT := TT_1 133 rfl rfl
theorem mL_X3_31 : Cond.methodLink RX3 31 yX0_pieces ∈ TT := TT_3 105 rfl rfl
theorem mK_X0_pieces : Cond.code yX0_pieces cX0_pieces 1 (some (.object "BoxedPapers$Ranges")) ∈ TT := TT_3 108 rfl rfl
theorem hdX0_pieces : yX0_pieces.cls ≠ "java/lang/invoke/MethodHandle" ∧ yX0_pieces.cls ≠ "java/lang/invoke/VarHandle" ∧ (parseMethodDescriptor yX0_pieces.desc).map (fun d => d.parameters.length) = some 0 := by decide +kernel
theorem mM_X0_pieces : Cond.instanceMethod yX0_pieces ∈ TT := TT_3 106 rfl rfl
theorem mS_X0_pieces : Cond.selects RX0 yX0_pieces yX0_pieces ∈ TT := TT_3 107 rfl rfl
theorem mmX0_pieces : CWv yX0_pieces cX0_pieces 1 (some (.object "BoxedPapers$Ranges")) 0 RX0 := ⟨⟨mM_X0_pieces, mS_X0_pieces, rfl⟩, mI_BoxedPapers_Archive, mK_X0_pieces, hdX0_pieces⟩
theorem mL_X3_37 : Cond.methodLink RX3 37 yX0_lastIn ∈ TT := TT_3 109 rfl rfl
theorem mL_X3_41 : Cond.methodLink RX3 41 yX0_firstIn ∈ TT := TT_3 110 rfl rfl
theorem mL_X3_44 : Cond.methodLink RX3 44 yX4_cutTo ∈ TT := TT_3 111 rfl rfl
theorem mL_X3_47 : Cond.methodLink RX3 47 yX4_size ∈ TT := TT_3 112 rfl rfl
theorem mL_X3_51 : Cond.methodLink RX3 51 yX4_meets ∈ TT := TT_3 113 rfl rfl
theorem mL_X3_55 : Cond.methodLink RX3 55 yX4_firstOf ∈ TT := TT_3 114 rfl rfl
theorem mL_X3_61 : Cond.methodLink RX3 61 yX4_lastOf ∈ TT := TT_3 116 rfl rfl
theorem mL_X3_58 : Cond.methodLink RX3 58 yX4_add ∈ TT := TT_3 115 rfl rfl
theorem mF_X3_23 : Cond.fieldLink RX3 23 "BoxedPapers$Planner" "free" "[I" ∈ TT := TT_1 132 rfl rfl
theorem mL_X3_88 : Cond.methodLink RX3 88 yX3_tightestFor ∈ TT := TT_3 126 rfl rfl
theorem mI_BoxedPapers_Planner : Cond.initialized RX3 ∈ TT := TT_1 7 rfl rfl
theorem mK_X3_tightestFor : Cond.code yX3_tightestFor cX3_tightestFor 4 (some .int) ∈ TT := TT_3 129 rfl rfl
theorem hdX3_tightestFor : yX3_tightestFor.cls ≠ "java/lang/invoke/MethodHandle" ∧ yX3_tightestFor.cls ≠ "java/lang/invoke/VarHandle" ∧ (parseMethodDescriptor yX3_tightestFor.desc).map (fun d => d.parameters.length) = some 1 := by decide +kernel
theorem mM_X3_tightestFor : Cond.instanceMethod yX3_tightestFor ∈ TT := TT_3 128 rfl rfl
theorem mS_X3_tightestFor : Cond.selects RX3 yX3_tightestFor yX3_tightestFor ∈ TT := TT_s (n := 4) 18 rfl rfl
theorem mmX3_tightestFor : CWv yX3_tightestFor cX3_tightestFor 4 (some .int) 1 RX3 := ⟨⟨mM_X3_tightestFor, mS_X3_tightestFor, rfl⟩, mI_BoxedPapers_Planner, mK_X3_tightestFor, hdX3_tightestFor⟩
theorem mL_X3_91 : Cond.methodLink RX3 91 yX3_widest ∈ TT := TT_3 130 rfl rfl
theorem mK_X3_widest : Cond.code yX3_widest cX3_widest 3 (some .int) ∈ TT := TT_3 133 rfl rfl
theorem hdX3_widest : yX3_widest.cls ≠ "java/lang/invoke/MethodHandle" ∧ yX3_widest.cls ≠ "java/lang/invoke/VarHandle" ∧ (parseMethodDescriptor yX3_widest.desc).map (fun d => d.parameters.length) = some 0 := by decide +kernel
theorem mM_X3_widest : Cond.instanceMethod yX3_widest ∈ TT := TT_3 132 rfl rfl
theorem mS_X3_widest : Cond.selects RX3 yX3_widest yX3_widest ∈ TT := TT_s (n := 4) 19 rfl rfl
theorem mmX3_widest : CWv yX3_widest cX3_widest 3 (some .int) 0 RX3 := ⟨⟨mM_X3_widest, mS_X3_widest, rfl⟩, mI_BoxedPapers_Planner, mK_X3_widest, hdX3_widest⟩
theorem mL_X3_75 : Cond.methodLink RX3 75 yX3_chooseBox ∈ TT := TT_3 122 rfl rfl
theorem mK_X3_chooseBox : Cond.code yX3_chooseBox cX3_chooseBox 3 (some .int) ∈ TT := TT_3 125 rfl rfl
theorem hdX3_chooseBox : yX3_chooseBox.cls ≠ "java/lang/invoke/MethodHandle" ∧ yX3_chooseBox.cls ≠ "java/lang/invoke/VarHandle" ∧ (parseMethodDescriptor yX3_chooseBox.desc).map (fun d => d.parameters.length) = some 1 := by decide +kernel
theorem mM_X3_chooseBox : Cond.instanceMethod yX3_chooseBox ∈ TT := TT_3 124 rfl rfl
theorem mS_X3_chooseBox : Cond.selects RX3 yX3_chooseBox yX3_chooseBox ∈ TT := TT_s (n := 4) 17 rfl rfl
theorem mmX3_chooseBox : CWv yX3_chooseBox cX3_chooseBox 3 (some .int) 1 RX3 := ⟨⟨mM_X3_chooseBox, mS_X3_chooseBox, rfl⟩, mI_BoxedPapers_Planner, mK_X3_chooseBox, hdX3_chooseBox⟩
theorem mL_X3_82 : Cond.methodLink RX3 82 Lib.Math.min.name ∈ TT := TT_3 135 rfl rfl
theorem mL_X3_64 : Cond.methodLink RX3 64 yX3_findGaps ∈ TT := TT_3 101 rfl rfl
theorem mK_X3_findGaps : Cond.code yX3_findGaps cX3_findGaps 7 none ∈ TT := TT_3 104 rfl rfl
theorem hdX3_findGaps : yX3_findGaps.cls ≠ "java/lang/invoke/MethodHandle" ∧ yX3_findGaps.cls ≠ "java/lang/invoke/VarHandle" ∧ (parseMethodDescriptor yX3_findGaps.desc).map (fun d => d.parameters.length) = some 2 := by decide +kernel
theorem mM_X3_findGaps : Cond.instanceMethod yX3_findGaps ∈ TT := TT_3 102 rfl rfl
theorem mS_X3_findGaps : Cond.selects RX3 yX3_findGaps yX3_findGaps ∈ TT := TT_3 103 rfl rfl
theorem mmX3_findGaps : CWv yX3_findGaps cX3_findGaps 7 none 2 RX3 := ⟨⟨mM_X3_findGaps, mS_X3_findGaps, rfl⟩, mI_BoxedPapers_Planner, mK_X3_findGaps, hdX3_findGaps⟩
theorem mL_X3_68 : Cond.methodLink RX3 68 yX0_freeIn ∈ TT := TT_3 117 rfl rfl
theorem mL_X3_71 : Cond.methodLink RX3 71 yX3_place ∈ TT := TT_3 118 rfl rfl
theorem mK_X3_place : Cond.code yX3_place cX3_place 7 none ∈ TT := TT_3 121 rfl rfl
theorem hdX3_place : yX3_place.cls ≠ "java/lang/invoke/MethodHandle" ∧ yX3_place.cls ≠ "java/lang/invoke/VarHandle" ∧ (parseMethodDescriptor yX3_place.desc).map (fun d => d.parameters.length) = some 2 := by decide +kernel
theorem mM_X3_place : Cond.instanceMethod yX3_place ∈ TT := TT_3 120 rfl rfl
theorem mS_X3_place : Cond.selects RX3 yX3_place yX3_place ∈ TT := TT_s (n := 4) 16 rfl rfl
theorem mmX3_place : CWv yX3_place cX3_place 7 none 2 RX3 := ⟨⟨mM_X3_place, mS_X3_place, rfl⟩, mI_BoxedPapers_Planner, mK_X3_place, hdX3_place⟩
theorem mF_X2_15 : Cond.fieldLink RX2 15 "BoxedPapers$Page" "length" "I" ∈ TT := TT_1 177 rfl rfl
theorem mF_X2_9 : Cond.fieldLink RX2 9 "BoxedPapers$Page" "signs" "[I" ∈ TT := TT_1 176 rfl rfl
theorem mF_X2_19 : Cond.fieldLink RX2 19 "BoxedPapers$Page" "latest" "I" ∈ TT := TT_1 178 rfl rfl
theorem mL_X2_22 : Cond.methodLink RX2 22 arraycopyName ∈ TT := TT_4 134 rfl rfl
theorem mC_X2_107 : Cond.constant RX2 107 (1000000000) ∈ TT := TT_4 101 rfl rfl
theorem mL_X2_45 : Cond.methodLink RX2 45 yX2_put ∈ TT := TT_4 93 rfl rfl
theorem mI_BoxedPapers_Page : Cond.initialized RX2 ∈ TT := TT_1 9 rfl rfl
theorem mK_X2_put : Cond.code yX2_put cX2_put 2 none ∈ TT := TT_4 96 rfl rfl
theorem hdX2_put : yX2_put.cls ≠ "java/lang/invoke/MethodHandle" ∧ yX2_put.cls ≠ "java/lang/invoke/VarHandle" ∧ (parseMethodDescriptor yX2_put.desc).map (fun d => d.parameters.length) = some 1 := by decide +kernel
theorem mM_X2_put : Cond.instanceMethod yX2_put ∈ TT := TT_4 95 rfl rfl
theorem mS_X2_put : Cond.selects RX2 yX2_put yX2_put ∈ TT := TT_s (n := 3) 23 rfl rfl
theorem mmX2_put : CWv yX2_put cX2_put 2 none 1 RX2 := ⟨⟨mM_X2_put, mS_X2_put, rfl⟩, mI_BoxedPapers_Page, mK_X2_put, hdX2_put⟩
theorem mL_X2_49 : Cond.methodLink RX2 49 yX2_putNumber ∈ TT := TT_4 97 rfl rfl
theorem mK_X2_putNumber : Cond.code yX2_putNumber cX2_putNumber 5 none ∈ TT := TT_4 100 rfl rfl
theorem hdX2_putNumber : yX2_putNumber.cls ≠ "java/lang/invoke/MethodHandle" ∧ yX2_putNumber.cls ≠ "java/lang/invoke/VarHandle" ∧ (parseMethodDescriptor yX2_putNumber.desc).map (fun d => d.parameters.length) = some 1 := by decide +kernel
theorem mM_X2_putNumber : Cond.instanceMethod yX2_putNumber ∈ TT := TT_4 99 rfl rfl
theorem mS_X2_putNumber : Cond.selects RX2 yX2_putNumber yX2_putNumber ∈ TT := TT_s (n := 3) 24 rfl rfl
theorem mmX2_putNumber : CWv yX2_putNumber cX2_putNumber 5 none 1 RX2 := ⟨⟨mM_X2_putNumber, mS_X2_putNumber, rfl⟩, mI_BoxedPapers_Page, mK_X2_putNumber, hdX2_putNumber⟩
theorem mL_X2_96 : Cond.methodLink RX2 96 yX4_bareFrom ∈ TT := TT_4 120 rfl rfl
theorem mL_X2_63 : Cond.methodLink RX2 63 yX4_size ∈ TT := TT_4 105 rfl rfl
theorem mL_X2_99 : Cond.methodLink RX2 99 yX4_bareTo ∈ TT := TT_4 121 rfl rfl
theorem mL_X2_103 : Cond.methodLink RX2 103 yX2_putRange ∈ TT := TT_4 122 rfl rfl
theorem mK_X2_putRange : Cond.code yX2_putRange cX2_putRange 3 none ∈ TT := TT_4 125 rfl rfl
theorem hdX2_putRange : yX2_putRange.cls ≠ "java/lang/invoke/MethodHandle" ∧ yX2_putRange.cls ≠ "java/lang/invoke/VarHandle" ∧ (parseMethodDescriptor yX2_putRange.desc).map (fun d => d.parameters.length) = some 2 := by decide +kernel
theorem mM_X2_putRange : Cond.instanceMethod yX2_putRange ∈ TT := TT_4 124 rfl rfl
theorem mS_X2_putRange : Cond.selects RX2 yX2_putRange yX2_putRange ∈ TT := TT_s (n := 3) 26 rfl rfl
theorem mmX2_putRange : CWv yX2_putRange cX2_putRange 3 none 2 RX2 := ⟨⟨mM_X2_putRange, mS_X2_putRange, rfl⟩, mI_BoxedPapers_Page, mK_X2_putRange, hdX2_putRange⟩
theorem mL_X2_41 : Cond.methodLink RX2 41 yX0_ownIn ∈ TT := TT_4 92 rfl rfl
theorem mL_X2_52 : Cond.methodLink RX2 52 yX0_firstIn ∈ TT := TT_4 102 rfl rfl
theorem mL_X2_56 : Cond.methodLink RX2 56 yX0_lastIn ∈ TT := TT_4 103 rfl rfl
theorem mL_X2_59 : Cond.methodLink RX2 59 yX0_pieces ∈ TT := TT_4 104 rfl rfl
theorem mL_X2_68 : Cond.methodLink RX2 68 yX4_markOf ∈ TT := TT_4 106 rfl rfl
theorem mL_X2_71 : Cond.methodLink RX2 71 yX4_meets ∈ TT := TT_4 107 rfl rfl
theorem mL_X2_75 : Cond.methodLink RX2 75 yX4_firstOf ∈ TT := TT_4 108 rfl rfl
theorem mL_X2_78 : Cond.methodLink RX2 78 Lib.Math.max.name ∈ TT := TT_4 109 rfl rfl
theorem mL_X2_83 : Cond.methodLink RX2 83 yX4_lastOf ∈ TT := TT_4 110 rfl rfl
theorem mL_X2_86 : Cond.methodLink RX2 86 Lib.Math.min.name ∈ TT := TT_4 111 rfl rfl
theorem mL_X2_89 : Cond.methodLink RX2 89 yX0_allSeries ∈ TT := TT_4 112 rfl rfl
theorem mK_X0_allSeries : Cond.code yX0_allSeries cX0_allSeries 1 (some (.object "BoxedPapers$Ranges")) ∈ TT := TT_4 115 rfl rfl
theorem hdX0_allSeries : yX0_allSeries.cls ≠ "java/lang/invoke/MethodHandle" ∧ yX0_allSeries.cls ≠ "java/lang/invoke/VarHandle" ∧ (parseMethodDescriptor yX0_allSeries.desc).map (fun d => d.parameters.length) = some 0 := by decide +kernel
theorem mM_X0_allSeries : Cond.instanceMethod yX0_allSeries ∈ TT := TT_4 113 rfl rfl
theorem mS_X0_allSeries : Cond.selects RX0 yX0_allSeries yX0_allSeries ∈ TT := TT_4 114 rfl rfl
theorem mmX0_allSeries : CWv yX0_allSeries cX0_allSeries 1 (some (.object "BoxedPapers$Ranges")) 0 RX0 := ⟨⟨mM_X0_allSeries, mS_X0_allSeries, rfl⟩, mI_BoxedPapers_Archive, mK_X0_allSeries, hdX0_allSeries⟩
theorem mL_X2_92 : Cond.methodLink RX2 92 yX2_writeOwn ∈ TT := TT_4 116 rfl rfl
theorem mK_X2_writeOwn : Cond.code yX2_writeOwn cX2_writeOwn 8 none ∈ TT := TT_4 119 rfl rfl
theorem hdX2_writeOwn : yX2_writeOwn.cls ≠ "java/lang/invoke/MethodHandle" ∧ yX2_writeOwn.cls ≠ "java/lang/invoke/VarHandle" ∧ (parseMethodDescriptor yX2_writeOwn.desc).map (fun d => d.parameters.length) = some 4 := by decide +kernel
theorem mM_X2_writeOwn : Cond.instanceMethod yX2_writeOwn ∈ TT := TT_4 118 rfl rfl
theorem mS_X2_writeOwn : Cond.selects RX2 yX2_writeOwn yX2_writeOwn ∈ TT := TT_s (n := 3) 25 rfl rfl
theorem mmX2_writeOwn : CWv yX2_writeOwn cX2_writeOwn 8 none 4 RX2 := ⟨⟨mM_X2_writeOwn, mS_X2_writeOwn, rfl⟩, mI_BoxedPapers_Page, mK_X2_writeOwn, hdX2_writeOwn⟩
theorem mL_X2_28 : Cond.methodLink RX2 28 yX2_wipe ∈ TT := TT_4 83 rfl rfl
theorem mK_X2_wipe : Cond.code yX2_wipe cX2_wipe 1 none ∈ TT := TT_2 142 rfl rfl
theorem hdX2_wipe : yX2_wipe.cls ≠ "java/lang/invoke/MethodHandle" ∧ yX2_wipe.cls ≠ "java/lang/invoke/VarHandle" ∧ (parseMethodDescriptor yX2_wipe.desc).map (fun d => d.parameters.length) = some 0 := by decide +kernel
theorem mM_X2_wipe : Cond.instanceMethod yX2_wipe ∈ TT := TT_2 140 rfl rfl
theorem mS_X2_wipe : Cond.selects RX2 yX2_wipe yX2_wipe ∈ TT := TT_2 141 rfl rfl
theorem mmX2_wipe : CWv yX2_wipe cX2_wipe 1 none 0 RX2 := ⟨⟨mM_X2_wipe, mS_X2_wipe, rfl⟩, mI_BoxedPapers_Page, mK_X2_wipe, hdX2_wipe⟩
theorem mL_X2_31 : Cond.methodLink RX2 31 yX0_seriesCount ∈ TT := TT_4 84 rfl rfl
theorem mK_X0_seriesCount : Cond.code yX0_seriesCount cX0_seriesCount 1 (some .int) ∈ TT := TT_4 87 rfl rfl
theorem hdX0_seriesCount : yX0_seriesCount.cls ≠ "java/lang/invoke/MethodHandle" ∧ yX0_seriesCount.cls ≠ "java/lang/invoke/VarHandle" ∧ (parseMethodDescriptor yX0_seriesCount.desc).map (fun d => d.parameters.length) = some 0 := by decide +kernel
theorem mM_X0_seriesCount : Cond.instanceMethod yX0_seriesCount ∈ TT := TT_4 85 rfl rfl
theorem mS_X0_seriesCount : Cond.selects RX0 yX0_seriesCount yX0_seriesCount ∈ TT := TT_4 86 rfl rfl
theorem mmX0_seriesCount : CWv yX0_seriesCount cX0_seriesCount 1 (some .int) 0 RX0 := ⟨⟨mM_X0_seriesCount, mS_X0_seriesCount, rfl⟩, mI_BoxedPapers_Archive, mK_X0_seriesCount, hdX0_seriesCount⟩
theorem mL_X2_37 : Cond.methodLink RX2 37 yX2_writePart ∈ TT := TT_4 88 rfl rfl
theorem mK_X2_writePart : Cond.code yX2_writePart cX2_writePart 10 none ∈ TT := TT_4 91 rfl rfl
theorem hdX2_writePart : yX2_writePart.cls ≠ "java/lang/invoke/MethodHandle" ∧ yX2_writePart.cls ≠ "java/lang/invoke/VarHandle" ∧ (parseMethodDescriptor yX2_writePart.desc).map (fun d => d.parameters.length) = some 3 := by decide +kernel
theorem mM_X2_writePart : Cond.instanceMethod yX2_writePart ∈ TT := TT_4 90 rfl rfl
theorem mS_X2_writePart : Cond.selects RX2 yX2_writePart yX2_writePart ∈ TT := TT_s (n := 3) 22 rfl rfl
theorem mmX2_writePart : CWv yX2_writePart cX2_writePart 10 none 3 RX2 := ⟨⟨mM_X2_writePart, mS_X2_writePart, rfl⟩, mI_BoxedPapers_Page, mK_X2_writePart, hdX2_writePart⟩
theorem mF_X6_21 : Cond.fieldLink RX6 21 "BoxedPapers$Text" "length" "I" ∈ TT := TT_1 154 rfl rfl
theorem mF_X6_25 : Cond.fieldLink RX6 25 "BoxedPapers$Text" "commandCount" "I" ∈ TT := TT_1 155 rfl rfl
theorem mF_X6_15 : Cond.fieldLink RX6 15 "BoxedPapers$Text" "verbs" "[I" ∈ TT := TT_1 152 rfl rfl
theorem mF_X6_18 : Cond.fieldLink RX6 18 "BoxedPapers$Text" "numbers" "[I" ∈ TT := TT_1 153 rfl rfl
theorem mF_X6_9 : Cond.fieldLink RX6 9 "BoxedPapers$Text" "bytes" "[I" ∈ TT := TT_1 151 rfl rfl
theorem mF_X6_28 : Cond.fieldLink RX6 28 "BoxedPapers$Text" "at" "I" ∈ TT := TT_1 156 rfl rfl
theorem mC_X6_114 : Cond.constant RX6 114 (2000000000) ∈ TT := TT_2 100 rfl rfl
theorem mL_X6_38 : Cond.methodLink RX6 38 yX6_byteHere ∈ TT := TT_2 4 rfl rfl
theorem mI_BoxedPapers_Text : Cond.initialized RX6 ∈ TT := TT_1 8 rfl rfl
theorem mK_X6_byteHere : Cond.code yX6_byteHere cX6_byteHere 1 (some .int) ∈ TT := TT_2 7 rfl rfl
theorem hdX6_byteHere : yX6_byteHere.cls ≠ "java/lang/invoke/MethodHandle" ∧ yX6_byteHere.cls ≠ "java/lang/invoke/VarHandle" ∧ (parseMethodDescriptor yX6_byteHere.desc).map (fun d => d.parameters.length) = some 0 := by decide +kernel
theorem mM_X6_byteHere : Cond.instanceMethod yX6_byteHere ∈ TT := TT_2 6 rfl rfl
theorem mS_X6_byteHere : Cond.selects RX6 yX6_byteHere yX6_byteHere ∈ TT := TT_s (n := 6) 2 rfl rfl
theorem mmX6_byteHere : CWv yX6_byteHere cX6_byteHere 1 (some .int) 0 RX6 := ⟨⟨mM_X6_byteHere, mS_X6_byteHere, rfl⟩, mI_BoxedPapers_Text, mK_X6_byteHere, hdX6_byteHere⟩
theorem mD_X6_75 : Cond.constantLong RX6 75 (10) ∈ TT := TT_2 92 rfl rfl
theorem mD_X6_77 : Cond.constantLong RX6 77 (-1) ∈ TT := TT_2 93 rfl rfl
theorem mL_X6_52 : Cond.methodLink RX6 52 yJ0_length_8abf5 ∈ TT := TT_2 31 rfl rfl
theorem mI_java_lang_String : Cond.initialized RJ0 ∈ TT := TT_1 11 rfl rfl
theorem mK_J0_length_8abf5 : Cond.code yJ0_length_8abf5 cJ0_length_8abf5 1 (some .int) ∈ TT := TT_2 34 rfl rfl
theorem hdJ0_length_8abf5 : yJ0_length_8abf5.cls ≠ "java/lang/invoke/MethodHandle" ∧ yJ0_length_8abf5.cls ≠ "java/lang/invoke/VarHandle" ∧ (parseMethodDescriptor yJ0_length_8abf5.desc).map (fun d => d.parameters.length) = some 0 := by decide +kernel
theorem mM_J0_length_8abf5 : Cond.instanceMethod yJ0_length_8abf5 ∈ TT := TT_2 32 rfl rfl
theorem mS_J0_length_8abf5 : Cond.selects RJ0 yJ0_length_8abf5 yJ0_length_8abf5 ∈ TT := TT_2 33 rfl rfl
theorem mmJ0_length_8abf5 : CWv yJ0_length_8abf5 cJ0_length_8abf5 1 (some .int) 0 RJ0 := ⟨⟨mM_J0_length_8abf5, mS_J0_length_8abf5, rfl⟩, mI_java_lang_String, mK_J0_length_8abf5, hdJ0_length_8abf5⟩
theorem mL_X6_60 : Cond.methodLink RX6 60 yJ0_charAt_5068e ∈ TT := TT_2 41 rfl rfl
theorem mK_J0_charAt_5068e : Cond.code yJ0_charAt_5068e cJ0_charAt_5068e 2 (some .char) ∈ TT := TT_2 44 rfl rfl
theorem hdJ0_charAt_5068e : yJ0_charAt_5068e.cls ≠ "java/lang/invoke/MethodHandle" ∧ yJ0_charAt_5068e.cls ≠ "java/lang/invoke/VarHandle" ∧ (parseMethodDescriptor yJ0_charAt_5068e.desc).map (fun d => d.parameters.length) = some 1 := by decide +kernel
theorem mM_J0_charAt_5068e : Cond.instanceMethod yJ0_charAt_5068e ∈ TT := TT_2 42 rfl rfl
theorem mS_J0_charAt_5068e : Cond.selects RJ0 yJ0_charAt_5068e yJ0_charAt_5068e ∈ TT := TT_2 43 rfl rfl
theorem mmJ0_charAt_5068e : CWv yJ0_charAt_5068e cJ0_charAt_5068e 2 (some .char) 1 RJ0 := ⟨⟨mM_J0_charAt_5068e, mS_J0_charAt_5068e, rfl⟩, mI_java_lang_String, mK_J0_charAt_5068e, hdJ0_charAt_5068e⟩
theorem mL_X6_79 : Cond.methodLink RX6 79 yX6_wordOf ∈ TT := TT_2 16 rfl rfl
theorem mK_X6_wordOf : Cond.code yX6_wordOf cX6_wordOf 1 (some (.object "java/lang/String")) ∈ TT := TT_2 18 rfl rfl
theorem hdX6_wordOf : yX6_wordOf.cls ≠ "java/lang/invoke/MethodHandle" ∧ yX6_wordOf.cls ≠ "java/lang/invoke/VarHandle" ∧ (parseMethodDescriptor yX6_wordOf.desc).map (fun d => d.parameters.length) = some 1 := by decide +kernel
theorem mS_X6_wordOf : Cond.static yX6_wordOf ∈ TT := TT_2 17 rfl rfl
theorem mmX6_wordOf : CWs yX6_wordOf cX6_wordOf 1 (some (.object "java/lang/String")) 1 := ⟨mS_X6_wordOf, mI_BoxedPapers_Text, mK_X6_wordOf, hdX6_wordOf⟩
theorem mL_X6_82 : Cond.methodLink RX6 82 yX6_isWord ∈ TT := TT_2 27 rfl rfl
theorem mK_X6_isWord : Cond.code yX6_isWord cX6_isWord 4 (some .boolean) ∈ TT := TT_2 30 rfl rfl
theorem hdX6_isWord : yX6_isWord.cls ≠ "java/lang/invoke/MethodHandle" ∧ yX6_isWord.cls ≠ "java/lang/invoke/VarHandle" ∧ (parseMethodDescriptor yX6_isWord.desc).map (fun d => d.parameters.length) = some 2 := by decide +kernel
theorem mM_X6_isWord : Cond.instanceMethod yX6_isWord ∈ TT := TT_2 29 rfl rfl
theorem mS_X6_isWord : Cond.selects RX6 yX6_isWord yX6_isWord ∈ TT := TT_s (n := 6) 5 rfl rfl
theorem mmX6_isWord : CWv yX6_isWord cX6_isWord 4 (some .boolean) 2 RX6 := ⟨⟨mM_X6_isWord, mS_X6_isWord, rfl⟩, mI_BoxedPapers_Text, mK_X6_isWord, hdX6_isWord⟩
theorem mL_X6_35 : Cond.methodLink RX6 35 yX6_skipBlanks ∈ TT := TT_2 0 rfl rfl
theorem mK_X6_skipBlanks : Cond.code yX6_skipBlanks cX6_skipBlanks 2 none ∈ TT := TT_2 3 rfl rfl
theorem hdX6_skipBlanks : yX6_skipBlanks.cls ≠ "java/lang/invoke/MethodHandle" ∧ yX6_skipBlanks.cls ≠ "java/lang/invoke/VarHandle" ∧ (parseMethodDescriptor yX6_skipBlanks.desc).map (fun d => d.parameters.length) = some 0 := by decide +kernel
theorem mM_X6_skipBlanks : Cond.instanceMethod yX6_skipBlanks ∈ TT := TT_2 2 rfl rfl
theorem mS_X6_skipBlanks : Cond.selects RX6 yX6_skipBlanks yX6_skipBlanks ∈ TT := TT_s (n := 6) 1 rfl rfl
theorem mmX6_skipBlanks : CWv yX6_skipBlanks cX6_skipBlanks 2 none 0 RX6 := ⟨⟨mM_X6_skipBlanks, mS_X6_skipBlanks, rfl⟩, mI_BoxedPapers_Text, mK_X6_skipBlanks, hdX6_skipBlanks⟩
theorem mL_X6_42 : Cond.methodLink RX6 42 yX6_skipWord ∈ TT := TT_2 8 rfl rfl
theorem mK_X6_skipWord : Cond.code yX6_skipWord cX6_skipWord 2 none ∈ TT := TT_2 11 rfl rfl
theorem hdX6_skipWord : yX6_skipWord.cls ≠ "java/lang/invoke/MethodHandle" ∧ yX6_skipWord.cls ≠ "java/lang/invoke/VarHandle" ∧ (parseMethodDescriptor yX6_skipWord.desc).map (fun d => d.parameters.length) = some 0 := by decide +kernel
theorem mM_X6_skipWord : Cond.instanceMethod yX6_skipWord ∈ TT := TT_2 10 rfl rfl
theorem mS_X6_skipWord : Cond.selects RX6 yX6_skipWord yX6_skipWord ∈ TT := TT_s (n := 6) 3 rfl rfl
theorem mmX6_skipWord : CWv yX6_skipWord cX6_skipWord 2 none 0 RX6 := ⟨⟨mM_X6_skipWord, mS_X6_skipWord, rfl⟩, mI_BoxedPapers_Text, mK_X6_skipWord, hdX6_skipWord⟩
theorem mL_X6_45 : Cond.methodLink RX6 45 yX6_verbFrom ∈ TT := TT_2 12 rfl rfl
theorem mK_X6_verbFrom : Cond.code yX6_verbFrom cX6_verbFrom 3 (some .int) ∈ TT := TT_2 15 rfl rfl
theorem hdX6_verbFrom : yX6_verbFrom.cls ≠ "java/lang/invoke/MethodHandle" ∧ yX6_verbFrom.cls ≠ "java/lang/invoke/VarHandle" ∧ (parseMethodDescriptor yX6_verbFrom.desc).map (fun d => d.parameters.length) = some 1 := by decide +kernel
theorem mM_X6_verbFrom : Cond.instanceMethod yX6_verbFrom ∈ TT := TT_2 14 rfl rfl
theorem mS_X6_verbFrom : Cond.selects RX6 yX6_verbFrom yX6_verbFrom ∈ TT := TT_s (n := 6) 4 rfl rfl
theorem mmX6_verbFrom : CWv yX6_verbFrom cX6_verbFrom 3 (some .int) 1 RX6 := ⟨⟨mM_X6_verbFrom, mS_X6_verbFrom, rfl⟩, mI_BoxedPapers_Text, mK_X6_verbFrom, hdX6_verbFrom⟩
theorem mL_X6_48 : Cond.methodLink RX6 48 yX6_kindsOf ∈ TT := TT_2 79 rfl rfl
theorem mK_X6_kindsOf : Cond.code yX6_kindsOf cX6_kindsOf 1 (some (.object "java/lang/String")) ∈ TT := TT_2 81 rfl rfl
theorem hdX6_kindsOf : yX6_kindsOf.cls ≠ "java/lang/invoke/MethodHandle" ∧ yX6_kindsOf.cls ≠ "java/lang/invoke/VarHandle" ∧ (parseMethodDescriptor yX6_kindsOf.desc).map (fun d => d.parameters.length) = some 1 := by decide +kernel
theorem mS_X6_kindsOf : Cond.static yX6_kindsOf ∈ TT := TT_2 80 rfl rfl
theorem mmX6_kindsOf : CWs yX6_kindsOf cX6_kindsOf 1 (some (.object "java/lang/String")) 1 := ⟨mS_X6_kindsOf, mI_BoxedPapers_Text, mK_X6_kindsOf, hdX6_kindsOf⟩
theorem mL_X6_56 : Cond.methodLink RX6 56 yX6_readNumber ∈ TT := TT_2 88 rfl rfl
theorem mK_X6_readNumber : Cond.code yX6_readNumber cX6_readNumber 5 (some .long) ∈ TT := TT_2 91 rfl rfl
theorem hdX6_readNumber : yX6_readNumber.cls ≠ "java/lang/invoke/MethodHandle" ∧ yX6_readNumber.cls ≠ "java/lang/invoke/VarHandle" ∧ (parseMethodDescriptor yX6_readNumber.desc).map (fun d => d.parameters.length) = some 0 := by decide +kernel
theorem mM_X6_readNumber : Cond.instanceMethod yX6_readNumber ∈ TT := TT_2 90 rfl rfl
theorem mS_X6_readNumber : Cond.selects RX6 yX6_readNumber yX6_readNumber ∈ TT := TT_s (n := 6) 6 rfl rfl
theorem mmX6_readNumber : CWv yX6_readNumber cX6_readNumber 5 (some .long) 0 RX6 := ⟨⟨mM_X6_readNumber, mS_X6_readNumber, rfl⟩, mI_BoxedPapers_Text, mK_X6_readNumber, hdX6_readNumber⟩
theorem mL_X6_64 : Cond.methodLink RX6 64 yX6_lowest ∈ TT := TT_2 94 rfl rfl
theorem mK_X6_lowest : Cond.code yX6_lowest cX6_lowest 2 (some .int) ∈ TT := TT_2 96 rfl rfl
theorem hdX6_lowest : yX6_lowest.cls ≠ "java/lang/invoke/MethodHandle" ∧ yX6_lowest.cls ≠ "java/lang/invoke/VarHandle" ∧ (parseMethodDescriptor yX6_lowest.desc).map (fun d => d.parameters.length) = some 2 := by decide +kernel
theorem mS_X6_lowest : Cond.static yX6_lowest ∈ TT := TT_2 95 rfl rfl
theorem mmX6_lowest : CWs yX6_lowest cX6_lowest 2 (some .int) 2 := ⟨mS_X6_lowest, mI_BoxedPapers_Text, mK_X6_lowest, hdX6_lowest⟩
theorem mL_X6_68 : Cond.methodLink RX6 68 yX6_highest ∈ TT := TT_2 97 rfl rfl
theorem mK_X6_highest : Cond.code yX6_highest cX6_highest 1 (some .int) ∈ TT := TT_2 99 rfl rfl
theorem hdX6_highest : yX6_highest.cls ≠ "java/lang/invoke/MethodHandle" ∧ yX6_highest.cls ≠ "java/lang/invoke/VarHandle" ∧ (parseMethodDescriptor yX6_highest.desc).map (fun d => d.parameters.length) = some 1 := by decide +kernel
theorem mS_X6_highest : Cond.static yX6_highest ∈ TT := TT_2 98 rfl rfl
theorem mmX6_highest : CWs yX6_highest cX6_highest 1 (some .int) 1 := ⟨mS_X6_highest, mI_BoxedPapers_Text, mK_X6_highest, hdX6_highest⟩
theorem mL_X6_71 : Cond.methodLink RX6 71 yX6_setNumber ∈ TT := TT_2 101 rfl rfl
theorem mK_X6_setNumber : Cond.code yX6_setNumber cX6_setNumber 5 none ∈ TT := TT_2 104 rfl rfl
theorem hdX6_setNumber : yX6_setNumber.cls ≠ "java/lang/invoke/MethodHandle" ∧ yX6_setNumber.cls ≠ "java/lang/invoke/VarHandle" ∧ (parseMethodDescriptor yX6_setNumber.desc).map (fun d => d.parameters.length) = some 3 := by decide +kernel
theorem mM_X6_setNumber : Cond.instanceMethod yX6_setNumber ∈ TT := TT_2 103 rfl rfl
theorem mS_X6_setNumber : Cond.selects RX6 yX6_setNumber yX6_setNumber ∈ TT := TT_s (n := 6) 7 rfl rfl
theorem mmX6_setNumber : CWv yX6_setNumber cX6_setNumber 5 none 3 RX6 := ⟨⟨mM_X6_setNumber, mS_X6_setNumber, rfl⟩, mI_BoxedPapers_Text, mK_X6_setNumber, hdX6_setNumber⟩
theorem mL_X6_31 : Cond.methodLink RX6 31 yX6_readCommand ∈ TT := TT_1 236 rfl rfl
theorem mK_X6_readCommand : Cond.code yX6_readCommand cX6_readCommand 10 (some .int) ∈ TT := TT_1 239 rfl rfl
theorem hdX6_readCommand : yX6_readCommand.cls ≠ "java/lang/invoke/MethodHandle" ∧ yX6_readCommand.cls ≠ "java/lang/invoke/VarHandle" ∧ (parseMethodDescriptor yX6_readCommand.desc).map (fun d => d.parameters.length) = some 1 := by decide +kernel
theorem mM_X6_readCommand : Cond.instanceMethod yX6_readCommand ∈ TT := TT_1 238 rfl rfl
theorem mS_X6_readCommand : Cond.selects RX6 yX6_readCommand yX6_readCommand ∈ TT := TT_s (n := 6) 0 rfl rfl
theorem mmX6_readCommand : CWv yX6_readCommand cX6_readCommand 10 (some .int) 1 RX6 := ⟨⟨mM_X6_readCommand, mS_X6_readCommand, rfl⟩, mI_BoxedPapers_Text, mK_X6_readCommand, hdX6_readCommand⟩
theorem mF_X1_22 : Cond.fieldLink RX1 22 "BoxedPapers$History" "steps" "I" ∈ TT := TT_1 114 rfl rfl
theorem mF_X1_18 : Cond.fieldLink RX1 18 "BoxedPapers$History" "top" "I" ∈ TT := TT_1 113 rfl rfl
theorem mL_X1_38 : Cond.methodLink RX1 38 Lib.Math.min.name ∈ TT := TT_3 59 rfl rfl
theorem mF_X7_42 : Cond.fieldLink RX7 42 "BoxedPapers" "text" "LBoxedPapers$Text;" ∈ TT := TT_1 190 rfl rfl
theorem mL_X7_56 : Cond.methodLink RX7 56 yX6_append ∈ TT := TT_1 212 rfl rfl
theorem mK_X6_append : Cond.code yX6_append cX6_append 2 (some .boolean) ∈ TT := TT_1 215 rfl rfl
theorem hdX6_append : yX6_append.cls ≠ "java/lang/invoke/MethodHandle" ∧ yX6_append.cls ≠ "java/lang/invoke/VarHandle" ∧ (parseMethodDescriptor yX6_append.desc).map (fun d => d.parameters.length) = some 1 := by decide +kernel
theorem mM_X6_append : Cond.instanceMethod yX6_append ∈ TT := TT_1 213 rfl rfl
theorem mS_X6_append : Cond.selects RX6 yX6_append yX6_append ∈ TT := TT_1 214 rfl rfl
theorem mmX6_append : CWv yX6_append cX6_append 2 (some .boolean) 1 RX6 := ⟨⟨mM_X6_append, mS_X6_append, rfl⟩, mI_BoxedPapers_Text, mK_X6_append, hdX6_append⟩
theorem mL_X7_60 : Cond.methodLink RX7 60 yX6_length ∈ TT := TT_1 216 rfl rfl
theorem mK_X6_length : Cond.code yX6_length cX6_length 1 (some .int) ∈ TT := TT_1 219 rfl rfl
theorem hdX6_length : yX6_length.cls ≠ "java/lang/invoke/MethodHandle" ∧ yX6_length.cls ≠ "java/lang/invoke/VarHandle" ∧ (parseMethodDescriptor yX6_length.desc).map (fun d => d.parameters.length) = some 0 := by decide +kernel
theorem mM_X6_length : Cond.instanceMethod yX6_length ∈ TT := TT_1 217 rfl rfl
theorem mS_X6_length : Cond.selects RX6 yX6_length yX6_length ∈ TT := TT_1 218 rfl rfl
theorem mmX6_length : CWv yX6_length cX6_length 1 (some .int) 0 RX6 := ⟨⟨mM_X6_length, mS_X6_length, rfl⟩, mI_BoxedPapers_Text, mK_X6_length, hdX6_length⟩
theorem mL_X7_64 : Cond.methodLink RX7 64 yX6_wipe ∈ TT := TT_1 224 rfl rfl
theorem mK_X6_wipe : Cond.code yX6_wipe cX6_wipe 1 none ∈ TT := TT_1 227 rfl rfl
theorem hdX6_wipe : yX6_wipe.cls ≠ "java/lang/invoke/MethodHandle" ∧ yX6_wipe.cls ≠ "java/lang/invoke/VarHandle" ∧ (parseMethodDescriptor yX6_wipe.desc).map (fun d => d.parameters.length) = some 0 := by decide +kernel
theorem mM_X6_wipe : Cond.instanceMethod yX6_wipe ∈ TT := TT_1 225 rfl rfl
theorem mS_X6_wipe : Cond.selects RX6 yX6_wipe yX6_wipe ∈ TT := TT_1 226 rfl rfl
theorem mmX6_wipe : CWv yX6_wipe cX6_wipe 1 none 0 RX6 := ⟨⟨mM_X6_wipe, mS_X6_wipe, rfl⟩, mI_BoxedPapers_Text, mK_X6_wipe, hdX6_wipe⟩
theorem mL_X7_67 : Cond.methodLink RX7 67 yX6_read ∈ TT := TT_1 232 rfl rfl
theorem mK_X6_read : Cond.code yX6_read cX6_read 3 (some .int) ∈ TT := TT_1 235 rfl rfl
theorem hdX6_read : yX6_read.cls ≠ "java/lang/invoke/MethodHandle" ∧ yX6_read.cls ≠ "java/lang/invoke/VarHandle" ∧ (parseMethodDescriptor yX6_read.desc).map (fun d => d.parameters.length) = some 0 := by decide +kernel
theorem mM_X6_read : Cond.instanceMethod yX6_read ∈ TT := TT_1 233 rfl rfl
theorem mS_X6_read : Cond.selects RX6 yX6_read yX6_read ∈ TT := TT_1 234 rfl rfl
theorem mmX6_read : CWv yX6_read cX6_read 3 (some .int) 0 RX6 := ⟨⟨mM_X6_read, mS_X6_read, rfl⟩, mI_BoxedPapers_Text, mK_X6_read, hdX6_read⟩
theorem mF_X7_12 : Cond.fieldLink RX7 12 "BoxedPapers" "archive" "LBoxedPapers$Archive;" ∈ TT := TT_1 186 rfl rfl
theorem mL_X7_109 : Cond.methodLink RX7 109 yX0_empty ∈ TT := TT_2 130 rfl rfl
theorem mK_X0_empty : Cond.code yX0_empty cX0_empty 2 none ∈ TT := TT_2 133 rfl rfl
theorem hdX0_empty : yX0_empty.cls ≠ "java/lang/invoke/MethodHandle" ∧ yX0_empty.cls ≠ "java/lang/invoke/VarHandle" ∧ (parseMethodDescriptor yX0_empty.desc).map (fun d => d.parameters.length) = some 0 := by decide +kernel
theorem mM_X0_empty : Cond.instanceMethod yX0_empty ∈ TT := TT_2 131 rfl rfl
theorem mS_X0_empty : Cond.selects RX0 yX0_empty yX0_empty ∈ TT := TT_2 132 rfl rfl
theorem mmX0_empty : CWv yX0_empty cX0_empty 2 none 0 RX0 := ⟨⟨mM_X0_empty, mS_X0_empty, rfl⟩, mI_BoxedPapers_Archive, mK_X0_empty, hdX0_empty⟩
theorem mF_X7_35 : Cond.fieldLink RX7 35 "BoxedPapers" "rows" "LBoxedPapers$Ranges;" ∈ TT := TT_1 189 rfl rfl
theorem mL_X7_112 : Cond.methodLink RX7 112 yX4_cutTo ∈ TT := TT_2 138 rfl rfl
theorem mF_X7_49 : Cond.fieldLink RX7 49 "BoxedPapers" "page" "LBoxedPapers$Page;" ∈ TT := TT_1 191 rfl rfl
theorem mL_X7_115 : Cond.methodLink RX7 115 yX2_wipe ∈ TT := TT_2 139 rfl rfl
theorem mL_X7_126 : Cond.methodLink RX7 126 yX0_isSeries ∈ TT := TT_3 96 rfl rfl
theorem mL_X7_154 : Cond.methodLink RX7 154 yX0_firstIn ∈ TT := TT_3 165 rfl rfl
theorem mL_X7_157 : Cond.methodLink RX7 157 yX0_lastIn ∈ TT := TT_3 166 rfl rfl
theorem mL_X7_160 : Cond.methodLink RX7 160 yX0_parentOf ∈ TT := TT_3 167 rfl rfl
theorem mK_X0_parentOf : Cond.code yX0_parentOf cX0_parentOf 2 (some .int) ∈ TT := TT_3 170 rfl rfl
theorem hdX0_parentOf : yX0_parentOf.cls ≠ "java/lang/invoke/MethodHandle" ∧ yX0_parentOf.cls ≠ "java/lang/invoke/VarHandle" ∧ (parseMethodDescriptor yX0_parentOf.desc).map (fun d => d.parameters.length) = some 1 := by decide +kernel
theorem mM_X0_parentOf : Cond.instanceMethod yX0_parentOf ∈ TT := TT_3 168 rfl rfl
theorem mS_X0_parentOf : Cond.selects RX0 yX0_parentOf yX0_parentOf ∈ TT := TT_3 169 rfl rfl
theorem mmX0_parentOf : CWv yX0_parentOf cX0_parentOf 2 (some .int) 1 RX0 := ⟨⟨mM_X0_parentOf, mS_X0_parentOf, rfl⟩, mI_BoxedPapers_Archive, mK_X0_parentOf, hdX0_parentOf⟩
theorem mL_X7_163 : Cond.methodLink RX7 163 yX0_ownCount ∈ TT := TT_3 171 rfl rfl
theorem mK_X0_ownCount : Cond.code yX0_ownCount cX0_ownCount 4 (some .int) ∈ TT := TT_3 174 rfl rfl
theorem hdX0_ownCount : yX0_ownCount.cls ≠ "java/lang/invoke/MethodHandle" ∧ yX0_ownCount.cls ≠ "java/lang/invoke/VarHandle" ∧ (parseMethodDescriptor yX0_ownCount.desc).map (fun d => d.parameters.length) = some 1 := by decide +kernel
theorem mM_X0_ownCount : Cond.instanceMethod yX0_ownCount ∈ TT := TT_3 172 rfl rfl
theorem mS_X0_ownCount : Cond.selects RX0 yX0_ownCount yX0_ownCount ∈ TT := TT_3 173 rfl rfl
theorem mmX0_ownCount : CWv yX0_ownCount cX0_ownCount 4 (some .int) 1 RX0 := ⟨⟨mM_X0_ownCount, mS_X0_ownCount, rfl⟩, mI_BoxedPapers_Archive, mK_X0_ownCount, hdX0_ownCount⟩
theorem mL_X7_166 : Cond.methodLink RX7 166 yX0_childrenOf ∈ TT := TT_3 175 rfl rfl
theorem mK_X0_childrenOf : Cond.code yX0_childrenOf cX0_childrenOf 4 (some .int) ∈ TT := TT_3 178 rfl rfl
theorem hdX0_childrenOf : yX0_childrenOf.cls ≠ "java/lang/invoke/MethodHandle" ∧ yX0_childrenOf.cls ≠ "java/lang/invoke/VarHandle" ∧ (parseMethodDescriptor yX0_childrenOf.desc).map (fun d => d.parameters.length) = some 1 := by decide +kernel
theorem mM_X0_childrenOf : Cond.instanceMethod yX0_childrenOf ∈ TT := TT_3 176 rfl rfl
theorem mS_X0_childrenOf : Cond.selects RX0 yX0_childrenOf yX0_childrenOf ∈ TT := TT_3 177 rfl rfl
theorem mmX0_childrenOf : CWv yX0_childrenOf cX0_childrenOf 4 (some .int) 1 RX0 := ⟨⟨mM_X0_childrenOf, mS_X0_childrenOf, rfl⟩, mI_BoxedPapers_Archive, mK_X0_childrenOf, hdX0_childrenOf⟩
theorem mL_X7_169 : Cond.methodLink RX7 169 yX0_pieces ∈ TT := TT_3 179 rfl rfl
theorem mL_X7_172 : Cond.methodLink RX7 172 yX4_marksWithin ∈ TT := TT_3 180 rfl rfl
theorem mK_X4_marksWithin : Cond.code yX4_marksWithin cX4_marksWithin 5 (some .int) ∈ TT := TT_3 183 rfl rfl
theorem hdX4_marksWithin : yX4_marksWithin.cls ≠ "java/lang/invoke/MethodHandle" ∧ yX4_marksWithin.cls ≠ "java/lang/invoke/VarHandle" ∧ (parseMethodDescriptor yX4_marksWithin.desc).map (fun d => d.parameters.length) = some 2 := by decide +kernel
theorem mM_X4_marksWithin : Cond.instanceMethod yX4_marksWithin ∈ TT := TT_3 181 rfl rfl
theorem mS_X4_marksWithin : Cond.selects RX4 yX4_marksWithin yX4_marksWithin ∈ TT := TT_3 182 rfl rfl
theorem mmX4_marksWithin : CWv yX4_marksWithin cX4_marksWithin 5 (some .int) 2 RX4 := ⟨⟨mM_X4_marksWithin, mS_X4_marksWithin, rfl⟩, mI_BoxedPapers_Ranges, mK_X4_marksWithin, hdX4_marksWithin⟩
theorem mL_X7_175 : Cond.methodLink RX7 175 yX4_sheetsIn ∈ TT := TT_3 184 rfl rfl
theorem mF_X7_26 : Cond.fieldLink RX7 26 "BoxedPapers" "planner" "LBoxedPapers$Planner;" ∈ TT := TT_1 188 rfl rfl
theorem mL_X7_178 : Cond.methodLink RX7 178 yX3_findGaps ∈ TT := TT_3 185 rfl rfl
theorem mL_X7_181 : Cond.methodLink RX7 181 yX3_gaps ∈ TT := TT_3 186 rfl rfl
theorem mK_X3_gaps : Cond.code yX3_gaps cX3_gaps 1 (some (.object "BoxedPapers$Ranges")) ∈ TT := TT_3 189 rfl rfl
theorem hdX3_gaps : yX3_gaps.cls ≠ "java/lang/invoke/MethodHandle" ∧ yX3_gaps.cls ≠ "java/lang/invoke/VarHandle" ∧ (parseMethodDescriptor yX3_gaps.desc).map (fun d => d.parameters.length) = some 0 := by decide +kernel
theorem mM_X3_gaps : Cond.instanceMethod yX3_gaps ∈ TT := TT_3 187 rfl rfl
theorem mS_X3_gaps : Cond.selects RX3 yX3_gaps yX3_gaps ∈ TT := TT_3 188 rfl rfl
theorem mmX3_gaps : CWv yX3_gaps cX3_gaps 1 (some (.object "BoxedPapers$Ranges")) 0 RX3 := ⟨⟨mM_X3_gaps, mS_X3_gaps, rfl⟩, mI_BoxedPapers_Planner, mK_X3_gaps, hdX3_gaps⟩
theorem mL_X7_184 : Cond.methodLink RX7 184 yX4_size ∈ TT := TT_3 17 rfl rfl
theorem mL_X7_187 : Cond.methodLink RX7 187 yX7_isBox ∈ TT := TT_3 14 rfl rfl
theorem mL_X7_190 : Cond.methodLink RX7 190 yX0_roomOf ∈ TT := TT_3 194 rfl rfl
theorem mL_X7_193 : Cond.methodLink RX7 193 yX0_loadOf ∈ TT := TT_3 195 rfl rfl
theorem mL_X7_196 : Cond.methodLink RX7 196 yX4_countOf ∈ TT := TT_3 196 rfl rfl
theorem mL_X7_199 : Cond.methodLink RX7 199 yX0_seriesIn ∈ TT := TT_3 197 rfl rfl
theorem mK_X0_seriesIn : Cond.code yX0_seriesIn cX0_seriesIn 4 (some .int) ∈ TT := TT_3 200 rfl rfl
theorem hdX0_seriesIn : yX0_seriesIn.cls ≠ "java/lang/invoke/MethodHandle" ∧ yX0_seriesIn.cls ≠ "java/lang/invoke/VarHandle" ∧ (parseMethodDescriptor yX0_seriesIn.desc).map (fun d => d.parameters.length) = some 1 := by decide +kernel
theorem mM_X0_seriesIn : Cond.instanceMethod yX0_seriesIn ∈ TT := TT_3 198 rfl rfl
theorem mS_X0_seriesIn : Cond.selects RX0 yX0_seriesIn yX0_seriesIn ∈ TT := TT_3 199 rfl rfl
theorem mmX0_seriesIn : CWv yX0_seriesIn cX0_seriesIn 4 (some .int) 1 RX0 := ⟨⟨mM_X0_seriesIn, mS_X0_seriesIn, rfl⟩, mI_BoxedPapers_Archive, mK_X0_seriesIn, hdX0_seriesIn⟩
theorem mL_X7_202 : Cond.methodLink RX7 202 yX4_lowestOf ∈ TT := TT_3 205 rfl rfl
theorem mK_X4_lowestOf : Cond.code yX4_lowestOf cX4_lowestOf 3 (some .int) ∈ TT := TT_3 208 rfl rfl
theorem hdX4_lowestOf : yX4_lowestOf.cls ≠ "java/lang/invoke/MethodHandle" ∧ yX4_lowestOf.cls ≠ "java/lang/invoke/VarHandle" ∧ (parseMethodDescriptor yX4_lowestOf.desc).map (fun d => d.parameters.length) = some 1 := by decide +kernel
theorem mM_X4_lowestOf : Cond.instanceMethod yX4_lowestOf ∈ TT := TT_3 206 rfl rfl
theorem mS_X4_lowestOf : Cond.selects RX4 yX4_lowestOf yX4_lowestOf ∈ TT := TT_3 207 rfl rfl
theorem mmX4_lowestOf : CWv yX4_lowestOf cX4_lowestOf 3 (some .int) 1 RX4 := ⟨⟨mM_X4_lowestOf, mS_X4_lowestOf, rfl⟩, mI_BoxedPapers_Ranges, mK_X4_lowestOf, hdX4_lowestOf⟩
theorem mL_X7_205 : Cond.methodLink RX7 205 yX4_highestOf ∈ TT := TT_3 209 rfl rfl
theorem mK_X4_highestOf : Cond.code yX4_highestOf cX4_highestOf 3 (some .int) ∈ TT := TT_3 212 rfl rfl
theorem hdX4_highestOf : yX4_highestOf.cls ≠ "java/lang/invoke/MethodHandle" ∧ yX4_highestOf.cls ≠ "java/lang/invoke/VarHandle" ∧ (parseMethodDescriptor yX4_highestOf.desc).map (fun d => d.parameters.length) = some 1 := by decide +kernel
theorem mM_X4_highestOf : Cond.instanceMethod yX4_highestOf ∈ TT := TT_3 210 rfl rfl
theorem mS_X4_highestOf : Cond.selects RX4 yX4_highestOf yX4_highestOf ∈ TT := TT_3 211 rfl rfl
theorem mmX4_highestOf : CWv yX4_highestOf cX4_highestOf 3 (some .int) 1 RX4 := ⟨⟨mM_X4_highestOf, mS_X4_highestOf, rfl⟩, mI_BoxedPapers_Ranges, mK_X4_highestOf, hdX4_highestOf⟩
theorem mL_X7_215 : Cond.methodLink RX7 215 yX4_firstOf ∈ TT := TT_3 221 rfl rfl
theorem mL_X7_218 : Cond.methodLink RX7 218 yX4_lastOf ∈ TT := TT_3 222 rfl rfl
theorem mL_X7_239 : Cond.methodLink RX7 239 yX4_markOf ∈ TT := TT_3 223 rfl rfl
theorem mL_X7_208 : Cond.methodLink RX7 208 yX4_has ∈ TT := TT_3 217 rfl rfl
theorem mL_X7_211 : Cond.methodLink RX7 211 yX7_endOrMark ∈ TT := TT_3 218 rfl rfl
theorem mK_X7_endOrMark : Cond.code yX7_endOrMark cX7_endOrMark 3 (some .int) ∈ TT := TT_3 220 rfl rfl
theorem hdX7_endOrMark : yX7_endOrMark.cls ≠ "java/lang/invoke/MethodHandle" ∧ yX7_endOrMark.cls ≠ "java/lang/invoke/VarHandle" ∧ (parseMethodDescriptor yX7_endOrMark.desc).map (fun d => d.parameters.length) = some 3 := by decide +kernel
theorem mS_X7_endOrMark : Cond.static yX7_endOrMark ∈ TT := TT_3 219 rfl rfl
theorem mmX7_endOrMark : CWs yX7_endOrMark cX7_endOrMark 3 (some .int) 3 := ⟨mS_X7_endOrMark, mI_BoxedPapers, mK_X7_endOrMark, hdX7_endOrMark⟩
theorem mL_X7_224 : Cond.methodLink RX7 224 yX0_homeOf ∈ TT := TT_3 232 rfl rfl
theorem mK_X0_homeOf : Cond.code yX0_homeOf cX0_homeOf 3 (some .int) ∈ TT := TT_3 235 rfl rfl
theorem hdX0_homeOf : yX0_homeOf.cls ≠ "java/lang/invoke/MethodHandle" ∧ yX0_homeOf.cls ≠ "java/lang/invoke/VarHandle" ∧ (parseMethodDescriptor yX0_homeOf.desc).map (fun d => d.parameters.length) = some 1 := by decide +kernel
theorem mM_X0_homeOf : Cond.instanceMethod yX0_homeOf ∈ TT := TT_3 233 rfl rfl
theorem mS_X0_homeOf : Cond.selects RX0 yX0_homeOf yX0_homeOf ∈ TT := TT_3 234 rfl rfl
theorem mmX0_homeOf : CWv yX0_homeOf cX0_homeOf 3 (some .int) 1 RX0 := ⟨⟨mM_X0_homeOf, mS_X0_homeOf, rfl⟩, mI_BoxedPapers_Archive, mK_X0_homeOf, hdX0_homeOf⟩
theorem mL_X7_227 : Cond.methodLink RX7 227 yX0_placeOf ∈ TT := TT_4 4 rfl rfl
theorem mK_X0_placeOf : Cond.code yX0_placeOf cX0_placeOf 3 (some .int) ∈ TT := TT_4 7 rfl rfl
theorem hdX0_placeOf : yX0_placeOf.cls ≠ "java/lang/invoke/MethodHandle" ∧ yX0_placeOf.cls ≠ "java/lang/invoke/VarHandle" ∧ (parseMethodDescriptor yX0_placeOf.desc).map (fun d => d.parameters.length) = some 1 := by decide +kernel
theorem mM_X0_placeOf : Cond.instanceMethod yX0_placeOf ∈ TT := TT_4 5 rfl rfl
theorem mS_X0_placeOf : Cond.selects RX0 yX0_placeOf yX0_placeOf ∈ TT := TT_4 6 rfl rfl
theorem mmX0_placeOf : CWv yX0_placeOf cX0_placeOf 3 (some .int) 1 RX0 := ⟨⟨mM_X0_placeOf, mS_X0_placeOf, rfl⟩, mI_BoxedPapers_Archive, mK_X0_placeOf, hdX0_placeOf⟩
theorem mL_X7_230 : Cond.methodLink RX7 230 yX0_placeOn ∈ TT := TT_4 12 rfl rfl
theorem mK_X0_placeOn : Cond.code yX0_placeOn cX0_placeOn 4 (some .int) ∈ TT := TT_4 15 rfl rfl
theorem hdX0_placeOn : yX0_placeOn.cls ≠ "java/lang/invoke/MethodHandle" ∧ yX0_placeOn.cls ≠ "java/lang/invoke/VarHandle" ∧ (parseMethodDescriptor yX0_placeOn.desc).map (fun d => d.parameters.length) = some 2 := by decide +kernel
theorem mM_X0_placeOn : Cond.instanceMethod yX0_placeOn ∈ TT := TT_4 13 rfl rfl
theorem mS_X0_placeOn : Cond.selects RX0 yX0_placeOn yX0_placeOn ∈ TT := TT_4 14 rfl rfl
theorem mmX0_placeOn : CWv yX0_placeOn cX0_placeOn 4 (some .int) 2 RX0 := ⟨⟨mM_X0_placeOn, mS_X0_placeOn, rfl⟩, mI_BoxedPapers_Archive, mK_X0_placeOn, hdX0_placeOn⟩
theorem mL_X7_233 : Cond.methodLink RX7 233 yX0_moves ∈ TT := TT_4 24 rfl rfl
theorem mK_X0_moves : Cond.code yX0_moves cX0_moves 1 (some (.object "BoxedPapers$Ranges")) ∈ TT := TT_4 27 rfl rfl
theorem hdX0_moves : yX0_moves.cls ≠ "java/lang/invoke/MethodHandle" ∧ yX0_moves.cls ≠ "java/lang/invoke/VarHandle" ∧ (parseMethodDescriptor yX0_moves.desc).map (fun d => d.parameters.length) = some 0 := by decide +kernel
theorem mM_X0_moves : Cond.instanceMethod yX0_moves ∈ TT := TT_4 25 rfl rfl
theorem mS_X0_moves : Cond.selects RX0 yX0_moves yX0_moves ∈ TT := TT_4 26 rfl rfl
theorem mmX0_moves : CWv yX0_moves cX0_moves 1 (some (.object "BoxedPapers$Ranges")) 0 RX0 := ⟨⟨mM_X0_moves, mS_X0_moves, rfl⟩, mI_BoxedPapers_Archive, mK_X0_moves, hdX0_moves⟩
theorem mL_X7_236 : Cond.methodLink RX7 236 yX0_dayOf ∈ TT := TT_4 28 rfl rfl
theorem mL_X7_242 : Cond.methodLink RX7 242 yX0_trailOf ∈ TT := TT_4 33 rfl rfl
theorem mK_X0_trailOf : Cond.code yX0_trailOf cX0_trailOf 6 (some .int) ∈ TT := TT_4 36 rfl rfl
theorem hdX0_trailOf : yX0_trailOf.cls ≠ "java/lang/invoke/MethodHandle" ∧ yX0_trailOf.cls ≠ "java/lang/invoke/VarHandle" ∧ (parseMethodDescriptor yX0_trailOf.desc).map (fun d => d.parameters.length) = some 2 := by decide +kernel
theorem mM_X0_trailOf : Cond.instanceMethod yX0_trailOf ∈ TT := TT_4 34 rfl rfl
theorem mS_X0_trailOf : Cond.selects RX0 yX0_trailOf yX0_trailOf ∈ TT := TT_4 35 rfl rfl
theorem mmX0_trailOf : CWv yX0_trailOf cX0_trailOf 6 (some .int) 2 RX0 := ⟨⟨mM_X0_trailOf, mS_X0_trailOf, rfl⟩, mI_BoxedPapers_Archive, mK_X0_trailOf, hdX0_trailOf⟩
theorem mL_X7_245 : Cond.methodLink RX7 245 yX7_isRange ∈ TT := TT_3 15 rfl rfl
theorem mL_X7_249 : Cond.methodLink RX7 249 yX4_add ∈ TT := TT_3 16 rfl rfl
theorem mL_X7_103 : Cond.methodLink RX7 103 yX7_addRow ∈ TT := TT_3 10 rfl rfl
theorem mK_X7_addRow : Cond.code yX7_addRow cX7_addRow 4 (some .int) ∈ TT := TT_3 13 rfl rfl
theorem hdX7_addRow : yX7_addRow.cls ≠ "java/lang/invoke/MethodHandle" ∧ yX7_addRow.cls ≠ "java/lang/invoke/VarHandle" ∧ (parseMethodDescriptor yX7_addRow.desc).map (fun d => d.parameters.length) = some 3 := by decide +kernel
theorem mM_X7_addRow : Cond.instanceMethod yX7_addRow ∈ TT := TT_3 12 rfl rfl
theorem mS_X7_addRow : Cond.selects RX7 yX7_addRow yX7_addRow ∈ TT := TT_s (n := 7) 13 rfl rfl
theorem mmX7_addRow : CWv yX7_addRow cX7_addRow 4 (some .int) 3 RX7 := ⟨⟨mM_X7_addRow, mS_X7_addRow, rfl⟩, mI_BoxedPapers, mK_X7_addRow, hdX7_addRow⟩
theorem mL_X7_259 : Cond.methodLink RX7 259 yX4_meets ∈ TT := TT_4 57 rfl rfl
theorem mL_X7_256 : Cond.methodLink RX7 256 yX7_clash ∈ TT := TT_4 53 rfl rfl
theorem mK_X7_clash : Cond.code yX7_clash cX7_clash 3 (some .boolean) ∈ TT := TT_4 56 rfl rfl
theorem hdX7_clash : yX7_clash.cls ≠ "java/lang/invoke/MethodHandle" ∧ yX7_clash.cls ≠ "java/lang/invoke/VarHandle" ∧ (parseMethodDescriptor yX7_clash.desc).map (fun d => d.parameters.length) = some 2 := by decide +kernel
theorem mM_X7_clash : Cond.instanceMethod yX7_clash ∈ TT := TT_4 55 rfl rfl
theorem mS_X7_clash : Cond.selects RX7 yX7_clash yX7_clash ∈ TT := TT_s (n := 7) 21 rfl rfl
theorem mmX7_clash : CWv yX7_clash cX7_clash 3 (some .boolean) 2 RX7 := ⟨⟨mM_X7_clash, mS_X7_clash, rfl⟩, mI_BoxedPapers, mK_X7_clash, hdX7_clash⟩
theorem mL_X7_253 : Cond.methodLink RX7 253 yX7_lowestClash ∈ TT := TT_4 49 rfl rfl
theorem mK_X7_lowestClash : Cond.code yX7_lowestClash cX7_lowestClash 3 (some .int) ∈ TT := TT_4 52 rfl rfl
theorem hdX7_lowestClash : yX7_lowestClash.cls ≠ "java/lang/invoke/MethodHandle" ∧ yX7_lowestClash.cls ≠ "java/lang/invoke/VarHandle" ∧ (parseMethodDescriptor yX7_lowestClash.desc).map (fun d => d.parameters.length) = some 1 := by decide +kernel
theorem mM_X7_lowestClash : Cond.instanceMethod yX7_lowestClash ∈ TT := TT_4 51 rfl rfl
theorem mS_X7_lowestClash : Cond.selects RX7 yX7_lowestClash yX7_lowestClash ∈ TT := TT_s (n := 7) 20 rfl rfl
theorem mmX7_lowestClash : CWv yX7_lowestClash cX7_lowestClash 3 (some .int) 1 RX7 := ⟨⟨mM_X7_lowestClash, mS_X7_lowestClash, rfl⟩, mI_BoxedPapers, mK_X7_lowestClash, hdX7_lowestClash⟩
theorem mL_X7_262 : Cond.methodLink RX7 262 yX4_bareSheets ∈ TT := TT_4 62 rfl rfl
theorem mK_X4_bareSheets : Cond.code yX4_bareSheets cX4_bareSheets 8 (some .int) ∈ TT := TT_4 65 rfl rfl
theorem hdX4_bareSheets : yX4_bareSheets.cls ≠ "java/lang/invoke/MethodHandle" ∧ yX4_bareSheets.cls ≠ "java/lang/invoke/VarHandle" ∧ (parseMethodDescriptor yX4_bareSheets.desc).map (fun d => d.parameters.length) = some 3 := by decide +kernel
theorem mM_X4_bareSheets : Cond.instanceMethod yX4_bareSheets ∈ TT := TT_4 63 rfl rfl
theorem mS_X4_bareSheets : Cond.selects RX4 yX4_bareSheets yX4_bareSheets ∈ TT := TT_4 64 rfl rfl
theorem mmX4_bareSheets : CWv yX4_bareSheets cX4_bareSheets 8 (some .int) 3 RX4 := ⟨⟨mM_X4_bareSheets, mS_X4_bareSheets, rfl⟩, mI_BoxedPapers_Ranges, mK_X4_bareSheets, hdX4_bareSheets⟩
theorem mF_X7_53 : Cond.fieldLink RX7 53 "BoxedPapers" "draft" "LBoxedPapers$Page;" ∈ TT := TT_1 192 rfl rfl
theorem mL_X7_265 : Cond.methodLink RX7 265 yX2_writeLabel ∈ TT := TT_4 79 rfl rfl
theorem mK_X2_writeLabel : Cond.code yX2_writeLabel cX2_writeLabel 4 none ∈ TT := TT_4 82 rfl rfl
theorem hdX2_writeLabel : yX2_writeLabel.cls ≠ "java/lang/invoke/MethodHandle" ∧ yX2_writeLabel.cls ≠ "java/lang/invoke/VarHandle" ∧ (parseMethodDescriptor yX2_writeLabel.desc).map (fun d => d.parameters.length) = some 2 := by decide +kernel
theorem mM_X2_writeLabel : Cond.instanceMethod yX2_writeLabel ∈ TT := TT_4 80 rfl rfl
theorem mS_X2_writeLabel : Cond.selects RX2 yX2_writeLabel yX2_writeLabel ∈ TT := TT_4 81 rfl rfl
theorem mmX2_writeLabel : CWv yX2_writeLabel cX2_writeLabel 4 none 2 RX2 := ⟨⟨mM_X2_writeLabel, mS_X2_writeLabel, rfl⟩, mI_BoxedPapers_Page, mK_X2_writeLabel, hdX2_writeLabel⟩
theorem mL_X7_268 : Cond.methodLink RX7 268 yX2_length ∈ TT := TT_4 126 rfl rfl
theorem mK_X2_length : Cond.code yX2_length cX2_length 1 (some .int) ∈ TT := TT_4 129 rfl rfl
theorem hdX2_length : yX2_length.cls ≠ "java/lang/invoke/MethodHandle" ∧ yX2_length.cls ≠ "java/lang/invoke/VarHandle" ∧ (parseMethodDescriptor yX2_length.desc).map (fun d => d.parameters.length) = some 0 := by decide +kernel
theorem mM_X2_length : Cond.instanceMethod yX2_length ∈ TT := TT_4 127 rfl rfl
theorem mS_X2_length : Cond.selects RX2 yX2_length yX2_length ∈ TT := TT_4 128 rfl rfl
theorem mmX2_length : CWv yX2_length cX2_length 1 (some .int) 0 RX2 := ⟨⟨mM_X2_length, mS_X2_length, rfl⟩, mI_BoxedPapers_Page, mK_X2_length, hdX2_length⟩
theorem mL_X7_269 : Cond.methodLink RX7 269 yX2_copyFrom ∈ TT := TT_4 130 rfl rfl
theorem mK_X2_copyFrom : Cond.code yX2_copyFrom cX2_copyFrom 2 none ∈ TT := TT_4 133 rfl rfl
theorem hdX2_copyFrom : yX2_copyFrom.cls ≠ "java/lang/invoke/MethodHandle" ∧ yX2_copyFrom.cls ≠ "java/lang/invoke/VarHandle" ∧ (parseMethodDescriptor yX2_copyFrom.desc).map (fun d => d.parameters.length) = some 1 := by decide +kernel
theorem mM_X2_copyFrom : Cond.instanceMethod yX2_copyFrom ∈ TT := TT_4 131 rfl rfl
theorem mS_X2_copyFrom : Cond.selects RX2 yX2_copyFrom yX2_copyFrom ∈ TT := TT_4 132 rfl rfl
theorem mmX2_copyFrom : CWv yX2_copyFrom cX2_copyFrom 2 none 1 RX2 := ⟨⟨mM_X2_copyFrom, mS_X2_copyFrom, rfl⟩, mI_BoxedPapers_Page, mK_X2_copyFrom, hdX2_copyFrom⟩
theorem mL_X7_273 : Cond.methodLink RX7 273 yX2_signAt ∈ TT := TT_4 139 rfl rfl
theorem mK_X2_signAt : Cond.code yX2_signAt cX2_signAt 2 (some .int) ∈ TT := TT_4 142 rfl rfl
theorem hdX2_signAt : yX2_signAt.cls ≠ "java/lang/invoke/MethodHandle" ∧ yX2_signAt.cls ≠ "java/lang/invoke/VarHandle" ∧ (parseMethodDescriptor yX2_signAt.desc).map (fun d => d.parameters.length) = some 1 := by decide +kernel
theorem mM_X2_signAt : Cond.instanceMethod yX2_signAt ∈ TT := TT_4 140 rfl rfl
theorem mS_X2_signAt : Cond.selects RX2 yX2_signAt yX2_signAt ∈ TT := TT_4 141 rfl rfl
theorem mmX2_signAt : CWv yX2_signAt cX2_signAt 2 (some .int) 1 RX2 := ⟨⟨mM_X2_signAt, mS_X2_signAt, rfl⟩, mI_BoxedPapers_Page, mK_X2_signAt, hdX2_signAt⟩
theorem mL_X7_129 : Cond.methodLink RX7 129 yX3_makePlan ∈ TT := TT_3 97 rfl rfl
theorem mK_X3_makePlan : Cond.code yX3_makePlan cX3_makePlan 4 none ∈ TT := TT_3 100 rfl rfl
theorem hdX3_makePlan : yX3_makePlan.cls ≠ "java/lang/invoke/MethodHandle" ∧ yX3_makePlan.cls ≠ "java/lang/invoke/VarHandle" ∧ (parseMethodDescriptor yX3_makePlan.desc).map (fun d => d.parameters.length) = some 2 := by decide +kernel
theorem mM_X3_makePlan : Cond.instanceMethod yX3_makePlan ∈ TT := TT_3 98 rfl rfl
theorem mS_X3_makePlan : Cond.selects RX3 yX3_makePlan yX3_makePlan ∈ TT := TT_3 99 rfl rfl
theorem mmX3_makePlan : CWv yX3_makePlan cX3_makePlan 4 none 2 RX3 := ⟨⟨mM_X3_makePlan, mS_X3_makePlan, rfl⟩, mI_BoxedPapers_Planner, mK_X3_makePlan, hdX3_makePlan⟩
theorem mL_X7_133 : Cond.methodLink RX7 133 yX3_layings ∈ TT := TT_3 136 rfl rfl
theorem mK_X3_layings : Cond.code yX3_layings cX3_layings 1 (some (.object "BoxedPapers$Ranges")) ∈ TT := TT_3 139 rfl rfl
theorem hdX3_layings : yX3_layings.cls ≠ "java/lang/invoke/MethodHandle" ∧ yX3_layings.cls ≠ "java/lang/invoke/VarHandle" ∧ (parseMethodDescriptor yX3_layings.desc).map (fun d => d.parameters.length) = some 0 := by decide +kernel
theorem mM_X3_layings : Cond.instanceMethod yX3_layings ∈ TT := TT_3 137 rfl rfl
theorem mS_X3_layings : Cond.selects RX3 yX3_layings yX3_layings ∈ TT := TT_3 138 rfl rfl
theorem mmX3_layings : CWv yX3_layings cX3_layings 1 (some (.object "BoxedPapers$Ranges")) 0 RX3 := ⟨⟨mM_X3_layings, mS_X3_layings, rfl⟩, mI_BoxedPapers_Planner, mK_X3_layings, hdX3_layings⟩
theorem mL_X7_276 : Cond.methodLink RX7 276 yX3_remaining ∈ TT := TT_4 151 rfl rfl
theorem mK_X3_remaining : Cond.code yX3_remaining cX3_remaining 1 (some .int) ∈ TT := TT_4 154 rfl rfl
theorem hdX3_remaining : yX3_remaining.cls ≠ "java/lang/invoke/MethodHandle" ∧ yX3_remaining.cls ≠ "java/lang/invoke/VarHandle" ∧ (parseMethodDescriptor yX3_remaining.desc).map (fun d => d.parameters.length) = some 0 := by decide +kernel
theorem mM_X3_remaining : Cond.instanceMethod yX3_remaining ∈ TT := TT_4 152 rfl rfl
theorem mS_X3_remaining : Cond.selects RX3 yX3_remaining yX3_remaining ∈ TT := TT_4 153 rfl rfl
theorem mmX3_remaining : CWv yX3_remaining cX3_remaining 1 (some .int) 0 RX3 := ⟨⟨mM_X3_remaining, mS_X3_remaining, rfl⟩, mI_BoxedPapers_Planner, mK_X3_remaining, hdX3_remaining⟩
theorem mC_J6_265 : Cond.constant RJ6 265 (1431655765) ∈ TT := TT_4 168 rfl rfl
theorem mC_J6_266 : Cond.constant RJ6 266 (858993459) ∈ TT := TT_4 169 rfl rfl
theorem mC_J6_267 : Cond.constant RJ6 267 (252645135) ∈ TT := TT_4 170 rfl rfl
theorem mL_X7_279 : Cond.methodLink RX7 279 yX0_seriesCount ∈ TT := TT_4 159 rfl rfl
theorem mL_X7_282 : Cond.methodLink RX7 282 yX0_today ∈ TT := TT_4 160 rfl rfl
theorem mK_X0_today : Cond.code yX0_today cX0_today 1 (some .int) ∈ TT := TT_4 163 rfl rfl
theorem hdX0_today : yX0_today.cls ≠ "java/lang/invoke/MethodHandle" ∧ yX0_today.cls ≠ "java/lang/invoke/VarHandle" ∧ (parseMethodDescriptor yX0_today.desc).map (fun d => d.parameters.length) = some 0 := by decide +kernel
theorem mM_X0_today : Cond.instanceMethod yX0_today ∈ TT := TT_4 161 rfl rfl
theorem mS_X0_today : Cond.selects RX0 yX0_today yX0_today ∈ TT := TT_4 162 rfl rfl
theorem mmX0_today : CWv yX0_today cX0_today 1 (some .int) 0 RX0 := ⟨⟨mM_X0_today, mS_X0_today, rfl⟩, mI_BoxedPapers_Archive, mK_X0_today, hdX0_today⟩
theorem mL_X7_286 : Cond.methodLink RX7 286 yX0_ownIn ∈ TT := TT_4 164 rfl rfl
theorem mL_X7_289 : Cond.methodLink RX7 289 yJ6_bitCount_0f7a4 ∈ TT := TT_4 165 rfl rfl
theorem mI_java_lang_Integer : Cond.initialized RJ6 ∈ TT := TT_1 16 rfl rfl
theorem mK_J6_bitCount_0f7a4 : Cond.code yJ6_bitCount_0f7a4 cJ6_bitCount_0f7a4 1 (some .int) ∈ TT := TT_4 167 rfl rfl
theorem hdJ6_bitCount_0f7a4 : yJ6_bitCount_0f7a4.cls ≠ "java/lang/invoke/MethodHandle" ∧ yJ6_bitCount_0f7a4.cls ≠ "java/lang/invoke/VarHandle" ∧ (parseMethodDescriptor yJ6_bitCount_0f7a4.desc).map (fun d => d.parameters.length) = some 1 := by decide +kernel
theorem mS_J6_bitCount_0f7a4 : Cond.static yJ6_bitCount_0f7a4 ∈ TT := TT_4 166 rfl rfl
theorem mmJ6_bitCount_0f7a4 : CWs yJ6_bitCount_0f7a4 cJ6_bitCount_0f7a4 1 (some .int) 1 := ⟨mS_J6_bitCount_0f7a4, mI_java_lang_Integer, mK_J6_bitCount_0f7a4, hdJ6_bitCount_0f7a4⟩
theorem mL_X7_294 : Cond.methodLink RX7 294 yX7_clashingPairs ∈ TT := TT_4 171 rfl rfl
theorem mK_X7_clashingPairs : Cond.code yX7_clashingPairs cX7_clashingPairs 4 (some .int) ∈ TT := TT_4 174 rfl rfl
theorem hdX7_clashingPairs : yX7_clashingPairs.cls ≠ "java/lang/invoke/MethodHandle" ∧ yX7_clashingPairs.cls ≠ "java/lang/invoke/VarHandle" ∧ (parseMethodDescriptor yX7_clashingPairs.desc).map (fun d => d.parameters.length) = some 0 := by decide +kernel
theorem mM_X7_clashingPairs : Cond.instanceMethod yX7_clashingPairs ∈ TT := TT_4 173 rfl rfl
theorem mS_X7_clashingPairs : Cond.selects RX7 yX7_clashingPairs yX7_clashingPairs ∈ TT := TT_s (n := 7) 27 rfl rfl
theorem mmX7_clashingPairs : CWv yX7_clashingPairs cX7_clashingPairs 4 (some .int) 0 RX7 := ⟨⟨mM_X7_clashingPairs, mS_X7_clashingPairs, rfl⟩, mI_BoxedPapers, mK_X7_clashingPairs, hdX7_clashingPairs⟩
theorem mF_X7_19 : Cond.fieldLink RX7 19 "BoxedPapers" "history" "LBoxedPapers$History;" ∈ TT := TT_1 187 rfl rfl
theorem mL_X7_151 : Cond.methodLink RX7 151 yX1_steps ∈ TT := TT_3 157 rfl rfl
theorem mI_BoxedPapers_History : Cond.initialized RX1 ∈ TT := TT_1 5 rfl rfl
theorem mK_X1_steps : Cond.code yX1_steps cX1_steps 1 (some .int) ∈ TT := TT_3 160 rfl rfl
theorem hdX1_steps : yX1_steps.cls ≠ "java/lang/invoke/MethodHandle" ∧ yX1_steps.cls ≠ "java/lang/invoke/VarHandle" ∧ (parseMethodDescriptor yX1_steps.desc).map (fun d => d.parameters.length) = some 0 := by decide +kernel
theorem mM_X1_steps : Cond.instanceMethod yX1_steps ∈ TT := TT_3 158 rfl rfl
theorem mS_X1_steps : Cond.selects RX1 yX1_steps yX1_steps ∈ TT := TT_3 159 rfl rfl
theorem mmX1_steps : CWv yX1_steps cX1_steps 1 (some .int) 0 RX1 := ⟨⟨mM_X1_steps, mS_X1_steps, rfl⟩, mI_BoxedPapers_History, mK_X1_steps, hdX1_steps⟩
theorem mL_X7_79 : Cond.methodLink RX7 79 yX6_numberOf ∈ TT := TT_2 118 rfl rfl
theorem mK_X6_numberOf : Cond.code yX6_numberOf cX6_numberOf 4 (some .int) ∈ TT := TT_2 121 rfl rfl
theorem hdX6_numberOf : yX6_numberOf.cls ≠ "java/lang/invoke/MethodHandle" ∧ yX6_numberOf.cls ≠ "java/lang/invoke/VarHandle" ∧ (parseMethodDescriptor yX6_numberOf.desc).map (fun d => d.parameters.length) = some 2 := by decide +kernel
theorem mM_X6_numberOf : Cond.instanceMethod yX6_numberOf ∈ TT := TT_2 119 rfl rfl
theorem mS_X6_numberOf : Cond.selects RX6 yX6_numberOf yX6_numberOf ∈ TT := TT_2 120 rfl rfl
theorem mmX6_numberOf : CWv yX6_numberOf cX6_numberOf 4 (some .int) 2 RX6 := ⟨⟨mM_X6_numberOf, mS_X6_numberOf, rfl⟩, mI_BoxedPapers_Text, mK_X6_numberOf, hdX6_numberOf⟩
theorem mL_X7_83 : Cond.methodLink RX7 83 yX6_verbOf ∈ TT := TT_2 122 rfl rfl
theorem mK_X6_verbOf : Cond.code yX6_verbOf cX6_verbOf 2 (some .int) ∈ TT := TT_2 125 rfl rfl
theorem hdX6_verbOf : yX6_verbOf.cls ≠ "java/lang/invoke/MethodHandle" ∧ yX6_verbOf.cls ≠ "java/lang/invoke/VarHandle" ∧ (parseMethodDescriptor yX6_verbOf.desc).map (fun d => d.parameters.length) = some 1 := by decide +kernel
theorem mM_X6_verbOf : Cond.instanceMethod yX6_verbOf ∈ TT := TT_2 123 rfl rfl
theorem mS_X6_verbOf : Cond.selects RX6 yX6_verbOf yX6_verbOf ∈ TT := TT_2 124 rfl rfl
theorem mmX6_verbOf : CWv yX6_verbOf cX6_verbOf 2 (some .int) 1 RX6 := ⟨⟨mM_X6_verbOf, mS_X6_verbOf, rfl⟩, mI_BoxedPapers_Text, mK_X6_verbOf, hdX6_verbOf⟩
theorem mL_X7_87 : Cond.methodLink RX7 87 yX7_beginAnew ∈ TT := TT_2 126 rfl rfl
theorem mK_X7_beginAnew : Cond.code yX7_beginAnew cX7_beginAnew 1 none ∈ TT := TT_2 129 rfl rfl
theorem hdX7_beginAnew : yX7_beginAnew.cls ≠ "java/lang/invoke/MethodHandle" ∧ yX7_beginAnew.cls ≠ "java/lang/invoke/VarHandle" ∧ (parseMethodDescriptor yX7_beginAnew.desc).map (fun d => d.parameters.length) = some 0 := by decide +kernel
theorem mM_X7_beginAnew : Cond.instanceMethod yX7_beginAnew ∈ TT := TT_2 128 rfl rfl
theorem mS_X7_beginAnew : Cond.selects RX7 yX7_beginAnew yX7_beginAnew ∈ TT := TT_s (n := 7) 9 rfl rfl
theorem mmX7_beginAnew : CWv yX7_beginAnew cX7_beginAnew 1 none 0 RX7 := ⟨⟨mM_X7_beginAnew, mS_X7_beginAnew, rfl⟩, mI_BoxedPapers, mK_X7_beginAnew, hdX7_beginAnew⟩
theorem mL_X7_90 : Cond.methodLink RX7 90 yX0_addSeries ∈ TT := TT_2 143 rfl rfl
theorem mK_X0_addSeries : Cond.code yX0_addSeries cX0_addSeries 4 (some .int) ∈ TT := TT_2 146 rfl rfl
theorem hdX0_addSeries : yX0_addSeries.cls ≠ "java/lang/invoke/MethodHandle" ∧ yX0_addSeries.cls ≠ "java/lang/invoke/VarHandle" ∧ (parseMethodDescriptor yX0_addSeries.desc).map (fun d => d.parameters.length) = some 3 := by decide +kernel
theorem mM_X0_addSeries : Cond.instanceMethod yX0_addSeries ∈ TT := TT_2 144 rfl rfl
theorem mS_X0_addSeries : Cond.selects RX0 yX0_addSeries yX0_addSeries ∈ TT := TT_2 145 rfl rfl
theorem mmX0_addSeries : CWv yX0_addSeries cX0_addSeries 4 (some .int) 3 RX0 := ⟨⟨mM_X0_addSeries, mS_X0_addSeries, rfl⟩, mI_BoxedPapers_Archive, mK_X0_addSeries, hdX0_addSeries⟩
theorem mL_X7_94 : Cond.methodLink RX7 94 yX0_setRoom ∈ TT := TT_2 199 rfl rfl
theorem mK_X0_setRoom : Cond.code yX0_setRoom cX0_setRoom 4 (some .int) ∈ TT := TT_2 202 rfl rfl
theorem hdX0_setRoom : yX0_setRoom.cls ≠ "java/lang/invoke/MethodHandle" ∧ yX0_setRoom.cls ≠ "java/lang/invoke/VarHandle" ∧ (parseMethodDescriptor yX0_setRoom.desc).map (fun d => d.parameters.length) = some 2 := by decide +kernel
theorem mM_X0_setRoom : Cond.instanceMethod yX0_setRoom ∈ TT := TT_2 200 rfl rfl
theorem mS_X0_setRoom : Cond.selects RX0 yX0_setRoom yX0_setRoom ∈ TT := TT_2 201 rfl rfl
theorem mmX0_setRoom : CWv yX0_setRoom cX0_setRoom 4 (some .int) 2 RX0 := ⟨⟨mM_X0_setRoom, mS_X0_setRoom, rfl⟩, mI_BoxedPapers_Archive, mK_X0_setRoom, hdX0_setRoom⟩
theorem mL_X7_97 : Cond.methodLink RX7 97 yX0_layInto ∈ TT := TT_2 210 rfl rfl
theorem mK_X0_layInto : Cond.code yX0_layInto cX0_layInto 5 (some .int) ∈ TT := TT_2 213 rfl rfl
theorem hdX0_layInto : yX0_layInto.cls ≠ "java/lang/invoke/MethodHandle" ∧ yX0_layInto.cls ≠ "java/lang/invoke/VarHandle" ∧ (parseMethodDescriptor yX0_layInto.desc).map (fun d => d.parameters.length) = some 3 := by decide +kernel
theorem mM_X0_layInto : Cond.instanceMethod yX0_layInto ∈ TT := TT_2 211 rfl rfl
theorem mS_X0_layInto : Cond.selects RX0 yX0_layInto yX0_layInto ∈ TT := TT_2 212 rfl rfl
theorem mmX0_layInto : CWv yX0_layInto cX0_layInto 5 (some .int) 3 RX0 := ⟨⟨mM_X0_layInto, mS_X0_layInto, rfl⟩, mI_BoxedPapers_Archive, mK_X0_layInto, hdX0_layInto⟩
theorem mL_X7_100 : Cond.methodLink RX7 100 yX0_takeOut ∈ TT := TT_3 6 rfl rfl
theorem mK_X0_takeOut : Cond.code yX0_takeOut cX0_takeOut 4 (some .int) ∈ TT := TT_3 9 rfl rfl
theorem hdX0_takeOut : yX0_takeOut.cls ≠ "java/lang/invoke/MethodHandle" ∧ yX0_takeOut.cls ≠ "java/lang/invoke/VarHandle" ∧ (parseMethodDescriptor yX0_takeOut.desc).map (fun d => d.parameters.length) = some 2 := by decide +kernel
theorem mM_X0_takeOut : Cond.instanceMethod yX0_takeOut ∈ TT := TT_3 7 rfl rfl
theorem mS_X0_takeOut : Cond.selects RX0 yX0_takeOut yX0_takeOut ∈ TT := TT_3 8 rfl rfl
theorem mmX0_takeOut : CWv yX0_takeOut cX0_takeOut 4 (some .int) 2 RX0 := ⟨⟨mM_X0_takeOut, mS_X0_takeOut, rfl⟩, mI_BoxedPapers_Archive, mK_X0_takeOut, hdX0_takeOut⟩
theorem mL_X7_106 : Cond.methodLink RX7 106 yX0_letPass ∈ TT := TT_3 18 rfl rfl
theorem mK_X0_letPass : Cond.code yX0_letPass cX0_letPass 2 (some .int) ∈ TT := TT_3 21 rfl rfl
theorem hdX0_letPass : yX0_letPass.cls ≠ "java/lang/invoke/MethodHandle" ∧ yX0_letPass.cls ≠ "java/lang/invoke/VarHandle" ∧ (parseMethodDescriptor yX0_letPass.desc).map (fun d => d.parameters.length) = some 1 := by decide +kernel
theorem mM_X0_letPass : Cond.instanceMethod yX0_letPass ∈ TT := TT_3 19 rfl rfl
theorem mS_X0_letPass : Cond.selects RX0 yX0_letPass yX0_letPass ∈ TT := TT_3 20 rfl rfl
theorem mmX0_letPass : CWv yX0_letPass cX0_letPass 2 (some .int) 1 RX0 := ⟨⟨mM_X0_letPass, mS_X0_letPass, rfl⟩, mI_BoxedPapers_Archive, mK_X0_letPass, hdX0_letPass⟩
theorem mL_X7_70 : Cond.methodLink RX7 70 yX6_commandCount ∈ TT := TT_2 110 rfl rfl
theorem mK_X6_commandCount : Cond.code yX6_commandCount cX6_commandCount 1 (some .int) ∈ TT := TT_2 113 rfl rfl
theorem hdX6_commandCount : yX6_commandCount.cls ≠ "java/lang/invoke/MethodHandle" ∧ yX6_commandCount.cls ≠ "java/lang/invoke/VarHandle" ∧ (parseMethodDescriptor yX6_commandCount.desc).map (fun d => d.parameters.length) = some 0 := by decide +kernel
theorem mM_X6_commandCount : Cond.instanceMethod yX6_commandCount ∈ TT := TT_2 111 rfl rfl
theorem mS_X6_commandCount : Cond.selects RX6 yX6_commandCount yX6_commandCount ∈ TT := TT_2 112 rfl rfl
theorem mmX6_commandCount : CWv yX6_commandCount cX6_commandCount 1 (some .int) 0 RX6 := ⟨⟨mM_X6_commandCount, mS_X6_commandCount, rfl⟩, mI_BoxedPapers_Text, mK_X6_commandCount, hdX6_commandCount⟩
theorem mL_X7_73 : Cond.methodLink RX7 73 yX7_carryOut ∈ TT := TT_2 114 rfl rfl
theorem mK_X7_carryOut : Cond.code yX7_carryOut cX7_carryOut 5 none ∈ TT := TT_2 117 rfl rfl
theorem hdX7_carryOut : yX7_carryOut.cls ≠ "java/lang/invoke/MethodHandle" ∧ yX7_carryOut.cls ≠ "java/lang/invoke/VarHandle" ∧ (parseMethodDescriptor yX7_carryOut.desc).map (fun d => d.parameters.length) = some 1 := by decide +kernel
theorem mM_X7_carryOut : Cond.instanceMethod yX7_carryOut ∈ TT := TT_2 116 rfl rfl
theorem mS_X7_carryOut : Cond.selects RX7 yX7_carryOut yX7_carryOut ∈ TT := TT_s (n := 7) 8 rfl rfl
theorem mmX7_carryOut : CWv yX7_carryOut cX7_carryOut 5 none 1 RX7 := ⟨⟨mM_X7_carryOut, mS_X7_carryOut, rfl⟩, mI_BoxedPapers, mK_X7_carryOut, hdX7_carryOut⟩
theorem mL_X7_76 : Cond.methodLink RX7 76 yX1_forget ∈ TT := TT_3 22 rfl rfl
theorem mK_X1_forget : Cond.code yX1_forget cX1_forget 1 none ∈ TT := TT_3 25 rfl rfl
theorem hdX1_forget : yX1_forget.cls ≠ "java/lang/invoke/MethodHandle" ∧ yX1_forget.cls ≠ "java/lang/invoke/VarHandle" ∧ (parseMethodDescriptor yX1_forget.desc).map (fun d => d.parameters.length) = some 0 := by decide +kernel
theorem mM_X1_forget : Cond.instanceMethod yX1_forget ∈ TT := TT_3 23 rfl rfl
theorem mS_X1_forget : Cond.selects RX1 yX1_forget yX1_forget ∈ TT := TT_3 24 rfl rfl
theorem mmX1_forget : CWv yX1_forget cX1_forget 1 none 0 RX1 := ⟨⟨mM_X1_forget, mS_X1_forget, rfl⟩, mI_BoxedPapers_History, mK_X1_forget, hdX1_forget⟩
theorem mL_X1_44 : Cond.methodLink RX1 44 yX1_giveBack ∈ TT := TT_3 156 rfl rfl
theorem mK_X1_giveBack : Cond.code yX1_giveBack cX1_giveBack 3 none ∈ TT := TT_3 50 rfl rfl
theorem hdX1_giveBack : yX1_giveBack.cls ≠ "java/lang/invoke/MethodHandle" ∧ yX1_giveBack.cls ≠ "java/lang/invoke/VarHandle" ∧ (parseMethodDescriptor yX1_giveBack.desc).map (fun d => d.parameters.length) = some 1 := by decide +kernel
theorem mM_X1_giveBack : Cond.instanceMethod yX1_giveBack ∈ TT := TT_3 48 rfl rfl
theorem mS_X1_giveBack : Cond.selects RX1 yX1_giveBack yX1_giveBack ∈ TT := TT_3 49 rfl rfl
theorem mmX1_giveBack : CWv yX1_giveBack cX1_giveBack 3 none 1 RX1 := ⟨⟨mM_X1_giveBack, mS_X1_giveBack, rfl⟩, mI_BoxedPapers_History, mK_X1_giveBack, hdX1_giveBack⟩
theorem mL_X7_144 : Cond.methodLink RX7 144 yX1_keep ∈ TT := TT_3 55 rfl rfl
theorem mK_X1_keep : Cond.code yX1_keep cX1_keep 1 none ∈ TT := TT_3 58 rfl rfl
theorem hdX1_keep : yX1_keep.cls ≠ "java/lang/invoke/MethodHandle" ∧ yX1_keep.cls ≠ "java/lang/invoke/VarHandle" ∧ (parseMethodDescriptor yX1_keep.desc).map (fun d => d.parameters.length) = some 0 := by decide +kernel
theorem mM_X1_keep : Cond.instanceMethod yX1_keep ∈ TT := TT_3 56 rfl rfl
theorem mS_X1_keep : Cond.selects RX1 yX1_keep yX1_keep ∈ TT := TT_3 57 rfl rfl
theorem mmX1_keep : CWv yX1_keep cX1_keep 1 none 0 RX1 := ⟨⟨mM_X1_keep, mS_X1_keep, rfl⟩, mI_BoxedPapers_History, mK_X1_keep, hdX1_keep⟩
theorem mL_X7_141 : Cond.methodLink RX7 141 yX1_giveBack ∈ TT := TT_3 47 rfl rfl
theorem mL_X7_116 : Cond.methodLink RX7 116 yX1_remember ∈ TT := TT_3 30 rfl rfl
theorem mK_X1_remember : Cond.code yX1_remember cX1_remember 3 none ∈ TT := TT_3 33 rfl rfl
theorem hdX1_remember : yX1_remember.cls ≠ "java/lang/invoke/MethodHandle" ∧ yX1_remember.cls ≠ "java/lang/invoke/VarHandle" ∧ (parseMethodDescriptor yX1_remember.desc).map (fun d => d.parameters.length) = some 1 := by decide +kernel
theorem mM_X1_remember : Cond.instanceMethod yX1_remember ∈ TT := TT_3 31 rfl rfl
theorem mS_X1_remember : Cond.selects RX1 yX1_remember yX1_remember ∈ TT := TT_3 32 rfl rfl
theorem mmX1_remember : CWv yX1_remember cX1_remember 3 none 1 RX1 := ⟨⟨mM_X1_remember, mS_X1_remember, rfl⟩, mI_BoxedPapers_History, mK_X1_remember, hdX1_remember⟩
theorem mL_X7_120 : Cond.methodLink RX7 120 yX7_settle ∈ TT := TT_3 43 rfl rfl
theorem mK_X7_settle : Cond.code yX7_settle cX7_settle 2 (some .int) ∈ TT := TT_3 46 rfl rfl
theorem hdX7_settle : yX7_settle.cls ≠ "java/lang/invoke/MethodHandle" ∧ yX7_settle.cls ≠ "java/lang/invoke/VarHandle" ∧ (parseMethodDescriptor yX7_settle.desc).map (fun d => d.parameters.length) = some 1 := by decide +kernel
theorem mM_X7_settle : Cond.instanceMethod yX7_settle ∈ TT := TT_3 45 rfl rfl
theorem mS_X7_settle : Cond.selects RX7 yX7_settle yX7_settle ∈ TT := TT_s (n := 7) 15 rfl rfl
theorem mmX7_settle : CWv yX7_settle cX7_settle 2 (some .int) 1 RX7 := ⟨⟨mM_X7_settle, mS_X7_settle, rfl⟩, mI_BoxedPapers, mK_X7_settle, hdX7_settle⟩
theorem mL_X7_123 : Cond.methodLink RX7 123 yX0_shiftAll ∈ TT := TT_3 76 rfl rfl
theorem mK_X0_shiftAll : Cond.code yX0_shiftAll cX0_shiftAll 5 (some .int) ∈ TT := TT_3 79 rfl rfl
theorem hdX0_shiftAll : yX0_shiftAll.cls ≠ "java/lang/invoke/MethodHandle" ∧ yX0_shiftAll.cls ≠ "java/lang/invoke/VarHandle" ∧ (parseMethodDescriptor yX0_shiftAll.desc).map (fun d => d.parameters.length) = some 2 := by decide +kernel
theorem mM_X0_shiftAll : Cond.instanceMethod yX0_shiftAll ∈ TT := TT_3 77 rfl rfl
theorem mS_X0_shiftAll : Cond.selects RX0 yX0_shiftAll yX0_shiftAll ∈ TT := TT_3 78 rfl rfl
theorem mmX0_shiftAll : CWv yX0_shiftAll cX0_shiftAll 5 (some .int) 2 RX0 := ⟨⟨mM_X0_shiftAll, mS_X0_shiftAll, rfl⟩, mI_BoxedPapers_Archive, mK_X0_shiftAll, hdX0_shiftAll⟩
theorem mL_X7_137 : Cond.methodLink RX7 137 yX0_layEach ∈ TT := TT_3 140 rfl rfl
theorem mK_X0_layEach : Cond.code yX0_layEach cX0_layEach 3 (some .int) ∈ TT := TT_3 143 rfl rfl
theorem hdX0_layEach : yX0_layEach.cls ≠ "java/lang/invoke/MethodHandle" ∧ yX0_layEach.cls ≠ "java/lang/invoke/VarHandle" ∧ (parseMethodDescriptor yX0_layEach.desc).map (fun d => d.parameters.length) = some 1 := by decide +kernel
theorem mM_X0_layEach : Cond.instanceMethod yX0_layEach ∈ TT := TT_3 141 rfl rfl
theorem mS_X0_layEach : Cond.selects RX0 yX0_layEach yX0_layEach ∈ TT := TT_3 142 rfl rfl
theorem mmX0_layEach : CWv yX0_layEach cX0_layEach 3 (some .int) 1 RX0 := ⟨⟨mM_X0_layEach, mS_X0_layEach, rfl⟩, mI_BoxedPapers_Archive, mK_X0_layEach, hdX0_layEach⟩
theorem mL_X7_147 : Cond.methodLink RX7 147 yX1_stepBack ∈ TT := TT_3 152 rfl rfl
theorem mK_X1_stepBack : Cond.code yX1_stepBack cX1_stepBack 2 (some .boolean) ∈ TT := TT_3 155 rfl rfl
theorem hdX1_stepBack : yX1_stepBack.cls ≠ "java/lang/invoke/MethodHandle" ∧ yX1_stepBack.cls ≠ "java/lang/invoke/VarHandle" ∧ (parseMethodDescriptor yX1_stepBack.desc).map (fun d => d.parameters.length) = some 1 := by decide +kernel
theorem mM_X1_stepBack : Cond.instanceMethod yX1_stepBack ∈ TT := TT_3 153 rfl rfl
theorem mS_X1_stepBack : Cond.selects RX1 yX1_stepBack yX1_stepBack ∈ TT := TT_3 154 rfl rfl
theorem mmX1_stepBack : CWv yX1_stepBack cX1_stepBack 2 (some .boolean) 1 RX1 := ⟨⟨mM_X1_stepBack, mS_X1_stepBack, rfl⟩, mI_BoxedPapers_History, mK_X1_stepBack, hdX1_stepBack⟩
theorem mF_X8_7 : Cond.fieldLink RX8 7 "BoxedPapersModel" "row" "[I" ∈ TT := TT_4 181 rfl rfl
theorem mF_X8_49 : Cond.fieldLink RX8 49 "BoxedPapersModel" "listed" "I" ∈ TT := TT_4 184 rfl rfl
theorem mF_X8_53 : Cond.fieldLink RX8 53 "BoxedPapersModel" "papers" "I" ∈ TT := TT_4 186 rfl rfl
theorem mD_X8_56 : Cond.constantLong RX8 56 (2000000000) ∈ TT := TT_5 67 rfl rfl
theorem mL_X8_58 : Cond.methodLink RX8 58 yX8_in ∈ TT := TT_5 22 rfl rfl
theorem mI_BoxedPapersModel : Cond.initialized RX8 ∈ TT := TT_1 10 rfl rfl
theorem mK_X8_in : Cond.code yX8_in cX8_in 6 (some .boolean) ∈ TT := TT_5 24 rfl rfl
theorem hdX8_in : yX8_in.cls ≠ "java/lang/invoke/MethodHandle" ∧ yX8_in.cls ≠ "java/lang/invoke/VarHandle" ∧ (parseMethodDescriptor yX8_in.desc).map (fun d => d.parameters.length) = some 3 := by decide +kernel
theorem mS_X8_in : Cond.static yX8_in ∈ TT := TT_5 23 rfl rfl
theorem mmX8_in : CWs yX8_in cX8_in 6 (some .boolean) 3 := ⟨mS_X8_in, mI_BoxedPapersModel, mK_X8_in, hdX8_in⟩
theorem mD_X8_62 : Cond.constantLong RX8 62 (7) ∈ TT := TT_5 65 rfl rfl
theorem mL_X8_64 : Cond.methodLink RX8 64 yX8_greater ∈ TT := TT_5 106 rfl rfl
theorem mK_X8_greater : Cond.code yX8_greater cX8_greater 2 (some .int) ∈ TT := TT_5 108 rfl rfl
theorem hdX8_greater : yX8_greater.cls ≠ "java/lang/invoke/MethodHandle" ∧ yX8_greater.cls ≠ "java/lang/invoke/VarHandle" ∧ (parseMethodDescriptor yX8_greater.desc).map (fun d => d.parameters.length) = some 2 := by decide +kernel
theorem mS_X8_greater : Cond.static yX8_greater ∈ TT := TT_5 107 rfl rfl
theorem mmX8_greater : CWs yX8_greater cX8_greater 2 (some .int) 2 := ⟨mS_X8_greater, mI_BoxedPapersModel, mK_X8_greater, hdX8_greater⟩
theorem mL_X8_68 : Cond.methodLink RX8 68 yX8_lesser ∈ TT := TT_5 109 rfl rfl
theorem mK_X8_lesser : Cond.code yX8_lesser cX8_lesser 2 (some .int) ∈ TT := TT_5 111 rfl rfl
theorem hdX8_lesser : yX8_lesser.cls ≠ "java/lang/invoke/MethodHandle" ∧ yX8_lesser.cls ≠ "java/lang/invoke/VarHandle" ∧ (parseMethodDescriptor yX8_lesser.desc).map (fun d => d.parameters.length) = some 2 := by decide +kernel
theorem mS_X8_lesser : Cond.static yX8_lesser ∈ TT := TT_5 110 rfl rfl
theorem mmX8_lesser : CWs yX8_lesser cX8_lesser 2 (some .int) 2 := ⟨mS_X8_lesser, mI_BoxedPapersModel, mK_X8_lesser, hdX8_lesser⟩
theorem mL_X8_71 : Cond.methodLink RX8 71 yX8_pieceAt ∈ TT := TT_5 125 rfl rfl
theorem mK_X8_pieceAt : Cond.code yX8_pieceAt cX8_pieceAt 3 (some .int) ∈ TT := TT_5 128 rfl rfl
theorem hdX8_pieceAt : yX8_pieceAt.cls ≠ "java/lang/invoke/MethodHandle" ∧ yX8_pieceAt.cls ≠ "java/lang/invoke/VarHandle" ∧ (parseMethodDescriptor yX8_pieceAt.desc).map (fun d => d.parameters.length) = some 2 := by decide +kernel
theorem mM_X8_pieceAt : Cond.instanceMethod yX8_pieceAt ∈ TT := TT_5 127 rfl rfl
theorem mS_X8_pieceAt : Cond.selects RX8 yX8_pieceAt yX8_pieceAt ∈ TT := TT_s (n := 25) 44 rfl rfl
theorem mmX8_pieceAt : CWv yX8_pieceAt cX8_pieceAt 3 (some .int) 2 RX8 := ⟨⟨mM_X8_pieceAt, mS_X8_pieceAt, rfl⟩, mI_BoxedPapersModel, mK_X8_pieceAt, hdX8_pieceAt⟩
theorem mL_X8_74 : Cond.methodLink RX8 74 yX8_common ∈ TT := TT_5 103 rfl rfl
theorem mK_X8_common : Cond.code yX8_common cX8_common 6 (some .int) ∈ TT := TT_5 105 rfl rfl
theorem hdX8_common : yX8_common.cls ≠ "java/lang/invoke/MethodHandle" ∧ yX8_common.cls ≠ "java/lang/invoke/VarHandle" ∧ (parseMethodDescriptor yX8_common.desc).map (fun d => d.parameters.length) = some 4 := by decide +kernel
theorem mS_X8_common : Cond.static yX8_common ∈ TT := TT_5 104 rfl rfl
theorem mmX8_common : CWs yX8_common cX8_common 6 (some .int) 4 := ⟨mS_X8_common, mI_BoxedPapersModel, mK_X8_common, hdX8_common⟩
theorem mC_X8_78 : Cond.constant RX8 78 (2000000000) ∈ TT := TT_5 120 rfl rfl
theorem mL_X8_79 : Cond.methodLink RX8 79 yX8_inBox ∈ TT := TT_5 121 rfl rfl
theorem mK_X8_inBox : Cond.code yX8_inBox cX8_inBox 6 (some .int) ∈ TT := TT_5 124 rfl rfl
theorem hdX8_inBox : yX8_inBox.cls ≠ "java/lang/invoke/MethodHandle" ∧ yX8_inBox.cls ≠ "java/lang/invoke/VarHandle" ∧ (parseMethodDescriptor yX8_inBox.desc).map (fun d => d.parameters.length) = some 3 := by decide +kernel
theorem mM_X8_inBox : Cond.instanceMethod yX8_inBox ∈ TT := TT_5 123 rfl rfl
theorem mS_X8_inBox : Cond.selects RX8 yX8_inBox yX8_inBox ∈ TT := TT_s (n := 25) 43 rfl rfl
theorem mmX8_inBox : CWv yX8_inBox cX8_inBox 6 (some .int) 3 RX8 := ⟨⟨mM_X8_inBox, mS_X8_inBox, rfl⟩, mI_BoxedPapersModel, mK_X8_inBox, hdX8_inBox⟩
theorem mF_X8_83 : Cond.fieldLink RX8 83 "BoxedPapersModel" "besides" "I" ∈ TT := TT_4 190 rfl rfl
theorem mF_X8_22 : Cond.fieldLink RX8 22 "BoxedPapersModel" "beside" "[I" ∈ TT := TT_4 189 rfl rfl
theorem mL_X8_86 : Cond.methodLink RX8 86 yX8_puts ∈ TT := TT_5 141 rfl rfl
theorem mK_X8_puts : Cond.code yX8_puts cX8_puts 5 none ∈ TT := TT_5 144 rfl rfl
theorem hdX8_puts : yX8_puts.cls ≠ "java/lang/invoke/MethodHandle" ∧ yX8_puts.cls ≠ "java/lang/invoke/VarHandle" ∧ (parseMethodDescriptor yX8_puts.desc).map (fun d => d.parameters.length) = some 3 := by decide +kernel
theorem mM_X8_puts : Cond.instanceMethod yX8_puts ∈ TT := TT_5 143 rfl rfl
theorem mS_X8_puts : Cond.selects RX8 yX8_puts yX8_puts ∈ TT := TT_s (n := 25) 48 rfl rfl
theorem mmX8_puts : CWv yX8_puts cX8_puts 5 none 3 RX8 := ⟨⟨mM_X8_puts, mS_X8_puts, rfl⟩, mI_BoxedPapersModel, mK_X8_puts, hdX8_puts⟩
theorem mL_X8_90 : Cond.methodLink RX8 90 yX8_lays ∈ TT := TT_5 137 rfl rfl
theorem mK_X8_lays : Cond.code yX8_lays cX8_lays 7 none ∈ TT := TT_5 140 rfl rfl
theorem hdX8_lays : yX8_lays.cls ≠ "java/lang/invoke/MethodHandle" ∧ yX8_lays.cls ≠ "java/lang/invoke/VarHandle" ∧ (parseMethodDescriptor yX8_lays.desc).map (fun d => d.parameters.length) = some 3 := by decide +kernel
theorem mM_X8_lays : Cond.instanceMethod yX8_lays ∈ TT := TT_5 139 rfl rfl
theorem mS_X8_lays : Cond.selects RX8 yX8_lays yX8_lays ∈ TT := TT_s (n := 25) 47 rfl rfl
theorem mmX8_lays : CWv yX8_lays cX8_lays 7 none 3 RX8 := ⟨⟨mM_X8_lays, mS_X8_lays, rfl⟩, mI_BoxedPapersModel, mK_X8_lays, hdX8_lays⟩
theorem mL_X8_93 : Cond.methodLink RX8 93 yX8_firstOf ∈ TT := TT_5 91 rfl rfl
theorem mK_X8_firstOf : Cond.code yX8_firstOf cX8_firstOf 2 (some .int) ∈ TT := TT_5 94 rfl rfl
theorem hdX8_firstOf : yX8_firstOf.cls ≠ "java/lang/invoke/MethodHandle" ∧ yX8_firstOf.cls ≠ "java/lang/invoke/VarHandle" ∧ (parseMethodDescriptor yX8_firstOf.desc).map (fun d => d.parameters.length) = some 1 := by decide +kernel
theorem mM_X8_firstOf : Cond.instanceMethod yX8_firstOf ∈ TT := TT_5 93 rfl rfl
theorem mS_X8_firstOf : Cond.selects RX8 yX8_firstOf yX8_firstOf ∈ TT := TT_s (n := 25) 38 rfl rfl
theorem mmX8_firstOf : CWv yX8_firstOf cX8_firstOf 2 (some .int) 1 RX8 := ⟨⟨mM_X8_firstOf, mS_X8_firstOf, rfl⟩, mI_BoxedPapersModel, mK_X8_firstOf, hdX8_firstOf⟩
theorem mL_X8_97 : Cond.methodLink RX8 97 yX8_lastOf ∈ TT := TT_5 95 rfl rfl
theorem mK_X8_lastOf : Cond.code yX8_lastOf cX8_lastOf 2 (some .int) ∈ TT := TT_5 98 rfl rfl
theorem hdX8_lastOf : yX8_lastOf.cls ≠ "java/lang/invoke/MethodHandle" ∧ yX8_lastOf.cls ≠ "java/lang/invoke/VarHandle" ∧ (parseMethodDescriptor yX8_lastOf.desc).map (fun d => d.parameters.length) = some 1 := by decide +kernel
theorem mM_X8_lastOf : Cond.instanceMethod yX8_lastOf ∈ TT := TT_5 97 rfl rfl
theorem mS_X8_lastOf : Cond.selects RX8 yX8_lastOf yX8_lastOf ∈ TT := TT_s (n := 25) 39 rfl rfl
theorem mmX8_lastOf : CWv yX8_lastOf cX8_lastOf 2 (some .int) 1 RX8 := ⟨⟨mM_X8_lastOf, mS_X8_lastOf, rfl⟩, mI_BoxedPapersModel, mK_X8_lastOf, hdX8_lastOf⟩
theorem mL_X8_100 : Cond.methodLink RX8 100 yX8_parent ∈ TT := TT_5 99 rfl rfl
theorem mK_X8_parent : Cond.code yX8_parent cX8_parent 2 (some .int) ∈ TT := TT_5 102 rfl rfl
theorem hdX8_parent : yX8_parent.cls ≠ "java/lang/invoke/MethodHandle" ∧ yX8_parent.cls ≠ "java/lang/invoke/VarHandle" ∧ (parseMethodDescriptor yX8_parent.desc).map (fun d => d.parameters.length) = some 1 := by decide +kernel
theorem mM_X8_parent : Cond.instanceMethod yX8_parent ∈ TT := TT_5 101 rfl rfl
theorem mS_X8_parent : Cond.selects RX8 yX8_parent yX8_parent ∈ TT := TT_s (n := 25) 40 rfl rfl
theorem mmX8_parent : CWv yX8_parent cX8_parent 2 (some .int) 1 RX8 := ⟨⟨mM_X8_parent, mS_X8_parent, rfl⟩, mI_BoxedPapersModel, mK_X8_parent, hdX8_parent⟩
theorem mL_X8_103 : Cond.methodLink RX8 103 yX8_ownIn ∈ TT := TT_5 223 rfl rfl
theorem mK_X8_ownIn : Cond.code yX8_ownIn cX8_ownIn 6 (some .int) ∈ TT := TT_5 226 rfl rfl
theorem hdX8_ownIn : yX8_ownIn.cls ≠ "java/lang/invoke/MethodHandle" ∧ yX8_ownIn.cls ≠ "java/lang/invoke/VarHandle" ∧ (parseMethodDescriptor yX8_ownIn.desc).map (fun d => d.parameters.length) = some 3 := by decide +kernel
theorem mM_X8_ownIn : Cond.instanceMethod yX8_ownIn ∈ TT := TT_5 225 rfl rfl
theorem mS_X8_ownIn : Cond.selects RX8 yX8_ownIn yX8_ownIn ∈ TT := TT_s (n := 25) 57 rfl rfl
theorem mmX8_ownIn : CWv yX8_ownIn cX8_ownIn 6 (some .int) 3 RX8 := ⟨⟨mM_X8_ownIn, mS_X8_ownIn, rfl⟩, mI_BoxedPapersModel, mK_X8_ownIn, hdX8_ownIn⟩
theorem mF_X8_106 : Cond.fieldLink RX8 106 "BoxedPapersModel" "gapFirst" "I" ∈ TT := TT_4 191 rfl rfl
theorem mF_X8_109 : Cond.fieldLink RX8 109 "BoxedPapersModel" "gapLast" "I" ∈ TT := TT_4 192 rfl rfl
theorem mL_X8_112 : Cond.methodLink RX8 112 yX8_finds ∈ TT := TT_5 196 rfl rfl
theorem mK_X8_finds : Cond.code yX8_finds cX8_finds 5 (some .boolean) ∈ TT := TT_5 199 rfl rfl
theorem hdX8_finds : yX8_finds.cls ≠ "java/lang/invoke/MethodHandle" ∧ yX8_finds.cls ≠ "java/lang/invoke/VarHandle" ∧ (parseMethodDescriptor yX8_finds.desc).map (fun d => d.parameters.length) = some 2 := by decide +kernel
theorem mM_X8_finds : Cond.instanceMethod yX8_finds ∈ TT := TT_5 198 rfl rfl
theorem mS_X8_finds : Cond.selects RX8 yX8_finds yX8_finds ∈ TT := TT_s (n := 25) 54 rfl rfl
theorem mmX8_finds : CWv yX8_finds cX8_finds 5 (some .boolean) 2 RX8 := ⟨⟨mM_X8_finds, mS_X8_finds, rfl⟩, mI_BoxedPapersModel, mK_X8_finds, hdX8_finds⟩
theorem mF_X8_28 : Cond.fieldLink RX8 28 "BoxedPapersModel" "free" "[I" ∈ TT := TT_4 195 rfl rfl
theorem mF_X8_116 : Cond.fieldLink RX8 116 "BoxedPapersModel" "layings" "I" ∈ TT := TT_4 194 rfl rfl
theorem mL_X8_119 : Cond.methodLink RX8 119 yX8_load ∈ TT := TT_5 116 rfl rfl
theorem mK_X8_load : Cond.code yX8_load cX8_load 2 (some .int) ∈ TT := TT_5 119 rfl rfl
theorem hdX8_load : yX8_load.cls ≠ "java/lang/invoke/MethodHandle" ∧ yX8_load.cls ≠ "java/lang/invoke/VarHandle" ∧ (parseMethodDescriptor yX8_load.desc).map (fun d => d.parameters.length) = some 1 := by decide +kernel
theorem mM_X8_load : Cond.instanceMethod yX8_load ∈ TT := TT_5 118 rfl rfl
theorem mS_X8_load : Cond.selects RX8 yX8_load yX8_load ∈ TT := TT_s (n := 25) 42 rfl rfl
theorem mmX8_load : CWv yX8_load cX8_load 2 (some .int) 1 RX8 := ⟨⟨mM_X8_load, mS_X8_load, rfl⟩, mI_BoxedPapersModel, mK_X8_load, hdX8_load⟩
theorem mL_X8_122 : Cond.methodLink RX8 122 yX8_bestFor ∈ TT := TT_5 200 rfl rfl
theorem mK_X8_bestFor : Cond.code yX8_bestFor cX8_bestFor 5 (some .int) ∈ TT := TT_5 203 rfl rfl
theorem hdX8_bestFor : yX8_bestFor.cls ≠ "java/lang/invoke/MethodHandle" ∧ yX8_bestFor.cls ≠ "java/lang/invoke/VarHandle" ∧ (parseMethodDescriptor yX8_bestFor.desc).map (fun d => d.parameters.length) = some 1 := by decide +kernel
theorem mM_X8_bestFor : Cond.instanceMethod yX8_bestFor ∈ TT := TT_5 202 rfl rfl
theorem mS_X8_bestFor : Cond.selects RX8 yX8_bestFor yX8_bestFor ∈ TT := TT_s (n := 25) 55 rfl rfl
theorem mmX8_bestFor : CWv yX8_bestFor cX8_bestFor 5 (some .int) 1 RX8 := ⟨⟨mM_X8_bestFor, mS_X8_bestFor, rfl⟩, mI_BoxedPapersModel, mK_X8_bestFor, hdX8_bestFor⟩
theorem mF_X8_25 : Cond.fieldLink RX8 25 "BoxedPapersModel" "laying" "[I" ∈ TT := TT_4 193 rfl rfl
theorem mD_X8_125 : Cond.constantLong RX8 125 (255) ∈ TT := TT_5 21 rfl rfl
theorem mF_X8_127 : Cond.fieldLink RX8 127 "BoxedPapersModel" "length" "I" ∈ TT := TT_4 188 rfl rfl
theorem mF_X8_19 : Cond.fieldLink RX8 19 "BoxedPapersModel" "text" "[I" ∈ TT := TT_4 187 rfl rfl
theorem mD_X8_130 : Cond.constantLong RX8 130 (97) ∈ TT := TT_5 44 rfl rfl
theorem mD_X8_132 : Cond.constantLong RX8 132 (122) ∈ TT := TT_5 45 rfl rfl
theorem mD_X8_134 : Cond.constantLong RX8 134 (48) ∈ TT := TT_5 49 rfl rfl
theorem mD_X8_136 : Cond.constantLong RX8 136 (57) ∈ TT := TT_5 50 rfl rfl
theorem mF_X8_138 : Cond.fieldLink RX8 138 "BoxedPapersModel" "behind" "I" ∈ TT := TT_4 197 rfl rfl
theorem mF_X8_141 : Cond.fieldLink RX8 141 "BoxedPapersModel" "first" "I" ∈ TT := TT_4 196 rfl rfl
theorem mL_X8_148 : Cond.methodLink RX8 148 yX8_isDigit ∈ TT := TT_5 46 rfl rfl
theorem mK_X8_isDigit : Cond.code yX8_isDigit cX8_isDigit 1 (some .boolean) ∈ TT := TT_5 48 rfl rfl
theorem hdX8_isDigit : yX8_isDigit.cls ≠ "java/lang/invoke/MethodHandle" ∧ yX8_isDigit.cls ≠ "java/lang/invoke/VarHandle" ∧ (parseMethodDescriptor yX8_isDigit.desc).map (fun d => d.parameters.length) = some 1 := by decide +kernel
theorem mS_X8_isDigit : Cond.static yX8_isDigit ∈ TT := TT_5 47 rfl rfl
theorem mmX8_isDigit : CWs yX8_isDigit cX8_isDigit 1 (some .boolean) 1 := ⟨mS_X8_isDigit, mI_BoxedPapersModel, mK_X8_isDigit, hdX8_isDigit⟩
theorem mL_X8_144 : Cond.methodLink RX8 144 yX8_isSmall ∈ TT := TT_5 41 rfl rfl
theorem mK_X8_isSmall : Cond.code yX8_isSmall cX8_isSmall 1 (some .boolean) ∈ TT := TT_5 43 rfl rfl
theorem hdX8_isSmall : yX8_isSmall.cls ≠ "java/lang/invoke/MethodHandle" ∧ yX8_isSmall.cls ≠ "java/lang/invoke/VarHandle" ∧ (parseMethodDescriptor yX8_isSmall.desc).map (fun d => d.parameters.length) = some 1 := by decide +kernel
theorem mS_X8_isSmall : Cond.static yX8_isSmall ∈ TT := TT_5 42 rfl rfl
theorem mmX8_isSmall : CWs yX8_isSmall cX8_isSmall 1 (some .boolean) 1 := ⟨mS_X8_isSmall, mI_BoxedPapersModel, mK_X8_isSmall, hdX8_isSmall⟩
theorem mF_X8_34 : Cond.fieldLink RX8 34 "BoxedPapersModel" "words" "[I" ∈ TT := TT_4 200 rfl rfl
theorem mD_X8_151 : Cond.constantLong RX8 151 (10) ∈ TT := TT_5 63 rfl rfl
theorem mF_X8_31 : Cond.fieldLink RX8 31 "BoxedPapersModel" "numbers" "[I" ∈ TT := TT_4 198 rfl rfl
theorem mL_X8_157 : Cond.methodLink RX8 157 yX8_nextToken ∈ TT := TT_5 37 rfl rfl
theorem mK_X8_nextToken : Cond.code yX8_nextToken cX8_nextToken 1 none ∈ TT := TT_5 40 rfl rfl
theorem hdX8_nextToken : yX8_nextToken.cls ≠ "java/lang/invoke/MethodHandle" ∧ yX8_nextToken.cls ≠ "java/lang/invoke/VarHandle" ∧ (parseMethodDescriptor yX8_nextToken.desc).map (fun d => d.parameters.length) = some 0 := by decide +kernel
theorem mM_X8_nextToken : Cond.instanceMethod yX8_nextToken ∈ TT := TT_5 39 rfl rfl
theorem mS_X8_nextToken : Cond.selects RX8 yX8_nextToken yX8_nextToken ∈ TT := TT_s (n := 25) 29 rfl rfl
theorem mmX8_nextToken : CWv yX8_nextToken cX8_nextToken 1 none 0 RX8 := ⟨⟨mM_X8_nextToken, mS_X8_nextToken, rfl⟩, mI_BoxedPapersModel, mK_X8_nextToken, hdX8_nextToken⟩
theorem mD_X8_155 : Cond.constantLong RX8 155 (999) ∈ TT := TT_5 66 rfl rfl
theorem mD_X8_153 : Cond.constantLong RX8 153 (9) ∈ TT := TT_5 64 rfl rfl
theorem mL_X8_203 : Cond.methodLink RX8 203 yX8_isRange ∈ TT := TT_5 88 rfl rfl
theorem mK_X8_isRange : Cond.code yX8_isRange cX8_isRange 2 (some .boolean) ∈ TT := TT_5 90 rfl rfl
theorem hdX8_isRange : yX8_isRange.cls ≠ "java/lang/invoke/MethodHandle" ∧ yX8_isRange.cls ≠ "java/lang/invoke/VarHandle" ∧ (parseMethodDescriptor yX8_isRange.desc).map (fun d => d.parameters.length) = some 2 := by decide +kernel
theorem mS_X8_isRange : Cond.static yX8_isRange ∈ TT := TT_5 89 rfl rfl
theorem mmX8_isRange : CWs yX8_isRange cX8_isRange 2 (some .boolean) 2 := ⟨mS_X8_isRange, mI_BoxedPapersModel, mK_X8_isRange, hdX8_isRange⟩
theorem mL_X8_200 : Cond.methodLink RX8 200 yX8_isSeries ∈ TT := TT_5 84 rfl rfl
theorem mK_X8_isSeries : Cond.code yX8_isSeries cX8_isSeries 2 (some .boolean) ∈ TT := TT_5 87 rfl rfl
theorem hdX8_isSeries : yX8_isSeries.cls ≠ "java/lang/invoke/MethodHandle" ∧ yX8_isSeries.cls ≠ "java/lang/invoke/VarHandle" ∧ (parseMethodDescriptor yX8_isSeries.desc).map (fun d => d.parameters.length) = some 1 := by decide +kernel
theorem mM_X8_isSeries : Cond.instanceMethod yX8_isSeries ∈ TT := TT_5 86 rfl rfl
theorem mS_X8_isSeries : Cond.selects RX8 yX8_isSeries yX8_isSeries ∈ TT := TT_s (n := 25) 37 rfl rfl
theorem mmX8_isSeries : CWv yX8_isSeries cX8_isSeries 2 (some .boolean) 1 RX8 := ⟨⟨mM_X8_isSeries, mS_X8_isSeries, rfl⟩, mI_BoxedPapersModel, mK_X8_isSeries, hdX8_isSeries⟩
theorem mL_X8_206 : Cond.methodLink RX8 206 yX8_whyNoSeries ∈ TT := TT_5 80 rfl rfl
theorem mK_X8_whyNoSeries : Cond.code yX8_whyNoSeries cX8_whyNoSeries 6 (some .int) ∈ TT := TT_5 83 rfl rfl
theorem hdX8_whyNoSeries : yX8_whyNoSeries.cls ≠ "java/lang/invoke/MethodHandle" ∧ yX8_whyNoSeries.cls ≠ "java/lang/invoke/VarHandle" ∧ (parseMethodDescriptor yX8_whyNoSeries.desc).map (fun d => d.parameters.length) = some 3 := by decide +kernel
theorem mM_X8_whyNoSeries : Cond.instanceMethod yX8_whyNoSeries ∈ TT := TT_5 82 rfl rfl
theorem mS_X8_whyNoSeries : Cond.selects RX8 yX8_whyNoSeries yX8_whyNoSeries ∈ TT := TT_s (n := 25) 36 rfl rfl
theorem mmX8_whyNoSeries : CWv yX8_whyNoSeries cX8_whyNoSeries 6 (some .int) 3 RX8 := ⟨⟨mM_X8_whyNoSeries, mS_X8_whyNoSeries, rfl⟩, mI_BoxedPapersModel, mK_X8_whyNoSeries, hdX8_whyNoSeries⟩
theorem mL_X8_215 : Cond.methodLink RX8 215 yX8_fits ∈ TT := TT_5 133 rfl rfl
theorem mK_X8_fits : Cond.code yX8_fits cX8_fits 7 (some .boolean) ∈ TT := TT_5 136 rfl rfl
theorem hdX8_fits : yX8_fits.cls ≠ "java/lang/invoke/MethodHandle" ∧ yX8_fits.cls ≠ "java/lang/invoke/VarHandle" ∧ (parseMethodDescriptor yX8_fits.desc).map (fun d => d.parameters.length) = some 3 := by decide +kernel
theorem mM_X8_fits : Cond.instanceMethod yX8_fits ∈ TT := TT_5 135 rfl rfl
theorem mS_X8_fits : Cond.selects RX8 yX8_fits yX8_fits ∈ TT := TT_s (n := 25) 46 rfl rfl
theorem mmX8_fits : CWv yX8_fits cX8_fits 7 (some .boolean) 3 RX8 := ⟨⟨mM_X8_fits, mS_X8_fits, rfl⟩, mI_BoxedPapersModel, mK_X8_fits, hdX8_fits⟩
theorem mL_X8_219 : Cond.methodLink RX8 219 yX8_moves ∈ TT := TT_5 145 rfl rfl
theorem mK_X8_moves : Cond.code yX8_moves cX8_moves 5 none ∈ TT := TT_5 148 rfl rfl
theorem hdX8_moves : yX8_moves.cls ≠ "java/lang/invoke/MethodHandle" ∧ yX8_moves.cls ≠ "java/lang/invoke/VarHandle" ∧ (parseMethodDescriptor yX8_moves.desc).map (fun d => d.parameters.length) = some 3 := by decide +kernel
theorem mM_X8_moves : Cond.instanceMethod yX8_moves ∈ TT := TT_5 147 rfl rfl
theorem mS_X8_moves : Cond.selects RX8 yX8_moves yX8_moves ∈ TT := TT_s (n := 25) 49 rfl rfl
theorem mmX8_moves : CWv yX8_moves cX8_moves 5 none 3 RX8 := ⟨⟨mM_X8_moves, mS_X8_moves, rfl⟩, mI_BoxedPapersModel, mK_X8_moves, hdX8_moves⟩
theorem mF_X8_13 : Cond.fieldLink RX8 13 "BoxedPapersModel" "list" "[I" ∈ TT := TT_4 183 rfl rfl
theorem mL_X8_160 : Cond.methodLink RX8 160 yX8_begins ∈ TT := TT_5 72 rfl rfl
theorem mK_X8_begins : Cond.code yX8_begins cX8_begins 2 none ∈ TT := TT_5 75 rfl rfl
theorem hdX8_begins : yX8_begins.cls ≠ "java/lang/invoke/MethodHandle" ∧ yX8_begins.cls ≠ "java/lang/invoke/VarHandle" ∧ (parseMethodDescriptor yX8_begins.desc).map (fun d => d.parameters.length) = some 0 := by decide +kernel
theorem mM_X8_begins : Cond.instanceMethod yX8_begins ∈ TT := TT_5 74 rfl rfl
theorem mS_X8_begins : Cond.selects RX8 yX8_begins yX8_begins ∈ TT := TT_s (n := 25) 34 rfl rfl
theorem mmX8_begins : CWv yX8_begins cX8_begins 2 none 0 RX8 := ⟨⟨mM_X8_begins, mS_X8_begins, rfl⟩, mI_BoxedPapersModel, mK_X8_begins, hdX8_begins⟩
theorem mL_X8_163 : Cond.methodLink RX8 163 yX8_adds ∈ TT := TT_5 76 rfl rfl
theorem mK_X8_adds : Cond.code yX8_adds cX8_adds 5 none ∈ TT := TT_5 79 rfl rfl
theorem hdX8_adds : yX8_adds.cls ≠ "java/lang/invoke/MethodHandle" ∧ yX8_adds.cls ≠ "java/lang/invoke/VarHandle" ∧ (parseMethodDescriptor yX8_adds.desc).map (fun d => d.parameters.length) = some 3 := by decide +kernel
theorem mM_X8_adds : Cond.instanceMethod yX8_adds ∈ TT := TT_5 78 rfl rfl
theorem mS_X8_adds : Cond.selects RX8 yX8_adds yX8_adds ∈ TT := TT_s (n := 25) 35 rfl rfl
theorem mmX8_adds : CWv yX8_adds cX8_adds 5 none 3 RX8 := ⟨⟨mM_X8_adds, mS_X8_adds, rfl⟩, mI_BoxedPapersModel, mK_X8_adds, hdX8_adds⟩
theorem mL_X8_166 : Cond.methodLink RX8 166 yX8_rooms ∈ TT := TT_5 112 rfl rfl
theorem mK_X8_rooms : Cond.code yX8_rooms cX8_rooms 3 none ∈ TT := TT_5 115 rfl rfl
theorem hdX8_rooms : yX8_rooms.cls ≠ "java/lang/invoke/MethodHandle" ∧ yX8_rooms.cls ≠ "java/lang/invoke/VarHandle" ∧ (parseMethodDescriptor yX8_rooms.desc).map (fun d => d.parameters.length) = some 2 := by decide +kernel
theorem mM_X8_rooms : Cond.instanceMethod yX8_rooms ∈ TT := TT_5 114 rfl rfl
theorem mS_X8_rooms : Cond.selects RX8 yX8_rooms yX8_rooms ∈ TT := TT_s (n := 25) 41 rfl rfl
theorem mmX8_rooms : CWv yX8_rooms cX8_rooms 3 none 2 RX8 := ⟨⟨mM_X8_rooms, mS_X8_rooms, rfl⟩, mI_BoxedPapersModel, mK_X8_rooms, hdX8_rooms⟩
theorem mL_X8_170 : Cond.methodLink RX8 170 yX8_brings ∈ TT := TT_5 129 rfl rfl
theorem mK_X8_brings : Cond.code yX8_brings cX8_brings 4 none ∈ TT := TT_5 132 rfl rfl
theorem hdX8_brings : yX8_brings.cls ≠ "java/lang/invoke/MethodHandle" ∧ yX8_brings.cls ≠ "java/lang/invoke/VarHandle" ∧ (parseMethodDescriptor yX8_brings.desc).map (fun d => d.parameters.length) = some 3 := by decide +kernel
theorem mM_X8_brings : Cond.instanceMethod yX8_brings ∈ TT := TT_5 131 rfl rfl
theorem mS_X8_brings : Cond.selects RX8 yX8_brings yX8_brings ∈ TT := TT_s (n := 25) 45 rfl rfl
theorem mmX8_brings : CWv yX8_brings cX8_brings 4 none 3 RX8 := ⟨⟨mM_X8_brings, mS_X8_brings, rfl⟩, mI_BoxedPapersModel, mK_X8_brings, hdX8_brings⟩
theorem mL_X8_173 : Cond.methodLink RX8 173 yX8_lists ∈ TT := TT_5 149 rfl rfl
theorem mK_X8_lists : Cond.code yX8_lists cX8_lists 4 none ∈ TT := TT_5 152 rfl rfl
theorem hdX8_lists : yX8_lists.cls ≠ "java/lang/invoke/MethodHandle" ∧ yX8_lists.cls ≠ "java/lang/invoke/VarHandle" ∧ (parseMethodDescriptor yX8_lists.desc).map (fun d => d.parameters.length) = some 3 := by decide +kernel
theorem mM_X8_lists : Cond.instanceMethod yX8_lists ∈ TT := TT_5 151 rfl rfl
theorem mS_X8_lists : Cond.selects RX8 yX8_lists yX8_lists ∈ TT := TT_s (n := 25) 50 rfl rfl
theorem mmX8_lists : CWv yX8_lists cX8_lists 4 none 3 RX8 := ⟨⟨mM_X8_lists, mS_X8_lists, rfl⟩, mI_BoxedPapersModel, mK_X8_lists, hdX8_lists⟩
theorem mL_X8_176 : Cond.methodLink RX8 176 yX8_wordHere ∈ TT := TT_5 55 rfl rfl
theorem mK_X8_wordHere : Cond.code yX8_wordHere cX8_wordHere 4 (some .int) ∈ TT := TT_5 58 rfl rfl
theorem hdX8_wordHere : yX8_wordHere.cls ≠ "java/lang/invoke/MethodHandle" ∧ yX8_wordHere.cls ≠ "java/lang/invoke/VarHandle" ∧ (parseMethodDescriptor yX8_wordHere.desc).map (fun d => d.parameters.length) = some 0 := by decide +kernel
theorem mM_X8_wordHere : Cond.instanceMethod yX8_wordHere ∈ TT := TT_5 57 rfl rfl
theorem mS_X8_wordHere : Cond.selects RX8 yX8_wordHere yX8_wordHere ∈ TT := TT_s (n := 25) 31 rfl rfl
theorem mmX8_wordHere : CWv yX8_wordHere cX8_wordHere 4 (some .int) 0 RX8 := ⟨⟨mM_X8_wordHere, mS_X8_wordHere, rfl⟩, mI_BoxedPapersModel, mK_X8_wordHere, hdX8_wordHere⟩
theorem mF_X8_37 : Cond.fieldLink RX8 37 "BoxedPapersModel" "sorts" "[I" ∈ TT := TT_4 201 rfl rfl
theorem mL_X8_180 : Cond.methodLink RX8 180 yX8_number ∈ TT := TT_5 59 rfl rfl
theorem mK_X8_number : Cond.code yX8_number cX8_number 9 (some .boolean) ∈ TT := TT_5 62 rfl rfl
theorem hdX8_number : yX8_number.cls ≠ "java/lang/invoke/MethodHandle" ∧ yX8_number.cls ≠ "java/lang/invoke/VarHandle" ∧ (parseMethodDescriptor yX8_number.desc).map (fun d => d.parameters.length) = some 2 := by decide +kernel
theorem mM_X8_number : Cond.instanceMethod yX8_number ∈ TT := TT_5 61 rfl rfl
theorem mS_X8_number : Cond.selects RX8 yX8_number yX8_number ∈ TT := TT_s (n := 25) 32 rfl rfl
theorem mmX8_number : CWv yX8_number cX8_number 9 (some .boolean) 2 RX8 := ⟨⟨mM_X8_number, mS_X8_number, rfl⟩, mI_BoxedPapersModel, mK_X8_number, hdX8_number⟩
theorem mL_X8_183 : Cond.methodLink RX8 183 yX8_done ∈ TT := TT_5 68 rfl rfl
theorem mK_X8_done : Cond.code yX8_done cX8_done 2 none ∈ TT := TT_5 71 rfl rfl
theorem hdX8_done : yX8_done.cls ≠ "java/lang/invoke/MethodHandle" ∧ yX8_done.cls ≠ "java/lang/invoke/VarHandle" ∧ (parseMethodDescriptor yX8_done.desc).map (fun d => d.parameters.length) = some 1 := by decide +kernel
theorem mM_X8_done : Cond.instanceMethod yX8_done ∈ TT := TT_5 70 rfl rfl
theorem mS_X8_done : Cond.selects RX8 yX8_done yX8_done ∈ TT := TT_s (n := 25) 33 rfl rfl
theorem mmX8_done : CWv yX8_done cX8_done 2 none 1 RX8 := ⟨⟨mM_X8_done, mS_X8_done, rfl⟩, mI_BoxedPapersModel, mK_X8_done, hdX8_done⟩
theorem mF_X8_187 : Cond.fieldLink RX8 187 "BoxedPapersModel" "clauses" "I" ∈ TT := TT_4 199 rfl rfl
theorem mL_X8_190 : Cond.methodLink RX8 190 yX8_readsClause ∈ TT := TT_5 51 rfl rfl
theorem mK_X8_readsClause : Cond.code yX8_readsClause cX8_readsClause 4 (some .boolean) ∈ TT := TT_5 54 rfl rfl
theorem hdX8_readsClause : yX8_readsClause.cls ≠ "java/lang/invoke/MethodHandle" ∧ yX8_readsClause.cls ≠ "java/lang/invoke/VarHandle" ∧ (parseMethodDescriptor yX8_readsClause.desc).map (fun d => d.parameters.length) = some 1 := by decide +kernel
theorem mM_X8_readsClause : Cond.instanceMethod yX8_readsClause ∈ TT := TT_5 53 rfl rfl
theorem mS_X8_readsClause : Cond.selects RX8 yX8_readsClause yX8_readsClause ∈ TT := TT_s (n := 25) 30 rfl rfl
theorem mmX8_readsClause : CWv yX8_readsClause cX8_readsClause 4 (some .boolean) 1 RX8 := ⟨⟨mM_X8_readsClause, mS_X8_readsClause, rfl⟩, mI_BoxedPapersModel, mK_X8_readsClause, hdX8_readsClause⟩
theorem mL_X8_194 : Cond.methodLink RX8 194 yX8_reads ∈ TT := TT_5 33 rfl rfl
theorem mK_X8_reads : Cond.code yX8_reads cX8_reads 3 (some .boolean) ∈ TT := TT_5 36 rfl rfl
theorem hdX8_reads : yX8_reads.cls ≠ "java/lang/invoke/MethodHandle" ∧ yX8_reads.cls ≠ "java/lang/invoke/VarHandle" ∧ (parseMethodDescriptor yX8_reads.desc).map (fun d => d.parameters.length) = some 1 := by decide +kernel
theorem mM_X8_reads : Cond.instanceMethod yX8_reads ∈ TT := TT_5 35 rfl rfl
theorem mS_X8_reads : Cond.selects RX8 yX8_reads yX8_reads ∈ TT := TT_s (n := 25) 28 rfl rfl
theorem mmX8_reads : CWv yX8_reads cX8_reads 3 (some .boolean) 1 RX8 := ⟨⟨mM_X8_reads, mS_X8_reads, rfl⟩, mI_BoxedPapersModel, mK_X8_reads, hdX8_reads⟩
theorem mF_X8_197 : Cond.fieldLink RX8 197 "BoxedPapersModel" "undos" "I" ∈ TT := TT_4 182 rfl rfl
theorem mL_X8_209 : Cond.methodLink RX8 209 yX8_keepPast ∈ TT := TT_5 161 rfl rfl
theorem mK_X8_keepPast : Cond.code yX8_keepPast cX8_keepPast 2 none ∈ TT := TT_5 164 rfl rfl
theorem hdX8_keepPast : yX8_keepPast.cls ≠ "java/lang/invoke/MethodHandle" ∧ yX8_keepPast.cls ≠ "java/lang/invoke/VarHandle" ∧ (parseMethodDescriptor yX8_keepPast.desc).map (fun d => d.parameters.length) = some 0 := by decide +kernel
theorem mM_X8_keepPast : Cond.instanceMethod yX8_keepPast ∈ TT := TT_5 163 rfl rfl
theorem mS_X8_keepPast : Cond.selects RX8 yX8_keepPast yX8_keepPast ∈ TT := TT_s (n := 25) 51 rfl rfl
theorem mmX8_keepPast : CWv yX8_keepPast cX8_keepPast 2 none 0 RX8 := ⟨⟨mM_X8_keepPast, mS_X8_keepPast, rfl⟩, mI_BoxedPapersModel, mK_X8_keepPast, hdX8_keepPast⟩
theorem mL_X8_212 : Cond.methodLink RX8 212 yX8_isBox ∈ TT := TT_5 169 rfl rfl
theorem mK_X8_isBox : Cond.code yX8_isBox cX8_isBox 1 (some .boolean) ∈ TT := TT_5 171 rfl rfl
theorem hdX8_isBox : yX8_isBox.cls ≠ "java/lang/invoke/MethodHandle" ∧ yX8_isBox.cls ≠ "java/lang/invoke/VarHandle" ∧ (parseMethodDescriptor yX8_isBox.desc).map (fun d => d.parameters.length) = some 1 := by decide +kernel
theorem mS_X8_isBox : Cond.static yX8_isBox ∈ TT := TT_5 170 rfl rfl
theorem mmX8_isBox : CWs yX8_isBox cX8_isBox 1 (some .boolean) 1 := ⟨mS_X8_isBox, mI_BoxedPapersModel, mK_X8_isBox, hdX8_isBox⟩
theorem mL_X8_222 : Cond.methodLink RX8 222 yX8_piecesOf ∈ TT := TT_5 184 rfl rfl
theorem mK_X8_piecesOf : Cond.code yX8_piecesOf cX8_piecesOf 4 (some .int) ∈ TT := TT_5 187 rfl rfl
theorem hdX8_piecesOf : yX8_piecesOf.cls ≠ "java/lang/invoke/MethodHandle" ∧ yX8_piecesOf.cls ≠ "java/lang/invoke/VarHandle" ∧ (parseMethodDescriptor yX8_piecesOf.desc).map (fun d => d.parameters.length) = some 1 := by decide +kernel
theorem mM_X8_piecesOf : Cond.instanceMethod yX8_piecesOf ∈ TT := TT_5 186 rfl rfl
theorem mS_X8_piecesOf : Cond.selects RX8 yX8_piecesOf yX8_piecesOf ∈ TT := TT_s (n := 25) 52 rfl rfl
theorem mmX8_piecesOf : CWv yX8_piecesOf cX8_piecesOf 4 (some .int) 1 RX8 := ⟨⟨mM_X8_piecesOf, mS_X8_piecesOf, rfl⟩, mI_BoxedPapersModel, mK_X8_piecesOf, hdX8_piecesOf⟩
theorem mF_X8_40 : Cond.fieldLink RX8 40 "BoxedPapersModel" "shifted" "[I" ∈ TT := TT_4 202 rfl rfl
theorem mL_X8_225 : Cond.methodLink RX8 225 yX8_plans ∈ TT := TT_5 192 rfl rfl
theorem mK_X8_plans : Cond.code yX8_plans cX8_plans 6 none ∈ TT := TT_5 195 rfl rfl
theorem hdX8_plans : yX8_plans.cls ≠ "java/lang/invoke/MethodHandle" ∧ yX8_plans.cls ≠ "java/lang/invoke/VarHandle" ∧ (parseMethodDescriptor yX8_plans.desc).map (fun d => d.parameters.length) = some 1 := by decide +kernel
theorem mM_X8_plans : Cond.instanceMethod yX8_plans ∈ TT := TT_5 194 rfl rfl
theorem mS_X8_plans : Cond.selects RX8 yX8_plans yX8_plans ∈ TT := TT_s (n := 25) 53 rfl rfl
theorem mmX8_plans : CWv yX8_plans cX8_plans 6 none 1 RX8 := ⟨⟨mM_X8_plans, mS_X8_plans, rfl⟩, mI_BoxedPapersModel, mK_X8_plans, hdX8_plans⟩
theorem mF_X8_43 : Cond.fieldLink RX8 43 "BoxedPapersModel" "saved" "[I" ∈ TT := TT_4 203 rfl rfl
theorem mL_X8_228 : Cond.methodLink RX8 228 yX8_copyRow ∈ TT := TT_5 204 rfl rfl
theorem mK_X8_copyRow : Cond.code yX8_copyRow cX8_copyRow 3 none ∈ TT := TT_5 206 rfl rfl
theorem hdX8_copyRow : yX8_copyRow.cls ≠ "java/lang/invoke/MethodHandle" ∧ yX8_copyRow.cls ≠ "java/lang/invoke/VarHandle" ∧ (parseMethodDescriptor yX8_copyRow.desc).map (fun d => d.parameters.length) = some 2 := by decide +kernel
theorem mS_X8_copyRow : Cond.static yX8_copyRow ∈ TT := TT_5 205 rfl rfl
theorem mmX8_copyRow : CWs yX8_copyRow cX8_copyRow 3 none 2 := ⟨mS_X8_copyRow, mI_BoxedPapersModel, mK_X8_copyRow, hdX8_copyRow⟩
theorem mL_X8_232 : Cond.methodLink RX8 232 yX8_stows ∈ TT := TT_5 207 rfl rfl
theorem mK_X8_stows : Cond.code yX8_stows cX8_stows 3 (some .boolean) ∈ TT := TT_5 210 rfl rfl
theorem hdX8_stows : yX8_stows.cls ≠ "java/lang/invoke/MethodHandle" ∧ yX8_stows.cls ≠ "java/lang/invoke/VarHandle" ∧ (parseMethodDescriptor yX8_stows.desc).map (fun d => d.parameters.length) = some 0 := by decide +kernel
theorem mM_X8_stows : Cond.instanceMethod yX8_stows ∈ TT := TT_5 209 rfl rfl
theorem mS_X8_stows : Cond.selects RX8 yX8_stows yX8_stows ∈ TT := TT_s (n := 25) 56 rfl rfl
theorem mmX8_stows : CWv yX8_stows cX8_stows 3 (some .boolean) 0 RX8 := ⟨⟨mM_X8_stows, mS_X8_stows, rfl⟩, mI_BoxedPapersModel, mK_X8_stows, hdX8_stows⟩
theorem mL_X8_236 : Cond.methodLink RX8 236 yX8_children ∈ TT := TT_5 227 rfl rfl
theorem mK_X8_children : Cond.code yX8_children cX8_children 4 (some .int) ∈ TT := TT_5 230 rfl rfl
theorem hdX8_children : yX8_children.cls ≠ "java/lang/invoke/MethodHandle" ∧ yX8_children.cls ≠ "java/lang/invoke/VarHandle" ∧ (parseMethodDescriptor yX8_children.desc).map (fun d => d.parameters.length) = some 1 := by decide +kernel
theorem mM_X8_children : Cond.instanceMethod yX8_children ∈ TT := TT_5 229 rfl rfl
theorem mS_X8_children : Cond.selects RX8 yX8_children yX8_children ∈ TT := TT_s (n := 25) 58 rfl rfl
theorem mmX8_children : CWv yX8_children cX8_children 4 (some .int) 1 RX8 := ⟨⟨mM_X8_children, mS_X8_children, rfl⟩, mI_BoxedPapersModel, mK_X8_children, hdX8_children⟩
theorem mL_X8_239 : Cond.methodLink RX8 239 yX8_boxesOf ∈ TT := TT_5 231 rfl rfl
theorem mK_X8_boxesOf : Cond.code yX8_boxesOf cX8_boxesOf 4 (some .int) ∈ TT := TT_5 234 rfl rfl
theorem hdX8_boxesOf : yX8_boxesOf.cls ≠ "java/lang/invoke/MethodHandle" ∧ yX8_boxesOf.cls ≠ "java/lang/invoke/VarHandle" ∧ (parseMethodDescriptor yX8_boxesOf.desc).map (fun d => d.parameters.length) = some 1 := by decide +kernel
theorem mM_X8_boxesOf : Cond.instanceMethod yX8_boxesOf ∈ TT := TT_5 233 rfl rfl
theorem mS_X8_boxesOf : Cond.selects RX8 yX8_boxesOf yX8_boxesOf ∈ TT := TT_s (n := 25) 59 rfl rfl
theorem mmX8_boxesOf : CWv yX8_boxesOf cX8_boxesOf 4 (some .int) 1 RX8 := ⟨⟨mM_X8_boxesOf, mS_X8_boxesOf, rfl⟩, mI_BoxedPapersModel, mK_X8_boxesOf, hdX8_boxesOf⟩
theorem mL_X8_242 : Cond.methodLink RX8 242 yX8_gaps ∈ TT := TT_5 235 rfl rfl
theorem mK_X8_gaps : Cond.code yX8_gaps cX8_gaps 4 (some .int) ∈ TT := TT_5 238 rfl rfl
theorem hdX8_gaps : yX8_gaps.cls ≠ "java/lang/invoke/MethodHandle" ∧ yX8_gaps.cls ≠ "java/lang/invoke/VarHandle" ∧ (parseMethodDescriptor yX8_gaps.desc).map (fun d => d.parameters.length) = some 1 := by decide +kernel
theorem mM_X8_gaps : Cond.instanceMethod yX8_gaps ∈ TT := TT_5 237 rfl rfl
theorem mS_X8_gaps : Cond.selects RX8 yX8_gaps yX8_gaps ∈ TT := TT_s (n := 25) 60 rfl rfl
theorem mmX8_gaps : CWv yX8_gaps cX8_gaps 4 (some .int) 1 RX8 := ⟨⟨mM_X8_gaps, mS_X8_gaps, rfl⟩, mI_BoxedPapersModel, mK_X8_gaps, hdX8_gaps⟩
theorem mL_X8_245 : Cond.methodLink RX8 245 yX8_ownInBox ∈ TT := TT_6 7 rfl rfl
theorem mK_X8_ownInBox : Cond.code yX8_ownInBox cX8_ownInBox 5 (some .int) ∈ TT := TT_6 10 rfl rfl
theorem hdX8_ownInBox : yX8_ownInBox.cls ≠ "java/lang/invoke/MethodHandle" ∧ yX8_ownInBox.cls ≠ "java/lang/invoke/VarHandle" ∧ (parseMethodDescriptor yX8_ownInBox.desc).map (fun d => d.parameters.length) = some 2 := by decide +kernel
theorem mM_X8_ownInBox : Cond.instanceMethod yX8_ownInBox ∈ TT := TT_6 9 rfl rfl
theorem mS_X8_ownInBox : Cond.selects RX8 yX8_ownInBox yX8_ownInBox ∈ TT := TT_s (n := 25) 62 rfl rfl
theorem mmX8_ownInBox : CWv yX8_ownInBox cX8_ownInBox 5 (some .int) 2 RX8 := ⟨⟨mM_X8_ownInBox, mS_X8_ownInBox, rfl⟩, mI_BoxedPapersModel, mK_X8_ownInBox, hdX8_ownInBox⟩
theorem mL_X8_248 : Cond.methodLink RX8 248 yX8_ownsIn ∈ TT := TT_6 3 rfl rfl
theorem mK_X8_ownsIn : Cond.code yX8_ownsIn cX8_ownsIn 4 (some .int) ∈ TT := TT_6 6 rfl rfl
theorem hdX8_ownsIn : yX8_ownsIn.cls ≠ "java/lang/invoke/MethodHandle" ∧ yX8_ownsIn.cls ≠ "java/lang/invoke/VarHandle" ∧ (parseMethodDescriptor yX8_ownsIn.desc).map (fun d => d.parameters.length) = some 1 := by decide +kernel
theorem mM_X8_ownsIn : Cond.instanceMethod yX8_ownsIn ∈ TT := TT_6 5 rfl rfl
theorem mS_X8_ownsIn : Cond.selects RX8 yX8_ownsIn yX8_ownsIn ∈ TT := TT_s (n := 25) 61 rfl rfl
theorem mmX8_ownsIn : CWv yX8_ownsIn cX8_ownsIn 4 (some .int) 1 RX8 := ⟨⟨mM_X8_ownsIn, mS_X8_ownsIn, rfl⟩, mI_BoxedPapersModel, mK_X8_ownsIn, hdX8_ownsIn⟩
theorem mL_X8_251 : Cond.methodLink RX8 251 yX8_endOf ∈ TT := TT_6 11 rfl rfl
theorem mK_X8_endOf : Cond.code yX8_endOf cX8_endOf 5 (some .int) ∈ TT := TT_6 14 rfl rfl
theorem hdX8_endOf : yX8_endOf.cls ≠ "java/lang/invoke/MethodHandle" ∧ yX8_endOf.cls ≠ "java/lang/invoke/VarHandle" ∧ (parseMethodDescriptor yX8_endOf.desc).map (fun d => d.parameters.length) = some 2 := by decide +kernel
theorem mM_X8_endOf : Cond.instanceMethod yX8_endOf ∈ TT := TT_6 13 rfl rfl
theorem mS_X8_endOf : Cond.selects RX8 yX8_endOf yX8_endOf ∈ TT := TT_s (n := 25) 63 rfl rfl
theorem mmX8_endOf : CWv yX8_endOf cX8_endOf 5 (some .int) 2 RX8 := ⟨⟨mM_X8_endOf, mS_X8_endOf, rfl⟩, mI_BoxedPapersModel, mK_X8_endOf, hdX8_endOf⟩
theorem mD_X8_255 : Cond.constantLong RX8 255 (2) ∈ TT := TT_6 19 rfl rfl
theorem mL_X8_257 : Cond.methodLink RX8 257 yX8_findsGap ∈ TT := TT_6 24 rfl rfl
theorem mK_X8_findsGap : Cond.code yX8_findsGap cX8_findsGap 5 (some .boolean) ∈ TT := TT_6 27 rfl rfl
theorem hdX8_findsGap : yX8_findsGap.cls ≠ "java/lang/invoke/MethodHandle" ∧ yX8_findsGap.cls ≠ "java/lang/invoke/VarHandle" ∧ (parseMethodDescriptor yX8_findsGap.desc).map (fun d => d.parameters.length) = some 2 := by decide +kernel
theorem mM_X8_findsGap : Cond.instanceMethod yX8_findsGap ∈ TT := TT_6 26 rfl rfl
theorem mS_X8_findsGap : Cond.selects RX8 yX8_findsGap yX8_findsGap ∈ TT := TT_s (n := 25) 64 rfl rfl
theorem mmX8_findsGap : CWv yX8_findsGap cX8_findsGap 5 (some .boolean) 2 RX8 := ⟨⟨mM_X8_findsGap, mS_X8_findsGap, rfl⟩, mI_BoxedPapersModel, mK_X8_findsGap, hdX8_findsGap⟩
theorem mL_X8_260 : Cond.methodLink RX8 260 yX8_isSheet ∈ TT := TT_6 32 rfl rfl
theorem mK_X8_isSheet : Cond.code yX8_isSheet cX8_isSheet 1 (some .boolean) ∈ TT := TT_6 34 rfl rfl
theorem hdX8_isSheet : yX8_isSheet.cls ≠ "java/lang/invoke/MethodHandle" ∧ yX8_isSheet.cls ≠ "java/lang/invoke/VarHandle" ∧ (parseMethodDescriptor yX8_isSheet.desc).map (fun d => d.parameters.length) = some 1 := by decide +kernel
theorem mS_X8_isSheet : Cond.static yX8_isSheet ∈ TT := TT_6 33 rfl rfl
theorem mmX8_isSheet : CWs yX8_isSheet cX8_isSheet 1 (some .boolean) 1 := ⟨mS_X8_isSheet, mI_BoxedPapersModel, mK_X8_isSheet, hdX8_isSheet⟩
theorem mL_X8_263 : Cond.methodLink RX8 263 yX8_homeOf ∈ TT := TT_6 35 rfl rfl
theorem mK_X8_homeOf : Cond.code yX8_homeOf cX8_homeOf 4 (some .int) ∈ TT := TT_6 38 rfl rfl
theorem hdX8_homeOf : yX8_homeOf.cls ≠ "java/lang/invoke/MethodHandle" ∧ yX8_homeOf.cls ≠ "java/lang/invoke/VarHandle" ∧ (parseMethodDescriptor yX8_homeOf.desc).map (fun d => d.parameters.length) = some 1 := by decide +kernel
theorem mM_X8_homeOf : Cond.instanceMethod yX8_homeOf ∈ TT := TT_6 37 rfl rfl
theorem mS_X8_homeOf : Cond.selects RX8 yX8_homeOf yX8_homeOf ∈ TT := TT_s (n := 25) 65 rfl rfl
theorem mmX8_homeOf : CWv yX8_homeOf cX8_homeOf 4 (some .int) 1 RX8 := ⟨⟨mM_X8_homeOf, mS_X8_homeOf, rfl⟩, mI_BoxedPapersModel, mK_X8_homeOf, hdX8_homeOf⟩
theorem mL_X8_266 : Cond.methodLink RX8 266 yX8_isMoved ∈ TT := TT_6 47 rfl rfl
theorem mK_X8_isMoved : Cond.code yX8_isMoved cX8_isMoved 3 (some .boolean) ∈ TT := TT_6 50 rfl rfl
theorem hdX8_isMoved : yX8_isMoved.cls ≠ "java/lang/invoke/MethodHandle" ∧ yX8_isMoved.cls ≠ "java/lang/invoke/VarHandle" ∧ (parseMethodDescriptor yX8_isMoved.desc).map (fun d => d.parameters.length) = some 2 := by decide +kernel
theorem mM_X8_isMoved : Cond.instanceMethod yX8_isMoved ∈ TT := TT_6 49 rfl rfl
theorem mS_X8_isMoved : Cond.selects RX8 yX8_isMoved yX8_isMoved ∈ TT := TT_s (n := 25) 66 rfl rfl
theorem mmX8_isMoved : CWv yX8_isMoved cX8_isMoved 3 (some .boolean) 2 RX8 := ⟨⟨mM_X8_isMoved, mS_X8_isMoved, rfl⟩, mI_BoxedPapersModel, mK_X8_isMoved, hdX8_isMoved⟩
theorem mD_X8_269 : Cond.constantLong RX8 269 (3) ∈ TT := TT_6 55 rfl rfl
theorem mL_X8_271 : Cond.methodLink RX8 271 yX8_clash ∈ TT := TT_6 76 rfl rfl
theorem mK_X8_clash : Cond.code yX8_clash cX8_clash 3 (some .boolean) ∈ TT := TT_6 79 rfl rfl
theorem hdX8_clash : yX8_clash.cls ≠ "java/lang/invoke/MethodHandle" ∧ yX8_clash.cls ≠ "java/lang/invoke/VarHandle" ∧ (parseMethodDescriptor yX8_clash.desc).map (fun d => d.parameters.length) = some 2 := by decide +kernel
theorem mM_X8_clash : Cond.instanceMethod yX8_clash ∈ TT := TT_6 78 rfl rfl
theorem mS_X8_clash : Cond.selects RX8 yX8_clash yX8_clash ∈ TT := TT_s (n := 25) 68 rfl rfl
theorem mmX8_clash : CWv yX8_clash cX8_clash 3 (some .boolean) 2 RX8 := ⟨⟨mM_X8_clash, mS_X8_clash, rfl⟩, mI_BoxedPapersModel, mK_X8_clash, hdX8_clash⟩
theorem mL_X8_274 : Cond.methodLink RX8 274 yX8_clashOf ∈ TT := TT_6 72 rfl rfl
theorem mK_X8_clashOf : Cond.code yX8_clashOf cX8_clashOf 3 (some .int) ∈ TT := TT_6 75 rfl rfl
theorem hdX8_clashOf : yX8_clashOf.cls ≠ "java/lang/invoke/MethodHandle" ∧ yX8_clashOf.cls ≠ "java/lang/invoke/VarHandle" ∧ (parseMethodDescriptor yX8_clashOf.desc).map (fun d => d.parameters.length) = some 1 := by decide +kernel
theorem mM_X8_clashOf : Cond.instanceMethod yX8_clashOf ∈ TT := TT_6 74 rfl rfl
theorem mS_X8_clashOf : Cond.selects RX8 yX8_clashOf yX8_clashOf ∈ TT := TT_s (n := 25) 67 rfl rfl
theorem mmX8_clashOf : CWv yX8_clashOf cX8_clashOf 3 (some .int) 1 RX8 := ⟨⟨mM_X8_clashOf, mS_X8_clashOf, rfl⟩, mI_BoxedPapersModel, mK_X8_clashOf, hdX8_clashOf⟩
theorem mL_X8_277 : Cond.methodLink RX8 277 yX8_bare ∈ TT := TT_6 84 rfl rfl
theorem mK_X8_bare : Cond.code yX8_bare cX8_bare 9 (some .int) ∈ TT := TT_6 87 rfl rfl
theorem hdX8_bare : yX8_bare.cls ≠ "java/lang/invoke/MethodHandle" ∧ yX8_bare.cls ≠ "java/lang/invoke/VarHandle" ∧ (parseMethodDescriptor yX8_bare.desc).map (fun d => d.parameters.length) = some 3 := by decide +kernel
theorem mM_X8_bare : Cond.instanceMethod yX8_bare ∈ TT := TT_6 86 rfl rfl
theorem mS_X8_bare : Cond.selects RX8 yX8_bare yX8_bare ∈ TT := TT_s (n := 25) 69 rfl rfl
theorem mmX8_bare : CWv yX8_bare cX8_bare 9 (some .int) 3 RX8 := ⟨⟨mM_X8_bare, mS_X8_bare, rfl⟩, mI_BoxedPapersModel, mK_X8_bare, hdX8_bare⟩
theorem mF_X8_280 : Cond.fieldLink RX8 280 "BoxedPapersModel" "drafts" "I" ∈ TT := TT_4 205 rfl rfl
theorem mF_X8_46 : Cond.fieldLink RX8 46 "BoxedPapersModel" "draft" "[I" ∈ TT := TT_4 204 rfl rfl
theorem mL_X8_283 : Cond.methodLink RX8 283 yX8_letter ∈ TT := TT_6 96 rfl rfl
theorem mK_X8_letter : Cond.code yX8_letter cX8_letter 2 none ∈ TT := TT_6 99 rfl rfl
theorem hdX8_letter : yX8_letter.cls ≠ "java/lang/invoke/MethodHandle" ∧ yX8_letter.cls ≠ "java/lang/invoke/VarHandle" ∧ (parseMethodDescriptor yX8_letter.desc).map (fun d => d.parameters.length) = some 1 := by decide +kernel
theorem mM_X8_letter : Cond.instanceMethod yX8_letter ∈ TT := TT_6 98 rfl rfl
theorem mS_X8_letter : Cond.selects RX8 yX8_letter yX8_letter ∈ TT := TT_s (n := 25) 71 rfl rfl
theorem mmX8_letter : CWv yX8_letter cX8_letter 2 none 1 RX8 := ⟨⟨mM_X8_letter, mS_X8_letter, rfl⟩, mI_BoxedPapersModel, mK_X8_letter, hdX8_letter⟩
theorem mL_X8_286 : Cond.methodLink RX8 286 yX8_figures ∈ TT := TT_6 104 rfl rfl
theorem mK_X8_figures : Cond.code yX8_figures cX8_figures 4 none ∈ TT := TT_6 107 rfl rfl
theorem hdX8_figures : yX8_figures.cls ≠ "java/lang/invoke/MethodHandle" ∧ yX8_figures.cls ≠ "java/lang/invoke/VarHandle" ∧ (parseMethodDescriptor yX8_figures.desc).map (fun d => d.parameters.length) = some 1 := by decide +kernel
theorem mM_X8_figures : Cond.instanceMethod yX8_figures ∈ TT := TT_6 106 rfl rfl
theorem mS_X8_figures : Cond.selects RX8 yX8_figures yX8_figures ∈ TT := TT_s (n := 25) 73 rfl rfl
theorem mmX8_figures : CWv yX8_figures cX8_figures 4 none 1 RX8 := ⟨⟨mM_X8_figures, mS_X8_figures, rfl⟩, mI_BoxedPapersModel, mK_X8_figures, hdX8_figures⟩
theorem mL_X8_289 : Cond.methodLink RX8 289 yX8_writes ∈ TT := TT_6 100 rfl rfl
theorem mK_X8_writes : Cond.code yX8_writes cX8_writes 11 (some .boolean) ∈ TT := TT_6 103 rfl rfl
theorem hdX8_writes : yX8_writes.cls ≠ "java/lang/invoke/MethodHandle" ∧ yX8_writes.cls ≠ "java/lang/invoke/VarHandle" ∧ (parseMethodDescriptor yX8_writes.desc).map (fun d => d.parameters.length) = some 4 := by decide +kernel
theorem mM_X8_writes : Cond.instanceMethod yX8_writes ∈ TT := TT_6 102 rfl rfl
theorem mS_X8_writes : Cond.selects RX8 yX8_writes yX8_writes ∈ TT := TT_s (n := 25) 72 rfl rfl
theorem mmX8_writes : CWv yX8_writes cX8_writes 11 (some .boolean) 4 RX8 := ⟨⟨mM_X8_writes, mS_X8_writes, rfl⟩, mI_BoxedPapersModel, mK_X8_writes, hdX8_writes⟩
theorem mL_X8_293 : Cond.methodLink RX8 293 yX8_labels ∈ TT := TT_6 92 rfl rfl
theorem mK_X8_labels : Cond.code yX8_labels cX8_labels 5 none ∈ TT := TT_6 95 rfl rfl
theorem hdX8_labels : yX8_labels.cls ≠ "java/lang/invoke/MethodHandle" ∧ yX8_labels.cls ≠ "java/lang/invoke/VarHandle" ∧ (parseMethodDescriptor yX8_labels.desc).map (fun d => d.parameters.length) = some 2 := by decide +kernel
theorem mM_X8_labels : Cond.instanceMethod yX8_labels ∈ TT := TT_6 94 rfl rfl
theorem mS_X8_labels : Cond.selects RX8 yX8_labels yX8_labels ∈ TT := TT_s (n := 25) 70 rfl rfl
theorem mmX8_labels : CWv yX8_labels cX8_labels 5 none 2 RX8 := ⟨⟨mM_X8_labels, mS_X8_labels, rfl⟩, mI_BoxedPapersModel, mK_X8_labels, hdX8_labels⟩
theorem mF_X8_16 : Cond.fieldLink RX8 16 "BoxedPapersModel" "paper" "[I" ∈ TT := TT_4 185 rfl rfl
theorem mL_X8_296 : Cond.methodLink RX8 296 yX8_homeless ∈ TT := TT_6 124 rfl rfl
theorem mK_X8_homeless : Cond.code yX8_homeless cX8_homeless 3 (some .int) ∈ TT := TT_6 127 rfl rfl
theorem hdX8_homeless : yX8_homeless.cls ≠ "java/lang/invoke/MethodHandle" ∧ yX8_homeless.cls ≠ "java/lang/invoke/VarHandle" ∧ (parseMethodDescriptor yX8_homeless.desc).map (fun d => d.parameters.length) = some 0 := by decide +kernel
theorem mM_X8_homeless : Cond.instanceMethod yX8_homeless ∈ TT := TT_6 126 rfl rfl
theorem mS_X8_homeless : Cond.selects RX8 yX8_homeless yX8_homeless ∈ TT := TT_s (n := 25) 74 rfl rfl
theorem mmX8_homeless : CWv yX8_homeless cX8_homeless 3 (some .int) 0 RX8 := ⟨⟨mM_X8_homeless, mS_X8_homeless, rfl⟩, mI_BoxedPapersModel, mK_X8_homeless, hdX8_homeless⟩
theorem mL_X8_299 : Cond.methodLink RX8 299 yX8_filled ∈ TT := TT_6 128 rfl rfl
theorem mK_X8_filled : Cond.code yX8_filled cX8_filled 3 (some .int) ∈ TT := TT_6 131 rfl rfl
theorem hdX8_filled : yX8_filled.cls ≠ "java/lang/invoke/MethodHandle" ∧ yX8_filled.cls ≠ "java/lang/invoke/VarHandle" ∧ (parseMethodDescriptor yX8_filled.desc).map (fun d => d.parameters.length) = some 0 := by decide +kernel
theorem mM_X8_filled : Cond.instanceMethod yX8_filled ∈ TT := TT_6 130 rfl rfl
theorem mS_X8_filled : Cond.selects RX8 yX8_filled yX8_filled ∈ TT := TT_s (n := 25) 75 rfl rfl
theorem mmX8_filled : CWv yX8_filled cX8_filled 3 (some .int) 0 RX8 := ⟨⟨mM_X8_filled, mS_X8_filled, rfl⟩, mI_BoxedPapersModel, mK_X8_filled, hdX8_filled⟩
theorem mL_X8_302 : Cond.methodLink RX8 302 yX8_clashes ∈ TT := TT_6 132 rfl rfl
theorem mK_X8_clashes : Cond.code yX8_clashes cX8_clashes 4 (some .int) ∈ TT := TT_6 135 rfl rfl
theorem hdX8_clashes : yX8_clashes.cls ≠ "java/lang/invoke/MethodHandle" ∧ yX8_clashes.cls ≠ "java/lang/invoke/VarHandle" ∧ (parseMethodDescriptor yX8_clashes.desc).map (fun d => d.parameters.length) = some 0 := by decide +kernel
theorem mM_X8_clashes : Cond.instanceMethod yX8_clashes ∈ TT := TT_6 134 rfl rfl
theorem mS_X8_clashes : Cond.selects RX8 yX8_clashes yX8_clashes ∈ TT := TT_s (n := 25) 76 rfl rfl
theorem mmX8_clashes : CWv yX8_clashes cX8_clashes 4 (some .int) 0 RX8 := ⟨⟨mM_X8_clashes, mS_X8_clashes, rfl⟩, mI_BoxedPapersModel, mK_X8_clashes, hdX8_clashes⟩
theorem mK_J0_coder_7d493 : Cond.code yJ0_coder_7d493 cJ0_coder_7d493 1 (some .byte) ∈ TT := TT_2 38 rfl rfl
theorem hdJ0_coder_7d493 : yJ0_coder_7d493.cls ≠ "java/lang/invoke/MethodHandle" ∧ yJ0_coder_7d493.cls ≠ "java/lang/invoke/VarHandle" ∧ (parseMethodDescriptor yJ0_coder_7d493.desc).map (fun d => d.parameters.length) = some 0 := by decide +kernel
theorem mM_J0_coder_7d493 : Cond.instanceMethod yJ0_coder_7d493 ∈ TT := TT_2 36 rfl rfl
theorem mS_J0_coder_7d493 : Cond.selects RJ0 yJ0_coder_7d493 yJ0_coder_7d493 ∈ TT := TT_2 37 rfl rfl
theorem mmJ0_coder_7d493 : CWv yJ0_coder_7d493 cJ0_coder_7d493 1 (some .byte) 0 RJ0 := ⟨⟨mM_J0_coder_7d493, mS_J0_coder_7d493, rfl⟩, mI_java_lang_String, mK_J0_coder_7d493, hdJ0_coder_7d493⟩
theorem mK_J0_isLatin1_aae02 : Cond.code yJ0_isLatin1_aae02 cJ0_isLatin1_aae02 1 (some .boolean) ∈ TT := TT_2 48 rfl rfl
theorem hdJ0_isLatin1_aae02 : yJ0_isLatin1_aae02.cls ≠ "java/lang/invoke/MethodHandle" ∧ yJ0_isLatin1_aae02.cls ≠ "java/lang/invoke/VarHandle" ∧ (parseMethodDescriptor yJ0_isLatin1_aae02.desc).map (fun d => d.parameters.length) = some 0 := by decide +kernel
theorem mM_J0_isLatin1_aae02 : Cond.instanceMethod yJ0_isLatin1_aae02 ∈ TT := TT_2 46 rfl rfl
theorem mS_J0_isLatin1_aae02 : Cond.selects RJ0 yJ0_isLatin1_aae02 yJ0_isLatin1_aae02 ∈ TT := TT_2 47 rfl rfl
theorem mmJ0_isLatin1_aae02 : CWv yJ0_isLatin1_aae02 cJ0_isLatin1_aae02 1 (some .boolean) 0 RJ0 := ⟨⟨mM_J0_isLatin1_aae02, mS_J0_isLatin1_aae02, rfl⟩, mI_java_lang_String, mK_J0_isLatin1_aae02, hdJ0_isLatin1_aae02⟩
theorem mK_J0_checkIndex_df160 : Cond.code yJ0_checkIndex_df160 cJ0_checkIndex_df160 2 none ∈ TT := TT_2 54 rfl rfl
theorem hdJ0_checkIndex_df160 : yJ0_checkIndex_df160.cls ≠ "java/lang/invoke/MethodHandle" ∧ yJ0_checkIndex_df160.cls ≠ "java/lang/invoke/VarHandle" ∧ (parseMethodDescriptor yJ0_checkIndex_df160.desc).map (fun d => d.parameters.length) = some 2 := by decide +kernel
theorem mS_J0_checkIndex_df160 : Cond.static yJ0_checkIndex_df160 ∈ TT := TT_2 53 rfl rfl
theorem mmJ0_checkIndex_df160 : CWs yJ0_checkIndex_df160 cJ0_checkIndex_df160 2 none 2 := ⟨mS_J0_checkIndex_df160, mI_java_lang_String, mK_J0_checkIndex_df160, hdJ0_checkIndex_df160⟩
theorem mI_java_lang_StringLatin1 : Cond.initialized RJ1 ∈ TT := TT_1 12 rfl rfl
theorem mK_J1_charAt_3b067 : Cond.code yJ1_charAt_3b067 cJ1_charAt_3b067 2 (some .char) ∈ TT := TT_2 51 rfl rfl
theorem hdJ1_charAt_3b067 : yJ1_charAt_3b067.cls ≠ "java/lang/invoke/MethodHandle" ∧ yJ1_charAt_3b067.cls ≠ "java/lang/invoke/VarHandle" ∧ (parseMethodDescriptor yJ1_charAt_3b067.desc).map (fun d => d.parameters.length) = some 2 := by decide +kernel
theorem mS_J1_charAt_3b067 : Cond.static yJ1_charAt_3b067 ∈ TT := TT_2 50 rfl rfl
theorem mmJ1_charAt_3b067 : CWs yJ1_charAt_3b067 cJ1_charAt_3b067 2 (some .char) 2 := ⟨mS_J1_charAt_3b067, mI_java_lang_StringLatin1, mK_J1_charAt_3b067, hdJ1_charAt_3b067⟩
theorem mI_jdk_internal_util_Preconditions : Cond.initialized RJ3 ∈ TT := TT_1 13 rfl rfl
theorem mK_J3_checkIndex_8e157 : Cond.code yJ3_checkIndex_8e157 cJ3_checkIndex_8e157 3 (some .int) ∈ TT := TT_2 59 rfl rfl
theorem hdJ3_checkIndex_8e157 : yJ3_checkIndex_8e157.cls ≠ "java/lang/invoke/MethodHandle" ∧ yJ3_checkIndex_8e157.cls ≠ "java/lang/invoke/VarHandle" ∧ (parseMethodDescriptor yJ3_checkIndex_8e157.desc).map (fun d => d.parameters.length) = some 3 := by decide +kernel
theorem mS_J3_checkIndex_8e157 : Cond.static yJ3_checkIndex_8e157 ∈ TT := TT_2 58 rfl rfl
theorem mmJ3_checkIndex_8e157 : CWs yJ3_checkIndex_8e157 cJ3_checkIndex_8e157 3 (some .int) 3 := ⟨mS_J3_checkIndex_8e157, mI_jdk_internal_util_Preconditions, mK_J3_checkIndex_8e157, hdJ3_checkIndex_8e157⟩
theorem mF_J0_9 : Cond.fieldLink RJ0 9 "java/lang/String" "value" "[B" ∈ TT := TT_6 136 rfl rfl
theorem mF_J0_15 : Cond.fieldLink RJ0 15 "java/lang/String" "coder" "B" ∈ TT := TT_6 137 rfl rfl
theorem mF_J0_38 : Cond.fieldLink RJ0 38 "java/lang/String" "COMPACT_STRINGS" "Z" ∈ TT := TT_2 39 rfl rfl
theorem mF_J0_1053 : Cond.fieldLink RJ0 1053 "jdk/internal/util/Preconditions" "SIOOBE_FORMATTER" "Ljava/util/function/BiFunction;" ∈ TT := TT_2 55 rfl rfl
theorem mL_J0_335 : Cond.methodLink RJ0 335 yJ0_coder_7d493 ∈ TT := TT_2 35 rfl rfl
theorem mL_J0_492 : Cond.methodLink RJ0 492 yJ0_isLatin1_aae02 ∈ TT := TT_2 45 rfl rfl
theorem mL_J0_495 : Cond.methodLink RJ0 495 yJ1_charAt_3b067 ∈ TT := TT_2 49 rfl rfl
theorem mL_J0_1059 : Cond.methodLink RJ0 1059 yJ3_checkIndex_8e157 ∈ TT := TT_2 57 rfl rfl
theorem mL_J1_9 : Cond.methodLink RJ1 9 yJ0_checkIndex_df160 ∈ TT := TT_2 52 rfl rfl
theorem mK_X1_topSlot : Cond.code yX1_topSlot cX1_topSlot 1 (some (.object "BoxedPapers$Snapshot")) ∈ TT := TT_3 37 rfl rfl
theorem hdX1_topSlot : yX1_topSlot.cls ≠ "java/lang/invoke/MethodHandle" ∧ yX1_topSlot.cls ≠ "java/lang/invoke/VarHandle" ∧ (parseMethodDescriptor yX1_topSlot.desc).map (fun d => d.parameters.length) = some 0 := by decide +kernel
theorem mM_X1_topSlot : Cond.instanceMethod yX1_topSlot ∈ TT := TT_3 36 rfl rfl
theorem mS_X1_topSlot : Cond.selects RX1 yX1_topSlot yX1_topSlot ∈ TT := TT_s (n := 3) 14 rfl rfl
theorem mmX1_topSlot : CWv yX1_topSlot cX1_topSlot 1 (some (.object "BoxedPapers$Snapshot")) 0 RX1 := ⟨⟨mM_X1_topSlot, mS_X1_topSlot, rfl⟩, mI_BoxedPapers_History, mK_X1_topSlot, hdX1_topSlot⟩
theorem mK_X0_saveTo : Cond.code yX0_saveTo cX0_saveTo 2 none ∈ TT := TT_3 41 rfl rfl
theorem hdX0_saveTo : yX0_saveTo.cls ≠ "java/lang/invoke/MethodHandle" ∧ yX0_saveTo.cls ≠ "java/lang/invoke/VarHandle" ∧ (parseMethodDescriptor yX0_saveTo.desc).map (fun d => d.parameters.length) = some 1 := by decide +kernel
theorem mM_X0_saveTo : Cond.instanceMethod yX0_saveTo ∈ TT := TT_3 39 rfl rfl
theorem mS_X0_saveTo : Cond.selects RX0 yX0_saveTo yX0_saveTo ∈ TT := TT_3 40 rfl rfl
theorem mmX0_saveTo : CWv yX0_saveTo cX0_saveTo 2 none 1 RX0 := ⟨⟨mM_X0_saveTo, mS_X0_saveTo, rfl⟩, mI_BoxedPapers_Archive, mK_X0_saveTo, hdX0_saveTo⟩
theorem mK_X0_restoreFrom : Cond.code yX0_restoreFrom cX0_restoreFrom 2 none ∈ TT := TT_3 54 rfl rfl
theorem hdX0_restoreFrom : yX0_restoreFrom.cls ≠ "java/lang/invoke/MethodHandle" ∧ yX0_restoreFrom.cls ≠ "java/lang/invoke/VarHandle" ∧ (parseMethodDescriptor yX0_restoreFrom.desc).map (fun d => d.parameters.length) = some 1 := by decide +kernel
theorem mM_X0_restoreFrom : Cond.instanceMethod yX0_restoreFrom ∈ TT := TT_3 52 rfl rfl
theorem mS_X0_restoreFrom : Cond.selects RX0 yX0_restoreFrom yX0_restoreFrom ∈ TT := TT_3 53 rfl rfl
theorem mmX0_restoreFrom : CWv yX0_restoreFrom cX0_restoreFrom 2 none 1 RX0 := ⟨⟨mM_X0_restoreFrom, mS_X0_restoreFrom, rfl⟩, mI_BoxedPapers_Archive, mK_X0_restoreFrom, hdX0_restoreFrom⟩
theorem mF_X1_11 : Cond.fieldLink RX1 11 "BoxedPapers$History" "slots" "[LBoxedPapers$Snapshot;" ∈ TT := TT_1 112 rfl rfl
theorem mL_X1_25 : Cond.methodLink RX1 25 yX1_topSlot ∈ TT := TT_3 34 rfl rfl
theorem mL_X1_29 : Cond.methodLink RX1 29 yX0_saveTo ∈ TT := TT_3 38 rfl rfl
theorem mL_X1_35 : Cond.methodLink RX1 35 yX0_restoreFrom ∈ TT := TT_3 51 rfl rfl
theorem mA_int : Cond.arrayClass .int ∈ TT := TT_1 53 rfl rfl
theorem mM_obj : Cond.instanceMethod Lib.objectInit ∈ TT := TT_1 23 rfl rfl
theorem mK_obj : Cond.code Lib.objectInit ⟨#[0xb1]⟩ 1 none ∈ TT := TT_1 24 rfl rfl
theorem mm_obj : Cond.instanceMethod Lib.objectInit ∈ TT ∧ Cond.code Lib.objectInit ⟨#[0xb1]⟩ 1 none ∈ TT := ⟨mM_obj, mK_obj⟩
theorem mL_X4_3 : Cond.methodLink RX4 3 objectInit ∈ TT := TT_1 36 rfl rfl
theorem mL_X5_3 : Cond.methodLink RX5 3 objectInit ∈ TT := TT_1 88 rfl rfl
theorem mF_X5_9 : Cond.fieldLink RX5 9 "BoxedPapers$Snapshot" "rooms" "[I" ∈ TT := TT_1 91 rfl rfl
theorem mJ_X5_15 : Cond.classLink RX5 15 RX4 ∈ TT := TT_1 89 rfl rfl
theorem mN_X4 : Cond.instantiable RX4 4 ∈ TT := TT_1 32 rfl rfl
theorem mK_X4_init : Cond.code yX4_init cX4_init 3 none ∈ TT := TT_1 35 rfl rfl
theorem mM_X4_init : Cond.instanceMethod yX4_init ∈ TT := TT_1 34 rfl rfl
theorem hdX4_init : yX4_init.cls ≠ "java/lang/invoke/MethodHandle" ∧ yX4_init.cls ≠ "java/lang/invoke/VarHandle" ∧ (parseMethodDescriptor yX4_init.desc).map (fun d => d.parameters.length) = some 1 := by decide +kernel
theorem mmX4_init : CWd yX4_init cX4_init 3 none 1 := ⟨mI_BoxedPapers_Ranges, mK_X4_init, hdX4_init⟩
theorem mL_X5_17 : Cond.methodLink RX5 17 yX4_init ∈ TT := TT_1 90 rfl rfl
theorem mF_X5_20 : Cond.fieldLink RX5 20 "BoxedPapers$Snapshot" "pieces" "LBoxedPapers$Ranges;" ∈ TT := TT_1 93 rfl rfl
theorem mF_X5_24 : Cond.fieldLink RX5 24 "BoxedPapers$Snapshot" "seriesCount" "I" ∈ TT := TT_1 95 rfl rfl
theorem mF_X5_28 : Cond.fieldLink RX5 28 "BoxedPapers$Snapshot" "moveCount" "I" ∈ TT := TT_1 97 rfl rfl
theorem mF_X5_31 : Cond.fieldLink RX5 31 "BoxedPapers$Snapshot" "day" "I" ∈ TT := TT_1 99 rfl rfl
theorem mL_X0_3 : Cond.methodLink RX0 3 objectInit ∈ TT := TT_1 30 rfl rfl
theorem mJ_X0_9 : Cond.classLink RX0 9 RX4 ∈ TT := TT_1 31 rfl rfl
theorem mL_X0_11 : Cond.methodLink RX0 11 yX4_init ∈ TT := TT_1 33 rfl rfl
theorem mI_BoxedPapers_Snapshot : Cond.initialized RX5 ∈ TT := TT_1 6 rfl rfl
theorem mK_X5_init : Cond.code yX5_init cX5_init 1 none ∈ TT := TT_1 87 rfl rfl
theorem mM_X5_init : Cond.instanceMethod yX5_init ∈ TT := TT_1 86 rfl rfl
theorem hdX5_init : yX5_init.cls ≠ "java/lang/invoke/MethodHandle" ∧ yX5_init.cls ≠ "java/lang/invoke/VarHandle" ∧ (parseMethodDescriptor yX5_init.desc).map (fun d => d.parameters.length) = some 0 := by decide +kernel
theorem mmX5_init : CWd yX5_init cX5_init 1 none 0 := ⟨mI_BoxedPapers_Snapshot, mK_X5_init, hdX5_init⟩
theorem mJ_X1_9 : Cond.classLink RX1 9 RX5 ∈ TT := TT_1 82 rfl rfl
theorem mN_X5 : Cond.instantiable RX5 5 ∈ TT := TT_1 84 rfl rfl
theorem mL_X1_3 : Cond.methodLink RX1 3 objectInit ∈ TT := TT_1 81 rfl rfl
theorem mL_X1_17 : Cond.methodLink RX1 17 yX5_init ∈ TT := TT_1 85 rfl rfl
theorem mL_X2_3 : Cond.methodLink RX2 3 objectInit ∈ TT := TT_1 175 rfl rfl
theorem mL_X3_3 : Cond.methodLink RX3 3 objectInit ∈ TT := TT_1 127 rfl rfl
theorem mJ_X3_9 : Cond.classLink RX3 9 RX4 ∈ TT := TT_1 128 rfl rfl
theorem mL_X3_11 : Cond.methodLink RX3 11 yX4_init ∈ TT := TT_1 129 rfl rfl
theorem mL_X6_3 : Cond.methodLink RX6 3 objectInit ∈ TT := TT_1 150 rfl rfl
theorem mL_X7_3 : Cond.methodLink RX7 3 objectInit ∈ TT := TT_1 22 rfl rfl
theorem mJ_X7_9 : Cond.classLink RX7 9 RX0 ∈ TT := TT_1 25 rfl rfl
theorem mN_X0 : Cond.instantiable RX0 7 ∈ TT := TT_1 26 rfl rfl
theorem mK_X0_init : Cond.code yX0_init cX0_init 1 none ∈ TT := TT_1 29 rfl rfl
theorem mM_X0_init : Cond.instanceMethod yX0_init ∈ TT := TT_1 28 rfl rfl
theorem hdX0_init : yX0_init.cls ≠ "java/lang/invoke/MethodHandle" ∧ yX0_init.cls ≠ "java/lang/invoke/VarHandle" ∧ (parseMethodDescriptor yX0_init.desc).map (fun d => d.parameters.length) = some 0 := by decide +kernel
theorem mmX0_init : CWd yX0_init cX0_init 1 none 0 := ⟨mI_BoxedPapers_Archive, mK_X0_init, hdX0_init⟩
theorem mL_X7_11 : Cond.methodLink RX7 11 yX0_init ∈ TT := TT_1 27 rfl rfl
theorem mJ_X7_16 : Cond.classLink RX7 16 RX1 ∈ TT := TT_1 76 rfl rfl
theorem mN_X1 : Cond.instantiable RX1 3 ∈ TT := TT_1 77 rfl rfl
theorem mK_X1_init : Cond.code yX1_init cX1_init 2 none ∈ TT := TT_1 80 rfl rfl
theorem mM_X1_init : Cond.instanceMethod yX1_init ∈ TT := TT_1 79 rfl rfl
theorem hdX1_init : yX1_init.cls ≠ "java/lang/invoke/MethodHandle" ∧ yX1_init.cls ≠ "java/lang/invoke/VarHandle" ∧ (parseMethodDescriptor yX1_init.desc).map (fun d => d.parameters.length) = some 0 := by decide +kernel
theorem mmX1_init : CWd yX1_init cX1_init 2 none 0 := ⟨mI_BoxedPapers_History, mK_X1_init, hdX1_init⟩
theorem mL_X7_18 : Cond.methodLink RX7 18 yX1_init ∈ TT := TT_1 78 rfl rfl
theorem mJ_X7_23 : Cond.classLink RX7 23 RX3 ∈ TT := TT_1 122 rfl rfl
theorem mN_X3 : Cond.instantiable RX3 4 ∈ TT := TT_1 123 rfl rfl
theorem mK_X3_init : Cond.code yX3_init cX3_init 1 none ∈ TT := TT_1 126 rfl rfl
theorem mM_X3_init : Cond.instanceMethod yX3_init ∈ TT := TT_1 125 rfl rfl
theorem hdX3_init : yX3_init.cls ≠ "java/lang/invoke/MethodHandle" ∧ yX3_init.cls ≠ "java/lang/invoke/VarHandle" ∧ (parseMethodDescriptor yX3_init.desc).map (fun d => d.parameters.length) = some 0 := by decide +kernel
theorem mmX3_init : CWd yX3_init cX3_init 1 none 0 := ⟨mI_BoxedPapers_Planner, mK_X3_init, hdX3_init⟩
theorem mL_X7_25 : Cond.methodLink RX7 25 yX3_init ∈ TT := TT_1 124 rfl rfl
theorem mJ_X7_30 : Cond.classLink RX7 30 RX4 ∈ TT := TT_1 143 rfl rfl
theorem mL_X7_32 : Cond.methodLink RX7 32 yX4_init ∈ TT := TT_1 144 rfl rfl
theorem mJ_X7_39 : Cond.classLink RX7 39 RX6 ∈ TT := TT_1 145 rfl rfl
theorem mN_X6 : Cond.instantiable RX6 6 ∈ TT := TT_1 146 rfl rfl
theorem mK_X6_init : Cond.code yX6_init cX6_init 1 none ∈ TT := TT_1 149 rfl rfl
theorem mM_X6_init : Cond.instanceMethod yX6_init ∈ TT := TT_1 148 rfl rfl
theorem hdX6_init : yX6_init.cls ≠ "java/lang/invoke/MethodHandle" ∧ yX6_init.cls ≠ "java/lang/invoke/VarHandle" ∧ (parseMethodDescriptor yX6_init.desc).map (fun d => d.parameters.length) = some 0 := by decide +kernel
theorem mmX6_init : CWd yX6_init cX6_init 1 none 0 := ⟨mI_BoxedPapers_Text, mK_X6_init, hdX6_init⟩
theorem mL_X7_41 : Cond.methodLink RX7 41 yX6_init ∈ TT := TT_1 147 rfl rfl
theorem mJ_X7_46 : Cond.classLink RX7 46 RX2 ∈ TT := TT_1 170 rfl rfl
theorem mN_X2 : Cond.instantiable RX2 3 ∈ TT := TT_1 171 rfl rfl
theorem mK_X2_init : Cond.code yX2_init cX2_init 1 none ∈ TT := TT_1 174 rfl rfl
theorem mM_X2_init : Cond.instanceMethod yX2_init ∈ TT := TT_1 173 rfl rfl
theorem hdX2_init : yX2_init.cls ≠ "java/lang/invoke/MethodHandle" ∧ yX2_init.cls ≠ "java/lang/invoke/VarHandle" ∧ (parseMethodDescriptor yX2_init.desc).map (fun d => d.parameters.length) = some 0 := by decide +kernel
theorem mmX2_init : CWd yX2_init cX2_init 1 none 0 := ⟨mI_BoxedPapers_Page, mK_X2_init, hdX2_init⟩
theorem mL_X7_48 : Cond.methodLink RX7 48 yX2_init ∈ TT := TT_1 172 rfl rfl
theorem mL_X8_1 : Cond.methodLink RX8 1 objectInit ∈ TT := TT_4 180 rfl rfl
theorem mS_max : Cond.static Lib.Math.max.name ∈ TT := TT_1 38 rfl rfl
theorem mI_java_lang_Math : Cond.initialized "java/lang/Math" ∈ TT := TT_1 4 rfl rfl
theorem mK_max : Cond.code Lib.Math.max.name Lib.Math.max.code 2 (some .int) ∈ TT := TT_1 39 rfl rfl
theorem mm_max : Cond.static Lib.Math.max.name ∈ TT ∧ Cond.initialized "java/lang/Math" ∈ TT ∧ Cond.code Lib.Math.max.name Lib.Math.max.code 2 (some .int) ∈ TT := ⟨mS_max, mI_java_lang_Math, mK_max⟩
theorem mS_min : Cond.static Lib.Math.min.name ∈ TT := TT_2 189 rfl rfl
theorem mK_min : Cond.code Lib.Math.min.name Lib.Math.min.code 2 (some .int) ∈ TT := TT_2 190 rfl rfl
theorem mm_min : Cond.static Lib.Math.min.name ∈ TT ∧ Cond.initialized "java/lang/Math" ∈ TT ∧ Cond.code Lib.Math.min.name Lib.Math.min.code 2 (some .int) ∈ TT := ⟨mS_min, mI_java_lang_Math, mK_min⟩
theorem mN_copy : Cond.native arraycopyName ∈ TT := TT_3 1 rfl rfl
theorem mS_copy : Cond.static arraycopyName ∈ TT := TT_3 0 rfl rfl
theorem mI_java_lang_System : Cond.initialized "java/lang/System" ∈ TT := TT_1 15 rfl rfl
theorem mm_copy : Cond.native arraycopyName ∈ TT ∧ Cond.static arraycopyName ∈ TT ∧ Cond.initialized "java/lang/System" ∈ TT := ⟨mN_copy, mS_copy, mI_java_lang_System⟩
