/-! the history: nine snapshots behind an array of references -/
/-- more cells beside: what a method doesn't name stays -/
theorem CT.frame {l : Launch} {D : va_G} {cI : ClassId} {cS : GS} {y : MethodName} {cc : ByteArray} {nL : Nat} {rt : Option FieldType} {rm : Room} {av : List Value} {v : Option Value} {ds es ds' es' : List va_W} (fr : va_W) (h : CT l D cI cS y cc nL rt rm av ds v es) (hd : (ds.flatten ++ fr).Perm ds'.flatten) (he : (es.flatten ++ fr).Perm es'.flatten) : CT l D cI cS y cc nL rt rm av ds' v es' := by
  intro sz p e ha hc hk s m args below hf happ hP hK
  obtain ⟨hav, hsz, hP, hKK, hD, hE⟩ := hP
  subst hsz
  have hP' := cs_P hd.symm hP
  have hD' := cs_Dp hd.symm (hD.self (sz := s.heap.size))
  have hF : ∀ q, va_A ds.flatten s.heap.size q → va_A ds'.flatten s.heap.size q := by
    intro q hq
    rcases hq with ⟨k, x, hk⟩ | h
    · obtain ⟨j, hj⟩ := List.getElem?_of_mem (hd.mem_iff.mp (List.mem_append_left _ (List.mem_of_getElem? hk)))
      exact Or.inl ⟨j, x, hj⟩
    · exact Or.inr h
  have hDs : va_D (fun _ => True) ds.flatten := by
    have h1 := (cs_nd.mp hD').1
    rw [List.map_append, List.nodup_append] at h1
    exact cs_nd.mpr ⟨h1.1, fun _ _ => trivial⟩
  obtain ⟨n, o, h1, h2, h3, ⟨⟨ho, hP1, hD1⟩, hz, hkp⟩, L, h4, h5⟩ := h s.heap.size p e ha hc hk s m args below hf happ ⟨hav, rfl, cs_mem.mpr (fun q hq => cs_mem.mp hP' q (List.mem_append_left _ hq)), hKK, hDs, hE.go hF (fun _ _ _ => rfl) (Vm.Alike.refl _)⟩ hK
  obtain ⟨jP, jD⟩ := cs_join hP' hD' hP1 hD1 hF (fun q hq hA => hkp q hq hA)
  exact ⟨n, o, h1, h2, h3, ⟨⟨ho, cs_P he jP, cs_Dp he jD⟩, hz, fun q hq hA => hkp q hq (fun z => hA (hF q z))⟩, L, h4, fun q hq => hF _ (h5 q hq)⟩
def snc (cI : ClassId) (as : Nat → Nat → Nat) (V : Nat → Sn) (j : Nat) : va_W := [oX5 (as j) (as (100 + j)) (V j).2.2.1 (V j).2.2.2.1 (V j).2.2.2.2, ar cI (as j 1) 8 (V j).1, cR cI (as (100 + j)) 40 (V j).2.1].flatten
theorem cSn_eq (cI : ClassId) (as : Nat → Nat → Nat) (V : Nat → Sn) (L : List Nat) : cSn cI as V L = L.flatMap (snc cI as V) := rfl
/-- the snapshot j out of all -/
theorem cSn_pick (cI : ClassId) (as : Nat → Nat → Nat) (V : Nat → Sn) {j : Nat} (hj : j < 9) : (cSn cI as V (List.range 9)).Perm (snc cI as V j ++ ((List.range 9).erase j).flatMap (snc cI as V)) := by
  rw [cSn_eq]
  exact (List.perm_cons_erase (List.mem_range.mpr hj)).flatMap_right _
theorem cSn_rest (cI : ClassId) (as : Nat → Nat → Nat) (V : Nat → Sn) (j : Nat) (v : Sn) : ((List.range 9).erase j).flatMap (snc cI as (va_up V j v)) = ((List.range 9).erase j).flatMap (snc cI as V) := by
  have h : ∀ k ∈ (List.range 9).erase j, snc cI as (va_up V j v) k = snc cI as V k := by
    intro k hk
    have hne : k ≠ j := fun e => by
      subst e
      exact List.Nodup.not_mem_erase List.nodup_range hk
    unfold snc
    rw [va_up_ne V v hne]
  rw [List.flatMap_def, List.flatMap_def, List.map_congr_left h]
def slc (cS : GS) (a : Nat) (as : Nat → Nat → Nat) : va_W := [(a, .inl (cS.1, 9, .inr (.inr (.inr (.inr (fun j => if j < 9 then some (as j 0) else none))))))]
def rmX1_topSlot : Room := { frames := 0, cells := 0, slots := 0, locals := 0 }
set_option maxRecDepth 100000 in
set_option maxHeartbeats 4000000 in
theorem tX1_topSlot {l : Launch} {D : va_G} {cI : ClassId} {cS : GS} {a : Nat → Nat} {as : Nat → Nat → Nat} {g_steps : Int32} {j : Nat} (hj : j < 9) : CT l D cI cS yX1_topSlot cX1_topSlot 1 (some (.object "BoxedPapers$Snapshot")) rmX1_topSlot [.ref (a 0)] [oX1 a (nI j) g_steps, slc cS (a 1) as] (some (.ref (as j 0))) [oX1 a (nI j) g_steps, slc cS (a 1) as] := by
  refine CT.of RX1 (by decide) rfl (Nat.le_of_ble_eq_true rfl) (fun p e s m below meth c ls A C hA hl hw => ?_)
  have hx := C.1.1
  have hb := C.1.2.1
  have hl : lv_has ls 1 [(0, .ref (a 0))] := hl
  refine lv_aload_n hx hb dX1_topSlot_0 rfl (lv_at hl 0 rfl) ?_
  refine k_get C inT_X1 hw 0 rfl rfl 1 (by decide) mF_X1_18 rfl dX1_topSlot_1 ?_
  refine lv_if_lt (tgt := 31) hx hb dX1_topSlot_4 (by decide) (fun c1 => absurd c1 (nI_pos (by omega))) (fun c1 => ?_)
  refine lv_aload_n hx hb dX1_topSlot_7 rfl (lv_at hl 0 rfl) ?_
  refine k_get C inT_X1 hw 0 rfl rfl 1 (by decide) mF_X1_18 rfl dX1_topSlot_8 ?_
  refine lv_aload_n hx hb dX1_topSlot_11 rfl (lv_at hl 0 rfl) ?_
  refine k_get C inT_X1 hw 0 rfl rfl 0 (by decide) mF_X1_11 rfl dX1_topSlot_12 ?_
  refine va_alen hx hb C.2.2.2.1.1 hw.1 1 1 rfl rfl (v := nI 9) rfl dX1_topSlot_15 ?_
  refine lv_icmp_ge (tgt := 31) hx hb dX1_topSlot_16 (by decide) (fun c2 => absurd c2 (nI_ge hj (by omega))) (fun c2 => ?_)
  refine lv_aload_n hx hb dX1_topSlot_19 rfl (lv_at hl 0 rfl) ?_
  refine k_get C inT_X1 hw 0 rfl rfl 0 (by decide) mF_X1_11 rfl dX1_topSlot_20 ?_
  refine lv_aload_n hx hb dX1_topSlot_23 rfl (lv_at hl 0 rfl) ?_
  refine k_get C inT_X1 hw 0 rfl rfl 1 (by decide) mF_X1_18 rfl dX1_topSlot_24 ?_
  refine va_aldq hx hb C.2.2.2.1.1 hw.1 1 1 rfl rfl (vp_in_nI hj (by omega)) dX1_topSlot_27 ?_
  rw [nI_clamp (show j < 2 ^ 31 by omega), if_pos hj]
  refine lv_goto (tgt := 32) hx hb dX1_topSlot_28 (by decide) ?_
  exact k_aret C (Or.inr ⟨_, rfl⟩) hw dX1_topSlot_32
def rmX1_remember : Room := { frames := 3, cells := 0, slots := 0, locals := 69 }
set_option maxRecDepth 100000 in
set_option maxHeartbeats 4000000 in
theorem tX1_remember_j {l : Launch} {D : va_G} {cI : ClassId} {cS : GS} {a : Nat → Nat} {a_slots : Nat → Nat → Nat} {a_p1 a_p1_series a_p1_pieces a_p1_trial a_p1_moves : Nat → Nat} {g_steps : Int32} {g_p1_rooms : Nat → Int32} {g_p1_day : Int32} {v_p1_series : Rg} {v_p1_pieces : Rg} {v_p1_moves : Rg} {g_slots : Nat → Sn} {j : Nat} (hj : j < 9) {s0 : Nat → Int32} {s1 : Int32} {s2 : Int32} {s3 : Int32} {s4 : Rg} (h : fX0_saveTo g_p1_rooms g_p1_day v_p1_series v_p1_pieces v_p1_moves (g_slots j).1 (g_slots j).2.2.1 (g_slots j).2.2.2.1 (g_slots j).2.2.2.2 (g_slots j).2.1 = some (s0, s1, s2, s3, s4)) : CT l D cI cS yX1_remember cX1_remember 3 none rmX1_remember [.ref (a 0), .ref (a_p1 0)] [oX1 a (nI j) g_steps, slc cS (a 1) a_slots, oX0 a_p1 a_p1_series a_p1_pieces a_p1_trial a_p1_moves g_p1_day, ar cI (a_p1 2) 8 g_p1_rooms, cR cI a_p1_series 10 v_p1_series, cR cI a_p1_pieces 42 v_p1_pieces, cR cI a_p1_moves 100 v_p1_moves, oX5 (a_slots j) (a_slots (100 + j)) (g_slots j).2.2.1 (g_slots j).2.2.2.1 (g_slots j).2.2.2.2, ar cI (a_slots j 1) 8 (g_slots j).1, cR cI (a_slots (100 + j)) 40 (g_slots j).2.1] none [oX1 a (nI j) g_steps, slc cS (a 1) a_slots, oX0 a_p1 a_p1_series a_p1_pieces a_p1_trial a_p1_moves g_p1_day, ar cI (a_p1 2) 8 g_p1_rooms, cR cI a_p1_series 10 v_p1_series, cR cI a_p1_pieces 42 v_p1_pieces, cR cI a_p1_moves 100 v_p1_moves, oX5 (a_slots j) (a_slots (100 + j)) s1 s2 s3, ar cI (a_slots j 1) 8 s0, cR cI (a_slots (100 + j)) 40 s4] := by
  refine CT.of RX1 (by decide) rfl (Nat.le_of_ble_eq_true rfl) (fun p e s m below meth c ls A C hA hl hw => ?_)
  have hx := C.1.1
  have hb := C.1.2.1
  have hl : lv_has ls 3 [(0, .ref (a 0)), (1, .ref (a_p1 0))] := hl
  refine lv_aload_n hx hb dX1_remember_0 rfl (lv_at hl 0 rfl) ?_
  refine k_callV (nC := 10) [oX1 a (nI j) g_steps, slc cS (a 1) a_slots, oX0 a_p1 a_p1_series a_p1_pieces a_p1_trial a_p1_moves g_p1_day, ar cI (a_p1 2) 8 g_p1_rooms, cR cI a_p1_series 10 v_p1_series, cR cI a_p1_pieces 42 v_p1_pieces, cR cI a_p1_moves 100 v_p1_moves, oX5 (a_slots j) (a_slots (100 + j)) (g_slots j).2.2.1 (g_slots j).2.2.2.1 (g_slots j).2.2.2.2, ar cI (a_slots j 1) 8 (g_slots j).1, cR cI (a_slots (100 + j)) 40 (g_slots j).2.1] C hl.1 (tX1_topSlot (a := a) (as := a_slots) hj) mL_X1_25 mmX1_topSlot rfl rfl ⟨Nat.le_of_ble_eq_true rfl, Nat.le_of_ble_eq_true rfl⟩ rfl rfl rfl rfl (Nat.le_of_ble_eq_true rfl) hA hw [0, 1] [2, 3, 4, 5, 6, 7, 8, 9] rfl (by decide +kernel) rfl rfl rfl rfl dX1_remember_1 (fun H locs hw1 => ?_)
  refine lv_astore_n (lv' := [(2, .ref (a_slots j 0)), (0, .ref (a 0)), (1, .ref (a_p1 0))]) hx hb dX1_remember_4 rfl hl (by decide) rfl (fun ls hl => ?_)
  refine lv_aload_n hx hb dX1_remember_5 rfl (lv_at hl 0 rfl) ?_
  refine lv_ifnull hx hb dX1_remember_6 ?_
  refine lv_aload_n hx hb dX1_remember_9 rfl (lv_at hl 2 rfl) ?_
  refine lv_aload_n hx hb dX1_remember_10 rfl (lv_at hl 0 rfl) ?_
  refine k_callV (nC := 10) [oX1 a (nI j) g_steps, slc cS (a 1) a_slots, oX0 a_p1 a_p1_series a_p1_pieces a_p1_trial a_p1_moves g_p1_day, ar cI (a_p1 2) 8 g_p1_rooms, cR cI a_p1_series 10 v_p1_series, cR cI a_p1_pieces 42 v_p1_pieces, cR cI a_p1_moves 100 v_p1_moves, oX5 (a_slots j) (a_slots (100 + j)) s1 s2 s3, ar cI (a_slots j 1) 8 s0, cR cI (a_slots (100 + j)) 40 s4] C hl.1 (tX0_saveTo (a := a_p1) (a_series := a_p1_series) (a_pieces := a_p1_pieces) (a_trial := a_p1_trial) (a_moves := a_p1_moves) (a_p1 := a_slots j) (a_p1_pieces := a_slots (100 + j)) h) mL_X1_29 mmX0_saveTo rfl rfl ⟨Nat.le_of_ble_eq_true rfl, Nat.le_of_ble_eq_true rfl⟩ rfl rfl rfl rfl (Nat.le_of_ble_eq_true rfl) hA hw1 [2, 3, 4, 5, 6, 7, 8, 9] [0, 1] rfl (by decide +kernel) rfl rfl rfl rfl dX1_remember_11 (fun H locs hw2 => ?_)
  exact k_vret C hw2 dX1_remember_14
def rmX1_giveBack : Room := { frames := 3, cells := 0, slots := 0, locals := 69 }
set_option maxRecDepth 100000 in
set_option maxHeartbeats 4000000 in
theorem tX1_giveBack_j {l : Launch} {D : va_G} {cI : ClassId} {cS : GS} {a : Nat → Nat} {a_slots : Nat → Nat → Nat} {a_p1 a_p1_series a_p1_pieces a_p1_trial a_p1_moves : Nat → Nat} {g_steps : Int32} {g_p1_rooms : Nat → Int32} {g_p1_day : Int32} {v_p1_series : Rg} {v_p1_pieces : Rg} {v_p1_moves : Rg} {g_slots : Nat → Sn} {j : Nat} (hj : j < 9) {s0 : Nat → Int32} {s1 : Int32} {s2 : Rg} {s3 : Rg} {s4 : Rg} (h : fX0_restoreFrom g_p1_rooms g_p1_day v_p1_series v_p1_pieces v_p1_moves (g_slots j).1 (g_slots j).2.2.1 (g_slots j).2.2.2.1 (g_slots j).2.2.2.2 (g_slots j).2.1 = some (s0, s1, s2, s3, s4)) : CT l D cI cS yX1_giveBack cX1_giveBack 3 none rmX1_giveBack [.ref (a 0), .ref (a_p1 0)] [oX1 a (nI j) g_steps, slc cS (a 1) a_slots, oX0 a_p1 a_p1_series a_p1_pieces a_p1_trial a_p1_moves g_p1_day, ar cI (a_p1 2) 8 g_p1_rooms, cR cI a_p1_series 10 v_p1_series, cR cI a_p1_pieces 42 v_p1_pieces, cR cI a_p1_moves 100 v_p1_moves, oX5 (a_slots j) (a_slots (100 + j)) (g_slots j).2.2.1 (g_slots j).2.2.2.1 (g_slots j).2.2.2.2, ar cI (a_slots j 1) 8 (g_slots j).1, cR cI (a_slots (100 + j)) 40 (g_slots j).2.1] none [oX1 a (nI j) g_steps, slc cS (a 1) a_slots, oX0 a_p1 a_p1_series a_p1_pieces a_p1_trial a_p1_moves s1, ar cI (a_p1 2) 8 s0, cR cI a_p1_series 10 s2, cR cI a_p1_pieces 42 s3, cR cI a_p1_moves 100 s4, oX5 (a_slots j) (a_slots (100 + j)) (g_slots j).2.2.1 (g_slots j).2.2.2.1 (g_slots j).2.2.2.2, ar cI (a_slots j 1) 8 (g_slots j).1, cR cI (a_slots (100 + j)) 40 (g_slots j).2.1] := by
  refine CT.of RX1 (by decide) rfl (Nat.le_of_ble_eq_true rfl) (fun p e s m below meth c ls A C hA hl hw => ?_)
  have hx := C.1.1
  have hb := C.1.2.1
  have hl : lv_has ls 3 [(0, .ref (a 0)), (1, .ref (a_p1 0))] := hl
  refine lv_aload_n hx hb dX1_giveBack_0 rfl (lv_at hl 0 rfl) ?_
  refine k_callV (nC := 10) [oX1 a (nI j) g_steps, slc cS (a 1) a_slots, oX0 a_p1 a_p1_series a_p1_pieces a_p1_trial a_p1_moves g_p1_day, ar cI (a_p1 2) 8 g_p1_rooms, cR cI a_p1_series 10 v_p1_series, cR cI a_p1_pieces 42 v_p1_pieces, cR cI a_p1_moves 100 v_p1_moves, oX5 (a_slots j) (a_slots (100 + j)) (g_slots j).2.2.1 (g_slots j).2.2.2.1 (g_slots j).2.2.2.2, ar cI (a_slots j 1) 8 (g_slots j).1, cR cI (a_slots (100 + j)) 40 (g_slots j).2.1] C hl.1 (tX1_topSlot (a := a) (as := a_slots) hj) mL_X1_25 mmX1_topSlot rfl rfl ⟨Nat.le_of_ble_eq_true rfl, Nat.le_of_ble_eq_true rfl⟩ rfl rfl rfl rfl (Nat.le_of_ble_eq_true rfl) hA hw [0, 1] [2, 3, 4, 5, 6, 7, 8, 9] rfl (by decide +kernel) rfl rfl rfl rfl dX1_giveBack_1 (fun H locs hw1 => ?_)
  refine lv_astore_n (lv' := [(2, .ref (a_slots j 0)), (0, .ref (a 0)), (1, .ref (a_p1 0))]) hx hb dX1_giveBack_4 rfl hl (by decide) rfl (fun ls hl => ?_)
  refine lv_aload_n hx hb dX1_giveBack_5 rfl (lv_at hl 0 rfl) ?_
  refine lv_ifnull hx hb dX1_giveBack_6 ?_
  refine lv_aload_n hx hb dX1_giveBack_9 rfl (lv_at hl 2 rfl) ?_
  refine lv_aload_n hx hb dX1_giveBack_10 rfl (lv_at hl 0 rfl) ?_
  refine k_callV (nC := 10) [oX1 a (nI j) g_steps, slc cS (a 1) a_slots, oX0 a_p1 a_p1_series a_p1_pieces a_p1_trial a_p1_moves s1, ar cI (a_p1 2) 8 s0, cR cI a_p1_series 10 s2, cR cI a_p1_pieces 42 s3, cR cI a_p1_moves 100 s4, oX5 (a_slots j) (a_slots (100 + j)) (g_slots j).2.2.1 (g_slots j).2.2.2.1 (g_slots j).2.2.2.2, ar cI (a_slots j 1) 8 (g_slots j).1, cR cI (a_slots (100 + j)) 40 (g_slots j).2.1] C hl.1 (tX0_restoreFrom (a := a_p1) (a_series := a_p1_series) (a_pieces := a_p1_pieces) (a_trial := a_p1_trial) (a_moves := a_p1_moves) (a_p1 := a_slots j) (a_p1_pieces := a_slots (100 + j)) h) mL_X1_35 mmX0_restoreFrom rfl rfl ⟨Nat.le_of_ble_eq_true rfl, Nat.le_of_ble_eq_true rfl⟩ rfl rfl rfl rfl (Nat.le_of_ble_eq_true rfl) hA hw1 [2, 3, 4, 5, 6, 7, 8, 9] [0, 1] rfl (by decide +kernel) rfl rfl rfl rfl dX1_giveBack_11 (fun H locs hw2 => ?_)
  exact k_vret C hw2 dX1_giveBack_14
def fX1_remember (g_slots : Nat → Sn) (g_top : Int32) (g_p1_rooms : Nat → Int32) (g_p1_day : Int32) (v_p1_series : Rg) (v_p1_pieces : Rg) (v_p1_moves : Rg) : Option (Nat → Sn) :=
  if g_top < 0 ∨ 9 ≤ g_top.toNatClampNeg then none
  else (fX0_saveTo g_p1_rooms g_p1_day v_p1_series v_p1_pieces v_p1_moves (g_slots g_top.toNatClampNeg).1 (g_slots g_top.toNatClampNeg).2.2.1 (g_slots g_top.toNatClampNeg).2.2.2.1 (g_slots g_top.toNatClampNeg).2.2.2.2 (g_slots g_top.toNatClampNeg).2.1).bind fun r => some (va_up g_slots g_top.toNatClampNeg (r.1, r.2.2.2.2, r.2.1, r.2.2.1, r.2.2.2.1))
def fX1_giveBack (g_slots : Nat → Sn) (g_top : Int32) (g_p1_rooms : Nat → Int32) (g_p1_day : Int32) (v_p1_series : Rg) (v_p1_pieces : Rg) (v_p1_moves : Rg) : Option ((Nat → Int32) × Int32 × Rg × Rg × Rg) :=
  if g_top < 0 ∨ 9 ≤ g_top.toNatClampNeg then none
  else fX0_restoreFrom g_p1_rooms g_p1_day v_p1_series v_p1_pieces v_p1_moves (g_slots g_top.toNatClampNeg).1 (g_slots g_top.toNatClampNeg).2.2.1 (g_slots g_top.toNatClampNeg).2.2.2.1 (g_slots g_top.toNatClampNeg).2.2.2.2 (g_slots g_top.toNatClampNeg).2.1
theorem hs_top {x : Int32} (h : ¬ (x < 0 ∨ 9 ≤ x.toNatClampNeg)) : ∃ j : Nat, j < 9 ∧ x = nI j ∧ x.toNatClampNeg = j := by
  obtain ⟨j, hj, rfl⟩ := vp_in_of (n := 9) h (by omega)
  exact ⟨j, hj, rfl, nI_clamp (by omega)⟩
/-- the order of the chunks: the snapshot j in front, then those beside it -/
theorem hs_perm {o1 : va_W} {q : Nat × va_E} {x0 x1 x2 x3 x4 y0 y1 y2 rest all : va_W} (h : all.Perm ([y0, y1, y2].flatten ++ rest)) : ([o1, [q], x0, x1, x2, x3, x4, y0, y1, y2].flatten ++ rest).Perm [o1, q :: all, x0, x1, x2, x3, x4].flatten := by
  simp only [List.flatten_cons, List.flatten_nil, List.append_nil, List.append_assoc, List.cons_append, List.nil_append] at h ⊢
  refine List.Perm.append_left _ (List.Perm.cons _ ?_)
  have e := @List.perm_append_comm _ (x0 ++ (x1 ++ (x2 ++ (x3 ++ x4)))) (y0 ++ (y1 ++ (y2 ++ rest)))
  simp only [List.append_assoc] at e
  refine e.trans ?_
  have e2 := h.symm.append_right (x0 ++ (x1 ++ (x2 ++ (x3 ++ x4))))
  simp only [List.append_assoc] at e2
  exact e2
set_option maxRecDepth 100000 in
theorem tX1_remember {l : Launch} {D : va_G} {cI : ClassId} {cS : GS} {a : Nat → Nat} {a_slots : Nat → Nat → Nat} {a_p1 a_p1_series a_p1_pieces a_p1_trial a_p1_moves : Nat → Nat} {g_slots : Nat → Sn} {g_top : Int32} {g_steps : Int32} {g_p1_rooms : Nat → Int32} {g_p1_day : Int32} {v_p1_series : Rg} {v_p1_pieces : Rg} {v_p1_moves : Rg} {s0 : Nat → Sn} (h : fX1_remember g_slots g_top g_p1_rooms g_p1_day v_p1_series v_p1_pieces v_p1_moves = some s0) : CT l D cI cS yX1_remember cX1_remember 3 none rmX1_remember [.ref (a 0), .ref (a_p1 0)] [oX1 a g_top g_steps, cSl cI cS (a 1) a_slots g_slots, oX0 a_p1 a_p1_series a_p1_pieces a_p1_trial a_p1_moves g_p1_day, ar cI (a_p1 2) 8 g_p1_rooms, cR cI a_p1_series 10 v_p1_series, cR cI a_p1_pieces 42 v_p1_pieces, cR cI a_p1_moves 100 v_p1_moves] none [oX1 a g_top g_steps, cSl cI cS (a 1) a_slots s0, oX0 a_p1 a_p1_series a_p1_pieces a_p1_trial a_p1_moves g_p1_day, ar cI (a_p1 2) 8 g_p1_rooms, cR cI a_p1_series 10 v_p1_series, cR cI a_p1_pieces 42 v_p1_pieces, cR cI a_p1_moves 100 v_p1_moves] := by
  unfold fX1_remember at h
  split at h
  · cases h
  · rename_i c
    obtain ⟨j, hj, rfl, ej⟩ := hs_top c
    rw [ej] at h
    obtain ⟨r, q, h⟩ := bd h
    cases h
    refine CT.frame (((List.range 9).erase j).flatMap (snc cI a_slots g_slots)) (tX1_remember_j (a := a) (a_slots := a_slots) (a_p1 := a_p1) (a_p1_series := a_p1_series) (a_p1_pieces := a_p1_pieces) (a_p1_trial := a_p1_trial) (a_p1_moves := a_p1_moves) (g_steps := g_steps) (g_slots := g_slots) hj q) ?_ ?_
    · exact hs_perm (cSn_pick cI a_slots g_slots hj)
    · have e := cSn_pick cI a_slots (va_up g_slots j (r.1, r.2.2.2.2, r.2.1, r.2.2.1, r.2.2.2.1)) hj
      rw [cSn_rest] at e
      have e2 : snc cI a_slots (va_up g_slots j (r.1, r.2.2.2.2, r.2.1, r.2.2.1, r.2.2.2.1)) j = [oX5 (a_slots j) (a_slots (100 + j)) r.2.1 r.2.2.1 r.2.2.2.1, ar cI (a_slots j 1) 8 r.1, cR cI (a_slots (100 + j)) 40 r.2.2.2.2].flatten := by
        unfold snc
        rw [va_up_self]
      rw [e2] at e
      exact hs_perm e
set_option maxRecDepth 100000 in
theorem tX1_giveBack {l : Launch} {D : va_G} {cI : ClassId} {cS : GS} {a : Nat → Nat} {a_slots : Nat → Nat → Nat} {a_p1 a_p1_series a_p1_pieces a_p1_trial a_p1_moves : Nat → Nat} {g_slots : Nat → Sn} {g_top : Int32} {g_steps : Int32} {g_p1_rooms : Nat → Int32} {g_p1_day : Int32} {v_p1_series : Rg} {v_p1_pieces : Rg} {v_p1_moves : Rg} {s0 : Nat → Int32} {s1 : Int32} {s2 : Rg} {s3 : Rg} {s4 : Rg} (h : fX1_giveBack g_slots g_top g_p1_rooms g_p1_day v_p1_series v_p1_pieces v_p1_moves = some (s0, s1, s2, s3, s4)) : CT l D cI cS yX1_giveBack cX1_giveBack 3 none rmX1_giveBack [.ref (a 0), .ref (a_p1 0)] [oX1 a g_top g_steps, cSl cI cS (a 1) a_slots g_slots, oX0 a_p1 a_p1_series a_p1_pieces a_p1_trial a_p1_moves g_p1_day, ar cI (a_p1 2) 8 g_p1_rooms, cR cI a_p1_series 10 v_p1_series, cR cI a_p1_pieces 42 v_p1_pieces, cR cI a_p1_moves 100 v_p1_moves] none [oX1 a g_top g_steps, cSl cI cS (a 1) a_slots g_slots, oX0 a_p1 a_p1_series a_p1_pieces a_p1_trial a_p1_moves s1, ar cI (a_p1 2) 8 s0, cR cI a_p1_series 10 s2, cR cI a_p1_pieces 42 s3, cR cI a_p1_moves 100 s4] := by
  unfold fX1_giveBack at h
  split at h
  · cases h
  · rename_i c
    obtain ⟨j, hj, rfl, ej⟩ := hs_top c
    rw [ej] at h
    refine CT.frame (((List.range 9).erase j).flatMap (snc cI a_slots g_slots)) (tX1_giveBack_j (a := a) (a_slots := a_slots) (a_p1 := a_p1) (a_p1_series := a_p1_series) (a_p1_pieces := a_p1_pieces) (a_p1_trial := a_p1_trial) (a_p1_moves := a_p1_moves) (g_steps := g_steps) (g_slots := g_slots) hj h) ?_ ?_
    · exact hs_perm (cSn_pick cI a_slots g_slots hj)
    · exact hs_perm (cSn_pick cI a_slots g_slots hj)
