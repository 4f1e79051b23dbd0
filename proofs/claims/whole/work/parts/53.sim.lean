/-! pass, room, series, undo -/
theorem isS_ext {g g' : Nat → Int32} {l : List Tr} (h : isS g l) (e : ∀ k, k = 0 ∨ (4 ≤ k ∧ k < 34) → g' k = g k) : isS g' l := by
  have h1 := h.1
  refine ⟨h1, by rw [e _ (by omega)]; exact h.2.1, fun i hi => ?_⟩
  rw [e _ (by omega), e _ (by omega), e _ (by omega)]
  exact h.2.2 i hi
theorem isP_ext {g g' : Nat → Int32} {l : List Tr} (h : isP g l) (e : ∀ k, k = 1 ∨ (42 ≤ k ∧ k < 162) → g' k = g k) : isP g' l := by
  have h1 := h.1
  refine ⟨h1, by rw [e _ (by omega)]; exact h.2.1, fun i hi => ?_⟩
  rw [e _ (by omega), e _ (by omega), e _ (by omega)]
  exact h.2.2 i hi
theorem isM_ext {g g' : Nat → Int32} {l : List (Int32 × Tr)} (h : isM g l) (e : ∀ k, k = 2 ∨ (162 ≤ k ∧ k < 562) → g' k = g k) : isM g' l := by
  have h1 := h.1
  refine ⟨h1, by rw [e _ (by omega)]; exact h.2.1, fun i hi => ?_⟩
  rw [e _ (by omega), e _ (by omega), e _ (by omega), e _ (by omega)]
  exact h.2.2 i hi
theorem modA_day {A : AS} {g : Nat → Int32} (h : modA A g) (d : Int32) : modA (A.1, A.2.1, A.2.2.1, A.2.2.2.1, d) (upd g 3 d) := by
  obtain ⟨hS, hP, hM, hR, hD⟩ := h
  exact ⟨isS_ext hS (fun k hk => pk_un (by omega)), isP_ext hP (fun k hk => pk_un (by omega)), isM_ext hM (fun k hk => pk_un (by omega)), fun j hj => (pk_un (by omega)).trans (hR j hj), pk_us⟩
theorem modA_room {A : AS} {g : Nat → Int32} (h : modA A g) {m : Nat} (hm : m < 8) (r : Int32) : modA (A.1, A.2.1, A.2.2.1, upd A.2.2.2.1 m r, A.2.2.2.2) (upd g (34 + m) r) := by
  obtain ⟨hS, hP, hM, hR, hD⟩ := h
  refine ⟨isS_ext hS (fun k hk => pk_un (by omega)), isP_ext hP (fun k hk => pk_un (by omega)), isM_ext hM (fun k hk => pk_un (by omega)), fun j hj => ?_, (pk_un (by omega)).trans hD⟩
  show upd g (34 + m) r (34 + j) = upd A.2.2.2.1 m r j
  by_cases c : j = m
  · subst c; rw [pk_us, pk_us]
  · rw [pk_un (by omega), pk_un c]; exact hR j hj
theorem modA_ser {A : AS} {g : Nat → Int32} (h : modA A g) (h10 : A.1.length < 10) (p a b : Int32) : modA (A.1 ++ [(p, a, b)], A.2.1, A.2.2.1, A.2.2.2.1, A.2.2.2.2) (upd (upd (upd (upd g (4 + 3 * A.1.length) p) (4 + 3 * A.1.length + 1) a) (4 + 3 * A.1.length + 2) b) 0 (nI (A.1.length + 1))) := by
  obtain ⟨hS, hP, hM, hR, hD⟩ := h
  refine ⟨⟨by rw [List.length_append, List.length_singleton]; omega, by rw [List.length_append, List.length_singleton]; exact pk_us, fun i hi => ?_⟩, isP_ext hP (fun k hk => by rw [pk_un (by omega), pk_un (by omega), pk_un (by omega), pk_un (by omega)]), isM_ext hM (fun k hk => by rw [pk_un (by omega), pk_un (by omega), pk_un (by omega), pk_un (by omega)]), fun j hj => by rw [pk_un (by omega), pk_un (by omega), pk_un (by omega), pk_un (by omega)]; exact hR j hj, by rw [pk_un (by omega), pk_un (by omega), pk_un (by omega), pk_un (by omega)]; exact hD⟩
  rw [List.length_append, List.length_singleton] at hi
  by_cases c : i = A.1.length
  · subst c
    rw [List.getElem_append_right (Nat.le_refl _)]
    simp only [Nat.sub_self, List.getElem_singleton]
    refine ⟨?_, ?_, ?_⟩
    · rw [pk_un (by omega), pk_un (by omega), pk_un (by omega), pk_us]
    · rw [pk_un (by omega), pk_un (by omega), pk_us]
    · rw [pk_un (by omega), pk_us]
  · have hi' : i < A.1.length := by omega
    rw [List.getElem_append_left hi', pk_un (by omega), pk_un (by omega), pk_un (by omega), pk_un (by omega), pk_un (by omega), pk_un (by omega), pk_un (by omega), pk_un (by omega), pk_un (by omega), pk_un (by omega), pk_un (by omega), pk_un (by omega)]
    exact hS.2.2 i hi'
theorem sim_pass {D D' : Int} (h0 : 0 ≤ D) (hD : D + 999 ≤ D') (hD' : D' ≤ 2000000000) : S_pass (RR D) (RR D') := by
  intro c_archive_rooms c_archive_moveDays c_archive_day c_archive_series c_archive_pieces c_archive_trial c_archive_moves c_history_slots c_history_top c_history_steps c_planner_free c_planner_remaining c_planner_gaps c_planner_layings c_rows c_text_bytes c_text_verbs c_text_numbers c_text_length c_text_commandCount c_text_at c_page_signs c_page_length c_page_latest c_draft_signs c_draft_length c_draft_latest d_row d_undos d_list d_listed d_paper d_papers d_text d_length d_beside d_besides d_gapFirst d_gapLast d_laying d_layings d_free d_first d_behind d_numbers d_clauses d_words d_sorts d_shifted d_saved d_draft d_drafts x1 h
  have h : R0 D c_archive_rooms c_archive_moveDays c_archive_day c_archive_series c_archive_pieces c_archive_moves c_history_slots c_history_top c_history_steps c_planner_gaps c_planner_layings c_rows c_text_bytes c_text_length c_page_signs c_page_length d_row d_undos d_list d_listed d_paper d_papers d_text d_length d_words d_sorts := h
  obtain ⟨⟨A, hs, hA, hC, hM, hH⟩, hrest⟩ := h
  obtain ⟨h8, es, eu, t, ht, et⟩ := hist_steps hH
  subst es eu et
  obtain ⟨slots', er, hsn, hse⟩ := remember_ok (slots := c_history_slots) hC hM.2.1.1 ht
  have ed : c_archive_day = A.2.2.2.2 := hC.2.2.2.2.2
  unfold fX7_pass fX8_pass
  rw [er, ob, one64, show (999 : Int64) = (999 : Int32).toInt64 from by decide, e8_in32, ob, i01]
  have hdb := hA.2.2.2.2
  by_cases c : 1 ≤ x1 ∧ x1 ≤ 999
  · have c1 := c.1
    have c2 := c.2
    rw [i32le] at c1 c2
    rw [t1] at c1
    rw [show (999 : Int32).toInt = 999 from rfl] at c2
    have ep : fX0_letPass c_archive_day x1 = some (c_archive_day + x1, c_archive_day + x1) := by
      unfold fX0_letPass
      rw [if_neg (by rw [i32lt, t1]; omega), if_pos c.2]
    obtain ⟨row', ek, hk1, hk2⟩ := keepPast_ok hM hH.b h8
    have hM' := modA_ext hM hk1
    have e3 : ld 5058 row' 3 = some A.2.2.2.2 := by rw [n3, ld58 (by omega), hM'.2.2.2.2]
    have ex : (A.2.2.2.2 + x1).toInt = A.2.2.2.2.toInt + x1.toInt := toI_add (by omega) (by omega)
    have hMd := modA_day hM' (A.2.2.2.2 + x1)
    rw [ep, ob, ed, settle_yes ht h8 (by show 0 ≤ (A.2.2.2.2 + x1).toInt; omega), ob, if_pos c, ek, ob, e3, ob, n3, sv_nI (by omega) (by omega), ob, ld58 (by omega), pk_us]
    refine ⟨_, _, _, _, _, _, _, _, _, _, _, rfl, rfl, ?_⟩
    refine ⟨⟨(A.1, A.2.1, A.2.2.1, A.2.2.2.1, A.2.2.2.2 + x1), _, ⟨hA.1, hA.2.1, hA.2.2.1, hA.2.2.2.1, by show 0 ≤ (A.2.2.2.2 + x1).toInt; omega, by show (A.2.2.2.2 + x1).toInt ≤ D'; omega⟩, ⟨hC.1, hC.2.1, hC.2.2.1, hC.2.2.2.1, hC.2.2.2.2.1, rfl⟩, hMd, hist_yes ht hH hA (by omega) (List.prefix_refl _) (List.prefix_refl _) hse hsn (blk_ext hk2 (fun k hk => pk_un (by omega)))⟩, hrest⟩
  · have ep : fX0_letPass c_archive_day x1 = some (-3, c_archive_day) := by
      unfold fX0_letPass
      by_cases c1 : x1 < 1
      · rw [if_pos c1]
      · rw [if_neg c1, if_neg (fun z => c ⟨by rw [i32le]; rw [i32lt] at c1; omega, z⟩)]
    obtain ⟨a1, a2, a3, a4, a5, e1, hC'⟩ := settle_no (rooms := c_archive_rooms) (day := c_archive_day) (pieces := c_archive_pieces) (steps := nI hs.length) (r := -3) ht (by decide) hsn (clsW_of hC)
    rw [ep, ob, e1, ob, if_neg c]
    refine ⟨_, _, _, _, _, _, _, _, _, _, _, rfl, rfl, ?_⟩
    exact ⟨⟨A, hs, okA_mono hA (by omega), hC', hM, by have := hist_no ht hH hse (fun k _ => rfl); obtain ⟨b1, b2, b3, b4, b5, b6⟩ := this; exact ⟨b1, b2, b3, b4, fun B hB => okA_mono (b5 B hB) (by omega), b6⟩⟩, hrest⟩
theorem load_le {P : List Tr} (hP : okP P) {x : Int32} (hx : 0 ≤ x ∧ x ≤ 7) : (sumI (ov8 x 1 MAX) P).toInt = loadZ x P ∧ sumI (ovl x 1 MAX) P = sumI (ov8 x 1 MAX) P := by
  refine ⟨?_, ov_box hP.1 hx.1 (by decide)⟩
  rw [inBox_Z hP.1 hP.2.1 (bx_100 hx).2, load_Z hP.1]
theorem sim_room {D : Int} : S_room (RR D) (RR D) := by
  intro c_archive_rooms c_archive_moveDays c_archive_day c_archive_series c_archive_pieces c_archive_trial c_archive_moves c_history_slots c_history_top c_history_steps c_planner_free c_planner_remaining c_planner_gaps c_planner_layings c_rows c_text_bytes c_text_verbs c_text_numbers c_text_length c_text_commandCount c_text_at c_page_signs c_page_length c_page_latest c_draft_signs c_draft_length c_draft_latest d_row d_undos d_list d_listed d_paper d_papers d_text d_length d_beside d_besides d_gapFirst d_gapLast d_laying d_layings d_free d_first d_behind d_numbers d_clauses d_words d_sorts d_shifted d_saved d_draft d_drafts x1 x2 h
  have h : R0 D c_archive_rooms c_archive_moveDays c_archive_day c_archive_series c_archive_pieces c_archive_moves c_history_slots c_history_top c_history_steps c_planner_gaps c_planner_layings c_rows c_text_bytes c_text_length c_page_signs c_page_length d_row d_undos d_list d_listed d_paper d_papers d_text d_length d_words d_sorts := h
  obtain ⟨⟨A, hs, hA, hC, hM, hH⟩, hrest⟩ := h
  obtain ⟨h8, es, eu, t, ht, et⟩ := hist_steps hH
  subst es eu et
  obtain ⟨slots', er, hsn, hse⟩ := remember_ok (slots := c_history_slots) hC hM.2.1.1 ht
  have no : ∀ r : Int32, r.toInt < 0 → fX0_setRoom c_archive_rooms c_archive_pieces x1 x2 = some (r, c_archive_rooms) → fX8_room d_row (nI hs.length) x1 x2 = some (r, d_row, nI hs.length) → ∃ (r : Int32) (s1 : Nat → Int32) (s2 : Int32) (s3 : Rg) (s4 : Rg) (s5 : Rg) (s6 : Nat → Sn) (s7 : Int32) (s8 : Int32) (t1 : Nat → Int32) (t2 : Int32), fX7_room c_archive_rooms c_archive_day c_archive_series c_archive_pieces c_archive_moves c_history_slots (nI t) (nI hs.length) x1 x2 = some (r, s1, s2, s3, s4, s5, s6, s7, s8) ∧ fX8_room d_row (nI hs.length) x1 x2 = some (r, t1, t2) ∧ R0 D s1 c_archive_moveDays s2 s3 s4 s5 s6 s7 s8 c_planner_gaps c_planner_layings c_rows c_text_bytes c_text_length c_page_signs c_page_length t1 t2 d_list d_listed d_paper d_papers d_text d_length d_words d_sorts := by
    intro r hr e1 e2
    obtain ⟨a1, a2, a3, a4, a5, e3, hC'⟩ := settle_no (rooms := c_archive_rooms) (day := c_archive_day) (pieces := c_archive_pieces) (steps := nI hs.length) ht hr hsn (clsW_of hC)
    unfold fX7_room
    rw [er, ob, e1, ob, e3, e2]
    exact ⟨_, _, _, _, _, _, _, _, _, _, _, rfl, rfl, ⟨A, hs, hA, hC', hM, hist_no ht hH hse (fun k _ => rfl)⟩, hrest⟩
  have e8 : fX8_room d_row (nI hs.length) x1 x2 = if 0 ≤ x1 ∧ x1 ≤ 7 then (if 0 ≤ x2 ∧ x2 ≤ MAX then (if sumI (ov8 x1 1 MAX) A.2.1 ≤ x2 then (fX8_keepPast d_row (nI hs.length)).bind fun r38 => (ld 5058 r38.1 (34 + x1)).bind fun y49 => (fX8_rooms r38.1 x1 x2).bind fun r54 => some (y49, r54, r38.2) else some (-4, d_row, nI hs.length)) else some (-3, d_row, nI hs.length)) else some (-2, d_row, nI hs.length) := by
    unfold fX8_room
    rw [e8_isBox, ob, i01, zero64, max64, e8_in32, ob, i01, e8_load hM.2.1, ob]
  by_cases c : 0 ≤ x1 ∧ x1 ≤ 7
  · have hl := load_le hA.2.1 c
    rw [if_pos c] at e8
    have e7 : fX0_setRoom c_archive_rooms c_archive_pieces x1 x2 = if 0 ≤ x2 ∧ x2 ≤ MAX then (if sumI (ov8 x1 1 MAX) A.2.1 ≤ x2 then (ld 8 c_archive_rooms x1).bind fun y40 => (sv 8 c_archive_rooms x1 x2).bind fun g48 => some (y40, g48) else some (-4, c_archive_rooms)) else some (-3, c_archive_rooms) := by
      unfold fX0_setRoom
      rw [e7_isBox, ob, i01, if_pos c, e_loadOf hC.2.1, ob, hl.2]
      by_cases z1 : x2 < 0
      · rw [if_pos z1, if_neg (fun z => by have := z.1; rw [i32le] at this; rw [i32lt] at z1; omega)]
      · rw [if_neg z1]
        by_cases z2 : x2 ≤ MAX
        · rw [if_pos (show x2 ≤ 2000000000 from z2), if_pos (show 0 ≤ x2 ∧ x2 ≤ MAX from ⟨by rw [i32le]; rw [i32lt] at z1; omega, z2⟩)]
        · rw [if_neg (show ¬ x2 ≤ 2000000000 from z2), if_neg (fun z => z2 z.2)]
    by_cases c2 : 0 ≤ x2 ∧ x2 ≤ MAX
    · rw [if_pos c2] at e7 e8
      by_cases c3 : sumI (ov8 x1 1 MAX) A.2.1 ≤ x2
      · rw [if_pos c3] at e7 e8
        obtain ⟨m, hm, rfl⟩ := (isBx_of c).n
        obtain ⟨row', ek, hk1, hk2⟩ := keepPast_ok hM hH.b h8
        have hM' := modA_ext hM hk1
        have hro := hA.2.2.2.1 m hm
        unfold fX7_room
        have er2 : fX8_rooms row' (nI m) x2 = some (upd row' (34 + m) x2) := by
          unfold fX8_rooms
          rw [e8_load hM'.2.1, ob, if_pos c3, show (34 : Int32) = nI 34 from rfl, nI_add, sv_nI (by omega) (by omega), ob]
        rw [ld_nI hm (by omega), ob, sv_nI hm (by omega), ob] at e7
        rw [ek, ob, e8_room hM'.2.2.2.1 hm, ob, er2, ob] at e8
        rw [er, ob, e7, ob, hC.2.2.2.2.1 m hm, settle_yes ht h8 (show 0 ≤ (A.2.2.2.1 m, upd c_archive_rooms m x2).1.toInt from hro.1), e8]
        have c2a := c2.1
        have c2b := c2.2
        rw [i32le] at c2a c2b c3
        refine ⟨_, _, _, _, _, _, _, _, _, _, _, rfl, rfl, ⟨⟨(A.1, A.2.1, A.2.2.1, upd A.2.2.2.1 m x2, A.2.2.2.2), _, ⟨hA.1, hA.2.1, hA.2.2.1, fun j hj => ?_, hA.2.2.2.2⟩, ⟨hC.1, hC.2.1, hC.2.2.1, hC.2.2.2.1, fun j hj => ?_, hC.2.2.2.2.2⟩, modA_room hM' hm x2, hist_yes ht hH hA (Int.le_refl _) (List.prefix_refl _) (List.prefix_refl _) hse hsn (blk_ext hk2 (fun k hk => pk_un (by omega)))⟩, hrest⟩⟩
        · show 0 ≤ (upd A.2.2.2.1 m x2 j).toInt ∧ (upd A.2.2.2.1 m x2 j).toInt ≤ 2000000000 ∧ loadZ (nI j) A.2.1 ≤ (upd A.2.2.2.1 m x2 j).toInt
          by_cases z : j = m
          · subst z
            rw [pk_us]
            exact ⟨c2a, c2b, by rw [← hl.1]; exact c3⟩
          · rw [pk_un z]; exact hA.2.2.2.1 j hj
        · show upd c_archive_rooms m x2 j = upd A.2.2.2.1 m x2 j
          by_cases z : j = m
          · subst z; rw [pk_us, pk_us]
          · rw [pk_un z, pk_un z]; exact hC.2.2.2.2.1 j hj
      · rw [if_neg c3] at e7 e8
        exact no _ (by decide) e7 e8
    · rw [if_neg c2] at e7 e8
      exact no _ (by decide) e7 e8
  · rw [if_neg c] at e8
    refine no _ (by decide) ?_ e8
    unfold fX0_setRoom
    rw [e7_isBox, ob, i01, if_neg c]
