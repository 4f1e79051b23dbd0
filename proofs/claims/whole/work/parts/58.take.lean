/-! lay, take -/
theorem sim_lay {D : Int} : S_lay (RR D) (RR D) := by
  intro c_archive_rooms c_archive_moveDays c_archive_day c_archive_series c_archive_pieces c_archive_trial c_archive_moves c_history_slots c_history_top c_history_steps c_planner_free c_planner_remaining c_planner_gaps c_planner_layings c_rows c_text_bytes c_text_verbs c_text_numbers c_text_length c_text_commandCount c_text_at c_page_signs c_page_length c_page_latest c_draft_signs c_draft_length c_draft_latest d_row d_undos d_list d_listed d_paper d_papers d_text d_length d_beside d_besides d_gapFirst d_gapLast d_laying d_layings d_free d_first d_behind d_numbers d_clauses d_words d_sorts d_shifted d_saved d_draft d_drafts x1 x2 x3 h
  have h : R0 D c_archive_rooms c_archive_moveDays c_archive_day c_archive_series c_archive_pieces c_archive_moves c_history_slots c_history_top c_history_steps c_planner_gaps c_planner_layings c_rows c_text_bytes c_text_length c_page_signs c_page_length d_row d_undos d_list d_listed d_paper d_papers d_text d_length d_words d_sorts := h
  obtain ⟨⟨A, hs, hA, hC, hM, hH⟩, hrest⟩ := h
  obtain ⟨h8, es, eu, t, ht, et⟩ := hist_steps hH
  subst es eu et
  obtain ⟨slots', er, hsn, hse⟩ := remember_ok (slots := c_history_slots) hC hM.2.1.1 ht
  unfold fX7_lay fX8_lay
  rw [er, ob, e8_isBox, ob, i01, e8_isRange, ob, i01]
  have no : ∀ (r : Int32) (trial' : Rg), r.toInt < 0 → ∃ a1 a2 a3 a4 a5, fX7_settle c_archive_rooms c_archive_day c_archive_series c_archive_pieces c_archive_moves slots' (nI t) (nI hs.length) r = some (r, a1, a2, a3, a4, a5, nI t, nI hs.length) ∧ R0 D a1 c_archive_moveDays a2 a3 a4 a5 slots' (nI t) (nI hs.length) c_planner_gaps c_planner_layings c_rows c_text_bytes c_text_length c_page_signs c_page_length d_row (nI hs.length) d_list d_listed d_paper d_papers d_text d_length d_words d_sorts := by
    intro r trial' hr
    obtain ⟨a1, a2, a3, a4, a5, e3, hC'⟩ := settle_no (rooms := c_archive_rooms) (day := c_archive_day) (pieces := c_archive_pieces) (steps := nI hs.length) ht hr hsn (clsW_of hC)
    exact ⟨a1, a2, a3, a4, a5, e3, ⟨A, hs, hA, hC', hM, hist_no ht hH hse (fun k _ => rfl)⟩, hrest⟩
  by_cases c : 0 ≤ x1 ∧ x1 ≤ 7
  · by_cases c2 : (1 ≤ x2 ∧ x2 ≤ MAX) ∧ (x2 ≤ x3 ∧ x3 ≤ MAX)
    · rw [if_pos c, if_pos c2]
      obtain ⟨m, hm, rfl⟩ := (isBx_of c).n
      rcases layV (trial := c_archive_trial) (g := d_beside) (n := d_besides) hA hC hM hm c2 with ⟨md', p', tr', mv', g', e1, h0, e2, hg', c40', c100', hA', hC'⟩ | ⟨tr', g', n', e1, e2⟩
      · obtain ⟨row', ek, hk1, hk2⟩ := keepPast_ok hM hH.b h8
        have hM' := modA_ext hM hk1
        obtain ⟨row2, em, hM2, hfar⟩ := moves_ok (a := x2) (b := x3) (box := nI m) hM' hg' c40' c100'
        rw [e1, ob, settle_yes ht h8 h0, ob, e2, ob, if_neg (show ¬ (1 : Int32) = 0 by decide), e8_inBox hM.2.1, ob, ek, ob, em, ob]
        exact ⟨_, _, _, _, _, _, _, _, _, _, _, _, _, _, _, rfl, rfl, ⟨⟨_, _, hA', hC', hM2, hist_yes ht hH hA (Int.le_refl _) (List.prefix_refl _) (List.prefix_append _ _) hse hsn (blk_ext hk2 (fun k hk => hfar k hk))⟩, hrest⟩⟩
      · obtain ⟨a1, a2, a3, a4, a5, e3, hR⟩ := no (-5) tr' (by decide)
        rw [e1, ob, e3, ob, e2, ob, if_pos rfl]
        exact ⟨_, _, _, _, _, _, _, _, _, _, _, _, _, _, _, rfl, rfl, hR⟩
    · obtain ⟨a1, a2, a3, a4, a5, e3, hR⟩ := no (-3) c_archive_trial (by decide)
      have e1 : fX0_layInto c_archive_rooms c_archive_moveDays c_archive_day c_archive_pieces c_archive_trial c_archive_moves x1 x2 x3 = some (-3, c_archive_moveDays, c_archive_pieces, c_archive_trial, c_archive_moves) := by
        unfold fX0_layInto
        rw [e7_isBox, ob, i01, if_pos c, e7_isRange, ob, i01, if_neg c2]
      rw [e1, ob, e3, ob, if_pos c, if_neg c2]
      exact ⟨_, _, _, _, _, _, _, _, _, _, _, _, _, _, _, rfl, rfl, hR⟩
  · obtain ⟨a1, a2, a3, a4, a5, e3, hR⟩ := no (-2) c_archive_trial (by decide)
    have e1 : fX0_layInto c_archive_rooms c_archive_moveDays c_archive_day c_archive_pieces c_archive_trial c_archive_moves x1 x2 x3 = some (-2, c_archive_moveDays, c_archive_pieces, c_archive_trial, c_archive_moves) := by
      unfold fX0_layInto
      rw [e7_isBox, ob, i01, if_neg c]
    rw [e1, ob, e3, ob, if_neg c]
    exact ⟨_, _, _, _, _, _, _, _, _, _, _, _, _, _, _, rfl, rfl, hR⟩
theorem sim_take {D : Int} : S_take (RR D) (RR D) := by
  intro c_archive_rooms c_archive_moveDays c_archive_day c_archive_series c_archive_pieces c_archive_trial c_archive_moves c_history_slots c_history_top c_history_steps c_planner_free c_planner_remaining c_planner_gaps c_planner_layings c_rows c_text_bytes c_text_verbs c_text_numbers c_text_length c_text_commandCount c_text_at c_page_signs c_page_length c_page_latest c_draft_signs c_draft_length c_draft_latest d_row d_undos d_list d_listed d_paper d_papers d_text d_length d_beside d_besides d_gapFirst d_gapLast d_laying d_layings d_free d_first d_behind d_numbers d_clauses d_words d_sorts d_shifted d_saved d_draft d_drafts x1 x2 h
  have h : R0 D c_archive_rooms c_archive_moveDays c_archive_day c_archive_series c_archive_pieces c_archive_moves c_history_slots c_history_top c_history_steps c_planner_gaps c_planner_layings c_rows c_text_bytes c_text_length c_page_signs c_page_length d_row d_undos d_list d_listed d_paper d_papers d_text d_length d_words d_sorts := h
  obtain ⟨⟨A, hs, hA, hC, hM, hH⟩, hrest⟩ := h
  obtain ⟨h8, es, eu, t, ht, et⟩ := hist_steps hH
  subst es eu et
  obtain ⟨slots', er, hsn, hse⟩ := remember_ok (slots := c_history_slots) hC hM.2.1.1 ht
  unfold fX7_take fX8_take
  rw [er, ob, e8_isRange, ob, i01]
  have no : ∀ (r : Int32) (trial' : Rg), r.toInt < 0 → ∃ a1 a2 a3 a4 a5, fX7_settle c_archive_rooms c_archive_day c_archive_series c_archive_pieces c_archive_moves slots' (nI t) (nI hs.length) r = some (r, a1, a2, a3, a4, a5, nI t, nI hs.length) ∧ R0 D a1 c_archive_moveDays a2 a3 a4 a5 slots' (nI t) (nI hs.length) c_planner_gaps c_planner_layings c_rows c_text_bytes c_text_length c_page_signs c_page_length d_row (nI hs.length) d_list d_listed d_paper d_papers d_text d_length d_words d_sorts := by
    intro r trial' hr
    obtain ⟨a1, a2, a3, a4, a5, e3, hC'⟩ := settle_no (rooms := c_archive_rooms) (day := c_archive_day) (pieces := c_archive_pieces) (steps := nI hs.length) ht hr hsn (clsW_of hC)
    exact ⟨a1, a2, a3, a4, a5, e3, ⟨A, hs, hA, hC', hM, hist_no ht hH hse (fun k _ => rfl)⟩, hrest⟩
  by_cases c2 : (1 ≤ x1 ∧ x1 ≤ MAX) ∧ (x1 ≤ x2 ∧ x2 ≤ MAX)
  · rw [if_pos c2]
    rcases takeV (trial := c_archive_trial) (g := d_beside) (n := d_besides) hA hC hM c2 with ⟨md', p', tr', mv', g', e1, e2, hg', c40', c100', hA', hC'⟩ | ⟨tr', g', n', e1, e2⟩
    · obtain ⟨row', ek, hk1, hk2⟩ := keepPast_ok hM hH.b h8
      have hM' := modA_ext hM hk1
      obtain ⟨row2, em, hM2, hfar⟩ := moves_ok (a := x1) (b := x2) (box := -1) hM' hg' c40' c100'
      rw [e1, ob, settle_yes ht h8 (anyZ hA.2.1), ob, e2, ob, if_neg (show ¬ (1 : Int32) = 0 by decide), e8_inBox hM.2.1, ob, ek, ob, em, ob]
      exact ⟨_, _, _, _, _, _, _, _, _, _, _, _, _, _, _, rfl, rfl, ⟨⟨_, _, hA', hC', hM2, hist_yes ht hH hA (Int.le_refl _) (List.prefix_refl _) (List.prefix_append _ _) hse hsn (blk_ext hk2 (fun k hk => hfar k hk))⟩, hrest⟩⟩
    · obtain ⟨a1, a2, a3, a4, a5, e3, hR⟩ := no (-5) tr' (by decide)
      rw [e1, ob, e3, ob, e2, ob, if_pos rfl]
      exact ⟨_, _, _, _, _, _, _, _, _, _, _, _, _, _, _, rfl, rfl, hR⟩
  · obtain ⟨a1, a2, a3, a4, a5, e3, hR⟩ := no (-3) c_archive_trial (by decide)
    have e1 : fX0_takeOut c_archive_moveDays c_archive_day c_archive_pieces c_archive_trial c_archive_moves x1 x2 = some (-3, c_archive_moveDays, c_archive_pieces, c_archive_trial, c_archive_moves) := by
      unfold fX0_takeOut
      rw [e7_isRange, ob, i01, if_neg c2]
    rw [e1, ob, e3, ob, if_neg c2]
    exact ⟨_, _, _, _, _, _, _, _, _, _, _, _, _, _, _, rfl, rfl, hR⟩
