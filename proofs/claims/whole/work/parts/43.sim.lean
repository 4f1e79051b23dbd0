/-! the first calls: text, paper, list -/
theorem upd_lt {f : Nat → Int32} {k j : Nat} {x : Int32} (h : j ≠ k) : upd f k x j = f j := pk_un h
theorem same_upd {n : Nat} {f g : Nat → Int32} {x : Int32} (h : same n f g) : same (n + 1) (upd f n x) (upd g n x) := by
  intro i hi
  by_cases c : i = n
  · subst c; rw [pk_us, pk_us]
  · rw [pk_un c, pk_un c]; exact h i (by omega)
theorem e8_in0 (x : Int32) (n : Nat) (hn : n < 2 ^ 31) : fX8_in x.toInt64 0 (nI n - 1).toInt64 = some (if ¬ (x < 0 ∨ nI n ≤ x) then 1 else 0) := by
  rw [zero64, e8_in32]
  congr 1
  have e : (nI n - 1).toInt = (n : Int) - 1 ∨ n = 0 := by
    cases n with
    | zero => exact Or.inr rfl
    | succ n => left; rw [nI_pred, nI_toInt (by omega)]; omega
  have e2 : (0 ≤ x ∧ x ≤ nI n - 1) ↔ ¬ (x < 0 ∨ nI n ≤ x) := by
    rw [i32le, i32le, i32lt, i32le, nI_toInt hn, show (0 : Int32).toInt = 0 from rfl]
    rcases e with e | e
    · rw [e]; omega
    · subst e
      rw [show (nI 0 - 1).toInt = -1 from by decide]
      omega
  by_cases c : ¬ (x < 0 ∨ nI n ≤ x)
  · rw [if_pos c, if_pos (e2.mpr c)]
  · rw [if_neg c, if_neg (fun z => c (e2.mp z))]
theorem sim_type {D : Int} : S_type (RR D) (RR D) := by
  intro c_archive_rooms c_archive_moveDays c_archive_day c_archive_series c_archive_pieces c_archive_trial c_archive_moves c_history_slots c_history_top c_history_steps c_planner_free c_planner_remaining c_planner_gaps c_planner_layings c_rows c_text_bytes c_text_verbs c_text_numbers c_text_length c_text_commandCount c_text_at c_page_signs c_page_length c_page_latest c_draft_signs c_draft_length c_draft_latest d_row d_undos d_list d_listed d_paper d_papers d_text d_length d_beside d_besides d_gapFirst d_gapLast d_laying d_layings d_free d_first d_behind d_numbers d_clauses d_words d_sorts d_shifted d_saved d_draft d_drafts x1 h
  have h : R0 D c_archive_rooms c_archive_moveDays c_archive_day c_archive_series c_archive_pieces c_archive_moves c_history_slots c_history_top c_history_steps c_planner_gaps c_planner_layings c_rows c_text_bytes c_text_length c_page_signs c_page_length d_row d_undos d_list d_listed d_paper d_papers d_text d_length d_words d_sorts := h
  obtain ⟨hA, hZ, hL, ⟨n, hn, e1, e2, hs⟩, hP, hW, hO⟩ := h
  have e255 : (255 : Int64) = (255 : Int32).toInt64 := by decide
  have em : fX8_type d_text d_length x1 = if 0 ≤ x1 ∧ x1 ≤ 255 then (if d_length = 200 then some (-5, d_text, d_length) else (sv 200 d_text d_length x1).bind fun g37 => some (d_length + 1, g37, d_length + 1)) else some (-3, d_text, d_length) := by
    unfold fX8_type
    rw [zero64, e255, e8_in32, ob]
    by_cases c : 0 ≤ x1 ∧ x1 ≤ 255
    · rw [if_pos c, if_neg (by decide), if_pos c]
    · rw [if_neg c, if_pos rfl, if_neg c]
  have ex : fX7_type c_text_bytes c_text_length x1 = if 0 ≤ x1 ∧ x1 ≤ 255 then (if c_text_length < nI 200 then (sv 200 c_text_bytes c_text_length x1).bind fun g => some (c_text_length + 1, g, c_text_length + 1) else some (-5, c_text_bytes, c_text_length)) else some (-3, c_text_bytes, c_text_length) := by
    unfold fX7_type fX6_append fX6_length
    by_cases c : 0 ≤ x1
    · have c0 : ¬ x1 < 0 := by rw [i32le] at c; rw [i32lt]; omega
      rw [if_neg c0]
      by_cases c1 : x1 ≤ 255
      · rw [if_pos c1, if_pos (show 0 ≤ x1 ∧ x1 ≤ 255 from ⟨c, c1⟩)]
        by_cases c2 : c_text_length < nI 200
        · rw [if_pos c2, if_pos c2]
          cases sv 200 c_text_bytes c_text_length x1 with
          | none => rfl
          | some g => rfl
        · rw [if_neg c2, if_neg c2]; rfl
      · rw [if_neg c1, if_neg (fun z => c1 z.2)]
    · have c0 : x1 < 0 := by rw [i32le] at c; rw [i32lt]; omega
      rw [if_pos c0, if_neg (fun z => c z.1)]
  subst e1; subst e2
  by_cases c1 : 0 ≤ x1 ∧ x1 ≤ 255
  · rw [if_pos c1] at em ex
    by_cases c2 : n = 200
    · subst c2
      rw [if_neg (nI_nlt (Nat.le_refl _) (by omega))] at ex
      rw [if_pos (show nI 200 = 200 from rfl)] at em
      exact ⟨_, _, _, _, _, ex, em, ⟨hA, hZ, hL, ⟨200, hn, rfl, rfl, hs⟩, hP, hW, hO⟩⟩
    · rw [if_pos (nI_lt (by omega) (by omega)), sv_nI (by omega) (by omega), ob] at ex
      rw [if_neg (fun e => c2 ((nI_eq (by omega) (by omega)).mp (e.trans (rfl : (200 : Int32) = nI 200)))), sv_nI (by omega) (by omega), ob] at em
      exact ⟨_, _, _, _, _, ex, em, ⟨hA, hZ, hL, ⟨n + 1, by omega, nI_1 n, nI_1 n, same_upd hs⟩, hP, hW, hO⟩⟩
  · rw [if_neg c1] at em ex
    exact ⟨_, _, _, _, _, ex, em, ⟨hA, hZ, hL, ⟨n, hn, rfl, rfl, hs⟩, hP, hW, hO⟩⟩
theorem sim_erase {D : Int} : S_erase (RR D) (RR D) := by
  intro c_archive_rooms c_archive_moveDays c_archive_day c_archive_series c_archive_pieces c_archive_trial c_archive_moves c_history_slots c_history_top c_history_steps c_planner_free c_planner_remaining c_planner_gaps c_planner_layings c_rows c_text_bytes c_text_verbs c_text_numbers c_text_length c_text_commandCount c_text_at c_page_signs c_page_length c_page_latest c_draft_signs c_draft_length c_draft_latest d_row d_undos d_list d_listed d_paper d_papers d_text d_length d_beside d_besides d_gapFirst d_gapLast d_laying d_layings d_free d_first d_behind d_numbers d_clauses d_words d_sorts d_shifted d_saved d_draft d_drafts h
  have h : R0 D c_archive_rooms c_archive_moveDays c_archive_day c_archive_series c_archive_pieces c_archive_moves c_history_slots c_history_top c_history_steps c_planner_gaps c_planner_layings c_rows c_text_bytes c_text_length c_page_signs c_page_length d_row d_undos d_list d_listed d_paper d_papers d_text d_length d_words d_sorts := h
  obtain ⟨hA, hZ, hL, ⟨n, hn, e1, e2, hs⟩, hP, hW, hO⟩ := h
  subst e1; subst e2
  exact ⟨nI n, 0, 0, rfl, rfl, ⟨hA, hZ, hL, ⟨0, Nat.zero_le _, rfl, rfl, fun i h => absurd h (Nat.not_lt_zero i)⟩, hP, hW, hO⟩⟩
theorem sim_paper {D : Int} : S_paper (RR D) (RR D) := by
  intro c_archive_rooms c_archive_moveDays c_archive_day c_archive_series c_archive_pieces c_archive_trial c_archive_moves c_history_slots c_history_top c_history_steps c_planner_free c_planner_remaining c_planner_gaps c_planner_layings c_rows c_text_bytes c_text_verbs c_text_numbers c_text_length c_text_commandCount c_text_at c_page_signs c_page_length c_page_latest c_draft_signs c_draft_length c_draft_latest d_row d_undos d_list d_listed d_paper d_papers d_text d_length d_beside d_besides d_gapFirst d_gapLast d_laying d_layings d_free d_first d_behind d_numbers d_clauses d_words d_sorts d_shifted d_saved d_draft d_drafts x1 h
  have hR : RR D (c_archive_rooms, c_archive_moveDays, c_archive_day, c_archive_series, c_archive_pieces, c_archive_trial, c_archive_moves, c_history_slots, c_history_top, c_history_steps, c_planner_free, c_planner_remaining, c_planner_gaps, c_planner_layings, c_rows, c_text_bytes, c_text_verbs, c_text_numbers, c_text_length, c_text_commandCount, c_text_at, c_page_signs, c_page_length, c_page_latest, c_draft_signs, c_draft_length, c_draft_latest) (d_row, d_undos, d_list, d_listed, d_paper, d_papers, d_text, d_length, d_beside, d_besides, d_gapFirst, d_gapLast, d_laying, d_layings, d_free, d_first, d_behind, d_numbers, d_clauses, d_words, d_sorts, d_shifted, d_saved, d_draft, d_drafts) := h
  have h : R0 D c_archive_rooms c_archive_moveDays c_archive_day c_archive_series c_archive_pieces c_archive_moves c_history_slots c_history_top c_history_steps c_planner_gaps c_planner_layings c_rows c_text_bytes c_text_length c_page_signs c_page_length d_row d_undos d_list d_listed d_paper d_papers d_text d_length d_words d_sorts := h
  obtain ⟨hA, hZ, hL, hT, ⟨n, hn, e1, e2, hs⟩, hW, hO⟩ := h
  subst e1; subst e2
  rcases ixc x1 n (by omega) with c | ⟨j, hj, rfl⟩
  · refine ⟨-1, ?_, ?_, hR⟩
    · unfold fX7_paper fX2_signAt
      by_cases c1 : x1 < 0
      · rw [if_pos c1]; rfl
      · rw [if_neg c1, if_pos (c.resolve_left c1)]; rfl
    · unfold fX8_paper
      rw [e8_in0 x1 n (by omega), if_neg (fun z => z c), ob, if_pos rfl]
  · refine ⟨c_page_signs j, ?_, ?_, hR⟩
    · unfold fX7_paper fX2_signAt
      rw [if_neg (nI_nneg (by omega)), if_neg (nI_ge hj (by omega)), if_neg (nI_ge (by omega) (by omega)), ld_nI (by omega) (by omega)]; rfl
    · unfold fX8_paper
      rw [e8_in0 _ n (by omega), if_pos (by rintro (c | c); exact nI_nneg (by omega) c; exact nI_ge hj (by omega) c), ob, if_neg (by decide), ld_nI (by omega) (by omega), hs j hj]; rfl
theorem cut0 {N : Nat} {v : Rg} {l : List Tr} (h : isL N v l) : ∃ v', fX4_cutTo N v 0 = some v' ∧ isL N v' [] := by
  unfold fX4_cutTo
  rw [if_neg (by decide), h.n]
  by_cases c : nI l.length ≤ 0
  · rw [if_pos c]
    have h1 := h.1
    have h2 := h.2.1
    have e : l.length = 0 := by
      rcases Nat.eq_zero_or_pos l.length with e | e
      · exact e
      · exact absurd c (nI_nle e (by omega))
    rw [List.length_eq_zero_iff] at e
    subst e
    exact ⟨v, rfl, h⟩
  · rw [if_neg c]
    exact ⟨_, rfl, isL_nil h.2.1⟩
theorem sim_clear {D : Int} : S_clear (RR D) (RR D) := by
  intro c_archive_rooms c_archive_moveDays c_archive_day c_archive_series c_archive_pieces c_archive_trial c_archive_moves c_history_slots c_history_top c_history_steps c_planner_free c_planner_remaining c_planner_gaps c_planner_layings c_rows c_text_bytes c_text_verbs c_text_numbers c_text_length c_text_commandCount c_text_at c_page_signs c_page_length c_page_latest c_draft_signs c_draft_length c_draft_latest d_row d_undos d_list d_listed d_paper d_papers d_text d_length d_beside d_besides d_gapFirst d_gapLast d_laying d_layings d_free d_first d_behind d_numbers d_clauses d_words d_sorts d_shifted d_saved d_draft d_drafts h
  have h : R0 D c_archive_rooms c_archive_moveDays c_archive_day c_archive_series c_archive_pieces c_archive_moves c_history_slots c_history_top c_history_steps c_planner_gaps c_planner_layings c_rows c_text_bytes c_text_length c_page_signs c_page_length d_row d_undos d_list d_listed d_paper d_papers d_text d_length d_words d_sorts := h
  obtain ⟨hA, hZ, ⟨l, hl, e1, h3⟩, hT, hP, hW, hO⟩ := h
  subst e1
  obtain ⟨v', ev, hv⟩ := cut0 hl
  refine ⟨nI l.length, v', 0, ?_, rfl, ⟨hA, hZ, ⟨[], hv, rfl, fun q h => absurd h List.not_mem_nil, fun q h => absurd h List.not_mem_nil, fun i h => absurd h (Nat.not_lt_zero i)⟩, hT, hP, hW, hO⟩⟩
  unfold fX7_clear
  rw [e_size hl, ob, ev, ob]
