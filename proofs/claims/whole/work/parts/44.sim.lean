/-! rows, pieces, moves -/
theorem i01 {P : Prop} [Decidable P] {α : Type} (A B : α) : (if (if P then (1 : Int32) else 0) = 0 then A else B) = if P then B else A := by
  by_cases h : P
  · rw [if_pos h, if_pos h, if_neg (by decide)]
  · rw [if_neg h, if_neg h, if_pos rfl]
theorem i11 {P : Prop} [Decidable P] {α : Type} (A B : α) : (if (if P then (1 : Int32) else 0) = 1 then A else B) = if P then A else B := by
  by_cases h : P
  · rw [if_pos h, if_pos h, if_pos rfl]
  · rw [if_neg h, if_neg h, if_neg (by decide)]
theorem z01 {α : Type} (A B : α) : (if (1 : Int32) = 0 then A else B) = B := rfl
theorem z00 {α : Type} (A B : α) : (if (0 : Int32) = 0 then A else B) = A := rfl
theorem nI_ne {n : Nat} {c : Nat} (h : n ≠ c) (hn : n < 2 ^ 31) (hc : c < 2 ^ 31) : ¬ nI n = nI c := fun e => h ((nI_eq hn hc).mp e)
theorem inn {j n : Nat} (hj : j < n) (hn : n < 2 ^ 31) : ¬ (nI j < 0 ∨ nI n ≤ nI j) := by
  rintro (c | c)
  · exact nI_nneg (by omega) c
  · exact nI_ge hj hn c
theorem e7_isSheet (x : Int32) : fX7_isSheet x = some (if 1 ≤ x ∧ x ≤ MAX then 1 else 0) := by
  unfold fX7_isSheet
  have a1 : (x < 1) ↔ ¬ (1 ≤ x) := by rw [i32lt, i32le]; omega
  have a2 : ((2000000000 : Int32) < x) ↔ ¬ (x ≤ MAX) := by rw [i32lt, i32le, show (2000000000 : Int32) = MAX from rfl]; omega
  by_cases c1 : 1 ≤ x
  · rw [if_neg (fun z => a1.mp z c1)]
    by_cases c2 : x ≤ MAX
    · rw [if_neg (fun z => a2.mp z c2), if_pos ⟨c1, c2⟩]
    · rw [if_pos (a2.mpr c2), if_neg (fun z => c2 z.2)]
  · rw [if_pos (a1.mpr c1), if_neg (fun z => c1 z.1)]
theorem e7_isBox (x : Int32) : fX7_isBox x = some (if 0 ≤ x ∧ x ≤ 7 then 1 else 0) := by
  unfold fX7_isBox
  have a1 : (x < 0) ↔ ¬ (0 ≤ x) := by rw [i32lt, i32le]; omega
  have a2 : ((8 : Int32) ≤ x) ↔ ¬ (x ≤ 7) := by rw [i32le, i32le, show (8 : Int32).toInt = 8 from rfl, show (7 : Int32).toInt = 7 from rfl]; omega
  by_cases c1 : 0 ≤ x
  · rw [if_neg (fun z => a1.mp z c1)]
    by_cases c2 : x ≤ 7
    · rw [if_neg (fun z => a2.mp z c2), if_pos ⟨c1, c2⟩]
    · rw [if_pos (a2.mpr c2), if_neg (fun z => c2 z.2)]
  · rw [if_pos (a1.mpr c1), if_neg (fun z => c1 z.1)]
theorem e7_isRange (a b : Int32) : fX7_isRange a b = some (if (1 ≤ a ∧ a ≤ MAX) ∧ (a ≤ b ∧ b ≤ MAX) then 1 else 0) := by
  unfold fX7_isRange
  rw [e7_isSheet, ob, e7_isSheet]
  by_cases c1 : 1 ≤ a ∧ a ≤ MAX
  · rw [if_pos c1, if_neg (by decide), ob]
    have a3 : (b < a) ↔ ¬ (a ≤ b) := by rw [i32lt, i32le]; omega
    by_cases c2 : a ≤ b
    · have c3 : (1 ≤ b ∧ b ≤ MAX) ↔ (a ≤ b ∧ b ≤ MAX) := by
        have := c1.1
        rw [i32le] at this c2
        constructor
        · intro z; exact ⟨i32le.mpr c2, z.2⟩
        · intro z; exact ⟨by rw [i32le]; omega, z.2⟩
      by_cases c4 : a ≤ b ∧ b ≤ MAX
      · rw [if_pos (c3.mpr c4), if_neg (by decide), if_neg (fun z => a3.mp z c2), if_pos ⟨c1, c4⟩]
      · rw [if_neg (fun z => c4 (c3.mp z)), if_pos rfl, if_neg (fun z => c4 z.2)]
    · rw [if_neg (show ¬ ((1 ≤ a ∧ a ≤ MAX) ∧ a ≤ b ∧ b ≤ MAX) from fun z => c2 z.2.1)]
      by_cases c4 : 1 ≤ b ∧ b ≤ MAX
      · rw [if_pos c4, if_neg (by decide), if_pos (a3.mpr c2)]
      · rw [if_neg c4, if_pos rfl]
  · rw [if_neg c1, if_pos rfl, if_neg (fun z => c1 z.1)]
theorem isL_app {N : Nat} {v : Rg} {l : List Tr} (h : isL N v l) (hlt : l.length < N) (m a b : Int32) : isL N (upd v.1 l.length m, upd v.2.1 l.length a, upd v.2.2.1 l.length b, nI l.length + 1) (l ++ [(m, a, b)]) := by
  refine ⟨by rw [List.length_append]; exact hlt, h.2.1, by rw [List.length_append]; exact nI_1 _, fun i hi => ?_⟩
  rw [List.length_append] at hi
  by_cases c : i = l.length
  · subst c
    rw [List.getElem_append_right (Nat.le_refl _)]
    simp only [Nat.sub_self, List.getElem_singleton]
    exact ⟨pk_us, pk_us, pk_us⟩
  · have hi' : i < l.length := by have : ([(m, a, b)] : List Tr).length = 1 := rfl; omega
    rw [List.getElem_append_left hi']
    have := h.2.2.2 i hi'
    exact ⟨(pk_un c).trans this.1, (pk_un c).trans this.2.1, (pk_un c).trans this.2.2⟩
theorem e_add {N : Nat} {v : Rg} {l : List Tr} (h : isL N v l) (hlt : l.length < N) (m a b : Int32) : ∃ v', fX4_add N v m a b = some (1, v') ∧ isL N v' (l ++ [(m, a, b)]) := by
  have h2 := h.2.1
  unfold fX4_add
  rw [h.n, if_pos (nI_lt hlt (by omega)), sv_nI hlt (by omega), ob, sv_nI hlt (by omega), ob, sv_nI hlt (by omega), ob]
  exact ⟨_, rfl, isL_app h hlt m a b⟩
theorem e_addF {N : Nat} {v : Rg} {l : List Tr} (h : isL N v l) (he : l.length = N) (m a b : Int32) : fX4_add N v m a b = some (0, v) := by
  have h2 := h.2.1
  unfold fX4_add
  rw [h.n, if_neg (nI_nlt (by omega) (by omega))]
theorem isBx_of {x : Int32} (h : 0 ≤ x ∧ x ≤ 7) : isBx x := by
  have h1 := h.1
  have h2 := h.2
  rw [i32le] at h1 h2
  exact ⟨h1, h2⟩
theorem okR_app {l : List Tr} (h : okR l) {q : Tr} (hq : 1 ≤ q.2.1 ∧ q.2.1 ≤ q.2.2 ∧ q.2.2 ≤ MAX) : okR (l ++ [q]) := by
  intro x hx
  rcases List.mem_append.mp hx with z | z
  · exact h x z
  · rw [List.mem_singleton] at z; subst z; exact hq
/-- a row more: both lists -/
theorem rows_add {l : List Tr} {rows : Rg} {list : Nat → Int32} {listed : Int32} (h : rowsR l rows list listed) (hlt : l.length < 12) {m a b : Int32} (hm : 0 ≤ m ∧ m ≤ 7) (hr : (1 ≤ a ∧ a ≤ MAX) ∧ (a ≤ b ∧ b ≤ MAX)) : ∃ v' list', fX4_add 12 rows m a b = some (1, v') ∧ fX8_lists list listed m a b = some (list', listed + 1) ∧ rowsR (l ++ [(m, a, b)]) v' list' (listed + 1) := by
  obtain ⟨h1, h2, h3, h4, h5⟩ := h
  obtain ⟨v', ev, hv⟩ := e_add h1 hlt m a b
  subst h2
  have e3 : (3 : Int32) * nI l.length = nI (3 * l.length) := by rw [n3, pk_mul]
  refine ⟨v', upd (upd (upd list (3 * l.length) m) (3 * l.length + 1) a) (3 * l.length + 2) b, ev, ?_, hv, by rw [List.length_append]; exact nI_1 _, okR_app h3 ⟨hr.1.1, hr.2.1, hr.2.2⟩, ?_, ?_⟩
  · unfold fX8_lists
    rw [if_neg (show ¬ nI l.length = 12 from nI_ne (c := 12) (by omega) (by omega) (by omega)), e3, nI_1, n2, nI_add, sv_nI (by omega) (by omega), ob, sv_nI (by omega) (by omega), ob, sv_nI (by omega) (by omega), ob]
  · intro q hq
    rcases List.mem_append.mp hq with z | z
    · exact h4 q z
    · rw [List.mem_singleton] at z; subst z; exact isBx_of hm
  · intro i hi
    rw [List.length_append] at hi
    by_cases c : i = l.length
    · subst c
      rw [List.getElem_append_right (Nat.le_refl _)]
      simp only [Nat.sub_self, List.getElem_singleton]
      refine ⟨?_, ?_, ?_⟩
      · rw [pk_un (by omega), pk_un (by omega), pk_us]
      · rw [pk_un (by omega), pk_us]
      · rw [pk_us]
    · have hi' : i < l.length := by have : ([(m, a, b)] : List Tr).length = 1 := rfl; omega
      rw [List.getElem_append_left hi']
      have := h5 i hi'
      refine ⟨?_, ?_, ?_⟩
      · rw [pk_un (by omega), pk_un (by omega), pk_un (by omega)]; exact this.1
      · rw [pk_un (by omega), pk_un (by omega), pk_un (by omega)]; exact this.2.1
      · rw [pk_un (by omega), pk_un (by omega), pk_un (by omega)]; exact this.2.2
theorem sim_row {D : Int} : S_row (RR D) (RR D) := by
  intro c_archive_rooms c_archive_moveDays c_archive_day c_archive_series c_archive_pieces c_archive_trial c_archive_moves c_history_slots c_history_top c_history_steps c_planner_free c_planner_remaining c_planner_gaps c_planner_layings c_rows c_text_bytes c_text_verbs c_text_numbers c_text_length c_text_commandCount c_text_at c_page_signs c_page_length c_page_latest c_draft_signs c_draft_length c_draft_latest d_row d_undos d_list d_listed d_paper d_papers d_text d_length d_beside d_besides d_gapFirst d_gapLast d_laying d_layings d_free d_first d_behind d_numbers d_clauses d_words d_sorts d_shifted d_saved d_draft d_drafts x1 x2 x3 h
  have hR : RR D (c_archive_rooms, c_archive_moveDays, c_archive_day, c_archive_series, c_archive_pieces, c_archive_trial, c_archive_moves, c_history_slots, c_history_top, c_history_steps, c_planner_free, c_planner_remaining, c_planner_gaps, c_planner_layings, c_rows, c_text_bytes, c_text_verbs, c_text_numbers, c_text_length, c_text_commandCount, c_text_at, c_page_signs, c_page_length, c_page_latest, c_draft_signs, c_draft_length, c_draft_latest) (d_row, d_undos, d_list, d_listed, d_paper, d_papers, d_text, d_length, d_beside, d_besides, d_gapFirst, d_gapLast, d_laying, d_layings, d_free, d_first, d_behind, d_numbers, d_clauses, d_words, d_sorts, d_shifted, d_saved, d_draft, d_drafts) := h
  have h : R0 D c_archive_rooms c_archive_moveDays c_archive_day c_archive_series c_archive_pieces c_archive_moves c_history_slots c_history_top c_history_steps c_planner_gaps c_planner_layings c_rows c_text_bytes c_text_length c_page_signs c_page_length d_row d_undos d_list d_listed d_paper d_papers d_text d_length d_words d_sorts := h
  obtain ⟨hA, hZ, ⟨l, hl⟩, hT, hP, hW, hO⟩ := h
  unfold fX7_row fX7_addRow fX8_row
  simp only [e7_isBox, e8_isBox, e7_isRange, e8_isRange, ob, i01]
  by_cases c1 : 0 ≤ x1 ∧ x1 ≤ 7
  · by_cases c2 : (1 ≤ x2 ∧ x2 ≤ MAX) ∧ (x2 ≤ x3 ∧ x3 ≤ MAX)
    · simp only [if_pos c1, if_pos c2]
      have hle := hl.1.1
      by_cases c3 : l.length = 12
      · refine ⟨-5, c_rows, d_list, d_listed, ?_, ?_, hR⟩
        · rw [e_addF hl.1 c3]; rfl
        · rw [if_pos (show d_listed = 12 by rw [hl.2.1, c3]; rfl)]
      · obtain ⟨v', list', e1, e2, hr⟩ := rows_add hl (by omega) c1 c2
        refine ⟨nI l.length, v', list', d_listed + 1, ?_, ?_, ⟨hA, hZ, ⟨_, hr⟩, hT, hP, hW, hO⟩⟩
        · simp only [e1, ob, z01, e_size hr.1, List.length_append, List.length_singleton, nI_pred]
        · rw [if_neg (show ¬ d_listed = 12 by rw [hl.2.1]; exact nI_ne (c := 12) c3 (by omega) (by omega)), e2, ob]
          show some (d_listed + 1 - 1, list', d_listed + 1) = _
          rw [hl.2.1, nI_1, nI_pred]
    · simp only [if_pos c1, if_neg c2]
      exact ⟨-3, c_rows, d_list, d_listed, rfl, rfl, hR⟩
  · simp only [if_neg c1]
    exact ⟨-2, c_rows, d_list, d_listed, rfl, rfl, hR⟩
theorem sim_piece {D : Int} : S_piece (RR D) (RR D) := by
  intro c_archive_rooms c_archive_moveDays c_archive_day c_archive_series c_archive_pieces c_archive_trial c_archive_moves c_history_slots c_history_top c_history_steps c_planner_free c_planner_remaining c_planner_gaps c_planner_layings c_rows c_text_bytes c_text_verbs c_text_numbers c_text_length c_text_commandCount c_text_at c_page_signs c_page_length c_page_latest c_draft_signs c_draft_length c_draft_latest d_row d_undos d_list d_listed d_paper d_papers d_text d_length d_beside d_besides d_gapFirst d_gapLast d_laying d_layings d_free d_first d_behind d_numbers d_clauses d_words d_sorts d_shifted d_saved d_draft d_drafts x1 x2 h
  have hR : RR D (c_archive_rooms, c_archive_moveDays, c_archive_day, c_archive_series, c_archive_pieces, c_archive_trial, c_archive_moves, c_history_slots, c_history_top, c_history_steps, c_planner_free, c_planner_remaining, c_planner_gaps, c_planner_layings, c_rows, c_text_bytes, c_text_verbs, c_text_numbers, c_text_length, c_text_commandCount, c_text_at, c_page_signs, c_page_length, c_page_latest, c_draft_signs, c_draft_length, c_draft_latest) (d_row, d_undos, d_list, d_listed, d_paper, d_papers, d_text, d_length, d_beside, d_besides, d_gapFirst, d_gapLast, d_laying, d_layings, d_free, d_first, d_behind, d_numbers, d_clauses, d_words, d_sorts, d_shifted, d_saved, d_draft, d_drafts) := h
  have h : R0 D c_archive_rooms c_archive_moveDays c_archive_day c_archive_series c_archive_pieces c_archive_moves c_history_slots c_history_top c_history_steps c_planner_gaps c_planner_layings c_rows c_text_bytes c_text_length c_page_signs c_page_length d_row d_undos d_list d_listed d_paper d_papers d_text d_length d_words d_sorts := h
  obtain ⟨⟨A, hs, hA, hC, hM, hH⟩, -⟩ := h
  have hp := hC.2.1
  have hq := hM.2.1
  have hle := hq.1
  unfold fX7_piece fX8_piece fX0_pieces fX7_endOrMark
  simp only [hq.c, ob, e8_in0 x1 _ (show A.2.1.length < 2 ^ 31 by omega), i01]
  rcases ixc x1 A.2.1.length (by omega) with c | ⟨j, hj, rfl⟩
  · refine ⟨-2, ?_, ?_, hR⟩
    · rw [e_has_out hp c]; rfl
    · rw [if_neg (fun z => z c)]
  · have hin := inn hj (show A.2.1.length < 2 ^ 31 by omega)
    simp only [e_has_in hp hj, ob, z01, if_pos hin, e_firstOf_in hp hj, e_lastOf_in hp hj, e_markOf_in hp hj]
    rw [show (2 : Int64) = (2 : Int32).toInt64 from by decide, zero64, e8_in32]
    simp only [ob, i01]
    by_cases c0 : x2 = 0
    · subst c0
      exact ⟨(A.2.1[j]).2.1, rfl, by rw [if_pos (by decide), hq.f hj]; rfl, hR⟩
    · by_cases c1 : x2 = 1
      · subst c1
        exact ⟨(A.2.1[j]).2.2, rfl, by rw [if_pos (by decide), hq.l hj]; rfl, hR⟩
      · by_cases c2 : x2 = 2
        · subst c2
          exact ⟨(A.2.1[j]).1, rfl, by rw [if_pos (by decide), hq.m hj]; rfl, hR⟩
        · refine ⟨-3, ?_, ?_, hR⟩
          · rw [if_neg c0, if_neg c1, if_neg c2]; rfl
          · rw [if_neg]
            rintro ⟨z1, z2⟩
            rw [i32le] at z1 z2
            rw [i32eq] at c0 c1 c2
            rw [show (2 : Int32).toInt = 2 from rfl] at z2 c2
            rw [show (1 : Int32).toInt = 1 from rfl] at c1
            rw [show (0 : Int32).toInt = 0 from rfl] at z1 c0
            omega
