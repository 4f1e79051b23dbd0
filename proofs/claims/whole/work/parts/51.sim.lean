/-! of, gap -/
theorem children_loop {g : Nat → Int32} {v : Rg} {S : List Tr} (h : isL 10 v S) (hg : isS g S) (x1 : Int32) : ∀ (n i : Nat) (b : Int32), i ≤ S.length → S.length < i + n → ∃ r, fX0_childrenOf_4 v x1 n (fun x2 x3 => some x2) b (nI i) = some r ∧ fX8_children_4 g x1 n (fun x2 x3 => some x2) b (nI i) = some r := by
  have hb := h.b
  intro n
  induction n with
  | zero => intro i b h1 h2; omega
  | succ n ih =>
    intro i b hi hn
    rw [fX0_childrenOf_4, fX8_children_4, e_size h, hg.c]
    simp only [ob]
    by_cases c : i = S.length
    · have := (nI_geI (show S.length < 2 ^ 31 by omega) (by omega) hi).mpr c
      exact ⟨b, if_pos this, if_pos this⟩
    · have hlt : i < S.length := by omega
      have := fun z => c ((nI_geI (show S.length < 2 ^ 31 by omega) (show i < 2 ^ 31 by omega) hi).mp z)
      have ih := fun b => ih (i + 1) b (by omega) (by omega)
      rw [if_neg this, if_neg this, e_markOf_in h hlt, hg.m hlt, ob, ob, nI_1, or0]
      by_cases z : (S[i]).1 = x1
      · rw [if_pos z, if_pos z]; exact ih _
      · rw [if_neg z, if_neg z]; exact ih _
theorem own_cnt {v : Rg} {g : Nat → Int32} {S : List Tr} (h : isL 10 v S) (hg : isS g S) (hS : okR S) {j : Nat} (hj : j < S.length) : ∃ r, fX0_ownCount v (nI j) = some r ∧ fX8_ownIn g (nI j) (S[j]).2.1 (S[j]).2.2 = some r := by
  have h10 := h.1
  have h1 := hS _ (List.getElem_mem hj)
  refine ⟨_, ?_, e8_own hg hj _ _⟩
  unfold fX0_ownCount
  rw [e7_firstIn h hj, ob, e7_lastIn h hj, ob, e_sheetsIn h (by decide), ob]
  have e1 : cm (S[j]).2.1 (S[j]).2.2 (S[j]).2.1 (S[j]).2.2 = (S[j]).2.2 - (S[j]).2.1 + 1 := by
    unfold cm
    have a1 : imax (S[j]).2.1 (S[j]).2.1 = (S[j]).2.1 := by rw [i32eq, imax_i]; omega
    have a2 : imin (S[j]).2.2 (S[j]).2.2 = (S[j]).2.2 := by rw [i32eq, imin_i]; omega
    rw [a1, a2, if_pos h1.2.1]
  rw [e1]
  congr 2
  refine sumI_congr (fun q hq => ?_)
  rw [ovl_cm hS h1.2.1 q hq, ownS, cm_comm]
  have : ¬ nI j = -100 := fun e => nI_nneg (i := j) (by omega) (by rw [e]; decide)
  by_cases z : q.1 = nI j
  · rw [if_pos (Or.inr z), if_pos z]
  · rw [if_neg (fun y => y.elim this z), if_neg z]
theorem isS.x0 {g : Nat → Int32} {l : List Tr} (h : isS g l) {i : Nat} (hi : i < l.length) : ld 5058 g (4 + 3 * nI i + 0) = some (l[i]).1 ∧ ld 5058 g (4 + 3 * nI i + 1) = some (l[i]).2.1 ∧ ld 5058 g (4 + 3 * nI i + 2) = some (l[i]).2.2 := by
  have h1 := h.1
  have e := h.2.2 i hi
  rw [Int32.add_zero, n4, n3, ix3, nI_1, n2, nI_add, ld58 (by omega), ld58 (by omega), ld58 (by omega), e.1, e.2.1, e.2.2]
  exact ⟨rfl, rfl, rfl⟩
theorem sim_of {D : Int} : S_of (RR D) (RR D) := by
  intro c_archive_rooms c_archive_moveDays c_archive_day c_archive_series c_archive_pieces c_archive_trial c_archive_moves c_history_slots c_history_top c_history_steps c_planner_free c_planner_remaining c_planner_gaps c_planner_layings c_rows c_text_bytes c_text_verbs c_text_numbers c_text_length c_text_commandCount c_text_at c_page_signs c_page_length c_page_latest c_draft_signs c_draft_length c_draft_latest d_row d_undos d_list d_listed d_paper d_papers d_text d_length d_beside d_besides d_gapFirst d_gapLast d_laying d_layings d_free d_first d_behind d_numbers d_clauses d_words d_sorts d_shifted d_saved d_draft d_drafts x1 x2 h
  have hR : RR D (c_archive_rooms, c_archive_moveDays, c_archive_day, c_archive_series, c_archive_pieces, c_archive_trial, c_archive_moves, c_history_slots, c_history_top, c_history_steps, c_planner_free, c_planner_remaining, c_planner_gaps, c_planner_layings, c_rows, c_text_bytes, c_text_verbs, c_text_numbers, c_text_length, c_text_commandCount, c_text_at, c_page_signs, c_page_length, c_page_latest, c_draft_signs, c_draft_length, c_draft_latest) (d_row, d_undos, d_list, d_listed, d_paper, d_papers, d_text, d_length, d_beside, d_besides, d_gapFirst, d_gapLast, d_laying, d_layings, d_free, d_first, d_behind, d_numbers, d_clauses, d_words, d_sorts, d_shifted, d_saved, d_draft, d_drafts) := h
  have h : R0 D c_archive_rooms c_archive_moveDays c_archive_day c_archive_series c_archive_pieces c_archive_moves c_history_slots c_history_top c_history_steps c_planner_gaps c_planner_layings c_rows c_text_bytes c_text_length c_page_signs c_page_length d_row d_undos d_list d_listed d_paper d_papers d_text d_length d_words d_sorts := h
  obtain ⟨⟨A, hs, hA, hC, hM, hH⟩, hZ, hrest⟩ := h
  have hS := hC.1
  have hp := hC.2.1
  have gS := hM.1
  have gp := hM.2.1
  have hr := hA.2.1.1
  have hc := hA.2.1.2.1
  have hB := hA.2.1.2.2
  have hleS := gS.1
  have hleP := gp.1
  unfold fX7_of fX8_of fX0_pieces fX3_gaps fX0_parentOf
  rw [e8_isSeries gS]
  rcases ixc x1 A.1.length (by omega) with c | ⟨j, hj, rfl⟩
  · rw [e7_isSeries_out hS c]
    simp only [ob, i01, if_true, if_neg (show ¬ ¬ (x1 < 0 ∨ nI A.1.length ≤ x1) from fun z => z c)]
    exact ⟨-2, _, _, _, rfl, rfl, hR⟩
  · have hin := inn hj (show A.1.length < 2 ^ 31 by omega)
    have hq := hA.1.1 _ (List.getElem_mem hj)
    have ex := gS.x0 hj
    obtain ⟨r3, e3, e3'⟩ := own_cnt hS gS hA.1.1 hj
    obtain ⟨r4, e4, e4'⟩ := children_loop hS gS (nI j) FU 0 0 (Nat.zero_le _) (FU_gt (by omega))
    rw [nI_0] at e4 e4'
    obtain ⟨v7, e7, h7⟩ := e_findGaps hZ.1 hS hp hleP hj
    obtain ⟨a, c, e7'⟩ := e8_gaps gS gp hr hc hA.1.1 hj d_gapFirst d_gapLast
    simp only [e7_isSeries_in hS hj, ob, i01, z01, if_pos hin, e7_firstIn hS hj, e7_lastIn hS hj, e_markOf_in hS hj, gS.f hj, gS.l hj, e3, e3', fX0_childrenOf, e4, fX8_children, e4', e_marks hp (show 42 < 6000 by decide) hB, e8_boxesOf gS gp hr hc hj hq.2.1, e_sheetsIn hp (show 42 < 6000 by decide), e8_inBox gp, ov_any hr hq.2.1, e7, e7', e_size h7]
    by_cases c0 : x2 = 0
    · subst c0
      exact ⟨_, _, _, _, rfl, by rw [if_pos rfl, ex.1]; rfl, hR⟩
    · by_cases c1 : x2 = 1
      · subst c1
        exact ⟨_, _, _, _, rfl, by rw [if_neg c0, if_pos rfl, ex.2.1]; rfl, hR⟩
      · by_cases c2 : x2 = 2
        · subst c2
          exact ⟨_, _, _, _, rfl, by rw [if_neg c0, if_neg c1, if_pos rfl, ex.2.2]; rfl, hR⟩
        · simp only [if_neg c0, if_neg c1, if_neg c2]
          by_cases c3 : x2 = 3
          · exact ⟨_, _, _, _, if_pos c3, if_pos c3, hR⟩
          · simp only [if_neg c3]
            by_cases c4 : x2 = 4
            · exact ⟨_, _, _, _, if_pos c4, if_pos c4, hR⟩
            · simp only [if_neg c4]
              by_cases c5 : x2 = 5
              · exact ⟨_, _, _, _, if_pos c5, if_pos c5, hR⟩
              · simp only [if_neg c5]
                by_cases c6 : x2 = 6
                · exact ⟨_, _, _, _, if_pos c6, if_pos c6, hR⟩
                · simp only [if_neg c6]
                  by_cases c7 : x2 = 7
                  · exact ⟨_, _, _, _, if_pos c7, if_pos c7, ⟨⟨A, hs, hA, hC, hM, hH⟩, ⟨h7.sz, hZ.2⟩, hrest⟩⟩
                  · exact ⟨_, _, _, _, if_neg c7, if_neg c7, hR⟩
theorem sim_gap {D : Int} : S_gap (RR D) (RR D) := by
  intro c_archive_rooms c_archive_moveDays c_archive_day c_archive_series c_archive_pieces c_archive_trial c_archive_moves c_history_slots c_history_top c_history_steps c_planner_free c_planner_remaining c_planner_gaps c_planner_layings c_rows c_text_bytes c_text_verbs c_text_numbers c_text_length c_text_commandCount c_text_at c_page_signs c_page_length c_page_latest c_draft_signs c_draft_length c_draft_latest d_row d_undos d_list d_listed d_paper d_papers d_text d_length d_beside d_besides d_gapFirst d_gapLast d_laying d_layings d_free d_first d_behind d_numbers d_clauses d_words d_sorts d_shifted d_saved d_draft d_drafts x1 x2 x3 h
  have hR : RR D (c_archive_rooms, c_archive_moveDays, c_archive_day, c_archive_series, c_archive_pieces, c_archive_trial, c_archive_moves, c_history_slots, c_history_top, c_history_steps, c_planner_free, c_planner_remaining, c_planner_gaps, c_planner_layings, c_rows, c_text_bytes, c_text_verbs, c_text_numbers, c_text_length, c_text_commandCount, c_text_at, c_page_signs, c_page_length, c_page_latest, c_draft_signs, c_draft_length, c_draft_latest) (d_row, d_undos, d_list, d_listed, d_paper, d_papers, d_text, d_length, d_beside, d_besides, d_gapFirst, d_gapLast, d_laying, d_layings, d_free, d_first, d_behind, d_numbers, d_clauses, d_words, d_sorts, d_shifted, d_saved, d_draft, d_drafts) := h
  have h : R0 D c_archive_rooms c_archive_moveDays c_archive_day c_archive_series c_archive_pieces c_archive_moves c_history_slots c_history_top c_history_steps c_planner_gaps c_planner_layings c_rows c_text_bytes c_text_length c_page_signs c_page_length d_row d_undos d_list d_listed d_paper d_papers d_text d_length d_words d_sorts := h
  obtain ⟨⟨A, hs, hA, hC, hM, hH⟩, hZ, hrest⟩ := h
  have hS := hC.1
  have hp := hC.2.1
  have gS := hM.1
  have gp := hM.2.1
  have hr := hA.2.1.1
  have hc := hA.2.1.2.1
  have hleS := gS.1
  have hleP := gp.1
  unfold fX7_gap fX8_gap fX3_gaps
  rw [e8_isSeries gS]
  rcases ixc x1 A.1.length (by omega) with c | ⟨j, hj, rfl⟩
  · rw [e7_isSeries_out hS c]
    simp only [ob, i01, if_true, if_neg (show ¬ ¬ (x1 < 0 ∨ nI A.1.length ≤ x1) from fun z => z c)]
    exact ⟨-2, _, _, _, rfl, rfl, hR⟩
  · have hin := inn hj (show A.1.length < 2 ^ 31 by omega)
    have hb := hA.1.1.i (List.getElem_mem hj)
    obtain ⟨v7, e7, h7⟩ := e_findGaps hZ.1 hS hp hleP hj
    have hlen := @gaps_len (A.1[j]).2.2 A.2.1 (A.1[j]).2.1
    simp only [e7_isSeries_in hS hj, ob, i01, z01, if_pos hin, e7]
    generalize hG : gapsL (A.1[j]).2.2 (A.1[j]).2.1 A.2.1 = G at h7 hlen
    by_cases c0 : x2 < 0
    · rw [e_has_out h7 (Or.inl c0)]
      refine ⟨-2, _, _, _, rfl, by rw [if_pos c0], ?_⟩
      exact ⟨⟨A, hs, hA, hC, hM, hH⟩, ⟨h7.sz, hZ.2⟩, hrest⟩
    · obtain ⟨K, hK, rfl⟩ := nI_of c0
      rw [if_neg c0]
      have ei := imax_1 hb.1
      have key : ∃ r a c, fX8_findsGap d_row d_gapFirst d_gapLast (nI j) (nI K) = some (r, a, c) ∧ (∀ z, G[K]? = some z → r = 1 ∧ a = z.2.1 ∧ c = z.2.2) ∧ (G[K]? = none → r = 0) := by
        unfold fX8_findsGap
        cases G with
        | nil =>
          obtain ⟨a, b, ef⟩ := finds_nil gS gp hr hc hj d_gapFirst d_gapLast (x := 1) (by rw [ei]; omega) (by rw [ei]; omega) (by rw [ei]; exact hG)
          refine ⟨0, a, b, ?_, (fun z ez => by cases ez), (fun _ => rfl)⟩
          rw [ef, ob, show FU = 5999 + 1 from rfl, fX8_findsGap_10]
          by_cases c2 : nI K ≤ 0
          · rw [if_pos c2]; rfl
          · rw [if_neg c2, if_pos rfl]; rfl
        | cons q t =>
          obtain ⟨ef, _, _, _, _, et, b0, b1⟩ := finds_cons gS gp hr hc hA.1.1 hj d_gapFirst d_gapLast (x := 1) (by rw [ei]; omega) (by rw [ei]; omega) (by rw [ei]; exact hG)
          rw [List.length_cons] at hlen
          obtain ⟨r, a, b, e2, e3, e4⟩ := findsGap_loop gS gp hr hc hA.1.1 hj hK t FU 0 q b0 b1 et (by unfold FU; omega) (Nat.zero_le _)
          rw [nI_0, Nat.sub_zero] at *
          refine ⟨r, a, b, ?_, e3, e4⟩
          rw [ef, ob]
          exact e2
      obtain ⟨r, a, b, e1, e2, e3⟩ := key
      rw [e1]
      by_cases c1 : K < G.length
      · obtain ⟨rfl, rfl, rfl⟩ := e2 _ (List.getElem?_eq_getElem c1)
        rw [e_has_in h7 c1, e_firstOf_in h7 c1, e_lastOf_in h7 c1]
        simp only [ob, z01]
        by_cases d0 : x3 = 0
        · refine ⟨_, _, _, _, by rw [if_pos d0, if_pos d0], by rw [if_pos d0], ?_⟩
          exact ⟨⟨A, hs, hA, hC, hM, hH⟩, ⟨h7.sz, hZ.2⟩, hrest⟩
        · by_cases d1 : x3 = 1
          · refine ⟨_, _, _, _, by rw [if_neg d0, if_pos d1, if_neg d0], by rw [if_neg d0, if_pos d1], ?_⟩
            exact ⟨⟨A, hs, hA, hC, hM, hH⟩, ⟨h7.sz, hZ.2⟩, hrest⟩
          · refine ⟨_, _, _, _, by rw [if_neg d0, if_neg d1], by rw [if_neg d0, if_neg d1], ?_⟩
            exact ⟨⟨A, hs, hA, hC, hM, hH⟩, ⟨h7.sz, hZ.2⟩, hrest⟩
      · have := e3 (List.getElem?_eq_none (by omega))
        subst this
        rw [e_has_out h7 (Or.inr (nI_le (by omega) (by omega)))]
        refine ⟨_, _, _, _, rfl, rfl, ?_⟩
        exact ⟨⟨A, hs, hA, hC, hM, hH⟩, ⟨h7.sz, hZ.2⟩, hrest⟩
