/-! loops over rows; moves -/
theorem isL.b {N : Nat} {v : Rg} {l : List Tr} (h : isL N v l) : l.length < 2 ^ 30 := Nat.lt_of_le_of_lt h.1 h.2.1
theorem isP.b {g : Nat → Int32} {l : List Tr} (h : isP g l) : l.length < 2 ^ 30 := by have := h.1; omega
theorem isS.b {g : Nat → Int32} {l : List Tr} (h : isS g l) : l.length < 2 ^ 30 := by have := h.1; omega
theorem isM.b {g : Nat → Int32} {l : List (Int32 × Tr)} (h : isM g l) : l.length < 2 ^ 30 := by have := h.1; omega
theorem isM.c {g : Nat → Int32} {l : List (Int32 × Tr)} (h : isM g l) : ld 5058 g 2 = some (nI l.length) := by
  rw [n2, ld58 (by omega), h.2.1]
theorem isM.x {g : Nat → Int32} {l : List (Int32 × Tr)} (h : isM g l) {i j : Nat} (hi : i < l.length) (hj : j < 4) : ld 5058 g (162 + 4 * nI i + nI j) = some (g (162 + 4 * i + j)) := by
  have h1 := h.1
  rw [n162, n4, ix3, nI_add, ld58 (by omega)]
theorem isM.d {g : Nat → Int32} {l : List (Int32 × Tr)} (h : isM g l) {i : Nat} (hi : i < l.length) : ld 5058 g (162 + 4 * nI i) = some (l[i]).1 := by
  have h1 := h.1
  rw [n162, n4, ix3, ld58 (by omega), (h.2.2 i hi).1]
theorem isM.f {g : Nat → Int32} {l : List (Int32 × Tr)} (h : isM g l) {i : Nat} (hi : i < l.length) : ld 5058 g (162 + 4 * nI i + 1) = some (l[i]).2.2.1 := by
  rw [n1, h.x hi (by omega), (h.2.2 i hi).2.1]
theorem isM.l {g : Nat → Int32} {l : List (Int32 × Tr)} (h : isM g l) {i : Nat} (hi : i < l.length) : ld 5058 g (162 + 4 * nI i + 2) = some (l[i]).2.2.2 := by
  rw [n2, h.x hi (by omega), (h.2.2 i hi).2.2.1]
theorem isM.m {g : Nat → Int32} {l : List (Int32 × Tr)} (h : isM g l) {i : Nat} (hi : i < l.length) : ld 5058 g (162 + 4 * nI i + 3) = some (l[i]).2.1 := by
  rw [n3, h.x hi (by omega), (h.2.2 i hi).2.2.2]
/-- a sheet within a range -/
def hs (x : Int32) (q : Tr) : Prop := ¬ x < q.2.1 ∧ ¬ q.2.2 < x
theorem hs_dec (x : Int32) (q : Tr) : (q.2.1 ≤ x ∧ x ≤ q.2.2) ↔ (¬ x < q.2.1 ∧ ¬ q.2.2 < x) := by rw [i32le, i32le, i32lt, i32lt]; omega
theorem hs_if {α : Type} (x : Int32) (q : Tr) (A B : α) : (if q.2.1 ≤ x ∧ x ≤ q.2.2 then A else B) = if ¬ x < q.2.1 ∧ ¬ q.2.2 < x then A else B := by
  by_cases c : ¬ x < q.2.1 ∧ ¬ q.2.2 < x
  · rw [if_pos c, if_pos ((hs_dec x q).mpr c)]
  · rw [if_neg c, if_neg (fun z => c ((hs_dec x q).mp z))]
theorem isM.mv {g : Nat → Int32} {l : List (Int32 × Tr)} (h : isM g l) {i : Nat} (hi : i < l.length) (x : Int32) : fX8_isMoved g (nI i) x = some (if ¬ x < (l[i]).2.2.1 ∧ ¬ (l[i]).2.2.2 < x then 1 else 0) := by
  unfold fX8_isMoved
  rw [h.f hi, ob, h.l hi, ob, e8_in32, ob, bz01, ob, hs_if]
theorem sim_move {D : Int} : S_move (RR D) (RR D) := by
  intro c_archive_rooms c_archive_moveDays c_archive_day c_archive_series c_archive_pieces c_archive_trial c_archive_moves c_history_slots c_history_top c_history_steps c_planner_free c_planner_remaining c_planner_gaps c_planner_layings c_rows c_text_bytes c_text_verbs c_text_numbers c_text_length c_text_commandCount c_text_at c_page_signs c_page_length c_page_latest c_draft_signs c_draft_length c_draft_latest d_row d_undos d_list d_listed d_paper d_papers d_text d_length d_beside d_besides d_gapFirst d_gapLast d_laying d_layings d_free d_first d_behind d_numbers d_clauses d_words d_sorts d_shifted d_saved d_draft d_drafts x1 x2 h
  have hR : RR D (c_archive_rooms, c_archive_moveDays, c_archive_day, c_archive_series, c_archive_pieces, c_archive_trial, c_archive_moves, c_history_slots, c_history_top, c_history_steps, c_planner_free, c_planner_remaining, c_planner_gaps, c_planner_layings, c_rows, c_text_bytes, c_text_verbs, c_text_numbers, c_text_length, c_text_commandCount, c_text_at, c_page_signs, c_page_length, c_page_latest, c_draft_signs, c_draft_length, c_draft_latest) (d_row, d_undos, d_list, d_listed, d_paper, d_papers, d_text, d_length, d_beside, d_besides, d_gapFirst, d_gapLast, d_laying, d_layings, d_free, d_first, d_behind, d_numbers, d_clauses, d_words, d_sorts, d_shifted, d_saved, d_draft, d_drafts) := h
  have h : R0 D c_archive_rooms c_archive_moveDays c_archive_day c_archive_series c_archive_pieces c_archive_moves c_history_slots c_history_top c_history_steps c_planner_gaps c_planner_layings c_rows c_text_bytes c_text_length c_page_signs c_page_length d_row d_undos d_list d_listed d_paper d_papers d_text d_length d_words d_sorts := h
  obtain ⟨⟨A, hs, hA, hC, hM, hH⟩, -⟩ := h
  have hp := hC.2.2.1
  have hd := hC.2.2.2.1
  have hq := hM.2.2.1
  have hle := hq.1
  have hlen : (A.2.2.1.map Prod.snd).length = A.2.2.1.length := List.length_map _
  unfold fX7_move fX8_move fX0_moves
  simp only [hq.c, ob, e8_in0 x1 _ (show A.2.2.1.length < 2 ^ 31 by omega), i01]
  rcases ixc x1 A.2.2.1.length (by omega) with c | ⟨j, hj, rfl⟩
  · refine ⟨-2, ?_, ?_, hR⟩
    · rw [e_has_out hp (by rw [hlen]; exact c)]; rfl
    · rw [if_neg (fun z => z c)]
  · have hin := inn hj (show A.2.2.1.length < 2 ^ 31 by omega)
    have hj' : j < (A.2.2.1.map Prod.snd).length := by omega
    have eday : fX0_dayOf c_archive_moveDays (nI j) = some (A.2.2.1[j]).1 := by
      unfold fX0_dayOf
      rw [if_neg (nI_nneg (by omega)), if_neg (nI_ge (by omega) (by omega)), ld_nI (by omega) (by omega), ob, hd j hj]
    simp only [e_has_in hp hj', ob, z01, if_pos hin, e_firstOf_in hp hj', e_lastOf_in hp hj', e_markOf_in hp hj', List.getElem_map, eday]
    rw [show (3 : Int64) = (3 : Int32).toInt64 from by decide, zero64, e8_in32]
    simp only [ob, i01]
    by_cases c0 : x2 = 0
    · subst c0
      exact ⟨(A.2.2.1[j]).1, rfl, by rw [if_pos (by decide), Int32.add_zero, hq.d hj]; rfl, hR⟩
    · by_cases c1 : x2 = 1
      · subst c1
        exact ⟨(A.2.2.1[j]).2.2.1, rfl, by rw [if_pos (by decide), hq.f hj]; rfl, hR⟩
      · by_cases c2 : x2 = 2
        · subst c2
          exact ⟨(A.2.2.1[j]).2.2.2, rfl, by rw [if_pos (by decide), hq.l hj]; rfl, hR⟩
        · by_cases c3 : x2 = 3
          · subst c3
            exact ⟨(A.2.2.1[j]).2.1, rfl, by rw [if_pos (by decide), hq.m hj]; rfl, hR⟩
          · refine ⟨-3, ?_, ?_, hR⟩
            · rw [if_neg c0, if_neg c1, if_neg c2, if_neg c3]
            · rw [if_neg]
              rintro ⟨z1, z2⟩
              rw [i32le] at z1 z2
              rw [i32eq] at c0 c1 c2 c3
              rw [show (3 : Int32).toInt = 3 from rfl] at z2 c3
              rw [show (2 : Int32).toInt = 2 from rfl] at c2
              rw [show (1 : Int32).toInt = 1 from rfl] at c1
              rw [show (0 : Int32).toInt = 0 from rfl] at z1 c0
              omega
/-- the last move up to a day that brought the sheet tells its box -/
def wasF (x1 x2 : Int32) (b : Int32) (q : Int32 × Tr) : Int32 := if x2 < q.1 then b else if ¬ x1 < q.2.2.1 ∧ ¬ q.2.2.2 < x1 then q.2.1 else b
theorem was8_loop {g : Nat → Int32} {l : List (Int32 × Tr)} (h : isM g l) (x1 x2 : Int32) (k : Int32 → Int32 → Option Int32) : ∀ (n i : Nat) (b : Int32), i ≤ l.length → l.length < i + n → fX8_was_19 g x1 x2 n k b (nI i) = k ((l.drop i).foldl (wasF x1 x2) b) (nI l.length) := by
  have hb : l.length < 2 ^ 30 := h.b
  intro n
  induction n with
  | zero => intro i b h1 h2; omega
  | succ n ih =>
    intro i b hi hn
    rw [fX8_was_19]
    simp only [h.c, ob]
    by_cases c : i = l.length
    · rw [if_pos ((nI_geI (by omega) (by omega) hi).mpr c)]
      subst c
      rw [List.drop_length]; rfl
    · have hlt : i < l.length := by omega
      rw [if_neg (fun z => c ((nI_geI (by omega) (by omega) hi).mp z))]
      have ih := fun b => ih (i + 1) b (by omega) (by omega)
      simp only [h.d hlt, h.m hlt, h.mv hlt, ob, i01, nI_1, ih]
      rw [List.drop_eq_getElem_cons hlt, List.foldl_cons, wasF]; (repeat' split) <;> rfl
theorem was7_loop {md : Nat → Int32} {v : Rg} {l : List (Int32 × Tr)} (h : isL 100 v (l.map Prod.snd)) (hd : ∀ (i : Nat) (h : i < l.length), md i = (l[i]).1) (x1 x2 : Int32) : ∀ (i n : Nat), i ≤ l.length → i < n → fX0_placeOn_10 md v x1 x2 n (fun _ => some (-1)) (nI i - 1) = some ((l.take i).foldl (wasF x1 x2) (-1)) := by
  have hb := h.1
  have hlen : (l.map Prod.snd).length = l.length := List.length_map _
  intro i
  induction i with
  | zero =>
    intro n h1 h2
    obtain ⟨n, rfl⟩ : ∃ m, n = m + 1 := ⟨n - 1, by omega⟩
    rw [fX0_placeOn_10, if_pos (by decide)]
    rfl
  | succ i ih =>
    intro n h1 h2
    obtain ⟨n, rfl⟩ : ∃ m, n = m + 1 := ⟨n - 1, by omega⟩
    have hi : i < l.length := by omega
    have hi' : i < (l.map Prod.snd).length := by omega
    have eday : fX0_dayOf md (nI i) = some (l[i]).1 := by
      unfold fX0_dayOf
      rw [if_neg (nI_nneg (by omega)), if_neg (nI_ge (by omega) (by omega)), ld_nI (by omega) (by omega), ob, hd i hi]
    rw [fX0_placeOn_10, nI_pred, if_neg (nI_nneg (by omega)), eday, ob, e_includes h hi', e_markOf_in h hi']
    have ih := ih n (by omega) (by omega)
    have em : nI i + (-1) = nI i - 1 := by rw [Int32.sub_eq_add_neg]
    simp only [ob, i01, em, ih, List.getElem_map]
    rw [List.take_succ_eq_append_getElem hi, List.foldl_append, List.foldl_cons, List.foldl_nil, wasF]
    (repeat' split) <;> rfl
theorem sim_was {D : Int} : S_was (RR D) (RR D) := by
  intro c_archive_rooms c_archive_moveDays c_archive_day c_archive_series c_archive_pieces c_archive_trial c_archive_moves c_history_slots c_history_top c_history_steps c_planner_free c_planner_remaining c_planner_gaps c_planner_layings c_rows c_text_bytes c_text_verbs c_text_numbers c_text_length c_text_commandCount c_text_at c_page_signs c_page_length c_page_latest c_draft_signs c_draft_length c_draft_latest d_row d_undos d_list d_listed d_paper d_papers d_text d_length d_beside d_besides d_gapFirst d_gapLast d_laying d_layings d_free d_first d_behind d_numbers d_clauses d_words d_sorts d_shifted d_saved d_draft d_drafts x1 x2 h
  have hR : RR D (c_archive_rooms, c_archive_moveDays, c_archive_day, c_archive_series, c_archive_pieces, c_archive_trial, c_archive_moves, c_history_slots, c_history_top, c_history_steps, c_planner_free, c_planner_remaining, c_planner_gaps, c_planner_layings, c_rows, c_text_bytes, c_text_verbs, c_text_numbers, c_text_length, c_text_commandCount, c_text_at, c_page_signs, c_page_length, c_page_latest, c_draft_signs, c_draft_length, c_draft_latest) (d_row, d_undos, d_list, d_listed, d_paper, d_papers, d_text, d_length, d_beside, d_besides, d_gapFirst, d_gapLast, d_laying, d_layings, d_free, d_first, d_behind, d_numbers, d_clauses, d_words, d_sorts, d_shifted, d_saved, d_draft, d_drafts) := h
  have h : R0 D c_archive_rooms c_archive_moveDays c_archive_day c_archive_series c_archive_pieces c_archive_moves c_history_slots c_history_top c_history_steps c_planner_gaps c_planner_layings c_rows c_text_bytes c_text_length c_page_signs c_page_length d_row d_undos d_list d_listed d_paper d_papers d_text d_length d_words d_sorts := h
  obtain ⟨⟨A, hs, hA, hC, hM, hH⟩, -⟩ := h
  have hp := hC.2.2.1
  have hd := hC.2.2.2.1
  have hq := hM.2.2.1
  have hle := hq.1
  have hlen : (A.2.2.1.map Prod.snd).length = A.2.2.1.length := List.length_map _
  have e1 := was7_loop hp hd x1 x2 A.2.2.1.length FU (Nat.le_refl _) (by unfold FU; omega)
  have e2 := was8_loop hq x1 x2 (fun x3 x4 => some x3) FU 0 (-1) (Nat.zero_le _) (FU_gt (by omega))
  rw [List.take_length] at e1
  rw [nI_0, List.drop_zero] at e2
  unfold fX7_was fX8_was fX0_placeOn
  simp only [e7_isSheet, e8_isSheet, ob, i01, e_size hp, hlen, e1, e2]
  by_cases c1 : 1 ≤ x1 ∧ x1 ≤ MAX
  · simp only [if_pos c1]
    by_cases c2 : x2 < 0
    · have c3 : ¬ 0 ≤ x2 := by rw [i32le]; rw [i32lt] at c2; omega
      exact ⟨-3, if_pos c2, if_neg c3, hR⟩
    · have c3 : 0 ≤ x2 := by rw [i32le]; rw [i32lt] at c2; omega
      exact ⟨_, if_neg c2, if_pos c3, hR⟩
  · simp only [if_neg c1]
    exact ⟨-3, rfl, rfl, hR⟩
theorem trail_loop {g : Nat → Int32} {v : Rg} {l : List (Int32 × Tr)} (h : isL 100 v (l.map Prod.snd)) (hm : isM g l) (x1 x2 : Int32) : ∀ (n i : Nat) (x3 x4 : Int32), i ≤ l.length → l.length < i + n → ∃ r, fX0_trailOf_8 v x1 x2 n (fun x3 x4 x5 => if x2 = (-1) then some x4 else some (-1)) x3 x4 (nI i) = some r ∧ fX8_trail_23 g x1 x2 n (fun x3 x4 x5 => if x2 = (-1) then some x4 else some (-1)) x3 x4 (nI i) = some r := by
  have hb := hm.b
  have hlen : (l.map Prod.snd).length = l.length := List.length_map _
  intro n
  induction n with
  | zero => intro i x3 x4 h1 h2; omega
  | succ n ih =>
    intro i x3 x4 hi hn
    rw [fX0_trailOf_8, fX8_trail_23, e_size h, hm.c, hlen]
    simp only [ob]
    by_cases c : i = l.length
    · have := (nI_geI (show l.length < 2 ^ 31 by omega) (by omega) hi).mpr c
      rw [if_pos this, if_pos this]
      by_cases c2 : x2 = -1
      · exact ⟨x4, if_pos c2, if_pos c2⟩
      · exact ⟨-1, if_neg c2, if_neg c2⟩
    · have hlt : i < l.length := by omega
      have hlt' : i < (l.map Prod.snd).length := by omega
      have := fun z => c ((nI_geI (show l.length < 2 ^ 31 by omega) (show i < 2 ^ 31 by omega) hi).mp z)
      have ih := fun x3 x4 => ih (i + 1) x3 x4 (by omega) (by omega)
      rw [if_neg this, if_neg this, e_includes h hlt', e_markOf_in h hlt', hm.mv hlt, hm.m hlt]
      simp only [ob, i01, nI_1, List.getElem_map, if_true]
      by_cases c1 : ¬ x1 < (l[i]).2.2.1 ∧ ¬ (l[i]).2.2.2 < x1
      · simp only [if_pos c1]
        by_cases c2 : (l[i]).2.1 = x3
        · simp only [if_pos c2]
          rw [c2]
          exact ih _ _
        · simp only [if_neg c2]
          by_cases c3 : x4 = x2
          · exact ⟨_, if_pos c3, if_pos c3⟩
          · simp only [if_neg c3]
            exact ih _ _
      · simp only [if_neg c1]
        exact ih _ _
theorem sim_trail {D : Int} : S_trail (RR D) (RR D) := by
  intro c_archive_rooms c_archive_moveDays c_archive_day c_archive_series c_archive_pieces c_archive_trial c_archive_moves c_history_slots c_history_top c_history_steps c_planner_free c_planner_remaining c_planner_gaps c_planner_layings c_rows c_text_bytes c_text_verbs c_text_numbers c_text_length c_text_commandCount c_text_at c_page_signs c_page_length c_page_latest c_draft_signs c_draft_length c_draft_latest d_row d_undos d_list d_listed d_paper d_papers d_text d_length d_beside d_besides d_gapFirst d_gapLast d_laying d_layings d_free d_first d_behind d_numbers d_clauses d_words d_sorts d_shifted d_saved d_draft d_drafts x1 x2 h
  have hR : RR D (c_archive_rooms, c_archive_moveDays, c_archive_day, c_archive_series, c_archive_pieces, c_archive_trial, c_archive_moves, c_history_slots, c_history_top, c_history_steps, c_planner_free, c_planner_remaining, c_planner_gaps, c_planner_layings, c_rows, c_text_bytes, c_text_verbs, c_text_numbers, c_text_length, c_text_commandCount, c_text_at, c_page_signs, c_page_length, c_page_latest, c_draft_signs, c_draft_length, c_draft_latest) (d_row, d_undos, d_list, d_listed, d_paper, d_papers, d_text, d_length, d_beside, d_besides, d_gapFirst, d_gapLast, d_laying, d_layings, d_free, d_first, d_behind, d_numbers, d_clauses, d_words, d_sorts, d_shifted, d_saved, d_draft, d_drafts) := h
  have h : R0 D c_archive_rooms c_archive_moveDays c_archive_day c_archive_series c_archive_pieces c_archive_moves c_history_slots c_history_top c_history_steps c_planner_gaps c_planner_layings c_rows c_text_bytes c_text_length c_page_signs c_page_length d_row d_undos d_list d_listed d_paper d_papers d_text d_length d_words d_sorts := h
  obtain ⟨⟨A, hs, hA, hC, hM, hH⟩, -⟩ := h
  have hle := hM.2.2.1.1
  obtain ⟨r, e1, e2⟩ := trail_loop hC.2.2.1 hM.2.2.1 x1 x2 FU 0 (-1) 0 (Nat.zero_le _) (FU_gt (by omega))
  rw [nI_0] at e1 e2
  unfold fX7_trail fX8_trail fX0_trailOf
  simp only [e7_isSheet, e8_isSheet, ob, i01, e1, e2]
  by_cases c1 : 1 ≤ x1 ∧ x1 ≤ MAX
  · simp only [if_pos c1]
    by_cases c2 : (-1) ≤ x2
    · exact ⟨_, if_pos c2, if_pos c2, hR⟩
    · exact ⟨-3, if_neg c2, if_neg c2, hR⟩
  · simp only [if_neg c1]
    exact ⟨-3, rfl, rfl, hR⟩
/-- pieces in order have no sheet in common -/
theorem canon_tail {p : Tr} {l : List Tr} (h : canon (p :: l)) : canon l := by
  cases l with
  | nil => trivial
  | cons q l => exact h.2
theorem canon_lt {p : Tr} {l : List Tr} (hr : okR (p :: l)) (h : canon (p :: l)) : ∀ q ∈ l, p.2.2.toInt < q.2.1.toInt := by
  induction l generalizing p with
  | nil => intro q hq; exact absurd hq List.not_mem_nil
  | cons q l ih =>
    intro r hr2
    rcases List.mem_cons.mp hr2 with e | e
    · rw [e]; exact h.1.1
    · have h1 := ih (fun z hz => hr z (List.mem_cons_of_mem _ hz)) h.2 r e
      have h2 := (hr q (List.mem_cons_of_mem _ List.mem_cons_self)).2.1
      rw [i32le] at h2
      have h3 := h.1.1
      omega
/-- where a sheet is -/
def plc (x : Int32) : List Tr → Int32
  | [] => -1
  | q :: l => if ¬ x < q.2.1 ∧ ¬ q.2.2 < x then q.1 else plc x l
def plF (x : Int32) (b : Int32) (q : Tr) : Int32 := if ¬ x < q.2.1 ∧ ¬ q.2.2 < x then q.1 else b
theorem plc_none {x : Int32} {l : List Tr} (h : ∀ q ∈ l, ¬ (¬ x < q.2.1 ∧ ¬ q.2.2 < x)) : plc x l = -1 := by
  induction l with
  | nil => rfl
  | cons q l ih => rw [plc, if_neg (h q List.mem_cons_self), ih (fun z hz => h z (List.mem_cons_of_mem _ hz))]
theorem plF_none {x b : Int32} {l : List Tr} (h : ∀ q ∈ l, ¬ (¬ x < q.2.1 ∧ ¬ q.2.2 < x)) : l.foldl (plF x) b = b := by
  induction l with
  | nil => rfl
  | cons q l ih => rw [List.foldl_cons, plF, if_neg (h q List.mem_cons_self), ih (fun z hz => h z (List.mem_cons_of_mem _ hz))]
theorem plF_plc {x : Int32} {l : List Tr} (hr : okR l) (h : canon l) : l.foldl (plF x) (-1) = plc x l := by
  induction l with
  | nil => rfl
  | cons q l ih =>
    rw [List.foldl_cons, plF, plc]
    by_cases c : ¬ x < q.2.1 ∧ ¬ q.2.2 < x
    · rw [if_pos c, if_pos c, plF_none]
      intro p hp hc
      have := canon_lt hr h p hp
      have c2 := c.2
      have c3 := hc.1
      rw [i32lt] at c2 c3
      omega
    · rw [if_neg c, if_neg c, ih (fun z hz => hr z (List.mem_cons_of_mem _ hz)) (canon_tail h)]
theorem where8_loop {g : Nat → Int32} {l : List Tr} (h : isP g l) (x1 : Int32) (k : Int32 → Int32 → Option Int32) : ∀ (n i : Nat) (b : Int32), i ≤ l.length → l.length < i + n → fX8_where_14 g x1 n k b (nI i) = k ((l.drop i).foldl (plF x1) b) (nI l.length) := by
  have hb : l.length < 2 ^ 30 := h.b
  intro n
  induction n with
  | zero => intro i b h1 h2; omega
  | succ n ih =>
    intro i b hi hn
    rw [fX8_where_14]
    simp only [h.c, ob]
    by_cases c : i = l.length
    · rw [if_pos ((nI_geI (by omega) (by omega) hi).mpr c)]
      subst c
      rw [List.drop_length]; rfl
    · have hlt : i < l.length := by omega
      rw [if_neg (fun z => c ((nI_geI (by omega) (by omega) hi).mp z))]
      have ih := fun b => ih (i + 1) b (by omega) (by omega)
      simp only [h.f hlt, h.m hlt, h.l hlt, e8_in32, hs_if, ob, i01, nI_1, ih]
      rw [List.drop_eq_getElem_cons hlt, List.foldl_cons, plF]; (repeat' split) <;> rfl
theorem where7_loop {v : Rg} {l : List Tr} (h : isL 42 v l) (x1 : Int32) : ∀ (n i : Nat) , i ≤ l.length → l.length < i + n → fX0_placeOf_2 v x1 n (fun _ => some (-1)) (nI i) = some (plc x1 (l.drop i)) := by
  have hb : l.length < 2 ^ 30 := h.b
  intro n
  induction n with
  | zero => intro i  h1 h2; omega
  | succ n ih =>
    intro i  hi hn
    rw [fX0_placeOf_2]
    simp only [e_size h, ob]
    by_cases c : i = l.length
    · rw [if_pos ((nI_geI (by omega) (by omega) hi).mpr c)]
      subst c
      rw [List.drop_length]; rfl
    · have hlt : i < l.length := by omega
      rw [if_neg (fun z => c ((nI_geI (by omega) (by omega) hi).mp z))]
      have ih := ih (i + 1) (by omega) (by omega)
      simp only [e_includes h hlt, e_markOf_in h hlt, ob, i01, nI_1, ih]
      rw [List.drop_eq_getElem_cons hlt, plc]; (repeat' split) <;> rfl
theorem sim_where {D : Int} : S_where (RR D) (RR D) := by
  intro c_archive_rooms c_archive_moveDays c_archive_day c_archive_series c_archive_pieces c_archive_trial c_archive_moves c_history_slots c_history_top c_history_steps c_planner_free c_planner_remaining c_planner_gaps c_planner_layings c_rows c_text_bytes c_text_verbs c_text_numbers c_text_length c_text_commandCount c_text_at c_page_signs c_page_length c_page_latest c_draft_signs c_draft_length c_draft_latest d_row d_undos d_list d_listed d_paper d_papers d_text d_length d_beside d_besides d_gapFirst d_gapLast d_laying d_layings d_free d_first d_behind d_numbers d_clauses d_words d_sorts d_shifted d_saved d_draft d_drafts x1 h
  have hR : RR D (c_archive_rooms, c_archive_moveDays, c_archive_day, c_archive_series, c_archive_pieces, c_archive_trial, c_archive_moves, c_history_slots, c_history_top, c_history_steps, c_planner_free, c_planner_remaining, c_planner_gaps, c_planner_layings, c_rows, c_text_bytes, c_text_verbs, c_text_numbers, c_text_length, c_text_commandCount, c_text_at, c_page_signs, c_page_length, c_page_latest, c_draft_signs, c_draft_length, c_draft_latest) (d_row, d_undos, d_list, d_listed, d_paper, d_papers, d_text, d_length, d_beside, d_besides, d_gapFirst, d_gapLast, d_laying, d_layings, d_free, d_first, d_behind, d_numbers, d_clauses, d_words, d_sorts, d_shifted, d_saved, d_draft, d_drafts) := h
  have h : R0 D c_archive_rooms c_archive_moveDays c_archive_day c_archive_series c_archive_pieces c_archive_moves c_history_slots c_history_top c_history_steps c_planner_gaps c_planner_layings c_rows c_text_bytes c_text_length c_page_signs c_page_length d_row d_undos d_list d_listed d_paper d_papers d_text d_length d_words d_sorts := h
  obtain ⟨⟨A, hs, hA, hC, hM, hH⟩, -⟩ := h
  have hp := hC.2.1
  have hq := hM.2.1
  have hle := hq.1
  have e1 := where7_loop hp x1 FU 0 (Nat.zero_le _) (FU_gt (by omega))
  have e2 := where8_loop hq x1 (fun x2 x3 => some x2) FU 0 (-1) (Nat.zero_le _) (FU_gt (by omega))
  rw [nI_0, List.drop_zero] at e1 e2
  rw [plF_plc hA.2.1.1 hA.2.1.2.1] at e2
  unfold fX7_where fX8_where fX0_placeOf
  simp only [e7_isSheet, e8_isSheet, ob, i01, e1, e2]
  by_cases c1 : 1 ≤ x1 ∧ x1 ≤ MAX
  · simp only [if_pos c1]
    exact ⟨_, rfl, rfl, hR⟩
  · simp only [if_neg c1]
    exact ⟨-3, rfl, rfl, hR⟩
