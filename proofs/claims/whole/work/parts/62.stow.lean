/-! stow -/
theorem plc_hit {x : Int32} {l : List Tr} (hb : ∀ q ∈ l, isBx q.1) {q : Tr} (hq : q ∈ l) (h : ¬ x < q.2.1 ∧ ¬ q.2.2 < x) : plc x l ≠ -1 := by
  induction l with
  | nil => exact absurd hq List.not_mem_nil
  | cons p l ih =>
    rw [plc]
    by_cases c : ¬ x < p.2.1 ∧ ¬ p.2.2 < x
    · rw [if_pos c]; exact (hb p List.mem_cons_self).m1
    · rw [if_neg c]
      rcases List.mem_cons.mp hq with e | e
      · subst e; exact absurd h c
      · exact ih (fun z hz => hb z (List.mem_cons_of_mem _ hz)) e
theorem free_inZ {y a b : Int32} {P : List Tr} (hP : okP P) (h : ∀ x : Int32, ¬ x < a → ¬ b < x → plc x P = -1) : inZ y a b P = 0 := by
  unfold inZ
  have e : ∀ q ∈ P, (if q.1 = y then max 0 (min b.toInt q.2.2.toInt - max a.toInt q.2.1.toInt + 1) else 0) = 0 := by
    intro q hq
    by_cases c : q.1 = y
    · rw [if_pos c]
      have h1 := hP.1.i hq
      by_cases c2 : max a.toInt q.2.1.toInt ≤ min b.toInt q.2.2.toInt
      · exfalso
        have e := @imax_i a q.2.1
        refine plc_hit hP.2.2 hq (x := imax a q.2.1) ⟨?_, ?_⟩ (h _ ?_ ?_) <;> rw [i32lt] <;> omega
      · omega
    · rw [if_neg c]
  rw [sumZ_congr e]
  clear e
  induction P with
  | nil => rfl
  | cons q P ih => rw [sumZ, ih (canonT hP) (fun x h1 h2 => ?_)]; rfl; exact (by
      have := h x h1 h2
      rw [plc] at this
      by_cases c : ¬ x < q.2.1 ∧ ¬ q.2.2 < x
      · rw [if_pos c] at this; exact absurd this (hP.2.2 q List.mem_cons_self).m1
      · rw [if_neg c] at this; exact this)
theorem laid_plc {x box a b : Int32} (hrg : rgI a b) (hb : box ≠ -1) {P : List Tr} (hP : okP P) : plc x (laid box a b P) = if ¬ x < a ∧ ¬ b < x then box else plc x P := by
  have hs := canon_srt hP.1 hP.2.1
  unfold laid
  rw [mgL_plc (cut_okR hrg hP.1) (cut_srt hrg hs), cut_plc hrg hb hP.1 hs]
/-- what is left to be laid -/
def layQ (B : AS) (W : List Tr) : Prop := srt W ∧ (∀ w ∈ W, rgI w.2.1 w.2.2 ∧ isBx w.1 ∧ ∀ x : Int32, ¬ x < w.2.1 → ¬ w.2.2 < x → plc x B.2.1 = -1) ∧ ∀ j, j < 8 → loadZ (nI j) B.2.1 + loadZ (nI j) W ≤ (B.2.2.2.1 j).toInt
theorem layQ_of {A : AS} {V : List Tr} (h : layP A V) : layQ A V := by
  refine ⟨h.1, fun w hw => ⟨(h.2.1 w hw).1, (h.2.1 w hw).2.1, fun x h1 h2 => ?_⟩, h.2.2⟩
  refine plc_none (fun q hq z => ?_)
  rw [i32lt] at h1 h2
  rw [i32lt, i32lt] at z
  rcases (h.2.1 w hw).2.2 q hq with y | y <;> omega
theorem layQ_step {D : Int} {B : AS} {w : Tr} {W : List Tr} (hB : okA D B) (h : layQ B (w :: W)) (d : Int32) : (∀ j : Nat, j < 8 → nI j = w.1 → loadZ (nI j) (laid w.1 w.2.1 w.2.2 B.2.1) ≤ (B.2.2.2.1 j).toInt) ∧ layQ (B.1, laid w.1 w.2.1 w.2.2 B.2.1, B.2.2.1 ++ [(d, (w.1, w.2.1, w.2.2))], B.2.2.2.1, B.2.2.2.2) W := by
  have hw := h.2.1 w List.mem_cons_self
  have hP := hB.2.1
  have hs := List.pairwise_cons.mp h.1
  have hWr : okR W := okR_i (fun z hz => (h.2.1 z (List.mem_cons_of_mem _ hz)).1)
  have hload : ∀ j, j < 8 → loadZ (nI j) (laid w.1 w.2.1 w.2.2 B.2.1) + loadZ (nI j) W ≤ (B.2.2.2.1 j).toInt := by
    intro j hj
    have := h.2.2 j hj
    rw [laid_load hw.1 hP (nI_m1 (by omega)), free_inZ hP hw.2.2]
    rw [loadZ] at this
    by_cases c : w.1 = nI j
    · rw [if_pos c] at this
      rw [if_pos c.symm]
      omega
    · rw [if_neg c] at this
      rw [if_neg (fun e => c e.symm)]
      omega
  refine ⟨fun j hj e => ?_, hs.2, fun z hz => ?_, hload⟩
  · have := hload j hj
    have := loadZ_nn (x := nI j) hWr
    omega
  · have hz2 := h.2.1 z (List.mem_cons_of_mem _ hz)
    refine ⟨hz2.1, hz2.2.1, fun x h1 h2 => ?_⟩
    show plc x (laid w.1 w.2.1 w.2.2 B.2.1) = -1
    have h3 := hs.1 z hz
    rw [laid_plc hw.1 hw.2.1.m1 hP, if_neg (fun y => by
      have y2 := y.2
      rw [i32lt] at h1 y2
      omega)]
    exact hz2.2.2 x h1 h2
theorem stow_loop {D : Int} {rooms : Nat → Int32} {day : Int32} {series vl : Rg} {gl : Nat → Int32} {V : List Tr} (hv : isL 49 vl V) (hy : isY gl V) (k7 : Int32 → (Nat → Int32) → Rg → Rg → Rg → Option (Int32 × (Nat → Int32) × Rg × Rg × Rg)) (k8 : Int32 → Int32 → (Nat → Int32) → (Nat → Int32) → Int32 → Option (Int32 × (Nat → Int32) × (Nat → Int32) × Int32)) : ∀ (n i : Nat) (B : AS) (md : Nat → Int32) (pieces trial moves : Rg) (row be : Nat → Int32) (bs : Int32), i ≤ V.length → V.length + 1 < i + n → okA D B → clsA B rooms md day series pieces moves → modA B row → layQ B (V.drop i) → (∃ B' md' pieces' trial' moves' row' be' bs', fX0_layEach_2 49 day vl n k7 (nI i) md pieces trial moves = k7 (nI V.length) md' pieces' trial' moves' ∧ fX8_stows_4 gl (nI V.length) n k8 1 (nI i) row be bs = k8 1 (nI V.length) row' be' bs' ∧ okA D B' ∧ clsA B' rooms md' day series pieces' moves' ∧ modA B' row' ∧ (∀ k, 562 ≤ k → row' k = row k) ∧ B'.1 = B.1 ∧ B.2.2.1 <+: B'.2.2.1) ∨ (∃ B' md' pieces' trial' moves' x row' be' bs', fX0_layEach_2 49 day vl n k7 (nI i) md pieces trial moves = some (-5, md', pieces', trial', moves') ∧ fX8_stows_4 gl (nI V.length) n k8 1 (nI i) row be bs = k8 0 x row' be' bs' ∧ clsA B' rooms md' day series pieces' moves' ∧ (∀ k, 562 ≤ k → row' k = row k) ∧ B'.1 = B.1 ∧ B.2.2.1 <+: B'.2.2.1) := by
  have hb := hv.b
  have h49 := hv.1
  intro n
  induction n with
  | zero => intro i B md pieces trial moves row be bs h1 h2; omega
  | succ n ih =>
    intro i B md pieces trial moves row be bs hi hn hB hC hM hQ
    rw [fX0_layEach_2, fX8_stows_4, e_size hv, ob]
    by_cases c : i = V.length
    · have := (nI_geI (show V.length < 2 ^ 31 by omega) (by omega) hi).mpr c
      rw [if_pos this, if_pos this]
      subst c
      exact Or.inl ⟨B, md, pieces, trial, moves, row, be, bs, rfl, rfl, hB, hC, hM, fun _ _ => rfl, rfl, List.prefix_refl _⟩
    · have hlt : i < V.length := by omega
      have := fun z => c ((nI_geI (show V.length < 2 ^ 31 by omega) (show i < 2 ^ 31 by omega) hi).mp z)
      have hc := hy i hlt
      rw [List.drop_eq_getElem_cons hlt] at hQ
      have hw := hQ.2.1 _ List.mem_cons_self
      obtain ⟨m, hm, em⟩ := hw.2.1.n
      have e4 : nI (3 * i) + 2 = nI (3 * i + 2) := nI_add (3 * i) 2
      have hst := layQ_step hB hQ B.2.2.2.2
      obtain ⟨g', ef, hg'⟩ := fits_lay (g := be) (n := bs) hM hB.2.1 hw.1 hm
      rw [if_neg this, if_neg this, e_markOf_in hv hlt, ob, e_firstOf_in hv hlt, ob, e_lastOf_in hv hlt, ob, if_neg (show ¬ (1 : Int32) = 0 by decide), m3, nI_1, nI_1, e4, ld_nI (by omega) (by omega), ob, ld_nI (by omega) (by omega), ob, ld_nI (by omega) (by omega), ob, hc.1, hc.2.1, hc.2.2]
      obtain ⟨trial', ⟨c1, c2, md', p', mv', eb, hC'⟩ | ⟨c1, eb⟩⟩ := e_bring (trial := trial) hC hM.2.1.1 hB.2.1 hw.1 (V[i]).1
      · have hfit : fX8_fits row be bs (V[i]).2.1 (V[i]).2.2 (V[i]).1 = some (1, g', nI (laid (V[i]).1 (V[i]).2.1 (V[i]).2.2 B.2.1).length) := by
          have hld := hst.1 m hm em.symm
          rw [em] at c1 hld ⊢
          rw [ef, if_pos ⟨hld, c1, c2⟩]
        rw [← em] at hg'
        obtain ⟨row1, er, hM1, hfar⟩ := moves_ok (a := (V[i]).2.1) (b := (V[i]).2.2) (box := (V[i]).1) hM hg' c1 c2
        have hB1 := okA_bring hB hw.1 (Or.inr hw.2.1) hst.1 B.2.2.2.2
        rw [eb, ob, hfit, ob, if_neg (show ¬ (1 : Int32) = 0 by decide), if_neg (show ¬ (1 : Int32) = 0 by decide), ob, ob, ob, er, ob]
        rcases ih (i + 1) _ md' p' trial' mv' row1 g' (nI (laid (V[i]).1 (V[i]).2.1 (V[i]).2.2 B.2.1).length) (by omega) (by omega) hB1 hC' hM1 hst.2 with ⟨B2, a1, a2, a3, a4, a5, a6, a7, b1, b2, b3, b4, b5, b6, b7, b8⟩ | ⟨B2, a1, a2, a3, a4, a5, a6, a7, a8, b1, b2, b3, b4, b5, b6⟩
        · exact Or.inl ⟨B2, a1, a2, a3, a4, a5, a6, a7, b1, b2, b3, b4, b5, fun k hk => (b6 k hk).trans (hfar k hk), b7, (List.prefix_append _ _).trans b8⟩
        · exact Or.inr ⟨B2, a1, a2, a3, a4, a5, a6, a7, a8, b1, b2, b3, fun k hk => (b4 k hk).trans (hfar k hk), b5, (List.prefix_append _ _).trans b6⟩
      · right
        have hfit : fX8_fits row be bs (V[i]).2.1 (V[i]).2.2 (V[i]).1 = some (0, g', nI (laid (nI m) (V[i]).2.1 (V[i]).2.2 B.2.1).length) := by
          rw [em] at c1 ⊢
          rw [ef, if_neg (fun z => c1 z.2)]
        rw [eb, ob, if_pos rfl, hfit, ob, if_pos rfl]
        obtain ⟨n, rfl⟩ : ∃ k, n = k + 1 := ⟨n - 1, by omega⟩
        rw [fX8_stows_4]
        refine ⟨B, md, pieces, trial', moves, nI (i + 1), row, g', nI (laid (nI m) (V[i]).2.1 (V[i]).2.2 B.2.1).length, rfl, ?_, hC, fun _ _ => rfl, rfl, List.prefix_refl _⟩
        by_cases c3 : nI V.length ≤ nI (i + 1)
        · rw [if_pos c3]
        · rw [if_neg c3, if_pos rfl]
def cpR (f g : Nat → Int32) (i : Nat) : Nat → Int32 := fun k => if k < i then f k else g k
theorem copyRow_ok {N M : Nat} {f g : Nat → Int32} (hN : 562 ≤ N) (hM : 562 ≤ M) (hN2 : N < 2 ^ 31) (hM2 : M < 2 ^ 31) : fX8_copyRow N M f g = some (cpR f g 562) := by
  have key : ∀ (n i : Nat), i ≤ 562 → 562 < i + n → fX8_copyRow_2 N M f n (fun _ g => some g) (nI i) (cpR f g i) = some (cpR f g 562) := by
    intro n
    induction n with
    | zero => intro i h1 h2; omega
    | succ n ih =>
      intro i h1 h2
      rw [fX8_copyRow_2]
      by_cases c : i = 562
      · subst c
        rw [n562, if_pos (nI_le (Nat.le_refl _) (by omega))]
      · rw [n562, if_neg (nI_ge (by omega) (by omega)), ld_nI (by omega) hN2, ob, sv_nI (by omega) hM2, ob, nI_1, ← ih (i + 1) (by omega) (by omega)]
        congr 1
        funext j
        unfold cpR
        by_cases e : j = i
        · subst e
          rw [pk_us, if_pos (by omega)]
        · rw [pk_un e]
          by_cases z : j < i
          · rw [if_pos z, if_pos (by omega)]
          · rw [if_neg z, if_neg (by omega)]
  unfold fX8_copyRow
  have := key FU 0 (by omega) (by unfold FU; omega)
  rw [nI_0] at this
  have e0 : cpR f g 0 = g := by
    funext j
    unfold cpR
    rw [if_neg (by omega)]
  rw [e0] at this
  exact this
theorem sim_stow {D : Int} : S_stow (RR D) (RR D) := by
  intro c_archive_rooms c_archive_moveDays c_archive_day c_archive_series c_archive_pieces c_archive_trial c_archive_moves c_history_slots c_history_top c_history_steps c_planner_free c_planner_remaining c_planner_gaps c_planner_layings c_rows c_text_bytes c_text_verbs c_text_numbers c_text_length c_text_commandCount c_text_at c_page_signs c_page_length c_page_latest c_draft_signs c_draft_length c_draft_latest d_row d_undos d_list d_listed d_paper d_papers d_text d_length d_beside d_besides d_gapFirst d_gapLast d_laying d_layings d_free d_first d_behind d_numbers d_clauses d_words d_sorts d_shifted d_saved d_draft d_drafts x1 h
  have hR : RR D (c_archive_rooms, c_archive_moveDays, c_archive_day, c_archive_series, c_archive_pieces, c_archive_trial, c_archive_moves, c_history_slots, c_history_top, c_history_steps, c_planner_free, c_planner_remaining, c_planner_gaps, c_planner_layings, c_rows, c_text_bytes, c_text_verbs, c_text_numbers, c_text_length, c_text_commandCount, c_text_at, c_page_signs, c_page_length, c_page_latest, c_draft_signs, c_draft_length, c_draft_latest) (d_row, d_undos, d_list, d_listed, d_paper, d_papers, d_text, d_length, d_beside, d_besides, d_gapFirst, d_gapLast, d_laying, d_layings, d_free, d_first, d_behind, d_numbers, d_clauses, d_words, d_sorts, d_shifted, d_saved, d_draft, d_drafts) := h
  have h : R0 D c_archive_rooms c_archive_moveDays c_archive_day c_archive_series c_archive_pieces c_archive_moves c_history_slots c_history_top c_history_steps c_planner_gaps c_planner_layings c_rows c_text_bytes c_text_length c_page_signs c_page_length d_row d_undos d_list d_listed d_paper d_papers d_text d_length d_words d_sorts := h
  obtain ⟨⟨A, hs, hA, hC, hM, hH⟩, hZ, hrest⟩ := h
  have hleS := hM.1.1
  unfold fX7_stow fX8_stow fX3_layings fX0_layEach
  rw [e8_isSeries hM.1, ob, i01]
  rcases ixc x1 A.1.length (by omega) with c | ⟨j, hj, rfl⟩
  · rw [e7_isSeries_out hC.1 c, ob, if_pos rfl, if_neg (show ¬ ¬ (x1 < 0 ∨ nI A.1.length ≤ x1) from fun z => z c)]
    exact ⟨_, _, _, _, _, _, _, _, _, _, _, _, _, _, _, _, _, _, _, _, _, _, _, _, _, rfl, rfl, hR⟩
  · obtain ⟨h8, es, eu, t, ht, et⟩ := hist_steps hH
    subst es eu et
    obtain ⟨slots', er, hsn, hse⟩ := remember_ok (slots := c_history_slots) hC hM.2.1.1 ht
    obtain ⟨f7, rem, vg', vl', gf, gl, g8, f8, V, e7, e8, hvg, hvl, hy, hrem, hlay⟩ := plan_sim hA hC hM hZ hj c_planner_free c_planner_remaining d_gapFirst d_gapLast d_laying d_layings d_free
    have hV49 := hvl.1
    have hfix : ∀ row' : Nat → Int32, (∀ k, 562 ≤ k → row' k = d_row k) → cpR (cpR d_row d_saved 562) row' 562 = d_row := by
      intro row' hf
      funext k
      unfold cpR
      by_cases c : k < 562
      · rw [if_pos c, if_pos c]
      · rw [if_neg c]; exact hf k (by omega)
    rw [e7_isSeries_in hC.1 hj, ob, if_neg (show ¬ (1 : Int32) = 0 by decide), if_pos (inn hj (by omega)), e7, ob, er, ob, ob, e8, ob, copyRow_ok (by omega) (by omega) (by omega) (by omega), ob]
    have hloop := fun row (hrow : modA A row) be bs => stow_loop (D := D) hvl hy (fun x2_2 g_moveDays_2 v_pieces_2 v_trial_2 v_moves_2 => (fX4_size 49 vl').bind fun r42 => some (r42, g_moveDays_2, v_pieces_2, v_trial_2, v_moves_2)) (fun x1_4 x2_4 g_row_4 g_beside_4 g_besides_4 => (bz x1_4).bind fun b92 => some (b92, g_row_4, g_beside_4, g_besides_4)) FU 0 A c_archive_moveDays c_archive_pieces c_archive_trial c_archive_moves row be bs (Nat.zero_le _) (by unfold FU; omega) hA hC hrow (layQ_of hlay)
    simp only [nI_0, e_size hvl, ob, show bz 1 = some 1 from rfl, show bz 0 = some 0 from rfl] at hloop
    rcases hloop d_row hM d_beside d_besides with ⟨B, md', p', tr', mv', row', be', bs', b1, b2, b3, b4, b5, b6, b7, b8⟩ | ⟨B, md', p', tr', mv', x, row', be', bs', b1, b2, b3, b4, b5, b6⟩
    · obtain ⟨rowk, ek, hk1, hk2⟩ := keepPast_ok hM hH.b h8
      have hMk := modA_ext hM hk1
      rcases hloop rowk hMk be' bs' with ⟨B2, md2, p2, tr2, mv2, row2, be2, bs2, d1, d2, d3, d4, d5, d6, d7, d8⟩ | ⟨B2, md2, p2, tr2, mv2, x, row2, be2, bs2, d1, d2, d3, d4, d5, d6⟩
      · rw [b1] at d1
        cases d1
        have es1 : fX8_stows d_row d_beside d_besides g8 (nI V.length) = some (1, row', be', bs') := by unfold fX8_stows; exact b2
        have es2 : fX8_stows rowk be' bs' g8 (nI V.length) = some (1, row2, be2, bs2) := by unfold fX8_stows; exact d2
        simp only [e_size hvl, ob]
        rw [b1, ob, settle_yes ht h8 (show 0 ≤ (nI V.length, md', p', tr', mv').1.toInt by show 0 ≤ (nI V.length).toInt; rw [nI_toInt (by omega)]; omega), ob]
        rw [es1, ob, copyRow_ok (by omega) (by omega) (by omega) (by omega), ob, if_neg (show ¬ (1 : Int32) = 0 by decide), hfix row' b6, ek, ob, es2, ob]
        exact ⟨_, _, _, _, _, _, _, _, _, _, _, _, _, _, _, _, _, _, _, _, _, _, _, _, _, rfl, rfl, ⟨⟨B2, _, d3, d4, d5, hist_yes ht hH hA (Int.le_refl _) (by rw [d7]; exact List.prefix_refl _) d8 hse hsn (blk_ext hk2 (fun k hk => d6 k hk))⟩, ⟨hvg, hvl.sz⟩, hrest⟩⟩
      · exfalso
        rw [b1] at d1
        have : nI V.length = -5 := (Prod.ext_iff.mp (Option.some.inj d1)).1
        exact nI_nneg (i := V.length) (by omega) (by rw [this]; decide)
    · have es1 : fX8_stows d_row d_beside d_besides g8 (nI V.length) = some (0, row', be', bs') := by unfold fX8_stows; exact b2
      have hW : clsW A md' c_archive_series mv' := by
        refine ⟨⟨_, hC.1, List.prefix_refl _⟩, ⟨_, b3.2.2.1, b6.map _⟩, fun i hi => ?_⟩
        have hl := b6.length_le
        rw [b3.2.2.2.1 i (by omega), b6.getElem hi]
      obtain ⟨a1, a2, a3, a4, a5, e3, hC'⟩ := settle_no (rooms := c_archive_rooms) (day := c_archive_day) (pieces := p') (steps := nI hs.length) (r := -5) ht (by decide) hsn hW
      simp only [e_size hvl, ob]
      rw [b1, ob, e3, ob, es1, ob, copyRow_ok (by omega) (by omega) (by omega) (by omega), ob, if_pos rfl, hfix row' b4]
      exact ⟨_, _, _, _, _, _, _, _, _, _, _, _, _, _, _, _, _, _, _, _, _, _, _, _, _, rfl, rfl, ⟨⟨A, hs, hA, hC', hM, hist_no ht hH hse (fun k _ => rfl)⟩, ⟨hvg, hvl.sz⟩, hrest⟩⟩
