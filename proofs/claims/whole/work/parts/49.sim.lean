/-! the list: clashes; counts -/
def SN (f : Nat → Int32) : Nat → Int32
  | 0 => 0
  | i + 1 => SN f i + f i
theorem SN_congr {f g : Nat → Int32} {n : Nat} (h : ∀ i, i < n → f i = g i) : SN f n = SN g n := by
  induction n with
  | zero => rfl
  | succ n ih => rw [SN, SN, ih (fun i hi => h i (by omega)), h n (by omega)]
theorem SN_add {f g : Nat → Int32} {n : Nat} : SN (fun i => f i + g i) n = SN f n + SN g n := by
  induction n with
  | zero => rfl
  | succ n ih => rw [SN, SN, SN, ih]; grind
theorem SN_zero {n : Nat} : SN (fun _ => 0) n = 0 := by
  induction n with
  | zero => rfl
  | succ n ih => rw [SN, ih]; rfl
theorem SN_sumI {g : Nat → Tr → Int32} {P : List Tr} {n : Nat} : SN (fun x => sumI (g x) P) n = sumI (fun p => SN (fun x => g x p) n) P := by
  induction n with
  | zero => rw [SN]; exact sumI_zero.symm
  | succ n ih => rw [SN, ih, ← sumI_add]; rfl
theorem SN_tri {c : Nat → Nat → Int32} (hs : ∀ i j, c i j = c j i) (n : Nat) : SN (fun t => SN (c t) n - SN (c t) (t + 1)) n = SN (fun a => SN (c a) a) n := by
  induction n with
  | zero => rfl
  | succ n ih =>
    show SN (fun t => SN (c t) (n + 1) - SN (c t) (t + 1)) n + (SN (c n) (n + 1) - SN (c n) (n + 1)) = SN (fun a => SN (c a) a) n + SN (c n) n
    rw [← ih]
    have e : SN (fun t => SN (c t) (n + 1) - SN (c t) (t + 1)) n = SN (fun t => SN (c t) n - SN (c t) (t + 1)) n + SN (c n) n := by
      rw [← SN_add]
      refine SN_congr (fun i _ => ?_)
      rw [SN, hs n i]
      grind
    rw [e]
    grind
def clP (p q : Tr) : Prop := ¬ p.1 = q.1 ∧ ¬ q.2.2 < p.2.1 ∧ ¬ p.2.2 < q.2.1
theorem clP_comm {p q : Tr} : clP p q ↔ clP q p := by
  unfold clP
  constructor
  · rintro ⟨a, b, c⟩; exact ⟨fun e => a e.symm, c, b⟩
  · rintro ⟨a, b, c⟩; exact ⟨fun e => a e.symm, c, b⟩
theorem clP_self {p : Tr} : ¬ clP p p := fun h => h.1 rfl
noncomputable def clI (p q : Tr) : Int32 := @ite _ (clP p q) (Classical.propDecidable _) 1 0
theorem clI_comm {p q : Tr} : clI p q = clI q p := by
  unfold clI
  by_cases h : clP p q
  · rw [if_pos h, if_pos (clP_comm.mp h)]
  · rw [if_neg h, if_neg (fun z => h (clP_comm.mp z))]
theorem clI_01 {p q : Tr} : (clP p q ∧ clI p q = 1) ∨ (¬ clP p q ∧ clI p q = 0) := by
  unfold clI
  by_cases h : clP p q
  · rw [if_pos h]; exact Or.inl ⟨h, rfl⟩
  · rw [if_neg h]; exact Or.inr ⟨h, rfl⟩
theorem e7_clash {v : Rg} {l : List Tr} (h : isL 12 v l) {i j : Nat} (hi : i < l.length) (hj : j < l.length) : fX7_clash v (nI i) (nI j) = some (clI l[i] l[j]) := by
  unfold fX7_clash
  rw [e_markOf_in h hi, ob, e_markOf_in h hj, ob, e_firstOf_in h hj, ob, e_lastOf_in h hj, ob, e_meets h hi, ob, i01]
  rcases @clI_01 l[i] l[j] with ⟨c, e⟩ | ⟨c, e⟩
  · rw [e, if_neg c.1, if_pos ⟨c.2.1, c.2.2⟩]
  · rw [e]
    by_cases c1 : (l[i]).1 = (l[j]).1
    · rw [if_pos c1]
    · rw [if_neg c1, if_neg (fun z => c ⟨c1, z.1, z.2⟩)]
theorem rowsR.ld {l : List Tr} {rows : Rg} {list : Nat → Int32} {listed : Int32} (h : rowsR l rows list listed) {i : Nat} (hi : i < l.length) : ld 36 list (3 * nI i) = some (l[i]).1 ∧ ld 36 list (3 * nI i + 1) = some (l[i]).2.1 ∧ ld 36 list (3 * nI i + 2) = some (l[i]).2.2 := by
  have h1 := h.1.1
  have e := h.2.2.2.2 i hi
  have e3 : (3 : Int32) * nI i = nI (3 * i) := by rw [n3, pk_mul]
  rw [e3, nI_1, n2, nI_add, ld_nI (by omega) (by omega), ld_nI (by omega) (by omega), ld_nI (by omega) (by omega), e.1, e.2.1, e.2.2]
  exact ⟨rfl, rfl, rfl⟩
theorem e8_clash {l : List Tr} {rows : Rg} {list : Nat → Int32} {listed : Int32} (h : rowsR l rows list listed) {i j : Nat} (hi : i < l.length) (hj : j < l.length) : fX8_clash list (nI i) (nI j) = some (clI l[i] l[j]) := by
  unfold fX8_clash
  rw [(h.ld hi).1, (h.ld hi).2.1, (h.ld hi).2.2, (h.ld hj).1, (h.ld hj).2.1, (h.ld hj).2.2]
  simp only [ob, e8_common]
  have h1 := h.2.2.1.i (List.getElem_mem hi)
  have h2 := h.2.2.1.i (List.getElem_mem hj)
  have e2 : (cm (l[i]).2.1 (l[i]).2.2 (l[j]).2.1 (l[j]).2.2 ≤ 0) ↔ ¬ (¬ (l[j]).2.2 < (l[i]).2.1 ∧ ¬ (l[i]).2.2 < (l[j]).2.1) := by
    rw [i32le, cm_i h2.1 h2.2.2, t0, i32lt, i32lt]
    omega
  rcases @clI_01 l[i] l[j] with ⟨c, e⟩ | ⟨c, e⟩
  · rw [e, if_neg c.1, if_neg (fun z => e2.mp z ⟨c.2.1, c.2.2⟩)]
  · rw [e]
    by_cases c1 : (l[i]).1 = (l[j]).1
    · rw [if_pos c1]
    · rw [if_neg c1, if_pos (e2.mpr (fun z => c ⟨c1, z.1, z.2⟩))]
theorem low_clash {l : List Tr} {rows : Rg} {list : Nat → Int32} {listed : Int32} (h : rowsR l rows list listed) {r : Nat} (hr : r < l.length) : ∀ (n i : Nat), i ≤ l.length → l.length < i + n → ∃ z, fX7_lowestClash_2 rows (nI r) n (fun _ => some (-1)) (nI i) = some z ∧ fX8_clashOf_2 list listed (nI r) n (fun _ => some (-1)) (nI i) = some z := by
  have hb := h.1.b
  intro n
  induction n with
  | zero => intro i h1 h2; omega
  | succ n ih =>
    intro i hi hn
    rw [fX7_lowestClash_2, fX8_clashOf_2, e_size h.1, h.2.1]
    simp only [ob]
    by_cases c : i = l.length
    · have := (nI_geI (show l.length < 2 ^ 31 by omega) (by omega) hi).mpr c
      exact ⟨-1, if_pos this, if_pos this⟩
    · have hlt : i < l.length := by omega
      have := fun z => c ((nI_geI (show l.length < 2 ^ 31 by omega) (show i < 2 ^ 31 by omega) hi).mp z)
      have ih := ih (i + 1) (by omega) (by omega)
      rw [h.2.1] at ih
      rw [if_neg this, if_neg this, e7_clash h.1 hr hlt, e8_clash h hlt hr, ob, ob, nI_1]
      by_cases e : i = r
      · subst e
        rcases @clI_01 l[i] l[i] with ⟨c, _⟩ | ⟨_, e⟩
        · exact absurd c clP_self
        · rw [e, if_pos rfl, if_pos rfl]; exact ih
      · rw [if_neg (fun z => e ((nI_eq (by omega) (by omega)).mp z)), @clI_comm l[i]]
        rcases @clI_01 l[r] l[i] with ⟨_, e⟩ | ⟨_, e⟩
        · rw [e]; exact ⟨nI i, rfl, rfl⟩
        · rw [e]; exact ih
theorem sim_listed {D : Int} : S_listed (RR D) (RR D) := by
  intro c_archive_rooms c_archive_moveDays c_archive_day c_archive_series c_archive_pieces c_archive_trial c_archive_moves c_history_slots c_history_top c_history_steps c_planner_free c_planner_remaining c_planner_gaps c_planner_layings c_rows c_text_bytes c_text_verbs c_text_numbers c_text_length c_text_commandCount c_text_at c_page_signs c_page_length c_page_latest c_draft_signs c_draft_length c_draft_latest d_row d_undos d_list d_listed d_paper d_papers d_text d_length d_beside d_besides d_gapFirst d_gapLast d_laying d_layings d_free d_first d_behind d_numbers d_clauses d_words d_sorts d_shifted d_saved d_draft d_drafts x1 x2 h
  have hR : RR D (c_archive_rooms, c_archive_moveDays, c_archive_day, c_archive_series, c_archive_pieces, c_archive_trial, c_archive_moves, c_history_slots, c_history_top, c_history_steps, c_planner_free, c_planner_remaining, c_planner_gaps, c_planner_layings, c_rows, c_text_bytes, c_text_verbs, c_text_numbers, c_text_length, c_text_commandCount, c_text_at, c_page_signs, c_page_length, c_page_latest, c_draft_signs, c_draft_length, c_draft_latest) (d_row, d_undos, d_list, d_listed, d_paper, d_papers, d_text, d_length, d_beside, d_besides, d_gapFirst, d_gapLast, d_laying, d_layings, d_free, d_first, d_behind, d_numbers, d_clauses, d_words, d_sorts, d_shifted, d_saved, d_draft, d_drafts) := h
  have h : R0 D c_archive_rooms c_archive_moveDays c_archive_day c_archive_series c_archive_pieces c_archive_moves c_history_slots c_history_top c_history_steps c_planner_gaps c_planner_layings c_rows c_text_bytes c_text_length c_page_signs c_page_length d_row d_undos d_list d_listed d_paper d_papers d_text d_length d_words d_sorts := h
  obtain ⟨⟨A, hs, hA, hC, hM, hH⟩, hZ, ⟨l, hl⟩, -⟩ := h
  have hp := hC.2.1
  have gp := hM.2.1
  have hr := hA.2.1.1
  have hle := hl.1.1
  have el := hl.2.1
  subst el
  unfold fX7_listed fX8_listed fX0_pieces
  rw [e8_in0 x1 _ (show l.length < 2 ^ 31 by omega)]
  rcases ixc x1 l.length (by omega) with c | ⟨j, hj, rfl⟩
  · refine ⟨-2, ?_, ?_, hR⟩
    · rw [e_has_out hl.1 c]; rfl
    · rw [ob, i01, if_neg (fun z => z c)]
  · have hin := inn hj (show l.length < 2 ^ 31 by omega)
    obtain ⟨z, e5, e5'⟩ := low_clash hl hj FU 0 (Nat.zero_le _) (FU_gt (by omega))
    rw [nI_0] at e5 e5'
    have hq := hl.2.2.1 _ (List.getElem_mem hj)
    have hbx := hl.2.2.2.1 _ (List.getElem_mem hj)
    have hb0 : 0 ≤ (l[j]).1 := by rw [i32le]; exact hbx.1
    simp only [e_has_in hl.1 hj, ob, z01, i01, if_pos hin, e_markOf_in hl.1 hj, e_firstOf_in hl.1 hj, e_lastOf_in hl.1 hj, (hl.ld hj).1, (hl.ld hj).2.1, (hl.ld hj).2.2, e_sheetsIn hp (show 42 < 6000 by decide), e8_inBox gp, ov_box hr hb0 hq.2.1, ov_any hr hq.2.1, fX7_lowestClash, fX8_clashOf, e5, e5']
    by_cases c0 : x2 = 0
    · subst c0
      exact ⟨_, rfl, by rw [if_pos rfl, Int32.add_zero, (hl.ld hj).1]; rfl, hR⟩
    · by_cases c1 : x2 = 1
      · subst c1
        exact ⟨_, rfl, by rw [if_neg c0, if_pos rfl, (hl.ld hj).2.1]; rfl, hR⟩
      · by_cases c2 : x2 = 2
        · subst c2
          exact ⟨_, rfl, by rw [if_neg c0, if_neg c1, if_pos rfl, (hl.ld hj).2.2]; rfl, hR⟩
        · simp only [if_neg c0, if_neg c1, if_neg c2]
          by_cases c3 : x2 = 3
          · exact ⟨_, if_pos c3, if_pos c3, hR⟩
          · by_cases c4 : x2 = 4
            · exact ⟨_, by rw [if_neg c3, if_pos c4], by rw [if_neg c3, if_pos c4], hR⟩
            · by_cases c5 : x2 = 5
              · exact ⟨z, by rw [if_neg c3, if_neg c4, if_pos c5], by rw [if_neg c3, if_neg c4, if_pos c5], hR⟩
              · exact ⟨-3, by rw [if_neg c3, if_neg c4, if_neg c5], by rw [if_neg c3, if_neg c4, if_neg c5], hR⟩
/-- clashes by numbers -/
noncomputable def clN (l : List Tr) (i j : Nat) : Int32 := @dite _ (i < l.length ∧ j < l.length) (Classical.propDecidable _) (fun h => clI l[i] l[j]) (fun _ => 0)
theorem clN_in {l : List Tr} {i j : Nat} (hi : i < l.length) (hj : j < l.length) : clN l i j = clI l[i] l[j] := by unfold clN; rw [dif_pos ⟨hi, hj⟩]
theorem clN_comm {l : List Tr} (i j : Nat) : clN l i j = clN l j i := by
  unfold clN
  by_cases h : i < l.length ∧ j < l.length
  · rw [dif_pos h, dif_pos ⟨h.2, h.1⟩, clI_comm]
  · rw [dif_neg h, dif_neg (fun z => h ⟨z.2, z.1⟩)]
theorem pairs7_in {v : Rg} {l : List Tr} (h : isL 12 v l) {a : Nat} (ha : a < l.length) (k : Int32 → Int32 → Option Int32) : ∀ (n i : Nat) (acc : Int32), i ≤ l.length → l.length < i + n → fX7_clashingPairs_19 v (nI a) n k acc (nI i) = k (acc + (SN (clN l a) l.length - SN (clN l a) i)) (nI l.length) := by
  have hb := h.b
  intro n
  induction n with
  | zero => intro i acc h1 h2; omega
  | succ n ih =>
    intro i acc hi hn
    rw [fX7_clashingPairs_19, e_size h, ob]
    by_cases c : i = l.length
    · rw [if_pos ((nI_geI (by omega) (by omega) hi).mpr c), c]; congr 1; grind
    · have hlt : i < l.length := by omega
      have ih := fun acc => ih (i + 1) acc (by omega) (by omega)
      rw [if_neg (fun z => c ((nI_geI (by omega) (by omega) hi).mp z)), e7_clash h ha hlt, ob, nI_1, ih, ih, SN, clN_in ha hlt]
      rcases @clI_01 l[a] l[i] with ⟨_, e⟩ | ⟨_, e⟩
      · rw [e, if_neg (by decide)]; congr 1; grind
      · rw [e, if_pos rfl]; congr 1; grind
theorem pairs7_out {v : Rg} {l : List Tr} (h : isL 12 v l) (k : Int32 → Int32 → Option Int32) : ∀ (n i : Nat) (acc : Int32), i ≤ l.length → l.length < i + n → fX7_clashingPairs_4 v n k acc (nI i) = k (acc + (SN (fun t => SN (clN l t) l.length - SN (clN l t) (t + 1)) l.length - SN (fun t => SN (clN l t) l.length - SN (clN l t) (t + 1)) i)) (nI l.length) := by
  have hb := h.b
  have hN := h.1
  intro n
  induction n with
  | zero => intro i acc h1 h2; omega
  | succ n ih =>
    intro i acc hi hn
    rw [fX7_clashingPairs_4, e_size h, ob]
    by_cases c : i = l.length
    · rw [if_pos ((nI_geI (by omega) (by omega) hi).mpr c), c]; congr 1; grind
    · have hlt : i < l.length := by omega
      have ih := fun acc => ih (i + 1) acc (by omega) (by omega)
      rw [if_neg (fun z => c ((nI_geI (by omega) (by omega) hi).mp z)), nI_1, pairs7_in h hlt _ FU (i + 1) acc (by omega) (by unfold FU; omega), ih, show SN (fun t => SN (clN l t) l.length - SN (clN l t) (t + 1)) (i + 1) = SN (fun t => SN (clN l t) l.length - SN (clN l t) (t + 1)) i + (SN (clN l i) l.length - SN (clN l i) (i + 1)) from rfl]
      congr 1; grind
theorem pairs8_in {l : List Tr} {rows : Rg} {list : Nat → Int32} {listed : Int32} (h : rowsR l rows list listed) {a : Nat} (ha : a < l.length) (k : Int32 → Int32 → Option Int32) : ∀ (n i : Nat) (acc : Int32), i ≤ a → a < i + n → fX8_clashes_14 list (nI a) n k acc (nI i) = k (acc + (SN (clN l a) a - SN (clN l a) i)) (nI a) := by
  have hb := h.1.b
  intro n
  induction n with
  | zero => intro i acc h1 h2; omega
  | succ n ih =>
    intro i acc hi hn
    rw [fX8_clashes_14]
    by_cases c : i = a
    · rw [if_pos ((nI_geI (by omega) (by omega) hi).mpr c), c]; congr 1; grind
    · have hlt : i < l.length := by omega
      have ih := fun acc => ih (i + 1) acc (by omega) (by omega)
      rw [if_neg (fun z => c ((nI_geI (by omega) (by omega) hi).mp z)), e8_clash h ha hlt, ob, nI_1, ih, ih, SN, clN_in ha hlt]
      rcases @clI_01 l[a] l[i] with ⟨_, e⟩ | ⟨_, e⟩
      · rw [e, if_neg (by decide)]; congr 1; grind
      · rw [e, if_pos rfl]; congr 1; grind
theorem pairs8_out {l : List Tr} {rows : Rg} {list : Nat → Int32} {listed : Int32} (h : rowsR l rows list listed) (k : Int32 → Int32 → Option Int32) : ∀ (n i : Nat) (acc : Int32), i ≤ l.length → l.length < i + n → fX8_clashes_4 list listed n k acc (nI i) = k (acc + (SN (fun a => SN (clN l a) a) l.length - SN (fun a => SN (clN l a) a) i)) (nI l.length) := by
  have hb := h.1.b
  have hN := h.1.1
  intro n
  induction n with
  | zero => intro i acc h1 h2; omega
  | succ n ih =>
    intro i acc hi hn
    rw [fX8_clashes_4, h.2.1]
    by_cases c : i = l.length
    · rw [if_pos ((nI_geI (by omega) (by omega) hi).mpr c), c]; congr 1; grind
    · have hlt : i < l.length := by omega
      have ih := fun acc => ih (i + 1) acc (by omega) (by omega)
      rw [h.2.1] at ih
      have := pairs8_in h hlt (fun x1_14 x3_14 => fX8_clashes_4 list (nI l.length) n k x1_14 (nI i + 1)) FU 0 acc (Nat.zero_le _) (by unfold FU; omega)
      rw [nI_0] at this
      rw [if_neg (fun z => c ((nI_geI (by omega) (by omega) hi).mp z)), this, nI_1, ih, SN, SN]
      congr 1; grind
theorem homeless_loop {g : Nat → Int32} {S P : List Tr} (h : isS g S) (hp : isP g P) (hP : okR P) (k : Int32 → Int32 → Option Int32) : ∀ (n i : Nat), i ≤ 8 → 8 < i + n → fX8_homeless_4 g n k (SN (fun x => ownT (-1) (nI x) 1 MAX S P) i) (nI i) = k (SN (fun x => ownT (-1) (nI x) 1 MAX S P) 8) 8 := by
  intro n
  induction n with
  | zero => intro i h1 h2; omega
  | succ n ih =>
    intro i hi hn
    rw [fX8_homeless_4]
    by_cases c : i = 8
    · rw [if_pos ((e8_bx hi).mpr c)]
      subst c
      rfl
    · have ih := ih (i + 1) (by omega) (by omega)
      rw [SN] at ih
      rw [if_neg (fun z => c ((e8_bx hi).mp z)), e8_ownB0 h hp hP, ob, nI_1, ih]
      rw [i32le, i32le, nI_toInt (by omega), t0, show (7 : Int32).toInt = 7 from rfl]
      omega
theorem SN_pick {F : Int32} {m : Nat} (hm : m < 2 ^ 31) : ∀ n : Nat, n < 2 ^ 31 → SN (fun x => if nI x = -100 ∨ nI m = nI x then F else 0) n = if m < n then F else 0 := by
  intro n
  induction n with
  | zero => intro _; rfl
  | succ n ih =>
    intro hn
    rw [SN, ih (by omega)]
    have h100 : ¬ nI n = -100 := fun e => nI_nneg (i := n) (by omega) (by rw [e]; decide)
    by_cases c : m = n
    · subst c
      rw [if_neg (Nat.lt_irrefl m), if_pos (Or.inr rfl), if_pos (Nat.lt_succ_self m), Int32.zero_add]
    · rw [if_neg (show ¬ (nI n = -100 ∨ nI m = nI n) from fun z => z.elim h100 (fun e => c ((nI_eq hm (by omega)).mp e))), Int32.add_zero]
      by_cases c2 : m < n
      · rw [if_pos c2, if_pos (by omega)]
      · rw [if_neg c2, if_neg (by omega)]
theorem homeless_eq {S P : List Tr} (hB : ∀ q ∈ P, isBx q.1) : SN (fun x => ownT (-1) (nI x) 1 MAX S P) 8 = ownT (-1) (-100) 1 MAX S P := by
  unfold ownT
  rw [SN_sumI]
  refine sumI_congr (fun p hp => ?_)
  obtain ⟨m, hm, em⟩ := (hB p hp).n
  rw [em, SN_pick (by omega) 8 (by omega), if_pos hm, if_pos (Or.inl rfl)]
theorem sim_count {D : Int} : S_count (RR D) (RR D) := by
  intro c_archive_rooms c_archive_moveDays c_archive_day c_archive_series c_archive_pieces c_archive_trial c_archive_moves c_history_slots c_history_top c_history_steps c_planner_free c_planner_remaining c_planner_gaps c_planner_layings c_rows c_text_bytes c_text_verbs c_text_numbers c_text_length c_text_commandCount c_text_at c_page_signs c_page_length c_page_latest c_draft_signs c_draft_length c_draft_latest d_row d_undos d_list d_listed d_paper d_papers d_text d_length d_beside d_besides d_gapFirst d_gapLast d_laying d_layings d_free d_first d_behind d_numbers d_clauses d_words d_sorts d_shifted d_saved d_draft d_drafts x1 h
  have hR : RR D (c_archive_rooms, c_archive_moveDays, c_archive_day, c_archive_series, c_archive_pieces, c_archive_trial, c_archive_moves, c_history_slots, c_history_top, c_history_steps, c_planner_free, c_planner_remaining, c_planner_gaps, c_planner_layings, c_rows, c_text_bytes, c_text_verbs, c_text_numbers, c_text_length, c_text_commandCount, c_text_at, c_page_signs, c_page_length, c_page_latest, c_draft_signs, c_draft_length, c_draft_latest) (d_row, d_undos, d_list, d_listed, d_paper, d_papers, d_text, d_length, d_beside, d_besides, d_gapFirst, d_gapLast, d_laying, d_layings, d_free, d_first, d_behind, d_numbers, d_clauses, d_words, d_sorts, d_shifted, d_saved, d_draft, d_drafts) := h
  have h : R0 D c_archive_rooms c_archive_moveDays c_archive_day c_archive_series c_archive_pieces c_archive_moves c_history_slots c_history_top c_history_steps c_planner_gaps c_planner_layings c_rows c_text_bytes c_text_length c_page_signs c_page_length d_row d_undos d_list d_listed d_paper d_papers d_text d_length d_words d_sorts := h
  obtain ⟨⟨A, hs, hA, hC, hM, hH⟩, hZ, ⟨l, hl⟩, ⟨nt, hnt, et, et', _⟩, ⟨np, hnp, ep, ep', _⟩, -⟩ := h
  have hS := hC.1
  have hp := hC.2.1
  have hm := hC.2.2.1
  have gS := hM.1
  have gp := hM.2.1
  have gm := hM.2.2.1
  have hr := hA.2.1.1
  have hc := hA.2.1.2.1
  have hB := hA.2.1.2.2
  have hle := hl.1.1
  have hleS := gS.1
  have hleP := gp.1
  have e0 : ld 5058 d_row 0 = some (nI A.1.length) := gS.c
  have e1 : ld 5058 d_row 1 = some (nI A.2.1.length) := gp.c
  have e2 : ld 5058 d_row 2 = some (nI A.2.2.1.length) := gm.c
  have e3 : ld 5058 d_row 3 = some A.2.2.2.2 := by rw [n3, ld58 (by omega), hM.2.2.2.2]
  have e6 := homeless_loop gS gp hr (fun x1 x2 => some x1) FU 0 (by omega) (by unfold FU; omega)
  rw [nI_0, homeless_eq hB] at e6
  have e7 := e8_filled gp hr hc
  have e8 := pairs7_out hl.1 (fun x1 x2 => some x1) FU 0 0 (Nat.zero_le _) (FU_gt (by omega))
  have e8' := pairs8_out hl (fun x1 x2 => some x1) FU 0 0 (Nat.zero_le _) (FU_gt (by omega))
  rw [nI_0, SN_tri (clN_comm)] at e8
  rw [nI_0] at e8'
  have e10 : c_history_steps = d_undos := hH.2.1.trans hH.2.2.1.symm
  unfold fX7_count fX8_count
  unfold fX0_pieces fX0_moves fX0_seriesCount fX0_today fX7_clashingPairs fX8_clashes fX2_length fX1_steps fX6_length fX8_homeless
  rw [show (2000000000 : Int32) = MAX from rfl]
  simp only [ob]
  by_cases c0 : x1 = 0
  · subst c0
    exact ⟨_, by rw [if_pos rfl, e_size hS, ob, ob], by rw [if_pos rfl, e0, ob], hR⟩
  · by_cases c1 : x1 = 1
    · subst c1
      exact ⟨_, by rw [if_neg c0, if_pos rfl, e_size hp, ob], by rw [if_neg c0, if_pos rfl, e1, ob], hR⟩
    · by_cases c2 : x1 = 2
      · subst c2
        exact ⟨_, by rw [if_neg c0, if_neg c1, if_pos rfl, e_size hm, ob, List.length_map], by rw [if_neg c0, if_neg c1, if_pos rfl, e2, ob], hR⟩
      · simp only [if_neg c0, if_neg c1, if_neg c2]
        by_cases c3 : x1 = 3
        · subst c3
          exact ⟨_, if_pos rfl, by rw [if_pos rfl, e3, ob, hC.2.2.2.2.2], hR⟩
        · simp only [if_neg c3]
          by_cases c4 : x1 = 4
          · exact ⟨_, by rw [if_pos c4, e_size hl.1, ob], by rw [if_pos c4, hl.2.1], hR⟩
          · simp only [if_neg c4]
            by_cases c5 : x1 = 5
            · exact ⟨_, by rw [if_pos c5, e_sheetsIn hp (by decide), ob, ov_any hr (by decide)], by rw [if_pos c5, e8_inBox gp, ob], hR⟩
            · simp only [if_neg c5]
              by_cases c6 : x1 = 6
              · exact ⟨_, by rw [if_pos c6, e7_own0 hS hp hA.1.1 hr, ob], by rw [if_pos c6]; exact congrArg (fun z => Option.bind z (fun r => some r)) e6, hR⟩
              · simp only [if_neg c6]
                by_cases c7 : x1 = 7
                · exact ⟨_, by rw [if_pos c7, e_marks hp (by decide) hB, ob, B8, bits_cnt, ob], by rw [if_pos c7, e7, B8, bits_cnt, ob], hR⟩
                · simp only [if_neg c7]
                  by_cases c8 : x1 = 8
                  · exact ⟨_, by rw [if_pos c8, e8, ob], by rw [if_pos c8, e8', ob]; rfl, hR⟩
                  · simp only [if_neg c8]
                    by_cases c9 : x1 = 9
                    · exact ⟨_, if_pos c9, by rw [if_pos c9, ep', ep], hR⟩
                    · simp only [if_neg c9]
                      by_cases c10 : x1 = 10
                      · exact ⟨_, if_pos c10, by rw [if_pos c10, e10], hR⟩
                      · simp only [if_neg c10]
                        by_cases c11 : x1 = 11
                        · exact ⟨_, if_pos c11, by rw [if_pos c11, et', et], hR⟩
                        · exact ⟨-3, if_neg c11, if_neg c11, hR⟩
