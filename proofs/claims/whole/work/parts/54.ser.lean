/-! series, undo -/
def whF (x1 a b : Int32) (f : Int32) (q : Tr) : Int32 := if f = 0 then 0 else if q.1 = x1 then (if cm q.2.1 q.2.2 a b = 0 then 1 else 0) else 1
theorem why_loop {g : Nat → Int32} {l : List Tr} (h : isS g l) (x1 x2 x3 : Int32) (k : Int32 → Int32 → Option Int32) : ∀ (n i : Nat) (f : Int32), i ≤ l.length → l.length < i + n → fX8_whyNoSeries_60 g x1 x2 x3 n k f (nI i) = k ((l.drop i).foldl (whF x1 x2 x3) f) (nI l.length) := by
  have hb : l.length < 2 ^ 30 := h.b
  intro n
  induction n with
  | zero => intro i f h1 h2; omega
  | succ n ih =>
    intro i f hi hn
    rw [fX8_whyNoSeries_60]
    simp only [h.c, ob]
    by_cases c : i = l.length
    · rw [if_pos ((nI_geI (by omega) (by omega) hi).mpr c)]
      subst c
      rw [List.drop_length]; rfl
    · have hlt : i < l.length := by omega
      rw [if_neg (fun z => c ((nI_geI (by omega) (by omega) hi).mp z))]
      have ih := fun f => ih (i + 1) f (by omega) (by omega)
      simp only [h.m hlt, h.f hlt, h.l hlt, e8_common, ob, i01, nI_1, ih]
      rw [List.drop_eq_getElem_cons hlt, List.foldl_cons, whF]; (repeat' split) <;> rfl
theorem whF0 {x1 a b : Int32} {l : List Tr} : l.foldl (whF x1 a b) 0 = 0 := by
  induction l with
  | nil => rfl
  | cons q l ih => rw [List.foldl_cons, whF, if_pos rfl, ih]
theorem whF1 {x1 a b : Int32} {l : List Tr} : ((∀ q ∈ l, q.1 = x1 → cm q.2.1 q.2.2 a b = 0) ∧ l.foldl (whF x1 a b) 1 = 1) ∨ (¬ (∀ q ∈ l, q.1 = x1 → cm q.2.1 q.2.2 a b = 0) ∧ l.foldl (whF x1 a b) 1 = 0) := by
  induction l with
  | nil => left; exact ⟨fun q hq => absurd hq List.not_mem_nil, rfl⟩
  | cons q l ih =>
    rw [List.foldl_cons, whF, if_neg (by decide)]
    by_cases c : q.1 = x1
    · rw [if_pos c]
      by_cases c2 : cm q.2.1 q.2.2 a b = 0
      · rw [if_pos c2]
        rcases ih with ⟨h1, h2⟩ | ⟨h1, h2⟩
        · left
          refine ⟨fun z hz => ?_, h2⟩
          rcases List.mem_cons.mp hz with e | e
          · rw [e]; exact fun _ => c2
          · exact h1 z e
        · right
          exact ⟨fun z => h1 (fun y hy => z y (List.mem_cons_of_mem _ hy)), h2⟩
      · rw [if_neg c2, whF0]
        right
        exact ⟨fun z => c2 (z q List.mem_cons_self c), rfl⟩
    · rw [if_neg c]
      rcases ih with ⟨h1, h2⟩ | ⟨h1, h2⟩
      · left
        refine ⟨fun z hz => ?_, h2⟩
        rcases List.mem_cons.mp hz with e | e
        · rw [e]; exact fun y => absurd y c
        · exact h1 z e
      · right
        exact ⟨fun z => h1 (fun y hy => z y (List.mem_cons_of_mem _ hy)), h2⟩
/-- ranges apart share out a range -/
theorem apZ {x : Int32} {l : List Tr} (hr : okR l) (hp : l.Pairwise (fun p q => p.1 = x → q.1 = x → apart p q)) : ∀ a b : Int, a ≤ b + 1 → sumZ (fun q => if q.1 = x then max 0 (min b q.2.2.toInt - max a q.2.1.toInt + 1) else 0) l ≤ b - a + 1 := by
  induction l with
  | nil => intro a b h; rw [sumZ]; omega
  | cons p l ih =>
    intro a b h
    have hp2 := List.pairwise_cons.mp hp
    have ih := ih (fun z hz => hr z (List.mem_cons_of_mem _ hz)) hp2.2
    have h1 := hr.i (List.mem_cons_self (a := p))
    rw [sumZ]
    by_cases c : p.1 = x
    · rw [if_pos c]
      by_cases c2 : max a p.2.1.toInt ≤ min b p.2.2.toInt
      · have i1 := ih a (max a p.2.1.toInt - 1) (by omega)
        have i2 := ih (min b p.2.2.toInt + 1) b (by omega)
        have i3 : sumZ (fun q => if q.1 = x then max 0 (min b q.2.2.toInt - max a q.2.1.toInt + 1) else 0) l ≤ sumZ (fun q => (if q.1 = x then max 0 (min (max a p.2.1.toInt - 1) q.2.2.toInt - max a q.2.1.toInt + 1) else 0) + (if q.1 = x then max 0 (min b q.2.2.toInt - max (min b p.2.2.toInt + 1) q.2.1.toInt + 1) else 0)) l := by
          refine sumZ_le (fun q hq => ?_)
          by_cases c3 : q.1 = x
          · rw [if_pos c3, if_pos c3, if_pos c3]
            have h2 := hr.i (List.mem_cons_of_mem p hq)
            rcases hp2.1 q hq c c3 with z | z <;> omega
          · rw [if_neg c3, if_neg c3, if_neg c3]; omega
        rw [sumZ_add] at i3
        omega
      · have := ih a b h
        omega
    · rw [if_neg c]
      have := ih a b h
      omega
theorem okSer.pw {l : List Tr} (h : okSer l) (x : Int32) : l.Pairwise (fun p q => p.1 = x → q.1 = x → apart p q) := by
  rw [List.pairwise_iff_getElem]
  intro i j hi hj hij e1 e2
  exact h.2.2 i j hi hj hij (e1.trans e2.symm)
theorem ser_free {l : List Tr} (h : okSer l) {x a b : Int32} (hx : x ≠ -100) (ha : 1 ≤ a.toInt) (hab : a ≤ b) (hb : b.toInt ≤ 2000000000) : (sumI (ovl x a b) l ≤ 0) ↔ ∀ q ∈ l, q.1 = x → cm q.2.1 q.2.2 a b = 0 := by
  have e : ∀ q ∈ l, (ovl x a b q).toInt = if q.1 = x then max 0 (min b.toInt q.2.2.toInt - max a.toInt q.2.1.toInt + 1) else 0 := by
    intro q hq
    have h1 := h.1.i hq
    rw [ovl_cm h.1 hab q hq]
    by_cases c : q.1 = x
    · rw [if_pos (Or.inr c), if_pos c, cm_i h1.1 h1.2.2]
    · rw [if_neg (fun z => z.elim hx c), if_neg c, t0]
  have nn : ∀ q ∈ l, 0 ≤ (ovl x a b q).toInt := by
    intro q hq
    rw [e q hq]
    split <;> omega
  have hab' := hab
  rw [i32le] at hab'
  have ub := apZ h.1 (h.pw x) a.toInt b.toInt (by omega)
  rw [← sumZ_congr e] at ub
  have es := sumI_Z nn (by omega)
  rw [i32le, es, t0]
  have pos := sumZ_pos nn
  constructor
  · intro z q hq c
    have h1 := h.1.i hq
    have : ¬ 0 < (ovl x a b q).toInt := fun y => by have := pos.mpr ⟨q, hq, y⟩; omega
    rw [e q hq, if_pos c] at this
    rw [cm_comm, i32eq, cm_i h1.1 h1.2.2, t0]
    omega
  · intro z
    have : ¬ 0 < sumZ (fun q => (ovl x a b q).toInt) l := by
      intro y
      obtain ⟨q, hq, y⟩ := pos.mp y
      have h1 := h.1.i hq
      rw [e q hq] at y
      by_cases c : q.1 = x
      · have := z q hq c
        rw [if_pos c] at y
        rw [cm_comm, i32eq, cm_i h1.1 h1.2.2, t0] at this
        omega
      · rw [if_neg c] at y; omega
    omega
theorem okSer_app {l : List Tr} (h : okSer l) {x1 x2 x3 : Int32} (hr : 1 ≤ x2 ∧ x2 ≤ x3 ∧ x3 ≤ MAX) (hp : x1 = -1 ∨ ∃ (j : Nat) (hj : j < l.length), x1 = nI j ∧ (l[j]).2.1.toInt ≤ x2.toInt ∧ x3.toInt ≤ (l[j]).2.2.toInt) (ha : ∀ q ∈ l, q.1 = x1 → apart q (x1, x2, x3)) : okSer (l ++ [(x1, x2, x3)]) := by
  refine ⟨okR_app h.1 hr, fun i hi => ?_, fun i j hi hj hij e => ?_⟩
  · rw [List.length_append, List.length_singleton] at hi
    by_cases c : i < l.length
    · have e1 : (l ++ [(x1, x2, x3)])[i] = l[i] := List.getElem_append_left c
      rw [e1]
      rcases h.2.1 i c with z | ⟨j, hj, z1, z2, z3⟩
      · exact Or.inl z
      · have e2 : (l ++ [(x1, x2, x3)])[j]'(by rw [List.length_append, List.length_singleton]; omega) = l[j] := List.getElem_append_left hj
        refine Or.inr ⟨j, by rw [List.length_append, List.length_singleton]; omega, z1, z2, ?_⟩
        rw [e2]
        exact z3
    · have ei : i = l.length := by omega
      subst ei
      have e1 : (l ++ [(x1, x2, x3)])[l.length]'(by rw [List.length_append, List.length_singleton]; omega) = (x1, x2, x3) := by rw [List.getElem_append_right (Nat.le_refl _)]; simp
      rw [e1]
      rcases hp with z | ⟨j, hj, z1, z2⟩
      · exact Or.inl z
      · have e2 : (l ++ [(x1, x2, x3)])[j]'(by rw [List.length_append, List.length_singleton]; omega) = l[j] := List.getElem_append_left hj
        refine Or.inr ⟨j, by rw [List.length_append, List.length_singleton]; omega, hj, z1, ?_⟩
        rw [e2]
        exact z2
  · rw [List.length_append, List.length_singleton] at hi hj
    have c : i < l.length := by omega
    have e1 : (l ++ [(x1, x2, x3)])[i] = l[i] := List.getElem_append_left c
    rw [e1] at e ⊢
    by_cases c2 : j < l.length
    · have e2 : (l ++ [(x1, x2, x3)])[j] = l[j] := List.getElem_append_left c2
      rw [e2] at e ⊢
      exact h.2.2 i j c c2 hij e
    · have ei : j = l.length := by omega
      subst ei
      have e2 : (l ++ [(x1, x2, x3)])[l.length]'(by rw [List.length_append, List.length_singleton]; omega) = (x1, x2, x3) := by rw [List.getElem_append_right (Nat.le_refl _)]; simp
      rw [e2] at e ⊢
      exact ha _ (List.getElem_mem c) e
theorem cm0_apart {q : Tr} {x a b : Int32} (h1 : 1 ≤ a.toInt) (h2 : a.toInt ≤ b.toInt) (h3 : b.toInt ≤ 2000000000) (hq : q.2.1.toInt ≤ q.2.2.toInt) (h : cm q.2.1 q.2.2 a b = 0) : apart q (x, a, b) := by
  rw [i32eq, cm_i h1 h3, t0] at h
  show q.2.2.toInt < a.toInt ∨ b.toInt < q.2.1.toInt
  omega
/-- a series more: both refuse alike, or both take it -/
theorem ser_core {v : Rg} {g : Nat → Int32} {S : List Tr} (hS : okSer S) (hC : isL 10 v S) (hM : isS g S) (x1 x2 x3 : Int32) : (∃ r : Int32, r.toInt < 0 ∧ fX0_addSeries v x1 x2 x3 = some (r, v) ∧ fX8_whyNoSeries g x1 x2 x3 = some r) ∨ (∃ v', fX0_addSeries v x1 x2 x3 = some (nI S.length, v') ∧ isL 10 v' (S ++ [(x1, x2, x3)]) ∧ fX8_whyNoSeries g x1 x2 x3 = some 0 ∧ okSer (S ++ [(x1, x2, x3)]) ∧ S.length < 10) := by
  have h10 := hM.1
  have loop := fun f k => why_loop hM x1 x2 x3 k FU 0 f (Nat.zero_le _) (FU_gt (by omega))
  simp only [nI_0, List.drop_zero] at loop
  have fin : ∀ (a b : Int32), (1 ≤ x2 ∧ x2 ≤ MAX) ∧ (x2 ≤ x3 ∧ x3 ≤ MAX) → x1 ≠ -100 → (x1 = -1 ∨ ∃ (j : Nat) (hj : j < S.length), x1 = nI j ∧ (S[j]).2.1.toInt ≤ x2.toInt ∧ x3.toInt ≤ (S[j]).2.2.toInt) → (∃ r : Int32, r.toInt < 0 ∧ ((fX4_sheetsIn 10 v x1 x2 x3).bind fun r52 => if r52 ≤ 0 then (fX4_add 10 v x1 x2 x3).bind fun r68 => if r68.1 = 0 then some ((-5 : Int32), r68.2) else (fX4_size 10 r68.2).bind fun r78 => some ((r78 - 1), r68.2) else some ((-4), v)) = some (r, v) ∧ (fX8_whyNoSeries_60 g x1 x2 x3 FU (fun x4_60 x5_60 => if x4_60 = 0 then some (-4) else (ld 5058 g 0).bind fun y134 => if y134 = 10 then some (-5) else some 0) 1 0) = some r) ∨ (∃ v', ((fX4_sheetsIn 10 v x1 x2 x3).bind fun r52 => if r52 ≤ 0 then (fX4_add 10 v x1 x2 x3).bind fun r68 => if r68.1 = 0 then some ((-5 : Int32), r68.2) else (fX4_size 10 r68.2).bind fun r78 => some ((r78 - 1), r68.2) else some ((-4), v)) = some (nI S.length, v') ∧ isL 10 v' (S ++ [(x1, x2, x3)]) ∧ (fX8_whyNoSeries_60 g x1 x2 x3 FU (fun x4_60 x5_60 => if x4_60 = 0 then some (-4) else (ld 5058 g 0).bind fun y134 => if y134 = 10 then some (-5) else some 0) 1 0) = some 0 ∧ okSer (S ++ [(x1, x2, x3)]) ∧ S.length < 10) := by
    intro _ _ hr hx hp
    have r1 := hr.1.1
    have r2 := hr.2.1
    have r3 := hr.2.2
    rw [i32le] at r1 r2 r3
    rw [t1] at r1
    rw [tM] at r3
    rw [e_sheetsIn hC (by decide), ob, loop]
    have sf := ser_free hS hx r1 hr.2.1 r3
    rcases whF1 (x1 := x1) (a := x2) (b := x3) (l := S) with ⟨w1, w2⟩ | ⟨w1, w2⟩
    · rw [w2, if_pos (sf.mpr w1), if_neg (by decide), hM.c, ob]
      by_cases c : S.length = 10
      · left
        refine ⟨-5, by decide, ?_, ?_⟩
        · rw [e_addF hC c, ob, if_pos rfl]
        · rw [c]; rfl
      · right
        obtain ⟨v', ev, hv⟩ := e_add hC (by omega) x1 x2 x3
        refine ⟨v', ?_, hv, ?_, okSer_app hS ⟨hr.1.1, hr.2.1, hr.2.2⟩ hp (fun q hq e => cm0_apart r1 r2 r3 (hS.1.i hq).2.1 (w1 q hq e)), by omega⟩
        · rw [ev, ob, if_neg (show ¬ (1 : Int32) = 0 by decide), e_size hv, ob, List.length_append, List.length_singleton, nI_pred]
        · rw [if_neg (show ¬ nI S.length = 10 from nI_ne (c := 10) c (by omega) (by omega))]
    · left
      refine ⟨-4, by decide, ?_, ?_⟩
      · rw [if_neg (fun z => w1 (sf.mp z))]
      · rw [w2, if_pos rfl]
  unfold fX0_addSeries fX8_whyNoSeries
  by_cases c1 : x1 = -1
  · subst c1
    rw [if_pos rfl, if_pos rfl, if_pos rfl, e7_isRange, e8_isRange, ob, ob, i01, i01]
    by_cases c2 : (1 ≤ x2 ∧ x2 ≤ MAX) ∧ (x2 ≤ x3 ∧ x3 ≤ MAX)
    · rw [if_pos c2, if_pos c2]
      have r1 := c2.1.1
      have r3 := c2.2.2
      rw [i32le] at r1 r3
      have e1 : fX0_firstIn v (-1) = some 1 := rfl
      have e2 : fX0_lastIn v (-1) = some MAX := rfl
      rw [e1, ob, e2, ob, if_neg (by rw [i32lt]; omega), if_neg (by rw [i32lt]; omega)]
      exact fin 0 0 c2 (by decide) (Or.inl rfl)
    · rw [if_neg c2, if_neg c2]
      exact Or.inl ⟨-3, by decide, rfl, rfl⟩
  · rw [if_neg c1, if_neg c1, if_neg c1, e8_isSeries hM, ob, i01]
    rcases ixc x1 S.length (by omega) with c | ⟨j, hj, rfl⟩
    · rw [e7_isSeries_out hC c, ob, if_pos rfl, if_neg (fun z => z c)]
      exact Or.inl ⟨-2, by decide, rfl, rfl⟩
    · rw [e7_isSeries_in hC hj, ob, if_neg (by decide), if_pos (inn hj (by omega)), e7_isRange, e8_isRange, ob, ob, i01, i01]
      by_cases c2 : (1 ≤ x2 ∧ x2 ≤ MAX) ∧ (x2 ≤ x3 ∧ x3 ≤ MAX)
      · rw [if_pos c2, if_pos c2, e7_firstIn hC hj, e7_lastIn hC hj, hM.f hj, hM.l hj, ob, ob, ob, ob]
        by_cases c3 : x2 < (S[j]).2.1
        · rw [if_pos c3, if_pos c3, loop, whF0, if_pos rfl]
          exact Or.inl ⟨-4, by decide, rfl, rfl⟩
        · rw [if_neg c3, if_neg c3]
          by_cases c4 : (S[j]).2.2 < x3
          · rw [if_pos c4, if_pos c4, loop, whF0, if_pos rfl]
            exact Or.inl ⟨-4, by decide, rfl, rfl⟩
          · rw [if_neg c4, if_neg c4]
            rw [i32lt] at c3 c4
            exact fin 0 0 c2 (fun e => nI_nneg (i := j) (by omega) (by rw [e]; decide)) (Or.inr ⟨j, hj, rfl, by omega, by omega⟩)
      · rw [if_neg c2, if_neg c2]
        exact Or.inl ⟨-3, by decide, rfl, rfl⟩
theorem adds_yes {g : Nat → Int32} {S : List Tr} (h : isS g S) (h10 : S.length < 10) {x1 x2 x3 : Int32} (hw : fX8_whyNoSeries g x1 x2 x3 = some 0) : fX8_adds g x1 x2 x3 = some (upd (upd (upd (upd g (4 + 3 * S.length) x1) (4 + 3 * S.length + 1) x2) (4 + 3 * S.length + 2) x3) 0 (nI (S.length + 1))) := by
  unfold fX8_adds
  rw [hw, ob, if_pos rfl, h.c, ob, n4, n3, ix3, sv_nI (by omega) (by omega), ob, nI_1, sv_nI (by omega) (by omega), ob, n2, nI_add, sv_nI (by omega) (by omega), ob, n0, ld58 (by omega), pk_un (by omega), pk_un (by omega), pk_un (by omega), h.2.1, ob, sv_nI (by omega) (by omega), ob, nI_1]
theorem adds_no {g : Nat → Int32} {x1 x2 x3 r : Int32} (hr : r.toInt < 0) (hw : fX8_whyNoSeries g x1 x2 x3 = some r) : fX8_adds g x1 x2 x3 = some g := by
  unfold fX8_adds
  rw [hw, ob, if_neg (fun z => by rw [z, t0] at hr; omega)]
theorem sim_series {D : Int} : S_series (RR D) (RR D) := by
  intro c_archive_rooms c_archive_moveDays c_archive_day c_archive_series c_archive_pieces c_archive_trial c_archive_moves c_history_slots c_history_top c_history_steps c_planner_free c_planner_remaining c_planner_gaps c_planner_layings c_rows c_text_bytes c_text_verbs c_text_numbers c_text_length c_text_commandCount c_text_at c_page_signs c_page_length c_page_latest c_draft_signs c_draft_length c_draft_latest d_row d_undos d_list d_listed d_paper d_papers d_text d_length d_beside d_besides d_gapFirst d_gapLast d_laying d_layings d_free d_first d_behind d_numbers d_clauses d_words d_sorts d_shifted d_saved d_draft d_drafts x1 x2 x3 h
  have h : R0 D c_archive_rooms c_archive_moveDays c_archive_day c_archive_series c_archive_pieces c_archive_moves c_history_slots c_history_top c_history_steps c_planner_gaps c_planner_layings c_rows c_text_bytes c_text_length c_page_signs c_page_length d_row d_undos d_list d_listed d_paper d_papers d_text d_length d_words d_sorts := h
  obtain ⟨⟨A, hs, hA, hC, hM, hH⟩, hrest⟩ := h
  obtain ⟨h8, es, eu, t, ht, et⟩ := hist_steps hH
  subst es eu et
  obtain ⟨slots', er, hsn, hse⟩ := remember_ok (slots := c_history_slots) hC hM.2.1.1 ht
  unfold fX7_series fX8_series
  rw [er, ob]
  rcases ser_core hA.1 hC.1 hM.1 x1 x2 x3 with ⟨r, hr, e1, e2⟩ | ⟨v', e1, hv, e2, hS', h10⟩
  · obtain ⟨a1, a2, a3, a4, a5, e3, hC'⟩ := settle_no (rooms := c_archive_rooms) (day := c_archive_day) (pieces := c_archive_pieces) (steps := nI hs.length) ht hr hsn (clsW_of hC)
    rw [e1, ob, e2, ob, e3, ob, if_neg (fun z => by rw [z, t0] at hr; omega)]
    exact ⟨_, _, _, _, _, _, _, _, _, _, _, rfl, rfl, ⟨A, hs, hA, hC', hM, hist_no ht hH hse (fun k _ => rfl)⟩, hrest⟩
  · obtain ⟨row', ek, hk1, hk2⟩ := keepPast_ok hM hH.b h8
    have hM' := modA_ext hM hk1
    have ew : fX8_whyNoSeries row' x1 x2 x3 = some 0 := by
      rcases ser_core hA.1 hC.1 hM'.1 x1 x2 x3 with ⟨r, hr, f1, f2⟩ | ⟨_, _, _, f2, _⟩
      · rw [e1] at f1
        have h0 : 0 ≤ (nI A.1.length).toInt := by rw [nI_toInt (by omega)]; omega
        have : nI A.1.length = r := (Prod.ext_iff.mp (Option.some.inj f1)).1
        rw [this] at h0
        omega
      · exact f2
    have hMs := modA_ser hM' h10 x1 x2 x3
    rw [e1, ob, settle_yes ht h8 (show 0 ≤ (nI A.1.length, v').1.toInt by show 0 ≤ (nI A.1.length).toInt; rw [nI_toInt (by omega)]; omega), ob, e2, ob, if_pos rfl, ek, ob, adds_yes hM'.1 h10 ew, ob, n0, ld58 (by omega), pk_us, ob, nI_pred]
    refine ⟨_, _, _, _, _, _, _, _, _, _, _, rfl, rfl, ⟨⟨(A.1 ++ [(x1, x2, x3)], A.2.1, A.2.2.1, A.2.2.2.1, A.2.2.2.2), _, ⟨hS', hA.2⟩, ⟨hv, hC.2⟩, hMs, hist_yes ht hH hA (Int.le_refl _) (List.prefix_append _ _) (List.prefix_refl _) hse hsn (blk_ext hk2 (fun k hk => ?_))⟩, hrest⟩⟩
    exact (pk_un (by omega)).trans ((pk_un (by omega)).trans ((pk_un (by omega)).trans (pk_un (by omega))))
def cpU (row : Nat → Int32) (u i : Nat) : Nat → Int32 := fun k => if k < i then row (562 + 562 * u + k) else row k
theorem undo22 {row : Nat → Int32} {u : Nat} (hu : u ≤ 7) (k : Int32 → (Nat → Int32) → Option (Int32 × (Nat → Int32) × Int32)) : ∀ (n i : Nat), i ≤ 562 → 562 < i + n → fX8_undo_22 (nI u) n k (nI i) (cpU row u i) = k (nI 562) (cpU row u 562) := by
  intro n
  induction n with
  | zero => intro i h1 h2; omega
  | succ n ih =>
    intro i h1 h2
    rw [fX8_undo_22]
    by_cases c : i = 562
    · subst c
      rw [n562, if_pos (nI_le (Nat.le_refl _) (by omega))]
    · rw [n562, if_neg (nI_ge (by omega) (by omega)), ix3, nI_add, ld58 (by omega), ob, sv_nI (by omega) (by omega), ob, nI_1, ← ih (i + 1) (by omega) (by omega)]
      congr 1
      funext j
      unfold cpU
      by_cases e : j = i
      · subst e
        rw [pk_us, if_neg (by omega), if_pos (by omega)]
      · rw [pk_un e]
        by_cases z : j < i
        · rw [if_pos z, if_pos (by omega)]
        · rw [if_neg z, if_neg (by omega)]
theorem cpU0 {row : Nat → Int32} {u : Nat} : cpU row u 0 = row := by
  funext j
  unfold cpU
  rw [if_neg (by omega)]
theorem sim_undo {D : Int} : S_undo (RR D) (RR D) := by
  intro c_archive_rooms c_archive_moveDays c_archive_day c_archive_series c_archive_pieces c_archive_trial c_archive_moves c_history_slots c_history_top c_history_steps c_planner_free c_planner_remaining c_planner_gaps c_planner_layings c_rows c_text_bytes c_text_verbs c_text_numbers c_text_length c_text_commandCount c_text_at c_page_signs c_page_length c_page_latest c_draft_signs c_draft_length c_draft_latest d_row d_undos d_list d_listed d_paper d_papers d_text d_length d_beside d_besides d_gapFirst d_gapLast d_laying d_layings d_free d_first d_behind d_numbers d_clauses d_words d_sorts d_shifted d_saved d_draft d_drafts h
  have hR : RR D (c_archive_rooms, c_archive_moveDays, c_archive_day, c_archive_series, c_archive_pieces, c_archive_trial, c_archive_moves, c_history_slots, c_history_top, c_history_steps, c_planner_free, c_planner_remaining, c_planner_gaps, c_planner_layings, c_rows, c_text_bytes, c_text_verbs, c_text_numbers, c_text_length, c_text_commandCount, c_text_at, c_page_signs, c_page_length, c_page_latest, c_draft_signs, c_draft_length, c_draft_latest) (d_row, d_undos, d_list, d_listed, d_paper, d_papers, d_text, d_length, d_beside, d_besides, d_gapFirst, d_gapLast, d_laying, d_layings, d_free, d_first, d_behind, d_numbers, d_clauses, d_words, d_sorts, d_shifted, d_saved, d_draft, d_drafts) := h
  have h : R0 D c_archive_rooms c_archive_moveDays c_archive_day c_archive_series c_archive_pieces c_archive_moves c_history_slots c_history_top c_history_steps c_planner_gaps c_planner_layings c_rows c_text_bytes c_text_length c_page_signs c_page_length d_row d_undos d_list d_listed d_paper d_papers d_text d_length d_words d_sorts := h
  obtain ⟨⟨A, hs, hA, hC, hM, hH⟩, hrest⟩ := h
  obtain ⟨h8, es, eu, t, ht, et⟩ := hist_steps hH
  subst es eu et
  unfold fX7_undo fX1_stepBack fX8_undo
  cases hs with
  | nil =>
    rw [List.length_nil, nI_0, if_pos rfl, if_pos rfl, ob, if_pos rfl]
    exact ⟨_, _, _, _, _, _, _, _, _, _, rfl, rfl, hR⟩
  | cons B h' =>
    rw [List.length_cons] at h8
    obtain ⟨_, _, _, ho, hk, t', ht', et, h2⟩ := hH
    have : t = t' := (nI_eq (by omega) (by omega)).mp et
    subst this
    have hn : ¬ nI (B :: h').length = 0 := by rw [List.length_cons]; exact fun z => nI_ne (c := 0) (by omega) (by omega) (by omega) z
    have e0 := h2 0 (by rw [List.length_cons]; omega)
    have hW : clsW B c_archive_moveDays c_archive_series c_archive_moves := by
      refine ⟨⟨_, hC.1, ho.1⟩, ⟨_, hC.2.2.1, ho.2.1.map _⟩, fun i hi => ?_⟩
      have hl := ho.2.1.length_le
      rw [hC.2.2.2.1 i (by omega), ho.2.1.getElem hi]
    have hp : nI (B :: h').length - 1 = nI h'.length := by rw [List.length_cons, nI_pred]
    have hu := fun k => undo22 (row := d_row) (u := h'.length) (by omega) k FU 0 (by omega) (by unfold FU; omega)
    rw [cpU0, nI_0] at hu
    have key : ∀ tt : Nat, tt = (t + 8) % 9 → ∃ rooms' day' series' pieces' moves', fX1_giveBack c_history_slots (nI tt) c_archive_rooms c_archive_day c_archive_series c_archive_pieces c_archive_moves = some (rooms', day', series', pieces', moves') ∧ clsA B rooms' c_archive_moveDays day' series' pieces' moves' := by
      intro tt e
      refine giveBack_ok (by omega) ?_ hW
      rw [e]
      exact e0.1
    rw [if_neg hn, if_neg hn, hp, hu]
    have fin : ∀ (rooms' : Nat → Int32) (day' : Int32) (series' pieces' moves' : Rg), clsA B rooms' c_archive_moveDays day' series' pieces' moves' → R0 D rooms' c_archive_moveDays day' series' pieces' moves' c_history_slots (nI ((t + 8) % 9)) (nI h'.length) c_planner_gaps c_planner_layings c_rows c_text_bytes c_text_length c_page_signs c_page_length (cpU d_row h'.length 562) (nI h'.length) d_list d_listed d_paper d_papers d_text d_length d_words d_sorts := by
      intro rooms' day' series' pieces' moves' hC'
      refine ⟨⟨B, h', hk B List.mem_cons_self, hC', ?_, ⟨by omega, rfl, rfl, ho.2.2, fun z hz => hk z (List.mem_cons_of_mem _ hz), (t + 8) % 9, by omega, rfl, fun i hi => ?_⟩⟩, hrest⟩
      · refine modA_ext e0.2 (fun k hk => ?_)
        show cpU d_row h'.length 562 k = d_row (562 * ((B :: h').length - 0) + k)
        rw [List.length_cons]
        unfold cpU
        rw [if_pos hk]
        exact congrArg d_row (by omega)
      · have ei := h2 (i + 1) (by rw [List.length_cons]; omega)
        rw [show (t + 8 - (i + 1)) % 9 = ((t + 8) % 9 + 8 - i) % 9 by omega] at ei
        refine ⟨ei.1, modA_ext ei.2 (fun k hk => ?_)⟩
        show cpU d_row h'.length 562 (562 * (h'.length - i) + k) = d_row (562 * ((B :: h').length - (i + 1)) + k)
        rw [List.length_cons]
        unfold cpU
        rw [if_neg (by omega)]
        exact congrArg d_row (by omega)
    by_cases c : t = 0
    · subst c
      obtain ⟨a1, a2, a3, a4, a5, e1, hC'⟩ := key 8 (by omega)
      rw [if_pos (by decide), show (8 : Int32) = nI 8 from rfl, e1, ob, ob, if_neg (show ¬ (1 : Int32) = 0 by decide)]
      exact ⟨_, _, _, _, _, _, _, _, _, _, rfl, rfl, fin _ _ _ _ _ hC'⟩
    · obtain ⟨s, rfl⟩ : ∃ s, t = s + 1 := ⟨t - 1, by omega⟩
      obtain ⟨a1, a2, a3, a4, a5, e1, hC'⟩ := key s (by omega)
      have fin2 := fin _ _ _ _ _ hC'
      rw [show (s + 1 + 8) % 9 = s by omega] at fin2
      rw [if_neg (nI_nle (by omega) (by omega)), nI_pred, e1, ob, ob, if_neg (show ¬ (1 : Int32) = 0 by decide)]
      exact ⟨_, _, _, _, _, _, _, _, _, _, rfl, rfl, fin2⟩
