/-! sums; homes; boxes -/
theorem toI_add {x y : Int32} (h1 : -2147483648 ≤ x.toInt + y.toInt) (h2 : x.toInt + y.toInt ≤ 2147483647) : (x + y).toInt = x.toInt + y.toInt := by
  rw [Int32.toInt_add, Int.bmod_eq_of_le] <;> omega
theorem toI_sub {x y : Int32} (h1 : -2147483648 ≤ x.toInt - y.toInt) (h2 : x.toInt - y.toInt ≤ 2147483647) : (x - y).toInt = x.toInt - y.toInt := by
  rw [Int32.toInt_sub, Int.bmod_eq_of_le] <;> omega
theorem t0 : (0 : Int32).toInt = 0 := rfl
theorem t1 : (1 : Int32).toInt = 1 := rfl
theorem tm1 : (-1 : Int32).toInt = -1 := rfl
theorem tM : MAX.toInt = 2000000000 := rfl
theorem toI_1 {x : Int32} (h : x.toInt ≤ 2147483646) (h0 : -2147483648 ≤ x.toInt) : (x + 1).toInt = x.toInt + 1 := by
  rw [toI_add] <;> rw [t1] <;> omega
theorem toI_m1 {x : Int32} (h : -2147483647 ≤ x.toInt) (h0 : x.toInt ≤ 2147483647) : (x - 1).toInt = x.toInt - 1 := by
  rw [toI_sub] <;> rw [t1] <;> omega
theorem okR.i {l : List Tr} (h : okR l) {q : Tr} (hq : q ∈ l) : 1 ≤ q.2.1.toInt ∧ q.2.1.toInt ≤ q.2.2.toInt ∧ q.2.2.toInt ≤ 2000000000 := by
  have := h q hq
  rw [i32le, i32le, i32le, t1, tM] at this
  exact this
theorem cm_i {a b c d : Int32} (h1 : 1 ≤ c.toInt) (h2 : d.toInt ≤ 2000000000) : (cm a b c d).toInt = max 0 (min b.toInt d.toInt - max a.toInt c.toInt + 1) := by
  unfold cm
  have e1 := @imax_i a c
  have e2 := @imin_i b d
  by_cases z : imax a c ≤ imin b d
  · rw [if_pos z]
    rw [i32le] at z
    rw [toI_1, toI_sub] <;> (try rw [toI_sub]) <;> omega
  · rw [if_neg z, t0]
    rw [i32le] at z
    omega
theorem sumI_add {f g : Tr → Int32} {l : List Tr} : sumI (fun q => f q + g q) l = sumI f l + sumI g l := by
  induction l with
  | nil => rfl
  | cons q l ih => rw [sumI, sumI, sumI, ih]; grind
theorem sumI_sub {f g : Tr → Int32} {l : List Tr} : sumI (fun q => f q - g q) l = sumI f l - sumI g l := by
  induction l with
  | nil => rw [sumI, sumI, sumI]; decide
  | cons q l ih => rw [sumI, sumI, sumI, ih]; grind
theorem sumI_zero {l : List Tr} : sumI (fun _ => 0) l = 0 := by
  induction l with
  | nil => rfl
  | cons q l ih => rw [sumI, ih]; rfl
theorem sumI_comm {g : Tr → Tr → Int32} {S P : List Tr} : sumI (fun s => sumI (g s) P) S = sumI (fun p => sumI (fun s => g s p) S) P := by
  induction S with
  | nil => rw [sumI]; exact sumI_zero.symm
  | cons s S ih => rw [sumI, ih, ← sumI_add]; rfl
theorem fold_sub {P : Tr → Prop} [DecidablePred P] {f : Tr → Int32} {l : List Tr} {c : Int32} : l.foldl (fun acc q => if P q then acc - f q else acc) c = c - sumI (fun q => if P q then f q else 0) l := by
  induction l generalizing c with
  | nil => rw [List.foldl_nil, sumI, Int32.sub_zero]
  | cons q l ih =>
    rw [List.foldl_cons, ih, sumI]
    by_cases z : P q
    · rw [if_pos z, if_pos z]; grind
    · rw [if_neg z, if_neg z]; grind
theorem fold_add {P : Tr → Prop} [DecidablePred P] {f : Tr → Int32} {l : List Tr} {c : Int32} : l.foldl (fun acc q => if P q then acc + f q else acc) c = c + sumI (fun q => if P q then f q else 0) l := by
  induction l generalizing c with
  | nil => rw [List.foldl_nil, sumI, Int32.add_zero]
  | cons q l ih =>
    rw [List.foldl_cons, ih, sumI]
    by_cases z : P q
    · rw [if_pos z, if_pos z]; grind
    · rw [if_neg z, if_neg z]; grind
/-- sums as integers -/
def sumZ (f : Tr → Int) : List Tr → Int
  | [] => 0
  | q :: l => f q + sumZ f l
theorem sumZ_nn {f : Tr → Int} {l : List Tr} (h : ∀ q ∈ l, 0 ≤ f q) : 0 ≤ sumZ f l := by
  induction l with
  | nil => exact Int.le_refl _
  | cons q l ih =>
    have h1 := h q List.mem_cons_self
    have h2 := ih (fun z hz => h z (List.mem_cons_of_mem _ hz))
    rw [sumZ]; omega
theorem sumZ_le {f g : Tr → Int} {l : List Tr} (h : ∀ q ∈ l, f q ≤ g q) : sumZ f l ≤ sumZ g l := by
  induction l with
  | nil => exact Int.le_refl _
  | cons q l ih =>
    have h1 := h q List.mem_cons_self
    have h2 := ih (fun z hz => h z (List.mem_cons_of_mem _ hz))
    rw [sumZ, sumZ]; omega
theorem sumZ_add {f g : Tr → Int} {l : List Tr} : sumZ (fun q => f q + g q) l = sumZ f l + sumZ g l := by
  induction l with
  | nil => rfl
  | cons q l ih => rw [sumZ, sumZ, sumZ, ih]; omega
theorem sumZ_congr {f g : Tr → Int} {l : List Tr} (h : ∀ q ∈ l, f q = g q) : sumZ f l = sumZ g l := by
  induction l with
  | nil => rfl
  | cons q l ih => rw [sumZ, sumZ, h q List.mem_cons_self, ih (fun z hz => h z (List.mem_cons_of_mem _ hz))]
theorem sumI_Z {f : Tr → Int32} {l : List Tr} (h : ∀ q ∈ l, 0 ≤ (f q).toInt) (hs : sumZ (fun q => (f q).toInt) l ≤ 2147483647) : (sumI f l).toInt = sumZ (fun q => (f q).toInt) l := by
  induction l with
  | nil => rfl
  | cons q l ih =>
    have h1 := h q List.mem_cons_self
    have hh : ∀ z ∈ l, 0 ≤ (f z).toInt := fun z hz => h z (List.mem_cons_of_mem _ hz)
    have h2 := sumZ_nn hh
    rw [sumZ] at hs
    have h3 := ih hh (by omega)
    rw [sumI, sumZ, toI_add] <;> rw [h3] <;> omega
def lenZ (q : Tr) : Int := q.2.2.toInt - q.2.1.toInt + 1
theorem lenZ_le {l : List Tr} (hr : okR l) (h : canon l) : sumZ lenZ l ≤ 2000000000 := by
  have key : ∀ (l : List Tr) (p : Tr), okR (p :: l) → canon (p :: l) → sumZ lenZ (p :: l) ≤ 2000000001 - p.2.1.toInt := by
    intro l
    induction l with
    | nil =>
      intro p hr h
      have := hr.i (List.mem_cons_self (a := p))
      rw [sumZ, sumZ, lenZ]; omega
    | cons q l ih =>
      intro p hr h
      have h1 := ih q (fun z hz => hr z (List.mem_cons_of_mem _ hz)) h.2
      have h2 := h.1.1
      rw [sumZ, lenZ]
      omega
  cases l with
  | nil => rw [sumZ]; decide
  | cons p l =>
    have h1 := key l p hr h
    have h2 := hr.i (List.mem_cons_self (a := p))
    omega
/-- how many sheets of a range are in a box -/
def inZ (box a b : Int32) (l : List Tr) : Int := sumZ (fun q => if q.1 = box then max 0 (min b.toInt q.2.2.toInt - max a.toInt q.2.1.toInt + 1) else 0) l
theorem ov8_i {l : List Tr} (hr : okR l) {box a b : Int32} (hb : box ≠ -1) : ∀ q ∈ l, (ov8 box a b q).toInt = if q.1 = box then max 0 (min b.toInt q.2.2.toInt - max a.toInt q.2.1.toInt + 1) else 0 := by
  intro q hq
  have h1 := hr.i hq
  unfold ov8
  by_cases z : q.1 = box
  · rw [if_pos (Or.inr z), if_pos z, cm_i h1.1 h1.2.2]
  · rw [if_neg (fun c => c.elim hb z), if_neg z, t0]
theorem inZ_nn {box a b : Int32} {l : List Tr} : 0 ≤ inZ box a b l := by
  refine sumZ_nn (fun q _ => ?_)
  by_cases z : q.1 = box
  · rw [if_pos z]; omega
  · rw [if_neg z]; omega
theorem inZ_le {box a b : Int32} {l : List Tr} (hr : okR l) (h : canon l) : inZ box a b l ≤ 2000000000 := by
  refine Int.le_trans (sumZ_le (g := lenZ) (fun q hq => ?_)) (lenZ_le hr h)
  have := hr.i hq
  rw [lenZ]
  by_cases z : q.1 = box
  · rw [if_pos z]; omega
  · rw [if_neg z]; omega
theorem inBox_Z {l : List Tr} (hr : okR l) (h : canon l) {box a b : Int32} (hb : box ≠ -1) : (sumI (ov8 box a b) l).toInt = inZ box a b l := by
  have e : sumZ (fun q => (ov8 box a b q).toInt) l = inZ box a b l := sumZ_congr (ov8_i hr hb)
  rw [sumI_Z, e]
  · intro q hq
    rw [ov8_i hr hb q hq]
    by_cases z : q.1 = box
    · rw [if_pos z]; omega
    · rw [if_neg z]; omega
  · rw [e]; have := @inZ_le box a b l hr h; omega
theorem load_Z {l : List Tr} (hr : okR l) {box : Int32} : inZ box 1 MAX l = loadZ box l := by
  induction l with
  | nil => rfl
  | cons q l ih =>
    have := hr.i (List.mem_cons_self (a := q))
    have ih := ih (fun z hz => hr z (List.mem_cons_of_mem _ hz))
    unfold inZ at ih
    unfold inZ
    rw [sumZ, loadZ, ih, t1, tM]
    by_cases z : q.1 = box
    · rw [if_pos z, if_pos z]; omega
    · rw [if_neg z, if_neg z]
theorem e_loadOf {v : Rg} {l : List Tr} (h : isL 42 v l) (x : Int32) : fX0_loadOf v x = some (sumI (ovl x 1 MAX) l) := by
  unfold fX0_loadOf
  rw [show (2000000000 : Int32) = MAX from rfl, e_sheetsIn h (by decide), ob]
theorem e8_load {g : Nat → Int32} {l : List Tr} (h : isP g l) (x : Int32) : fX8_load g x = some (sumI (ov8 x 1 MAX) l) := by
  unfold fX8_load
  rw [show (2000000000 : Int32) = MAX from rfl, e8_inBox h, ob]
/-! own sheets -/
theorem nI_m1 {j : Nat} (h : j < 2 ^ 31) : ¬ nI j = -1 := fun e => nI_nneg h (by rw [e]; decide)
def ownS (x a b : Int32) (q : Tr) : Int32 := if q.1 = x then cm q.2.1 q.2.2 a b else 0
theorem own8_loop {g : Nat → Int32} {l : List Tr} (h : isS g l) (x1 x2 x3 : Int32) (k : Int32 → Int32 → Option Int32) : ∀ (n i : Nat) (acc : Int32), i ≤ l.length → l.length < i + n → fX8_ownIn_33 g x1 x2 x3 n k acc (nI i) = k ((l.drop i).foldl (fun acc q => if q.1 = x1 then acc - cm q.2.1 q.2.2 x2 x3 else acc) acc) (nI l.length) := by
  have hb : l.length < 2 ^ 30 := h.b
  intro n
  induction n with
  | zero => intro i acc h1 h2; omega
  | succ n ih =>
    intro i acc hi hn
    rw [fX8_ownIn_33]
    simp only [h.c, ob]
    by_cases c : i = l.length
    · rw [if_pos ((nI_geI (by omega) (by omega) hi).mpr c)]
      subst c
      rw [List.drop_length]; rfl
    · have hlt : i < l.length := by omega
      rw [if_neg (fun z => c ((nI_geI (by omega) (by omega) hi).mp z))]
      have ih := fun acc => ih (i + 1) acc (by omega) (by omega)
      simp only [h.m hlt, h.f hlt, h.l hlt, e8_common, Int32.sub_zero, ob, i01, nI_1, ih]
      rw [List.drop_eq_getElem_cons hlt, List.foldl_cons]; (repeat' split) <;> rfl
theorem e8_own {g : Nat → Int32} {l : List Tr} (h : isS g l) {j : Nat} (hj : j < l.length) (a b : Int32) : fX8_ownIn g (nI j) a b = some (cm (l[j]).2.1 (l[j]).2.2 a b - sumI (ownS (nI j) a b) l) := by
  have h1 := h.1
  unfold fX8_ownIn
  have := own8_loop h (nI j) a b (fun x4 x5 => some x4) FU 0 (cm (l[j]).2.1 (l[j]).2.2 a b) (Nat.zero_le _) (FU_gt (by omega))
  rw [nI_0, List.drop_zero, fold_sub] at this
  rw [if_neg (nI_m1 (by omega)), h.f hj, ob, h.l hj, ob, e8_common, ob, this]
  rfl
theorem e8_own0 {g : Nat → Int32} {l : List Tr} (h : isS g l) (a b : Int32) : fX8_ownIn g (-1) a b = some (b - a + 1 - sumI (ownS (-1) a b) l) := by
  have h1 := h.1
  unfold fX8_ownIn
  have := own8_loop h (-1) a b (fun x4 x5 => some x4) FU 0 (b - a + 1) (Nat.zero_le _) (FU_gt (by omega))
  rw [nI_0, List.drop_zero, fold_sub] at this
  rw [if_pos rfl, this]
  rfl
/-- homes -/
def homeU (x : Int32) (l : List Tr) : Nat → Int32
  | 0 => -1
  | i + 1 => if h : i < l.length then (if ¬ x < (l[i]).2.1 ∧ ¬ (l[i]).2.2 < x then nI i else homeU x l i) else -1
theorem home7_loop {v : Rg} {l : List Tr} (h : isL 10 v l) (x1 : Int32) : ∀ (i n : Nat), i ≤ l.length → i < n → fX0_homeOf_10 v x1 n (fun _ => some (-1)) (nI i - 1) = some (homeU x1 l i) := by
  have hb := h.1
  intro i
  induction i with
  | zero =>
    intro n h1 h2
    obtain ⟨n, rfl⟩ : ∃ m, n = m + 1 := ⟨n - 1, by omega⟩
    rw [fX0_homeOf_10, if_pos (by decide)]
    rfl
  | succ i ih =>
    intro n h1 h2
    obtain ⟨n, rfl⟩ : ∃ m, n = m + 1 := ⟨n - 1, by omega⟩
    have hi : i < l.length := by omega
    have ih := ih n (by omega) (by omega)
    have em : nI i + (-1) = nI i - 1 := by rw [Int32.sub_eq_add_neg]
    rw [fX0_homeOf_10, nI_pred, if_neg (nI_nneg (by omega)), e_includes h hi, homeU, dif_pos hi]
    simp only [ob, i01, em, ih]
    split <;> rfl
theorem cm_x {x c d : Int32} (h1 : 1 ≤ c.toInt) (h2 : d.toInt ≤ 2000000000) : (cm c d x x).toInt = if ¬ x < c ∧ ¬ d < x then 1 else 0 := by
  rw [cm_comm, cm_i h1 h2]
  by_cases z : ¬ x < c ∧ ¬ d < x
  · rw [if_pos z]; rw [i32lt, i32lt] at z; omega
  · rw [if_neg z]; rw [i32lt, i32lt] at z; omega
theorem own_x {l : List Tr} (hS : okSer l) {x : Int32} {j : Nat} (hj : j < l.length) (hn : ∀ (i : Nat) (hi : i < l.length), j < i → ¬ (¬ x < (l[i]).2.1 ∧ ¬ (l[i]).2.2 < x)) (hl : l.length ≤ 10) : sumI (ownS (nI j) x x) l = 0 := by
  rw [← @sumI_zero l]
  refine sumI_congr (fun q hq => ?_)
  unfold ownS
  by_cases z : q.1 = nI j
  · obtain ⟨i, hi, rfl⟩ := List.getElem_of_mem hq
    have h1 := hS.1.i hq
    rw [if_pos z, i32eq, cm_x h1.1 h1.2.2, t0, if_neg]
    refine hn i hi ?_
    rcases hS.2.1 i hi with e | ⟨j', hj', hlt, e, _⟩
    · exact absurd (z.symm.trans e) (nI_m1 (by omega))
    · have := (nI_eq (by omega) (by omega)).mp (z.symm.trans e)
      omega
  · rw [if_neg z]
theorem homeU_is {x : Int32} {l : List Tr} {i : Nat} (hi : i < l.length) (c : ¬ x < (l[i]).2.1 ∧ ¬ (l[i]).2.2 < x) : ∀ m : Nat, i < m → m ≤ l.length → (∀ (j : Nat) (hj : j < l.length), i < j → j < m → ¬ (¬ x < (l[j]).2.1 ∧ ¬ (l[j]).2.2 < x)) → homeU x l m = nI i := by
  intro m
  induction m with
  | zero => intro h; omega
  | succ m ih =>
    intro h1 h2 h3
    rw [homeU, dif_pos (by omega)]
    by_cases e : m = i
    · subst e; rw [if_pos c]
    · rw [if_neg (h3 m (by omega) (by omega) (by omega)), ih (by omega) (by omega) (fun j hj a b => h3 j hj a (by omega))]
theorem homeU_none {x : Int32} {l : List Tr} : ∀ m : Nat, m ≤ l.length → (∀ (j : Nat) (hj : j < l.length), j < m → ¬ (¬ x < (l[j]).2.1 ∧ ¬ (l[j]).2.2 < x)) → homeU x l m = -1 := by
  intro m
  induction m with
  | zero => intro h1 h2; rfl
  | succ m ih =>
    intro h1 h2
    rw [homeU, dif_pos (by omega), if_neg (h2 m (by omega) (by omega)), ih (by omega) (fun j hj a => h2 j hj (by omega))]
theorem home8_loop {g : Nat → Int32} {l : List Tr} (h : isS g l) (hS : okSer l) (x1 : Int32) (k : Int32 → Int32 → Option Int32) : ∀ (n i : Nat) (b : Int32), i ≤ l.length → l.length < i + n → ((∀ (j : Nat) (hj : j < l.length), i ≤ j → ¬ (¬ x1 < (l[j]).2.1 ∧ ¬ (l[j]).2.2 < x1)) → b = homeU x1 l l.length) → fX8_homeOf_4 g x1 n k b (nI i) = k (homeU x1 l l.length) (nI l.length) := by
  have hb := h.b
  have h10 := h.1
  intro n
  induction n with
  | zero => intro i b h1 h2; omega
  | succ n ih =>
    intro i b hi hn hL
    rw [fX8_homeOf_4, h.c]
    simp only [ob]
    by_cases c : i = l.length
    · rw [if_pos ((nI_geI (by omega) (by omega) hi).mpr c), hL (fun j hj a => absurd hj (by omega)), c]
    · have hlt : i < l.length := by omega
      rw [if_neg (fun z => c ((nI_geI (by omega) (by omega) hi).mp z)), e8_own h hlt, ob, nI_1]
      by_cases ex : ∀ (j : Nat) (hj : j < l.length), i < j → ¬ (¬ x1 < (l[j]).2.1 ∧ ¬ (l[j]).2.2 < x1)
      · rw [own_x hS hlt ex h10, Int32.sub_zero]
        have h1 := hS.1.i (List.getElem_mem hlt)
        have e := @cm_x x1 _ _ h1.1 h1.2.2
        by_cases c1 : ¬ x1 < (l[i]).2.1 ∧ ¬ (l[i]).2.2 < x1
        · rw [if_pos c1] at e
          rw [if_pos (i32eq.mpr (e.trans t1.symm)), ih (i + 1) _ (by omega) (by omega)]
          intro _
          exact (homeU_is hlt c1 l.length hlt (Nat.le_refl _) (fun j hj a _ => ex j hj a)).symm
        · rw [if_neg c1] at e
          rw [if_neg (fun z => by rw [z, t1] at e; exact absurd e (by decide)), ih (i + 1) _ (by omega) (by omega)]
          intro h3
          refine hL (fun j hj a => ?_)
          by_cases e2 : j = i
          · subst e2; exact c1
          · exact h3 j hj (by omega)
      · have vac : ∀ b, ((∀ (j : Nat) (hj : j < l.length), i + 1 ≤ j → ¬ (¬ x1 < (l[j]).2.1 ∧ ¬ (l[j]).2.2 < x1)) → b = homeU x1 l l.length) := fun b h3 => absurd (fun j hj a => h3 j hj a) ex
        rw [ih (i + 1) _ (by omega) (by omega) (vac _), ih (i + 1) _ (by omega) (by omega) (vac _)]
        split <;> rfl
theorem sim_home {D : Int} : S_home (RR D) (RR D) := by
  intro c_archive_rooms c_archive_moveDays c_archive_day c_archive_series c_archive_pieces c_archive_trial c_archive_moves c_history_slots c_history_top c_history_steps c_planner_free c_planner_remaining c_planner_gaps c_planner_layings c_rows c_text_bytes c_text_verbs c_text_numbers c_text_length c_text_commandCount c_text_at c_page_signs c_page_length c_page_latest c_draft_signs c_draft_length c_draft_latest d_row d_undos d_list d_listed d_paper d_papers d_text d_length d_beside d_besides d_gapFirst d_gapLast d_laying d_layings d_free d_first d_behind d_numbers d_clauses d_words d_sorts d_shifted d_saved d_draft d_drafts x1 h
  have hR : RR D (c_archive_rooms, c_archive_moveDays, c_archive_day, c_archive_series, c_archive_pieces, c_archive_trial, c_archive_moves, c_history_slots, c_history_top, c_history_steps, c_planner_free, c_planner_remaining, c_planner_gaps, c_planner_layings, c_rows, c_text_bytes, c_text_verbs, c_text_numbers, c_text_length, c_text_commandCount, c_text_at, c_page_signs, c_page_length, c_page_latest, c_draft_signs, c_draft_length, c_draft_latest) (d_row, d_undos, d_list, d_listed, d_paper, d_papers, d_text, d_length, d_beside, d_besides, d_gapFirst, d_gapLast, d_laying, d_layings, d_free, d_first, d_behind, d_numbers, d_clauses, d_words, d_sorts, d_shifted, d_saved, d_draft, d_drafts) := h
  have h : R0 D c_archive_rooms c_archive_moveDays c_archive_day c_archive_series c_archive_pieces c_archive_moves c_history_slots c_history_top c_history_steps c_planner_gaps c_planner_layings c_rows c_text_bytes c_text_length c_page_signs c_page_length d_row d_undos d_list d_listed d_paper d_papers d_text d_length d_words d_sorts := h
  obtain ⟨⟨A, hs, hA, hC, hM, hH⟩, -⟩ := h
  have hp := hC.1
  have hq := hM.1
  have hle := hq.1
  have e1 := home7_loop hp x1 A.1.length FU (Nat.le_refl _) (by unfold FU; omega)
  have e2 := home8_loop hq hA.1 x1 (fun x2 x3 => some x2) FU 0 (-1) (Nat.zero_le _) (FU_gt (by omega)) (fun h3 => (homeU_none _ (Nat.le_refl _) (fun j hj _ => h3 j hj (Nat.zero_le _))).symm)
  rw [nI_0] at e2
  unfold fX7_home fX8_home fX0_homeOf fX8_homeOf
  simp only [e7_isSheet, e8_isSheet, ob, i01, e_size hp, e1, e2]
  by_cases c1 : 1 ≤ x1 ∧ x1 ≤ MAX
  · simp only [if_pos c1]
    exact ⟨_, rfl, rfl, hR⟩
  · simp only [if_neg c1]
    exact ⟨-3, rfl, rfl, hR⟩
/-- own sheets in a box: the class -/
theorem own7_loop {v w : Rg} {S P : List Tr} (h : isL 10 v S) (hp : isL 42 w P) (x1 x2 : Int32) (k : Int32 → Int32 → Option Int32) : ∀ (n i : Nat) (acc : Int32), i ≤ S.length → S.length < i + n → fX0_ownIn_22 v w x1 x2 n k acc (nI i) = k ((S.drop i).foldl (fun acc q => if q.1 = x1 then acc - sumI (ovl x2 q.2.1 q.2.2) P else acc) acc) (nI S.length) := by
  have hb : S.length < 2 ^ 30 := h.b
  intro n
  induction n with
  | zero => intro i acc h1 h2; omega
  | succ n ih =>
    intro i acc hi hn
    rw [fX0_ownIn_22]
    simp only [e_size h, ob]
    by_cases c : i = S.length
    · rw [if_pos ((nI_geI (by omega) (by omega) hi).mpr c)]
      subst c
      rw [List.drop_length]; rfl
    · have hlt : i < S.length := by omega
      rw [if_neg (fun z => c ((nI_geI (by omega) (by omega) hi).mp z))]
      have ih := fun acc => ih (i + 1) acc (by omega) (by omega)
      simp only [e_markOf_in h hlt, e_firstOf_in h hlt, e_lastOf_in h hlt, e_sheetsIn hp (show 42 < 6000 by decide), ob, i01, nI_1, ih]
      rw [List.drop_eq_getElem_cons hlt, List.foldl_cons]; (repeat' split) <;> rfl
theorem ownB8_loop {g : Nat → Int32} {P : List Tr} (h : isP g P) (x1 x2 : Int32) (f : Int32 → Int32 → Int32) (hf : ∀ a b, fX8_ownIn g x1 a b = some (f a b)) (k : Int32 → Int32 → Option Int32) : ∀ (n i : Nat) (acc : Int32), i ≤ P.length → P.length < i + n → fX8_ownInBox_5 g x1 x2 n k acc (nI i) = k ((P.drop i).foldl (fun acc q => if q.1 = x2 then acc + f q.2.1 q.2.2 else acc) acc) (nI P.length) := by
  have hb : P.length < 2 ^ 30 := h.b
  intro n
  induction n with
  | zero => intro i acc h1 h2; omega
  | succ n ih =>
    intro i acc hi hn
    rw [fX8_ownInBox_5]
    simp only [h.c, ob]
    by_cases c : i = P.length
    · rw [if_pos ((nI_geI (by omega) (by omega) hi).mpr c)]
      subst c
      rw [List.drop_length]; rfl
    · have hlt : i < P.length := by omega
      rw [if_neg (fun z => c ((nI_geI (by omega) (by omega) hi).mp z))]
      have ih := fun acc => ih (i + 1) acc (by omega) (by omega)
      simp only [h.m hlt, h.f hlt, h.l hlt, hf, Int32.add_zero, ob, i01, nI_1, ih]
      rw [List.drop_eq_getElem_cons hlt, List.foldl_cons]; (repeat' split) <;> rfl
theorem e8_ownInBox {g : Nat → Int32} {P : List Tr} (h : isP g P) (x1 x2 : Int32) (f : Int32 → Int32 → Int32) (hf : ∀ a b, fX8_ownIn g x1 a b = some (f a b)) : fX8_ownInBox g x1 x2 = some (sumI (fun q => if q.1 = x2 then f q.2.1 q.2.2 else 0) P) := by
  have h1 := h.1
  unfold fX8_ownInBox
  have := ownB8_loop h x1 x2 f hf (fun x3 x4 => some x3) FU 0 0 (Nat.zero_le _) (FU_gt (by omega))
  rw [nI_0, List.drop_zero, fold_add, Int32.zero_add] at this
  exact this
/-- what a mark asks for -/
def mk (x : Int32) (q : Tr) : Prop := x = -100 ∨ q.1 = x
theorem ovl_cm {P : List Tr} (hP : okR P) {x a b : Int32} (hab : a ≤ b) : ∀ p ∈ P, ovl x a b p = if x = -100 ∨ p.1 = x then cm a b p.2.1 p.2.2 else 0 := by
  intro p hp
  unfold ovl
  rw [cm_ov hab (hP p hp).2.1]
  by_cases c1 : x = -100 ∨ p.1 = x
  · by_cases c2 : ¬ b < p.2.1 ∧ ¬ p.2.2 < a
    · rw [if_pos ⟨c1, c2⟩, if_pos c1, if_pos c2]
    · rw [if_neg (fun z => c2 z.2), if_pos c1, if_neg c2]
  · rw [if_neg (fun z => c1 z.1), if_neg c1]
/-- own sheets: one sum -/
def ownT (x1 x2 a b : Int32) (S P : List Tr) : Int32 := sumI (fun p => if x2 = -100 ∨ p.1 = x2 then cm a b p.2.1 p.2.2 - sumI (ownS x1 p.2.1 p.2.2) S else 0) P
theorem own_fold {S P : List Tr} (hS : okR S) (hP : okR P) {x1 x2 a b : Int32} (hab : a ≤ b) : S.foldl (fun acc q => if q.1 = x1 then acc - sumI (ovl x2 q.2.1 q.2.2) P else acc) (sumI (ovl x2 a b) P) = ownT x1 x2 a b S P := by
  rw [fold_sub, sumI_congr (ovl_cm hP hab)]
  have e1 : sumI (fun q => if q.1 = x1 then sumI (ovl x2 q.2.1 q.2.2) P else 0) S = sumI (fun q => sumI (fun p => if x2 = -100 ∨ p.1 = x2 then ownS x1 p.2.1 p.2.2 q else 0) P) S := by
    refine sumI_congr (fun q hq => ?_)
    by_cases z : q.1 = x1
    · rw [if_pos z, sumI_congr (ovl_cm hP (hS q hq).2.1)]
      refine sumI_congr (fun p _ => ?_)
      unfold ownS
      rw [if_pos z]
    · rw [if_neg z]
      refine (@sumI_zero P).symm.trans (sumI_congr (fun p _ => ?_))
      unfold ownS
      rw [if_neg z]
      split <;> rfl
  rw [e1, sumI_comm, ← sumI_sub, ownT]
  refine sumI_congr (fun p _ => ?_)
  by_cases z : x2 = -100 ∨ p.1 = x2
  · rw [if_pos z, if_pos z]
    congr 1
    refine sumI_congr (fun q _ => ?_)
    rw [if_pos z]
  · rw [if_neg z, if_neg z, show (fun s => if x2 = -100 ∨ p.1 = x2 then ownS x1 p.2.1 p.2.2 s else 0) = (fun _ => (0 : Int32)) from funext (fun s => if_neg z), sumI_zero]
    decide
theorem e7_firstIn {v : Rg} {S : List Tr} (h : isL 10 v S) {j : Nat} (hj : j < S.length) : fX0_firstIn v (nI j) = some (S[j]).2.1 := by
  have := h.1
  unfold fX0_firstIn
  rw [if_neg (nI_m1 (by omega)), e_firstOf_in h hj, ob]
theorem e7_lastIn {v : Rg} {S : List Tr} (h : isL 10 v S) {j : Nat} (hj : j < S.length) : fX0_lastIn v (nI j) = some (S[j]).2.2 := by
  have := h.1
  unfold fX0_lastIn
  rw [if_neg (nI_m1 (by omega)), e_lastOf_in h hj, ob]
theorem e7_own {v w : Rg} {S P : List Tr} (h : isL 10 v S) (hp : isL 42 w P) (hS : okR S) (hP : okR P) {j : Nat} (hj : j < S.length) (x2 : Int32) : fX0_ownIn v w (nI j) x2 = some (ownT (nI j) x2 (S[j]).2.1 (S[j]).2.2 S P) := by
  have h1 := h.1
  have h2 := own_fold hS hP (x1 := nI j) (x2 := x2) (hS _ (List.getElem_mem hj)).2.1
  unfold fX0_ownIn
  have := own7_loop h hp (nI j) x2 (fun x3 x4 => some x3) FU 0 (sumI (ovl x2 (S[j]).2.1 (S[j]).2.2) P) (Nat.zero_le _) (FU_gt (by omega))
  rw [nI_0, List.drop_zero, h2] at this
  rw [e7_firstIn h hj, ob, e7_lastIn h hj, ob, e_sheetsIn hp (by decide), ob, this]
theorem e7_own0 {v w : Rg} {S P : List Tr} (h : isL 10 v S) (hp : isL 42 w P) (hS : okR S) (hP : okR P) (x2 : Int32) : fX0_ownIn v w (-1) x2 = some (ownT (-1) x2 1 MAX S P) := by
  have h1 := h.1
  have h2 := own_fold hS hP (x1 := -1) (x2 := x2) (a := 1) (b := MAX) (by decide)
  unfold fX0_ownIn fX0_firstIn fX0_lastIn
  have := own7_loop h hp (-1) x2 (fun x3 x4 => some x3) FU 0 (sumI (ovl x2 1 MAX) P) (Nat.zero_le _) (FU_gt (by omega))
  rw [nI_0, List.drop_zero, h2] at this
  rw [if_pos rfl, ob, if_pos rfl, ob, show (2000000000 : Int32) = MAX from rfl, e_sheetsIn hp (by decide), ob, this]
theorem bx_100 {x : Int32} (h : 0 ≤ x ∧ x ≤ 7) : x ≠ -100 ∧ x ≠ -1 := by
  have h1 := h.1
  constructor
  · intro e; rw [e] at h1; exact absurd h1 (by decide)
  · intro e; rw [e] at h1; exact absurd h1 (by decide)
theorem e8_ownB {g : Nat → Int32} {S P : List Tr} (h : isS g S) (hp : isP g P) {j : Nat} (hj : j < S.length) {x2 : Int32} (hx : 0 ≤ x2 ∧ x2 ≤ 7) : fX8_ownInBox g (nI j) x2 = some (ownT (nI j) x2 (S[j]).2.1 (S[j]).2.2 S P) := by
  rw [e8_ownInBox hp (nI j) x2 _ (fun a b => e8_own h hj a b), ownT]
  congr 1
  refine sumI_congr (fun p _ => ?_)
  by_cases z : p.1 = x2
  · rw [if_pos z, if_pos (Or.inr z)]
  · rw [if_neg z, if_neg (fun y => y.elim (bx_100 hx).1 z)]
theorem cm_all {c d : Int32} (h1 : 1 ≤ c) (h2 : c ≤ d) (h3 : d ≤ MAX) : cm 1 MAX c d = d - c + 1 := by
  unfold cm
  have e1 : imax 1 c = c := by rw [i32eq, imax_i]; rw [i32le] at h1; omega
  have e2 : imin MAX d = d := by rw [i32eq, imin_i]; rw [i32le] at h3; omega
  rw [e1, e2, if_pos h2]
theorem e8_ownB0 {g : Nat → Int32} {S P : List Tr} (h : isS g S) (hp : isP g P) (hP : okR P) {x2 : Int32} (hx : 0 ≤ x2 ∧ x2 ≤ 7) : fX8_ownInBox g (-1) x2 = some (ownT (-1) x2 1 MAX S P) := by
  rw [e8_ownInBox hp (-1) x2 _ (fun a b => e8_own0 h a b), ownT]
  congr 1
  refine sumI_congr (fun p hq => ?_)
  have h1 := hP p hq
  by_cases z : p.1 = x2
  · rw [if_pos z, if_pos (Or.inr z), cm_all h1.1 h1.2.1 h1.2.2]
  · rw [if_neg z, if_neg (fun y => y.elim (bx_100 hx).1 z)]
