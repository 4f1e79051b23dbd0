/-! a box -/
theorem or0 (x : Int32) : x ||| 0 = x := Int32.or_zero
theorem isBx.n {x : Int32} (h : isBx x) : ∃ m : Nat, m < 8 ∧ x = nI m := by
  have h1 := h.1
  have h2 := h.2
  obtain ⟨j, hj, e⟩ := nI_of (x := x) (by rw [i32lt, t0]; omega)
  subst e
  rw [nI_toInt hj] at h2
  exact ⟨j, by omega, rfl⟩
/-- some piece of the box k meets a .. b -/
def anyM (a b : Int32) (l : List Tr) (k : Nat) : Bool := l.any (fun q => decide ((¬ b < q.2.1 ∧ ¬ q.2.2 < a) ∧ q.1 = nI k))
theorem marks_loop {N : Nat} {v : Rg} {l : List Tr} (h : isL N v l) (hB : ∀ q ∈ l, isBx q.1) (x1 x2 : Int32) (k : Int32 → Int32 → Option Int32) : ∀ (n i : Nat) (f : Nat → Bool), i ≤ l.length → l.length < i + n → fX4_marksWithin_5 N v x1 x2 n k (B8 f) (nI i) = k (B8 (fun m => f m || anyM x1 x2 (l.drop i) m)) (nI l.length) := by
  have hb : l.length < 2 ^ 30 := h.b
  intro n
  induction n with
  | zero => intro i f h1 h2; omega
  | succ n ih =>
    intro i f hi hn
    rw [fX4_marksWithin_5]
    simp only [h.n]
    by_cases c : i = l.length
    · rw [if_pos ((nI_geI (by omega) (by omega) hi).mpr c)]
      subst c
      rw [List.drop_length]; congr 1; exact B8_ext (fun k _ => by simp [anyM])
    · have hlt : i < l.length := by omega
      rw [if_neg (fun z => c ((nI_geI (by omega) (by omega) hi).mp z))]
      have ih := fun f => ih (i + 1) f (by omega) (by omega)
      simp only [e_meets h hlt, h.m hlt, ob, i01, nI_1, ih]
      obtain ⟨m, hm, em⟩ := (hB _ (List.getElem_mem hlt)).n
      rw [List.drop_eq_getElem_cons hlt, em, B8_or f m hm, ih]
      by_cases z : ¬ x2 < (l[i]).2.1 ∧ ¬ (l[i]).2.2 < x1
      · rw [if_pos z]
        congr 1
        refine B8_ext (fun j hj => ?_)
        unfold anyM
        rw [List.any_cons, em, Bool.or_assoc]
        congr 2
        exact decide_eq_decide.mpr ⟨fun e => ⟨z, by rw [e]⟩, fun e => ((nI_eq (by omega) (by omega)).mp e.2).symm⟩
      · rw [if_neg z]
        congr 1
        refine B8_ext (fun j hj => ?_)
        unfold anyM
        rw [List.any_cons, decide_eq_false (fun y => z y.1), Bool.false_or]
theorem e_marks {N : Nat} {v : Rg} {l : List Tr} (h : isL N v l) (hN : N < 6000) (hB : ∀ q ∈ l, isBx q.1) (a b : Int32) : fX4_marksWithin N v a b = some (B8 (anyM a b l)) := by
  have h1 := h.1
  unfold fX4_marksWithin
  have := marks_loop h hB a b (fun x3 x4 => some x3) FU 0 (fun _ => false) (Nat.zero_le _) (FU_gt (by omega))
  rw [nI_0, List.drop_zero, B8_0] at this
  rw [this]
  congr 1
/-- a sum is positive where one of its parts is -/
theorem sumZ_pos {f : Tr → Int} {l : List Tr} (h : ∀ q ∈ l, 0 ≤ f q) : 0 < sumZ f l ↔ ∃ q ∈ l, 0 < f q := by
  induction l with
  | nil =>
    constructor
    · intro z; exact absurd z (by rw [sumZ]; decide)
    · rintro ⟨q, hq, _⟩; exact absurd hq List.not_mem_nil
  | cons q l ih =>
    have h1 := h q List.mem_cons_self
    have hh : ∀ z ∈ l, 0 ≤ f z := fun z hz => h z (List.mem_cons_of_mem _ hz)
    have h2 := sumZ_nn hh
    have ih := ih hh
    rw [sumZ]
    constructor
    · intro z
      by_cases c : 0 < f q
      · exact ⟨q, List.mem_cons_self, c⟩
      · obtain ⟨p, hp, c2⟩ := ih.mp (by omega)
        exact ⟨p, List.mem_cons_of_mem _ hp, c2⟩
    · rintro ⟨p, hp, c⟩
      rcases List.mem_cons.mp hp with e | e
      · rw [e] at c; omega
      · have := ih.mpr ⟨p, e, c⟩; omega
theorem in_pos {l : List Tr} (hr : okR l) (h : canon l) {k : Nat} (hk : k < 8) {a b : Int32} (hab : a ≤ b) : decide (¬ sumI (ov8 (nI k) a b) l ≤ 0) = anyM a b l k := by
  have hb : nI k ≠ -1 := nI_m1 (by omega)
  have e := inBox_Z hr h (a := a) (b := b) hb
  unfold anyM
  rw [Bool.eq_iff_iff, decide_eq_true_iff, List.any_eq_true, i32le, e, t0, Int.not_le, inZ, sumZ_pos]
  · constructor
    · rintro ⟨q, hq, c⟩
      refine ⟨q, hq, ?_⟩
      rw [decide_eq_true_iff]
      by_cases z : q.1 = nI k
      · rw [if_pos z] at c
        refine ⟨?_, z⟩
        rw [i32lt, i32lt]
        omega
      · rw [if_neg z] at c
        exact absurd c (by decide)
    · rintro ⟨q, hq, c⟩
      rw [decide_eq_true_iff] at c
      refine ⟨q, hq, ?_⟩
      have h1 := hr.i hq
      rw [if_pos c.2]
      have c1 := c.1
      rw [i32lt, i32lt] at c1
      rw [i32le] at hab
      omega
  · intro q _
    by_cases z : q.1 = nI k
    · rw [if_pos z]; omega
    · rw [if_neg z]; omega
theorem e8_bx {j : Nat} (hj : j ≤ 8) : ((8 : Int32) ≤ nI j) ↔ j = 8 := by
  rw [show (8 : Int32) = nI 8 from rfl, nI_leI (by omega) (by omega)]; omega
theorem boxes_loop {g : Nat → Int32} {S P : List Tr} (h : isS g S) (hp : isP g P) (hr : okR P) (hc : canon P) {s : Nat} (hs : s < S.length) (hab : (S[s]).2.1 ≤ (S[s]).2.2) (k : Int32 → Int32 → Option Int32) : ∀ (n i : Nat), i ≤ 8 → 8 < i + n → fX8_boxesOf_4 g (nI s) n k (B8 (fun j => decide (j < i) && anyM (S[s]).2.1 (S[s]).2.2 P j)) (nI i) = k (B8 (anyM (S[s]).2.1 (S[s]).2.2 P)) 8 := by
  intro n
  induction n with
  | zero => intro i h1 h2; omega
  | succ n ih =>
    intro i hi hn
    rw [fX8_boxesOf_4]
    by_cases c : i = 8
    · rw [if_pos ((e8_bx hi).mpr c)]
      subst c
      congr 1
    · rw [if_neg (fun z => c ((e8_bx hi).mp z)), h.f hs, ob, h.l hs, ob, e8_inBox hp, ob, nI_1, or0, B8_or _ i (by omega)]
      have ih := ih (i + 1) (by omega) (by omega)
      have hd := in_pos hr hc (show i < 8 by omega) hab
      by_cases z : sumI (ov8 (nI i) (S[s]).2.1 (S[s]).2.2) P ≤ 0
      · rw [if_pos z, ← ih]
        congr 1
        refine B8_ext (fun j hj => ?_)
        rw [decide_eq_false (fun y => y z)] at hd
        by_cases e : j = i
        · subst e; rw [← hd]; simp
        · congr 1; exact decide_eq_decide.mpr (by omega)
      · rw [if_neg z, ← ih]
        congr 1
        refine B8_ext (fun j hj => ?_)
        rw [decide_eq_true z] at hd
        by_cases e : j = i
        · subst e; rw [← hd]; simp
        · rw [decide_eq_false e, Bool.or_false]; congr 1; exact decide_eq_decide.mpr (by omega)
theorem e8_boxesOf {g : Nat → Int32} {S P : List Tr} (h : isS g S) (hp : isP g P) (hr : okR P) (hc : canon P) {s : Nat} (hs : s < S.length) (hab : (S[s]).2.1 ≤ (S[s]).2.2) : fX8_boxesOf g (nI s) = some (B8 (anyM (S[s]).2.1 (S[s]).2.2 P)) := by
  unfold fX8_boxesOf
  have := boxes_loop h hp hr hc hs hab (fun x2 x3 => some x2) FU 0 (by omega) (by unfold FU; omega)
  rw [nI_0, show (fun j => decide (j < 0) && anyM (S[s]).2.1 (S[s]).2.2 P j) = (fun _ => false) from funext (fun j => by simp), B8_0] at this
  exact this
/-! filled boxes -/
def cntB (f : Nat → Bool) : Nat → Int32
  | 0 => 0
  | i + 1 => cntB f i + bit (f i) 1
theorem filled_loop {g : Nat → Int32} {P : List Tr} (hp : isP g P) (hr : okR P) (hc : canon P) (k : Int32 → Int32 → Option Int32) : ∀ (n i : Nat), i ≤ 8 → 8 < i + n → fX8_filled_4 g n k (cntB (anyM 1 MAX P) i) (nI i) = k (cntB (anyM 1 MAX P) 8) 8 := by
  intro n
  induction n with
  | zero => intro i h1 h2; omega
  | succ n ih =>
    intro i hi hn
    rw [fX8_filled_4]
    by_cases c : i = 8
    · rw [if_pos ((e8_bx hi).mpr c)]
      subst c
      rfl
    · rw [if_neg (fun z => c ((e8_bx hi).mp z)), e8_load hp, ob, nI_1, Int32.add_zero]
      have ih := ih (i + 1) (by omega) (by omega)
      have hd := in_pos hr hc (show i < 8 by omega) (show (1 : Int32) ≤ MAX by decide)
      rw [cntB] at ih
      by_cases z : sumI (ov8 (nI i) 1 MAX) P ≤ 0
      · rw [decide_eq_false (fun y => y z)] at hd
        rw [← hd, bit, if_neg (by decide), Int32.add_zero] at ih
        rw [if_pos z, ih]
      · rw [decide_eq_true z] at hd
        rw [← hd, bit, if_pos rfl] at ih
        rw [if_neg z, ih]
theorem e8_filled {g : Nat → Int32} {P : List Tr} (hp : isP g P) (hr : okR P) (hc : canon P) : fX8_filled g = fJ6_bitCount_0f7a4 (B8 (anyM 1 MAX P)) := by
  unfold fX8_filled
  have := filled_loop hp hr hc (fun x1 x2 => some x1) FU 0 (by omega) (by unfold FU; omega)
  rw [nI_0] at this
  rw [show (0 : Int32) = cntB (anyM 1 MAX P) 0 from rfl] at this ⊢
  unfold B8
  rw [bits_cnt]
  refine this.trans ?_
  congr 1
  simp only [cntB, Int32.zero_add]
/-! counting pieces, their ends -/
theorem count7_loop {N : Nat} {v : Rg} {l : List Tr} (h : isL N v l) (x1 : Int32) (k : Int32 → Int32 → Option Int32) : ∀ (n i : Nat) (acc : Int32), i ≤ l.length → l.length < i + n → fX4_countOf_4 N v x1 n k acc (nI i) = k ((l.drop i).foldl (fun acc q => if q.1 = x1 then acc + 1 else acc) acc) (nI l.length) := by
  have hb : l.length < 2 ^ 30 := h.b
  intro n
  induction n with
  | zero => intro i acc h1 h2; omega
  | succ n ih =>
    intro i acc hi hn
    rw [fX4_countOf_4]
    simp only [h.n]
    by_cases c : i = l.length
    · rw [if_pos ((nI_geI (by omega) (by omega) hi).mpr c)]
      subst c
      rw [List.drop_length]; rfl
    · have hlt : i < l.length := by omega
      rw [if_neg (fun z => c ((nI_geI (by omega) (by omega) hi).mp z))]
      have ih := fun acc => ih (i + 1) acc (by omega) (by omega)
      simp only [h.m hlt, ob, i01, nI_1, ih]
      rw [List.drop_eq_getElem_cons hlt, List.foldl_cons]; (repeat' split) <;> rfl
theorem count8_loop {g : Nat → Int32} {l : List Tr} (h : isP g l) (x1 : Int32) (k : Int32 → Int32 → Option Int32) : ∀ (n i : Nat) (acc : Int32), i ≤ l.length → l.length < i + n → fX8_piecesOf_4 g x1 n k acc (nI i) = k ((l.drop i).foldl (fun acc q => if q.1 = x1 then acc + 1 else acc) acc) (nI l.length) := by
  have hb : l.length < 2 ^ 30 := h.b
  intro n
  induction n with
  | zero => intro i acc h1 h2; omega
  | succ n ih =>
    intro i acc hi hn
    rw [fX8_piecesOf_4]
    simp only [h.c, ob]
    by_cases c : i = l.length
    · rw [if_pos ((nI_geI (by omega) (by omega) hi).mpr c)]
      subst c
      rw [List.drop_length]; rfl
    · have hlt : i < l.length := by omega
      rw [if_neg (fun z => c ((nI_geI (by omega) (by omega) hi).mp z))]
      have ih := fun acc => ih (i + 1) acc (by omega) (by omega)
      simp only [h.m hlt, Int32.add_zero, ob, i01, nI_1, ih]
      rw [List.drop_eq_getElem_cons hlt, List.foldl_cons]; (repeat' split) <;> rfl
def cntP (x : Int32) (l : List Tr) : Nat := (l.filter (fun q => decide (q.1 = x))).length
theorem cnt_fold {x : Int32} {l : List Tr} : ∀ m : Nat, l.foldl (fun acc q => if q.1 = x then acc + 1 else acc) (nI m) = nI (m + cntP x l) := by
  induction l with
  | nil => intro m; rfl
  | cons q l ih =>
    intro m
    rw [List.foldl_cons]
    unfold cntP at *
    by_cases z : q.1 = x
    · rw [if_pos z, nI_1, ih, List.filter_cons, if_pos (by simpa using z), List.length_cons]; congr 1; omega
    · rw [if_neg z, ih, List.filter_cons, if_neg (by simpa using z)]
theorem e_countOf {N : Nat} {v : Rg} {l : List Tr} (h : isL N v l) (hN : N < 6000) (x : Int32) : fX4_countOf N v x = some (nI (cntP x l)) := by
  have h1 := h.1
  unfold fX4_countOf
  have := count7_loop h x (fun x2 x3 => some x2) FU 0 0 (Nat.zero_le _) (FU_gt (by omega))
  rw [nI_0, List.drop_zero, ← nI_0, cnt_fold, Nat.zero_add, nI_0] at this
  exact this
theorem e8_piecesOf {g : Nat → Int32} {l : List Tr} (h : isP g l) (x : Int32) : fX8_piecesOf g x = some (nI (cntP x l)) := by
  have h1 := h.1
  unfold fX8_piecesOf
  have := count8_loop h x (fun x2 x3 => some x2) FU 0 0 (Nat.zero_le _) (FU_gt (by omega))
  rw [nI_0, List.drop_zero, ← nI_0, cnt_fold, Nat.zero_add, nI_0] at this
  exact this
def lowL (x : Int32) : List Tr → Int32
  | [] => -1
  | q :: l => if q.1 = x then q.2.1 else lowL x l
theorem low7_loop {N : Nat} {v : Rg} {l : List Tr} (h : isL N v l) (x1 : Int32) : ∀ (n i : Nat) , i ≤ l.length → l.length < i + n → fX4_lowestOf_2 N v x1 n (fun _ => some (-1)) (nI i) = some (lowL x1 (l.drop i)) := by
  have hb : l.length < 2 ^ 30 := h.b
  intro n
  induction n with
  | zero => intro i  h1 h2; omega
  | succ n ih =>
    intro i  hi hn
    rw [fX4_lowestOf_2]
    simp only [h.n]
    by_cases c : i = l.length
    · rw [if_pos ((nI_geI (by omega) (by omega) hi).mpr c)]
      subst c
      rw [List.drop_length]; rfl
    · have hlt : i < l.length := by omega
      rw [if_neg (fun z => c ((nI_geI (by omega) (by omega) hi).mp z))]
      have ih := ih (i + 1) (by omega) (by omega)
      simp only [h.m hlt, h.f hlt, ob, i01, nI_1, ih]
      rw [List.drop_eq_getElem_cons hlt, lowL]; (repeat' split) <;> rfl
def highF (x b : Int32) (q : Tr) : Int32 := if q.1 = x then q.2.2 else b
theorem high7_loop {N : Nat} {v : Rg} {l : List Tr} (h : isL N v l) (x1 : Int32) : ∀ (i n : Nat), i ≤ l.length → i < n → fX4_highestOf_7 N v x1 n (fun _ => some (-1)) (nI i - 1) = some ((l.take i).foldl (highF x1) (-1)) := by
  have hb := h.b
  intro i
  induction i with
  | zero =>
    intro n h1 h2
    obtain ⟨n, rfl⟩ : ∃ m, n = m + 1 := ⟨n - 1, by omega⟩
    rw [fX4_highestOf_7, if_pos (by decide)]
    rfl
  | succ i ih =>
    intro n h1 h2
    obtain ⟨n, rfl⟩ : ∃ m, n = m + 1 := ⟨n - 1, by omega⟩
    have hi : i < l.length := by omega
    have ih := ih n (by omega) (by omega)
    have em : nI i + (-1) = nI i - 1 := by rw [Int32.sub_eq_add_neg]
    rw [fX4_highestOf_7, nI_pred, if_neg (nI_nneg (by omega)), h.m hi, h.l hi]
    simp only [ob, em, ih]
    rw [List.take_succ_eq_append_getElem hi, List.foldl_append, List.foldl_cons, List.foldl_nil, highF]
    split <;> rfl
theorem high8_loop {g : Nat → Int32} {l : List Tr} (h : isP g l) (x1 : Int32) (k : Int32 → Int32 → Option Int32) : ∀ (n i : Nat) (acc : Int32), i ≤ l.length → l.length < i + n → fX8_endOf_5 g x1 0 n k acc (nI i) = k ((l.drop i).foldl (highF x1) acc) (nI l.length) := by
  have hb : l.length < 2 ^ 30 := h.b
  intro n
  induction n with
  | zero => intro i acc h1 h2; omega
  | succ n ih =>
    intro i acc hi hn
    rw [fX8_endOf_5]
    simp only [h.c, ob]
    by_cases c : i = l.length
    · rw [if_pos ((nI_geI (by omega) (by omega) hi).mpr c)]
      subst c
      rw [List.drop_length]; rfl
    · have hlt : i < l.length := by omega
      rw [if_neg (fun z => c ((nI_geI (by omega) (by omega) hi).mp z))]
      have ih := fun acc => ih (i + 1) acc (by omega) (by omega)
      simp only [h.m hlt, h.f hlt, h.l hlt, if_true, ob, i01, nI_1, ih]
      rw [List.drop_eq_getElem_cons hlt, List.foldl_cons, highF]; (repeat' split) <;> rfl
theorem low8_loop {g : Nat → Int32} {l : List Tr} (h : isP g l) (x1 : Int32) (k : Int32 → Int32 → Option Int32) : ∀ (n i : Nat) (acc : Int32), i ≤ l.length → l.length < i + n → fX8_endOf_5 g x1 1 n k acc (nI i) = k ((l.drop i).foldl (fun acc q => if q.1 = x1 then (if acc = -1 then q.2.1 else acc) else acc) acc) (nI l.length) := by
  have hb : l.length < 2 ^ 30 := h.b
  intro n
  induction n with
  | zero => intro i acc h1 h2; omega
  | succ n ih =>
    intro i acc hi hn
    rw [fX8_endOf_5]
    simp only [h.c, ob]
    by_cases c : i = l.length
    · rw [if_pos ((nI_geI (by omega) (by omega) hi).mpr c)]
      subst c
      rw [List.drop_length]; rfl
    · have hlt : i < l.length := by omega
      rw [if_neg (fun z => c ((nI_geI (by omega) (by omega) hi).mp z))]
      have ih := fun acc => ih (i + 1) acc (by omega) (by omega)
      simp only [h.m hlt, h.f hlt, h.l hlt, z01, ob, i01, nI_1, ih]
      rw [List.drop_eq_getElem_cons hlt, List.foldl_cons]; (repeat' split) <;> rfl
theorem low_fold {x : Int32} {l : List Tr} (hr : okR l) : l.foldl (fun acc q => if q.1 = x then (if acc = -1 then q.2.1 else acc) else acc) (-1) = lowL x l := by
  have key : ∀ (l : List Tr) (b : Int32), b ≠ -1 → l.foldl (fun acc q => if q.1 = x then (if acc = -1 then q.2.1 else acc) else acc) b = b := by
    intro l
    induction l with
    | nil => intro b _; rfl
    | cons q l ih =>
      intro b hb
      rw [List.foldl_cons, if_neg hb, ite_self, ih b hb]
  induction l with
  | nil => rfl
  | cons q l ih =>
    rw [List.foldl_cons, lowL]
    by_cases z : q.1 = x
    · rw [if_pos z, if_pos rfl, if_pos z, key]
      intro e
      have := hr.i (List.mem_cons_self (a := q))
      rw [e, tm1] at this
      omega
    · rw [if_neg z, if_neg z, ih (fun y hy => hr y (List.mem_cons_of_mem _ hy))]
/-- sets of series: both go alike -/
theorem owns_loop {g : Nat → Int32} {v w : Rg} {S P : List Tr} (h : isL 10 v S) (hp : isL 42 w P) (hg : isS g S) (hq : isP g P) (hS : okR S) (hP : okR P) {x1 : Int32} (hx : 0 ≤ x1 ∧ x1 ≤ 7) : ∀ (n i : Nat) (b : Int32), i ≤ S.length → S.length < i + n → ∃ r, fX0_seriesIn_4 v w x1 n (fun x2 x3 => some x2) b (nI i) = some r ∧ fX8_ownsIn_4 g x1 n (fun x2 x3 => some x2) b (nI i) = some r := by
  have hb := h.b
  intro n
  induction n with
  | zero => intro i b h1 h2; omega
  | succ n ih =>
    intro i b hi hn
    rw [fX0_seriesIn_4, fX8_ownsIn_4, e_size h, hg.c]
    simp only [ob]
    by_cases c : i = S.length
    · have := (nI_geI (show S.length < 2 ^ 31 by omega) (by omega) hi).mpr c
      exact ⟨b, if_pos this, if_pos this⟩
    · have hlt : i < S.length := by omega
      have := fun z => c ((nI_geI (show S.length < 2 ^ 31 by omega) (show i < 2 ^ 31 by omega) hi).mp z)
      have ih := fun b => ih (i + 1) b (by omega) (by omega)
      rw [if_neg this, if_neg this, e7_own h hp hS hP hlt, e8_ownB hg hq hlt hx, ob, ob, nI_1, or0]
      by_cases z : ownT (nI i) x1 (S[i]).2.1 (S[i]).2.2 S P ≤ 0
      · rw [if_pos z, if_pos z]; exact ih _
      · rw [if_neg z, if_neg z]; exact ih _
theorem e_room {A : AS} {rooms : Nat → Int32} (h : ∀ j : Nat, j < 8 → rooms j = A.2.2.2.1 j) {m : Nat} (hm : m < 8) : fX0_roomOf rooms (nI m) = some (A.2.2.2.1 m) := by
  unfold fX0_roomOf
  rw [e7_isBox, ob, i01, if_pos, ld_nI hm (by omega), ob, h m hm]
  rw [i32le, i32le, nI_toInt (by omega), t0, show (7 : Int32).toInt = 7 from rfl]
  omega
theorem e8_room {A : AS} {g : Nat → Int32} (h : ∀ j : Nat, j < 8 → g (34 + j) = A.2.2.2.1 j) {m : Nat} (hm : m < 8) : ld 5058 g (34 + nI m) = some (A.2.2.2.1 m) := by
  rw [show (34 : Int32) = nI 34 from rfl, nI_add, ld58 (by omega), h m hm]
theorem sim_box {D : Int} : S_box (RR D) (RR D) := by
  intro c_archive_rooms c_archive_moveDays c_archive_day c_archive_series c_archive_pieces c_archive_trial c_archive_moves c_history_slots c_history_top c_history_steps c_planner_free c_planner_remaining c_planner_gaps c_planner_layings c_rows c_text_bytes c_text_verbs c_text_numbers c_text_length c_text_commandCount c_text_at c_page_signs c_page_length c_page_latest c_draft_signs c_draft_length c_draft_latest d_row d_undos d_list d_listed d_paper d_papers d_text d_length d_beside d_besides d_gapFirst d_gapLast d_laying d_layings d_free d_first d_behind d_numbers d_clauses d_words d_sorts d_shifted d_saved d_draft d_drafts x1 x2 h
  have hR : RR D (c_archive_rooms, c_archive_moveDays, c_archive_day, c_archive_series, c_archive_pieces, c_archive_trial, c_archive_moves, c_history_slots, c_history_top, c_history_steps, c_planner_free, c_planner_remaining, c_planner_gaps, c_planner_layings, c_rows, c_text_bytes, c_text_verbs, c_text_numbers, c_text_length, c_text_commandCount, c_text_at, c_page_signs, c_page_length, c_page_latest, c_draft_signs, c_draft_length, c_draft_latest) (d_row, d_undos, d_list, d_listed, d_paper, d_papers, d_text, d_length, d_beside, d_besides, d_gapFirst, d_gapLast, d_laying, d_layings, d_free, d_first, d_behind, d_numbers, d_clauses, d_words, d_sorts, d_shifted, d_saved, d_draft, d_drafts) := h
  have h : R0 D c_archive_rooms c_archive_moveDays c_archive_day c_archive_series c_archive_pieces c_archive_moves c_history_slots c_history_top c_history_steps c_planner_gaps c_planner_layings c_rows c_text_bytes c_text_length c_page_signs c_page_length d_row d_undos d_list d_listed d_paper d_papers d_text d_length d_words d_sorts := h
  obtain ⟨⟨A, hs, hA, hC, hM, hH⟩, -⟩ := h
  have hS := hC.1
  have hp := hC.2.1
  have gS := hM.1
  have gp := hM.2.1
  have hle := gp.1
  have hle2 := gS.1
  have hr := hA.2.1.1
  unfold fX7_box fX8_box fX0_pieces
  simp only [e7_isBox, e8_isBox, ob, i01]
  by_cases c : 0 ≤ x1 ∧ x1 ≤ 7
  · simp only [if_pos c]
    obtain ⟨m, hm, em⟩ := (isBx_of c).n
    obtain ⟨r3, e3, e3'⟩ := owns_loop hS hp gS gp hA.1.1 hr c FU 0 0 (Nat.zero_le _) (FU_gt (by omega))
    rw [nI_0] at e3 e3'
    have e4 := low7_loop hp x1 FU 0 (Nat.zero_le _) (FU_gt (by omega))
    have e4' := low8_loop gp x1 (fun x3 x4 => some x3) FU 0 (-1) (Nat.zero_le _) (FU_gt (by omega))
    rw [nI_0, List.drop_zero] at e4 e4'
    rw [low_fold hr] at e4'
    have e5 := high7_loop hp x1 A.2.1.length FU (Nat.le_refl _) (by unfold FU; omega)
    have e5' := high8_loop gp x1 (fun x3 x4 => some x3) FU 0 (-1) (Nat.zero_le _) (FU_gt (by omega))
    rw [List.take_length] at e5
    rw [nI_0, List.drop_zero] at e5'
    by_cases c0 : x2 = 0
    · subst c0; subst em
      exact ⟨_, by rw [if_pos rfl, e_room hC.2.2.2.2.1 hm, ob], by rw [if_pos rfl, e8_room hM.2.2.2.1 hm, ob], hR⟩
    · by_cases c1 : x2 = 1
      · subst c1
        exact ⟨_, by rw [if_neg c0, if_pos rfl, e_loadOf hp, ob, ov_box hr c.1 (by decide)], by rw [if_neg c0, if_pos rfl, e8_load gp, ob], hR⟩
      · by_cases c2 : x2 = 2
        · subst c2
          exact ⟨_, by rw [if_neg c0, if_neg c1, if_pos rfl, e_countOf hp (by decide), ob], by rw [if_neg c0, if_neg c1, if_pos rfl, e8_piecesOf gp, ob], hR⟩
        · by_cases c3 : x2 = 3
          · subst c3
            exact ⟨r3, by rw [if_neg c0, if_neg c1, if_neg c2, if_pos rfl, fX0_seriesIn, e3, ob], by rw [if_neg c0, if_neg c1, if_neg c2, if_pos rfl, fX8_ownsIn, e3', ob], hR⟩
          · by_cases c4 : x2 = 4
            · subst c4
              exact ⟨_, by rw [if_neg c0, if_neg c1, if_neg c2, if_neg c3, if_pos rfl, fX4_lowestOf, e4, ob], by rw [if_neg c0, if_neg c1, if_neg c2, if_neg c3, if_pos rfl, if_pos rfl, fX8_endOf, e4', ob], hR⟩
            · by_cases c5 : x2 = 5
              · subst c5
                exact ⟨_, by rw [if_neg c0, if_neg c1, if_neg c2, if_neg c3, if_neg c4, if_pos rfl, fX4_highestOf, hp.n, e5, ob], by rw [if_neg c0, if_neg c1, if_neg c2, if_neg c3, if_neg c4, if_pos rfl, if_neg c4, fX8_endOf, e5', ob], hR⟩
              · exact ⟨-3, by rw [if_neg c0, if_neg c1, if_neg c2, if_neg c3, if_neg c4, if_neg c5], by rw [if_neg c0, if_neg c1, if_neg c2, if_neg c3, if_neg c4, if_neg c5], hR⟩
  · simp only [if_neg c]
    exact ⟨-2, rfl, rfl, hR⟩
