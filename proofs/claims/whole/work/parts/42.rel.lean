/-! the relation between the class's state and the reference's -/
/-- series, pieces, moves (day, (box, first, last)), rooms, day -/
abbrev AS : Type := List Tr × List Tr × List (Int32 × Tr) × (Nat → Int32) × Int32
def apart (p q : Tr) : Prop := p.2.2.toInt < q.2.1.toInt ∨ q.2.2.toInt < p.2.1.toInt
def okSer (l : List Tr) : Prop := okR l ∧ (∀ (i : Nat) (h : i < l.length), (l[i]).1 = -1 ∨ ∃ (j : Nat) (hj : j < l.length), j < i ∧ (l[i]).1 = nI j ∧ (l[j]).2.1.toInt ≤ (l[i]).2.1.toInt ∧ (l[i]).2.2.toInt ≤ (l[j]).2.2.toInt) ∧ ∀ (i j : Nat) (hi : i < l.length) (hj : j < l.length), i < j → (l[i]).1 = (l[j]).1 → apart l[i] l[j]
/-- pieces: in order, longest ones -/
def canon : List Tr → Prop
  | [] => True
  | [_] => True
  | p :: q :: l => (p.2.2.toInt < q.2.1.toInt ∧ ¬ (p.1 = q.1 ∧ p.2.2.toInt + 1 = q.2.1.toInt)) ∧ canon (q :: l)
def isBx (x : Int32) : Prop := 0 ≤ x.toInt ∧ x.toInt ≤ 7
def okP (l : List Tr) : Prop := okR l ∧ canon l ∧ ∀ q ∈ l, isBx q.1
/-- the load of a box -/
def loadZ (box : Int32) : List Tr → Int
  | [] => 0
  | q :: l => (if q.1 = box then q.2.2.toInt - q.2.1.toInt + 1 else 0) + loadZ box l
def okA (D : Int) (A : AS) : Prop := okSer A.1 ∧ okP A.2.1 ∧ (∀ q ∈ A.2.2.1, (q.2.1 = -1 ∨ isBx q.2.1) ∧ 1 ≤ q.2.2.1 ∧ q.2.2.1 ≤ q.2.2.2 ∧ q.2.2.2 ≤ MAX) ∧ (∀ j : Nat, j < 8 → 0 ≤ (A.2.2.2.1 j).toInt ∧ (A.2.2.2.1 j).toInt ≤ 2000000000 ∧ loadZ (nI j) A.2.1 ≤ (A.2.2.2.1 j).toInt) ∧ 0 ≤ A.2.2.2.2.toInt ∧ A.2.2.2.2.toInt ≤ D
/-- the class's archive -/
def clsA (A : AS) (rooms moveDays : Nat → Int32) (day : Int32) (series pieces moves : Rg) : Prop := isL 10 series A.1 ∧ isL 42 pieces A.2.1 ∧ isL 100 moves (A.2.2.1.map Prod.snd) ∧ (∀ (i : Nat) (h : i < A.2.2.1.length), moveDays i = (A.2.2.1[i]).1) ∧ (∀ j : Nat, j < 8 → rooms j = A.2.2.2.1 j) ∧ day = A.2.2.2.2
/-- the reference's -/
def modA (A : AS) (g : Nat → Int32) : Prop := isS g A.1 ∧ isP g A.2.1 ∧ isM g A.2.2.1 ∧ (∀ j : Nat, j < 8 → g (34 + j) = A.2.2.2.1 j) ∧ g 3 = A.2.2.2.2
/-- a snapshot of the class's -/
def snpA (A : AS) (s : Sn) : Prop := (∀ j : Nat, j < 8 → s.1 j = A.2.2.2.1 j) ∧ isL 40 s.2.1 A.2.1 ∧ s.2.2.1 = nI A.1.length ∧ s.2.2.2.1 = nI A.2.2.1.length ∧ s.2.2.2.2 = A.2.2.2.2
/-- older states: series and moves are only added -/
def older : AS → List AS → Prop
  | _, [] => True
  | A, B :: h => B.1 <+: A.1 ∧ B.2.2.1 <+: A.2.2.1 ∧ older B h
def histR (D : Int) (A : AS) (h : List AS) (slots : Nat → Sn) (top steps : Int32) (row : Nat → Int32) (undos : Int32) : Prop := h.length ≤ 8 ∧ steps = nI h.length ∧ undos = nI h.length ∧ older A h ∧ (∀ B ∈ h, okA D B) ∧ ∃ t : Nat, t < 9 ∧ top = nI t ∧ ∀ (i : Nat) (hi : i < h.length), snpA h[i] (slots ((t + 8 - i) % 9)) ∧ modA h[i] (fun k => row (562 * (h.length - i) + k))
def rowsR (l : List Tr) (rows : Rg) (list : Nat → Int32) (listed : Int32) : Prop := isL 12 rows l ∧ listed = nI l.length ∧ okR l ∧ (∀ q ∈ l, isBx q.1) ∧ ∀ (i : Nat) (h : i < l.length), list (3 * i) = (l[i]).1 ∧ list (3 * i + 1) = (l[i]).2.1 ∧ list (3 * i + 2) = (l[i]).2.2
/-- the same signs in two arrays -/
def same (n : Nat) (f g : Nat → Int32) : Prop := ∀ i : Nat, i < n → f i = g i
def szL (N : Nat) (v : Rg) : Prop := ∃ k : Nat, k ≤ N ∧ v.2.2.2 = nI k
def R0 (D : Int) (c_archive_rooms : Nat → Int32) (c_archive_moveDays : Nat → Int32) (c_archive_day : Int32) (c_archive_series : Rg) (c_archive_pieces : Rg) (c_archive_moves : Rg) (c_history_slots : Nat → Sn) (c_history_top : Int32) (c_history_steps : Int32) (c_planner_gaps : Rg) (c_planner_layings : Rg) (c_rows : Rg) (c_text_bytes : Nat → Int32) (c_text_length : Int32) (c_page_signs : Nat → Int32) (c_page_length : Int32) (d_row : Nat → Int32) (d_undos : Int32) (d_list : Nat → Int32) (d_listed : Int32) (d_paper : Nat → Int32) (d_papers : Int32) (d_text : Nat → Int32) (d_length : Int32) (d_words : Nat → Int32) (d_sorts : Nat → Int32) : Prop :=
  (∃ (A : AS) (h : List AS), okA D A ∧ clsA A c_archive_rooms c_archive_moveDays c_archive_day c_archive_series c_archive_pieces c_archive_moves ∧ modA A d_row ∧ histR D A h c_history_slots c_history_top c_history_steps d_row d_undos) ∧
  (szL 41 c_planner_gaps ∧ szL 49 c_planner_layings) ∧
  (∃ l : List Tr, rowsR l c_rows d_list d_listed) ∧
  (∃ n : Nat, n ≤ 200 ∧ c_text_length = nI n ∧ d_length = nI n ∧ same n c_text_bytes d_text) ∧
  (∃ n : Nat, n ≤ 200 ∧ c_page_length = nI n ∧ d_papers = nI n ∧ same n c_page_signs d_paper) ∧
  d_words = wX8_339 ∧ d_sorts = wX8_462
def RR (D : Int) (x : XS) (m : MS) : Prop := R0 D (x.1) (x.2.1) (x.2.2.1) (x.2.2.2.1) (x.2.2.2.2.1) (x.2.2.2.2.2.2.1) (x.2.2.2.2.2.2.2.1) (x.2.2.2.2.2.2.2.2.1) (x.2.2.2.2.2.2.2.2.2.1) (x.2.2.2.2.2.2.2.2.2.2.2.2.1) (x.2.2.2.2.2.2.2.2.2.2.2.2.2.1) (x.2.2.2.2.2.2.2.2.2.2.2.2.2.2.1) (x.2.2.2.2.2.2.2.2.2.2.2.2.2.2.2.1) (x.2.2.2.2.2.2.2.2.2.2.2.2.2.2.2.2.2.2.1) (x.2.2.2.2.2.2.2.2.2.2.2.2.2.2.2.2.2.2.2.2.2.1) (x.2.2.2.2.2.2.2.2.2.2.2.2.2.2.2.2.2.2.2.2.2.2.1) (m.1) (m.2.1) (m.2.2.1) (m.2.2.2.1) (m.2.2.2.2.1) (m.2.2.2.2.2.1) (m.2.2.2.2.2.2.1) (m.2.2.2.2.2.2.2.1) (m.2.2.2.2.2.2.2.2.2.2.2.2.2.2.2.2.2.2.2.1) (m.2.2.2.2.2.2.2.2.2.2.2.2.2.2.2.2.2.2.2.2.1)
theorem isL_nil {N : Nat} (hN : N < 2 ^ 30) {f g h : Nat → Int32} : isL N (f, g, h, 0) [] := ⟨Nat.zero_le _, hN, rfl, fun i hi => absurd hi (Nat.not_lt_zero i)⟩
theorem init_RR : RR 0 XS0 MS0 := by
  show R0 _ _ _ _ _ _ _ _ _ _ _ _ _ _ _ _ _ _ _ _ _ _ _ _ _ _ _
  have hl : ∀ (i : Nat) {α : Type} (h : i < ([] : List α).length), False := fun i α h => Nat.not_lt_zero i h
  have okS0 : okSer [] := ⟨fun q h => absurd h List.not_mem_nil, fun i h => absurd h (Nat.not_lt_zero i), fun i j h => absurd h (Nat.not_lt_zero i)⟩
  have okP0 : okP [] := ⟨fun q h => absurd h List.not_mem_nil, trivial, fun q h => absurd h List.not_mem_nil⟩
  refine ⟨⟨([], [], [], Zf, 0), [], ⟨okS0, okP0, fun q h => absurd h List.not_mem_nil, fun j hj => ⟨show (0 : Int) ≤ (0 : Int32).toInt by decide, show (0 : Int32).toInt ≤ (2000000000 : Int) by decide, show (0 : Int) ≤ (0 : Int32).toInt by decide⟩, show (0 : Int) ≤ (0 : Int32).toInt by decide, show (0 : Int32).toInt ≤ 0 by decide⟩, ⟨isL_nil (by decide), isL_nil (by decide), isL_nil (by decide), fun i h => absurd h (Nat.not_lt_zero i), fun j hj => rfl, rfl⟩, ⟨⟨Nat.zero_le _, rfl, fun i h => absurd h (Nat.not_lt_zero i)⟩, ⟨Nat.zero_le _, rfl, fun i h => absurd h (Nat.not_lt_zero i)⟩, ⟨Nat.zero_le _, rfl, fun i h => absurd h (Nat.not_lt_zero i)⟩, fun j hj => rfl, rfl⟩, ⟨Nat.zero_le _, rfl, rfl, trivial, fun B h => absurd h List.not_mem_nil, 0, by decide, rfl, fun i h => absurd h (Nat.not_lt_zero i)⟩⟩, ⟨⟨0, Nat.zero_le _, rfl⟩, ⟨0, Nat.zero_le _, rfl⟩⟩, ⟨[], isL_nil (by decide), rfl, fun q h => absurd h List.not_mem_nil, fun q h => absurd h List.not_mem_nil, fun i h => absurd h (Nat.not_lt_zero i)⟩, ⟨0, Nat.zero_le _, rfl, rfl, fun i h => absurd h (Nat.not_lt_zero i)⟩, ⟨0, Nat.zero_le _, rfl, rfl, fun i h => absurd h (Nat.not_lt_zero i)⟩, rfl, rfl⟩
