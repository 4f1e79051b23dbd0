/-! pure: the reference's small functions -/
theorem i32le {x y : Int32} : x ≤ y ↔ x.toInt ≤ y.toInt := Int32.le_iff_toInt_le
theorem i32lt {x y : Int32} : x < y ↔ x.toInt < y.toInt := Int32.lt_iff_toInt_lt
theorem i32eq {x y : Int32} : x = y ↔ x.toInt = y.toInt := Int32.toInt_inj.symm
theorem i32le64 {x y : Int32} : x.toInt64 ≤ y.toInt64 ↔ x ≤ y := by
  rw [Int64.le_iff_toInt_le, i32le, Int32.toInt_toInt64, Int32.toInt_toInt64]
theorem imax_i {x y : Int32} : (imax x y).toInt = max x.toInt y.toInt := by
  unfold imax
  split
  · rename_i h; rw [i32lt] at h; omega
  · rename_i h; rw [i32lt] at h; omega
theorem imin_i {x y : Int32} : (imin x y).toInt = min x.toInt y.toInt := by
  unfold imin
  split
  · rename_i h; rw [i32lt] at h; omega
  · rename_i h; rw [i32lt] at h; omega
theorem imax_comm (x y : Int32) : imax x y = imax y x := by rw [i32eq, imax_i, imax_i]; omega
theorem imin_comm (x y : Int32) : imin x y = imin y x := by rw [i32eq, imin_i, imin_i]; omega
theorem e8_in (x a b : Int64) : fX8_in x a b = some (if a ≤ x ∧ x ≤ b then 1 else 0) := by
  unfold fX8_in lg_cmp
  by_cases c1 : a ≤ x
  · rw [if_neg]
    · by_cases c2 : x ≤ b
      · rw [if_neg, if_pos ⟨c1, c2⟩]
        rw [Int64.le_iff_toInt_le] at c2
        by_cases c3 : x = b
        · subst c3; simp
        · have : ¬ x > b := by rw [gt_iff_lt, Int64.lt_iff_toInt_lt]; omega
          rw [if_neg this, if_neg c3]; decide
      · rw [if_pos, if_neg (fun z => c2 z.2)]
        have : x > b := by rw [gt_iff_lt, Int64.lt_iff_toInt_lt]; rw [Int64.le_iff_toInt_le] at c2; omega
        rw [if_pos this]; decide
    · rw [Int64.le_iff_toInt_le] at c1
      by_cases c3 : x = a
      · subst c3; simp
      · have : x > a := by
          rw [gt_iff_lt, Int64.lt_iff_toInt_lt]
          have : x.toInt ≠ a.toInt := fun e => c3 (Int64.toInt_inj.mp e)
          omega
        rw [if_pos this]; decide
  · rw [if_pos, if_neg (fun z => c1 z.1)]
    have h1 : ¬ x > a := by rw [gt_iff_lt, Int64.lt_iff_toInt_lt]; rw [Int64.le_iff_toInt_le] at c1; omega
    have h2 : ¬ x = a := fun e => c1 (by rw [e]; exact Int64.le_refl a)
    rw [if_neg h1, if_neg h2]; decide
theorem e8_in32 (x a b : Int32) : fX8_in x.toInt64 a.toInt64 b.toInt64 = some (if a ≤ x ∧ x ≤ b then 1 else 0) := by
  rw [e8_in]
  simp only [i32le64]
def MAX : Int32 := 2000000000
theorem max64 : (2000000000 : Int64) = MAX.toInt64 := by decide
theorem one64 : (1 : Int64) = (1 : Int32).toInt64 := by decide
theorem zero64 : (0 : Int64) = (0 : Int32).toInt64 := by decide
theorem seven64 : (7 : Int64) = (7 : Int32).toInt64 := by decide
theorem bz01 {c : Prop} [Decidable c] : bz (if c then 1 else 0) = some (if c then 1 else 0) := by
  by_cases h : c
  · rw [if_pos h]; rfl
  · rw [if_neg h]; rfl
theorem e8_isSheet (x : Int32) : fX8_isSheet x = some (if 1 ≤ x ∧ x ≤ MAX then 1 else 0) := by
  unfold fX8_isSheet
  rw [one64, max64, e8_in32, ob, bz01, ob]
theorem e8_isBox (x : Int32) : fX8_isBox x = some (if 0 ≤ x ∧ x ≤ 7 then 1 else 0) := by
  unfold fX8_isBox
  rw [zero64, seven64, e8_in32, ob, bz01, ob]
theorem e8_isRange (a b : Int32) : fX8_isRange a b = some (if (1 ≤ a ∧ a ≤ MAX) ∧ (a ≤ b ∧ b ≤ MAX) then 1 else 0) := by
  unfold fX8_isRange
  rw [one64, max64, e8_in32, ob, e8_in32]
  by_cases c1 : 1 ≤ a ∧ a ≤ MAX
  · rw [if_pos c1, if_neg (by decide), ob]
    by_cases c2 : a ≤ b ∧ b ≤ MAX
    · rw [if_pos c2, if_neg (by decide), if_pos ⟨c1, c2⟩]
    · rw [if_neg c2, if_pos rfl, if_neg (fun z => c2 z.2)]
  · rw [if_neg c1, if_pos rfl, if_neg (fun z => c1 z.1)]
theorem e8_greater (x y : Int32) : fX8_greater x y = some (imax x y) := by
  unfold fX8_greater
  split
  · rename_i h; congr 1; rw [i32eq, imax_i]; rw [i32le] at h; omega
  · rename_i h; congr 1; rw [i32eq, imax_i]; rw [i32le] at h; omega
theorem e8_lesser (x y : Int32) : fX8_lesser x y = some (imin x y) := by
  unfold fX8_lesser
  split
  · rename_i h; congr 1; rw [i32eq, imin_i]; rw [i32le] at h; omega
  · rename_i h; congr 1; rw [i32eq, imin_i]; rw [i32le] at h; omega
/-- how many sheets two ranges have in common -/
def cm (a b c d : Int32) : Int32 := if imax a c ≤ imin b d then imin b d - imax a c + 1 else 0
theorem e8_common (a b c d : Int32) : fX8_common a b c d = some (cm a b c d) := by
  unfold fX8_common cm
  rw [e8_greater, ob, e8_lesser, ob]
  split <;> rfl
theorem cm_comm (a b c d : Int32) : cm a b c d = cm c d a b := by unfold cm; rw [imax_comm a c, imin_comm b d]
theorem cm_ov {a b : Int32} (hab : a ≤ b) {q : Tr} (hq : q.2.1 ≤ q.2.2) : cm a b q.2.1 q.2.2 = if ¬ b < q.2.1 ∧ ¬ q.2.2 < a then imin q.2.2 b - imax q.2.1 a + 1 else 0 := by
  unfold cm
  rw [imax_comm a, imin_comm b]
  have e : (imax q.2.1 a ≤ imin q.2.2 b) ↔ (¬ b < q.2.1 ∧ ¬ q.2.2 < a) := by
    rw [i32le, imax_i, imin_i, i32lt, i32lt]
    rw [i32le] at hab hq
    omega
  by_cases c : ¬ b < q.2.1 ∧ ¬ q.2.2 < a
  · rw [if_pos c, if_pos (e.mpr c)]
  · rw [if_neg c, if_neg (fun z => c (e.mp z))]
/-- the reference's row: pieces, series, moves -/
def isP (g : Nat → Int32) (l : List Tr) : Prop := l.length ≤ 40 ∧ g 1 = nI l.length ∧ ∀ (i : Nat) (h : i < l.length), g (42 + 3 * i) = (l[i]).2.1 ∧ g (42 + 3 * i + 1) = (l[i]).2.2 ∧ g (42 + 3 * i + 2) = (l[i]).1
def isS (g : Nat → Int32) (l : List Tr) : Prop := l.length ≤ 10 ∧ g 0 = nI l.length ∧ ∀ (i : Nat) (h : i < l.length), g (4 + 3 * i) = (l[i]).1 ∧ g (4 + 3 * i + 1) = (l[i]).2.1 ∧ g (4 + 3 * i + 2) = (l[i]).2.2
def isM (g : Nat → Int32) (l : List (Int32 × Tr)) : Prop := l.length ≤ 100 ∧ g 2 = nI l.length ∧ ∀ (i : Nat) (h : i < l.length), g (162 + 4 * i) = (l[i]).1 ∧ g (162 + 4 * i + 1) = (l[i]).2.2.1 ∧ g (162 + 4 * i + 2) = (l[i]).2.2.2 ∧ g (162 + 4 * i + 3) = (l[i]).2.1
theorem ix3 (a b i : Nat) : nI a + nI b * nI i = nI (a + b * i) := by rw [pk_mul, nI_add]
theorem ld58 {g : Nat → Int32} {i : Nat} (h : i < 5058) : ld 5058 g (nI i) = some (g i) := ld_nI h (by omega)
theorem n4 : (4 : Int32) = nI 4 := rfl
theorem n3 : (3 : Int32) = nI 3 := rfl
theorem n42 : (42 : Int32) = nI 42 := rfl
theorem n162 : (162 : Int32) = nI 162 := rfl
theorem n1 : (1 : Int32) = nI 1 := rfl
theorem n2 : (2 : Int32) = nI 2 := rfl
theorem n0 : (0 : Int32) = nI 0 := rfl
theorem e8_pieceAt {g : Nat → Int32} {i j : Nat} (h : 42 + 3 * i + j < 5058) : fX8_pieceAt g (nI i) (nI j) = some (g (42 + 3 * i + j)) := by
  unfold fX8_pieceAt
  rw [n42, n3, ix3, nI_add, ld58 h, ob]
theorem e8_parent {g : Nat → Int32} {i : Nat} (h : 4 + 3 * i < 5058) : fX8_parent g (nI i) = some (g (4 + 3 * i)) := by
  unfold fX8_parent
  rw [n4, n3, ix3, ld58 h, ob]
theorem e8_firstOf {g : Nat → Int32} {i : Nat} (h : 4 + 3 * i + 1 < 5058) : fX8_firstOf g (nI i) = some (g (4 + 3 * i + 1)) := by
  unfold fX8_firstOf
  rw [n4, n3, ix3, nI_1, ld58 h, ob]
theorem e8_lastOf {g : Nat → Int32} {i : Nat} (h : 4 + 3 * i + 2 < 5058) : fX8_lastOf g (nI i) = some (g (4 + 3 * i + 2)) := by
  unfold fX8_lastOf
  rw [n4, n3, ix3, n2, nI_add, ld58 h, ob]
theorem isP.c {g : Nat → Int32} {l : List Tr} (h : isP g l) : ld 5058 g 1 = some (nI l.length) := by
  rw [n1, ld58 (by omega), h.2.1]
theorem isS.c {g : Nat → Int32} {l : List Tr} (h : isS g l) : ld 5058 g 0 = some (nI l.length) := by
  rw [n0, ld58 (by omega), h.2.1]
theorem isP.f {g : Nat → Int32} {l : List Tr} (h : isP g l) {i : Nat} (hi : i < l.length) : fX8_pieceAt g (nI i) 0 = some (l[i]).2.1 := by
  have h1 := h.1
  rw [n0, e8_pieceAt (by omega)]
  exact congrArg some (h.2.2 i hi).1
theorem isP.l {g : Nat → Int32} {l : List Tr} (h : isP g l) {i : Nat} (hi : i < l.length) : fX8_pieceAt g (nI i) 1 = some (l[i]).2.2 := by
  have h1 := h.1
  rw [n1, e8_pieceAt (by omega)]
  exact congrArg some (h.2.2 i hi).2.1
theorem isP.m {g : Nat → Int32} {l : List Tr} (h : isP g l) {i : Nat} (hi : i < l.length) : fX8_pieceAt g (nI i) 2 = some (l[i]).1 := by
  have h1 := h.1
  rw [n2, e8_pieceAt (by omega)]
  exact congrArg some (h.2.2 i hi).2.2
theorem isS.m {g : Nat → Int32} {l : List Tr} (h : isS g l) {i : Nat} (hi : i < l.length) : fX8_parent g (nI i) = some (l[i]).1 := by
  have h1 := h.1
  rw [e8_parent (by omega)]
  exact congrArg some (h.2.2 i hi).1
theorem isS.f {g : Nat → Int32} {l : List Tr} (h : isS g l) {i : Nat} (hi : i < l.length) : fX8_firstOf g (nI i) = some (l[i]).2.1 := by
  have h1 := h.1
  rw [e8_firstOf (by omega)]
  exact congrArg some (h.2.2 i hi).2.1
theorem isS.l {g : Nat → Int32} {l : List Tr} (h : isS g l) {i : Nat} (hi : i < l.length) : fX8_lastOf g (nI i) = some (l[i]).2.2 := by
  have h1 := h.1
  rw [e8_lastOf (by omega)]
  exact congrArg some (h.2.2 i hi).2.2
theorem nI_geI {a b : Nat} (ha : a < 2 ^ 31) (hb : b < 2 ^ 31) (hab : b ≤ a) : (nI a ≤ nI b) ↔ b = a := by
  rw [nI_leI ha hb]; omega
/-- the mark as the reference asks for it: NONE stands for any -/
def ov8 (mark a b : Int32) (q : Tr) : Int32 := if mark = -1 ∨ q.1 = mark then cm a b q.2.1 q.2.2 else 0
theorem inBox_loop {g : Nat → Int32} {l : List Tr} (h : isP g l) (x1 x2 x3 : Int32) (k : Int32 → Int32 → Option Int32) : ∀ (n i : Nat) (acc : Int32), i ≤ l.length → l.length < i + n → fX8_inBox_6 g x1 x2 x3 n k acc (nI i) = k (acc + sumI (ov8 x1 x2 x3) (l.drop i)) (nI l.length) := by
  have h1 := h.1
  intro n
  induction n with
  | zero => intro i acc h1 h2; omega
  | succ n ih =>
    intro i acc hi hn
    rw [fX8_inBox_6, h.c, ob]
    by_cases c : i = l.length
    · rw [if_pos ((nI_geI (by omega) (by omega) hi).mpr c), c, List.drop_length, sumI, Int32.add_zero]
    · have hlt : i < l.length := by omega
      rw [if_neg (fun z => c ((nI_geI (by omega) (by omega) hi).mp z)), List.drop_eq_getElem_cons hlt, sumI, h.f hlt, h.l hlt, h.m hlt, nI_1]
      simp only [ob, e8_common]
      rw [ih (i + 1) _ (by omega) (by omega), ih (i + 1) _ (by omega) (by omega)]
      generalize sumI (ov8 x1 x2 x3) (l.drop (i + 1)) = S
      generalize hq : l[i] = q
      by_cases c1 : x1 = -1
      · rw [if_pos c1, show ov8 x1 x2 x3 q = cm x2 x3 q.2.1 q.2.2 from if_pos (Or.inl c1), Int32.add_assoc]
      · rw [if_neg c1]
        by_cases c3 : q.1 = x1
        · rw [if_pos c3, show ov8 x1 x2 x3 q = cm x2 x3 q.2.1 q.2.2 from if_pos (Or.inr c3), Int32.add_assoc]
        · rw [if_neg c3, show ov8 x1 x2 x3 q = 0 from if_neg (fun z => z.elim c1 c3), Int32.zero_add, Int32.add_zero]
theorem e8_inBox {g : Nat → Int32} {l : List Tr} (h : isP g l) (x1 x2 x3 : Int32) : fX8_inBox g x1 x2 x3 = some (sumI (ov8 x1 x2 x3) l) := by
  unfold fX8_inBox
  have := inBox_loop h x1 x2 x3 (fun x4 x5 => some x4) FU 0 0 (Nat.zero_le _) (FU_gt (by have := h.1; omega))
  rw [nI_0] at this
  rw [this, List.drop_zero, Int32.zero_add]
theorem sumI_congr {f g : Tr → Int32} {l : List Tr} (h : ∀ q ∈ l, f q = g q) : sumI f l = sumI g l := by
  induction l with
  | nil => rfl
  | cons q l ih => rw [sumI, sumI, h q List.mem_cons_self, ih (fun x hx => h x (List.mem_cons_of_mem _ hx))]
/-- a list whose ranges are ranges -/
def okR (l : List Tr) : Prop := ∀ q ∈ l, 1 ≤ q.2.1 ∧ q.2.1 ≤ q.2.2 ∧ q.2.2 ≤ MAX
/-- class and reference count alike: a box -/
theorem ov_box {l : List Tr} (hl : okR l) {box a b : Int32} (hb : 0 ≤ box) (hab : a ≤ b) : sumI (ovl box a b) l = sumI (ov8 box a b) l := by
  refine sumI_congr (fun q hq => ?_)
  have n1 : ¬ box = -100 := fun e => by rw [e] at hb; exact absurd hb (by decide)
  have n2 : ¬ box = -1 := fun e => by rw [e] at hb; exact absurd hb (by decide)
  unfold ovl ov8
  rw [cm_ov hab (hl q hq).2.1]
  by_cases c : q.1 = box
  · rw [if_pos (Or.inr c)]
    by_cases c2 : ¬ b < q.2.1 ∧ ¬ q.2.2 < a
    · rw [if_pos c2, if_pos ⟨Or.inr c, c2⟩]
    · rw [if_neg c2, if_neg (fun z => c2 z.2)]
  · rw [if_neg (show ¬ ((box = -100 ∨ q.1 = box) ∧ ¬ b < q.2.1 ∧ ¬ q.2.2 < a) from fun z => z.1.elim n1 c), if_neg (show ¬ (box = -1 ∨ q.1 = box) from fun z => z.elim n2 c)]
/-- class and reference count alike: any box -/
theorem ov_any {l : List Tr} (hl : okR l) {a b : Int32} (hab : a ≤ b) : sumI (ovl (-100) a b) l = sumI (ov8 (-1) a b) l := by
  refine sumI_congr (fun q hq => ?_)
  unfold ovl ov8
  rw [cm_ov hab (hl q hq).2.1, if_pos (Or.inl rfl)]
  by_cases c2 : ¬ b < q.2.1 ∧ ¬ q.2.2 < a
  · rw [if_pos c2, if_pos ⟨Or.inl rfl, c2⟩]
  · rw [if_neg c2, if_neg (fun z => c2 z.2)]
