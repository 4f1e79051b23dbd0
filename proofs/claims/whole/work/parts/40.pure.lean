/-! pure: numbers and rows -/
theorem ld_nI {N i : Nat} {f : Nat → Int32} (h : i < N) (hN : N < 2 ^ 31) : ld N f (nI i) = some (f i) := by
  unfold ld
  rw [nI_clamp (by omega), if_neg]
  rintro (h1 | h1)
  · exact nI_pos (by omega) h1
  · omega
theorem sv_nI {N i : Nat} {f : Nat → Int32} {x : Int32} (h : i < N) (hN : N < 2 ^ 31) : sv N f (nI i) x = some (upd f i x) := by
  unfold sv
  rw [nI_clamp (by omega), if_neg]
  rintro (h1 | h1)
  · exact nI_pos (by omega) h1
  · omega
theorem ob {α β : Type} (a : α) (f : α → Option β) : (some a).bind f = f a := rfl
abbrev Tr : Type := Int32 × Int32 × Int32
/-- a Ranges holds the list (mark, first, last) -/
def isL (N : Nat) (v : Rg) (l : List Tr) : Prop := l.length ≤ N ∧ N < 2 ^ 30 ∧ v.2.2.2 = nI l.length ∧ ∀ (i : Nat) (h : i < l.length), v.1 i = (l[i]).1 ∧ v.2.1 i = (l[i]).2.1 ∧ v.2.2.1 i = (l[i]).2.2
theorem isL.m {N : Nat} {v : Rg} {l : List Tr} (h : isL N v l) {i : Nat} (hi : i < l.length) : ld N v.1 (nI i) = some (l[i]).1 := by
  rw [ld_nI (by have := h.1; omega) (by have := h.2.1; omega), (h.2.2.2 i hi).1]
theorem isL.f {N : Nat} {v : Rg} {l : List Tr} (h : isL N v l) {i : Nat} (hi : i < l.length) : ld N v.2.1 (nI i) = some (l[i]).2.1 := by
  rw [ld_nI (by have := h.1; omega) (by have := h.2.1; omega), (h.2.2.2 i hi).2.1]
theorem isL.l {N : Nat} {v : Rg} {l : List Tr} (h : isL N v l) {i : Nat} (hi : i < l.length) : ld N v.2.2.1 (nI i) = some (l[i]).2.2 := by
  rw [ld_nI (by have := h.1; omega) (by have := h.2.1; omega), (h.2.2.2 i hi).2.2]
theorem isL.n {N : Nat} {v : Rg} {l : List Tr} (h : isL N v l) : v.2.2.2 = nI l.length := h.2.2.1
theorem isL.ge {N : Nat} {v : Rg} {l : List Tr} (h : isL N v l) {i : Nat} (hi : i ≤ l.length) : (v.2.2.2 ≤ nI i) ↔ i = l.length := by
  have h1 := h.1
  have h2 := h.2.1
  rw [h.n, nI_leI (by omega) (by omega)]
  omega
/-- where an index points -/
theorem ixc (x : Int32) (n : Nat) (hn : n < 2 ^ 31) : (x < 0 ∨ nI n ≤ x) ∨ ∃ j : Nat, j < n ∧ x = nI j := by
  rcases pk_ix x hn with h | h | h
  · exact Or.inl (Or.inl h)
  · exact Or.inl (Or.inr h)
  · exact Or.inr h
theorem nI_nneg {i : Nat} (h : i < 2 ^ 31) : ¬ nI i < 0 := nI_pos h
section Ranges
variable {N : Nat} {v : Rg} {l : List Tr}
theorem e_size (h : isL N v l) : fX4_size N v = some (nI l.length) := by unfold fX4_size; rw [h.n]
theorem e_has_in (h : isL N v l) {i : Nat} (hi : i < l.length) : fX4_has N v (nI i) = some 1 := by
  unfold fX4_has
  have h1 := h.1
  have h2 := h.2.1
  rw [if_neg (nI_nneg (by omega)), if_neg]
  rw [h.ge (by omega)]
  omega
theorem e_has_out (h : isL N v l) {x : Int32} (hx : x < 0 ∨ nI l.length ≤ x) : fX4_has N v x = some 0 := by
  unfold fX4_has
  rw [h.n]
  by_cases c : x < 0
  · rw [if_pos c]
  · rw [if_neg c, if_pos (hx.resolve_left c)]
theorem e_markOf_in (h : isL N v l) {i : Nat} (hi : i < l.length) : fX4_markOf N v (nI i) = some (l[i]).1 := by
  unfold fX4_markOf
  rw [e_has_in h hi, ob, if_neg (by decide), h.m hi, ob]
theorem e_firstOf_in (h : isL N v l) {i : Nat} (hi : i < l.length) : fX4_firstOf N v (nI i) = some (l[i]).2.1 := by
  unfold fX4_firstOf
  rw [e_has_in h hi, ob, if_neg (by decide), h.f hi, ob]
theorem e_lastOf_in (h : isL N v l) {i : Nat} (hi : i < l.length) : fX4_lastOf N v (nI i) = some (l[i]).2.2 := by
  unfold fX4_lastOf
  rw [e_has_in h hi, ob, if_neg (by decide), h.l hi, ob]
theorem e_markOf_out (h : isL N v l) {x : Int32} (hx : x < 0 ∨ nI l.length ≤ x) : fX4_markOf N v x = some (-1) := by
  unfold fX4_markOf
  rw [e_has_out h hx, ob, if_pos rfl]
theorem e_firstOf_out (h : isL N v l) {x : Int32} (hx : x < 0 ∨ nI l.length ≤ x) : fX4_firstOf N v x = some (-1) := by
  unfold fX4_firstOf
  rw [e_has_out h hx, ob, if_pos rfl]
theorem e_lastOf_out (h : isL N v l) {x : Int32} (hx : x < 0 ∨ nI l.length ≤ x) : fX4_lastOf N v x = some (-1) := by
  unfold fX4_lastOf
  rw [e_has_out h hx, ob, if_pos rfl]
/-- a range meets another -/
def mt (q : Tr) (a b : Int32) : Prop := ¬ b < q.2.1 ∧ ¬ q.2.2 < a
theorem e_meets (h : isL N v l) {i : Nat} (hi : i < l.length) (a b : Int32) : fX4_meets N v (nI i) a b = some (if ¬ b < (l[i]).2.1 ∧ ¬ (l[i]).2.2 < a then 1 else 0) := by
  unfold fX4_meets
  have h1 := h.1
  have h2 := h.2.1
  rw [if_neg (nI_nneg (by omega)), if_neg (by rw [h.ge (by omega)]; omega), h.f hi, ob, h.l hi]
  by_cases c1 : b < (l[i]).2.1
  · rw [if_pos c1, if_neg (fun z => z.1 c1)]
  · rw [if_neg c1, ob]
    by_cases c2 : (l[i]).2.2 < a
    · rw [if_pos c2, if_neg (fun z => z.2 c2)]
    · rw [if_neg c2, if_pos ⟨c1, c2⟩]
theorem e_includes (h : isL N v l) {i : Nat} (hi : i < l.length) (a : Int32) : fX4_includes N v (nI i) a = some (if ¬ a < (l[i]).2.1 ∧ ¬ (l[i]).2.2 < a then 1 else 0) := by
  unfold fX4_includes
  have h1 := h.1
  have h2 := h.2.1
  rw [if_neg (nI_nneg (by omega)), if_neg (by rw [h.ge (by omega)]; omega), h.f hi, ob, h.l hi]
  by_cases c1 : a < (l[i]).2.1
  · rw [if_pos c1, if_neg (fun z => z.1 c1)]
  · rw [if_neg c1, ob]
    by_cases c2 : (l[i]).2.2 < a
    · rw [if_pos c2, if_neg (fun z => z.2 c2)]
    · rw [if_neg c2, if_pos ⟨c1, c2⟩]
def sumI (f : Tr → Int32) : List Tr → Int32
  | [] => 0
  | q :: l => f q + sumI f l
/-- how many sheets a range with this mark has in common with a .. b -/
def ovl (mark a b : Int32) (q : Tr) : Int32 := if (mark = -100 ∨ q.1 = mark) ∧ ¬ b < q.2.1 ∧ ¬ q.2.2 < a then imin q.2.2 b - imax q.2.1 a + 1 else 0
theorem sheets_loop (h : isL N v l) (x1 x2 x3 : Int32) (k : Int32 → Int32 → Option Int32) : ∀ (n i : Nat) (acc : Int32), i ≤ l.length → l.length < i + n → fX4_sheetsIn_6 N v x1 x2 x3 n k acc (nI i) = k (acc + sumI (ovl x1 x2 x3) (l.drop i)) (nI l.length) := by
  intro n
  induction n with
  | zero => intro i acc h1 h2; omega
  | succ n ih =>
    intro i acc hi hn
    rw [fX4_sheetsIn_6]
    by_cases c : i = l.length
    · rw [if_pos ((h.ge hi).mpr c), c, List.drop_length, sumI, Int32.add_zero]
    · have hlt : i < l.length := by omega
      rw [if_neg (fun z => c ((h.ge hi).mp z)), List.drop_eq_getElem_cons hlt, sumI, e_meets h hlt, h.m hlt, h.f hlt, h.l hlt, nI_1]
      simp only [ob]
      rw [ih (i + 1) _ (by omega) (by omega), ih (i + 1) _ (by omega) (by omega)]
      generalize sumI (ovl x1 x2 x3) (l.drop (i + 1)) = S
      generalize hq : l[i] = q
      by_cases c2 : ¬ x3 < q.2.1 ∧ ¬ q.2.2 < x2
      · by_cases c1 : x1 = -100
        · rw [if_pos c1, if_pos c2, if_neg (by decide), show ovl x1 x2 x3 q = imin q.2.2 x3 - imax q.2.1 x2 + 1 from if_pos ⟨Or.inl c1, c2⟩, Int32.add_assoc]
        · by_cases c3 : q.1 = x1
          · rw [if_neg c1, if_pos c3, if_pos c2, if_neg (by decide), show ovl x1 x2 x3 q = imin q.2.2 x3 - imax q.2.1 x2 + 1 from if_pos ⟨Or.inr c3, c2⟩, Int32.add_assoc]
          · rw [if_neg c1, if_neg c3, show ovl x1 x2 x3 q = 0 from if_neg (fun z => z.1.elim c1 c3), Int32.zero_add]
      · rw [if_neg c2, if_pos rfl, show ovl x1 x2 x3 q = 0 from if_neg (fun z => c2 z.2), Int32.zero_add]
        by_cases c1 : x1 = -100
        · rw [if_pos c1]
        · rw [if_neg c1]
          by_cases c3 : q.1 = x1
          · rw [if_pos c3]
          · rw [if_neg c3]
theorem FU_gt {n : Nat} (h : n < 6000) : n < 0 + FU := by unfold FU; omega
theorem e_sheetsIn (h : isL N v l) (hN : N < 6000) (x1 x2 x3 : Int32) : fX4_sheetsIn N v x1 x2 x3 = some (sumI (ovl x1 x2 x3) l) := by
  unfold fX4_sheetsIn
  have := sheets_loop h x1 x2 x3 (fun x4 x5 => some x4) FU 0 0 (Nat.zero_le _) (FU_gt (by have := h.1; omega))
  rw [nI_0] at this
  rw [this, List.drop_zero, Int32.zero_add]
end Ranges
