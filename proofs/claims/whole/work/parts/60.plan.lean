/-! gaps: how long, and free -/
theorem gaps_sum {b : Int32} (hb : b.toInt ≤ 2000000000) {l : List Tr} (hr : okR l) (hs : srt l) : ∀ x : Int32, 1 ≤ x.toInt → x.toInt ≤ 2000000001 → sumZ lenZ (gapsL b x l) = max 0 (b.toInt - x.toInt + 1) - sumZ (fun q => max 0 (min b.toInt q.2.2.toInt - max x.toInt q.2.1.toInt + 1)) l := by
  induction l with
  | nil =>
    intro x h0 h1
    rw [gapsL, sumZ]
    by_cases c : b < x
    · rw [if_pos c, sumZ]; rw [i32lt] at c; omega
    · rw [if_neg c, sumZ, sumZ]; rw [i32lt] at c; show b.toInt - x.toInt + 1 + 0 = _; omega
  | cons p l ih =>
    intro x h0 h1
    have hp := hr.h
    have hs2 := List.pairwise_cons.mp hs
    have ih := ih hr.t hs2.2
    have ep : (p.2.2 + 1).toInt = p.2.2.toInt + 1 := toI_1 (by omega) (by omega)
    have ef : (p.2.1 - 1).toInt = p.2.1.toInt - 1 := toI_m1 (by omega) (by omega)
    rw [gapsL, sumZ]
    by_cases c : ¬ b < p.2.1 ∧ ¬ p.2.2 < x
    · rw [if_pos c]
      have c1 := c.1
      have c2 := c.2
      rw [i32lt] at c1 c2
      have i1 := ih (p.2.2 + 1) (by omega) (by omega)
      have e : sumZ (fun q => max 0 (min b.toInt q.2.2.toInt - max (p.2.2 + 1).toInt q.2.1.toInt + 1)) l = sumZ (fun q => max 0 (min b.toInt q.2.2.toInt - max x.toInt q.2.1.toInt + 1)) l := by
        refine sumZ_congr (fun q hq => ?_)
        have := hs2.1 q hq
        rw [ep]
        omega
      rw [e] at i1
      by_cases c3 : p.2.1 ≤ x
      · rw [if_pos c3, i1]
        rw [i32le] at c3
        omega
      · rw [if_neg c3, sumZ, i1, lenZ]
        rw [i32le] at c3
        show (p.2.1 - 1).toInt - x.toInt + 1 + _ = _
        omega
    · rw [if_neg c, ih x h0 h1]
      rw [i32lt, i32lt] at c
      omega
theorem gaps_top {b : Int32} {l : List Tr} (hr : okR l) {q : Tr} : ∀ x : Int32, q ∈ gapsL b x l → q.2.2.toInt ≤ b.toInt := by
  induction l with
  | nil =>
    intro x hq
    rw [gapsL] at hq
    by_cases c : b < x
    · rw [if_pos c] at hq; exact absurd hq List.not_mem_nil
    · rw [if_neg c, List.mem_singleton] at hq
      subst hq; exact Int.le_refl _
  | cons y l ih =>
    intro x hq
    have hy := hr.h
    have ef : (y.2.1 - 1).toInt = y.2.1.toInt - 1 := toI_m1 (by omega) (by omega)
    have ih := ih hr.t
    rw [gapsL] at hq
    by_cases c : ¬ b < y.2.1 ∧ ¬ y.2.2 < x
    · rw [if_pos c] at hq
      have c1 := c.1
      rw [i32lt] at c1
      by_cases c3 : y.2.1 ≤ x
      · rw [if_pos c3] at hq
        exact ih _ hq
      · rw [if_neg c3] at hq
        rcases List.mem_cons.mp hq with e | e
        · subst e; show (y.2.1 - 1).toInt ≤ b.toInt; omega
        · exact ih _ e
    · rw [if_neg c] at hq
      exact ih x hq
theorem gaps_free {b : Int32} {l : List Tr} (hr : okR l) (hs : srt l) : ∀ x : Int32, 1 ≤ x.toInt → x.toInt ≤ 2000000001 → ∀ q ∈ gapsL b x l, x.toInt ≤ q.2.1.toInt ∧ ∀ p ∈ l, p.2.2.toInt < q.2.1.toInt ∨ q.2.2.toInt < p.2.1.toInt := by
  induction l with
  | nil =>
    intro x h0 h1 q hq
    rw [gapsL] at hq
    by_cases c : b < x
    · rw [if_pos c] at hq; exact absurd hq List.not_mem_nil
    · rw [if_neg c, List.mem_singleton] at hq
      subst hq
      exact ⟨Int.le_refl _, fun p hp => absurd hp List.not_mem_nil⟩
  | cons p l ih =>
    intro x h0 h1 q hq
    have hp := hr.h
    have hs2 := List.pairwise_cons.mp hs
    have ih := ih hr.t hs2.2
    have ep : (p.2.2 + 1).toInt = p.2.2.toInt + 1 := toI_1 (by omega) (by omega)
    have ef : (p.2.1 - 1).toInt = p.2.1.toInt - 1 := toI_m1 (by omega) (by omega)
    rw [gapsL] at hq
    by_cases c : ¬ b < p.2.1 ∧ ¬ p.2.2 < x
    · rw [if_pos c] at hq
      have c2 := c.2
      rw [i32lt] at c2
      have rest : q ∈ gapsL b (p.2.2 + 1) l → x.toInt ≤ q.2.1.toInt ∧ ∀ z ∈ p :: l, z.2.2.toInt < q.2.1.toInt ∨ q.2.2.toInt < z.2.1.toInt := by
        intro h
        have i1 := ih (p.2.2 + 1) (by omega) (by omega) q h
        refine ⟨by omega, fun z hz => ?_⟩
        rcases List.mem_cons.mp hz with e | e
        · subst e; left; omega
        · exact i1.2 z e
      by_cases c3 : p.2.1 ≤ x
      · rw [if_pos c3] at hq
        exact rest hq
      · rw [if_neg c3] at hq
        rcases List.mem_cons.mp hq with e | e
        · subst e
          refine ⟨Int.le_refl _, fun z hz => Or.inr ?_⟩
          show (p.2.1 - 1).toInt < z.2.1.toInt
          rcases List.mem_cons.mp hz with e | e
          · subst e; omega
          · have := hs2.1 z e; omega
        · exact rest e
    · rw [if_neg c] at hq
      have i1 := ih x h0 h1 q hq
      refine ⟨i1.1, fun z hz => ?_⟩
      rcases List.mem_cons.mp hz with e | e
      · subst e
        rw [i32lt, i32lt] at c
        by_cases c4 : z.2.2.toInt < x.toInt
        · left; omega
        · right
          have : b.toInt < z.2.1.toInt := by omega
          have hqb := gaps_top hr.t x hq
          omega
      · exact i1.2 z e
/-! the best box -/
def bst (Q : Nat → Prop) (K : Nat → Int) (n : Nat) (r : Int32) : Prop := (r = -1 ∧ ∀ j, j < n → ¬ Q j) ∨ ∃ i, i < n ∧ r = nI i ∧ Q i ∧ ∀ j, j < n → Q j → K i < K j ∨ (K i = K j ∧ i ≤ j)
theorem bst_no {Q : Nat → Prop} {K : Nat → Int} {n : Nat} {r : Int32} (h : bst Q K n r) (hq : ¬ Q n) : bst Q K (n + 1) r := by
  rcases h with ⟨e, h⟩ | ⟨i, hi, e, h1, h2⟩
  · refine Or.inl ⟨e, fun j hj => ?_⟩
    by_cases c : j = n
    · subst c; exact hq
    · exact h j (by omega)
  · refine Or.inr ⟨i, by omega, e, h1, fun j hj hQ => ?_⟩
    by_cases c : j = n
    · subst c; exact absurd hQ hq
    · exact h2 j (by omega) hQ
theorem bst_first {Q : Nat → Prop} {K : Nat → Int} {n : Nat} (hn : n < 2 ^ 30) (h : bst Q K n (-1)) (hq : Q n) : bst Q K (n + 1) (nI n) := by
  rcases h with ⟨e, h⟩ | ⟨i, hi, e, h1, h2⟩
  · refine Or.inr ⟨n, by omega, rfl, hq, fun j hj hQ => ?_⟩
    by_cases c : j = n
    · subst c; right; exact ⟨rfl, Nat.le_refl _⟩
    · exact absurd hQ (h j (by omega))
  · exact absurd e.symm (nI_m1 (by omega))
theorem bst_keep {Q : Nat → Prop} {K : Nat → Int} {n b : Nat} (hn : n < 2 ^ 30) (hb : b < n) (h : bst Q K n (nI b)) (hk : K b ≤ K n) : bst Q K (n + 1) (nI b) := by
  rcases h with ⟨e, h⟩ | ⟨i, hi, e, h1, h2⟩
  · exact absurd e (nI_m1 (by omega))
  · have : b = i := (nI_eq (by omega) (by omega)).mp e
    subst this
    refine Or.inr ⟨b, by omega, rfl, h1, fun j hj hQ => ?_⟩
    by_cases c : j = n
    · subst c; omega
    · exact h2 j (by omega) hQ
theorem bst_new {Q : Nat → Prop} {K : Nat → Int} {n b : Nat} (hn : n < 2 ^ 30) (hb : b < n) (h : bst Q K n (nI b)) (hq : Q n) (hk : K n < K b) : bst Q K (n + 1) (nI n) := by
  rcases h with ⟨e, h⟩ | ⟨i, hi, e, h1, h2⟩
  · exact absurd e (nI_m1 (by omega))
  · have : b = i := (nI_eq (by omega) (by omega)).mp e
    subst this
    refine Or.inr ⟨n, by omega, rfl, hq, fun j hj hQ => ?_⟩
    by_cases c : j = n
    · subst c; right; exact ⟨rfl, Nat.le_refl _⟩
    · have := h2 j (by omega) hQ; omega
/-- the same from above -/
def bsd (Q : Nat → Prop) (K : Nat → Int) (n : Nat) (r : Int32) : Prop := (r = -1 ∧ ∀ j, n ≤ j → j < 8 → ¬ Q j) ∨ ∃ i, n ≤ i ∧ i < 8 ∧ r = nI i ∧ Q i ∧ ∀ j, n ≤ j → j < 8 → Q j → K i < K j ∨ (K i = K j ∧ i ≤ j)
def sel (r : Int32) (n : Nat) (Q : Prop) [Decidable Q] (keep : Prop) [Decidable keep] : Int32 := if Q then (if r = -1 then nI n else if keep then r else nI n) else r
theorem bsd_step {Q : Nat → Prop} [DecidablePred Q] {K : Nat → Int} {n : Nat} {r : Int32} (hn : n < 8) (h : bsd Q K (n + 1) r) (keep : Prop) [Decidable keep] (hk : ∀ b, b < 8 → r = nI b → (keep ↔ K b < K n)) : bsd Q K n (sel r n (Q n) keep) := by
  unfold sel
  by_cases hq : Q n
  · rw [if_pos hq]
    rcases h with ⟨e, h⟩ | ⟨i, hi, hi8, e, h1, h2⟩
    · rw [if_pos e]
      refine Or.inr ⟨n, by omega, hn, rfl, hq, fun j hj hj8 hQ => ?_⟩
      by_cases c : j = n
      · subst c; right; exact ⟨rfl, Nat.le_refl _⟩
      · exact absurd hQ (h j (by omega) hj8)
    · rw [if_neg (fun z => nI_m1 (j := i) (by omega) (e.symm.trans z))]
      have hk := hk i hi8 e
      by_cases c2 : keep
      · rw [if_pos c2]
        have := hk.mp c2
        refine Or.inr ⟨i, by omega, hi8, e, h1, fun j hj hj8 hQ => ?_⟩
        by_cases c : j = n
        · subst c; left; exact this
        · exact h2 j (by omega) hj8 hQ
      · rw [if_neg c2]
        have : ¬ K i < K n := fun z => c2 (hk.mpr z)
        refine Or.inr ⟨n, by omega, hn, rfl, hq, fun j hj hj8 hQ => ?_⟩
        by_cases c : j = n
        · subst c; right; exact ⟨rfl, Nat.le_refl _⟩
        · have := h2 j (by omega) hj8 hQ; omega
  · rw [if_neg hq]
    rcases h with ⟨e, h⟩ | ⟨i, hi, hi8, e, h1, h2⟩
    · refine Or.inl ⟨e, fun j hj hj8 => ?_⟩
      by_cases c : j = n
      · subst c; exact hq
      · exact h j (by omega) hj8
    · refine Or.inr ⟨i, by omega, hi8, e, h1, fun j hj hj8 hQ => ?_⟩
      by_cases c : j = n
      · subst c; exact absurd hQ hq
      · exact h2 j (by omega) hj8 hQ
theorem bst_bsd {Q : Nat → Prop} {K : Nat → Int} {r r' : Int32} (h : bst Q K 8 r) (h' : bsd Q K 0 r') : r = r' := by
  rcases h with ⟨e, h⟩ | ⟨i, hi, e, h1, h2⟩
  · rcases h' with ⟨e', h'⟩ | ⟨i', hi0, hi', e', h1', h2'⟩
    · rw [e, e']
    · exact absurd h1' (h i' hi')
  · rcases h' with ⟨e', h'⟩ | ⟨i', hi0, hi', e', h1', h2'⟩
    · exact absurd h1 (h' i (Nat.zero_le _) hi)
    · have a1 := h2 i' hi' h1'
      have a2 := h2' i (Nat.zero_le _) hi h1
      have : i = i' := by omega
      rw [e, e', this]
theorem bst_in {Q : Nat → Prop} {K : Nat → Int} {n : Nat} {r : Int32} (h : bst Q K n r) : r = -1 ∨ ∃ b, b < n ∧ r = nI b := by
  rcases h with ⟨e, h⟩ | ⟨i, hi, e, h1, h2⟩
  · exact Or.inl e
  · exact Or.inr ⟨i, hi, e⟩
theorem tight_loop {f : Nat → Int32} {m : Int32} (k : Int32 → Int32 → Option Int32) : ∀ (n i : Nat) (r : Int32), i ≤ 8 → 8 < i + n → bst (fun j => m.toInt ≤ (f j).toInt) (fun j => (f j).toInt) i r → ∃ r', fX3_tightestFor_4 f m n k r (nI i) = k r' 8 ∧ bst (fun j => m.toInt ≤ (f j).toInt) (fun j => (f j).toInt) 8 r' := by
  intro n
  induction n with
  | zero => intro i r h1 h2; omega
  | succ n ih =>
    intro i r hi hn hb
    rw [fX3_tightestFor_4]
    by_cases c : i = 8
    · rw [if_pos ((e8_bx hi).mpr c)]
      subst c
      exact ⟨r, rfl, hb⟩
    · rw [if_neg (fun z => c ((e8_bx hi).mp z)), ld_nI (by omega) (by omega), ob, nI_1]
      by_cases c1 : f i < m
      · rw [if_pos c1]
        rw [i32lt] at c1
        exact ih (i + 1) r (by omega) (by omega) (bst_no hb (by omega))
      · rw [if_neg c1]
        rw [i32lt] at c1
        rcases bst_in hb with e | ⟨b, hb8, e⟩
        · subst e
          rw [if_pos rfl]
          exact ih (i + 1) _ (by omega) (by omega) (bst_first (by omega) hb (by omega))
        · subst e
          rw [if_neg (nI_m1 (by omega)), ob, ld_nI (by omega) (by omega), ob]
          by_cases c2 : f b ≤ f i
          · rw [if_pos c2]
            rw [i32le] at c2
            exact ih (i + 1) _ (by omega) (by omega) (bst_keep (by omega) hb8 hb c2)
          · rw [if_neg c2]
            rw [i32le] at c2
            exact ih (i + 1) _ (by omega) (by omega) (bst_new (by omega) hb8 hb (by omega) (by omega))
theorem wide_loop {f : Nat → Int32} (k : Int32 → Int32 → Option Int32) : ∀ (n i : Nat) (r : Int32), i ≤ 8 → 8 < i + n → bst (fun j => 0 < (f j).toInt) (fun j => -(f j).toInt) i r → ∃ r', fX3_widest_4 f n k r (nI i) = k r' 8 ∧ bst (fun j => 0 < (f j).toInt) (fun j => -(f j).toInt) 8 r' := by
  intro n
  induction n with
  | zero => intro i r h1 h2; omega
  | succ n ih =>
    intro i r hi hn hb
    rw [fX3_widest_4]
    by_cases c : i = 8
    · rw [if_pos ((e8_bx hi).mpr c)]
      subst c
      exact ⟨r, rfl, hb⟩
    · rw [if_neg (fun z => c ((e8_bx hi).mp z)), ld_nI (by omega) (by omega), ob, nI_1]
      by_cases c1 : f i ≤ 0
      · rw [if_pos c1]
        rw [i32le, t0] at c1
        exact ih (i + 1) r (by omega) (by omega) (bst_no hb (by omega))
      · rw [if_neg c1]
        rw [i32le, t0] at c1
        rcases bst_in hb with e | ⟨b, hb8, e⟩
        · subst e
          rw [if_pos rfl]
          exact ih (i + 1) _ (by omega) (by omega) (bst_first (by omega) hb (by omega))
        · subst e
          rw [if_neg (nI_m1 (by omega)), ob, ld_nI (by omega) (by omega), ob]
          by_cases c2 : f i ≤ f b
          · rw [if_pos c2]
            rw [i32le] at c2
            exact ih (i + 1) _ (by omega) (by omega) (bst_keep (by omega) hb8 hb (by omega))
          · rw [if_neg c2]
            rw [i32le] at c2
            exact ih (i + 1) _ (by omega) (by omega) (bst_new (by omega) hb8 hb (by omega) (by omega))
theorem bsd_in {Q : Nat → Prop} {K : Nat → Int} {n : Nat} {r : Int32} (h : bsd Q K n r) : r = -1 ∨ ∃ b, b < 8 ∧ r = nI b := by
  rcases h with ⟨e, h⟩ | ⟨i, hi, hi8, e, h1, h2⟩
  · exact Or.inl e
  · exact Or.inr ⟨i, hi8, e⟩
theorem best_loop {f : Nat → Int32} {m : Int32} (k : Int32 → Int32 → Int32 → Option Int32) : ∀ (i n : Nat) (r s : Int32), i ≤ 8 → i < n → bsd (fun j => m.toInt ≤ (f j).toInt) (fun j => (f j).toInt) i r → bsd (fun j => 0 < (f j).toInt) (fun j => -(f j).toInt) i s → ∃ r' s' x, fX8_bestFor_8 f m n k r s (nI i - 1) = k r' s' x ∧ bsd (fun j => m.toInt ≤ (f j).toInt) (fun j => (f j).toInt) 0 r' ∧ bsd (fun j => 0 < (f j).toInt) (fun j => -(f j).toInt) 0 s' := by
  intro i
  induction i with
  | zero =>
    intro n r s h1 h2 hr hs
    obtain ⟨n, rfl⟩ : ∃ m, n = m + 1 := ⟨n - 1, by omega⟩
    rw [fX8_bestFor_8, if_pos (by decide)]
    exact ⟨r, s, _, rfl, hr, hs⟩
  | succ i ih =>
    intro n r s h1 h2 hr hs
    obtain ⟨n, rfl⟩ : ∃ m, n = m + 1 := ⟨n - 1, by omega⟩
    have em : nI i + (-1) = nI i - 1 := by rw [Int32.sub_eq_add_neg]
    have a1 := bsd_step (n := i) (by omega) hr (keep := (f r.toNatClampNeg).toInt < (f i).toInt) (fun b hb e => by rw [e, nI_clamp (by omega)])
    have a2 := bsd_step (n := i) (by omega) hs (keep := (f i).toInt < (f s.toNatClampNeg).toInt) (fun b hb e => by rw [e, nI_clamp (by omega)]; omega)
    have ih := ih n _ _ (by omega) (by omega) a1 a2
    have e : fX8_bestFor_8 f m (n + 1) k r s (nI (i + 1) - 1) = fX8_bestFor_8 f m n k (sel r i (m.toInt ≤ (f i).toInt) ((f r.toNatClampNeg).toInt < (f i).toInt)) (sel s i (0 < (f i).toInt) ((f i).toInt < (f s.toNatClampNeg).toInt)) (nI i - 1) := by
      rw [fX8_bestFor_8, nI_pred, if_neg (nI_nneg (by omega)), ld_nI (by omega) (by omega)]
      simp only [ob, em]
      have q1 : (f i < m) ↔ ¬ m.toInt ≤ (f i).toInt := by rw [i32lt]; omega
      have q2 : (f i ≤ 0) ↔ ¬ 0 < (f i).toInt := by rw [i32le, t0]; omega
      unfold sel
      have inner : ∀ R : Int32, (if f i ≤ 0 then fX8_bestFor_8 f m n k R s (nI i - 1) else if s = -1 then fX8_bestFor_8 f m n k R (nI i) (nI i - 1) else (ld 8 f s).bind fun y79 => if f i < y79 then fX8_bestFor_8 f m n k R s (nI i - 1) else fX8_bestFor_8 f m n k R (nI i) (nI i - 1)) = fX8_bestFor_8 f m n k R (if 0 < (f i).toInt then (if s = -1 then nI i else if (f i).toInt < (f s.toNatClampNeg).toInt then s else nI i) else s) (nI i - 1) := by
        intro R
        by_cases c1 : 0 < (f i).toInt
        · rw [if_neg (fun z => q2.mp z c1), if_pos c1]
          rcases bsd_in hs with e | ⟨b, hb, e⟩
          · rw [if_pos e, if_pos e]
          · have hne : ¬ s = -1 := fun z => nI_m1 (j := b) (by omega) (e.symm.trans z)
            rw [if_neg hne, if_neg hne, e, ld_nI hb (by omega), ob, nI_clamp (by omega)]
            by_cases c2 : f i < f b
            · rw [if_pos c2, if_pos (i32lt.mp c2)]
            · rw [if_neg c2, if_neg (fun z => c2 (i32lt.mpr z))]
        · rw [if_pos (q2.mpr c1), if_neg c1]
      simp only [inner]
      by_cases c1 : m.toInt ≤ (f i).toInt
      · rw [if_neg (fun z => q1.mp z c1), if_pos c1]
        rcases bsd_in hr with e | ⟨b, hb, e⟩
        · rw [if_pos e, if_pos e]
        · have hne : ¬ r = -1 := fun z => nI_m1 (j := b) (by omega) (e.symm.trans z)
          rw [if_neg hne, if_neg hne, e, ld_nI hb (by omega), ob, nI_clamp (by omega)]
          by_cases c2 : f b < f i
          · rw [if_pos c2, if_pos (i32lt.mp c2)]
          · rw [if_neg c2, if_neg (fun z => c2 (i32lt.mpr z))]
      · rw [if_pos (q1.mpr c1), if_neg c1]
    rw [e]
    exact ih
theorem bsd_congr {Q Q' : Nat → Prop} {K K' : Nat → Int} {n : Nat} {r : Int32} (hq : ∀ j, j < 8 → (Q j ↔ Q' j)) (hk : ∀ j, j < 8 → K j = K' j) (h : bsd Q K n r) : bsd Q' K' n r := by
  rcases h with ⟨e, h⟩ | ⟨i, hi, hi8, e, a1, a2⟩
  · exact Or.inl ⟨e, fun j hj hj8 z => h j hj hj8 ((hq j hj8).mpr z)⟩
  · refine Or.inr ⟨i, hi, hi8, e, (hq i hi8).mp a1, fun j hj hj8 hQ => ?_⟩
    have := a2 j hj hj8 ((hq j hj8).mpr hQ)
    rw [hk i hi8, hk j hj8] at this
    exact this
/-- class and reference choose the same box -/
theorem best_pair {f g : Nat → Int32} (hs : same 8 f g) {m : Int32} (hm : 1 ≤ m.toInt) : ∃ r, fX3_chooseBox f m = some r ∧ fX8_bestFor g m = some r ∧ (r = -1 ∨ ∃ b, b < 8 ∧ r = nI b ∧ 0 < (f b).toInt) := by
  obtain ⟨r1, e1, h1⟩ := tight_loop (f := f) (m := m) (fun x2_4 x3_4 => some x2_4) FU 0 (-1) (by omega) (by unfold FU; omega) (Or.inl ⟨rfl, fun j hj => absurd hj (Nat.not_lt_zero j)⟩)
  obtain ⟨r2, e2, h2⟩ := wide_loop (f := f) (fun x2_4 x3_4 => some x2_4) FU 0 (-1) (by omega) (by unfold FU; omega) (Or.inl ⟨rfl, fun j hj => absurd hj (Nat.not_lt_zero j)⟩)
  obtain ⟨r3, s3, x, e3, h3, h4⟩ := best_loop (f := g) (m := m) (fun x2_8 x3_8 x4_8 => if x2_8 = (-1) then some x3_8 else some x2_8) 8 FU (-1) (-1) (by omega) (by unfold FU; omega) (Or.inl ⟨rfl, fun j hj hj8 => by omega⟩) (Or.inl ⟨rfl, fun j hj hj8 => by omega⟩)
  rw [nI_0] at e1 e2
  have h3' : bsd (fun j => m.toInt ≤ (f j).toInt) (fun j => (f j).toInt) 0 r3 := bsd_congr (fun j hj => by rw [hs j hj]) (fun j hj => by rw [hs j hj]) h3
  have h4' : bsd (fun j => 0 < (f j).toInt) (fun j => -(f j).toInt) 0 s3 := bsd_congr (fun j hj => by rw [hs j hj]) (fun j hj => by rw [hs j hj]) h4
  have q1 := bst_bsd h1 h3'
  have q2 := bst_bsd h2 h4'
  subst q1 q2
  have e7 : fX3_chooseBox f m = if r1 = -1 then some r2 else some r1 := by
    unfold fX3_chooseBox fX3_tightestFor fX3_widest
    rw [e1, ob, e2]
    rfl
  have e8 : fX8_bestFor g m = if r1 = -1 then some r2 else some r1 := by
    unfold fX8_bestFor
    exact e3
  rw [e7, e8]
  by_cases c : r1 = -1
  · rw [if_pos c]
    refine ⟨r2, rfl, rfl, ?_⟩
    rcases h2 with ⟨e, h⟩ | ⟨i, hi, e, a1, a2⟩
    · exact Or.inl e
    · exact Or.inr ⟨i, hi, e, a1⟩
  · rw [if_neg c]
    refine ⟨r1, rfl, rfl, ?_⟩
    rcases h1 with ⟨e, h⟩ | ⟨i, hi, e, a1, a2⟩
    · exact Or.inl e
    · exact Or.inr ⟨i, hi, e, by omega⟩
/-! boxes with nothing free -/
def zc (f : Nat → Int32) : Nat → Nat
  | 0 => 0
  | n + 1 => zc f n + if (f n).toInt ≤ 0 then 1 else 0
theorem zc_le {f : Nat → Int32} {n : Nat} : zc f n ≤ n := by
  induction n with
  | zero => exact Nat.le_refl _
  | succ n ih => rw [zc]; split <;> omega
theorem zc_upd {f : Nat → Int32} {b : Nat} {y : Int32} : ∀ n, (n ≤ b → zc (upd f b y) n = zc f n) ∧ (b < n → zc (upd f b y) n + (if (f b).toInt ≤ 0 then 1 else 0) = zc f n + (if y.toInt ≤ 0 then 1 else 0)) := by
  intro n
  induction n with
  | zero => exact ⟨fun _ => rfl, fun h => by omega⟩
  | succ n ih =>
    rw [zc, zc]
    refine ⟨fun h => ?_, fun h => ?_⟩
    · rw [ih.1 (by omega), pk_un (by omega)]
    · by_cases c : b = n
      · subst c
        rw [ih.1 (Nat.le_refl _), pk_us]; omega
      · have := ih.2 (by omega)
        rw [pk_un (by omega)]; omega
/-! layings -/
def isY (g : Nat → Int32) (L : List Tr) : Prop := ∀ (i : Nat) (h : i < L.length), rc g i L[i]
def lenI (q : Tr) : Int32 := q.2.2 - q.2.1 + 1
def boxZ (x : Int32) (W : List Tr) : Int := loadZ x W
/-- what layings of a gap are -/
def layOk (x y : Int32) (W : List Tr) : Prop := srt W ∧ ∀ w ∈ W, x.toInt ≤ w.2.1.toInt ∧ w.2.1.toInt ≤ w.2.2.toInt ∧ w.2.2.toInt < y.toInt ∧ isBx w.1
theorem sumI_app {f : Tr → Int32} {l m : List Tr} : sumI f (l ++ m) = sumI f l + sumI f m := by
  induction l with
  | nil => rw [List.nil_append, sumI, Int32.zero_add]
  | cons q l ih => rw [List.cons_append, sumI, sumI, ih, Int32.add_assoc]
theorem isY_app {g : Nat → Int32} {L : List Tr} (h : isY g L) (q : Tr) : isY (w3 g L.length q) (L ++ [q]) := by
  intro i hi
  rw [List.length_append, List.length_singleton] at hi
  by_cases c : i < L.length
  · rw [List.getElem_append_left c]; exact rc_n (by omega) (h i c)
  · have ei : i = L.length := by omega
    subst ei
    rw [get_last]; exact rc_s
theorem place_sim {b : Int32} (hb : b.toInt ≤ 2000000000) {gd : Nat} (hgd : gd ≤ 40) (k7 : Int32 → Int32 → (Nat → Int32) → Rg → Option ((Nat → Int32) × Int32 × Rg)) (k8 : Int32 → Int32 → (Nat → Int32) → Int32 → (Nat → Int32) → Option (Int32 × Int32 × (Nat → Int32) × Int32 × (Nat → Int32))) : ∀ (n : Nat) (x3 x4 : Int32) (t : Nat) (V : List Tr) (v : Rg) (f f' g8 : Nat → Int32), 1 ≤ x3.toInt → x3.toInt ≤ b.toInt + 1 → (∀ j, j < 8 → 0 ≤ (f j).toInt ∧ (f j).toInt ≤ 2000000000) → same 8 f f' → isL 49 v V → isY g8 V → V.length ≤ gd + zc f 8 → t ≤ zc f 8 → 10 ≤ n + zc f 8 → (x3.toInt ≤ b.toInt → fX8_bestFor f' (b - x3 + 1) = some x4) → ∃ (W : List Tr) (v' : Rg) (f1 f1' g8' : Nat → Int32) (y3 y4 t' : Int32), fX3_place_5 b n k7 x3 (nI t) f v = k7 y3 t' f1 v' ∧ fX8_plans_70 b n k8 x3 x4 g8 (nI V.length) f' = k8 y3 y4 g8' (nI (V ++ W).length) f1' ∧ isL 49 v' (V ++ W) ∧ isY g8' (V ++ W) ∧ same 8 f1 f1' ∧ (∀ j, j < 8 → 0 ≤ (f1 j).toInt ∧ (f1 j).toInt = (f j).toInt - loadZ (nI j) W) ∧ (V ++ W).length ≤ gd + 1 + zc f1 8 ∧ x3.toInt ≤ y3.toInt ∧ y3.toInt ≤ b.toInt + 1 ∧ layOk x3 y3 W ∧ sumI lenI W = y3 - x3 := by
  intro n
  induction n with
  | zero => intro x3 x4 t V v f f' g8 _ _ _ _ _ _ _ _ h; have := @zc_le f 8; omega
  | succ n ih =>
    intro x3 x4 t V v f f' g8 h1 h2 hf hs hv hg hV ht hn hx4
    have hz := @zc_le f 8
    have stop : ∀ y4 : Int32, ∃ (W : List Tr) (v' : Rg) (f1 f1' g8' : Nat → Int32) (y3 y4' t' : Int32), k7 x3 (nI t) f v = k7 y3 t' f1 v' ∧ k8 x3 y4 g8 (nI V.length) f' = k8 y3 y4' g8' (nI (V ++ W).length) f1' ∧ isL 49 v' (V ++ W) ∧ isY g8' (V ++ W) ∧ same 8 f1 f1' ∧ (∀ j, j < 8 → 0 ≤ (f1 j).toInt ∧ (f1 j).toInt = (f j).toInt - loadZ (nI j) W) ∧ (V ++ W).length ≤ gd + 1 + zc f1 8 ∧ x3.toInt ≤ y3.toInt ∧ y3.toInt ≤ b.toInt + 1 ∧ layOk x3 y3 W ∧ sumI lenI W = y3 - x3 := by
      intro y4
      refine ⟨[], v, f, f', g8, x3, y4, nI t, rfl, by rw [List.append_nil], by rw [List.append_nil]; exact hv, by rw [List.append_nil]; exact hg, hs, fun j hj => ⟨(hf j hj).1, by rw [loadZ]; omega⟩, by rw [List.append_nil]; omega, Int.le_refl _, h2, ⟨List.Pairwise.nil, fun w hw => absurd hw List.not_mem_nil⟩, ?_⟩
      rw [sumI, Int32.sub_self]
    rw [fX3_place_5, fX8_plans_70, if_neg (show ¬ (8 : Int32) < nI t from nI_nlt (a := 8) (by omega) (by omega))]
    by_cases c : b < x3
    · rw [if_pos c, if_pos c]
      exact stop x4
    · rw [if_neg c, if_neg c]
      rw [i32lt] at c
      have em : (b - x3 + 1).toInt = b.toInt - x3.toInt + 1 := by
        rw [toI_1, toI_sub] <;> (try rw [toI_sub]) <;> omega
      obtain ⟨r, e7, e8, hr⟩ := best_pair hs (m := b - x3 + 1) (by omega)
      have : x4 = r := Option.some.inj ((hx4 (by omega)).symm.trans e8)
      subst this
      rw [e7, ob, e7_isBox, ob, i01]
      rcases hr with e | ⟨m, hm, e, hpos⟩
      · subst e
        rw [if_neg (by decide), if_pos rfl]
        exact stop (-1)
      · subst e
        have hbox : 0 ≤ nI m ∧ nI m ≤ 7 := by
          rw [i32le, i32le, nI_toInt (by omega), t0, show (7 : Int32).toInt = 7 from rfl]; omega
        have hfm := hf m hm
        have hv49 : V.length < 49 := by
          have a := (zc_upd (f := f) (b := m) (y := 0) 8).2 hm
          rw [if_neg (by omega), if_pos (by decide)] at a
          have := @zc_le (upd f m 0) 8
          omega
        have el : (imin (f m) (b - x3 + 1)).toInt = min (f m).toInt (b.toInt - x3.toInt + 1) := by rw [imin_i, em]
        have e1 : (x3 + imin (f m) (b - x3 + 1)).toInt = x3.toInt + min (f m).toInt (b.toInt - x3.toInt + 1) := by
          rw [toI_add, el] <;> rw [el] <;> omega
        have e2 : (x3 + imin (f m) (b - x3 + 1) - 1).toInt = x3.toInt + min (f m).toInt (b.toInt - x3.toInt + 1) - 1 := by
          rw [toI_m1, e1] <;> rw [e1] <;> omega
        have e3 : (f m - imin (f m) (b - x3 + 1)).toInt = (f m).toInt - min (f m).toInt (b.toInt - x3.toInt + 1) := by
          rw [toI_sub, el] <;> rw [el] <;> omega
        obtain ⟨v1, ea, hv1⟩ := e_add hv hv49 (nI m) x3 (x3 + imin (f m) (b - x3 + 1) - 1)
        have e4 : nI (3 * V.length) + 2 = nI (3 * V.length + 2) := nI_add (3 * V.length) 2
        rw [if_pos hbox, if_neg (nI_m1 (by omega)), ld_nI hm (by omega), ob, ea, ob, ob, sv_nI hm (by omega), ob, nI_1, ld_nI hm (by omega), ob, ← hs m hm, e8_lesser, ob, m3, nI_1, e4, sv_nI (by omega) (by omega), ob, sv_nI (by omega) (by omega), ob, sv_nI (by omega) (by omega), ob, ob, sv_nI hm (by omega), ob, nI_1]
        generalize hL : imin (f m) (b - x3 + 1) = L at *
        have hs2 : same 8 (upd f m (f m - L)) (upd f' m (f m - L)) := by
          intro j hj
          by_cases cj : j = m
          · subst cj; rw [pk_us, pk_us]
          · rw [pk_un cj, pk_un cj]; exact hs j hj
        have hf2 : ∀ j, j < 8 → 0 ≤ (upd f m (f m - L) j).toInt ∧ (upd f m (f m - L) j).toInt ≤ 2000000000 := by
          intro j hj
          by_cases cj : j = m
          · subst cj; rw [pk_us, e3]; omega
          · rw [pk_un cj]; exact hf j hj
        have hlen1 : (V ++ [(nI m, x3, x3 + L - 1)]).length = V.length + 1 := by rw [List.length_append, List.length_singleton]
        have hg1 : isY (w3 g8 V.length (nI m, x3, x3 + L - 1)) (V ++ [(nI m, x3, x3 + L - 1)]) := isY_app hg _
        have hzu := (zc_upd (f := f) (b := m) (y := f m - L) 8).2 hm
        rw [if_neg (show ¬ (f m).toInt ≤ 0 by omega)] at hzu
        have fin : ∀ (x4' : Int32), ((x3 + L).toInt ≤ b.toInt → fX8_bestFor (upd f' m (f m - L)) (b - (x3 + L) + 1) = some x4') → ∃ (W : List Tr) (v' : Rg) (f1 f1' g8' : Nat → Int32) (y3 y4 t' : Int32), fX3_place_5 b n k7 (x3 + L) (nI (t + 1)) (upd f m (f m - L)) v1 = k7 y3 t' f1 v' ∧ fX8_plans_70 b n k8 (x3 + L) x4' (w3 g8 V.length (nI m, x3, x3 + L - 1)) (nI (V.length + 1)) (upd f' m (f m - L)) = k8 y3 y4 g8' (nI (V ++ W).length) f1' ∧ isL 49 v' (V ++ W) ∧ isY g8' (V ++ W) ∧ same 8 f1 f1' ∧ (∀ j, j < 8 → 0 ≤ (f1 j).toInt ∧ (f1 j).toInt = (f j).toInt - loadZ (nI j) W) ∧ (V ++ W).length ≤ gd + 1 + zc f1 8 ∧ x3.toInt ≤ y3.toInt ∧ y3.toInt ≤ b.toInt + 1 ∧ layOk x3 y3 W ∧ sumI lenI W = y3 - x3 := by
          intro x4' hx4'
          have key : ∃ (W : List Tr) (v' : Rg) (f1 f1' g8' : Nat → Int32) (y3 y4 t' : Int32), fX3_place_5 b n k7 (x3 + L) (nI (t + 1)) (upd f m (f m - L)) v1 = k7 y3 t' f1 v' ∧ fX8_plans_70 b n k8 (x3 + L) x4' (w3 g8 V.length (nI m, x3, x3 + L - 1)) (nI (V.length + 1)) (upd f' m (f m - L)) = k8 y3 y4 g8' (nI (V ++ [(nI m, x3, x3 + L - 1)] ++ W).length) f1' ∧ isL 49 v' (V ++ [(nI m, x3, x3 + L - 1)] ++ W) ∧ isY g8' (V ++ [(nI m, x3, x3 + L - 1)] ++ W) ∧ same 8 f1 f1' ∧ (∀ j, j < 8 → 0 ≤ (f1 j).toInt ∧ (f1 j).toInt = (upd f m (f m - L) j).toInt - loadZ (nI j) W) ∧ (V ++ [(nI m, x3, x3 + L - 1)] ++ W).length ≤ gd + 1 + zc f1 8 ∧ (x3 + L).toInt ≤ y3.toInt ∧ y3.toInt ≤ b.toInt + 1 ∧ layOk (x3 + L) y3 W ∧ sumI lenI W = y3 - (x3 + L) := by
            by_cases c2 : (x3 + L).toInt ≤ b.toInt
            · have hzero : (f m - L).toInt ≤ 0 := by rw [e3]; omega
              rw [if_pos hzero] at hzu
              have := ih (x3 + L) x4' (t + 1) (V ++ [(nI m, x3, x3 + L - 1)]) v1 (upd f m (f m - L)) (upd f' m (f m - L)) (w3 g8 V.length (nI m, x3, x3 + L - 1)) (by omega) (by omega) hf2 hs2 hv1 hg1 (by omega) (by omega) (by omega) hx4'
              rw [hlen1] at this
              exact this
            · -- past the gap: both stop at once
              have c3 : b < x3 + L := by rw [i32lt]; omega
              have hz2 := @zc_le (upd f m (f m - L)) 8
              obtain ⟨n, rfl⟩ : ∃ k, n = k + 1 := ⟨n - 1, by
                have a := (zc_upd (f := f) (b := m) (y := 0) 8).2 hm
                rw [if_neg (by omega), if_pos (by decide)] at a
                have := @zc_le (upd f m 0) 8
                omega⟩
              rw [fX3_place_5, fX8_plans_70, if_pos c3, if_pos c3]
              have hkk : (if (8 : Int32) < nI (t + 1) then k7 (x3 + L) (nI (t + 1)) (upd f m (f m - L)) v1 else k7 (x3 + L) (nI (t + 1)) (upd f m (f m - L)) v1) = k7 (x3 + L) (nI (t + 1)) (upd f m (f m - L)) v1 := by split <;> rfl
              rw [hkk]
              refine ⟨[], v1, upd f m (f m - L), upd f' m (f m - L), w3 g8 V.length (nI m, x3, x3 + L - 1), x3 + L, x4', nI (t + 1), rfl, by rw [List.append_nil, hlen1], by rw [List.append_nil]; exact hv1, by rw [List.append_nil]; exact hg1, hs2, fun j hj => ⟨(hf2 j hj).1, by rw [loadZ]; omega⟩, ?_, Int.le_refl _, by omega, ⟨List.Pairwise.nil, fun w hw => absurd hw List.not_mem_nil⟩, by rw [sumI, Int32.sub_self]⟩
              rw [List.append_nil, hlen1]
              split at hzu <;> omega
          obtain ⟨W, v', f1, f1', g8', y3, y4, t', k1, k2, k3, k4, k5, k6, k7', k8', k9, k10, k11⟩ := key
          have ea : V ++ [(nI m, x3, x3 + L - 1)] ++ W = V ++ ((nI m, x3, x3 + L - 1) :: W) := by rw [List.append_assoc]; rfl
          rw [ea] at k2 k3 k4 k7'
          refine ⟨(nI m, x3, x3 + L - 1) :: W, v', f1, f1', g8', y3, y4, t', k1, k2, k3, k4, k5, fun j hj => ?_, k7', by omega, k9, ⟨?_, fun w hw => ?_⟩, ?_⟩
          · have a := k6 j hj
            refine ⟨a.1, ?_⟩
            rw [a.2, loadZ]
            by_cases cj : j = m
            · subst cj
              rw [pk_us, if_pos rfl, e3]
              show _ = (f j).toInt - ((x3 + L - 1).toInt - x3.toInt + 1 + loadZ (nI j) W)
              omega
            · rw [pk_un cj, if_neg (fun z => cj ((nI_eq (by omega) (by omega)).mp z).symm)]
              omega
          · refine List.pairwise_cons.mpr ⟨fun w hw => ?_, k10.1⟩
            have := k10.2 w hw
            show (x3 + L - 1).toInt < w.2.1.toInt
            omega
          · rcases List.mem_cons.mp hw with z | z
            · subst z
              exact ⟨Int.le_refl _, by show x3.toInt ≤ (x3 + L - 1).toInt; omega, by show (x3 + L - 1).toInt < y3.toInt; omega, isBx_of hbox⟩
            · have := k10.2 w z
              exact ⟨by omega, this.2.1, this.2.2.1, this.2.2.2⟩
          · rw [sumI, k11]
            show x3 + L - 1 - x3 + 1 + (y3 - (x3 + L)) = y3 - x3
            grind
        by_cases c2 : b < x3 + L
        · rw [if_pos c2]
          exact fin (-1) (fun z => by rw [i32lt] at c2; omega)
        · rw [if_neg c2]
          rw [i32lt] at c2
          have em2 : 1 ≤ (b - (x3 + L) + 1).toInt := by
            rw [toI_1, toI_sub] <;> (try rw [toI_sub]) <;> omega
          obtain ⟨r2, _, e82, _⟩ := best_pair hs2 em2
          rw [e82, ob]
          exact fin r2 (fun _ => e82)
