/-! gaps -/
def gapsL (b : Int32) : Int32 → List Tr → List Tr
  | x, [] => if b < x then [] else [(-1, x, b)]
  | x, p :: l => if ¬ b < p.2.1 ∧ ¬ p.2.2 < x then (if p.2.1 ≤ x then gapsL b (p.2.2 + 1) l else (-1, x, p.2.1 - 1) :: gapsL b (p.2.2 + 1) l) else gapsL b x l
def fxF (x : Int32) (p : Tr) : Int32 := if ¬ x < p.2.1 ∧ ¬ p.2.2 < x then p.2.2 + 1 else x
def glF (x : Int32) (e : Int32) (p : Tr) : Int32 := if p.2.1 ≤ x then e else imin e (p.2.1 - 1)
theorem fx_ge {l : List Tr} (hr : okR l) : ∀ x : Int32, x.toInt ≤ (l.foldl fxF x).toInt := by
  induction l with
  | nil => intro x; exact Int.le_refl _
  | cons p l ih =>
    intro x
    have h1 := hr.i (List.mem_cons_self (a := p))
    have ih := ih (fun y hy => hr y (List.mem_cons_of_mem _ hy))
    rw [List.foldl_cons, fxF]
    by_cases c : ¬ x < p.2.1 ∧ ¬ p.2.2 < x
    · rw [if_pos c]
      have := ih (p.2.2 + 1)
      rw [toI_1 (by omega) (by omega)] at this
      have c2 := c.2
      rw [i32lt] at c2
      omega
    · rw [if_neg c]; exact ih x
theorem fx_id {l : List Tr} {x : Int32} (h : ∀ q ∈ l, x.toInt < q.2.1.toInt) : l.foldl fxF x = x := by
  induction l with
  | nil => rfl
  | cons p l ih =>
    have h1 := h p List.mem_cons_self
    rw [List.foldl_cons, fxF, if_neg (fun z => z.1 (i32lt.mpr h1)), ih (fun y hy => h y (List.mem_cons_of_mem _ hy))]
theorem gl_id {l : List Tr} {x e : Int32} (hr : okR l) (h : ∀ q ∈ l, e.toInt < q.2.1.toInt) : l.foldl (glF x) e = e := by
  induction l with
  | nil => rfl
  | cons p l ih =>
    have h1 := h p List.mem_cons_self
    have h2 := hr.i (List.mem_cons_self (a := p))
    rw [List.foldl_cons, glF]
    have : imin e (p.2.1 - 1) = e := by rw [i32eq, imin_i, toI_m1 (by omega) (by omega)]; omega
    rw [this, ite_self, ih (fun y hy => hr y (List.mem_cons_of_mem _ hy)) (fun y hy => h y (List.mem_cons_of_mem _ hy))]
theorem gaps_nil {b : Int32} {l : List Tr} (hr : okR l) (hc : canon l) : ∀ x : Int32, 1 ≤ x.toInt → x.toInt ≤ 2000000001 → gapsL b x l = [] → b < l.foldl fxF x := by
  induction l with
  | nil =>
    intro x _ _ h
    rw [gapsL] at h
    by_cases c : b < x
    · exact c
    · rw [if_neg c] at h; exact absurd h (List.cons_ne_nil _ _)
  | cons p l ih =>
    intro x h0 h1 h
    have hr' : okR l := fun y hy => hr y (List.mem_cons_of_mem _ hy)
    have ih := ih hr' (canon_tail hc)
    have hp := hr.i (List.mem_cons_self (a := p))
    have ep : (p.2.2 + 1).toInt = p.2.2.toInt + 1 := toI_1 (by omega) (by omega)
    rw [gapsL] at h
    rw [List.foldl_cons, fxF]
    by_cases c : ¬ b < p.2.1 ∧ ¬ p.2.2 < x
    · rw [if_pos c] at h
      by_cases c2 : p.2.1 ≤ x
      · rw [if_pos c2] at h
        rw [if_pos ⟨by rw [i32lt]; rw [i32le] at c2; omega, c.2⟩]
        exact ih _ (by omega) (by omega) h
      · rw [if_neg c2] at h; exact absurd h (List.cons_ne_nil _ _)
    · rw [if_neg c] at h
      by_cases c2 : ¬ x < p.2.1 ∧ ¬ p.2.2 < x
      · rw [if_pos c2, i32lt]
        have := fx_ge hr' (p.2.2 + 1)
        have c3 : b < p.2.1 := Decidable.byContradiction (fun z => c ⟨z, c2.2⟩)
        rw [i32lt] at c3
        omega
      · rw [if_neg c2]; exact ih x h0 h1 h
theorem gaps_cons {b : Int32} (hb : b.toInt ≤ 2000000000) {l : List Tr} (hr : okR l) (hc : canon l) {g : Tr} {t : List Tr} : ∀ x : Int32, 1 ≤ x.toInt → x.toInt ≤ 2000000001 → gapsL b x l = g :: t → g.1 = -1 ∧ l.foldl fxF x = g.2.1 ∧ x.toInt ≤ g.2.1.toInt ∧ g.2.1.toInt ≤ g.2.2.toInt ∧ g.2.2.toInt ≤ b.toInt ∧ gapsL b (g.2.2 + 1) l = t ∧ l.foldl (glF g.2.1) b = g.2.2 := by
  induction l with
  | nil =>
    intro x h0 h1 h
    rw [gapsL] at h
    by_cases c : b < x
    · rw [if_pos c] at h; exact absurd h.symm (List.cons_ne_nil _ _)
    · rw [if_neg c] at h
      cases h
      rw [i32lt] at c
      refine ⟨rfl, rfl, Int.le_refl _, (by show x.toInt ≤ b.toInt; omega), Int.le_refl _, ?_, rfl⟩
      rw [gapsL, if_pos]
      rw [i32lt, toI_1 (by show b.toInt ≤ _; omega) (by show _ ≤ b.toInt; omega)]
      show b.toInt < b.toInt + 1
      omega
  | cons p l ih =>
    intro x h0 h1 h
    have hr' : okR l := fun y hy => hr y (List.mem_cons_of_mem _ hy)
    have ih := ih hr' (canon_tail hc)
    have hp := hr.i (List.mem_cons_self (a := p))
    have hlt := canon_lt hr hc
    have ep : (p.2.2 + 1).toInt = p.2.2.toInt + 1 := toI_1 (by omega) (by omega)
    have em : (p.2.1 - 1).toInt = p.2.1.toInt - 1 := toI_m1 (by omega) (by omega)
    rw [gapsL] at h
    rw [List.foldl_cons, List.foldl_cons, fxF, gapsL, glF]
    by_cases c : ¬ b < p.2.1 ∧ ¬ p.2.2 < x
    · rw [if_pos c] at h
      have ca := c.1
      have cb := c.2
      rw [i32lt] at ca cb
      by_cases c2 : p.2.1 ≤ x
      · rw [if_pos c2] at h
        obtain ⟨a1, a2, a3, a4, a5, a6, a7⟩ := ih _ (by omega) (by omega) h
        rw [i32le] at c2
        have eg : (g.2.2 + 1).toInt = g.2.2.toInt + 1 := toI_1 (by omega) (by omega)
        rw [if_pos (show ¬ x < p.2.1 ∧ ¬ p.2.2 < x from ⟨by rw [i32lt]; omega, c.2⟩), if_neg (show ¬ (¬ b < p.2.1 ∧ ¬ p.2.2 < g.2.2 + 1) by rw [i32lt, i32lt, eg]; omega), if_pos (show p.2.1 ≤ g.2.1 by rw [i32le]; omega)]
        exact ⟨a1, a2, by omega, a4, a5, a6, a7⟩
      · rw [if_neg c2] at h
        cases h
        rw [i32le] at c2
        have e1 : p.2.1 - 1 + 1 = p.2.1 := by grind
        have e2 : imin b (p.2.1 - 1) = p.2.1 - 1 := by rw [i32eq, imin_i, em]; omega
        show _ ∧ _ ∧ _ ∧ x.toInt ≤ (p.2.1 - 1).toInt ∧ (p.2.1 - 1).toInt ≤ b.toInt ∧ (if ¬ b < p.2.1 ∧ ¬ p.2.2 < p.2.1 - 1 + 1 then (if p.2.1 ≤ p.2.1 - 1 + 1 then gapsL b (p.2.2 + 1) l else (-1, p.2.1 - 1 + 1, p.2.1 - 1) :: gapsL b (p.2.2 + 1) l) else gapsL b (p.2.1 - 1 + 1) l) = gapsL b (p.2.2 + 1) l ∧ List.foldl (glF x) (if p.2.1 ≤ x then b else imin b (p.2.1 - 1)) l = p.2.1 - 1
        rw [e1, e2, em]
        refine ⟨rfl, ?_, Int.le_refl _, by omega, by omega, ?_, ?_⟩
        · rw [if_neg (fun z => z.1 (i32lt.mpr (by omega))), fx_id]
          intro q hq
          have := hlt q hq
          omega
        · rw [if_pos (show ¬ b < p.2.1 ∧ ¬ p.2.2 < p.2.1 from ⟨c.1, by rw [i32lt]; omega⟩), if_pos (Int32.le_refl _)]
        · rw [if_neg (by rw [i32le]; omega), gl_id hr']
          intro q hq
          have := hlt q hq
          omega
    · rw [if_neg c] at h
      obtain ⟨a1, a2, a3, a4, a5, a6, a7⟩ := ih x h0 h1 h
      have eg : (g.2.2 + 1).toInt = g.2.2.toInt + 1 := toI_1 (by omega) (by omega)
      rw [i32lt, i32lt] at c
      rw [if_neg (show ¬ (¬ x < p.2.1 ∧ ¬ p.2.2 < x) by rw [i32lt, i32lt]; omega), if_neg (show ¬ (¬ b < p.2.1 ∧ ¬ p.2.2 < g.2.2 + 1) by rw [i32lt, i32lt, eg]; omega)]
      refine ⟨a1, a2, a3, a4, a5, a6, ?_⟩
      by_cases c2 : p.2.1 ≤ g.2.1
      · rw [if_pos c2]; exact a7
      · rw [if_neg c2]
        rw [i32le] at c2
        have : imin b (p.2.1 - 1) = b := by rw [i32eq, imin_i, em]; omega
        rw [this]; exact a7
theorem gaps_len {b : Int32} {l : List Tr} : ∀ x : Int32, (gapsL b x l).length ≤ l.length + 1 := by
  induction l with
  | nil => intro x; rw [gapsL]; split <;> simp
  | cons p l ih =>
    intro x
    rw [gapsL, List.length_cons]
    split
    · split
      · have := ih (p.2.2 + 1); omega
      · have := ih (p.2.2 + 1); rw [List.length_cons]; omega
    · have := ih x; omega
/-! the class finds them -/
theorem cutS {N : Nat} (hN : N < 2 ^ 30) {v : Rg} (h : szL N v) : ∃ v', fX4_cutTo N v 0 = some v' ∧ isL N v' [] := by
  obtain ⟨k, hk, e⟩ := h
  unfold fX4_cutTo
  rw [if_neg (by decide), e]
  by_cases c : nI k ≤ 0
  · rw [if_pos c]
    have e0 : k = 0 := by
      rcases Nat.eq_zero_or_pos k with e | e
      · exact e
      · exact absurd c (nI_nle e (by omega))
    subst e0
    exact ⟨v, rfl, Nat.zero_le _, hN, e, fun i h => absurd h (Nat.not_lt_zero i)⟩
  · rw [if_neg c]
    exact ⟨_, rfl, isL_nil hN⟩
theorem isL.sz {N : Nat} {v : Rg} {l : List Tr} (h : isL N v l) : szL N v := ⟨l.length, h.1, h.n⟩
theorem gaps7_loop {w : Rg} {P : List Tr} (hp : isL 42 w P) (b : Int32) : ∀ (n i : Nat) (x : Int32) (G : List Tr) (v : Rg), i ≤ P.length → P.length < i + n → isL 41 v G → G.length + (P.length - i) ≤ 40 → ∃ v', fX3_findGaps_30 w b n (fun x5 x6 v => if b < x5 then some v else (fX4_add 41 v (-1) x5 b).bind fun r114 => some r114.2) x (nI i) v = some v' ∧ isL 41 v' (G ++ gapsL b x (P.drop i)) := by
  have hb := hp.b
  intro n
  induction n with
  | zero => intro i x G v h1 h2; omega
  | succ n ih =>
    intro i x G v hi hn hv hG
    rw [fX3_findGaps_30, e_size hp, ob]
    by_cases c : i = P.length
    · rw [if_pos ((nI_geI (by omega) (by omega) hi).mpr c), c, List.drop_length, gapsL]
      by_cases c2 : b < x
      · rw [if_pos c2, if_pos c2, List.append_nil]; exact ⟨v, rfl, hv⟩
      · rw [if_neg c2, if_neg c2]
        obtain ⟨v', e, h'⟩ := e_add hv (by omega) (-1) x b
        rw [e, ob]
        exact ⟨v', rfl, h'⟩
    · have hlt : i < P.length := by omega
      rw [if_neg (fun z => c ((nI_geI (by omega) (by omega) hi).mp z)), List.drop_eq_getElem_cons hlt, gapsL, e_meets hp hlt, ob, i01, e_firstOf_in hp hlt, ob, ob, e_lastOf_in hp hlt, ob, nI_1]
      by_cases c1 : ¬ b < (P[i]).2.1 ∧ ¬ (P[i]).2.2 < x
      · rw [if_pos c1, if_pos c1]
        by_cases c2 : (P[i]).2.1 ≤ x
        · rw [if_pos c2, if_pos c2]
          exact ih (i + 1) _ G v (by omega) (by omega) hv (by omega)
        · rw [if_neg c2, if_neg c2]
          obtain ⟨v', e, h'⟩ := e_add hv (by omega) (-1) x ((P[i]).2.1 - 1)
          obtain ⟨v2, e2, h2⟩ := ih (i + 1) ((P[i]).2.2 + 1) (G ++ [(-1, x, (P[i]).2.1 - 1)]) v' (by omega) (by omega) h' (by rw [List.length_append, List.length_singleton]; omega)
          refine ⟨v2, ?_, by rw [List.append_assoc] at h2; exact h2⟩
          rw [e, ob, ob]
          exact e2
      · rw [if_neg c1, if_neg c1]
        exact ih (i + 1) _ G v (by omega) (by omega) hv (by omega)
theorem e_findGaps {vg v w : Rg} {S P : List Tr} (hg : szL 41 vg) (h : isL 10 v S) (hp : isL 42 w P) (h40 : P.length ≤ 40) {s : Nat} (hs : s < S.length) : ∃ v', fX3_findGaps vg v w (nI s) = some v' ∧ isL 41 v' (gapsL (S[s]).2.2 (S[s]).2.1 P) := by
  obtain ⟨v0, e0, h0⟩ := cutS (by decide) hg
  obtain ⟨v1, e1, h1⟩ := gaps7_loop hp (S[s]).2.2 FU 0 (S[s]).2.1 [] v0 (Nat.zero_le _) (FU_gt (by omega)) h0 (by rw [List.length_nil]; omega)
  rw [nI_0] at e1
  rw [List.nil_append, List.drop_zero] at h1
  refine ⟨v1, ?_, h1⟩
  unfold fX3_findGaps fX0_pieces
  rw [ob, e7_lastIn h hs, ob, e7_firstIn h hs, ob, e0, ob]
  exact e1
/-! the reference finds them -/
theorem fx8_loop {g : Nat → Int32} {l : List Tr} (h : isP g l) (k : Int32 → Int32 → Option (Int32 × Int32 × Int32)) : ∀ (n i : Nat) (x : Int32), i ≤ l.length → l.length < i + n → fX8_finds_13 g n k x (nI i) = k ((l.drop i).foldl fxF x) (nI l.length) := by
  have hb : l.length < 2 ^ 30 := h.b
  intro n
  induction n with
  | zero => intro i x h1 h2; omega
  | succ n ih =>
    intro i x hi hn
    rw [fX8_finds_13]
    simp only [h.c, ob]
    by_cases c : i = l.length
    · rw [if_pos ((nI_geI (by omega) (by omega) hi).mpr c)]
      subst c
      rw [List.drop_length]; rfl
    · have hlt : i < l.length := by omega
      rw [if_neg (fun z => c ((nI_geI (by omega) (by omega) hi).mp z))]
      have ih := fun x => ih (i + 1) x (by omega) (by omega)
      simp only [h.f hlt, h.l hlt, e8_in32, hs_if, ob, i01, nI_1, ih]
      rw [List.drop_eq_getElem_cons hlt, List.foldl_cons, fxF]; (repeat' split) <;> rfl
theorem gl8_loop {g : Nat → Int32} {l : List Tr} (h : isP g l) (x : Int32) (k : Int32 → Int32 → Option (Int32 × Int32 × Int32)) : ∀ (n i : Nat) (e : Int32), i ≤ l.length → l.length < i + n → fX8_finds_85 g x n k (nI i) e = k (nI l.length) ((l.drop i).foldl (glF x) e) := by
  have hb : l.length < 2 ^ 30 := h.b
  intro n
  induction n with
  | zero => intro i e h1 h2; omega
  | succ n ih =>
    intro i e hi hn
    rw [fX8_finds_85]
    simp only [h.c, ob]
    by_cases c : i = l.length
    · rw [if_pos ((nI_geI (by omega) (by omega) hi).mpr c)]
      subst c
      rw [List.drop_length]; rfl
    · have hlt : i < l.length := by omega
      rw [if_neg (fun z => c ((nI_geI (by omega) (by omega) hi).mp z))]
      have ih := fun e => ih (i + 1) e (by omega) (by omega)
      simp only [h.f hlt, e8_lesser, ob, i01, nI_1, ih]
      rw [List.drop_eq_getElem_cons hlt, List.foldl_cons, glF]; (repeat' split) <;> rfl
theorem e8_finds {g : Nat → Int32} {S P : List Tr} (h : isS g S) (hp : isP g P) {s : Nat} (hs : s < S.length) (gf gl x : Int32) : fX8_finds g gf gl (nI s) x = some (if (S[s]).2.2 < P.foldl fxF (imax x (S[s]).2.1) then 0 else 1, P.foldl fxF (imax x (S[s]).2.1), P.foldl (glF (P.foldl fxF (imax x (S[s]).2.1))) (S[s]).2.2) := by
  have h40 := hp.1
  unfold fX8_finds
  rw [h.f hs, ob, e8_greater, ob]
  have e1 := fun k => fx8_loop hp k FU 0 (imax x (S[s]).2.1) (Nat.zero_le _) (FU_gt (by omega))
  rw [nI_0, List.drop_zero] at e1
  rw [e1, h.l hs, ob]
  have e2 := fun x k => gl8_loop hp x k FU 0 (S[s]).2.2 (Nat.zero_le _) (FU_gt (by omega))
  rw [nI_0, List.drop_zero] at e2
  rw [e2, ob]
  split <;> rfl
/-- the next gap, as the reference sees it -/
theorem finds_cons {g : Nat → Int32} {S P : List Tr} (h : isS g S) (hp : isP g P) (hr : okR P) (hc : canon P) (hS : okR S) {s : Nat} (hs : s < S.length) (gf gl : Int32) {x : Int32} (h0 : 1 ≤ (imax x (S[s]).2.1).toInt) (h1 : (imax x (S[s]).2.1).toInt ≤ 2000000001) {q : Tr} {t : List Tr} (e : gapsL (S[s]).2.2 (imax x (S[s]).2.1) P = q :: t) : fX8_finds g gf gl (nI s) x = some (1, q.2.1, q.2.2) ∧ q.1 = -1 ∧ (S[s]).2.1.toInt ≤ q.2.1.toInt ∧ q.2.1.toInt ≤ q.2.2.toInt ∧ q.2.2.toInt ≤ (S[s]).2.2.toInt ∧ gapsL (S[s]).2.2 (imax (q.2.2 + 1) (S[s]).2.1) P = t ∧ 1 ≤ (imax (q.2.2 + 1) (S[s]).2.1).toInt ∧ (imax (q.2.2 + 1) (S[s]).2.1).toInt ≤ 2000000001 := by
  have hb := hS.i (List.getElem_mem hs)
  obtain ⟨a1, a2, a3, a4, a5, a6, a7⟩ := gaps_cons hb.2.2 hr hc _ h0 h1 e
  have em := @imax_i x (S[s]).2.1
  have eg : (q.2.2 + 1).toInt = q.2.2.toInt + 1 := toI_1 (by omega) (by omega)
  have e3 : imax (q.2.2 + 1) (S[s]).2.1 = q.2.2 + 1 := by rw [i32eq, imax_i, eg]; omega
  rw [e3, eg]
  refine ⟨?_, a1, by omega, a4, a5, a6, by omega, by omega⟩
  rw [e8_finds h hp hs, a2, a7, if_neg (by rw [i32lt]; omega)]
theorem finds_nil {g : Nat → Int32} {S P : List Tr} (h : isS g S) (hp : isP g P) (hr : okR P) (hc : canon P) {s : Nat} (hs : s < S.length) (gf gl : Int32) {x : Int32} (h0 : 1 ≤ (imax x (S[s]).2.1).toInt) (h1 : (imax x (S[s]).2.1).toInt ≤ 2000000001) (e : gapsL (S[s]).2.2 (imax x (S[s]).2.1) P = []) : ∃ a c, fX8_finds g gf gl (nI s) x = some (0, a, c) := by
  have := gaps_nil hr hc _ h0 h1 e
  rw [e8_finds h hp hs, if_pos this]
  exact ⟨_, _, rfl⟩
theorem imax_1 {a : Int32} (h : 1 ≤ a.toInt) : imax 1 a = a := by rw [i32eq, imax_i, t1]; omega
theorem gaps8_loop {g : Nat → Int32} {S P : List Tr} (h : isS g S) (hp : isP g P) (hr : okR P) (hc : canon P) (hS : okR S) {s : Nat} (hs : s < S.length) : ∀ (G : List Tr) (n : Nat) (m : Nat) (x gf gl : Int32), 1 ≤ (imax x (S[s]).2.1).toInt → (imax x (S[s]).2.1).toInt ≤ 2000000001 → gapsL (S[s]).2.2 (imax x (S[s]).2.1) P = G → G.length < n → ∃ a c, fX8_gaps_4 g (nI s) n (fun x2 x3 a c => some (x2, a, c)) (nI m) x gf gl = some (nI (m + G.length), a, c) := by
  intro G
  induction G with
  | nil =>
    intro n m x gf gl h0 h1 e hn
    obtain ⟨n, rfl⟩ : ∃ k, n = k + 1 := ⟨n - 1, by rw [List.length_nil] at hn; omega⟩
    obtain ⟨a, c, ef⟩ := finds_nil h hp hr hc hs gf gl h0 h1 e
    rw [fX8_gaps_4, ef, ob, if_pos rfl]
    exact ⟨_, _, rfl⟩
  | cons q t ih =>
    intro n m x gf gl h0 h1 e hn
    rw [List.length_cons] at hn ⊢
    obtain ⟨n, rfl⟩ : ∃ k, n = k + 1 := ⟨n - 1, by omega⟩
    obtain ⟨ef, _, _, _, _, et, b0, b1⟩ := finds_cons h hp hr hc hS hs gf gl h0 h1 e
    rw [fX8_gaps_4, ef, ob, if_neg (show ¬ (1 : Int32) = 0 by decide), nI_1]
    obtain ⟨a, c, e2⟩ := ih n (m + 1) (q.2.2 + 1) q.2.1 q.2.2 b0 b1 et (by omega)
    exact ⟨a, c, by rw [e2, show m + 1 + t.length = m + (t.length + 1) by omega]⟩
theorem e8_gaps {g : Nat → Int32} {S P : List Tr} (h : isS g S) (hp : isP g P) (hr : okR P) (hc : canon P) (hS : okR S) {s : Nat} (hs : s < S.length) (gf gl : Int32) : ∃ a c, fX8_gaps g gf gl (nI s) = some (nI (gapsL (S[s]).2.2 (S[s]).2.1 P).length, a, c) := by
  have hb := hS.i (List.getElem_mem hs)
  have h40 := hp.1
  have hl := @gaps_len (S[s]).2.2 P (S[s]).2.1
  have ei := imax_1 hb.1
  obtain ⟨a, c, e⟩ := gaps8_loop h hp hr hc hS hs (gapsL (S[s]).2.2 (S[s]).2.1 P) FU 0 1 gf gl (by rw [ei]; omega) (by rw [ei]; omega) (by rw [ei]) (by unfold FU; omega)
  rw [Nat.zero_add, nI_0] at e
  exact ⟨a, c, e⟩
theorem findsGap_loop {g : Nat → Int32} {S P : List Tr} (h : isS g S) (hp : isP g P) (hr : okR P) (hc : canon P) (hS : okR S) {s : Nat} (hs : s < S.length) {K : Nat} (hK : K < 2 ^ 31) : ∀ (t : List Tr) (n i : Nat) (q : Tr), 1 ≤ (imax (q.2.2 + 1) (S[s]).2.1).toInt → (imax (q.2.2 + 1) (S[s]).2.1).toInt ≤ 2000000001 → gapsL (S[s]).2.2 (imax (q.2.2 + 1) (S[s]).2.1) P = t → t.length + 1 < n → i ≤ K → ∃ r a c, fX8_findsGap_10 g (nI s) (nI K) n (fun x3 x4 a c => (bz x3).bind fun b => some (b, a, c)) 1 (nI i) q.2.1 q.2.2 = some (r, a, c) ∧ (∀ z, (q :: t)[K - i]? = some z → r = 1 ∧ a = z.2.1 ∧ c = z.2.2) ∧ ((q :: t)[K - i]? = none → r = 0) := by
  intro t
  induction t with
  | nil =>
    intro n i q h0 h1 e hn hi
    rw [List.length_nil] at hn
    obtain ⟨n, rfl⟩ : ∃ k, n = k + 1 := ⟨n - 1, by omega⟩
    rw [fX8_findsGap_10]
    by_cases c : i = K
    · subst c
      rw [if_pos (nI_le (Nat.le_refl _) (by omega)), Nat.sub_self]
      exact ⟨1, _, _, rfl, fun z ez => by cases ez; exact ⟨rfl, rfl, rfl⟩, fun ez => by cases ez⟩
    · obtain ⟨n, rfl⟩ : ∃ k, n = k + 1 := ⟨n - 1, by omega⟩
      obtain ⟨a, b, ef⟩ := finds_nil h hp hr hc hs q.2.1 q.2.2 h0 h1 e
      rw [if_neg (nI_ge (by omega) (by omega)), if_neg (by decide), ef, ob, nI_1, fX8_findsGap_10]
      refine ⟨0, a, b, ?_, fun z ez => ?_, fun _ => rfl⟩
      · by_cases c2 : nI K ≤ nI (i + 1)
        · rw [if_pos c2]; rfl
        · rw [if_neg c2, if_pos rfl]; rfl
      · obtain ⟨m, em⟩ : ∃ m, K - i = m + 1 := ⟨K - i - 1, by omega⟩
        rw [em] at ez
        cases ez
  | cons q' t ih =>
    intro n i q h0 h1 e hn hi
    rw [List.length_cons] at hn
    obtain ⟨n, rfl⟩ : ∃ k, n = k + 1 := ⟨n - 1, by omega⟩
    rw [fX8_findsGap_10]
    by_cases c : i = K
    · subst c
      rw [if_pos (nI_le (Nat.le_refl _) (by omega)), Nat.sub_self]
      exact ⟨1, _, _, rfl, fun z ez => by cases ez; exact ⟨rfl, rfl, rfl⟩, fun ez => by cases ez⟩
    · obtain ⟨ef, _, _, _, _, et, b0, b1⟩ := finds_cons h hp hr hc hS hs q.2.1 q.2.2 h0 h1 e
      rw [if_neg (nI_ge (by omega) (by omega)), if_neg (by decide), ef, ob, nI_1]
      obtain ⟨r, a, b, e2, e3, e4⟩ := ih n (i + 1) q' b0 b1 et (by omega) (by omega)
      obtain ⟨m, em⟩ : ∃ m, K - i = m + 1 := ⟨K - i - 1, by omega⟩
      rw [show K - (i + 1) = m by omega] at e3 e4
      rw [em]
      exact ⟨r, a, b, e2, fun z ez => e3 z (by rw [← ez]; rfl), fun ez => e4 (by rw [← ez]; rfl)⟩
theorem e8_isSeries {g : Nat → Int32} {S : List Tr} (h : isS g S) (x : Int32) : fX8_isSeries g x = some (if ¬ (x < 0 ∨ nI S.length ≤ x) then 1 else 0) := by
  have h1 := h.1
  unfold fX8_isSeries
  rw [h.c, ob, e8_in0 x _ (by omega), ob, bz01, ob]
theorem e7_isSeries_in {v : Rg} {S : List Tr} (h : isL 10 v S) {j : Nat} (hj : j < S.length) : fX0_isSeries v (nI j) = some 1 := by
  unfold fX0_isSeries
  rw [e_has_in h hj]; rfl
theorem e7_isSeries_out {v : Rg} {S : List Tr} (h : isL 10 v S) {x : Int32} (hx : x < 0 ∨ nI S.length ≤ x) : fX0_isSeries v x = some 0 := by
  unfold fX0_isSeries
  rw [e_has_out h hx]; rfl
