/-! bare sheets -/
def cz (P : Tr → Prop) [DecidablePred P] : List Tr → Nat
  | [] => 0
  | q :: l => (if P q then 1 else 0) + cz P l
theorem cz_le {P : Tr → Prop} [DecidablePred P] {l : List Tr} : cz P l ≤ l.length := by
  induction l with
  | nil => exact Nat.le_refl _
  | cons q l ih => rw [cz, List.length_cons]; split <;> omega
theorem cz_mono {P Q : Tr → Prop} [DecidablePred P] [DecidablePred Q] {l : List Tr} (h : ∀ q ∈ l, P q → Q q) : cz P l ≤ cz Q l := by
  induction l with
  | nil => exact Nat.le_refl _
  | cons q l ih =>
    have ih := ih (fun z hz => h z (List.mem_cons_of_mem _ hz))
    rw [cz, cz]
    by_cases c : P q
    · rw [if_pos c, if_pos (h q List.mem_cons_self c)]; omega
    · rw [if_neg c]; split <;> omega
theorem cz_lt {P Q : Tr → Prop} [DecidablePred P] [DecidablePred Q] {l : List Tr} (h : ∀ q ∈ l, P q → Q q) {q : Tr} (hq : q ∈ l) (h1 : Q q) (h2 : ¬ P q) : cz P l < cz Q l := by
  induction l with
  | nil => exact absurd hq List.not_mem_nil
  | cons p l ih =>
    have hm := cz_mono (fun z hz => h z (List.mem_cons_of_mem _ hz))
    rw [cz, cz]
    rcases List.mem_cons.mp hq with e | e
    · subst e
      rw [if_neg h2, if_pos h1]; omega
    · have ih := ih (fun z hz => h z (List.mem_cons_of_mem _ hz)) e
      by_cases c : P p
      · rw [if_pos c, if_pos (h p List.mem_cons_self c)]; omega
      · rw [if_neg c]; split <;> omega
theorem cz_pos {P : Tr → Prop} [DecidablePred P] {l : List Tr} {q : Tr} (hq : q ∈ l) (h : P q) : 0 < cz P l := by
  have := cz_lt (P := fun _ => False) (Q := P) (l := l) (fun _ _ z => z.elim) hq h (fun z => z)
  omega
def cv (m : Int32) (l : List Tr) (z : Int) : Prop := ∃ q ∈ l, q.1 = m ∧ q.2.1.toInt ≤ z ∧ z ≤ q.2.2.toInt
def bfF (m : Int32) (x : Int32) (q : Tr) : Int32 := if q.1 = m then (if ¬ x < q.2.1 ∧ ¬ q.2.2 < x then q.2.2 + 1 else x) else x
def bfN (m : Int32) (l : List Tr) : Nat → Int32 → Int32
  | 0, x => x
  | n + 1, x => if l.foldl (bfF m) x = x then x else bfN m l n (l.foldl (bfF m) x)
def bf (m : Int32) (l : List Tr) (x : Int32) : Int32 := bfN m l l.length x
theorem bf20_loop {N : Nat} {v : Rg} {l : List Tr} (h : isL N v l) (m : Int32) (k : Int32 → Int32 → Option Int32) : ∀ (n i : Nat) (x : Int32), i ≤ l.length → l.length < i + n → fX4_bareFrom_20 N v m n k x (nI i) = k ((l.drop i).foldl (bfF m) x) (nI l.length) := by
  have hb : l.length < 2 ^ 30 := h.b
  intro n
  induction n with
  | zero => intro i x h1 h2; omega
  | succ n ih =>
    intro i x hi hn
    rw [fX4_bareFrom_20]
    simp only [h.n]
    by_cases c : i = l.length
    · rw [if_pos ((nI_geI (by omega) (by omega) hi).mpr c)]
      subst c
      rw [List.drop_length]; rfl
    · have hlt : i < l.length := by omega
      rw [if_neg (fun z => c ((nI_geI (by omega) (by omega) hi).mp z))]
      have ih := fun x => ih (i + 1) x (by omega) (by omega)
      simp only [h.m hlt, e_includes h hlt, h.l hlt, ob, i01, nI_1, ih]
      rw [List.drop_eq_getElem_cons hlt, List.foldl_cons, bfF]; (repeat' split) <;> rfl
theorem bf5_loop {N : Nat} {v : Rg} {l : List Tr} (h : isL N v l) (hN : N < 6000) (m : Int32) : ∀ (n i : Nat) (x : Int32), i ≤ l.length → l.length < i + n → fX4_bareFrom_5 N v m n (fun x _ => some x) x (nI i) = some (bfN m l (l.length - i) x) := by
  have hb := h.b
  have h1 := h.1
  have hp := fun k x => bf20_loop h m k FU 0 x (Nat.zero_le _) (FU_gt (by omega))
  simp only [nI_0, List.drop_zero] at hp
  intro n
  induction n with
  | zero => intro i x h1 h2; omega
  | succ n ih =>
    intro i x hi hn
    rw [fX4_bareFrom_5, h.n]
    by_cases c : i = l.length
    · rw [if_pos ((nI_geI (by omega) (by omega) hi).mpr c), c, Nat.sub_self]; rfl
    · rw [if_neg (fun z => c ((nI_geI (by omega) (by omega) hi).mp z)), hp, nI_1, ih (i + 1) _ (by omega) (by omega), show l.length - i = (l.length - (i + 1)) + 1 by omega, bfN]
      by_cases c2 : l.foldl (bfF m) x = x
      · rw [if_pos c2, if_pos c2, c2]
      · rw [if_neg c2, if_neg c2]
theorem e_bareFrom {N : Nat} {v : Rg} {l : List Tr} (h : isL N v l) (hN : N < 6000) (m x : Int32) : fX4_bareFrom N v m x = some (bf m l x) := by
  have h1 := h.1
  unfold fX4_bareFrom bf
  have := bf5_loop h hN m FU 0 x (Nat.zero_le _) (FU_gt (by omega))
  rw [nI_0, Nat.sub_zero] at this
  exact this
theorem pass_spec {m : Int32} {L l : List Tr} (hr : okR l) (hs : ∀ q ∈ l, q ∈ L) : ∀ x : Int32, 1 ≤ x.toInt → x.toInt ≤ 2000000001 → x.toInt ≤ (l.foldl (bfF m) x).toInt ∧ (l.foldl (bfF m) x).toInt ≤ 2000000001 ∧ (∀ z, x.toInt ≤ z → z < (l.foldl (bfF m) x).toInt → cv m L z) ∧ (l.foldl (bfF m) x = x → ∀ q ∈ l, q.1 = m → ¬ (q.2.1.toInt ≤ x.toInt ∧ x.toInt ≤ q.2.2.toInt)) ∧ (l.foldl (bfF m) x ≠ x → ∃ q ∈ l, q.1 = m ∧ x.toInt ≤ q.2.2.toInt ∧ q.2.2.toInt < (l.foldl (bfF m) x).toInt) := by
  induction l with
  | nil => intro x h0 h1; exact ⟨Int.le_refl _, h1, fun z a b => by have : z < x.toInt := b; omega, fun _ q hq => absurd hq List.not_mem_nil, fun h => absurd rfl h⟩
  | cons p l ih =>
    intro x h0 h1
    have ih := ih hr.t (fun q hq => hs q (List.mem_cons_of_mem _ hq))
    have hp := hr.h
    have ep : (p.2.2 + 1).toInt = p.2.2.toInt + 1 := toI_1 (by omega) (by omega)
    rw [List.foldl_cons]
    by_cases c : p.1 = m ∧ (¬ x < p.2.1 ∧ ¬ p.2.2 < x)
    · have e : bfF m x p = p.2.2 + 1 := by unfold bfF; rw [if_pos c.1, if_pos c.2]
      have c2 := c.2
      rw [i32lt, i32lt] at c2
      rw [e]
      obtain ⟨i1, i2, i3, i4, i5⟩ := ih (p.2.2 + 1) (by omega) (by omega)
      refine ⟨by omega, i2, fun z a b => ?_, fun h => ?_, fun _ => ⟨p, List.mem_cons_self, c.1, by omega, by omega⟩⟩
      · by_cases d : z ≤ p.2.2.toInt
        · exact ⟨p, hs p List.mem_cons_self, c.1, by omega, d⟩
        · exact i3 z (by omega) b
      · rw [h] at i1; omega
    · have e : bfF m x p = x := by
        unfold bfF
        by_cases d : p.1 = m
        · rw [if_pos d, if_neg (fun z => c ⟨d, z⟩)]
        · rw [if_neg d]
      rw [e]
      obtain ⟨i1, i2, i3, i4, i5⟩ := ih x h0 h1
      refine ⟨i1, i2, i3, fun h q hq hm => ?_, fun h => ?_⟩
      · rcases List.mem_cons.mp hq with y | y
        · subst y
          intro z
          refine c ⟨hm, ?_⟩
          rw [i32lt, i32lt]; omega
        · exact i4 h q y hm
      · obtain ⟨q, hq, a⟩ := i5 h
        exact ⟨q, List.mem_cons_of_mem _ hq, a⟩
theorem bfN_spec {m : Int32} {l : List Tr} (hr : okR l) : ∀ (n : Nat) (x : Int32), 1 ≤ x.toInt → x.toInt ≤ 2000000001 → cz (fun q => q.1 = m ∧ x.toInt ≤ q.2.2.toInt) l ≤ n → x.toInt ≤ (bfN m l n x).toInt ∧ (bfN m l n x).toInt ≤ 2000000001 ∧ (∀ z, x.toInt ≤ z → z < (bfN m l n x).toInt → cv m l z) ∧ ¬ cv m l (bfN m l n x).toInt := by
  intro n
  induction n with
  | zero =>
    intro x h0 h1 hc
    refine ⟨Int.le_refl _, h1, fun z a b => by have : z < x.toInt := b; omega, ?_⟩
    rintro ⟨q, hq, a1, a2, a3⟩
    have := cz_pos (P := fun q => q.1 = m ∧ x.toInt ≤ q.2.2.toInt) hq ⟨a1, a3⟩
    omega
  | succ n ih =>
    intro x h0 h1 hc
    obtain ⟨i1, i2, i3, i4, i5⟩ := pass_spec (m := m) hr (fun q hq => hq) x h0 h1
    rw [bfN]
    by_cases c : l.foldl (bfF m) x = x
    · rw [if_pos c]
      refine ⟨Int.le_refl _, h1, fun z a b => by omega, ?_⟩
      rintro ⟨q, hq, a1, a2, a3⟩
      exact i4 c q hq a1 ⟨a2, a3⟩
    · rw [if_neg c]
      obtain ⟨q, hq, b1, b2, b3⟩ := i5 c
      have := cz_lt (P := fun q => q.1 = m ∧ (l.foldl (bfF m) x).toInt ≤ q.2.2.toInt) (Q := fun q => q.1 = m ∧ x.toInt ≤ q.2.2.toInt) (l := l) (fun z _ h => ⟨h.1, by have := h.2; omega⟩) hq ⟨b1, b2⟩ (fun z => by have := z.2; omega)
      obtain ⟨j1, j2, j3, j4⟩ := ih (l.foldl (bfF m) x) (by omega) i2 (by omega)
      refine ⟨by omega, j2, fun z a b => ?_, j4⟩
      by_cases d : z < (l.foldl (bfF m) x).toInt
      · exact i3 z a d
      · exact j3 z (by omega) b
theorem bf_spec {m : Int32} {l : List Tr} (hr : okR l) {x : Int32} (h0 : 1 ≤ x.toInt) (h1 : x.toInt ≤ 2000000001) : x.toInt ≤ (bf m l x).toInt ∧ (bf m l x).toInt ≤ 2000000001 ∧ (∀ z, x.toInt ≤ z → z < (bf m l x).toInt → cv m l z) ∧ ¬ cv m l (bf m l x).toInt := bfN_spec hr l.length x h0 h1 cz_le
theorem bf_eq {m : Int32} {l : List Tr} (hr : okR l) {x y : Int32} (h0 : 1 ≤ x.toInt) (hxy : x.toInt ≤ y.toInt) (h1 : y.toInt ≤ 2000000001) (hc : ∀ z, x.toInt ≤ z → z < y.toInt → cv m l z) : bf m l x = bf m l y := by
  obtain ⟨a1, a2, a3, a4⟩ := bf_spec (m := m) hr h0 (show x.toInt ≤ 2000000001 by omega)
  obtain ⟨b1, b2, b3, b4⟩ := bf_spec (m := m) hr (show 1 ≤ y.toInt by omega) h1
  rw [i32eq]
  have c1 : y.toInt ≤ (bf m l x).toInt := by
    by_cases d : (bf m l x).toInt < y.toInt
    · exact absurd (hc _ a1 d) a4
    · omega
  by_cases d1 : (bf m l x).toInt < (bf m l y).toInt
  · exact absurd (b3 _ c1 d1) a4
  · by_cases d2 : (bf m l y).toInt < (bf m l x).toInt
    · exact absurd (a3 _ (by omega) d2) b4
    · omega
theorem bf_self {m : Int32} {l : List Tr} (hr : okR l) {x : Int32} (h0 : 1 ≤ x.toInt) (h1 : x.toInt ≤ 2000000001) (h : ¬ cv m l x.toInt) : bf m l x = x := by
  obtain ⟨a1, a2, a3, a4⟩ := bf_spec (m := m) hr h0 h1
  rw [i32eq]
  by_cases d : x.toInt < (bf m l x).toInt
  · exact absurd (a3 _ (Int.le_refl _) d) h
  · omega
/-! up to where -/
def btF (m a : Int32) (e : Int32) (q : Tr) : Int32 := if q.1 = m then (if q.2.1 ≤ a then e else imin e (q.2.1 - 1)) else e
def bt (m : Int32) (l : List Tr) (a b : Int32) : Int32 := l.foldl (btF m a) b
theorem bt6_loop {N : Nat} {v : Rg} {l : List Tr} (h : isL N v l) (hr : okR l) (m a : Int32) (k : Int32 → Int32 → Option Int32) : ∀ (n i : Nat) (e : Int32), i ≤ l.length → l.length < i + n → fX4_bareTo_6 N v m a n k e (nI i) = k ((l.drop i).foldl (btF m a) e) (nI l.length) := by
  have hb := h.b
  intro n
  induction n with
  | zero => intro i e h1 h2; omega
  | succ n ih =>
    intro i e hi hn
    rw [fX4_bareTo_6, h.n]
    by_cases c : i = l.length
    · rw [if_pos ((nI_geI (by omega) (by omega) hi).mpr c), c, List.drop_length]; rfl
    · have hlt : i < l.length := by omega
      have hq := hr.i (List.getElem_mem hlt)
      have ef : ((l[i]).2.1 - 1).toInt = (l[i]).2.1.toInt - 1 := toI_m1 (by omega) (by omega)
      rw [if_neg (fun z => c ((nI_geI (by omega) (by omega) hi).mp z)), h.m hlt, ob, h.f hlt, nI_1]
      simp only [ob]
      rw [ih (i + 1) _ (by omega) (by omega), ih (i + 1) _ (by omega) (by omega), List.drop_eq_getElem_cons hlt, List.foldl_cons]
      unfold btF
      by_cases c1 : (l[i]).1 = m
      · rw [if_pos c1, if_pos c1]
        by_cases c2 : (l[i]).2.1 ≤ a
        · rw [if_pos c2, if_pos c2]
        · rw [if_neg c2, if_neg c2]
          unfold imin
          by_cases c3 : e < (l[i]).2.1
          · rw [if_pos c3, if_neg (by rw [i32lt] at c3 ⊢; omega)]
          · rw [if_neg c3, if_pos (by rw [i32lt] at c3 ⊢; omega)]
      · rw [if_neg c1, if_neg c1]
theorem e_bareTo {N : Nat} {v : Rg} {l : List Tr} (h : isL N v l) (hN : N < 6000) (hr : okR l) (m a b : Int32) : fX4_bareTo N v m a b = some (bt m l a b) := by
  have h1 := h.1
  unfold fX4_bareTo bt
  have := bt6_loop h hr m a (fun x _ => some x) FU 0 b (Nat.zero_le _) (FU_gt (by omega))
  rw [nI_0, List.drop_zero] at this
  exact this
theorem bt_spec {m a : Int32} {l : List Tr} (hr : okR l) : ∀ e : Int32, a.toInt ≤ e.toInt → a.toInt ≤ (l.foldl (btF m a) e).toInt ∧ (l.foldl (btF m a) e).toInt ≤ e.toInt ∧ (∀ q ∈ l, q.1 = m → a.toInt < q.2.1.toInt → (l.foldl (btF m a) e).toInt < q.2.1.toInt) ∧ (l.foldl (btF m a) e = e ∨ ∃ q ∈ l, q.1 = m ∧ a.toInt < q.2.1.toInt ∧ (l.foldl (btF m a) e).toInt = q.2.1.toInt - 1) := by
  induction l with
  | nil => intro e h; exact ⟨h, Int.le_refl _, fun q hq => absurd hq List.not_mem_nil, Or.inl rfl⟩
  | cons p l ih =>
    intro e h
    have hp := hr.h
    have ef : (p.2.1 - 1).toInt = p.2.1.toInt - 1 := toI_m1 (by omega) (by omega)
    rw [List.foldl_cons]
    by_cases c : p.1 = m ∧ ¬ p.2.1 ≤ a
    · have ee : btF m a e p = imin e (p.2.1 - 1) := by unfold btF; rw [if_pos c.1, if_neg c.2]
      have c2 := c.2
      rw [i32le] at c2
      have ei := @imin_i e (p.2.1 - 1)
      rw [ee]
      obtain ⟨i1, i2, i3, i4⟩ := ih hr.t (imin e (p.2.1 - 1)) (by omega)
      refine ⟨i1, by omega, fun q hq hm ha => ?_, ?_⟩
      · rcases List.mem_cons.mp hq with y | y
        · subst y; omega
        · exact i3 q y hm ha
      · rcases i4 with y | ⟨q, hq, y⟩
        · rw [y]
          unfold imin
          by_cases d : p.2.1 - 1 < e
          · rw [if_pos d]; exact Or.inr ⟨p, List.mem_cons_self, c.1, by omega, ef⟩
          · rw [if_neg d]; exact Or.inl rfl
        · exact Or.inr ⟨q, List.mem_cons_of_mem _ hq, y⟩
    · have ee : btF m a e p = e := by
        unfold btF
        by_cases d : p.1 = m
        · rw [if_pos d, if_pos (Decidable.byContradiction (fun z => c ⟨d, z⟩))]
        · rw [if_neg d]
      rw [ee]
      obtain ⟨i1, i2, i3, i4⟩ := ih hr.t e h
      refine ⟨i1, i2, fun q hq hm ha => ?_, ?_⟩
      · rcases List.mem_cons.mp hq with y | y
        · subst y
          exfalso
          refine c ⟨hm, ?_⟩
          rw [i32le]; omega
        · exact i3 q y hm ha
      · rcases i4 with y | ⟨q, hq, y⟩
        · exact Or.inl y
        · exact Or.inr ⟨q, List.mem_cons_of_mem _ hq, y⟩
/-! runs of bare sheets -/
def rn (m : Int32) (l : List Tr) (b : Int32) : Nat → Int32 → List (Int32 × Int32)
  | 0, _ => []
  | n + 1, x => if b < x then [] else (x, bt m l x b) :: rn m l b n (bf m l (bt m l x b + 1))
theorem rn_nil {m : Int32} {l : List Tr} {b : Int32} {n : Nat} {x : Int32} (h : b.toInt < x.toInt) : rn m l b n x = [] := by
  cases n with
  | zero => rfl
  | succ n => rw [rn, if_pos (by rw [i32lt]; exact h)]
/-- rows that begin behind -/
def fz (m : Int32) (l : List Tr) (x : Int) : Nat := cz (fun q => q.1 = m ∧ x < q.2.1.toInt) l
def meas (m : Int32) (l : List Tr) (b x : Int) : Nat := cz (fun q => q.1 = m ∧ x ≤ q.2.2.toInt) l + fz m l x + if x ≤ b then 1 else 0
theorem fz_mono {m : Int32} {l : List Tr} {x y : Int} (h : x ≤ y) : fz m l y ≤ fz m l x := cz_mono (fun q _ z => ⟨z.1, by have := z.2; omega⟩)
theorem lz_mono {m : Int32} {l : List Tr} {x y : Int} (h : x ≤ y) : cz (fun q => q.1 = m ∧ y ≤ q.2.2.toInt) l ≤ cz (fun q => q.1 = m ∧ x ≤ q.2.2.toInt) l := cz_mono (fun q _ z => ⟨z.1, by have := z.2; omega⟩)
/-- behind a run: what is to come -/
theorem run_next {m : Int32} {l : List Tr} (hr : okR l) {b x : Int32} (h0 : 1 ≤ x.toInt) (hxb : x.toInt ≤ b.toInt) (hb : b.toInt ≤ 2000000000) : x.toInt ≤ (bt m l x b).toInt ∧ (bt m l x b).toInt ≤ b.toInt ∧ (bt m l x b + 1).toInt = (bt m l x b).toInt + 1 ∧ (fz m l (bf m l (bt m l x b + 1)).toInt < fz m l x.toInt ∨ b.toInt < (bf m l (bt m l x b + 1)).toInt) ∧ meas m l b.toInt (bt m l x b + 1).toInt < meas m l b.toInt x.toInt := by
  obtain ⟨i1, i2, i3, i4⟩ := bt_spec (m := m) (a := x) hr b hxb
  have i1 : x.toInt ≤ (bt m l x b).toInt := i1
  have i2 : (bt m l x b).toInt ≤ b.toInt := i2
  have e1 : (bt m l x b + 1).toInt = (bt m l x b).toInt + 1 := toI_1 (by omega) (by omega)
  obtain ⟨a1, a2, a3, a4⟩ := bf_spec (m := m) hr (show 1 ≤ (bt m l x b + 1).toInt by omega) (show (bt m l x b + 1).toInt ≤ 2000000001 by omega)
  have m1 := lz_mono (m := m) (l := l) (show x.toInt ≤ (bt m l x b + 1).toInt by omega)
  have m2 := fz_mono (m := m) (l := l) (show x.toInt ≤ (bt m l x b + 1).toInt by omega)
  refine ⟨i1, i2, e1, ?_, ?_⟩
  · rcases i4 with y | ⟨q, hq, y1, y2, y3⟩
    · right
      have : (bt m l x b).toInt = b.toInt := by rw [show bt m l x b = b from y]
      omega
    · left
      have y3 : (bt m l x b).toInt = q.2.1.toInt - 1 := y3
      have hqr := hr.i hq
      refine cz_lt (fun z _ h => ⟨h.1, by have := h.2; omega⟩) hq ⟨y1, y2⟩ (fun z => ?_)
      have z2 := z.2
      exact absurd (show cv m l (bf m l (bt m l x b + 1)).toInt from ⟨q, hq, y1, by omega, by omega⟩) a4
  · unfold meas
    rw [if_pos hxb]
    rcases i4 with y | ⟨q, hq, y1, y2, y3⟩
    · have : (bt m l x b).toInt = b.toInt := by rw [show bt m l x b = b from y]
      rw [if_neg (show ¬ (bt m l x b + 1).toInt ≤ b.toInt by omega)]
      omega
    · have y3 : (bt m l x b).toInt = q.2.1.toInt - 1 := y3
      have : fz m l (bt m l x b + 1).toInt < fz m l x.toInt := cz_lt (fun z _ h => ⟨h.1, by have := h.2; omega⟩) hq ⟨y1, y2⟩ (fun z => by have := z.2; omega)
      split <;> omega
/-- a row that holds the sheet is passed -/
theorem over_next {m : Int32} {l : List Tr} (hr : okR l) {b x o : Int32} (h0 : 1 ≤ x.toInt) {q : Tr} (hq : q ∈ l) (hm : q.1 = m) (h1 : q.2.1.toInt ≤ x.toInt) (h2 : x.toInt ≤ q.2.2.toInt) (ho : q.2.2 = o) : (o + 1).toInt = o.toInt + 1 ∧ x.toInt ≤ o.toInt ∧ o.toInt ≤ 2000000000 ∧ bf m l (o + 1) = bf m l x ∧ meas m l b.toInt (o + 1).toInt < meas m l b.toInt x.toInt := by
  have hqr := hr.i hq
  subst ho
  have e1 : (q.2.2 + 1).toInt = q.2.2.toInt + 1 := toI_1 (by omega) (by omega)
  refine ⟨e1, h2, hqr.2.2, ?_, ?_⟩
  · refine (bf_eq hr h0 (by omega) (by omega) (fun z a b => ?_)).symm
    exact ⟨q, hq, hm, by omega, by omega⟩
  · have m2 := fz_mono (m := m) (l := l) (show x.toInt ≤ (q.2.2 + 1).toInt by omega)
    have : cz (fun q => q.1 = m ∧ (q.2.2.toInt + 1) ≤ q.2.2.toInt) l = cz (fun q => q.1 = m ∧ (q.2.2.toInt + 1) ≤ q.2.2.toInt) l := rfl
    have m1 : cz (fun z => z.1 = m ∧ (q.2.2 + 1).toInt ≤ z.2.2.toInt) l < cz (fun z => z.1 = m ∧ x.toInt ≤ z.2.2.toInt) l := cz_lt (fun z _ h => ⟨h.1, by have := h.2; omega⟩) hq ⟨hm, h2⟩ (fun z => by have := z.2; omega)
    unfold meas
    split <;> split <;> omega
theorem meas_le {m : Int32} {l : List Tr} {b x : Int} : meas m l b x ≤ 2 * l.length + 1 := by
  unfold meas fz
  have h1 := @cz_le (fun q => q.1 = m ∧ x ≤ q.2.2.toInt) _ l
  have h2 := @cz_le (fun q => q.1 = m ∧ x < q.2.1.toInt) _ l
  split <;> omega
theorem fz_le {m : Int32} {l : List Tr} {x : Int} : fz m l x ≤ l.length := cz_le
/-! unlisted -/
def sumR : List (Int32 × Int32) → Int32
  | [] => 0
  | p :: r => (p.2 - p.1 + 1) + sumR r
theorem bs14_loop {N : Nat} {v : Rg} {l : List Tr} (h : isL N v l) (hN : N < 5000) (hr : okR l) (m b : Int32) : ∀ (n i : Nat) (acc x : Int32), i ≤ l.length + 1 → l.length + 1 < i + n → fX4_bareSheets_14 N v m b n (fun x4 _ _ => some x4) acc x (nI i) = some (acc + sumR (rn m l b (l.length + 1 - i) x)) := by
  have hb := h.b
  have h1 := h.1
  intro n
  induction n with
  | zero => intro i acc x h1 h2; omega
  | succ n ih =>
    intro i acc x hi hn
    rw [fX4_bareSheets_14, h.n]
    by_cases c : i = l.length + 1
    · rw [if_pos (nI_lt (by omega) (by omega)), c, Nat.sub_self, rn, sumR, Int32.add_zero]
    · rw [if_neg (nI_nlt (by omega) (by omega)), e_bareTo h (by omega) hr, ob, e_bareFrom h (by omega), ob, nI_1, ih (i + 1) _ _ (by omega) (by omega), show l.length + 1 - i = (l.length + 1 - (i + 1)) + 1 by omega, rn]
      by_cases c2 : b < x
      · rw [if_pos c2, if_pos c2, sumR, Int32.add_zero]
      · rw [if_neg c2, if_neg c2, sumR]
        congr 1
        exact Int32.add_assoc _ _ _
theorem e_bareSheets {N : Nat} {v : Rg} {l : List Tr} (h : isL N v l) (hN : N < 5000) (hr : okR l) (m a b : Int32) : fX4_bareSheets N v m a b = some (sumR (rn m l b (l.length + 1) (bf m l a))) := by
  have h1 := h.1
  unfold fX4_bareSheets
  have := bs14_loop h hN hr m b FU 0 0 (bf m l a) (Nat.zero_le _) (by unfold FU; omega)
  rw [nI_0, Nat.sub_zero, Int32.zero_add] at this
  rw [e_bareFrom h (by omega), ob]
  exact this
/-- the reference's look over the rows -/
def ovR (m x : Int32) (o : Int32) (q : Tr) : Int32 := if q.1 = m then (if ¬ x < q.2.1 ∧ ¬ q.2.2 < x then imax o q.2.2 else o) else o
theorem bare21_loop {l : List Tr} {rows : Rg} {list : Nat → Int32} {listed : Int32} (h : rowsR l rows list listed) (m x : Int32) (k : Int32 → Int32 → Int32 → Option Int32) : ∀ (n i : Nat) (e o : Int32), i ≤ l.length → l.length < i + n → fX8_bare_21 list listed m x n k e o (nI i) = k ((l.drop i).foldl (btF m x) e) ((l.drop i).foldl (ovR m x) o) (nI l.length) := by
  have hb := h.1.b
  intro n
  induction n with
  | zero => intro i e o h1 h2; omega
  | succ n ih =>
    intro i e o hi hn
    rw [fX8_bare_21, h.2.1]
    by_cases c : i = l.length
    · rw [if_pos ((nI_geI (by omega) (by omega) hi).mpr c), c, List.drop_length]; rfl
    · have hlt : i < l.length := by omega
      have hd := h.ld hlt
      rw [if_neg (fun z => c ((nI_geI (by omega) (by omega) hi).mp z)), hd.1, hd.2.1, hd.2.2, nI_1]
      have ih := fun e o => ih (i + 1) e o (by omega) (by omega)
      rw [h.2.1] at ih
      simp only [ob, e8_in32, hs_if, i01, e8_lesser, e8_greater, ih]
      rw [List.drop_eq_getElem_cons hlt, List.foldl_cons, List.foldl_cons, btF, ovR]
      (repeat' split) <;> rfl
theorem ovR_spec {m x : Int32} {l : List Tr} (hr : okR l) : ∀ o : Int32, (o = -1 ∨ 0 ≤ o.toInt) → (l.foldl (ovR m x) o = o ∧ ∀ q ∈ l, q.1 = m → ¬ (¬ x < q.2.1 ∧ ¬ q.2.2 < x)) ∨ (0 ≤ (l.foldl (ovR m x) o).toInt ∧ (l.foldl (ovR m x) o = o ∨ ∃ q ∈ l, q.1 = m ∧ (¬ x < q.2.1 ∧ ¬ q.2.2 < x) ∧ q.2.2 = l.foldl (ovR m x) o)) := by
  induction l with
  | nil => intro o h; exact Or.inl ⟨rfl, fun q hq => absurd hq List.not_mem_nil⟩
  | cons p l ih =>
    intro o h
    have hp := hr.h
    rw [List.foldl_cons]
    by_cases c : p.1 = m ∧ (¬ x < p.2.1 ∧ ¬ p.2.2 < x)
    · have e : ovR m x o p = imax o p.2.2 := by unfold ovR; rw [if_pos c.1, if_pos c.2]
      have ei := @imax_i o p.2.2
      rw [e]
      have hx : imax o p.2.2 = o ∨ imax o p.2.2 = p.2.2 := by
        unfold imax
        split
        · exact Or.inr rfl
        · exact Or.inl rfl
      right
      rcases ih hr.t (imax o p.2.2) (Or.inr (by omega)) with ⟨a1, a2⟩ | ⟨a1, a2⟩
      · rw [a1]
        refine ⟨by omega, ?_⟩
        rcases hx with y | y
        · exact Or.inl y
        · exact Or.inr ⟨p, List.mem_cons_self, c.1, c.2, y.symm⟩
      · refine ⟨a1, ?_⟩
        rcases a2 with y | ⟨q, hq, y⟩
        · rw [y]
          rcases hx with z | z
          · exact Or.inl z
          · exact Or.inr ⟨p, List.mem_cons_self, c.1, c.2, z.symm⟩
        · exact Or.inr ⟨q, List.mem_cons_of_mem _ hq, y⟩
    · have e : ovR m x o p = o := by
        unfold ovR
        by_cases d : p.1 = m
        · rw [if_pos d, if_neg (fun z => c ⟨d, z⟩)]
        · rw [if_neg d]
      rw [e]
      rcases ih hr.t o h with ⟨a1, a2⟩ | ⟨a1, a2⟩
      · refine Or.inl ⟨a1, fun q hq hm => ?_⟩
        rcases List.mem_cons.mp hq with y | y
        · subst y; exact fun z => c ⟨hm, z⟩
        · exact a2 q y hm
      · refine Or.inr ⟨a1, ?_⟩
        rcases a2 with y | ⟨q, hq, y⟩
        · exact Or.inl y
        · exact Or.inr ⟨q, List.mem_cons_of_mem _ hq, y⟩
theorem nn_m1 {x : Int32} (h : 0 ≤ x.toInt) : ¬ x = -1 := fun e => by rw [e, tm1] at h; omega
theorem bare6_loop {l : List Tr} {rows : Rg} {list : Nat → Int32} {listed : Int32} (h : rowsR l rows list listed) (m : Int32) {b : Int32} (hb : b.toInt ≤ 2000000000) : ∀ (n F : Nat) (acc x : Int32), 1 ≤ x.toInt → x.toInt ≤ 2000000001 → meas m l b.toInt x.toInt < n → (fz m l (bf m l x).toInt < F ∨ b.toInt < (bf m l x).toInt) → fX8_bare_6 list listed m b n (fun x4 _ => some x4) acc x = some (acc + sumR (rn m l b F (bf m l x))) := by
  have hr := h.2.2.1
  have hl := h.1.1
  intro n
  induction n with
  | zero => intro F acc x h0 h1 hm; omega
  | succ n ih =>
    intro F acc x h0 h1 hm hF
    obtain ⟨a1, a2, a3, a4⟩ := bf_spec (m := m) hr h0 h1
    have hlp := fun k => bare21_loop h m x k FU 0 b (-1) (Nat.zero_le _) (FU_gt (by omega))
    simp only [nI_0, List.drop_zero] at hlp
    rw [fX8_bare_6]
    by_cases c : b < x
    · rw [if_pos c]
      rw [i32lt] at c
      rw [rn_nil (by omega), sumR, Int32.add_zero]
    · rw [if_neg c, hlp]
      rw [i32lt] at c
      rcases ovR_spec (m := m) (x := x) hr (-1) (Or.inl rfl) with ⟨c1, c2⟩ | ⟨c1, c2⟩
      · rw [c1, if_pos rfl, if_pos rfl]
        have hbare : ¬ cv m l x.toInt := by
          rintro ⟨q, hq, y1, y2, y3⟩
          refine c2 q hq y1 ?_
          rw [i32lt, i32lt]; omega
        have ebf := bf_self hr h0 h1 hbare
        obtain ⟨r1, r2, r3, r4, r5⟩ := run_next (m := m) hr h0 (show x.toInt ≤ b.toInt by omega) hb
        rw [ebf] at hF ⊢
        obtain ⟨F, rfl⟩ : ∃ k, F = k + 1 := ⟨F - 1, by omega⟩
        rw [rn, if_neg (by rw [i32lt]; omega), sumR]
        show fX8_bare_6 list listed m b n _ (acc + (bt m l x b - x + 1)) (bt m l x b + 1) = _
        rw [ih F _ _ (by omega) (by omega) (by omega) (by omega)]
        congr 1
        exact Int32.add_assoc _ _ _
      · rw [if_neg (nn_m1 c1), if_neg (nn_m1 c1), Int32.add_zero]
        rcases c2 with y | ⟨q, hq, y1, y2, y3⟩
        · rw [y, tm1] at c1; omega
        · rw [i32lt, i32lt] at y2
          obtain ⟨o1, o2, o3, o4, o5⟩ := over_next (b := b) hr h0 hq y1 (by omega) (by omega) y3
          rw [ih F acc _ (by omega) (by omega) (by omega) (by rw [o4]; exact hF), o4]
theorem e8_bare {l : List Tr} {rows : Rg} {list : Nat → Int32} {listed : Int32} (h : rowsR l rows list listed) (m : Int32) {a b : Int32} (ha : 1 ≤ a.toInt) (ha2 : a.toInt ≤ 2000000001) (hb : b.toInt ≤ 2000000000) : fX8_bare list listed m a b = some (sumR (rn m l b (l.length + 1) (bf m l a))) := by
  have h1 := h.1.1
  have hm := @meas_le m l b.toInt a.toInt
  have hz := @fz_le m l (bf m l a).toInt
  unfold fX8_bare
  rw [bare6_loop h m hb FU (l.length + 1) 0 a ha ha2 (by unfold FU; omega) (Or.inl (by omega)), Int32.zero_add]
theorem unl_loop {g : Nat → Int32} {w : Rg} {P : List Tr} (hp : isL 42 w P) (hq : isP g P) (hP : okR P) {l : List Tr} {rows : Rg} {list : Nat → Int32} {listed : Int32} (h : rowsR l rows list listed) (x1 : Int32) : ∀ (n i : Nat) (acc : Int32), i ≤ P.length → P.length < i + n → ∃ r, fX7_unlisted_23 w rows x1 n (fun x _ => some x) acc (nI i) = some r ∧ fX8_unlisted_14 g list listed x1 n (fun x _ => some x) acc (nI i) = some r := by
  have hb := hp.b
  intro n
  induction n with
  | zero => intro i acc h1 h2; omega
  | succ n ih =>
    intro i acc hi hn
    rw [fX7_unlisted_23, fX8_unlisted_14, e_size hp, hq.c]
    simp only [ob]
    by_cases c : i = P.length
    · have := (nI_geI (show P.length < 2 ^ 31 by omega) (by omega) hi).mpr c
      exact ⟨acc, if_pos this, if_pos this⟩
    · have hlt : i < P.length := by omega
      have := fun z => c ((nI_geI (show P.length < 2 ^ 31 by omega) (show i < 2 ^ 31 by omega) hi).mp z)
      have hqi := hP.i (List.getElem_mem hlt)
      have ih := fun acc => ih (i + 1) acc (by omega) (by omega)
      rw [if_neg this, if_neg this, e_markOf_in hp hlt, hq.m hlt, e_firstOf_in hp hlt, e_lastOf_in hp hlt, hq.f hlt, hq.l hlt, nI_1]
      simp only [ob]
      rw [e_bareSheets h.1 (by decide) h.2.2.1, e8_bare h x1 (by omega) (by omega) (by omega), ob, ob, Int32.add_zero]
      by_cases z : (P[i]).1 = x1
      · rw [if_pos z, if_pos z]; exact ih _
      · rw [if_neg z, if_neg z]; exact ih _
theorem sim_unlisted {D : Int} : S_unlisted (RR D) (RR D) := by
  intro c_archive_rooms c_archive_moveDays c_archive_day c_archive_series c_archive_pieces c_archive_trial c_archive_moves c_history_slots c_history_top c_history_steps c_planner_free c_planner_remaining c_planner_gaps c_planner_layings c_rows c_text_bytes c_text_verbs c_text_numbers c_text_length c_text_commandCount c_text_at c_page_signs c_page_length c_page_latest c_draft_signs c_draft_length c_draft_latest d_row d_undos d_list d_listed d_paper d_papers d_text d_length d_beside d_besides d_gapFirst d_gapLast d_laying d_layings d_free d_first d_behind d_numbers d_clauses d_words d_sorts d_shifted d_saved d_draft d_drafts x1 h
  have hR : RR D (c_archive_rooms, c_archive_moveDays, c_archive_day, c_archive_series, c_archive_pieces, c_archive_trial, c_archive_moves, c_history_slots, c_history_top, c_history_steps, c_planner_free, c_planner_remaining, c_planner_gaps, c_planner_layings, c_rows, c_text_bytes, c_text_verbs, c_text_numbers, c_text_length, c_text_commandCount, c_text_at, c_page_signs, c_page_length, c_page_latest, c_draft_signs, c_draft_length, c_draft_latest) (d_row, d_undos, d_list, d_listed, d_paper, d_papers, d_text, d_length, d_beside, d_besides, d_gapFirst, d_gapLast, d_laying, d_layings, d_free, d_first, d_behind, d_numbers, d_clauses, d_words, d_sorts, d_shifted, d_saved, d_draft, d_drafts) := h
  have h : R0 D c_archive_rooms c_archive_moveDays c_archive_day c_archive_series c_archive_pieces c_archive_moves c_history_slots c_history_top c_history_steps c_planner_gaps c_planner_layings c_rows c_text_bytes c_text_length c_page_signs c_page_length d_row d_undos d_list d_listed d_paper d_papers d_text d_length d_words d_sorts := h
  obtain ⟨⟨A, hs, hA, hC, hM, hH⟩, hZ, ⟨l, hl⟩, hrest⟩ := h
  have hle := hM.2.1.1
  unfold fX7_unlisted fX8_unlisted fX0_pieces
  simp only [e7_isBox, e8_isBox, ob, i01]
  by_cases c : 0 ≤ x1 ∧ x1 ≤ 7
  · simp only [if_pos c]
    obtain ⟨r, e1, e2⟩ := unl_loop hC.2.1 hM.2.1 hA.2.1.1 hl x1 FU 0 0 (Nat.zero_le _) (FU_gt (by omega))
    rw [nI_0] at e1 e2
    exact ⟨r, e1, e2, hR⟩
  · simp only [if_neg c]
    exact ⟨-2, rfl, rfl, hR⟩
