/-! pieces: cutting and joining -/
def srt (l : List Tr) : Prop := l.Pairwise (fun p q => p.2.2.toInt < q.2.1.toInt)
theorem okR.t {p : Tr} {l : List Tr} (h : okR (p :: l)) : okR l := fun z hz => h z (List.mem_cons_of_mem _ hz)
theorem okR.h {p : Tr} {l : List Tr} (h : okR (p :: l)) : 1 ≤ p.2.1.toInt ∧ p.2.1.toInt ≤ p.2.2.toInt ∧ p.2.2.toInt ≤ 2000000000 := h.i List.mem_cons_self
theorem okR_i {l : List Tr} (h : ∀ q ∈ l, 1 ≤ q.2.1.toInt ∧ q.2.1.toInt ≤ q.2.2.toInt ∧ q.2.2.toInt ≤ 2000000000) : okR l := by
  intro q hq
  have := h q hq
  rw [i32le, i32le, i32le, t1, tM]
  exact this
theorem canon_srt {l : List Tr} (hr : okR l) (h : canon l) : srt l := by
  induction l with
  | nil => exact List.Pairwise.nil
  | cons p l ih => exact List.pairwise_cons.mpr ⟨canon_lt hr h, ih hr.t (canon_tail h)⟩
def mg : Tr → List Tr → List Tr
  | p, [] => [p]
  | p, q :: l => if p.1 = q.1 ∧ p.2.2.toInt + 1 = q.2.1.toInt then mg (p.1, p.2.1, q.2.2) l else p :: mg q l
def mgL : List Tr → List Tr
  | [] => []
  | p :: l => mg p l
theorem mg_head (p : Tr) (l : List Tr) : ∃ y t, mg p l = (p.1, p.2.1, y) :: t := by
  induction l generalizing p with
  | nil => exact ⟨p.2.2, [], rfl⟩
  | cons q l ih =>
    rw [mg]
    by_cases c : p.1 = q.1 ∧ p.2.2.toInt + 1 = q.2.1.toInt
    · rw [if_pos c]
      obtain ⟨y, t, e⟩ := ih (p.1, p.2.1, q.2.2)
      exact ⟨y, t, e⟩
    · rw [if_neg c]
      exact ⟨p.2.2, _, rfl⟩
theorem srt_join {p q : Tr} {l : List Tr} (h : srt (p :: q :: l)) : srt ((p.1, p.2.1, q.2.2) :: l) := by
  have h1 := List.pairwise_cons.mp h
  have h2 := List.pairwise_cons.mp h1.2
  exact List.pairwise_cons.mpr ⟨fun z hz => h2.1 z hz, h2.2⟩
theorem okR_join {p q : Tr} {l : List Tr} (h : okR (p :: q :: l)) (hs : srt (p :: q :: l)) : okR ((p.1, p.2.1, q.2.2) :: l) := by
  have h1 := h.h
  have h2 := h.t.h
  have h3 := (List.pairwise_cons.mp hs).1 q List.mem_cons_self
  refine okR_i (fun z hz => ?_)
  rcases List.mem_cons.mp hz with e | e
  · rw [e]; exact ⟨h1.1, by show p.2.1.toInt ≤ q.2.2.toInt; omega, h2.2.2⟩
  · exact h.t.t.i e
theorem mg_canon {p : Tr} {l : List Tr} (h : srt (p :: l)) : canon (mg p l) := by
  induction l generalizing p with
  | nil => trivial
  | cons q l ih =>
    rw [mg]
    by_cases c : p.1 = q.1 ∧ p.2.2.toInt + 1 = q.2.1.toInt
    · rw [if_pos c]
      exact ih (srt_join h)
    · rw [if_neg c]
      have h1 := List.pairwise_cons.mp h
      have := ih h1.2
      obtain ⟨y, t, e⟩ := mg_head q l
      rw [e] at this ⊢
      exact ⟨⟨h1.1 q List.mem_cons_self, c⟩, this⟩
theorem mg_okR {p : Tr} {l : List Tr} (hr : okR (p :: l)) (h : srt (p :: l)) : okR (mg p l) := by
  induction l generalizing p with
  | nil => exact hr
  | cons q l ih =>
    rw [mg]
    by_cases c : p.1 = q.1 ∧ p.2.2.toInt + 1 = q.2.1.toInt
    · rw [if_pos c]
      exact ih (okR_join hr h) (srt_join h)
    · rw [if_neg c]
      have h1 := List.pairwise_cons.mp h
      have := ih hr.t h1.2
      intro z hz
      rcases List.mem_cons.mp hz with e | e
      · rw [e]; exact hr p List.mem_cons_self
      · exact this z e
theorem mg_mark {P : Int32 → Prop} {p : Tr} {l : List Tr} (h : ∀ q ∈ p :: l, P q.1) : ∀ q ∈ mg p l, P q.1 := by
  induction l generalizing p with
  | nil => exact h
  | cons q l ih =>
    rw [mg]
    by_cases c : p.1 = q.1 ∧ p.2.2.toInt + 1 = q.2.1.toInt
    · rw [if_pos c]
      refine ih (fun z hz => ?_)
      rcases List.mem_cons.mp hz with e | e
      · rw [e]; exact h p List.mem_cons_self
      · exact h z (List.mem_cons_of_mem _ (List.mem_cons_of_mem _ e))
    · rw [if_neg c]
      have := ih (fun z hz => h z (List.mem_cons_of_mem _ hz))
      intro z hz
      rcases List.mem_cons.mp hz with e | e
      · rw [e]; exact h p List.mem_cons_self
      · exact this z e
theorem mg_len {p : Tr} {l : List Tr} : (mg p l).length ≤ l.length + 1 := by
  induction l generalizing p with
  | nil => exact Nat.le_refl _
  | cons q l ih =>
    rw [mg]
    by_cases c : p.1 = q.1 ∧ p.2.2.toInt + 1 = q.2.1.toInt
    · rw [if_pos c, List.length_cons]
      have := @ih (p.1, p.2.1, q.2.2)
      omega
    · rw [if_neg c, List.length_cons, List.length_cons]
      have := @ih q
      omega
theorem mg_load {x : Int32} {p : Tr} {l : List Tr} : loadZ x (mg p l) = loadZ x (p :: l) := by
  induction l generalizing p with
  | nil => rfl
  | cons q l ih =>
    rw [mg]
    by_cases c : p.1 = q.1 ∧ p.2.2.toInt + 1 = q.2.1.toInt
    · rw [if_pos c, ih, loadZ, loadZ, loadZ, ← c.1]
      by_cases z : p.1 = x
      · rw [if_pos z, if_pos z, if_pos z]; show q.2.2.toInt - p.2.1.toInt + 1 + loadZ x l = _; omega
      · rw [if_neg z, if_neg z, if_neg z]; omega
    · rw [if_neg c, loadZ, ih]; rfl
theorem mg_plc {x : Int32} {p : Tr} {l : List Tr} (hr : okR (p :: l)) (h : srt (p :: l)) : plc x (mg p l) = plc x (p :: l) := by
  induction l generalizing p with
  | nil => rfl
  | cons q l ih =>
    rw [mg]
    by_cases c : p.1 = q.1 ∧ p.2.2.toInt + 1 = q.2.1.toInt
    · rw [if_pos c, ih (okR_join hr h) (srt_join h), plc, plc, plc, ← c.1]
      have h1 := hr.h
      have h2 := hr.t.h
      have c2 := c.2
      simp only [i32lt]
      by_cases z1 : ¬ x.toInt < p.2.1.toInt ∧ ¬ p.2.2.toInt < x.toInt
      · rw [if_pos z1, if_pos (show ¬ x.toInt < p.2.1.toInt ∧ ¬ q.2.2.toInt < x.toInt by omega)]
      · rw [if_neg z1]
        by_cases z2 : ¬ x.toInt < q.2.1.toInt ∧ ¬ q.2.2.toInt < x.toInt
        · rw [if_pos z2, if_pos (show ¬ x.toInt < p.2.1.toInt ∧ ¬ q.2.2.toInt < x.toInt by omega)]
        · rw [if_neg z2, if_neg (show ¬ (¬ x.toInt < p.2.1.toInt ∧ ¬ q.2.2.toInt < x.toInt) by omega)]
    · rw [if_neg c, plc, ih hr.t (List.pairwise_cons.mp h).2]; rfl
theorem mgL_canon {l : List Tr} (h : srt l) : canon (mgL l) := by
  cases l with
  | nil => trivial
  | cons p l => exact mg_canon h
theorem mgL_okR {l : List Tr} (hr : okR l) (h : srt l) : okR (mgL l) := by
  cases l with
  | nil => exact hr
  | cons p l => exact mg_okR hr h
theorem mgL_mark {P : Int32 → Prop} {l : List Tr} (h : ∀ q ∈ l, P q.1) : ∀ q ∈ mgL l, P q.1 := by
  cases l with
  | nil => exact h
  | cons p l => exact mg_mark h
theorem mgL_len {l : List Tr} : (mgL l).length ≤ l.length := by
  cases l with
  | nil => exact Nat.le_refl _
  | cons p l => exact mg_len
theorem mgL_load {x : Int32} {l : List Tr} : loadZ x (mgL l) = loadZ x l := by
  cases l with
  | nil => rfl
  | cons p l => exact mg_load
theorem mgL_plc {x : Int32} {l : List Tr} (hr : okR l) (h : srt l) : plc x (mgL l) = plc x l := by
  cases l with
  | nil => rfl
  | cons p l => exact mg_plc hr h
theorem mgL_okP {l : List Tr} (hr : okR l) (h : srt l) (hb : ∀ q ∈ l, isBx q.1) : okP (mgL l) := ⟨mgL_okR hr h, mgL_canon h, mgL_mark hb⟩
/-! the class joins as it goes -/
def jn (V : List Tr) (q : Tr) : List Tr := match V.getLast? with
  | none => [q]
  | some p => if p.1 = q.1 ∧ p.2.2.toInt + 1 = q.2.1.toInt then V.dropLast ++ [(p.1, p.2.1, q.2.2)] else V ++ [q]
theorem jn_nil (q : Tr) : jn [] q = [q] := rfl
theorem jn_app (acc : List Tr) (p q : Tr) : jn (acc ++ [p]) q = if p.1 = q.1 ∧ p.2.2.toInt + 1 = q.2.1.toInt then acc ++ [(p.1, p.2.1, q.2.2)] else (acc ++ [p]) ++ [q] := by
  unfold jn
  rw [List.getLast?_append, List.dropLast_concat]
  rfl
theorem jn_mg (r acc : List Tr) (p : Tr) : r.foldl jn (acc ++ [p]) = acc ++ mg p r := by
  induction r generalizing acc p with
  | nil => rfl
  | cons q r ih =>
    rw [List.foldl_cons, jn_app, mg]
    by_cases c : p.1 = q.1 ∧ p.2.2.toInt + 1 = q.2.1.toInt
    · rw [if_pos c, if_pos c, ih]
    · rw [if_neg c, if_neg c, ih, List.append_assoc]; rfl
theorem jn_mgL (r : List Tr) : r.foldl jn [] = mgL r := by
  cases r with
  | nil => rfl
  | cons p r => exact jn_mg r [] p
theorem jn_len {V : List Tr} {q : Tr} : (jn V q).length ≤ V.length + 1 := by
  rcases List.eq_nil_or_concat V with e | ⟨acc, p, e⟩
  · subst e; exact Nat.le_refl _
  · rw [List.concat_eq_append] at e
    subst e
    rw [jn_app]
    split
    · rw [List.length_append, List.length_append]; simp
    · rw [List.length_append, List.length_append]; simp
theorem nI_subc (m c : Nat) : nI (m + c) - nI c = nI m := by rw [← nI_add, Int32.add_sub_cancel]
theorem get_last {acc : List Tr} {p : Tr} (h : acc.length < (acc ++ [p]).length) : (acc ++ [p])[acc.length] = p := by
  rw [List.getElem_append_right (Nat.le_refl _)]; simp
theorem e_join {N : Nat} {v : Rg} {V : List Tr} (h : isL N v V) (hlt : V.length < N) {q : Tr} (h1 : -2147483647 ≤ q.2.1.toInt) : ∃ v', fX4_join N v q.1 q.2.1 q.2.2 = some v' ∧ isL N v' (jn V q) := by
  have h2 := h.2.1
  unfold fX4_join
  rw [h.n]
  rcases List.eq_nil_or_concat V with e | ⟨acc, p, e⟩
  · subst e
    obtain ⟨v', ev, hv⟩ := e_add h hlt q.1 q.2.1 q.2.2
    rw [if_pos (by decide), ev, ob]
    exact ⟨v', rfl, hv⟩
  · rw [List.concat_eq_append] at e
    subst e
    obtain ⟨v', ev, hv⟩ := e_add h hlt q.1 q.2.1 q.2.2
    have el : (acc ++ [p]).length = acc.length + 1 := by rw [List.length_append, List.length_singleton]
    have hl : acc.length < (acc ++ [p]).length := by omega
    have ep := get_last hl
    rw [jn_app, el, nI_pred, if_neg (nI_nneg (by omega)), h.m hl, ob, h.l hl, ob, ep, sv_nI (by omega) (by omega), ob, ev, ob]
    have hx : q.2.1.toInt ≤ 2147483647 := q.2.1.toInt_le
    have ej : (p.2.2 = q.2.1 - 1) ↔ (p.2.2.toInt + 1 = q.2.1.toInt) := by
      rw [i32eq, toI_m1 h1 (by omega)]; omega
    by_cases c1 : p.1 = q.1
    · rw [if_pos c1]
      by_cases c2 : p.2.2.toInt + 1 = q.2.1.toInt
      · rw [if_pos (ej.mpr c2), if_pos ⟨c1, c2⟩]
        refine ⟨_, rfl, by rw [List.length_append, List.length_singleton]; omega, h2, by rw [List.length_append, List.length_singleton], fun i hi => ?_⟩
        rw [List.length_append, List.length_singleton] at hi
        by_cases c : i = acc.length
        · subst c
          have := h.2.2.2 acc.length hl
          rw [ep] at this
          rw [get_last (by rw [List.length_append, List.length_singleton]; omega)]
          exact ⟨this.1, this.2.1, pk_us⟩
        · have := h.2.2.2 i (by omega)
          rw [List.getElem_append_left (by omega)] at this
          rw [List.getElem_append_left (by omega)]
          exact ⟨this.1, this.2.1, (pk_un c).trans this.2.2⟩
      · rw [if_neg (fun z => c2 (ej.mp z)), if_neg (fun z => c2 z.2)]
        exact ⟨v', rfl, hv⟩
    · rw [if_neg c1, if_neg (fun z => c1 z.1)]
      exact ⟨v', rfl, hv⟩
/-! cut -/
def lfP (a : Int32) (l : List Tr) : List Tr := l.filterMap (fun q => if a ≤ q.2.1 then none else some (q.1, q.2.1, imin q.2.2 (a - 1)))
def rtP (b : Int32) (l : List Tr) : List Tr := l.filterMap (fun q => if q.2.2 ≤ b then none else some (q.1, imax q.2.1 (b + 1), q.2.2))
def midP (box a b : Int32) : List Tr := if box = -1 then [] else [(box, a, b)]
def cutL (box a b : Int32) (l : List Tr) : List Tr := lfP a l ++ (midP box a b ++ rtP b l)
theorem lfP_mem {a : Int32} {l : List Tr} {z : Tr} (h : z ∈ lfP a l) : ∃ q ∈ l, q.2.1.toInt < a.toInt ∧ z = (q.1, q.2.1, imin q.2.2 (a - 1)) := by
  obtain ⟨q, hq, e⟩ := List.mem_filterMap.mp h
  by_cases c : a ≤ q.2.1
  · rw [if_pos c] at e; cases e
  · rw [if_neg c] at e
    rw [i32le] at c
    exact ⟨q, hq, by omega, (Option.some.inj e).symm⟩
theorem rtP_mem {b : Int32} {l : List Tr} {z : Tr} (h : z ∈ rtP b l) : ∃ q ∈ l, b.toInt < q.2.2.toInt ∧ z = (q.1, imax q.2.1 (b + 1), q.2.2) := by
  obtain ⟨q, hq, e⟩ := List.mem_filterMap.mp h
  by_cases c : q.2.2 ≤ b
  · rw [if_pos c] at e; cases e
  · rw [if_neg c] at e
    rw [i32le] at c
    exact ⟨q, hq, by omega, (Option.some.inj e).symm⟩
theorem lfP_cons {a : Int32} {q : Tr} {l : List Tr} : lfP a (q :: l) = if a ≤ q.2.1 then lfP a l else (q.1, q.2.1, imin q.2.2 (a - 1)) :: lfP a l := by
  unfold lfP
  rw [List.filterMap_cons]
  by_cases c : a ≤ q.2.1
  · rw [if_pos c, if_pos c]
  · rw [if_neg c, if_neg c]
theorem rtP_cons {b : Int32} {q : Tr} {l : List Tr} : rtP b (q :: l) = if q.2.2 ≤ b then rtP b l else (q.1, imax q.2.1 (b + 1), q.2.2) :: rtP b l := by
  unfold rtP
  rw [List.filterMap_cons]
  by_cases c : q.2.2 ≤ b
  · rw [if_pos c, if_pos c]
  · rw [if_neg c, if_neg c]
theorem lfP_nil {a : Int32} {l : List Tr} (h : ∀ q ∈ l, a.toInt ≤ q.2.1.toInt) : lfP a l = [] := by
  induction l with
  | nil => rfl
  | cons q l ih => rw [lfP_cons, if_pos (by rw [i32le]; exact h q List.mem_cons_self), ih (fun z hz => h z (List.mem_cons_of_mem _ hz))]
theorem rtP_nil {b : Int32} {l : List Tr} (h : ∀ q ∈ l, q.2.2.toInt ≤ b.toInt) : rtP b l = [] := by
  induction l with
  | nil => rfl
  | cons q l ih => rw [rtP_cons, if_pos (by rw [i32le]; exact h q List.mem_cons_self), ih (fun z hz => h z (List.mem_cons_of_mem _ hz))]
theorem cut_len {a b : Int32} (hab : a.toInt ≤ b.toInt) {l : List Tr} (h : srt l) : (lfP a l).length + (rtP b l).length ≤ l.length + 1 := by
  induction l with
  | nil => exact Nat.zero_le _
  | cons q l ih =>
    have h1 := List.pairwise_cons.mp h
    have ih := ih h1.2
    rw [lfP_cons, rtP_cons, List.length_cons]
    by_cases c : q.2.2 ≤ b
    · rw [if_pos c]
      split
      · omega
      · rw [List.length_cons]; omega
    · rw [if_neg c, List.length_cons]
      rw [i32le] at c
      have e : lfP a l = [] := lfP_nil (fun z hz => by have := h1.1 z hz; omega)
      have e2 : (rtP b l).length ≤ l.length := List.length_filterMap_le _ _
      rw [e]
      split
      · rw [List.length_nil]; omega
      · rw [List.length_cons, List.length_nil]; omega
theorem mid_len {box a b : Int32} : (midP box a b).length ≤ 1 := by
  unfold midP
  split
  · exact Nat.zero_le _
  · exact Nat.le_refl _
/-- what a range is -/
def rgI (a b : Int32) : Prop := 1 ≤ a.toInt ∧ a.toInt ≤ b.toInt ∧ b.toInt ≤ 2000000000
theorem cut_okR {box a b : Int32} (hr : rgI a b) {l : List Tr} (h : okR l) : okR (cutL box a b l) := by
  obtain ⟨r1, r2, r3⟩ := hr
  have ea : (a - 1).toInt = a.toInt - 1 := toI_m1 (by omega) (by omega)
  have eb : (b + 1).toInt = b.toInt + 1 := toI_1 (by omega) (by omega)
  refine okR_i (fun z hz => ?_)
  rcases List.mem_append.mp hz with y | y
  · obtain ⟨q, hq, h1, e⟩ := lfP_mem y
    have h2 := h.i hq
    subst e
    show 1 ≤ q.2.1.toInt ∧ q.2.1.toInt ≤ (imin q.2.2 (a - 1)).toInt ∧ (imin q.2.2 (a - 1)).toInt ≤ 2000000000
    rw [imin_i, ea]
    omega
  · rcases List.mem_append.mp y with y | y
    · unfold midP at y
      by_cases c : box = -1
      · rw [if_pos c] at y; exact absurd y List.not_mem_nil
      · rw [if_neg c, List.mem_singleton] at y
        rw [y]; exact ⟨r1, r2, r3⟩
    · obtain ⟨q, hq, h1, e⟩ := rtP_mem y
      have h2 := h.i hq
      subst e
      show 1 ≤ (imax q.2.1 (b + 1)).toInt ∧ (imax q.2.1 (b + 1)).toInt ≤ q.2.2.toInt ∧ q.2.2.toInt ≤ 2000000000
      rw [imax_i, eb]
      omega
theorem lfP_srt {a : Int32} {l : List Tr} (h : srt l) : srt (lfP a l) := by
  refine (List.Pairwise.filterMap _ ?_ h)
  intro p q hpq p' hp' q' hq'
  by_cases c : a ≤ p.2.1
  · rw [if_pos c] at hp'; cases hp'
  · by_cases d : a ≤ q.2.1
    · rw [if_pos d] at hq'; cases hq'
    · rw [if_neg c] at hp'
      rw [if_neg d] at hq'
      cases hp'
      cases hq'
      show (imin p.2.2 (a - 1)).toInt < q.2.1.toInt
      rw [imin_i]
      omega
theorem rtP_srt {b : Int32} {l : List Tr} (h : srt l) : srt (rtP b l) := by
  refine (List.Pairwise.filterMap _ ?_ h)
  intro p q hpq p' hp' q' hq'
  by_cases c : p.2.2 ≤ b
  · rw [if_pos c] at hp'; cases hp'
  · by_cases d : q.2.2 ≤ b
    · rw [if_pos d] at hq'; cases hq'
    · rw [if_neg c] at hp'
      rw [if_neg d] at hq'
      cases hp'
      cases hq'
      show p.2.2.toInt < (imax q.2.1 (b + 1)).toInt
      rw [imax_i]
      omega
theorem cut_srt {box a b : Int32} (hr : rgI a b) {l : List Tr} (h : srt l) : srt (cutL box a b l) := by
  obtain ⟨r1, r2, r3⟩ := hr
  have ea : (a - 1).toInt = a.toInt - 1 := toI_m1 (by omega) (by omega)
  have eb : (b + 1).toInt = b.toInt + 1 := toI_1 (by omega) (by omega)
  have lf : ∀ z ∈ lfP a l, z.2.2.toInt < a.toInt := by
    intro z y
    obtain ⟨q, hq, h1, e⟩ := lfP_mem y
    subst e
    show (imin q.2.2 (a - 1)).toInt < a.toInt
    rw [imin_i, ea]
    omega
  have rt : ∀ z ∈ rtP b l, b.toInt < z.2.1.toInt := by
    intro z y
    obtain ⟨q, hq, h1, e⟩ := rtP_mem y
    subst e
    show b.toInt < (imax q.2.1 (b + 1)).toInt
    rw [imax_i, eb]
    omega
  have md : ∀ z ∈ midP box a b, z.2.1 = a ∧ z.2.2 = b := by
    intro z y
    unfold midP at y
    by_cases c : box = -1
    · rw [if_pos c] at y; exact absurd y List.not_mem_nil
    · rw [if_neg c, List.mem_singleton] at y
      rw [y]; exact ⟨rfl, rfl⟩
  refine List.pairwise_append.mpr ⟨lfP_srt h, List.pairwise_append.mpr ⟨?_, rtP_srt h, fun p hp q hq => ?_⟩, fun p hp q hq => ?_⟩
  · unfold midP
    split
    · exact List.Pairwise.nil
    · exact List.pairwise_singleton _ _
  · rw [(md p hp).2]; exact rt q hq
  · have := lf p hp
    rcases List.mem_append.mp hq with y | y
    · rw [(md q y).1]; exact this
    · have := rt q y; omega
theorem cut_mark {P : Int32 → Prop} {box a b : Int32} {l : List Tr} (h : ∀ q ∈ l, P q.1) (hb : box = -1 ∨ P box) : ∀ q ∈ cutL box a b l, P q.1 := by
  intro z hz
  rcases List.mem_append.mp hz with y | y
  · obtain ⟨q, hq, h1, e⟩ := lfP_mem y
    rw [e]; exact h q hq
  · rcases List.mem_append.mp y with y | y
    · unfold midP at y
      by_cases c : box = -1
      · rw [if_pos c] at y; exact absurd y List.not_mem_nil
      · rw [if_neg c, List.mem_singleton] at y
        rw [y]; exact hb.resolve_left c
    · obtain ⟨q, hq, h1, e⟩ := rtP_mem y
      rw [e]; exact h q hq
theorem loadZ_app {x : Int32} {l m : List Tr} : loadZ x (l ++ m) = loadZ x l + loadZ x m := by
  induction l with
  | nil => rw [List.nil_append, loadZ]; omega
  | cons q l ih => rw [List.cons_append, loadZ, loadZ, ih]; omega
theorem cut_load0 {x a b : Int32} (hr : rgI a b) {l : List Tr} (h : okR l) : loadZ x (lfP a l) + loadZ x (rtP b l) = loadZ x l - inZ x a b l := by
  obtain ⟨r1, r2, r3⟩ := hr
  have ea : (a - 1).toInt = a.toInt - 1 := toI_m1 (by omega) (by omega)
  have eb : (b + 1).toInt = b.toInt + 1 := toI_1 (by omega) (by omega)
  induction l with
  | nil => rfl
  | cons q l ih =>
    have h1 := h.h
    have ih := ih h.t
    unfold inZ at ih ⊢
    rw [sumZ, lfP_cons, rtP_cons, loadZ]
    have el : loadZ x (if a ≤ q.2.1 then lfP a l else (q.1, q.2.1, imin q.2.2 (a - 1)) :: lfP a l) = (if q.1 = x then (if a.toInt ≤ q.2.1.toInt then 0 else min q.2.2.toInt (a.toInt - 1) - q.2.1.toInt + 1) else 0) + loadZ x (lfP a l) := by
      by_cases c : a ≤ q.2.1
      · rw [if_pos c]
        rw [i32le] at c
        rw [if_pos c, ite_self]; omega
      · rw [if_neg c]
        rw [i32le] at c
        rw [if_neg c, loadZ, imin_i, ea]
    have er : loadZ x (if q.2.2 ≤ b then rtP b l else (q.1, imax q.2.1 (b + 1), q.2.2) :: rtP b l) = (if q.1 = x then (if q.2.2.toInt ≤ b.toInt then 0 else q.2.2.toInt - max q.2.1.toInt (b.toInt + 1) + 1) else 0) + loadZ x (rtP b l) := by
      by_cases c : q.2.2 ≤ b
      · rw [if_pos c]
        rw [i32le] at c
        rw [if_pos c, ite_self]; omega
      · rw [if_neg c]
        rw [i32le] at c
        rw [if_neg c, loadZ, imax_i, eb]
    rw [el, er]
    by_cases z : q.1 = x
    · rw [if_pos z, if_pos z, if_pos z, if_pos z]
      split <;> split <;> omega
    · rw [if_neg z, if_neg z, if_neg z, if_neg z]; omega
theorem cut_load {x box a b : Int32} (hr : rgI a b) {l : List Tr} (h : okR l) (hx : x ≠ -1) : loadZ x (cutL box a b l) = loadZ x l - inZ x a b l + if x = box then b.toInt - a.toInt + 1 else 0 := by
  have h0 := cut_load0 (x := x) hr h
  unfold cutL
  rw [loadZ_app, loadZ_app]
  have em : loadZ x (midP box a b) = if x = box then b.toInt - a.toInt + 1 else 0 := by
    unfold midP
    by_cases c : box = -1
    · rw [if_pos c, if_neg (fun e => hx (e.trans c))]; rfl
    · rw [if_neg c, loadZ, loadZ]
      by_cases d : x = box
      · subst d; rw [if_pos rfl]; exact Int.add_zero _
      · rw [if_neg d, if_neg (fun e => d e.symm)]; rfl
  rw [em]
  omega
