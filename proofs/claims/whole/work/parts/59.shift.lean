/-! pieces are known by where their sheets are -/
theorem plc_low {x : Int32} {z : Tr} {l : List Tr} (hr : okR (z :: l)) (hs : srt (z :: l)) (h : x.toInt < z.2.1.toInt) : plc x (z :: l) = -1 := by
  refine plc_none (fun q hq => ?_)
  rw [i32lt, i32lt]
  rcases List.mem_cons.mp hq with e | e
  · subst e; omega
  · have h1 := (List.pairwise_cons.mp hs).1 q e
    have h2 := hr.h
    omega
theorem isBx.m1 {x : Int32} (h : isBx x) : x ≠ -1 := by
  intro e
  have := h.1
  rw [e, tm1] at this
  omega
theorem ext_last {p q : Tr} {l m : List Tr} (hl : okP (p :: l)) (hm : okP (q :: m)) (h : ∀ x, plc x (p :: l) = plc x (q :: m)) (e1 : p.2.1 = q.2.1) (e2 : p.1 = q.1) : q.2.2.toInt ≤ p.2.2.toInt := by
  have h1 := hl.1.h
  have h2 := hm.1.h
  have hsl := canon_srt hl.1 hl.2.1
  rcases Int.lt_or_le p.2.2.toInt q.2.2.toInt with c | c
  · exfalso
    have ex : (p.2.2 + 1).toInt = p.2.2.toInt + 1 := toI_1 (by omega) (by omega)
    have hx := h (p.2.2 + 1)
    rw [plc, if_neg (by rw [i32lt, i32lt, ex]; omega), plc, if_pos (by rw [i32lt, i32lt, ex, ← e1]; omega)] at hx
    cases l with
    | nil =>
      rw [plc] at hx
      exact (hm.2.2 q List.mem_cons_self).m1 hx.symm
    | cons z l =>
      have hz := (List.pairwise_cons.mp hsl).1 z List.mem_cons_self
      have hz2 := hl.1.t.h
      by_cases c2 : (p.2.2 + 1).toInt < z.2.1.toInt
      · rw [plc_low hl.1.t (List.pairwise_cons.mp hsl).2 c2] at hx
        exact (hm.2.2 q List.mem_cons_self).m1 hx.symm
      · rw [plc, if_pos (by rw [i32lt, i32lt]; omega)] at hx
        exact hl.2.1.1.2 ⟨e2.trans hx.symm, by omega⟩
  · exact c
theorem canonT {p : Tr} {l : List Tr} (h : okP (p :: l)) : okP l := ⟨h.1.t, canon_tail h.2.1, fun q hq => h.2.2 q (List.mem_cons_of_mem _ hq)⟩
theorem ext_canon {l m : List Tr} (hl : okP l) (hm : okP m) (h : ∀ x, plc x l = plc x m) : l = m := by
  induction l generalizing m with
  | nil =>
    cases m with
    | nil => rfl
    | cons q m =>
      have h2 := hm.1.h
      have := h q.2.1
      rw [plc, plc, if_pos (by rw [i32lt, i32lt]; omega)] at this
      exact absurd this.symm (hm.2.2 q List.mem_cons_self).m1
  | cons p l ih =>
    cases m with
    | nil =>
      have h2 := hl.1.h
      have := h p.2.1
      rw [plc, plc, if_pos (by rw [i32lt, i32lt]; omega)] at this
      exact absurd this (hl.2.2 p List.mem_cons_self).m1
    | cons q m =>
      have h1 := hl.1.h
      have h2 := hm.1.h
      have hsl := canon_srt hl.1 hl.2.1
      have hsm := canon_srt hm.1 hm.2.1
      have a1 : plc p.2.1 (p :: l) = p.1 := by rw [plc, if_pos (by rw [i32lt, i32lt]; omega)]
      have a2 : plc q.2.1 (q :: m) = q.1 := by rw [plc, if_pos (by rw [i32lt, i32lt]; omega)]
      have b1 : ¬ p.2.1.toInt < q.2.1.toInt := fun z => by
        have := h p.2.1
        rw [a1, plc_low hm.1 hsm z] at this
        exact (hl.2.2 p List.mem_cons_self).m1 this
      have b2 : ¬ q.2.1.toInt < p.2.1.toInt := fun z => by
        have := h q.2.1
        rw [a2, plc_low hl.1 hsl z] at this
        exact (hm.2.2 q List.mem_cons_self).m1 this.symm
      have e1 : p.2.1 = q.2.1 := by rw [i32eq]; omega
      have e2 : p.1 = q.1 := by rw [← a1, ← a2, ← e1]; exact h _
      have c1 := ext_last hl hm h e1 e2
      have c2 := ext_last hm hl (fun x => (h x).symm) e1.symm e2.symm
      have e3 : p.2.2 = q.2.2 := by rw [i32eq]; omega
      have e : p = q := Prod.ext e2 (Prod.ext e1 e3)
      subst e
      rw [ih (canonT hl) (canonT hm) (fun x => ?_)]
      have hx := h x
      rw [plc, plc] at hx
      by_cases z : ¬ x < p.2.1 ∧ ¬ p.2.2 < x
      · rw [plc_none (fun y hy => ?_), plc_none (fun y hy => ?_)]
        · have h3 := (List.pairwise_cons.mp hsm).1 y hy
          have z2 := z.2
          rw [i32lt] at z2 ⊢
          omega
        · have h3 := (List.pairwise_cons.mp hsl).1 y hy
          have z2 := z.2
          rw [i32lt] at z2 ⊢
          omega
      · rw [if_neg z, if_neg z] at hx
        exact hx
theorem plc_app {x : Int32} {l m : List Tr} (h : ∀ q ∈ l, ¬ (¬ x < q.2.1 ∧ ¬ q.2.2 < x)) : plc x (l ++ m) = plc x m := by
  induction l with
  | nil => rfl
  | cons q l ih => rw [List.cons_append, plc, if_neg (h q List.mem_cons_self), ih (fun z hz => h z (List.mem_cons_of_mem _ hz))]
theorem cut_plc {x box a b : Int32} (hrg : rgI a b) (hb : box ≠ -1) {l : List Tr} (hr : okR l) (hs : srt l) : plc x (cutL box a b l) = if ¬ x < a ∧ ¬ b < x then box else plc x l := by
  obtain ⟨r1, r2, r3⟩ := hrg
  have ea : (a - 1).toInt = a.toInt - 1 := toI_m1 (by omega) (by omega)
  have eb : (b + 1).toInt = b.toInt + 1 := toI_1 (by omega) (by omega)
  unfold cutL midP
  rw [if_neg hb]
  have lf : a.toInt ≤ x.toInt → ∀ q ∈ lfP a l, ¬ (¬ x < q.2.1 ∧ ¬ q.2.2 < x) := by
    intro h z hz
    obtain ⟨q, hq, h1, e⟩ := lfP_mem hz
    subst e
    show ¬ (¬ x < q.2.1 ∧ ¬ imin q.2.2 (a - 1) < x)
    rw [i32lt, i32lt, imin_i, ea]
    omega
  by_cases c1 : x.toInt < a.toInt
  · rw [if_neg (show ¬ (¬ x < a ∧ ¬ b < x) by rw [i32lt, i32lt]; omega)]
    have key : ∀ m : List Tr, (∀ q ∈ m, ¬ (¬ x < q.2.1 ∧ ¬ q.2.2 < x)) → plc x (lfP a l ++ m) = plc x l := by
      intro m hm
      induction l with
      | nil => exact plc_none hm
      | cons q l ih =>
        have h1 := hr.h
        have ih := ih hr.t (List.pairwise_cons.mp hs).2 (fun h => by omega)
        rw [lfP_cons, plc]
        by_cases c2 : a ≤ q.2.1
        · rw [if_pos c2]
          rw [i32le] at c2
          rw [if_neg (by rw [i32lt, i32lt]; omega), ih]
        · rw [if_neg c2, List.cons_append, plc, ih]
          show (if ¬ x < q.2.1 ∧ ¬ imin q.2.2 (a - 1) < x then q.1 else plc x l) = _
          rw [i32le] at c2
          have e : (¬ x < q.2.1 ∧ ¬ imin q.2.2 (a - 1) < x) ↔ (¬ x < q.2.1 ∧ ¬ q.2.2 < x) := by
            rw [i32lt, i32lt, i32lt, imin_i, ea]; omega
          by_cases z : ¬ x < q.2.1 ∧ ¬ q.2.2 < x
          · rw [if_pos z, if_pos (e.mpr z)]
          · rw [if_neg z, if_neg (fun y => z (e.mp y))]
    refine key _ (fun q hq => ?_)
    rcases List.mem_append.mp hq with y | y
    · rw [List.mem_singleton] at y
      subst y
      show ¬ (¬ x < a ∧ ¬ b < x)
      rw [i32lt, i32lt]
      omega
    · obtain ⟨q', hq', h1, e⟩ := rtP_mem y
      subst e
      show ¬ (¬ x < imax q'.2.1 (b + 1) ∧ ¬ q'.2.2 < x)
      rw [i32lt, i32lt, imax_i, eb]
      omega
  · rw [plc_app (lf (by omega)), List.cons_append, plc, List.nil_append]
    show (if ¬ x < a ∧ ¬ b < x then box else plc x (rtP b l)) = _
    by_cases c2 : b.toInt < x.toInt
    · rw [if_neg (by rw [i32lt, i32lt]; omega), if_neg (by rw [i32lt, i32lt]; omega)]
      clear lf hs
      induction l with
      | nil => rfl
      | cons q l ih =>
        have h1 := hr.h
        have ih := ih hr.t
        rw [rtP_cons, plc]
        by_cases c2 : q.2.2 ≤ b
        · rw [if_pos c2]
          rw [i32le] at c2
          rw [if_neg (by rw [i32lt, i32lt]; omega), ih]
        · rw [if_neg c2, plc, ih]
          show (if ¬ x < imax q.2.1 (b + 1) ∧ ¬ q.2.2 < x then q.1 else plc x l) = _
          rw [i32le] at c2
          have e : (¬ x < imax q.2.1 (b + 1) ∧ ¬ q.2.2 < x) ↔ (¬ x < q.2.1 ∧ ¬ q.2.2 < x) := by
            rw [i32lt, i32lt, i32lt, imax_i, eb]; omega
          by_cases z : ¬ x < q.2.1 ∧ ¬ q.2.2 < x
          · rw [if_pos z, if_pos (e.mpr z)]
          · rw [if_neg z, if_neg (fun y => z (e.mp y))]
    · rw [if_pos (by rw [i32lt, i32lt]; omega), if_pos (by rw [i32lt, i32lt]; omega)]
/-! marks changed -/
def rm (f t : Int32) (q : Tr) : Tr := (if q.1 = f then t else q.1, q.2.1, q.2.2)
theorem rm_okR {f t : Int32} {l : List Tr} (h : okR l) : okR (l.map (rm f t)) := by
  intro z hz
  obtain ⟨q, hq, e⟩ := List.mem_map.mp hz
  subst e
  exact h q hq
theorem rm_srt {f t : Int32} {l : List Tr} (h : srt l) : srt (l.map (rm f t)) := List.Pairwise.map (rm f t) (fun _ _ h => h) h
theorem rm_bx {f t : Int32} {l : List Tr} (ht : isBx t) (h : ∀ q ∈ l, isBx q.1) : ∀ q ∈ l.map (rm f t), isBx q.1 := by
  intro z hz
  obtain ⟨q, hq, e⟩ := List.mem_map.mp hz
  subst e
  show isBx (if q.1 = f then t else q.1)
  split
  · exact ht
  · exact h q hq
theorem rm_load {f t x : Int32} (hft : f ≠ t) {l : List Tr} : loadZ x (l.map (rm f t)) = if x = t then loadZ t l + loadZ f l else if x = f then 0 else loadZ x l := by
  induction l with
  | nil => rw [List.map_nil, loadZ, loadZ, loadZ]; split <;> (try split) <;> (try rw [loadZ]) <;> rfl
  | cons q l ih =>
    rw [List.map_cons, loadZ, ih]
    show (if (if q.1 = f then t else q.1) = x then q.2.2.toInt - q.2.1.toInt + 1 else 0) + _ = _
    by_cases c1 : x = t
    · subst c1
      rw [if_pos rfl, if_pos rfl, loadZ, loadZ]
      by_cases c2 : q.1 = f
      · rw [if_pos c2, if_pos rfl, if_neg (fun e => hft (c2.symm.trans e)), if_pos c2]; omega
      · rw [if_neg c2]
        by_cases c3 : q.1 = x
        · rw [if_pos c3, if_neg c2]; omega
        · rw [if_neg c3, if_neg c2]; omega
    · rw [if_neg c1, if_neg c1]
      by_cases c2 : q.1 = f
      · rw [if_pos c2, if_neg (fun e => c1 e.symm)]
        by_cases c3 : x = f
        · rw [if_pos c3, if_pos c3]; rfl
        · rw [if_neg c3, if_neg c3, loadZ, if_neg (fun e => c3 (e.symm.trans c2))]
      · rw [if_neg c2]
        by_cases c3 : x = f
        · rw [if_pos c3, if_pos c3, if_neg (fun e => c2 (e.trans c3))]; rfl
        · rw [if_neg c3, if_neg c3, loadZ]
theorem plc_mid {x t : Int32} {q : Tr} {l1 l2 : List Tr} (h : ∀ z ∈ l1, z.2.2.toInt < q.2.1.toInt) : (if ¬ x < q.2.1 ∧ ¬ q.2.2 < x then t else plc x (l1 ++ q :: l2)) = plc x (l1 ++ (t, q.2.1, q.2.2) :: l2) := by
  induction l1 with
  | nil =>
    rw [List.nil_append, List.nil_append, plc, plc]
    by_cases c : ¬ x < q.2.1 ∧ ¬ q.2.2 < x
    · rw [if_pos c, if_pos c]
    · rw [if_neg c, if_neg c, if_neg c]
  | cons z l1 ih =>
    have ih := ih (fun y hy => h y (List.mem_cons_of_mem _ hy))
    rw [List.cons_append, List.cons_append, plc, plc]
    by_cases c : ¬ x < z.2.1 ∧ ¬ z.2.2 < x
    · have h1 := h z List.mem_cons_self
      have c2 := c.2
      rw [i32lt] at c2
      rw [if_pos c, if_pos c, if_neg (by rw [i32lt, i32lt]; omega)]
    · rw [if_neg c, if_neg c]; exact ih
/-- a whole piece changes its box -/
theorem laid_piece {f t : Int32} (ht : isBx t) {l1 l2 : List Tr} {q : Tr} (hr : okR (l1 ++ q :: l2)) (hs : srt (l1 ++ q :: l2)) (hb : ∀ z ∈ l1 ++ q :: l2, isBx z.1) (hq : q.1 = f) : laid t q.2.1 q.2.2 (mgL (l1 ++ q :: l2)) = mgL (l1 ++ (rm f t q) :: l2) := by
  have hqi := hr.i (List.mem_append_right l1 (List.mem_cons_self (a := q) (l := l2)))
  have hrg : rgI q.2.1 q.2.2 := hqi
  have hbef : ∀ z ∈ l1, z.2.2.toInt < q.2.1.toInt := fun z hz => (List.pairwise_append.mp hs).2.2 z hz q List.mem_cons_self
  have er : rm f t q = (t, q.2.1, q.2.2) := by unfold rm; rw [if_pos hq]
  have hr2 : okR (l1 ++ (rm f t q) :: l2) := by
    intro z hz
    rcases List.mem_append.mp hz with y | y
    · exact hr z (List.mem_append_left _ y)
    · rcases List.mem_cons.mp y with e | e
      · rw [e]; exact hr q (List.mem_append_right _ List.mem_cons_self)
      · exact hr z (List.mem_append_right _ (List.mem_cons_of_mem _ e))
  have hs2 : srt (l1 ++ (rm f t q) :: l2) := by
    have h1 := List.pairwise_append.mp hs
    have h2 := List.pairwise_cons.mp h1.2.1
    refine List.pairwise_append.mpr ⟨h1.1, List.pairwise_cons.mpr ⟨fun z hz => h2.1 z hz, h2.2⟩, fun y hy z hz => ?_⟩
    rcases List.mem_cons.mp hz with e | e
    · rw [e]; exact hbef y hy
    · exact h1.2.2 y hy z (List.mem_cons_of_mem _ e)
  have hb2 : ∀ z ∈ l1 ++ (rm f t q) :: l2, isBx z.1 := by
    intro z hz
    rcases List.mem_append.mp hz with y | y
    · exact hb z (List.mem_append_left _ y)
    · rcases List.mem_cons.mp y with e | e
      · rw [e, er]; exact ht
      · exact hb z (List.mem_append_right _ (List.mem_cons_of_mem _ e))
  have hP := mgL_okP hr hs hb
  refine ext_canon (laid_okP hrg hP (Or.inr ht)) (mgL_okP hr2 hs2 hb2) (fun x => ?_)
  unfold laid
  rw [mgL_plc (cut_okR hrg hP.1) (cut_srt hrg (canon_srt hP.1 hP.2.1)), cut_plc hrg ht.m1 hP.1 (canon_srt hP.1 hP.2.1), mgL_plc hr hs, mgL_plc hr2 hs2, er]
  exact plc_mid hbef
/-! the class -/
def shm (d f t : Int32) (l : List Tr) : List (Int32 × Tr) := (l.filter (fun q => decide (q.1 = f))).map (fun q => (d, (t, q.2.1, q.2.2)))
theorem shm_len {d f t : Int32} {l : List Tr} : (shm d f t l).length = cntP f l := by unfold shm cntP; rw [List.length_map]
theorem shm_yes {d f t : Int32} {q : Tr} {l : List Tr} (h : q.1 = f) : shm d f t (q :: l) = (d, (t, q.2.1, q.2.2)) :: shm d f t l := by
  unfold shm
  rw [List.filter_cons, if_pos (by simpa using h), List.map_cons]
theorem shm_no {d f t : Int32} {q : Tr} {l : List Tr} (h : ¬ q.1 = f) : shm d f t (q :: l) = shm d f t l := by
  unfold shm
  rw [List.filter_cons, if_neg (by simpa using h)]
theorem shift64 {w : Rg} {P : List Tr} (hp : isL 42 w P) (d f t : Int32) (k : Int32 → (Nat → Int32) → Rg → Option (Int32 × (Nat → Int32) × Rg × Rg × Rg)) : ∀ (n i : Nat) (L : List (Int32 × Tr)) (md : Nat → Int32) (mv : Rg), i ≤ P.length → P.length < i + n → isL 100 mv (L.map Prod.snd) → (∀ (i : Nat) (h : i < L.length), md i = (L[i]).1) → L.length + (shm d f t (P.drop i)).length ≤ 100 → ∃ md' mv', fX0_shiftAll_64 d w f t n k (nI i) md mv = k (nI P.length) md' mv' ∧ isL 100 mv' ((L ++ shm d f t (P.drop i)).map Prod.snd) ∧ ∀ (j : Nat) (h : j < (L ++ shm d f t (P.drop i)).length), md' j = ((L ++ shm d f t (P.drop i))[j]).1 := by
  have hb := hp.b
  intro n
  induction n with
  | zero => intro i L md mv h1 h2; omega
  | succ n ih =>
    intro i L md mv hi hn hL hd hl
    rw [fX0_shiftAll_64, e_size hp, ob]
    by_cases c : i = P.length
    · rw [if_pos ((nI_geI (by omega) (by omega) hi).mpr c)]
      subst c
      refine ⟨md, mv, rfl, ?_⟩
      have e : shm d f t (P.drop P.length) = [] := by rw [List.drop_length]; rfl
      simp only [e, List.append_nil]
      exact ⟨hL, hd⟩
    · have hlt : i < P.length := by omega
      rw [if_neg (fun z => c ((nI_geI (by omega) (by omega) hi).mp z)), e_markOf_in hp hlt, ob, e_firstOf_in hp hlt, ob, e_lastOf_in hp hlt, ob, nI_1]
      by_cases c1 : (P[i]).1 = f
      · have e : shm d f t (P.drop i) = (d, (t, (P[i]).2.1, (P[i]).2.2)) :: shm d f t (P.drop (i + 1)) := by rw [List.drop_eq_getElem_cons hlt, shm_yes c1]
        rw [e, List.length_cons] at hl
        obtain ⟨md1, mv1, ee, hL1, hd1⟩ := e_enter (A := (([] : List Tr), ([] : List Tr), L, (fun _ => 0), 0)) hL hd (by show L.length < 100; omega) d t (P[i]).2.1 (P[i]).2.2
        rw [if_pos c1, ee, ob]
        obtain ⟨md2, mv2, e2, h2, h3⟩ := ih (i + 1) (L ++ [(d, (t, (P[i]).2.1, (P[i]).2.2))]) md1 mv1 (by omega) (by omega) hL1 hd1 (by rw [List.length_append, List.length_singleton]; omega)
        refine ⟨md2, mv2, e2, ?_⟩
        have ea : L ++ shm d f t (P.drop i) = L ++ [(d, (t, (P[i]).2.1, (P[i]).2.2))] ++ shm d f t (P.drop (i + 1)) := by rw [e, List.append_assoc]; rfl
        simp only [ea]
        exact ⟨h2, h3⟩
      · have e : shm d f t (P.drop i) = shm d f t (P.drop (i + 1)) := by rw [List.drop_eq_getElem_cons hlt, shm_no c1]
        rw [if_neg c1]
        simp only [e] at hl ⊢
        exact ih (i + 1) L md mv (by omega) (by omega) hL hd hl
theorem remark8 {w : Rg} {P : List Tr} (hp : isL 42 w P) (hr : okR P) (f t : Int32) (k : Int32 → Rg → Option Rg) : ∀ (n i : Nat) (V : List Tr) (v : Rg), i ≤ P.length → P.length < i + n → isL 42 v V → V.length + (P.length - i) ≤ 42 → ∃ v', fX4_becomeRemarked_8 42 42 w f t n k (nI i) v = k (nI P.length) v' ∧ isL 42 v' (((P.drop i).map (rm f t)).foldl jn V) := by
  have hb := hp.b
  intro n
  induction n with
  | zero => intro i V v h1 h2; omega
  | succ n ih =>
    intro i V v hi hn hv hl
    rw [fX4_becomeRemarked_8, hp.n]
    by_cases c : i = P.length
    · rw [if_pos ((nI_geI (by omega) (by omega) hi).mpr c)]
      subst c
      rw [List.drop_length]
      exact ⟨v, rfl, hv⟩
    · have hlt : i < P.length := by omega
      have h1 := hr.i (List.getElem_mem hlt)
      obtain ⟨v2, e2, hv2⟩ := e_join hv (q := rm f t P[i]) (by omega) (by show -2147483647 ≤ (P[i]).2.1.toInt; omega)
      have hj := @jn_len V (rm f t P[i])
      rw [if_neg (fun z => c ((nI_geI (by omega) (by omega) hi).mp z)), hp.m hlt, ob, hp.f hlt, ob, hp.l hlt, ob, ob, ob, ob, nI_1, List.drop_eq_getElem_cons hlt, List.map_cons, List.foldl_cons]
      have e3 : (if (P[i]).1 = f then (fX4_join 42 v t (P[i]).2.1 (P[i]).2.2).bind fun r54 => fX4_becomeRemarked_8 42 42 w f t n k (nI (i + 1)) r54 else (fX4_join 42 v (P[i]).1 (P[i]).2.1 (P[i]).2.2).bind fun r54 => fX4_becomeRemarked_8 42 42 w f t n k (nI (i + 1)) r54) = fX4_becomeRemarked_8 42 42 w f t n k (nI (i + 1)) v2 := by
        unfold rm at e2
        by_cases c1 : (P[i]).1 = f
        · rw [if_pos c1] at e2 ⊢
          rw [e2, ob]
        · rw [if_neg c1] at e2 ⊢
          rw [e2, ob]
      rw [e3]
      exact ih (i + 1) _ v2 (by omega) (by omega) hv2 (by omega)
theorem e_remarked {v w : Rg} {P : List Tr} (hp : isL 42 w P) (hr : okR P) (h40 : P.length ≤ 40) (f t : Int32) : ∃ v', fX4_becomeRemarked 42 42 v w f t = some v' ∧ isL 42 v' (mgL (P.map (rm f t))) := by
  unfold fX4_becomeRemarked
  obtain ⟨v1, e1, h1⟩ := remark8 hp hr f t (fun _ v => some v) FU 0 [] _ (Nat.zero_le _) (FU_gt (by omega)) (isL_0 (v := v) (by decide)) (by rw [List.length_nil]; omega)
  rw [nI_0] at e1
  rw [List.drop_zero, jn_mgL] at h1
  exact ⟨v1, e1, h1⟩
/-! the reference -/
def fil (f : Int32) (l : List Tr) : List Tr := l.filter (fun q => decide (q.1 = f))
theorem fil_yes {f : Int32} {q : Tr} {l : List Tr} (h : q.1 = f) : fil f (q :: l) = q :: fil f l := by
  unfold fil
  rw [List.filter_cons, if_pos (by simpa using h)]
theorem fil_no {f : Int32} {q : Tr} {l : List Tr} (h : ¬ q.1 = f) : fil f (q :: l) = fil f l := by
  unfold fil
  rw [List.filter_cons, if_neg (by simpa using h)]
theorem fil_app {f : Int32} {l m : List Tr} : fil f (l ++ m) = fil f l ++ fil f m := List.filter_append _ _
theorem fil_len {f : Int32} {l : List Tr} : (fil f l).length ≤ l.length := List.length_filter_le _ _
def isF (g : Nat → Int32) (l : List Tr) : Prop := ∀ (j : Nat) (h : j < l.length), g (2 * j) = (l[j]).2.1 ∧ g (2 * j + 1) = (l[j]).2.2
theorem m2 (i : Nat) : (2 : Int32) * nI i = nI (2 * i) := by rw [n2, pk_mul]
theorem shift81 {row : Nat → Int32} {P : List Tr} (hp : isP row P) (f : Int32) (k : Int32 → Int32 → (Nat → Int32) → Option (Int32 × (Nat → Int32) × Int32 × (Nat → Int32) × Int32 × (Nat → Int32))) : ∀ (n i : Nat) (V : List Tr) (g : Nat → Int32), i ≤ P.length → P.length < i + n → V.length ≤ i → isF g V → ∃ g' x, fX8_shift_81 row f n k (nI V.length) (nI i) g = k x (nI P.length) g' ∧ isF g' (V ++ fil f (P.drop i)) := by
  have h40 := hp.1
  intro n
  induction n with
  | zero => intro i V g h1 h2; omega
  | succ n ih =>
    intro i V g hi hn hV hg
    rw [fX8_shift_81, hp.c, ob]
    by_cases c : i = P.length
    · rw [if_pos ((nI_geI (by omega) (by omega) hi).mpr c)]
      subst c
      refine ⟨g, _, rfl, ?_⟩
      rw [List.drop_length, show fil f [] = [] from rfl, List.append_nil]
      exact hg
    · have hlt : i < P.length := by omega
      rw [if_neg (fun z => c ((nI_geI (by omega) (by omega) hi).mp z)), hp.m hlt, ob, hp.f hlt, ob, hp.l hlt, m2, nI_1, nI_1, nI_1, List.drop_eq_getElem_cons hlt]
      by_cases c1 : (P[i]).1 = f
      · rw [if_pos c1, sv_nI (by omega) (by omega), ob, ob, sv_nI (by omega) (by omega), ob, fil_yes c1]
        have := ih (i + 1) (V ++ [P[i]]) (upd (upd g (2 * V.length) (P[i]).2.1) (2 * V.length + 1) (P[i]).2.2) (by omega) (by omega) (by rw [List.length_append, List.length_singleton]; omega) (fun j hj => ?_)
        · rw [List.length_append, List.length_singleton, List.append_assoc] at this
          exact this
        · rw [List.length_append, List.length_singleton] at hj
          by_cases c2 : j < V.length
          · rw [List.getElem_append_left c2, pk_un (by omega), pk_un (by omega), pk_un (by omega), pk_un (by omega)]
            exact hg j c2
          · have ej : j = V.length := by omega
            subst ej
            rw [get_last, pk_un (by omega), pk_us, pk_us]
            exact ⟨rfl, rfl⟩
      · rw [if_neg c1, fil_no c1]
        exact ih (i + 1) V g (by omega) (by omega) (by omega) hg
theorem shift149 {D : Int} {A : AS} (hA : okA D A) (h40 : A.2.1.length ≤ 40) {f t : Int32} (ht : isBx t) {g : Nat → Int32} (hg : isF g (fil f A.2.1)) (k : Int32 → (Nat → Int32) → (Nat → Int32) → Int32 → Option (Int32 × (Nat → Int32) × Int32 × (Nat → Int32) × Int32 × (Nat → Int32))) : ∀ (P2 P1 : List Tr) (n : Nat) (L : List (Int32 × Tr)) (row be : Nat → Int32) (bs : Int32), A.2.1 = P1 ++ P2 → (fil f P2).length < n → L.length + (fil f P2).length ≤ 100 → modA (A.1, mgL (P1.map (rm f t) ++ P2), L, A.2.2.2.1, A.2.2.2.2) row → ∃ row' be' bs', fX8_shift_149 g t (nI (fil f A.2.1).length) n k (nI (fil f P1).length) row be bs = k (nI (fil f A.2.1).length) row' be' bs' ∧ modA (A.1, mgL (A.2.1.map (rm f t)), L ++ shm A.2.2.2.2 f t P2, A.2.2.2.1, A.2.2.2.2) row' ∧ ∀ k, 562 ≤ k → row' k = row k := by
  have hP := hA.2.1
  have hfl := @fil_len f A.2.1
  have hs := canon_srt hP.1 hP.2.1
  intro P2
  induction P2 with
  | nil =>
    intro P1 n L row be bs e hn hl hM
    obtain ⟨n, rfl⟩ : ∃ m, n = m + 1 := ⟨n - 1, by omega⟩
    rw [List.append_nil] at e hM
    rw [fX8_shift_149, if_pos (nI_le (by rw [e]; exact Nat.le_refl _) (by rw [← e]; omega))]
    refine ⟨row, be, bs, by rw [e], ?_, fun _ _ => rfl⟩
    rw [e, show shm A.2.2.2.2 f t [] = [] from rfl, List.append_nil]
    exact hM
  | cons q P2 ih =>
    intro P1 n L row be bs e hn hl hM
    have ih := ih (P1 ++ [q])
    have e1 : P1 ++ q :: P2 = P1 ++ [q] ++ P2 := by rw [List.append_assoc]; rfl
    have em : (P1 ++ [q]).map (rm f t) ++ P2 = P1.map (rm f t) ++ (rm f t q) :: P2 := by rw [List.map_append, List.append_assoc]; rfl
    rw [em] at ih
    by_cases c : q.1 = f
    · rw [fil_yes c, List.length_cons] at hn hl
      obtain ⟨n, rfl⟩ : ∃ m, n = m + 1 := ⟨n - 1, by omega⟩
      have ef : fil f A.2.1 = fil f P1 ++ q :: fil f P2 := by
        rw [e]
        unfold fil
        rw [List.filter_append]
        exact congrArg (fun z => P1.filter (fun q => decide (q.1 = f)) ++ z) (fil_yes c)
      have hk : (fil f P1).length < (fil f A.2.1).length := by rw [ef, List.length_append, List.length_cons]; omega
      have hgk := hg (fil f P1).length hk
      have eq : (fil f A.2.1)[(fil f P1).length] = q := by
        simp only [ef]
        rw [List.getElem_append_right (Nat.le_refl _)]
        simp
      rw [eq] at hgk
      have hrQ : okR (P1.map (rm f t) ++ q :: P2) := by
        intro z hz
        rcases List.mem_append.mp hz with y | y
        · exact rm_okR (fun w hw => hP.1 w (by rw [e]; exact List.mem_append_left _ hw)) z y
        · exact hP.1 z (by rw [e]; exact List.mem_append_right _ y)
      have hsQ : srt (P1.map (rm f t) ++ q :: P2) := by
        rw [e] at hs
        have h1 := List.pairwise_append.mp hs
        refine List.pairwise_append.mpr ⟨rm_srt h1.1, h1.2.1, fun y hy z hz => ?_⟩
        obtain ⟨w, hw, ew⟩ := List.mem_map.mp hy
        subst ew
        exact h1.2.2 w hw z hz
      have hbQ : ∀ z ∈ P1.map (rm f t) ++ q :: P2, isBx z.1 := by
        intro z hz
        rcases List.mem_append.mp hz with y | y
        · exact rm_bx ht (fun w hw => hP.2.2 w (by rw [e]; exact List.mem_append_left _ hw)) z y
        · exact hP.2.2 z (by rw [e]; exact List.mem_append_right _ y)
      have hq := hP.1.i (show q ∈ A.2.1 by rw [e]; exact List.mem_append_right _ List.mem_cons_self)
      have hrg : rgI q.2.1 q.2.2 := hq
      have hPQ := mgL_okP hrQ hsQ hbQ
      have hlp := laid_piece ht hrQ hsQ hbQ c
      obtain ⟨be1, el, hb1⟩ := lays_ok (g := be) (n := bs) (box := t) hM.2.1 hPQ.1 (canon_srt hPQ.1 hPQ.2.1) hrg
      have hlp' : mgL (cutL t q.2.1 q.2.2 (mgL (P1.map (rm f t) ++ q :: P2))) = mgL (P1.map (rm f t) ++ (rm f t q) :: P2) := hlp
      rw [hlp'] at el hb1
      have h40' : (mgL (P1.map (rm f t) ++ (rm f t q) :: P2)).length ≤ 40 := by
        refine Nat.le_trans mgL_len ?_
        rw [List.length_append, List.length_map, List.length_cons]
        rw [e, List.length_append, List.length_cons] at h40
        omega
      obtain ⟨row1, em1, hM1, hf1⟩ := moves_ok (a := q.2.1) (b := q.2.2) (box := t) hM hb1 h40' (by show L.length < 100; omega)
      rw [fX8_shift_149, if_neg (nI_ge hk (by omega)), m2, nI_1, nI_1, ld_nI (by omega) (by omega), ob, ld_nI (by omega) (by omega), ob, hgk.1, hgk.2]
      rw [show (fX8_lays row be bs q.2.1 q.2.2 t) = _ from el, ob, ob, ob, em1, ob]
      have ef1 : (fil f (P1 ++ [q])).length = (fil f P1).length + 1 := by
        rw [fil_app, fil_yes c, List.length_append]; rfl
      rw [ef1] at ih
      obtain ⟨row2, be2, bs2, e2, hM2, hf2⟩ := ih n (L ++ [(A.2.2.2.2, (t, q.2.1, q.2.2))]) row1 be1 (nI (mgL (P1.map (rm f t) ++ (rm f t q) :: P2)).length) (by rw [e, e1]) (by omega) (by rw [List.length_append, List.length_singleton]; omega) hM1
      refine ⟨row2, be2, bs2, e2, ?_, fun k hk => (hf2 k hk).trans (hf1 k hk)⟩
      rw [shm_yes c]
      rw [List.append_assoc] at hM2
      exact hM2
    · rw [fil_no c] at hn hl
      have ef1 : (fil f (P1 ++ [q])).length = (fil f P1).length := by
        rw [fil_app, fil_no c, List.length_append]; rfl
      have er : rm f t q = q := by unfold rm; rw [if_neg c]
      rw [ef1, er] at ih
      rw [shm_no c]
      exact ih n L row be bs (by rw [e, e1]) hn hl hM
theorem sim_shift {D : Int} : S_shift (RR D) (RR D) := by
  intro c_archive_rooms c_archive_moveDays c_archive_day c_archive_series c_archive_pieces c_archive_trial c_archive_moves c_history_slots c_history_top c_history_steps c_planner_free c_planner_remaining c_planner_gaps c_planner_layings c_rows c_text_bytes c_text_verbs c_text_numbers c_text_length c_text_commandCount c_text_at c_page_signs c_page_length c_page_latest c_draft_signs c_draft_length c_draft_latest d_row d_undos d_list d_listed d_paper d_papers d_text d_length d_beside d_besides d_gapFirst d_gapLast d_laying d_layings d_free d_first d_behind d_numbers d_clauses d_words d_sorts d_shifted d_saved d_draft d_drafts x1 x2 h
  have h : R0 D c_archive_rooms c_archive_moveDays c_archive_day c_archive_series c_archive_pieces c_archive_moves c_history_slots c_history_top c_history_steps c_planner_gaps c_planner_layings c_rows c_text_bytes c_text_length c_page_signs c_page_length d_row d_undos d_list d_listed d_paper d_papers d_text d_length d_words d_sorts := h
  obtain ⟨⟨A, hs, hA, hC, hM, hH⟩, hrest⟩ := h
  obtain ⟨h8, es, eu, t, ht, et⟩ := hist_steps hH
  subst es eu et
  obtain ⟨slots', er, hsn, hse⟩ := remember_ok (slots := c_history_slots) hC hM.2.1.1 ht
  have no : ∀ (r : Int32), r.toInt < 0 → ∃ a1 a2 a3 a4 a5, fX7_settle c_archive_rooms c_archive_day c_archive_series c_archive_pieces c_archive_moves slots' (nI t) (nI hs.length) r = some (r, a1, a2, a3, a4, a5, nI t, nI hs.length) ∧ R0 D a1 c_archive_moveDays a2 a3 a4 a5 slots' (nI t) (nI hs.length) c_planner_gaps c_planner_layings c_rows c_text_bytes c_text_length c_page_signs c_page_length d_row (nI hs.length) d_list d_listed d_paper d_papers d_text d_length d_words d_sorts := by
    intro r hr
    obtain ⟨a1, a2, a3, a4, a5, e3, hC'⟩ := settle_no (rooms := c_archive_rooms) (day := c_archive_day) (pieces := c_archive_pieces) (steps := nI hs.length) ht hr hsn (clsW_of hC)
    exact ⟨a1, a2, a3, a4, a5, e3, ⟨A, hs, hA, hC', hM, hist_no ht hH hse (fun k _ => rfl)⟩, hrest⟩
  have hP := hA.2.1
  have h40 := hM.2.1.1
  have h100 := hM.2.2.1.1
  have hd : c_archive_day = A.2.2.2.2 := hC.2.2.2.2.2
  have hlen : (A.2.2.1.map Prod.snd).length = A.2.2.1.length := List.length_map _
  unfold fX7_shift fX8_shift fX0_shiftAll fX0_freeIn
  rw [er, ob, e8_isBox, e7_isBox, ob, ob, i01, i01, e8_isBox, e7_isBox, ob, ob, i01, i01]
  by_cases c1 : 0 ≤ x1 ∧ x1 ≤ 7
  · by_cases c2 : 0 ≤ x2 ∧ x2 ≤ 7
    · rw [if_pos c1, if_pos c1, if_pos c2, if_pos c2]
      by_cases c3 : x1 = x2
      · obtain ⟨a1, a2, a3, a4, a5, e3, hR⟩ := no (-2) (by decide)
        rw [if_pos c3, if_pos c3, ob, e3, ob]
        exact ⟨_, _, _, _, _, _, _, _, _, _, _, _, _, _, _, _, rfl, rfl, hR⟩
      · have l1 := load_le hP c1
        have l2 := load_le hP c2
        have b1 := loadZ_nn (x := x1) hP.1
        have b2 := loadZ_nn (x := x2) hP.1
        have b3 := loadZ_le (x := x1) hP.1 hP.2.1
        have b4 := loadZ_le (x := x2) hP.1 hP.2.1
        have hb2 := isBx_of c2
        obtain ⟨m, hm, em⟩ := hb2.n
        have hro := hA.2.2.2.1 m hm
        have e40 := @fil_len x1 A.2.1
        have ecnt : cntP x1 A.2.1 = (fil x1 A.2.1).length := rfl
        have erm : fX0_roomOf c_archive_rooms x2 = some (A.2.2.2.1 m) := by rw [em]; exact e_room hC.2.2.2.2.1 hm
        have erm8 : ld 5058 d_row (34 + x2) = some (A.2.2.2.1 m) := by rw [em]; exact e8_room hM.2.2.2.1 hm
        have hcond : (A.2.2.2.1 m - sumI (ov8 x2 1 MAX) A.2.1 < sumI (ov8 x1 1 MAX) A.2.1) ↔ (A.2.2.2.1 m).toInt < loadZ x1 A.2.1 + loadZ x2 A.2.1 := by
          rw [i32lt, toI_sub, l1.1, l2.1] <;> (try rw [l2.1]) <;> omega
        have hcond8 : (0 < lg_cmp ((sumI (ov8 x1 1 MAX) A.2.1).toInt64 + (sumI (ov8 x2 1 MAX) A.2.1).toInt64) (A.2.2.2.1 m).toInt64) ↔ (A.2.2.2.1 m).toInt < loadZ x1 A.2.1 + loadZ x2 A.2.1 := by
          rw [lg_cmp_gt, Int64.lt_iff_toInt_lt, toL_add, Int32.toInt_toInt64, Int32.toInt_toInt64, Int32.toInt_toInt64, l1.1, l2.1] <;> rw [Int32.toInt_toInt64, Int32.toInt_toInt64, l1.1, l2.1] <;> omega
        rw [if_neg c3, if_neg c3, e_countOf hC.2.1 (by decide), ob, e8_piecesOf hM.2.1, ob, e_loadOf hC.2.1, ob, erm, ob, e_loadOf hC.2.1, ob, ob, e8_load hM.2.1, ob, e8_load hM.2.1, ob, erm8, ob, l1.2, l2.2, e_size hC.2.2.1, ob, hM.2.2.1.c, ob, hlen, nI_add]
        by_cases c4 : (A.2.2.2.1 m).toInt < loadZ x1 A.2.1 + loadZ x2 A.2.1
        · obtain ⟨a1, a2, a3, a4, a5, e3, hR⟩ := no (-5) (by decide)
          rw [if_pos (hcond.mpr c4), if_pos (hcond8.mpr c4), ob, e3, ob]
          exact ⟨_, _, _, _, _, _, _, _, _, _, _, _, _, _, _, _, rfl, rfl, hR⟩
        · rw [if_neg (fun z => c4 (hcond.mp z)), if_neg (fun z => c4 (hcond8.mp z))]
          by_cases c5 : A.2.2.1.length + cntP x1 A.2.1 ≤ 100
          · rw [if_pos (show nI (A.2.2.1.length + cntP x1 A.2.1) ≤ 100 from nI_le (b := 100) c5 (by omega)), if_pos (show nI (A.2.2.1.length + cntP x1 A.2.1) ≤ 100 from nI_le (b := 100) c5 (by omega))]
            obtain ⟨v', ev, hv⟩ := e_remarked (v := c_archive_trial) hC.2.1 hP.1 h40 x1 x2
            obtain ⟨p', ep, hp'⟩ := e_copyFrom (N := 42) (v := c_archive_pieces) hv hv.1 (by decide)
            obtain ⟨md', mv', es, hmv, hmd⟩ := shift64 hC.2.1 c_archive_day x1 x2 (fun x4_64 g_moveDays_64 v_moves_64 => (fX4_becomeRemarked 42 42 c_archive_trial c_archive_pieces x1 x2).bind fun r128 => (fX4_copyFrom 42 42 c_archive_pieces r128).bind fun r139 => some (nI (cntP x1 A.2.1), g_moveDays_64, r139, r128, v_moves_64)) FU 0 A.2.2.1 c_archive_moveDays c_archive_moves (Nat.zero_le _) (FU_gt (by omega)) hC.2.2.1 hC.2.2.2.1 (by rw [shm_len, List.drop_zero]; exact c5)
            rw [nI_0] at es
            have er2 : ((fX4_becomeRemarked 42 42 c_archive_trial c_archive_pieces x1 x2).bind fun r128 => (fX4_copyFrom 42 42 c_archive_pieces r128).bind fun r139 => some (nI (cntP x1 A.2.1), md', r139, r128, mv')) = some (nI (cntP x1 A.2.1), md', p', v', mv') := by rw [ev, ob, ep, ob]
            have es := es.trans er2
            obtain ⟨row', ek, hk1, hk2⟩ := keepPast_ok hM hH.b h8
            have hM' := modA_ext hM hk1
            have hM0 : modA (A.1, mgL (([] : List Tr).map (rm x1 x2) ++ A.2.1), A.2.2.1, A.2.2.2.1, A.2.2.2.2) row' := by
              have : mgL A.2.1 = A.2.1 := ext_canon (mgL_okP hP.1 (canon_srt hP.1 hP.2.1) hP.2.2) hP (fun x => mgL_plc hP.1 (canon_srt hP.1 hP.2.1))
              rw [List.map_nil, List.nil_append, this]
              exact hM'
            obtain ⟨g81, y81, e81, hg81⟩ := shift81 hM'.2.1 x1 (fun x4_81 x5_81 g_shifted_81 => fX8_shift_149 g_shifted_81 x2 (nI (cntP x1 A.2.1)) FU (fun x5_149 g_row_149 g_beside_149 g_besides_149 => some (nI (cntP x1 A.2.1), g_row_149, nI ((A :: hs).take 8).length, g_beside_149, g_besides_149, g_shifted_81)) 0 row' d_beside d_besides) FU 0 [] d_shifted (Nat.zero_le _) (FU_gt (by omega)) (Nat.le_refl _) (fun j hj => absurd hj (Nat.not_lt_zero j))
            rw [List.nil_append, List.drop_zero] at hg81
            rw [List.length_nil, nI_0] at e81
            obtain ⟨row2, be2, bs2, e149, hM2, hf2⟩ := shift149 hA h40 hb2 hg81 (fun x5_149 g_row_149 g_beside_149 g_besides_149 => some (nI (cntP x1 A.2.1), g_row_149, nI ((A :: hs).take 8).length, g_beside_149, g_besides_149, g81)) A.2.1 [] FU A.2.2.1 row' d_beside d_besides rfl (by unfold FU; omega) (by omega) hM0
            rw [show (fil x1 []).length = 0 from rfl, nI_0] at e149
            rw [ecnt] at e81
            rw [ecnt] at e149
            rw [es, ob, settle_yes ht h8 (show 0 ≤ (nI (cntP x1 A.2.1), md', p', v', mv').1.toInt by show 0 ≤ (nI (cntP x1 A.2.1)).toInt; rw [nI_toInt (by omega)]; omega), ob, ek, ob]
            rw [ecnt]
            have e8f := e81.trans e149
            rw [show (fX8_shift_81 (row', nI ((A :: hs).take 8).length).1 x1 FU (fun x4_81 x5_81 g_shifted_81 => fX8_shift_149 g_shifted_81 x2 (nI (fil x1 A.2.1).length) FU (fun x5_149 g_row_149 g_beside_149 g_besides_149 => some (nI (fil x1 A.2.1).length, g_row_149, (row', nI ((A :: hs).take 8).length).2, g_beside_149, g_besides_149, g_shifted_81)) 0 (row', nI ((A :: hs).take 8).length).1 d_beside d_besides) 0 0 d_shifted) = _ from e8f]
            refine ⟨_, _, _, _, _, _, _, _, _, _, _, _, _, _, _, _, rfl, rfl, ⟨⟨(A.1, mgL (A.2.1.map (rm x1 x2)), A.2.2.1 ++ shm A.2.2.2.2 x1 x2 A.2.1, A.2.2.2.1, A.2.2.2.2), _, ⟨hA.1, mgL_okP (rm_okR hP.1) (rm_srt (canon_srt hP.1 hP.2.1)) (rm_bx hb2 hP.2.2), fun q hq => ?_, fun j hj => ⟨(hA.2.2.2.1 j hj).1, (hA.2.2.2.1 j hj).2.1, ?_⟩, hA.2.2.2.2⟩, ⟨hC.1, hp', ?_, ?_, hC.2.2.2.2.1, hd⟩, hM2, hist_yes ht hH hA (Int.le_refl _) (List.prefix_refl _) (List.prefix_append _ _) hse hsn (blk_ext hk2 (fun k hk => hf2 k hk))⟩, hrest⟩⟩
            · rcases List.mem_append.mp hq with z | z
              · exact hA.2.2.1 q z
              · obtain ⟨y, hy, ey⟩ := List.mem_map.mp z
                subst ey
                have hyq := hP.1 y (List.mem_filter.mp hy).1
                exact ⟨Or.inr hb2, hyq⟩
            · show loadZ (nI j) (mgL (A.2.1.map (rm x1 x2))) ≤ (A.2.2.2.1 j).toInt
              rw [mgL_load, rm_load c3]
              have hj2 := (hA.2.2.2.1 j hj)
              by_cases z : nI j = x2
              · have : j = m := (nI_eq (by omega) (by omega)).mp (z.trans em)
                subst this
                rw [if_pos z]; omega
              · rw [if_neg z]
                split
                · exact hj2.1
                · exact hj2.2.2
            · rw [List.drop_zero, hd] at hmv; exact hmv
            · rw [← hd]
              simp only [List.drop_zero] at hmd
              exact hmd
          · obtain ⟨a1, a2, a3, a4, a5, e3, hR⟩ := no (-5) (by decide)
            rw [if_neg (show ¬ nI (A.2.2.1.length + cntP x1 A.2.1) ≤ 100 from nI_ge (a := 100) (by omega) (by omega)), if_neg (show ¬ nI (A.2.2.1.length + cntP x1 A.2.1) ≤ 100 from nI_ge (a := 100) (by omega) (by omega)), ob, e3, ob]
            exact ⟨_, _, _, _, _, _, _, _, _, _, _, _, _, _, _, _, rfl, rfl, hR⟩
    · obtain ⟨a1, a2, a3, a4, a5, e3, hR⟩ := no (-2) (by decide)
      rw [if_pos c1, if_pos c1, if_neg c2, if_neg c2, ob, e3, ob]
      exact ⟨_, _, _, _, _, _, _, _, _, _, _, _, _, _, _, _, rfl, rfl, hR⟩
  · obtain ⟨a1, a2, a3, a4, a5, e3, hR⟩ := no (-2) (by decide)
    rw [if_neg c1, if_neg c1, ob, e3, ob]
    exact ⟨_, _, _, _, _, _, _, _, _, _, _, _, _, _, _, _, rfl, rfl, hR⟩
