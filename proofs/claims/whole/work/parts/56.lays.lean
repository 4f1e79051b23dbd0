/-! a range laid: the class's pieces on trial -/
theorem bw8_loop {w : Rg} {P : List Tr} (hp : isL 42 w P) (hr : okR P) (a : Int32) (k : Int32 → Rg → Option Rg) : ∀ (n i : Nat) (V : List Tr) (v : Rg), i ≤ P.length → P.length < i + n → isL 42 v V → V.length + (lfP a (P.drop i)).length ≤ 42 → ∃ v', fX4_becomeWith_8 42 42 w a n k (nI i) v = k (nI P.length) v' ∧ isL 42 v' ((lfP a (P.drop i)).foldl jn V) := by
  have hb := hp.b
  intro n
  induction n with
  | zero => intro i V v h1 h2; omega
  | succ n ih =>
    intro i V v hi hn hv hl
    rw [fX4_becomeWith_8, hp.n]
    by_cases c : i = P.length
    · rw [if_pos ((nI_geI (by omega) (by omega) hi).mpr c)]
      subst c
      rw [List.drop_length]
      exact ⟨v, rfl, hv⟩
    · have hlt : i < P.length := by omega
      rw [if_neg (fun z => c ((nI_geI (by omega) (by omega) hi).mp z)), hp.f hlt, ob, hp.m hlt, ob, hp.l hlt, nI_1]
      rw [List.drop_eq_getElem_cons hlt, lfP_cons] at hl ⊢
      by_cases c1 : a ≤ (P[i]).2.1
      · rw [if_pos c1] at hl ⊢
        rw [if_pos c1]
        exact ih (i + 1) V v (by omega) (by omega) hv hl
      · rw [if_neg c1] at hl ⊢
        rw [if_neg c1, ob, ob, List.foldl_cons]
        rw [List.length_cons] at hl
        have h1 := hr.i (List.getElem_mem hlt)
        obtain ⟨v2, e2, hv2⟩ := e_join hv (q := ((P[i]).1, (P[i]).2.1, imin (P[i]).2.2 (a - 1))) (by omega) (by show -2147483647 ≤ (P[i]).2.1.toInt; omega)
        rw [e2, ob]
        have := @jn_len V ((P[i]).1, (P[i]).2.1, imin (P[i]).2.2 (a - 1))
        exact ih (i + 1) _ v2 (by omega) (by omega) hv2 (by omega)
theorem bw81_loop {w : Rg} {P : List Tr} (hp : isL 42 w P) (hr : okR P) (b : Int32) (k : Int32 → Rg → Option Rg) : ∀ (n i : Nat) (V : List Tr) (v : Rg), i ≤ P.length → P.length < i + n → isL 42 v V → V.length + (rtP b (P.drop i)).length ≤ 42 → ∃ v', fX4_becomeWith_81 42 42 w b n k (nI i) v = k (nI P.length) v' ∧ isL 42 v' ((rtP b (P.drop i)).foldl jn V) := by
  have hb := hp.b
  intro n
  induction n with
  | zero => intro i V v h1 h2; omega
  | succ n ih =>
    intro i V v hi hn hv hl
    rw [fX4_becomeWith_81, hp.n]
    by_cases c : i = P.length
    · rw [if_pos ((nI_geI (by omega) (by omega) hi).mpr c)]
      subst c
      rw [List.drop_length]
      exact ⟨v, rfl, hv⟩
    · have hlt : i < P.length := by omega
      rw [if_neg (fun z => c ((nI_geI (by omega) (by omega) hi).mp z)), hp.l hlt, ob, hp.m hlt, ob, hp.f hlt, nI_1]
      rw [List.drop_eq_getElem_cons hlt, rtP_cons] at hl ⊢
      by_cases c1 : (P[i]).2.2 ≤ b
      · rw [if_pos c1] at hl ⊢
        rw [if_pos c1]
        exact ih (i + 1) V v (by omega) (by omega) hv hl
      · rw [if_neg c1] at hl ⊢
        rw [if_neg c1, ob, ob, List.foldl_cons]
        rw [List.length_cons] at hl
        have h1 := hr.i (List.getElem_mem hlt)
        obtain ⟨v2, e2, hv2⟩ := e_join hv (q := ((P[i]).1, imax (P[i]).2.1 (b + 1), (P[i]).2.2)) (by omega) (by show -2147483647 ≤ (imax (P[i]).2.1 (b + 1)).toInt; rw [imax_i]; omega)
        rw [e2, ob]
        have := @jn_len V ((P[i]).1, imax (P[i]).2.1 (b + 1), (P[i]).2.2)
        exact ih (i + 1) _ v2 (by omega) (by omega) hv2 (by omega)
theorem jn_lenL {r V : List Tr} : (r.foldl jn V).length ≤ V.length + r.length := by
  induction r generalizing V with
  | nil => exact Nat.le_refl _
  | cons q r ih =>
    rw [List.foldl_cons, List.length_cons]
    have h1 := @jn_len V q
    have h2 := @ih (jn V q)
    omega
theorem isL_0 {N : Nat} (hN : N < 2 ^ 30) {v : Rg} : isL N (v.1, v.2.1, v.2.2.1, 0) [] := isL_nil hN
theorem e_becomeWith {v w : Rg} {P : List Tr} (hp : isL 42 w P) (hr : okR P) (hs : srt P) (h40 : P.length ≤ 40) {box a b : Int32} (hrg : rgI a b) : ∃ v', fX4_becomeWith 42 42 v w box a b = some v' ∧ isL 42 v' (mgL (cutL box a b P)) := by
  have hl := cut_len hrg.2.1 hs
  have hm := @mid_len box a b
  unfold fX4_becomeWith
  obtain ⟨v1, e1, h1⟩ := bw8_loop hp hr a (fun x5_8 v_8 => if box = (-1) then fX4_becomeWith_81 42 42 w b FU (fun x5_81 v_81 => some v_81) 0 v_8 else (fX4_join 42 v_8 box a b).bind fun r75 => fX4_becomeWith_81 42 42 w b FU (fun x5_81 v_81 => some v_81) 0 r75) FU 0 [] _ (Nat.zero_le _) (FU_gt (by omega)) (isL_0 (v := v) (by decide)) (by rw [List.drop_zero, List.length_nil]; omega)
  rw [nI_0] at e1
  rw [List.drop_zero] at h1
  rw [e1]
  have hl1 := @jn_lenL (lfP a P) []
  rw [List.length_nil] at hl1
  have e81 := bw81_loop hp hr b (fun _ v => some v) FU 0
  rw [nI_0, List.drop_zero] at e81
  unfold cutL midP
  by_cases c : box = -1
  · rw [if_pos c, if_pos c]
    obtain ⟨v2, e2, h2⟩ := e81 _ v1 (Nat.zero_le _) (FU_gt (by omega)) h1 (by omega)
    rw [e2]
    refine ⟨v2, rfl, ?_⟩
    rw [List.nil_append, ← jn_mgL, List.foldl_append]
    exact h2
  · rw [if_neg c]
    rw [if_neg c]
    obtain ⟨r1, r2, r3⟩ := hrg
    obtain ⟨v2, e2, h2⟩ := e_join h1 (q := (box, a, b)) (by omega) (by show -2147483647 ≤ a.toInt; omega)
    rw [e2, ob]
    have hl2 := @jn_len ((lfP a P).foldl jn []) (box, a, b)
    obtain ⟨v3, e3, h3⟩ := e81 _ v2 (Nat.zero_le _) (FU_gt (by omega)) h2 (by omega)
    rw [e3]
    refine ⟨v3, rfl, ?_⟩
    rw [← jn_mgL, List.foldl_append, List.foldl_append]
    exact h3
/-! the reference's pieces beside -/
def rc (g : Nat → Int32) (i : Nat) (q : Tr) : Prop := g (3 * i) = q.2.1 ∧ g (3 * i + 1) = q.2.2 ∧ g (3 * i + 2) = q.1
def w3 (g : Nat → Int32) (i : Nat) (q : Tr) : Nat → Int32 := upd (upd (upd g (3 * i) q.2.1) (3 * i + 1) q.2.2) (3 * i + 2) q.1
theorem rc_s {g : Nat → Int32} {i : Nat} {q : Tr} : rc (w3 g i q) i q := by
  unfold w3
  refine ⟨?_, ?_, pk_us⟩
  · rw [pk_un (by omega), pk_un (by omega), pk_us]
  · rw [pk_un (by omega), pk_us]
theorem rc_n {g : Nat → Int32} {i j : Nat} {q p : Tr} (hij : j ≠ i) (h : rc g j p) : rc (w3 g i q) j p := by
  unfold w3
  refine ⟨?_, ?_, ?_⟩
  · rw [pk_un (by omega), pk_un (by omega), pk_un (by omega)]; exact h.1
  · rw [pk_un (by omega), pk_un (by omega), pk_un (by omega)]; exact h.2.1
  · rw [pk_un (by omega), pk_un (by omega), pk_un (by omega)]; exact h.2.2
def isB (g : Nat → Int32) (L : List Tr) : Prop := L.length ≤ 44 ∧ ∀ (i : Nat) (h : i < L.length), rc g i L[i]
theorem m3 (i : Nat) : (3 : Int32) * nI i = nI (3 * i) := by rw [n3, pk_mul]
theorem ld132 {g : Nat → Int32} {i : Nat} (h : i < 132) : ld 132 g (nI i) = some (g i) := ld_nI h (by omega)
theorem sv132 {g : Nat → Int32} {i : Nat} {x : Int32} (h : i < 132) : sv 132 g (nI i) x = some (upd g i x) := sv_nI h (by omega)
def hole (L : List Tr) (j : Nat) (g : Nat → Int32) : Prop := (∀ (i : Nat) (h : i < L.length), i < j → rc g i L[i]) ∧ ∀ (i : Nat) (h : i < L.length), j ≤ i → rc g (i + 1) L[i]
theorem puts_loop {L1 L2 : List Tr} {x1 : Int32} (h1 : ∀ q ∈ L1, q.2.1.toInt ≤ x1.toInt) (h2 : ∀ q ∈ L2, x1.toInt < q.2.1.toInt) (hl : (L1 ++ L2).length < 44) (k : Int32 → (Nat → Int32) → Option ((Nat → Int32) × Int32)) : ∀ (n j : Nat) (g : Nat → Int32), L1.length ≤ j → j ≤ (L1 ++ L2).length → j < L1.length + n → hole (L1 ++ L2) j g → ∃ g', fX8_puts_12 x1 n k (nI j) g = k (nI L1.length) g' ∧ hole (L1 ++ L2) L1.length g' := by
  intro n
  induction n with
  | zero => intro j g a1 a2 a3; omega
  | succ n ih =>
    intro j g a1 a2 a3 hH
    rw [fX8_puts_12]
    cases j with
    | zero =>
      have e : L1.length = 0 := by omega
      rw [if_pos (by decide), e]
      exact ⟨g, rfl, hH⟩
    | succ m =>
      have hm : m < (L1 ++ L2).length := by omega
      have e3 : (3 : Int32) * nI (m + 1) = nI (3 * m + 3) := by rw [m3]; rfl
      have em3 : nI (3 * m + 3) - 3 = nI (3 * m) := nI_subc (3 * m) 3
      have em2 : nI (3 * m + 3) - 2 = nI (3 * m + 1) := nI_subc (3 * m + 1) 2
      have em1 : nI (3 * m + 3) - 1 = nI (3 * m + 2) := nI_subc (3 * m + 2) 1
      have hc := hH.1 m hm (by omega)
      rw [if_neg (nI_nle (by omega) (by omega)), e3, em3, em2, em1, ld132 (by omega), ob, hc.1]
      by_cases c : m + 1 = L1.length
      · have hq : (L1 ++ L2)[m] ∈ L1 := by rw [List.getElem_append_left (by omega)]; exact List.getElem_mem _
        rw [if_pos (by rw [i32le]; exact h1 _ hq), c]
        rw [c] at hH
        exact ⟨g, rfl, hH⟩
      · have hq : (L1 ++ L2)[m] ∈ L2 := by rw [List.getElem_append_right (by omega)]; exact List.getElem_mem _
        have := h2 _ hq
        have em : nI (m + 1) + (-1) = nI m := by rw [← nI_pred m, Int32.sub_eq_add_neg]
        have e4 : nI (3 * m + 3) + 2 = nI (3 * (m + 1) + 2) := nI_add (3 * m + 3) 2
        rw [if_neg (by rw [i32le]; omega), ob, sv132 (by omega), ob, ld132 (by omega), ob, nI_1, sv132 (by omega), ob, ld132 (by omega), ob, e4, sv132 (by omega), ob, em, pk_un (by omega), pk_un (by omega), pk_un (by omega), hc.2.1, hc.2.2]
        refine ih m _ (by omega) (by omega) (by omega) ?_
        show hole (L1 ++ L2) m (w3 g (m + 1) (L1 ++ L2)[m])
        refine ⟨fun i hi hij => rc_n (by omega) (hH.1 i hi (by omega)), fun i hi hij => ?_⟩
        by_cases c2 : i = m
        · subst c2; exact rc_s
        · exact rc_n (by omega) (hH.2 i hi (by omega))
theorem puts_ok {L1 L2 : List Tr} {x1 x2 x3 : Int32} {g : Nat → Int32} (h1 : ∀ q ∈ L1, q.2.1.toInt ≤ x1.toInt) (h2 : ∀ q ∈ L2, x1.toInt < q.2.1.toInt) (hl : (L1 ++ L2).length < 44) (hx : x1.toInt ≤ x2.toInt) (hg : isB g (L1 ++ L2)) : ∃ g', fX8_puts g (nI (L1 ++ L2).length) x1 x2 x3 = some (g', nI ((L1 ++ L2).length + 1)) ∧ isB g' (L1 ++ (x3, x1, x2) :: L2) := by
  unfold fX8_puts
  rw [if_pos (by rw [i32le]; exact hx)]
  obtain ⟨g1, e1, hH⟩ := puts_loop h1 h2 hl (fun x4_12 g_beside_12 => (sv 132 g_beside_12 (3 * x4_12) x1).bind fun g111 => (sv 132 g111 ((3 * x4_12) + 1) x2).bind fun g123 => (sv 132 g123 ((3 * x4_12) + 2) x3).bind fun g135 => some (g135, (nI (L1 ++ L2).length + 1))) FU (L1 ++ L2).length g (by rw [List.length_append]; omega) (Nat.le_refl _) (by unfold FU; omega) ⟨fun i h _ => hg.2 i h, fun i h z => by omega⟩
  have hl1 : L1.length ≤ (L1 ++ L2).length := by rw [List.length_append]; omega
  have e4 : nI (3 * L1.length) + 2 = nI (3 * L1.length + 2) := nI_add (3 * L1.length) 2
  rw [e1, m3, sv132 (by omega), ob, nI_1, sv132 (by omega), ob, e4, sv132 (by omega), ob, nI_1]
  refine ⟨w3 g1 L1.length (x3, x1, x2), rfl, ?_, fun i hi => ?_⟩
  · rw [List.length_append, List.length_cons]
    rw [List.length_append] at hl
    omega
  · rw [List.length_append, List.length_cons] at hi
    by_cases c : i < L1.length
    · rw [List.getElem_append_left c]
      have := hH.1 i (by rw [List.length_append]; omega) c
      rw [List.getElem_append_left c] at this
      exact rc_n (by omega) this
    · by_cases c2 : i = L1.length
      · subst c2
        have e : (L1 ++ (x3, x1, x2) :: L2)[L1.length]'(by rw [List.length_append, List.length_cons]; omega) = (x3, x1, x2) := by rw [List.getElem_append_right (Nat.le_refl _)]; simp
        rw [e]
        exact rc_s
      · obtain ⟨m, rfl⟩ : ∃ m, i = m + 1 := ⟨i - 1, by omega⟩
        have hm : m < (L1 ++ L2).length := by rw [List.length_append]; omega
        have e : (L1 ++ (x3, x1, x2) :: L2)[m + 1]'(by rw [List.length_append, List.length_cons]; omega) = (L1 ++ L2)[m] := by
          rw [List.getElem_append_right (by omega), List.getElem_append_right (by omega)]
          simp only [show m + 1 - L1.length = (m - L1.length) + 1 by omega, List.getElem_cons_succ]
        rw [e]
        exact rc_n (by omega) (hH.2 m hm (by omega))
theorem puts_no {x1 x2 x3 n : Int32} {g : Nat → Int32} (hx : x2.toInt < x1.toInt) : fX8_puts g n x1 x2 x3 = some (g, n) := by
  unfold fX8_puts
  rw [if_neg (by rw [i32le]; omega)]
theorem puts_end {L : List Tr} {x1 x2 x3 : Int32} {g : Nat → Int32} (h1 : ∀ q ∈ L, q.2.1.toInt ≤ x1.toInt) (hl : L.length < 44) (hx : x1.toInt ≤ x2.toInt) (hg : isB g L) : ∃ g', fX8_puts g (nI L.length) x1 x2 x3 = some (g', nI (L ++ [(x3, x1, x2)]).length) ∧ isB g' (L ++ [(x3, x1, x2)]) := by
  have := puts_ok (L1 := L) (L2 := []) (x1 := x1) (x2 := x2) (x3 := x3) (g := g) h1 (fun q hq => absurd hq List.not_mem_nil) (by rw [List.append_nil]; exact hl) hx (by rw [List.append_nil]; exact hg)
  rw [List.append_nil] at this
  rw [List.length_append, List.length_singleton]
  exact this
theorem lfP_app {a : Int32} {l m : List Tr} : lfP a (l ++ m) = lfP a l ++ lfP a m := List.filterMap_append
theorem rtP_app {b : Int32} {l m : List Tr} : rtP b (l ++ m) = rtP b l ++ rtP b m := List.filterMap_append
theorem lays8_loop {row : Nat → Int32} {P : List Tr} (hp : isP row P) (hr : okR P) (hs : srt P) {a b : Int32} (hrg : rgI a b) (k : Int32 → (Nat → Int32) → Int32 → Option ((Nat → Int32) × Int32)) : ∀ (n i : Nat) (g : Nat → Int32), i ≤ P.length → P.length < i + n → isB g (lfP a (P.take i) ++ rtP b (P.take i)) → ∃ g', fX8_lays_8 row a b n k (nI i) g (nI (lfP a (P.take i) ++ rtP b (P.take i)).length) = k (nI P.length) g' (nI (lfP a P ++ rtP b P).length) ∧ isB g' (lfP a P ++ rtP b P) := by
  have hb := hp.b
  have h40 := hp.1
  obtain ⟨r1, r2, r3⟩ := hrg
  have ea : (a - 1).toInt = a.toInt - 1 := toI_m1 (by omega) (by omega)
  have eb : (b + 1).toInt = b.toInt + 1 := toI_1 (by omega) (by omega)
  intro n
  induction n with
  | zero => intro i g h1 h2; omega
  | succ n ih =>
    intro i g hi hn hg
    rw [fX8_lays_8, hp.c, ob]
    by_cases c : i = P.length
    · rw [if_pos ((nI_geI (by omega) (by omega) hi).mpr c)]
      subst c
      rw [List.take_length] at hg ⊢
      exact ⟨g, rfl, hg⟩
    · have hlt : i < P.length := by omega
      rw [if_neg (fun z => c ((nI_geI (by omega) (by omega) hi).mp z)), hp.f hlt, hp.l hlt, hp.m hlt, nI_1]
      simp only [ob, e8_lesser, e8_greater]
      have h1 := hr.i (List.getElem_mem hlt)
      have et : P.take (i + 1) = P.take i ++ [P[i]] := List.take_succ_eq_append_getElem hlt
      have ih := ih (i + 1)
      have hs2 : srt (P.take i ++ [P[i]]) := by rw [← et]; exact List.Pairwise.sublist (List.take_sublist _ _) hs
      have hbef : ∀ z ∈ P.take i, z.2.2.toInt < (P[i]).2.1.toInt := fun z hz => (List.pairwise_append.mp hs2).2.2 z hz _ List.mem_cons_self
      have hbr : ∀ z ∈ P.take i, z.2.1.toInt ≤ z.2.2.toInt := fun z hz => (hr.i (List.mem_of_mem_take hz)).2.1
      have hlen : (lfP a (P.take i)).length + (rtP b (P.take i)).length ≤ i + 1 := by
        have := cut_len r2 (List.Pairwise.sublist (List.take_sublist i P) hs)
        rw [List.length_take] at this
        omega
      have hmem : ∀ z ∈ lfP a (P.take i) ++ rtP b (P.take i), z.2.1.toInt ≤ (P[i]).2.1.toInt := by
        intro z hz
        rcases List.mem_append.mp hz with y | y
        · obtain ⟨q, hq, _, e⟩ := lfP_mem y
          have h2 := hbef q hq
          have h3 := hbr q hq
          subst e
          show q.2.1.toInt ≤ _
          omega
        · obtain ⟨q, hq, h4, e⟩ := rtP_mem y
          have h2 := hbef q hq
          have h3 := hbr q hq
          subst e
          show (imax q.2.1 (b + 1)).toInt ≤ _
          rw [imax_i, eb]
          omega
      rw [et, lfP_app, rtP_app, lfP_cons, rtP_cons] at ih
      have e0 : lfP a [] = [] := rfl
      have e00 : rtP b [] = [] := rfl
      rw [e0, e00] at ih
      generalize P[i] = q at *
      -- the left part
      have key : ∃ g1, fX8_puts g (nI (lfP a (P.take i) ++ rtP b (P.take i)).length) q.2.1 (imin q.2.2 (a - 1)) q.1 = some (g1, nI (lfP a (P.take i) ++ (if a ≤ q.2.1 then [] else [(q.1, q.2.1, imin q.2.2 (a - 1))]) ++ rtP b (P.take i)).length) ∧ isB g1 (lfP a (P.take i) ++ (if a ≤ q.2.1 then [] else [(q.1, q.2.1, imin q.2.2 (a - 1))]) ++ rtP b (P.take i)) := by
        by_cases c1 : a ≤ q.2.1
        · rw [if_pos c1, List.append_nil, puts_no]
          · exact ⟨g, rfl, hg⟩
          · rw [i32le] at c1
            rw [imin_i, ea]; omega
        · rw [if_neg c1]
          rw [i32le] at c1
          have en : rtP b (P.take i) = [] := rtP_nil (fun z hz => by have := hbef z hz; omega)
          rw [en, List.append_nil] at hg hmem ⊢
          rw [List.append_nil]
          exact puts_end hmem (by omega) (by rw [imin_i, ea]; omega) hg
      obtain ⟨g1, e1, hg1⟩ := key
      rw [e1, ob]
      have hmem1 : ∀ z ∈ lfP a (P.take i) ++ (if a ≤ q.2.1 then [] else [(q.1, q.2.1, imin q.2.2 (a - 1))]) ++ rtP b (P.take i), z.2.1.toInt ≤ q.2.1.toInt := by
        intro z hz
        rcases List.mem_append.mp hz with y | y
        · rcases List.mem_append.mp y with y | y
          · exact hmem z (List.mem_append_left _ y)
          · by_cases c1 : a ≤ q.2.1
            · rw [if_pos c1] at y; exact absurd y List.not_mem_nil
            · rw [if_neg c1, List.mem_singleton] at y
              rw [y]; exact Int.le_refl _
        · exact hmem z (List.mem_append_right _ y)
      have hlen1 : (lfP a (P.take i) ++ (if a ≤ q.2.1 then [] else [(q.1, q.2.1, imin q.2.2 (a - 1))]) ++ rtP b (P.take i)).length < 44 := by
        rw [List.length_append, List.length_append]
        have : (if a ≤ q.2.1 then ([] : List Tr) else [(q.1, q.2.1, imin q.2.2 (a - 1))]).length ≤ 1 := by split <;> simp
        omega
      have key2 : ∃ g2, fX8_puts g1 (nI (lfP a (P.take i) ++ (if a ≤ q.2.1 then [] else [(q.1, q.2.1, imin q.2.2 (a - 1))]) ++ rtP b (P.take i)).length) (imax q.2.1 (b + 1)) q.2.2 q.1 = some (g2, nI (lfP a (P.take i) ++ (if a ≤ q.2.1 then [] else [(q.1, q.2.1, imin q.2.2 (a - 1))]) ++ (rtP b (P.take i) ++ (if q.2.2 ≤ b then [] else [(q.1, imax q.2.1 (b + 1), q.2.2)]))).length) ∧ isB g2 (lfP a (P.take i) ++ (if a ≤ q.2.1 then [] else [(q.1, q.2.1, imin q.2.2 (a - 1))]) ++ (rtP b (P.take i) ++ (if q.2.2 ≤ b then [] else [(q.1, imax q.2.1 (b + 1), q.2.2)]))) := by
        by_cases c1 : q.2.2 ≤ b
        · rw [if_pos c1, List.append_nil, puts_no]
          · exact ⟨g1, rfl, hg1⟩
          · rw [i32le] at c1
            rw [imax_i, eb]; omega
        · rw [if_neg c1, ← List.append_assoc]
          rw [i32le] at c1
          exact puts_end (fun z hz => by have := hmem1 z hz; rw [imax_i]; omega) hlen1 (by rw [imax_i, eb]; omega) hg1
      obtain ⟨g2, e2, hg2⟩ := key2
      rw [e2, ob]
      exact ih g2 (by omega) (by omega) hg2
/-! joining beside -/
def part (g : Nat → Int32) (acc : List Tr) (p : Tr) (k : Nat) (r : List Tr) : Prop := (∀ (i : Nat) (h : i < acc.length), rc g i acc[i]) ∧ rc g acc.length p ∧ ∀ (j : Nat) (h : j < r.length), rc g (k + j) r[j]
theorem lays103 (K : Int32 → Int32 → (Nat → Int32) → Option ((Nat → Int32) × Int32)) {M : Nat} (hM : M ≤ 44) : ∀ (r acc : List Tr) (p : Tr) (k n : Nat) (g : Nat → Int32), okR (p :: r) → acc.length + 1 ≤ k → k + r.length = M → r.length < n → part g acc p k r → ∃ g' x4 x5, fX8_lays_103 (nI M) n K (nI acc.length) (nI k) g = K x4 x5 g' ∧ x4 + 1 = nI (acc ++ mg p r).length ∧ isB g' (acc ++ mg p r) := by
  intro r
  induction r with
  | nil =>
    intro acc p k n g hr hk e hn hp
    obtain ⟨n, rfl⟩ : ∃ m, n = m + 1 := ⟨n - 1, by omega⟩
    rw [List.length_nil, Nat.add_zero] at e
    subst e
    rw [fX8_lays_103, if_pos (nI_le (Nat.le_refl _) (by omega))]
    refine ⟨g, _, _, rfl, ?_, ?_, fun i hi => ?_⟩
    · rw [mg, List.length_append, List.length_singleton]; exact nI_1 _
    · rw [mg, List.length_append, List.length_singleton]; omega
    · rw [mg, List.length_append, List.length_singleton] at hi
      simp only [mg]
      by_cases c : i < acc.length
      · rw [List.getElem_append_left c]; exact hp.1 i c
      · have : i = acc.length := by omega
        subst this
        rw [get_last]; exact hp.2.1
  | cons q r ih =>
    intro acc p k n g hr hk e hn hp
    rw [List.length_cons] at e hn
    obtain ⟨n, rfl⟩ : ∃ m, n = m + 1 := ⟨n - 1, by omega⟩
    have hq : rc g k q := hp.2.2 0 (by rw [List.length_cons]; omega)
    have hpp := hp.2.1
    have h1 := hr.h
    have h2 := hr.t.h
    have e2 : nI (3 * k) + 2 = nI (3 * k + 2) := nI_add (3 * k) 2
    have e2' : nI (3 * acc.length) + 2 = nI (3 * acc.length + 2) := nI_add (3 * acc.length) 2
    have e2'' : nI (3 * (acc.length + 1)) + 2 = nI (3 * (acc.length + 1) + 2) := nI_add (3 * (acc.length + 1)) 2
    rw [fX8_lays_103, if_neg (nI_ge (by omega) (by omega)), nI_1, nI_1, m3, m3, m3, nI_1, nI_1, nI_1, e2, e2', e2'', ld132 (by omega), ob, ld132 (by omega), ob, ld132 (by omega), ob, ld132 (by omega), ob, ld132 (by omega), ob, sv132 (by omega), ob, ob, sv132 (by omega), ob, ld132 (by omega), ob, sv132 (by omega), ob, ld132 (by omega), ob, sv132 (by omega), ob, hq.1, hq.2.2, hpp.2.1, hpp.2.2]
    have ej : (q.2.1 = p.2.2 + 1) ↔ p.2.2.toInt + 1 = q.2.1.toInt := by
      rw [i32eq, toI_1 (by omega) (by omega)]; omega
    have eg : upd (upd (upd g (3 * (acc.length + 1)) q.2.1) (3 * (acc.length + 1) + 1) (upd g (3 * (acc.length + 1)) q.2.1 (3 * k + 1))) (3 * (acc.length + 1) + 2) (upd (upd g (3 * (acc.length + 1)) q.2.1) (3 * (acc.length + 1) + 1) (upd g (3 * (acc.length + 1)) q.2.1 (3 * k + 1)) (3 * k + 2)) = w3 g (acc.length + 1) q := by
      unfold w3
      rw [pk_un (show 3 * k + 1 ≠ 3 * (acc.length + 1) by omega), pk_un (show 3 * k + 2 ≠ 3 * (acc.length + 1) + 1 by omega), pk_un (show 3 * k + 2 ≠ 3 * (acc.length + 1) by omega), hq.2.1, hq.2.2]
    have no : ∃ g' x4 x5, fX8_lays_103 (nI M) n K (nI (acc.length + 1)) (nI (k + 1)) (w3 g (acc.length + 1) q) = K x4 x5 g' ∧ x4 + 1 = nI (acc ++ p :: mg q r).length ∧ isB g' (acc ++ p :: mg q r) := by
      have := ih (acc ++ [p]) q (k + 1) n (w3 g (acc.length + 1) q) hr.t (by rw [List.length_append, List.length_singleton]; omega) (by omega) (by omega) ⟨fun i hi => ?_, by rw [List.length_append, List.length_singleton]; exact rc_s, fun j hj => ?_⟩
      · rw [List.length_append, List.length_singleton, List.append_assoc] at this
        exact this
      · rw [List.length_append, List.length_singleton] at hi
        by_cases c : i < acc.length
        · rw [List.getElem_append_left c]; exact rc_n (by omega) (hp.1 i c)
        · have : i = acc.length := by omega
          subst this
          rw [get_last]; exact rc_n (by omega) hp.2.1
      · have := hp.2.2 (j + 1) (by rw [List.length_cons]; omega)
        rw [List.getElem_cons_succ] at this
        rw [show k + 1 + j = k + (j + 1) by omega]
        exact rc_n (by omega) this
    rw [eg, mg]
    by_cases c1 : p.2.2.toInt + 1 = q.2.1.toInt
    · rw [if_pos (ej.mpr c1)]
      by_cases c2 : q.1 = p.1
      · rw [if_pos c2, if_pos ⟨c2.symm, c1⟩]
        refine ih acc (p.1, p.2.1, q.2.2) (k + 1) n _ ?_ (by omega) (by omega) (by omega) ⟨fun i hi => ?_, ?_, fun j hj => ?_⟩
        · refine okR_i (fun z hz => ?_)
          rcases List.mem_cons.mp hz with e | e
          · rw [e]; exact ⟨h1.1, by show p.2.1.toInt ≤ q.2.2.toInt; omega, h2.2.2⟩
          · exact hr.t.t.i e
        · have := hp.1 i hi
          refine ⟨?_, ?_, ?_⟩
          · rw [pk_un (by omega)]; exact this.1
          · rw [pk_un (by omega)]; exact this.2.1
          · rw [pk_un (by omega)]; exact this.2.2
        · refine ⟨?_, ?_, ?_⟩
          · rw [pk_un (by omega)]; exact hpp.1
          · rw [pk_us]; exact hq.2.1
          · rw [pk_un (by omega)]; exact hpp.2.2
        · have := hp.2.2 (j + 1) (by rw [List.length_cons]; omega)
          rw [List.getElem_cons_succ] at this
          rw [show k + 1 + j = k + (j + 1) by omega]
          refine ⟨?_, ?_, ?_⟩
          · rw [pk_un (by omega)]; exact this.1
          · rw [pk_un (by omega)]; exact this.2.1
          · rw [pk_un (by omega)]; exact this.2.2
      · rw [if_neg c2, if_neg (fun z => c2 z.1.symm)]
        exact no
    · rw [if_neg (fun z => c1 (ej.mp z)), if_neg (fun z => c1 z.2)]
      exact no
theorem join_beside {L : List Tr} {g : Nat → Int32} (hr : okR L) (hg : isB g L) : ∃ g', fX8_lays_103 (nI L.length) FU (fun x4_103 x5_103 g_beside_103 => if nI L.length = 0 then some (g_beside_103, 0) else some (g_beside_103, (x4_103 + 1))) 0 1 g = some (g', nI (mgL L).length) ∧ isB g' (mgL L) := by
  cases L with
  | nil =>
    rw [show FU = 5999 + 1 from rfl, fX8_lays_103, List.length_nil, if_pos (by decide)]
    exact ⟨g, rfl, hg⟩
  | cons p r =>
    have hl := hg.1
    rw [List.length_cons] at hl
    obtain ⟨g', x4, x5, e, e2, hb⟩ := lays103 (fun x4_103 x5_103 g_beside_103 => if nI (p :: r).length = 0 then some (g_beside_103, 0) else some (g_beside_103, (x4_103 + 1))) (M := (p :: r).length) (by rw [List.length_cons]; exact hl) r [] p 1 FU g hr (by rw [List.length_nil]; omega) (by rw [List.length_cons]; omega) (by unfold FU; omega) ⟨fun i hi => absurd hi (Nat.not_lt_zero i), hg.2 0 (by rw [List.length_cons]; omega), fun j hj => by rw [Nat.add_comm]; exact hg.2 (j + 1) (by rw [List.length_cons]; omega)⟩
    rw [List.length_nil, nI_0, show nI 1 = 1 from rfl] at e
    rw [e, if_neg (show ¬ nI (p :: r).length = 0 from nI_ne0 (by rw [List.length_cons]; omega) (by rw [List.length_cons]; omega)), e2]
    exact ⟨g', rfl, hb⟩
theorem lays_ok {row g : Nat → Int32} {n : Int32} {P : List Tr} (hp : isP row P) (hr : okR P) (hs : srt P) {box a b : Int32} (hrg : rgI a b) : ∃ g', fX8_lays row g n a b box = some (g', nI (mgL (cutL box a b P)).length) ∧ isB g' (mgL (cutL box a b P)) := by
  have h40 := hp.1
  have hl := cut_len hrg.2.1 hs
  have hok := cut_okR (box := box) hrg hr
  obtain ⟨r1, r2, r3⟩ := hrg
  have ea : (a - 1).toInt = a.toInt - 1 := toI_m1 (by omega) (by omega)
  have eb : (b + 1).toInt = b.toInt + 1 := toI_1 (by omega) (by omega)
  unfold fX8_lays
  obtain ⟨g1, e1, h1⟩ := lays8_loop hp hr hs ⟨r1, r2, r3⟩ (fun x4_8 g_beside_8 g_besides_8 => if box = (-1) then fX8_lays_103 g_besides_8 FU (fun x4_103 x5_103 g_beside_103 => if g_besides_8 = 0 then some (g_beside_103, 0) else some (g_beside_103, (x4_103 + 1))) 0 1 g_beside_8 else (fX8_puts g_beside_8 g_besides_8 a b box).bind fun r94 => fX8_lays_103 r94.2 FU (fun x4_103 x5_103 g_beside_103 => if r94.2 = 0 then some (g_beside_103, 0) else some (g_beside_103, (x4_103 + 1))) 0 1 r94.1) FU 0 g (Nat.zero_le _) (FU_gt (by omega)) ⟨Nat.zero_le _, fun i hi => absurd hi (Nat.not_lt_zero i)⟩
  rw [show (lfP a (P.take 0) ++ rtP b (P.take 0)).length = 0 from rfl, nI_0] at e1
  rw [e1]
  unfold cutL midP at hok ⊢
  by_cases c : box = -1
  · rw [if_pos c] at hok ⊢
    rw [if_pos c]
    rw [List.nil_append] at hok ⊢
    exact join_beside hok h1
  · rw [if_neg c] at hok ⊢
    rw [if_neg c]
    have hlen : (lfP a P ++ rtP b P).length < 44 := by rw [List.length_append]; omega
    obtain ⟨g2, e2, h2⟩ := puts_ok (L1 := lfP a P) (L2 := rtP b P) (x1 := a) (x2 := b) (x3 := box) (g := g1) (fun z hz => by obtain ⟨q, hq, z1, z2⟩ := lfP_mem hz; subst z2; show q.2.1.toInt ≤ a.toInt; omega) (fun z hz => by obtain ⟨q, hq, z1, z2⟩ := rtP_mem hz; subst z2; show a.toInt < (imax q.2.1 (b + 1)).toInt; rw [imax_i, eb]; omega) hlen r2 h1
    have el : (lfP a P ++ rtP b P).length + 1 = (lfP a P ++ (box, a, b) :: rtP b P).length := by rw [List.length_append, List.length_append, List.length_cons]; omega
    rw [el] at e2
    rw [e2, ob]
    exact join_beside hok h2
