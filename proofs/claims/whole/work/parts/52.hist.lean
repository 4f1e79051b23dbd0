/-! history -/
theorem modA_ext {A : AS} {g g' : Nat → Int32} (h : modA A g) (e : ∀ k, k < 562 → g' k = g k) : modA A g' := by
  obtain ⟨hS, hP, hM, hR, hD⟩ := h
  refine ⟨⟨hS.1, by rw [e _ (by omega)]; exact hS.2.1, fun i hi => ?_⟩, ⟨hP.1, by rw [e _ (by omega)]; exact hP.2.1, fun i hi => ?_⟩, ⟨hM.1, by rw [e _ (by omega)]; exact hM.2.1, fun i hi => ?_⟩, fun j hj => by rw [e _ (by omega)]; exact hR j hj, by rw [e _ (by omega)]; exact hD⟩
  · have h1 := hS.1
    rw [e _ (by omega), e _ (by omega), e _ (by omega)]
    exact hS.2.2 i hi
  · have h1 := hP.1
    rw [e _ (by omega), e _ (by omega), e _ (by omega)]
    exact hP.2.2 i hi
  · have h1 := hM.1
    rw [e _ (by omega), e _ (by omega), e _ (by omega), e _ (by omega)]
    exact hM.2.2 i hi
def blk (h : List AS) (row : Nat → Int32) : Prop := ∀ (i : Nat) (hi : i < h.length), modA h[i] (fun k => row (562 * (h.length - i) + k))
theorem blk_ext {h : List AS} {row row' : Nat → Int32} (hb : blk h row) (e : ∀ k, 562 ≤ k → row' k = row k) : blk h row' := by
  intro i hi
  exact modA_ext (hb i hi) (fun k hk => e _ (by omega))
def shiftR (row : Nat → Int32) (i : Nat) : Nat → Int32 := fun k => if 562 ≤ k ∧ k < i then row (k + 562) else row k
theorem n4496 : (4496 : Int32) = nI 4496 := rfl
theorem n562 : (562 : Int32) = nI 562 := rfl
theorem keep4 {row : Nat → Int32} (k : Int32 → (Nat → Int32) → Option ((Nat → Int32) × Int32)) : ∀ (n i : Nat), 562 ≤ i → i ≤ 4496 → 4496 < i + n → fX8_keepPast_4 8 n k (nI i) (shiftR row i) = k (nI 4496) (shiftR row 4496) := by
  intro n
  induction n with
  | zero => intro i h1 h2 h3; omega
  | succ n ih =>
    intro i h1 h2 h3
    rw [fX8_keepPast_4, n4496]
    by_cases c : i = 4496
    · subst c
      rw [if_pos (nI_le (Nat.le_refl _) (by omega))]
    · rw [if_neg (nI_ge (by omega) (by omega)), if_pos rfl, n562, nI_add, ld58 (by omega), ob, sv_nI (by omega) (by omega), ob, nI_1, ← ih (i + 1) (by omega) (by omega) (by omega)]
      congr 1
      funext j
      unfold shiftR
      by_cases e : j = i
      · subst e
        rw [pk_us, if_neg (by omega), if_pos (by omega)]
      · rw [pk_un e]
        by_cases z : 562 ≤ j ∧ j < i
        · rw [if_pos z, if_pos (by omega)]
        · rw [if_neg z, if_neg (by omega)]
def cpB (row : Nat → Int32) (u i : Nat) : Nat → Int32 := fun k => if 562 + 562 * u ≤ k ∧ k < 562 + 562 * u + i then row (k - (562 + 562 * u)) else row k
theorem keep67 {row : Nat → Int32} {u : Nat} (hu : u ≤ 7) (k : Int32 → (Nat → Int32) → Option ((Nat → Int32) × Int32)) : ∀ (n i : Nat), i ≤ 562 → 562 < i + n → fX8_keepPast_67 (nI u) n k (nI i) (cpB row u i) = k (nI 562) (cpB row u 562) := by
  intro n
  induction n with
  | zero => intro i h1 h2; omega
  | succ n ih =>
    intro i h1 h2
    rw [fX8_keepPast_67]
    by_cases c : i = 562
    · subst c
      rw [n562, if_pos (nI_le (Nat.le_refl _) (by omega))]
    · rw [n562, if_neg (nI_ge (by omega) (by omega)), ld58 (by omega), ob, ix3, nI_add, sv_nI (by omega) (by omega), ob, nI_1, ← ih (i + 1) (by omega) (by omega)]
      congr 1
      funext j
      unfold cpB
      by_cases e : j = 562 + 562 * u + i
      · subst e
        rw [pk_us, if_neg (by omega), if_pos (by omega)]
        exact congrArg row (by omega)
      · rw [pk_un e]
        by_cases z : 562 + 562 * u ≤ j ∧ j < 562 + 562 * u + i
        · rw [if_pos z, if_pos (by omega)]
        · rw [if_neg z, if_neg (by omega)]
theorem cpB0 {row : Nat → Int32} {u : Nat} : cpB row u 0 = row := by
  funext j
  unfold cpB
  rw [if_neg (by omega)]
theorem shiftR0 {row : Nat → Int32} : shiftR row 562 = row := by
  funext j
  unfold shiftR
  rw [if_neg (by omega)]
theorem keepPast_ok {A : AS} {h : List AS} {row : Nat → Int32} (hA : modA A row) (hb : blk h row) (h8 : h.length ≤ 8) : ∃ row', fX8_keepPast row (nI h.length) = some (row', nI ((A :: h).take 8).length) ∧ (∀ k, k < 562 → row' k = row k) ∧ blk ((A :: h).take 8) row' := by
  unfold fX8_keepPast
  by_cases c : h.length = 8
  · have e1 := fun k => keep4 (row := row) k FU 562 (by omega) (by omega) (by unfold FU; omega)
    rw [shiftR0, ← n562] at e1
    have e2 := fun k => keep67 (row := shiftR row 4496) (u := 7) (by omega) k FU 0 (by omega) (by unfold FU; omega)
    rw [cpB0, nI_0] at e2
    have el : ((A :: h).take 8).length = 8 := by rw [List.length_take, List.length_cons]; omega
    refine ⟨cpB (shiftR row 4496) 7 562, ?_, ?_, ?_⟩
    · rw [c, show nI 8 = 8 from rfl, e1, if_pos rfl, show (8 : Int32) - 1 = nI 7 from rfl, e2, el]; rfl
    · intro k hk
      unfold cpB shiftR
      rw [if_neg (by omega), if_neg (by omega)]
    · intro i hi
      rw [el] at hi ⊢
      rw [List.getElem_take]
      cases i with
      | zero =>
        refine modA_ext hA (fun k hk => ?_)
        show cpB (shiftR row 4496) 7 562 (562 * (8 - 0) + k) = row k
        unfold cpB shiftR
        rw [if_pos (by omega), if_neg (by omega)]
        exact congrArg row (by omega)
      | succ j =>
        refine modA_ext (hb j (by omega)) (fun k hk => ?_)
        show cpB (shiftR row 4496) 7 562 (562 * (8 - (j + 1)) + k) = row (562 * (h.length - j) + k)
        unfold cpB shiftR
        rw [if_neg (by omega), if_pos (by omega)]
        exact congrArg row (by omega)
  · have e2 := fun k => keep67 (row := row) (u := h.length) (by omega) k FU 0 (by omega) (by unfold FU; omega)
    rw [cpB0, nI_0] at e2
    have et : (A :: h).take 8 = A :: h := List.take_of_length_le (by rw [List.length_cons]; omega)
    rw [et]
    refine ⟨cpB row h.length 562, ?_, ?_, ?_⟩
    · rw [show FU = 5999 + 1 from rfl, fX8_keepPast_4, if_neg (by decide), if_neg (show ¬ nI h.length = 8 from nI_ne (c := 8) c (by omega) (by omega)), if_neg (show ¬ nI h.length = 8 from nI_ne (c := 8) c (by omega) (by omega)), Int32.sub_zero, show 5999 + 1 = FU from rfl, e2, List.length_cons, nI_1]
    · intro k hk
      unfold cpB
      rw [if_neg (by omega)]
    · intro i hi
      cases i with
      | zero =>
        refine modA_ext hA (fun k hk => ?_)
        show cpB row h.length 562 (562 * ((A :: h).length - 0) + k) = row k
        rw [List.length_cons]
        unfold cpB
        rw [if_pos (by omega)]
        exact congrArg row (by omega)
      | succ j =>
        rw [List.length_cons] at hi
        refine modA_ext (hb j (by omega)) (fun k hk => ?_)
        show cpB row h.length 562 (562 * ((A :: h).length - (j + 1)) + k) = row (562 * (h.length - j) + k)
        rw [List.length_cons]
        unfold cpB
        rw [if_neg (by omega)]
        exact congrArg row (by omega)
/-! the class: snapshots -/
theorem cpy_ok {n0 n1 n : Nat} {f g : Nat → Int32} (h0 : n ≤ n0) (h1 : n ≤ n1) (hn : n < 2 ^ 31) : cpy n0 f 0 n1 g 0 (nI n) = some (va_cpy f g 0 0 n) := by
  unfold cpy
  rw [nI_clamp hn, show (0 : Int32).toNatClampNeg = 0 from rfl, if_pos ⟨by decide, by decide, nI_nneg hn, by omega, by omega⟩]
theorem cpy_at {f g : Nat → Int32} {n j : Nat} (h : j < n) : va_cpy f g 0 0 n j = f j := by
  rw [pk_cpy_in (Nat.zero_le _) (by omega)]
  congr 1
  omega
theorem e_copyFrom {N M : Nat} {v src : Rg} {l : List Tr} (h : isL M src l) (hl : l.length ≤ N) (hN : N < 2 ^ 30) : ∃ v', fX4_copyFrom N M v src = some v' ∧ isL N v' l := by
  have h1 := h.1
  have h2 := h.2.1
  unfold fX4_copyFrom
  have e : imin src.2.2.2 (nI N) = nI l.length := by
    rw [h.n, i32eq, imin_i, nI_toInt (by omega), nI_toInt (by omega)]; omega
  rw [e, cpy_ok h1 hl (by omega), ob, cpy_ok h1 hl (by omega), ob, cpy_ok h1 hl (by omega), ob]
  refine ⟨_, rfl, hl, hN, rfl, fun i hi => ?_⟩
  have := h.2.2.2 i hi
  exact ⟨(cpy_at hi).trans this.1, (cpy_at hi).trans this.2.1, (cpy_at hi).trans this.2.2⟩
theorem cut_pre {N : Nat} {v : Rg} {l L : List Tr} (h : isL N v L) (hp : l <+: L) : ∃ v', fX4_cutTo N v (nI l.length) = some v' ∧ isL N v' l := by
  have h1 := h.1
  have h2 := h.2.1
  have hlen := hp.length_le
  unfold fX4_cutTo
  rw [if_neg (nI_nneg (by omega)), h.n]
  by_cases c : L.length ≤ l.length
  · rw [if_pos (nI_le c (by omega))]
    have : l = L := hp.eq_of_length (by omega)
    subst this
    exact ⟨v, rfl, h⟩
  · rw [if_neg (nI_ge (by omega) (by omega))]
    refine ⟨_, rfl, by omega, h2, rfl, fun i hi => ?_⟩
    have := h.2.2.2 i (by omega)
    have e : l[i] = L[i]'(by omega) := hp.getElem hi
    rw [e]
    exact this
theorem remember_ok {A : AS} {rooms md : Nat → Int32} {day : Int32} {series pieces moves : Rg} {slots : Nat → Sn} {t : Nat} (hC : clsA A rooms md day series pieces moves) (h40 : A.2.1.length ≤ 40) (ht : t < 9) : ∃ slots', fX1_remember slots (nI t) rooms day series pieces moves = some slots' ∧ snpA A (slots' t) ∧ ∀ i, i ≠ t → slots' i = slots i := by
  obtain ⟨hS, hP, hM, hD, hR, hd⟩ := hC
  unfold fX1_remember fX0_saveTo
  obtain ⟨v', ev, hv⟩ := e_copyFrom (N := 40) (v := (slots t).2.1) hP h40 (by decide)
  rw [nI_clamp (by omega), if_neg (by rintro (z | z); exact nI_nneg (by omega) z; omega), e_size hS, ob, e_size hM, ob, ev, ob, show (8 : Int32) = nI 8 from rfl, cpy_ok (by omega) (by omega) (by omega), ob, ob]
  refine ⟨_, rfl, ?_, fun i hi => ?_⟩
  · unfold va_up
    rw [if_pos rfl]
    exact ⟨fun j hj => (cpy_at hj).trans (hR j hj), hv, rfl, by show nI _ = nI _; rw [List.length_map], hd⟩
  · unfold va_up
    rw [if_neg hi]
/-- what is left of A when a call has failed halfway -/
def clsW (A : AS) (md : Nat → Int32) (series moves : Rg) : Prop := (∃ L, isL 10 series L ∧ A.1 <+: L) ∧ (∃ L, isL 100 moves L ∧ A.2.2.1.map Prod.snd <+: L) ∧ ∀ (i : Nat) (h : i < A.2.2.1.length), md i = (A.2.2.1[i]).1
theorem clsW_of {A : AS} {rooms md : Nat → Int32} {day : Int32} {series pieces moves : Rg} (h : clsA A rooms md day series pieces moves) : clsW A md series moves := ⟨⟨_, h.1, List.prefix_refl _⟩, ⟨_, h.2.2.1, List.prefix_refl _⟩, h.2.2.2.1⟩
theorem restore_ok {A : AS} {rooms md : Nat → Int32} {day : Int32} {series pieces moves : Rg} {s : Sn} (hs : snpA A s) (hW : clsW A md series moves) : ∃ rooms' day' series' pieces' moves', fX0_restoreFrom rooms day series pieces moves s.1 s.2.2.1 s.2.2.2.1 s.2.2.2.2 s.2.1 = some (rooms', day', series', pieces', moves') ∧ clsA A rooms' md day' series' pieces' moves' := by
  obtain ⟨⟨L1, h1, p1⟩, ⟨L2, h2, p2⟩, hd⟩ := hW
  obtain ⟨s1, s2, s3, s4, s5⟩ := hs
  obtain ⟨v1, e1, i1⟩ := cut_pre h1 p1
  obtain ⟨v2, e2, i2⟩ := cut_pre h2 p2
  obtain ⟨v3, e3, i3⟩ := e_copyFrom (N := 42) (v := pieces) s2 (by have := s2.1; omega) (by decide)
  rw [List.length_map] at e2
  unfold fX0_restoreFrom
  rw [s3, e1, ob, s4, e2, ob, e3, ob, show (8 : Int32) = nI 8 from rfl, cpy_ok (by omega) (by omega) (by omega), ob]
  exact ⟨_, _, _, _, _, rfl, i1, i3, i2, hd, fun j hj => (cpy_at hj).trans (s1 j hj), s5⟩
theorem giveBack_ok {A : AS} {rooms md : Nat → Int32} {day : Int32} {series pieces moves : Rg} {slots : Nat → Sn} {t : Nat} (ht : t < 9) (hs : snpA A (slots t)) (hW : clsW A md series moves) : ∃ rooms' day' series' pieces' moves', fX1_giveBack slots (nI t) rooms day series pieces moves = some (rooms', day', series', pieces', moves') ∧ clsA A rooms' md day' series' pieces' moves' := by
  unfold fX1_giveBack
  rw [nI_clamp (by omega), if_neg (by rintro (z | z); exact nI_nneg (by omega) z; omega)]
  exact restore_ok hs hW
theorem keep_ok {t n : Nat} (ht : t < 9) (hn : n ≤ 8) : fX1_keep (nI t) (nI n) = some (nI ((t + 1) % 9), nI (min (n + 1) 8)) := by
  unfold fX1_keep
  have e : imin (nI n + 1) 8 = nI (min (n + 1) 8) := by
    rw [nI_1, show (8 : Int32) = nI 8 from rfl, i32eq, imin_i, nI_toInt (by omega), nI_toInt (by omega), nI_toInt (by omega)]; omega
  rw [e, show (8 : Int32) = nI 8 from rfl]
  by_cases c : t = 8
  · subst c
    rw [if_pos (nI_le (Nat.le_refl _) (by omega))]; rfl
  · rw [if_neg (nI_ge (by omega) (by omega)), nI_1, Nat.mod_eq_of_lt (by omega)]
theorem settle_yes {rooms : Nat → Int32} {day : Int32} {series pieces moves : Rg} {slots : Nat → Sn} {t n : Nat} (ht : t < 9) (hn : n ≤ 8) {r : Int32} (hr : 0 ≤ r.toInt) : fX7_settle rooms day series pieces moves slots (nI t) (nI n) r = some (r, rooms, day, series, pieces, moves, nI ((t + 1) % 9), nI (min (n + 1) 8)) := by
  unfold fX7_settle
  rw [if_pos (by rw [i32le]; exact hr), keep_ok ht hn, ob]
theorem settle_no {A : AS} {rooms md : Nat → Int32} {day : Int32} {series pieces moves : Rg} {slots : Nat → Sn} {t : Nat} {steps : Int32} (ht : t < 9) {r : Int32} (hr : r.toInt < 0) (hs : snpA A (slots t)) (hW : clsW A md series moves) : ∃ rooms' day' series' pieces' moves', fX7_settle rooms day series pieces moves slots (nI t) steps r = some (r, rooms', day', series', pieces', moves', nI t, steps) ∧ clsA A rooms' md day' series' pieces' moves' := by
  unfold fX7_settle
  obtain ⟨a, b, c, d, e, h1, h2⟩ := giveBack_ok (rooms := rooms) (day := day) (pieces := pieces) ht hs hW
  rw [if_neg (by rw [i32le, t0]; omega), h1, ob]
  exact ⟨a, b, c, d, e, rfl, h2⟩
/-! what calls do to the history -/
theorem histR.b {D : Int} {A : AS} {h : List AS} {slots : Nat → Sn} {top steps : Int32} {row : Nat → Int32} {undos : Int32} (H : histR D A h slots top steps row undos) : blk h row := by
  obtain ⟨_, _, _, _, _, t, _, _, h2⟩ := H
  exact fun i hi => (h2 i hi).2
theorem hist_no {D : Int} {A : AS} {h : List AS} {slots slots' : Nat → Sn} {steps : Int32} {row row' : Nat → Int32} {undos : Int32} {t : Nat} (ht : t < 9) (H : histR D A h slots (nI t) steps row undos) (hs : ∀ i, i ≠ t → slots' i = slots i) (hr : ∀ k, 562 ≤ k → row' k = row k) : histR D A h slots' (nI t) steps row' undos := by
  obtain ⟨h8, e1, e2, ho, hk, t', ht', et, h2⟩ := H
  have : t = t' := (nI_eq (by omega) (by omega)).mp et
  subst this
  refine ⟨h8, e1, e2, ho, hk, t, ht, rfl, fun i hi => ⟨?_, modA_ext (h2 i hi).2 (fun k _ => hr _ (by omega))⟩⟩
  rw [hs _ (by omega)]
  exact (h2 i hi).1
theorem older_take {A : AS} {h : List AS} (H : older A h) : ∀ n, older A (h.take n) := by
  induction h generalizing A with
  | nil => intro n; rw [List.take_nil]; trivial
  | cons B h ih =>
    intro n
    cases n with
    | zero => trivial
    | succ n => exact ⟨H.1, H.2.1, ih H.2.2 n⟩
theorem okA_mono {D D' : Int} {A : AS} (h : okA D A) (hD : D ≤ D') : okA D' A := ⟨h.1, h.2.1, h.2.2.1, h.2.2.2.1, h.2.2.2.2.1, Int.le_trans h.2.2.2.2.2 hD⟩
theorem hist_yes {D D' : Int} {A A' : AS} {h : List AS} {slots slots' : Nat → Sn} {row row' : Nat → Int32} {steps undos : Int32} {t : Nat} (ht : t < 9) (H : histR D A h slots (nI t) steps row undos) (hA : okA D A) (hD : D ≤ D') (p1 : A.1 <+: A'.1) (p2 : A.2.2.1 <+: A'.2.2.1) (hs : ∀ i, i ≠ t → slots' i = slots i) (hsn : snpA A (slots' t)) (hb : blk ((A :: h).take 8) row') : histR D' A' ((A :: h).take 8) slots' (nI ((t + 1) % 9)) (nI (min (h.length + 1) 8)) row' (nI ((A :: h).take 8).length) := by
  obtain ⟨h8, e1, e2, ho, hk, t', ht', et, h2⟩ := H
  have : t = t' := (nI_eq (by omega) (by omega)).mp et
  subst this
  have el : ((A :: h).take 8).length = min (h.length + 1) 8 := by rw [List.length_take, List.length_cons]; omega
  refine ⟨by omega, by rw [el], rfl, older_take (h := A :: h) ⟨p1, p2, ho⟩ 8, fun B hB => ?_, (t + 1) % 9, by omega, rfl, fun i hi => ⟨?_, hb i hi⟩⟩
  · have := List.mem_of_mem_take hB
    rcases List.mem_cons.mp this with e | e
    · rw [e]; exact okA_mono hA hD
    · exact okA_mono (hk B e) hD
  · rw [List.getElem_take]
    cases i with
    | zero =>
      rw [show ((t + 1) % 9 + 8 - 0) % 9 = t by omega]
      exact hsn
    | succ j =>
      rw [show ((t + 1) % 9 + 8 - (j + 1)) % 9 = (t + 8 - j) % 9 by omega, hs _ (by omega)]
      exact (h2 j (by omega)).1
theorem hist_steps {D : Int} {A : AS} {h : List AS} {slots : Nat → Sn} {top steps : Int32} {row : Nat → Int32} {undos : Int32} (H : histR D A h slots top steps row undos) : h.length ≤ 8 ∧ steps = nI h.length ∧ undos = nI h.length ∧ ∃ t : Nat, t < 9 ∧ top = nI t := by
  obtain ⟨h8, e1, e2, ho, hk, t', ht', et, h2⟩ := H
  exact ⟨h8, e1, e2, t', ht', et⟩
