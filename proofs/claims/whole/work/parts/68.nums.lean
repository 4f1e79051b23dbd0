/-! numbers of a command -/
def sT : List (List Nat) := [[], [1, 3, 4], [3, 4], [2, 5], [2, 3, 4], [3, 4], [2, 3, 4], [6]]
def arv (v : Nat) : Nat := (sT.getD v []).length
def stv (v i : Nat) : Nat := (sT.getD v []).getD i 0
def kx (v : Nat) : Nat := [8, 9, 10, 11, 12, 10, 12, 13].getD v 0
def lo (s : Nat) (bef : Int32) : Int32 := if s = 3 ∨ s = 6 then 1 else if s = 4 then bef else 0
def hi (s : Nat) : Int32 := if s = 1 then 9 else if s = 2 then 7 else if s = 6 then 999 else 2000000000
def chs (s : Nat) : Int32 := [0, 80, 88, 65, 66, 82, 78].getD s 0
theorem ktab : ∀ v, v < 8 → fX6_kindsOf (nI v) = some (kx v) ∧ sLn (kx v) = some (nI (arv v)) ∧ arv v ≤ 3 := by decide +kernel
theorem ktab2a : ∀ v, v < 8 → ∀ i, i < 3 → (i < arv v → sAt (kx v) (nI i) = some (chs (stv v i)) ∧ wX8_462 (3 * v + i) = nI (stv v i)) ∧ (arv v ≤ i → wX8_462 (3 * v + i) = 0) := by decide +kernel
theorem ktab2b : ∀ v, v < 8 → ∀ i, i < 3 → i < arv v → 1 ≤ stv v i ∧ stv v i ≤ 6 := by decide +kernel
theorem ktab2c : ∀ v, v < 8 → stv v 0 ≠ 4 := by decide +kernel
theorem six {s : Nat} (h1 : 1 ≤ s) (h2 : s ≤ 6) : s = 1 ∨ s = 2 ∨ s = 3 ∨ s = 4 ∨ s = 5 ∨ s = 6 := by omega
theorem e_lowest {s : Nat} (h1 : 1 ≤ s) (h2 : s ≤ 6) (bef : Int32) : fX6_lowest (chs s) bef = some (lo s bef) := by
  rcases six h1 h2 with h | h | h | h | h | h <;> subst h <;> rfl
theorem e_highest {s : Nat} (h1 : 1 ≤ s) (h2 : s ≤ 6) : fX6_highest (chs s) = some (hi s) := by
  rcases six h1 h2 with h | h | h | h | h | h <;> subst h <;> rfl
theorem lo_nn {s : Nat} {bef : Int32} (hb : 0 ≤ bef.toInt) : 0 ≤ (lo s bef).toInt := by
  unfold lo
  split
  · decide
  · split
    · exact hb
    · decide
theorem hi_le {s : Nat} : (hi s).toInt ≤ 2000000000 := by
  unfold hi
  (repeat' split) <;> decide
theorem dg64 {y : Int32} (h : 48 ≤ y ∧ y ≤ 57) (v : Int64) : ((10 * v) + y.toInt64) - 48 = v * 10 + (y - 48).toInt64 := by
  have h1 := h.1
  have h2 := h.2
  rw [i32le] at h1 h2
  rw [show (48 : Int32).toInt = 48 from rfl] at h1
  rw [show (57 : Int32).toInt = 57 from rfl] at h2
  have e : (y - 48).toInt64 = y.toInt64 - 48 := by
    apply Int64.toInt_inj.mp
    rw [Int32.toInt_toInt64, toI_sub, toL_sub, Int32.toInt_toInt64]
    · rfl
    all_goals (try rw [Int32.toInt_toInt64]) <;> (try rw [show (48 : Int64).toInt = 48 from rfl]) <;> (try rw [show (48 : Int32).toInt = 48 from rfl]) <;> omega
  rw [e]
  grind
theorem n50 {b b' : Nat → Int32} {n e : Nat} (hn : n ≤ 200) (hs : same n b b') (he : e ≤ n) (K : Int64 → Int32 → Option (Int32 × Int32 × Int32 × (Nat → Int32))) : ∀ (fu i : Nat) (v : Int64), i ≤ e → e < i + fu → (∀ j, i ≤ j → j < e → 48 ≤ b j ∧ b j ≤ 57) → fX8_number_50 b' (nI e) fu K v (nI i) = K (dgN b (e - i) i v) (nI e) := by
  intro fu
  induction fu with
  | zero => intro i v h1 h2; omega
  | succ fu ih =>
    intro i v h1 h2 hd
    rw [fX8_number_50]
    by_cases c : i < e
    · rw [if_neg (nI_ge c (by omega)), ld_nI (by omega) (by omega), ob, ← hs i (by omega), dg64 (hd i (by omega) c), nI_1, ih (i + 1) _ (by omega) (by omega) (fun j h3 h4 => hd j (by omega) h4), show e - i = (e - (i + 1)) + 1 by omega, dgN]
    · rw [if_pos (nI_le (by omega) (by omega)), show e = i by omega, Nat.sub_self, dgN]
/-- what the reference does with the value -/
theorem num_core {b' : Nat → Int32} {N F E : Int32} {g8 : Nat → Int32} {i s : Nat} (h1 : 1 ≤ s) (h2 : s ≤ 6) (hi3 : i < 3) {bef : Int32} (hg : s = 4 → 1 ≤ i ∧ g8 (i - 1) = bef) (v : Int64) : (if nI s = 3 then if nI s = 1 then (fX8_in v 1 9).bind fun r163 => if r163 = 0 then some ((0 : Int32), F, E, g8) else (sv 3 g8 (nI i) v.toInt32).bind fun g178 => (fX8_nextToken b' N F E).bind fun r180 => some ((1 : Int32), r180.1, r180.2, g178) else if nI s = 2 then (fX8_in v 1 7).bind fun r163 => if r163 = 0 then some ((0 : Int32), F, E, g8) else (sv 3 g8 (nI i) v.toInt32).bind fun g178 => (fX8_nextToken b' N F E).bind fun r180 => some ((1 : Int32), r180.1, r180.2, g178) else if nI s = 6 then (fX8_in v 1 999).bind fun r163 => if r163 = 0 then some ((0 : Int32), F, E, g8) else (sv 3 g8 (nI i) v.toInt32).bind fun g178 => (fX8_nextToken b' N F E).bind fun r180 => some ((1 : Int32), r180.1, r180.2, g178) else (fX8_in v 1 2000000000).bind fun r163 => if r163 = 0 then some ((0 : Int32), F, E, g8) else (sv 3 g8 (nI i) v.toInt32).bind fun g178 => (fX8_nextToken b' N F E).bind fun r180 => some ((1 : Int32), r180.1, r180.2, g178) else if nI s = 6 then if nI s = 1 then (fX8_in v 1 9).bind fun r163 => if r163 = 0 then some ((0 : Int32), F, E, g8) else (sv 3 g8 (nI i) v.toInt32).bind fun g178 => (fX8_nextToken b' N F E).bind fun r180 => some ((1 : Int32), r180.1, r180.2, g178) else if nI s = 2 then (fX8_in v 1 7).bind fun r163 => if r163 = 0 then some ((0 : Int32), F, E, g8) else (sv 3 g8 (nI i) v.toInt32).bind fun g178 => (fX8_nextToken b' N F E).bind fun r180 => some ((1 : Int32), r180.1, r180.2, g178) else if nI s = 6 then (fX8_in v 1 999).bind fun r163 => if r163 = 0 then some ((0 : Int32), F, E, g8) else (sv 3 g8 (nI i) v.toInt32).bind fun g178 => (fX8_nextToken b' N F E).bind fun r180 => some ((1 : Int32), r180.1, r180.2, g178) else (fX8_in v 1 2000000000).bind fun r163 => if r163 = 0 then some ((0 : Int32), F, E, g8) else (sv 3 g8 (nI i) v.toInt32).bind fun g178 => (fX8_nextToken b' N F E).bind fun r180 => some ((1 : Int32), r180.1, r180.2, g178) else if nI s = 4 then (ld 3 g8 (nI i - 1)).bind fun y111 => if nI s = 1 then (fX8_in v y111.toInt64 9).bind fun r163 => if r163 = 0 then some ((0 : Int32), F, E, g8) else (sv 3 g8 (nI i) v.toInt32).bind fun g178 => (fX8_nextToken b' N F E).bind fun r180 => some ((1 : Int32), r180.1, r180.2, g178) else if nI s = 2 then (fX8_in v y111.toInt64 7).bind fun r163 => if r163 = 0 then some ((0 : Int32), F, E, g8) else (sv 3 g8 (nI i) v.toInt32).bind fun g178 => (fX8_nextToken b' N F E).bind fun r180 => some ((1 : Int32), r180.1, r180.2, g178) else if nI s = 6 then (fX8_in v y111.toInt64 999).bind fun r163 => if r163 = 0 then some ((0 : Int32), F, E, g8) else (sv 3 g8 (nI i) v.toInt32).bind fun g178 => (fX8_nextToken b' N F E).bind fun r180 => some ((1 : Int32), r180.1, r180.2, g178) else (fX8_in v y111.toInt64 2000000000).bind fun r163 => if r163 = 0 then some ((0 : Int32), F, E, g8) else (sv 3 g8 (nI i) v.toInt32).bind fun g178 => (fX8_nextToken b' N F E).bind fun r180 => some ((1 : Int32), r180.1, r180.2, g178) else if nI s = 1 then (fX8_in v 0 9).bind fun r163 => if r163 = 0 then some ((0 : Int32), F, E, g8) else (sv 3 g8 (nI i) v.toInt32).bind fun g178 => (fX8_nextToken b' N F E).bind fun r180 => some ((1 : Int32), r180.1, r180.2, g178) else if nI s = 2 then (fX8_in v 0 7).bind fun r163 => if r163 = 0 then some ((0 : Int32), F, E, g8) else (sv 3 g8 (nI i) v.toInt32).bind fun g178 => (fX8_nextToken b' N F E).bind fun r180 => some ((1 : Int32), r180.1, r180.2, g178) else if nI s = 6 then (fX8_in v 0 999).bind fun r163 => if r163 = 0 then some ((0 : Int32), F, E, g8) else (sv 3 g8 (nI i) v.toInt32).bind fun g178 => (fX8_nextToken b' N F E).bind fun r180 => some ((1 : Int32), r180.1, r180.2, g178) else (fX8_in v 0 2000000000).bind fun r163 => if r163 = 0 then some ((0 : Int32), F, E, g8) else (sv 3 g8 (nI i) v.toInt32).bind fun g178 => (fX8_nextToken b' N F E).bind fun r180 => some ((1 : Int32), r180.1, r180.2, g178)) = if (lo s bef).toInt64 ≤ v ∧ v ≤ (hi s).toInt64 then (fX8_nextToken b' N F E).bind fun r180 => some ((1 : Int32), r180.1, r180.2, upd g8 i v.toInt32) else some ((0 : Int32), F, E, g8) := by
  rw [sv_nI hi3 (by omega)]
  simp only [ob, e8_in, i01]
  rcases six h1 h2 with h | h | h | h | h | h
  · subst h
    rw [if_neg (by decide), if_neg (by decide), if_neg (by decide), if_pos (by decide), show (lo 1 bef).toInt64 = 0 from rfl, show (hi 1).toInt64 = 9 from by decide]
  · subst h
    rw [if_neg (by decide), if_neg (by decide), if_neg (by decide), if_neg (by decide), if_pos (by decide), show (lo 2 bef).toInt64 = 0 from rfl, show (hi 2).toInt64 = 7 from by decide]
  · subst h
    rw [if_pos (by decide), if_neg (by decide), if_neg (by decide), if_neg (by decide), show (lo 3 bef).toInt64 = 1 from rfl, show (hi 3).toInt64 = 2000000000 from by decide]
  · subst h
    obtain ⟨h3, h4⟩ := hg rfl
    obtain ⟨j, rfl⟩ : ∃ j, i = j + 1 := ⟨i - 1, by omega⟩
    rw [Nat.add_sub_cancel] at h4
    rw [if_neg (by decide), if_neg (by decide), if_pos (by decide), nI_pred, ld_nI (by omega) (by omega), ob, h4, if_neg (by decide), if_neg (by decide), if_neg (by decide), show lo 4 bef = bef from rfl, show (hi 4).toInt64 = 2000000000 from by decide]
  · subst h
    rw [if_neg (by decide), if_neg (by decide), if_neg (by decide), if_neg (by decide), if_neg (by decide), if_neg (by decide), show (lo 5 bef).toInt64 = 0 from rfl, show (hi 5).toInt64 = 2000000000 from by decide]
  · subst h
    rw [if_neg (by decide), if_pos (by decide), if_neg (by decide), if_neg (by decide), if_pos (by decide), show (lo 6 bef).toInt64 = 1 from rfl, show (hi 6).toInt64 = 999 from by decide]
theorem num1 {b b' : Nat → Int32} {n q : Nat} (hn : n ≤ 200) (hsm : same n b b') (hq : q ≤ n) {s i : Nat} (h1 : 1 ≤ s) (h2 : s ≤ 6) (hi3 : i < 3) {bef : Int32} (hb : 0 ≤ bef.toInt) : ∃ (v : Int64) (e : Nat), fX6_readNumber b (nI n) (nI (skp (fun x => x = 32) b n q)) = some (v, nI e) ∧ q ≤ e ∧ e ≤ n ∧ ((¬ ((lo s bef).toInt64 ≤ v ∧ v ≤ (hi s).toInt64) ∧ ∀ g8 : Nat → Int32, (s = 4 → 1 ≤ i ∧ g8 (i - 1) = bef) → fX8_number b' (nI n) (nI (skp (fun x => x = 32) b n q)) (nI (te b n q)) g8 (nI i) (nI s) = some (0, nI (skp (fun x => x = 32) b n q), nI (te b n q), g8)) ∨ (((lo s bef).toInt64 ≤ v ∧ v ≤ (hi s).toInt64) ∧ ∀ g8 : Nat → Int32, (s = 4 → 1 ≤ i ∧ g8 (i - 1) = bef) → fX8_number b' (nI n) (nI (skp (fun x => x = 32) b n q)) (nI (te b n q)) g8 (nI i) (nI s) = some (1, nI (skp (fun x => x = 32) b n e), nI (te b n e), upd g8 i v.toInt32))) := by
  have hle := skp_le (P := fun x => x = 32) (b := b) (n := n) _ q rfl hq
  have hle2 := skp_le (P := fun x => 48 ≤ x ∧ x ≤ 57) (b := b) (n := n) _ (skp (fun x => x = 32) b n q) rfl hle.2
  have hlo := lo_nn (s := s) hb
  refine ⟨_, skp (fun x => 48 ≤ x ∧ x ≤ 57) b n (skp (fun x => x = 32) b n q), e_readNumber hn hle.2, by omega, hle2.2, ?_⟩
  have hm1 : ¬ ((lo s bef).toInt64 ≤ (-1 : Int64) ∧ (-1 : Int64) ≤ (hi s).toInt64) := by
    rintro ⟨z, _⟩
    rw [Int64.le_iff_toInt_le, Int32.toInt_toInt64, show (-1 : Int64).toInt = -1 from rfl] at z
    omega
  by_cases c1 : skp (fun x => x = 32) b n q < n
  · have hne : ¬ nI (skp (fun x => x = 32) b n q) = nI n := nI_ne (by omega) (by omega) (by omega)
    by_cases c2 : 48 ≤ b (skp (fun x => x = 32) b n q) ∧ b (skp (fun x => x = 32) b n q) ≤ 57
    · have hst := skp_step (P := fun x => 48 ≤ x ∧ x ≤ 57) (b := b) c1 c2
      have hle3 := skp_le (P := fun x => 48 ≤ x ∧ x ≤ 57) (b := b) (n := n) _ (skp (fun x => x = 32) b n q + 1) rfl (by omega)
      have hall := skp_all (P := fun x => 48 ≤ x ∧ x ≤ 57) (b := b) (n := n) _ (skp (fun x => x = 32) b n q) rfl
      have hte : te b n q = skp (fun x => 48 ≤ x ∧ x ≤ 57) b n (skp (fun x => x = 32) b n q) := by
        unfold te
        rw [if_pos c1, if_neg (fun z => by have z1 := z.1; have c3 := c2.2; rw [i32le] at z1 c3; rw [show (97 : Int32).toInt = 97 from rfl] at z1; rw [show (57 : Int32).toInt = 57 from rfl] at c3; omega), if_pos c2]
      rw [hte]
      generalize hE : skp (fun x => 48 ≤ x ∧ x ≤ 57) b n (skp (fun x => x = 32) b n q) = E at *
      generalize hF : skp (fun x => x = 32) b n q = F at *
      have es : nI E - nI F = nI (E - F) := by
        have := nI_subc (E - F) F
        rw [show E - F + F = E by omega] at this
        exact this
      by_cases c3 : 10 < E - F
      · left
        rw [if_pos (Or.inr c3)]
        refine ⟨hm1, fun g8 hg => ?_⟩
        unfold fX8_number
        rw [if_neg hne, ld_nI (by omega) (by omega), ob, ← hsm _ c1, e8_isDigit, ob, i01, if_pos c2, es, if_neg (show ¬ nI (E - F) ≤ 10 from nI_ge (a := 10) c3 (by omega))]
      · have hcond : ¬ (E = F ∨ 10 < E - F) := fun z => z.elim (fun y => by omega) c3
        rw [if_neg hcond]
        by_cases c4 : (lo s bef).toInt64 ≤ dgN b (E - F) F 0 ∧ dgN b (E - F) F 0 ≤ (hi s).toInt64
        · right
          refine ⟨c4, fun g8 hg => ?_⟩
          unfold fX8_number
          rw [if_neg hne, ld_nI (by omega) (by omega), ob, ← hsm _ c1, e8_isDigit, ob, i01, if_pos c2, es, if_pos (show nI (E - F) ≤ 10 from nI_le (b := 10) (by omega) (by omega)), n50 hn hsm hle2.2 _ FU F 0 (by omega) (by unfold FU; omega) hall]
          refine (num_core h1 h2 hi3 hg _).trans ?_
          rw [if_pos c4, e8_next hn hsm hle2.2, ob]
        · left
          refine ⟨c4, fun g8 hg => ?_⟩
          unfold fX8_number
          rw [if_neg hne, ld_nI (by omega) (by omega), ob, ← hsm _ c1, e8_isDigit, ob, i01, if_pos c2, es, if_pos (show nI (E - F) ≤ 10 from nI_le (b := 10) (by omega) (by omega)), n50 hn hsm hle2.2 _ FU F 0 (by omega) (by unfold FU; omega) hall]
          refine (num_core h1 h2 hi3 hg _).trans ?_
          rw [if_neg c4]
    · left
      rw [if_pos (Or.inl (skp_stop (fun z => c2 z.2)))]
      refine ⟨hm1, fun g8 hg => ?_⟩
      unfold fX8_number
      rw [if_neg hne, ld_nI (by omega) (by omega), ob, ← hsm _ c1, e8_isDigit, ob, i01, if_neg c2]
  · left
    have ef : skp (fun x => x = 32) b n q = n := by omega
    rw [if_pos (Or.inl (skp_stop (fun z => c1 z.1)))]
    refine ⟨hm1, fun g8 hg => ?_⟩
    unfold fX8_number
    rw [ef, if_pos rfl]
