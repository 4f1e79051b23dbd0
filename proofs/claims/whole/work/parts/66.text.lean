/-! the text: tokens -/
def skf (P : Int32 → Prop) [DecidablePred P] (b : Nat → Int32) (n : Nat) : Nat → Nat → Nat
  | 0, p => p
  | k + 1, p => if p < n ∧ P (b p) then skf P b n k (p + 1) else p
def skp (P : Int32 → Prop) [DecidablePred P] (b : Nat → Int32) (n p : Nat) : Nat := skf P b n (n - p) p
theorem skp_step {P : Int32 → Prop} [DecidablePred P] {b : Nat → Int32} {n p : Nat} (h : p < n) (hp : P (b p)) : skp P b n p = skp P b n (p + 1) := by
  unfold skp
  rw [show n - p = (n - (p + 1)) + 1 by omega, skf, if_pos ⟨h, hp⟩]
theorem skp_stop {P : Int32 → Prop} [DecidablePred P] {b : Nat → Int32} {n p : Nat} (h : ¬ (p < n ∧ P (b p))) : skp P b n p = p := by
  unfold skp
  cases n - p with
  | zero => rfl
  | succ k => rw [skf, if_neg h]
theorem skp_le {P : Int32 → Prop} [DecidablePred P] {b : Nat → Int32} {n : Nat} : ∀ (d p : Nat), n - p = d → p ≤ n → p ≤ skp P b n p ∧ skp P b n p ≤ n := by
  intro d
  induction d with
  | zero => intro p h1 h2; rw [skp_stop (by omega)]; omega
  | succ d ih =>
    intro p h1 h2
    by_cases c : p < n ∧ P (b p)
    · rw [skp_step c.1 c.2]
      have := ih (p + 1) (by omega) (by omega)
      omega
    · rw [skp_stop c]; omega
theorem skp_all {P : Int32 → Prop} [DecidablePred P] {b : Nat → Int32} {n : Nat} : ∀ (d p : Nat), n - p = d → ∀ j, p ≤ j → j < skp P b n p → P (b j) := by
  intro d
  induction d with
  | zero => intro p h1 j h2 h3; rw [skp_stop (by omega)] at h3; omega
  | succ d ih =>
    intro p h1 j h2 h3
    by_cases c : p < n ∧ P (b p)
    · rw [skp_step c.1 c.2] at h3
      by_cases e : j = p
      · subst e; exact c.2
      · exact ih (p + 1) (by omega) j (by omega) h3
    · rw [skp_stop c] at h3; omega
def bl (x : Int32) : Prop := x = 32
def sm (x : Int32) : Prop := 97 ≤ x ∧ x ≤ 122
def dg (x : Int32) : Prop := 48 ≤ x ∧ x ≤ 57
noncomputable def bl_d : DecidablePred bl := fun x => Classical.propDecidable _
theorem c200 {t : Nat} (h : t < 2 ^ 31) : ((200 : Int32) ≤ nI t) ↔ 200 ≤ t := by
  rw [show (200 : Int32) = nI 200 from rfl, nI_leI (by omega) h]
theorem e_byte {b : Nat → Int32} {n p : Nat} (hn : n ≤ 200) (hp : p ≤ n) : fX6_byteHere b (nI n) (nI p) = some (if p < n then b p else -1) := by
  unfold fX6_byteHere
  rw [if_neg (nI_nneg (by omega))]
  by_cases c : p < n
  · rw [if_neg (nI_ge c (by omega)), if_neg (nI_ge (by omega) (by omega)), ld_nI (by omega) (by omega), ob, if_pos c]
  · rw [if_pos (nI_le (by omega) (by omega)), if_neg c]
theorem skipB {b : Nat → Int32} {n : Nat} (hn : n ≤ 200) : ∀ (fu t p : Nat), p ≤ n → t + (n - p) ≤ 200 → 200 < t + fu → fX6_skipBlanks_2 b (nI n) fu (fun _ a => some a) (nI t) (nI p) = some (nI (skp (fun x => x = 32) b n p)) := by
  intro fu
  induction fu with
  | zero => intro t p h1 h2 h3; omega
  | succ fu ih =>
    intro t p h1 h2 h3
    rw [fX6_skipBlanks_2]
    by_cases c : 200 ≤ t
    · rw [if_pos ((c200 (by omega)).mpr c), skp_stop (by omega)]
    · rw [if_neg (fun z => c ((c200 (by omega)).mp z)), e_byte hn h1, ob, nI_1, nI_1]
      by_cases c2 : p < n
      · rw [if_pos c2]
        by_cases c3 : b p = 32
        · rw [if_pos c3, ih (t + 1) (p + 1) (by omega) (by omega) (by omega), skp_step (P := fun x => x = 32) c2 c3]
        · rw [if_neg c3, skp_stop (fun z => c3 z.2)]
      · rw [if_neg c2, if_neg (by decide), skp_stop (fun z => c2 z.1)]
theorem e_skipBlanks {b : Nat → Int32} {n p : Nat} (hn : n ≤ 200) (hp : p ≤ n) : fX6_skipBlanks b (nI n) (nI p) = some (nI (skp (fun x => x = 32) b n p)) := by
  unfold fX6_skipBlanks
  have := skipB (b := b) hn FU 0 p hp (by omega) (by unfold FU; omega)
  rw [nI_0] at this
  exact this
theorem skipW {b : Nat → Int32} {n : Nat} (hn : n ≤ 200) : ∀ (fu t p : Nat), p ≤ n → t + (n - p) ≤ 200 → 200 < t + fu → fX6_skipWord_2 b (nI n) fu (fun _ a => some a) (nI t) (nI p) = some (nI (skp (fun x => 97 ≤ x ∧ x ≤ 122) b n p)) := by
  intro fu
  induction fu with
  | zero => intro t p h1 h2 h3; omega
  | succ fu ih =>
    intro t p h1 h2 h3
    rw [fX6_skipWord_2]
    by_cases c : 200 ≤ t
    · rw [if_pos ((c200 (by omega)).mpr c), skp_stop (by omega)]
    · rw [if_neg (fun z => c ((c200 (by omega)).mp z)), e_byte hn h1, ob, ob, nI_1, nI_1]
      by_cases c2 : p < n
      · rw [if_pos c2]
        by_cases c3 : b p < 97
        · rw [if_pos c3, skp_stop (fun z => by have := z.2.1; rw [i32le] at this; rw [i32lt] at c3; omega)]
        · rw [if_neg c3]
          by_cases c4 : 122 < b p
          · rw [if_pos c4, skp_stop (fun z => by have := z.2.2; rw [i32le] at this; rw [i32lt] at c4; omega)]
          · rw [if_neg c4, ih (t + 1) (p + 1) (by omega) (by omega) (by omega), skp_step (P := fun x => 97 ≤ x ∧ x ≤ 122) c2 ⟨by rw [i32le]; rw [i32lt] at c3; omega, by rw [i32le]; rw [i32lt] at c4; omega⟩]
      · rw [if_neg c2, if_pos (by decide), skp_stop (fun z => c2 z.1)]
theorem e_skipWord {b : Nat → Int32} {n p : Nat} (hn : n ≤ 200) (hp : p ≤ n) : fX6_skipWord b (nI n) (nI p) = some (nI (skp (fun x => 97 ≤ x ∧ x ≤ 122) b n p)) := by
  unfold fX6_skipWord
  have := skipW (b := b) hn FU 0 p hp (by omega) (by unfold FU; omega)
  rw [nI_0] at this
  exact this
/-! digits -/
def dgN (b : Nat → Int32) : Nat → Nat → Int64 → Int64
  | 0, _, v => v
  | k + 1, p, v => dgN b k (p + 1) (v * 10 + (b p - 48).toInt64)
theorem readN {b : Nat → Int32} {n : Nat} (hn : n ≤ 200) (k : Int64 → Int32 → Int32 → Int32 → Option (Int64 × Int32)) : ∀ (fu t p cnt : Nat) (v : Int64), p ≤ n → t + (n - p) ≤ 200 → 200 < t + fu → cnt ≤ t → ∃ v' t', fX6_readNumber_7 b (nI n) fu k v (nI cnt) (nI t) (nI p) = k v' (nI (cnt + (skp (fun x => 48 ≤ x ∧ x ≤ 57) b n p - p))) t' (nI (skp (fun x => 48 ≤ x ∧ x ≤ 57) b n p)) ∧ (cnt + (skp (fun x => 48 ≤ x ∧ x ≤ 57) b n p - p) ≤ 10 → v' = dgN b (skp (fun x => 48 ≤ x ∧ x ≤ 57) b n p - p) p v) := by
  intro fu
  induction fu with
  | zero => intro t p cnt v h1 h2 h3; omega
  | succ fu ih =>
    intro t p cnt v h1 h2 h3 h4
    have stop : skp (fun x => 48 ≤ x ∧ x ≤ 57) b n p = p → ∃ v' t', k v (nI cnt) (nI t) (nI p) = k v' (nI (cnt + (skp (fun x => 48 ≤ x ∧ x ≤ 57) b n p - p))) t' (nI (skp (fun x => 48 ≤ x ∧ x ≤ 57) b n p)) ∧ (cnt + (skp (fun x => 48 ≤ x ∧ x ≤ 57) b n p - p) ≤ 10 → v' = dgN b (skp (fun x => 48 ≤ x ∧ x ≤ 57) b n p - p) p v) := by
      intro e
      refine ⟨v, nI t, ?_, fun _ => ?_⟩
      · rw [e, Nat.sub_self, Nat.add_zero]
      · rw [e, Nat.sub_self, dgN]
    rw [fX6_readNumber_7]
    by_cases c : 200 ≤ t
    · rw [if_pos ((c200 (by omega)).mpr c)]
      exact stop (skp_stop (by omega))
    · rw [if_neg (fun z => c ((c200 (by omega)).mp z)), e_byte hn h1, ob, ob, ob, nI_1, nI_1, nI_1]
      by_cases c2 : p < n
      · rw [if_pos c2]
        by_cases c3 : b p < 48
        · rw [if_pos c3]
          exact stop (skp_stop (fun z => by have := z.2.1; rw [i32le] at this; rw [i32lt] at c3; omega))
        · rw [if_neg c3]
          by_cases c4 : 57 < b p
          · rw [if_pos c4]
            exact stop (skp_stop (fun z => by have := z.2.2; rw [i32le] at this; rw [i32lt] at c4; omega))
          · rw [if_neg c4]
            have hst := skp_step (P := fun x => 48 ≤ x ∧ x ≤ 57) (b := b) c2 ⟨by rw [i32le]; rw [i32lt] at c3; omega, by rw [i32le]; rw [i32lt] at c4; omega⟩
            have hle := skp_le (P := fun x => 48 ≤ x ∧ x ≤ 57) (b := b) (n := n) _ (p + 1) rfl (by omega)
            rw [hst]
            have ea : skp (fun x => 48 ≤ x ∧ x ≤ 57) b n (p + 1) - p = skp (fun x => 48 ≤ x ∧ x ≤ 57) b n (p + 1) - (p + 1) + 1 := by omega
            by_cases c5 : 10 ≤ cnt
            · rw [if_pos (show (10 : Int32) ≤ nI cnt from nI_le (a := 10) c5 (by omega))]
              obtain ⟨v', t', e1, e2⟩ := ih (t + 1) (p + 1) (cnt + 1) v (by omega) (by omega) (by omega) (by omega)
              refine ⟨v', t', ?_, fun h => by omega⟩
              rw [e1, ea, show cnt + 1 + (skp (fun x => 48 ≤ x ∧ x ≤ 57) b n (p + 1) - (p + 1)) = cnt + (skp (fun x => 48 ≤ x ∧ x ≤ 57) b n (p + 1) - (p + 1) + 1) by omega]
            · rw [if_neg (show ¬ (10 : Int32) ≤ nI cnt from nI_ge (b := 10) (by omega) (by omega))]
              obtain ⟨v', t', e1, e2⟩ := ih (t + 1) (p + 1) (cnt + 1) (v * 10 + (b p - 48).toInt64) (by omega) (by omega) (by omega) (by omega)
              refine ⟨v', t', ?_, fun h => ?_⟩
              · rw [e1, ea, show cnt + 1 + (skp (fun x => 48 ≤ x ∧ x ≤ 57) b n (p + 1) - (p + 1)) = cnt + (skp (fun x => 48 ≤ x ∧ x ≤ 57) b n (p + 1) - (p + 1) + 1) by omega]
              · rw [e2 (by omega), ea, dgN]
      · rw [if_neg c2, if_pos (by decide)]
        exact stop (skp_stop (fun z => c2 z.1))
/-- the class reads a number -/
theorem e_readNumber {b : Nat → Int32} {n p : Nat} (hn : n ≤ 200) (hp : p ≤ n) : fX6_readNumber b (nI n) (nI p) = some (if skp (fun x => 48 ≤ x ∧ x ≤ 57) b n p = p ∨ 10 < skp (fun x => 48 ≤ x ∧ x ≤ 57) b n p - p then -1 else dgN b (skp (fun x => 48 ≤ x ∧ x ≤ 57) b n p - p) p 0, nI (skp (fun x => 48 ≤ x ∧ x ≤ 57) b n p)) := by
  have hle := skp_le (P := fun x => 48 ≤ x ∧ x ≤ 57) (b := b) (n := n) _ p rfl hp
  unfold fX6_readNumber
  obtain ⟨v', t', e1, e2⟩ := readN (b := b) hn (fun x1_7 x3_7 x4_7 g_at_7 => if x3_7 = 0 then some ((-1), g_at_7) else if x3_7 ≤ 10 then some (x1_7, g_at_7) else some ((-1), g_at_7)) FU 0 p 0 0 hp (by omega) (by unfold FU; omega) (by omega)
  rw [nI_0, Nat.zero_add] at e1
  rw [Nat.zero_add] at e2
  rw [e1]
  by_cases c1 : skp (fun x => 48 ≤ x ∧ x ≤ 57) b n p = p
  · rw [if_pos (Or.inl c1), c1, Nat.sub_self]; rfl
  · rw [if_neg (nI_ne0 (by omega) (by omega))]
    by_cases c2 : 10 < skp (fun x => 48 ≤ x ∧ x ≤ 57) b n p - p
    · rw [if_neg (show ¬ nI (skp (fun x => 48 ≤ x ∧ x ≤ 57) b n p - p) ≤ 10 from nI_ge (a := 10) c2 (by omega)), if_pos (Or.inr c2)]
    · rw [if_pos (show nI (skp (fun x => 48 ≤ x ∧ x ≤ 57) b n p - p) ≤ 10 from nI_le (b := 10) (by omega) (by omega)), if_neg (fun z => z.elim c1 c2), e2 (by omega)]
/-! the reference's tokens -/
def te (b : Nat → Int32) (n q : Nat) : Nat := if skp (fun x => x = 32) b n q < n then (if 97 ≤ b (skp (fun x => x = 32) b n q) ∧ b (skp (fun x => x = 32) b n q) ≤ 122 then skp (fun x => 97 ≤ x ∧ x ≤ 122) b n (skp (fun x => x = 32) b n q) else if 48 ≤ b (skp (fun x => x = 32) b n q) ∧ b (skp (fun x => x = 32) b n q) ≤ 57 then skp (fun x => 48 ≤ x ∧ x ≤ 57) b n (skp (fun x => x = 32) b n q) else skp (fun x => x = 32) b n q + 1) else skp (fun x => x = 32) b n q
theorem e8_isSmall (x : Int32) : fX8_isSmall x = some (if 97 ≤ x ∧ x ≤ 122 then 1 else 0) := by
  unfold fX8_isSmall
  rw [show (97 : Int64) = (97 : Int32).toInt64 from by decide, show (122 : Int64) = (122 : Int32).toInt64 from by decide, e8_in32, ob, bz01, ob]
theorem e8_isDigit (x : Int32) : fX8_isDigit x = some (if 48 ≤ x ∧ x ≤ 57 then 1 else 0) := by
  unfold fX8_isDigit
  rw [show (48 : Int64) = (48 : Int32).toInt64 from by decide, show (57 : Int64) = (57 : Int32).toInt64 from by decide, e8_in32, ob, bz01, ob]
theorem tok8 {b b' : Nat → Int32} {n : Nat} (hn : n ≤ 200) (hs : same n b b') (k : Int32 → Option (Int32 × Int32)) : ∀ (fu p : Nat), p ≤ n → n < p + fu → fX8_nextToken_8 b' (nI n) fu k (nI p) = k (nI (skp (fun x => x = 32) b n p)) := by
  intro fu
  induction fu with
  | zero => intro p h1 h2; omega
  | succ fu ih =>
    intro p h1 h2
    rw [fX8_nextToken_8]
    by_cases c : p < n
    · rw [if_neg (nI_ge c (by omega)), ld_nI (by omega) (by omega), ob, ← hs p c, nI_1]
      by_cases c3 : b p = 32
      · rw [if_pos c3, ih (p + 1) (by omega) (by omega), skp_step (P := fun x => x = 32) c c3]
      · rw [if_neg c3, skp_stop (fun z => c3 z.2)]
    · rw [if_pos (nI_le (by omega) (by omega)), skp_stop (fun z => c z.1)]
theorem tok100 {b b' : Nat → Int32} {n : Nat} (hn : n ≤ 200) (hs : same n b b') (k : Int32 → Option (Int32 × Int32)) : ∀ (fu p : Nat), p ≤ n → n < p + fu → fX8_nextToken_100 b' (nI n) fu k (nI p) = k (nI (skp (fun x => 97 ≤ x ∧ x ≤ 122) b n p)) := by
  intro fu
  induction fu with
  | zero => intro p h1 h2; omega
  | succ fu ih =>
    intro p h1 h2
    rw [fX8_nextToken_100]
    by_cases c : p < n
    · rw [if_neg (nI_ge c (by omega)), ld_nI (by omega) (by omega), ob, ← hs p c, nI_1, e8_isSmall, ob, i01]
      by_cases c3 : 97 ≤ b p ∧ b p ≤ 122
      · rw [if_pos c3, ih (p + 1) (by omega) (by omega), skp_step (P := fun x => 97 ≤ x ∧ x ≤ 122) c c3]
      · rw [if_neg c3, skp_stop (fun z => c3 z.2)]
    · rw [if_pos (nI_le (by omega) (by omega)), skp_stop (fun z => c z.1)]
theorem tok165 {b b' : Nat → Int32} {n : Nat} (hn : n ≤ 200) (hs : same n b b') (k : Int32 → Option (Int32 × Int32)) : ∀ (fu p : Nat), p ≤ n → n < p + fu → fX8_nextToken_165 b' (nI n) fu k (nI p) = k (nI (skp (fun x => 48 ≤ x ∧ x ≤ 57) b n p)) := by
  intro fu
  induction fu with
  | zero => intro p h1 h2; omega
  | succ fu ih =>
    intro p h1 h2
    rw [fX8_nextToken_165]
    by_cases c : p < n
    · rw [if_neg (nI_ge c (by omega)), ld_nI (by omega) (by omega), ob, ← hs p c, nI_1, e8_isDigit, ob, i01]
      by_cases c3 : 48 ≤ b p ∧ b p ≤ 57
      · rw [if_pos c3, ih (p + 1) (by omega) (by omega), skp_step (P := fun x => 48 ≤ x ∧ x ≤ 57) c c3]
      · rw [if_neg c3, skp_stop (fun z => c3 z.2)]
    · rw [if_pos (nI_le (by omega) (by omega)), skp_stop (fun z => c z.1)]
theorem e8_next {b b' : Nat → Int32} {n q : Nat} (hn : n ≤ 200) (hs : same n b b') (hq : q ≤ n) (g : Int32) : fX8_nextToken b' (nI n) g (nI q) = some (nI (skp (fun x => x = 32) b n q), nI (te b n q)) := by
  unfold fX8_nextToken
  rw [tok8 hn hs _ FU q hq (by unfold FU; omega)]
  have hle := skp_le (P := fun x => x = 32) (b := b) (n := n) _ q rfl hq
  unfold te
  generalize skp (fun x => x = 32) b n q = f at *
  by_cases c : f < n
  · rw [if_neg (nI_ge c (by omega)), if_neg (nI_ge c (by omega)), if_neg (nI_ge c (by omega)), if_pos c, ld_nI (by omega) (by omega), ob, ob, ← hs f c, nI_1, e8_isSmall, ob, i01, e8_isDigit, ob, i01]
    by_cases c1 : 97 ≤ b f ∧ b f ≤ 122
    · rw [if_pos c1, if_pos c1, tok100 hn hs _ FU (f + 1) (by omega) (by unfold FU; omega), skp_step (P := fun x => 97 ≤ x ∧ x ≤ 122) c c1]
    · rw [if_neg c1, if_neg c1]
      by_cases c2 : 48 ≤ b f ∧ b f ≤ 57
      · rw [if_pos c2, if_pos c2, tok165 hn hs _ FU (f + 1) (by omega) (by unfold FU; omega), skp_step (P := fun x => 48 ≤ x ∧ x ≤ 57) c c2]
      · rw [if_neg c2, if_neg c2]
  · rw [if_pos (nI_le (by omega) (by omega)), if_pos (nI_le (by omega) (by omega)), if_pos (nI_le (by omega) (by omega)), if_neg c]
/-! words -/
theorem wtab : ∀ w, w < 8 → ∀ k, k < 6 → (k < sLen.getD w 0 → sAt w (nI k) = some (wX8_339 (6 * w + k)) ∧ 97 ≤ wX8_339 (6 * w + k)) ∧ (sLen.getD w 0 ≤ k → wX8_339 (6 * w + k) = 0) := by decide +kernel
theorem wlen : ∀ w, w < 8 → 3 ≤ sLen.getD w 0 ∧ sLen.getD w 0 ≤ 6 ∧ sLn w = some (nI (sLen.getD w 0)) ∧ fX6_wordOf (nI w) = some w := by decide +kernel
/-- the word w stands from s to e -/
def mw (b : Nat → Int32) (s e w : Nat) : Prop := e - s = sLen.getD w 0 ∧ ∀ k, k < sLen.getD w 0 → b (s + k) = wX8_339 (6 * w + k)
theorem isW {b : Nat → Int32} {n s e w : Nat} (hn : n ≤ 200) (he : e ≤ n) (hw : w < 8) (hl : s + sLen.getD w 0 = e) : ∀ (d i fu : Nat), i + d = sLen.getD w 0 → d < fu → (∀ k, k < i → b (s + k) = wX8_339 (6 * w + k)) → ∃ r, fX6_isWord_21 b (nI s) w fu (fun _ => some 1) (nI i) = some r ∧ (r = 0 ∨ r = 1) ∧ (r = 1 ↔ ∀ k, k < sLen.getD w 0 → b (s + k) = wX8_339 (6 * w + k)) := by
  have h1 := wlen w hw
  intro d
  induction d with
  | zero =>
    intro i fu e1 hf h
    obtain ⟨fu, rfl⟩ : ∃ m, fu = m + 1 := ⟨fu - 1, by omega⟩
    rw [fX6_isWord_21, h1.2.2.1, ob, if_pos (nI_le (by omega) (by omega))]
    exact ⟨1, rfl, Or.inr rfl, ⟨fun _ k hk => h k (by omega), fun _ => rfl⟩⟩
  | succ d ih =>
    intro i fu e1 hf h
    obtain ⟨fu, rfl⟩ : ∃ m, fu = m + 1 := ⟨fu - 1, by omega⟩
    have ht := (wtab w hw i (by omega)).1 (by omega)
    rw [fX6_isWord_21, h1.2.2.1, ob, if_neg (nI_ge (by omega) (by omega)), nI_add, if_neg (nI_ge (by omega) (by omega)), ld_nI (by omega) (by omega), ob, ht.1, ob, nI_1]
    by_cases c : b (s + i) = wX8_339 (6 * w + i)
    · rw [if_pos c]
      refine ih (i + 1) fu (by omega) (by omega) (fun k hk => ?_)
      by_cases z : k = i
      · subst z; exact c
      · exact h k (by omega)
    · rw [if_neg c]
      exact ⟨0, rfl, Or.inl rfl, ⟨fun z => absurd z (by decide), fun z => absurd (z i (by omega)) c⟩⟩
theorem e_isWord {b : Nat → Int32} {n s e w : Nat} (hn : n ≤ 200) (he : e ≤ n) (hse : s ≤ e) (hw : w < 8) : ∃ r, fX6_isWord b (nI e) w (nI s) = some r ∧ (r = 0 ∨ r = 1) ∧ (r = 1 ↔ mw b s e w) := by
  have h1 := wlen w hw
  have es : nI e - nI s = nI (e - s) := by
    have := nI_subc (e - s) s
    rw [show e - s + s = e by omega] at this
    exact this
  unfold fX6_isWord
  rw [if_neg (nI_nneg (by omega)), h1.2.2.1, ob, es]
  by_cases c : e - s = sLen.getD w 0
  · rw [if_pos (by rw [c])]
    obtain ⟨r, e1, e2, e3⟩ := isW (b := b) hn he hw (show s + sLen.getD w 0 = e by omega) (sLen.getD w 0) 0 FU (by omega) (by unfold FU; omega) (fun k hk => absurd hk (Nat.not_lt_zero k))
    rw [nI_0] at e1
    exact ⟨r, e1, e2, e3.trans ⟨fun z => ⟨c, z⟩, fun z => z.2⟩⟩
  · rw [if_neg (nI_ne c (by omega) (by omega))]
    exact ⟨0, rfl, Or.inl rfl, ⟨fun z => absurd z (by decide), fun z => absurd z.1 c⟩⟩
/-- the reference's comparison -/
def rmw (b : Nat → Int32) (s e w : Nat) : Prop := ∀ k, k < 6 → wX8_339 (6 * w + k) = if s + k < e then b (s + k) else 0
theorem wh41 {b b' : Nat → Int32} {n s e w : Nat} (hn : n ≤ 200) (hs : same n b b') (he : e ≤ n) (hsn : s ≤ n) (hw : w < 8) (K : Int32 → Int32 → Option Int32) : ∀ (d i fu : Nat) (f : Int32), i + d = 6 → d < fu → (f = 0 ∨ f = 1) → (f = 1 → ∀ k, k < i → wX8_339 (6 * w + k) = if s + k < e then b (s + k) else 0) → ∃ r x, fX8_wordHere_41 b' (nI s) (nI e) wX8_339 (nI w) fu K f (nI i) = K r x ∧ (r = 0 ∨ r = 1) ∧ (f = 0 → r = 0) ∧ (r = 1 → rmw b s e w) ∧ (f = 1 → rmw b s e w → r = 1) := by
  intro d
  induction d with
  | zero =>
    intro i fu f e1 hf h0 h
    obtain ⟨fu, rfl⟩ : ∃ m, fu = m + 1 := ⟨fu - 1, by omega⟩
    have : i = 6 := by omega
    subst this
    rw [fX8_wordHere_41, if_pos (show (6 : Int32) ≤ nI 6 from by decide)]
    exact ⟨f, _, rfl, h0, fun z => z, fun z => h z, fun z _ => z⟩
  | succ d ih =>
    intro i fu f e1 hf h0 h
    obtain ⟨fu, rfl⟩ : ∃ m, fu = m + 1 := ⟨fu - 1, by omega⟩
    have e6 : (6 : Int32) * nI w + nI i = nI (6 * w + i) := by rw [show (6 : Int32) = nI 6 from rfl, pk_mul, nI_add]
    rw [fX8_wordHere_41, if_neg (show ¬ (6 : Int32) ≤ nI i from nI_ge (b := 6) (by omega) (by omega))]
    rcases h0 with h0 | h0
    · rw [if_pos h0]
      exact ⟨f, _, rfl, Or.inl h0, fun z => z, fun z => by rw [h0] at z; exact absurd z (by decide), fun z => by rw [h0] at z; exact absurd z (by decide)⟩
    · rw [if_neg (fun z => by rw [h0] at z; exact absurd z (by decide)), e6, ld_nI (by omega) (by omega), ob, nI_add, nI_1]
      have h := h h0
      have fin : (wX8_339 (6 * w + i) = if s + i < e then b (s + i) else 0) → ∃ r x, fX8_wordHere_41 b' (nI s) (nI e) wX8_339 (nI w) fu K 1 (nI (i + 1)) = K r x ∧ (r = 0 ∨ r = 1) ∧ (f = 0 → r = 0) ∧ (r = 1 → rmw b s e w) ∧ (f = 1 → rmw b s e w → r = 1) := by
        intro c
        obtain ⟨r, x, a1, a2, a3, a4, a5⟩ := ih (i + 1) fu 1 (by omega) (by omega) (Or.inr rfl) (fun _ k hk => by
          by_cases z : k = i
          · subst z; exact c
          · exact h k (by omega))
        exact ⟨r, x, a1, a2, fun z => by rw [h0] at z; exact absurd z (by decide), a4, fun _ => a5 rfl⟩
      have bad : ¬ (wX8_339 (6 * w + i) = if s + i < e then b (s + i) else 0) → ∃ r x, fX8_wordHere_41 b' (nI s) (nI e) wX8_339 (nI w) fu K 0 (nI (i + 1)) = K r x ∧ (r = 0 ∨ r = 1) ∧ (f = 0 → r = 0) ∧ (r = 1 → rmw b s e w) ∧ (f = 1 → rmw b s e w → r = 1) := by
        intro c
        obtain ⟨r, x, a1, a2, a3, a4, a5⟩ := ih (i + 1) fu 0 (by omega) (by omega) (Or.inl rfl) (fun z => absurd z (by decide))
        exact ⟨r, x, a1, a2, fun _ => a3 rfl, a4, fun _ z => absurd (z i (by omega)) c⟩
      by_cases c : s + i < e
      · rw [if_neg (nI_ge c (by omega)), ld_nI (by omega) (by omega), ob, ← hs (s + i) (by omega)]
        rw [if_pos c] at fin bad
        by_cases c2 : wX8_339 (6 * w + i) = b (s + i)
        · rw [if_pos c2]; exact fin c2
        · rw [if_neg c2]; exact bad c2
      · rw [if_pos (nI_le (by omega) (by omega))]
        rw [if_neg c] at fin bad
        by_cases c2 : wX8_339 (6 * w + i) = 0
        · rw [if_pos c2]; exact fin c2
        · rw [if_neg c2]; exact bad c2
