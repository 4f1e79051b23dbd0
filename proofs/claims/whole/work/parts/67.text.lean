/-! the verb: class and reference alike -/
theorem sm_tok {b : Nat → Int32} {n q : Nat} (hq : q ≤ n) : (skp (fun x => 97 ≤ x ∧ x ≤ 122) b n (skp (fun x => x = 32) b n q) = te b n q ∧ skp (fun x => x = 32) b n q < te b n q ∧ ∀ j, skp (fun x => x = 32) b n q ≤ j → j < te b n q → 97 ≤ b j) ∨ (skp (fun x => 97 ≤ x ∧ x ≤ 122) b n (skp (fun x => x = 32) b n q) = skp (fun x => x = 32) b n q ∧ (te b n q = skp (fun x => x = 32) b n q ∨ (skp (fun x => x = 32) b n q < n ∧ ¬ (97 ≤ b (skp (fun x => x = 32) b n q) ∧ b (skp (fun x => x = 32) b n q) ≤ 122)))) := by
  unfold te
  generalize skp (fun x => x = 32) b n q = f at *
  by_cases c : f < n
  · rw [if_pos c]
    by_cases c1 : 97 ≤ b f ∧ b f ≤ 122
    · left
      rw [if_pos c1]
      have h1 := skp_step (P := fun x => 97 ≤ x ∧ x ≤ 122) (b := b) c c1
      have h2 := skp_le (P := fun x => 97 ≤ x ∧ x ≤ 122) (b := b) (n := n) _ (f + 1) rfl (by omega)
      exact ⟨rfl, by omega, fun j h3 h4 => (skp_all (P := fun x => 97 ≤ x ∧ x ≤ 122) (b := b) (n := n) _ f rfl j h3 h4).1⟩
    · right
      exact ⟨skp_stop (fun z => c1 z.2), Or.inr ⟨c, c1⟩⟩
  · right
    rw [if_neg c]
    exact ⟨skp_stop (fun z => c z.1), Or.inl rfl⟩
theorem te_le {b : Nat → Int32} {n q : Nat} (hq : q ≤ n) : skp (fun x => x = 32) b n q ≤ te b n q ∧ te b n q ≤ n := by
  have hle := skp_le (P := fun x => x = 32) (b := b) (n := n) _ q rfl hq
  unfold te
  generalize skp (fun x => x = 32) b n q = f at *
  have h1 := skp_le (P := fun x => 97 ≤ x ∧ x ≤ 122) (b := b) (n := n) _ f rfl (by omega)
  have h2 := skp_le (P := fun x => 48 ≤ x ∧ x ≤ 57) (b := b) (n := n) _ f rfl (by omega)
  split
  · split
    · exact h1
    · split
      · exact h2
      · omega
  · omega
theorem w_sm : ∀ w, w < 8 → 97 ≤ wX8_339 (6 * w + 0) ∧ wX8_339 (6 * w + 0) ≤ 122 := by decide +kernel
/-- one word at a time -/
theorem word_eq {b : Nat → Int32} {n q w : Nat} (hq : q ≤ n) (hw : w < 8) : mw b (skp (fun x => x = 32) b n q) (skp (fun x => 97 ≤ x ∧ x ≤ 122) b n (skp (fun x => x = 32) b n q)) w ↔ ((skp (fun x => x = 32) b n q < te b n q ∧ te b n q - skp (fun x => x = 32) b n q < 7) ∧ rmw b (skp (fun x => x = 32) b n q) (te b n q) w) := by
  have h1 := wlen w hw
  have ht := te_le (b := b) hq
  rcases sm_tok (b := b) hq with ⟨e1, e2, e3⟩ | ⟨e1, e2⟩
  · rw [e1]
    generalize skp (fun x => x = 32) b n q = s at *
    generalize te b n q = e at *
    constructor
    · rintro ⟨a1, a2⟩
      refine ⟨⟨e2, by omega⟩, fun k hk => ?_⟩
      by_cases c : s + k < e
      · rw [if_pos c, a2 k (by omega)]
      · rw [if_neg c]; exact (wtab w hw k hk).2 (by omega)
    · rintro ⟨⟨_, a1⟩, a2⟩
      have hlen : e - s = sLen.getD w 0 := by
        by_cases c : e - s < sLen.getD w 0
        · exfalso
          have := a2 (e - s) (by omega)
          rw [if_neg (by omega)] at this
          have h3 := ((wtab w hw (e - s) (by omega)).1 (by omega)).2
          rw [this] at h3
          exact absurd h3 (by decide)
        · by_cases c2 : sLen.getD w 0 < e - s
          · exfalso
            have h6 : sLen.getD w 0 < 6 := by omega
            have := a2 (sLen.getD w 0) h6
            rw [if_pos (by omega), (wtab w hw (sLen.getD w 0) h6).2 (Nat.le_refl _)] at this
            have h3 := e3 (s + sLen.getD w 0) (by omega) (by omega)
            rw [← this] at h3
            exact absurd h3 (by decide)
          · omega
      refine ⟨hlen, fun k hk => ?_⟩
      have := a2 k (by omega)
      rw [if_pos (by omega)] at this
      exact this.symm
  · rw [e1]
    constructor
    · rintro ⟨a1, _⟩
      omega
    · rintro ⟨⟨a0, a1⟩, a2⟩
      exfalso
      rcases e2 with e2 | ⟨e2, e3⟩
      · omega
      · have := a2 0 (by omega)
        rw [if_pos (by omega), Nat.add_zero] at this
        have h3 := w_sm w hw
        rw [Nat.add_zero] at h3
        rw [Nat.add_zero] at this
        rw [this] at h3
        exact e3 h3
theorem verb_sim {b b' : Nat → Int32} {n q : Nat} (hn : n ≤ 200) (hs : same n b b') (hq : q ≤ n) : ∀ (d w f7 f8 : Nat), w + d = 8 → d < f7 → d < f8 → ∃ r, fX6_verbFrom_2 b (nI (skp (fun x => 97 ≤ x ∧ x ≤ 122) b n (skp (fun x => x = 32) b n q))) (nI (skp (fun x => x = 32) b n q)) f7 (fun _ => some (-1)) (nI w) = some r ∧ fX8_wordHere_2 b' (nI (skp (fun x => x = 32) b n q)) (nI (te b n q)) wX8_339 f8 (fun _ => some (-1)) (nI w) = some r ∧ (r = -1 ∨ ∃ v, v < 8 ∧ r = nI v) := by
  have hle := skp_le (P := fun x => x = 32) (b := b) (n := n) _ q rfl hq
  have hle2 := skp_le (P := fun x => 97 ≤ x ∧ x ≤ 122) (b := b) (n := n) _ (skp (fun x => x = 32) b n q) rfl hle.2
  have ht := te_le (b := b) hq
  intro d
  induction d with
  | zero =>
    intro w f7 f8 e1 h7 h8
    obtain ⟨f7, rfl⟩ : ∃ m, f7 = m + 1 := ⟨f7 - 1, by omega⟩
    obtain ⟨f8, rfl⟩ : ∃ m, f8 = m + 1 := ⟨f8 - 1, by omega⟩
    have : w = 8 := by omega
    subst this
    rw [fX6_verbFrom_2, fX8_wordHere_2, if_pos (by decide), if_pos (by decide)]
    exact ⟨-1, rfl, rfl, Or.inl rfl⟩
  | succ d ih =>
    intro w f7 f8 e1 h7 h8
    obtain ⟨f7, rfl⟩ : ∃ m, f7 = m + 1 := ⟨f7 - 1, by omega⟩
    obtain ⟨f8, rfl⟩ : ∃ m, f8 = m + 1 := ⟨f8 - 1, by omega⟩
    have hw : w < 8 := by omega
    have hne : ¬ (8 : Int32) ≤ nI w := fun z => by have := (e8_bx (j := w) (by omega)).mp z; omega
    obtain ⟨r, i1, i2, i3⟩ := e_isWord (b := b) hn hle2.2 hle2.1 hw
    have weq := word_eq (b := b) hq hw
    obtain ⟨r0, j1, j2, j3⟩ := ih (w + 1) f7 f8 (by omega) (by omega) (by omega)
    rw [fX6_verbFrom_2, fX8_wordHere_2, if_neg hne, if_neg hne, (wlen w hw).2.2.2, ob, i1, ob, nI_1]
    have es : nI (te b n q) - nI (skp (fun x => x = 32) b n q) = nI (te b n q - skp (fun x => x = 32) b n q) := by
      have := nI_subc (te b n q - skp (fun x => x = 32) b n q) (skp (fun x => x = 32) b n q)
      rw [show te b n q - skp (fun x => x = 32) b n q + skp (fun x => x = 32) b n q = te b n q by omega] at this
      exact this
    rw [es]
    have run : ∀ f : Int32, (f = 0 ∨ f = 1) → (f = 1 ↔ skp (fun x => x = 32) b n q < te b n q ∧ te b n q - skp (fun x => x = 32) b n q < 7) → ∃ r', (if r = 0 then fX6_verbFrom_2 b (nI (skp (fun x => 97 ≤ x ∧ x ≤ 122) b n (skp (fun x => x = 32) b n q))) (nI (skp (fun x => x = 32) b n q)) f7 (fun _ => some (-1)) (nI (w + 1)) else some (nI w)) = some r' ∧ fX8_wordHere_41 b' (nI (skp (fun x => x = 32) b n q)) (nI (te b n q)) wX8_339 (nI w) FU (fun x2_41 x3_41 => if x2_41 = 0 then fX8_wordHere_2 b' (nI (skp (fun x => x = 32) b n q)) (nI (te b n q)) wX8_339 f8 (fun _ => some (-1)) (nI (w + 1)) else some (nI w)) f 0 = some r' ∧ (r' = -1 ∨ ∃ v, v < 8 ∧ r' = nI v) := by
      intro f hf hf2
      obtain ⟨r2, x2, k1, k2, k3, k4, k5⟩ := wh41 (b := b) hn hs ht.2 hle.2 hw (fun x2_41 x3_41 => if x2_41 = 0 then fX8_wordHere_2 b' (nI (skp (fun x => x = 32) b n q)) (nI (te b n q)) wX8_339 f8 (fun _ => some (-1)) (nI (w + 1)) else some (nI w)) 6 0 FU f (by omega) (by unfold FU; omega) hf (fun _ k hk => absurd hk (Nat.not_lt_zero k))
      rw [nI_0] at k1
      rw [k1]
      by_cases c : mw b (skp (fun x => x = 32) b n q) (skp (fun x => 97 ≤ x ∧ x ≤ 122) b n (skp (fun x => x = 32) b n q)) w
      · have c2 := weq.mp c
        have : r2 = 1 := k5 (hf2.mpr c2.1) c2.2
        rw [i3.mpr c, if_neg (show ¬ (1 : Int32) = 0 by decide), this, if_neg (show ¬ (1 : Int32) = 0 by decide)]
        exact ⟨nI w, rfl, rfl, Or.inr ⟨w, hw, rfl⟩⟩
      · have : r2 = 0 := by
          rcases k2 with z | z
          · exact z
          · exfalso
            have f1 : f = 1 := by
              rcases hf with y | y
              · have := k3 y; rw [z] at this; exact absurd this (by decide)
              · exact y
            exact c (weq.mpr ⟨hf2.mp f1, k4 z⟩)
        rw [i2.resolve_right (fun z => c (i3.mp z)), if_pos rfl, this, if_pos rfl]
        exact ⟨r0, j1, j2, j3⟩
    by_cases c1 : te b n q ≤ skp (fun x => x = 32) b n q
    · rw [if_pos (nI_le c1 (by omega))]
      exact run 0 (Or.inl rfl) ⟨fun z => absurd z (by decide), fun z => by omega⟩
    · rw [if_neg (nI_ge (by omega) (by omega))]
      by_cases c2 : 7 ≤ te b n q - skp (fun x => x = 32) b n q
      · rw [if_pos (show (7 : Int32) ≤ nI (te b n q - skp (fun x => x = 32) b n q) from nI_le (a := 7) c2 (by omega))]
        exact run 0 (Or.inl rfl) ⟨fun z => absurd z (by decide), fun z => by omega⟩
      · rw [if_neg (show ¬ (7 : Int32) ≤ nI (te b n q - skp (fun x => x = 32) b n q) from nI_ge (b := 7) (by omega) (by omega))]
        exact run 1 (Or.inr rfl) ⟨fun _ => ⟨by omega, by omega⟩, fun _ => rfl⟩
