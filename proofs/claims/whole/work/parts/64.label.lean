/-! signs -/
def pgR (n : Nat) (s d : Nat → Int32) : Prop := ∀ i, i < n → i < 200 → s i = d i
theorem put_sim {n : Nat} (hn : n < 2 ^ 30) {s d : Nat → Int32} (h : pgR n s d) (lt c : Int32) : ∃ s' d', fX2_put s (nI n) lt c = some (s', nI (n + 1), c) ∧ fX8_letter d (nI n) c = some (d', nI (n + 1)) ∧ pgR (n + 1) s' d' := by
  unfold fX2_put fX8_letter
  rw [show (200 : Int32) = nI 200 from rfl, nI_1]
  by_cases c2 : 200 ≤ n
  · rw [if_pos (nI_le c2 (by omega)), if_pos (nI_le c2 (by omega))]
    exact ⟨s, d, rfl, rfl, fun i h1 h2 => h i (by omega) h2⟩
  · rw [if_neg (nI_ge (by omega) (by omega)), if_neg (nI_ge (by omega) (by omega)), sv_nI (by omega) (by omega), ob, sv_nI (by omega) (by omega), ob]
    refine ⟨_, _, rfl, rfl, fun i h1 h2 => ?_⟩
    by_cases e : i = n
    · subst e; rw [pk_us, pk_us]
    · rw [pk_un e, pk_un e]; exact h i (by omega) h2
theorem dvN {a d : Nat} (ha : a < 2 ^ 31) (h0 : 0 < d) (hd : d < 2 ^ 31) : dv (nI a) (nI d) = some (nI (a / d)) := by
  unfold dv
  rw [if_neg (nI_ne0 h0 hd), pk_div ha h0 hd]
theorem rmN {a : Nat} (ha : a < 2 ^ 31) : rmd (nI a) 10 = some (nI (a % 10)) := by
  unfold rmd
  rw [if_neg (by decide), show (10 : Int32) = nI 10 from rfl, pk_rem ha (by omega) (by omega)]
theorem p10 {k : Nat} (hk : k ≤ 9) : 1 ≤ 10 ^ k ∧ 10 ^ k ≤ 1000000000 := ⟨Nat.pow_pos (by omega), Nat.pow_le_pow_right (n := 10) (by omega) hk⟩
theorem dg_sgn {x : Nat} : (48 : Int32) + nI (x % 10) ≠ 58 := by
  rw [show (48 : Int32) = nI 48 from rfl, nI_add]
  exact nI_ne (c := 58) (by omega) (by omega) (by omega)
theorem num_tail {w : Nat} (hw : w ≤ 2000000000) (K : Int32 → Int32 → (Nat → Int32) → Int32 → Int32 → Option ((Nat → Int32) × Int32 × Int32)) (K' : Int32 → (Nat → Int32) → Int32 → Option ((Nat → Int32) × Int32)) : ∀ (k f1 f2 n : Nat) (s d : Nat → Int32) (lt : Int32), k ≤ 9 → k + 1 < f1 → k + 1 < f2 → n + k + 1 < 2 ^ 30 → pgR n s d → ∃ s' d' lt', fX2_putNumber_5 (nI w) f1 K 1 (nI (10 ^ k)) s (nI n) lt = K 1 0 s' (nI (n + k + 1)) lt' ∧ fX8_figures_20 (nI w) f2 K' (nI (10 ^ k)) d (nI n) = K' 0 d' (nI (n + k + 1)) ∧ pgR (n + k + 1) s' d' ∧ lt' ≠ 58 := by
  intro k
  induction k with
  | zero =>
    intro f1 f2 n s d lt hk h1 h2 hn h
    obtain ⟨f1, rfl⟩ : ∃ m, f1 = m + 2 := ⟨f1 - 2, by omega⟩
    obtain ⟨f2, rfl⟩ : ∃ m, f2 = m + 2 := ⟨f2 - 2, by omega⟩
    obtain ⟨s', d', e1, e2, h'⟩ := put_sim (by omega) h lt (48 + nI (w / 10 ^ 0 % 10))
    have e10 : dv (nI (10 ^ 0)) 10 = some 0 := by decide
    have ew : w / 10 ^ 0 < 2 ^ 31 := Nat.lt_of_le_of_lt (Nat.div_le_self _ _) (by omega)
    rw [fX2_putNumber_5, fX8_figures_20, if_neg (by decide), if_neg (by decide), dvN (by omega) (by decide) (by decide), ob, ob, rmN ew, ob, ob, if_neg (show ¬ (1 : Int32) = 0 by decide), if_neg (show ¬ (1 : Int32) = 0 by decide), e1, ob, e2, ob, e10, ob, ob, fX2_putNumber_5, fX8_figures_20, if_pos (by decide), if_pos (by decide)]
    exact ⟨s', d', _, rfl, rfl, h', dg_sgn⟩
  | succ k ih =>
    intro f1 f2 n s d lt hk h1 h2 hn h
    obtain ⟨f1, rfl⟩ : ∃ m, f1 = m + 1 := ⟨f1 - 1, by omega⟩
    obtain ⟨f2, rfl⟩ : ∃ m, f2 = m + 1 := ⟨f2 - 1, by omega⟩
    obtain ⟨s', d', e1, e2, h'⟩ := put_sim (by omega) h lt (48 + nI (w / 10 ^ (k + 1) % 10))
    have hp := p10 (k := k + 1) (by omega)
    have hp2 := p10 (k := k) (by omega)
    have e10 : dv (nI (10 ^ (k + 1))) 10 = some (nI (10 ^ k)) := by
      rw [show (10 : Int32) = nI 10 from rfl, dvN (by omega) (by omega) (by omega), Nat.pow_succ, Nat.mul_div_cancel _ (by omega)]
    have ew : w / 10 ^ (k + 1) < 2 ^ 31 := Nat.lt_of_le_of_lt (Nat.div_le_self _ _) (by omega)
    obtain ⟨s2, d2, lt2, q1, q2, q3, q4⟩ := ih f1 f2 (n + 1) s' d' (48 + nI (w / 10 ^ (k + 1) % 10)) (by omega) (by omega) (by omega) (by omega) h'
    rw [fX2_putNumber_5, fX8_figures_20, if_neg (nI_nle (by omega) (by omega)), if_neg (nI_nle (by omega) (by omega)), dvN (by omega) (by omega) (by omega), ob, ob, rmN ew, ob, ob, if_neg (show ¬ (1 : Int32) = 0 by decide), if_neg (show ¬ (1 : Int32) = 0 by decide), e1, ob, e2, ob, e10, ob, ob, q1, q2]
    rw [show n + 1 + k + 1 = n + (k + 1) + 1 by omega] at q3 ⊢
    exact ⟨s2, d2, lt2, rfl, rfl, q3, q4⟩
/-- leading zeros are passed -/
theorem num_lead {w k : Nat} (hw : w ≤ 2000000000) (hk : k ≤ 9) (h1 : w < 10 ^ (k + 1)) (h2 : k = 0 ∨ 10 ^ k ≤ w) (K : Int32 → Int32 → (Nat → Int32) → Int32 → Int32 → Option ((Nat → Int32) × Int32 × Int32)) (s : Nat → Int32) (L lt : Int32) : ∀ (t f : Nat), k + t ≤ 9 → fX2_putNumber_5 (nI w) (f + t + 1) K 0 (nI (10 ^ (k + t))) s L lt = fX2_putNumber_5 (nI w) (f + 1) K 1 (nI (10 ^ k)) s L lt := by
  intro t
  induction t with
  | zero =>
    intro f ht
    have hp := p10 hk
    have ew : w / 10 ^ k < 2 ^ 31 := Nat.lt_of_le_of_lt (Nat.div_le_self _ _) (by omega)
    show fX2_putNumber_5 (nI w) (f + 1) K 0 (nI (10 ^ k)) s L lt = _
    rw [fX2_putNumber_5, fX2_putNumber_5, if_neg (nI_nle (by omega) (by omega)), if_neg (nI_nle (by omega) (by omega)), dvN (by omega) (by omega) (by omega), ob, ob, rmN ew, ob, ob, if_pos rfl, if_neg (show ¬ (1 : Int32) = 0 by decide), if_neg (show ¬ (1 : Int32) = 0 by decide)]
    by_cases c : nI (w / 10 ^ k % 10) = 0
    · rw [if_pos c]
      have ck : k = 0 := by
        rcases h2 with h2 | h2
        · exact h2
        · exfalso
          have a1 : 0 < w / 10 ^ k := Nat.div_pos h2 (by omega)
          have a2 : w / 10 ^ k < 10 := Nat.div_lt_of_lt_mul (by rw [Nat.pow_succ] at h1; exact h1)
          exact nI_ne0 (n := w / 10 ^ k % 10) (by omega) (by omega) c
      subst ck
      rw [if_pos (show nI (10 ^ 0) = 1 by decide)]
    · rw [if_neg c]
  | succ t ih =>
    intro f ht
    have hp := p10 (k := k + (t + 1)) ht
    have hlt : w < 10 ^ (k + (t + 1)) := Nat.lt_of_lt_of_le h1 (Nat.pow_le_pow_right (n := 10) (by omega) (by omega))
    have e0 : w / 10 ^ (k + (t + 1)) = 0 := Nat.div_eq_of_lt hlt
    have e10 : dv (nI (10 ^ (k + (t + 1)))) 10 = some (nI (10 ^ (k + t))) := by
      rw [show (10 : Int32) = nI 10 from rfl, dvN (by omega) (by omega) (by omega), show k + (t + 1) = (k + t) + 1 by omega, Nat.pow_succ, Nat.mul_div_cancel _ (by omega)]
    have hne : ¬ nI (10 ^ (k + (t + 1))) = 1 := by
      have : 10 ^ 1 ≤ 10 ^ (k + (t + 1)) := Nat.pow_le_pow_right (n := 10) (by omega) (by omega)
      exact nI_ne (c := 1) (by omega) (by omega) (by omega)
    rw [show f + (t + 1) + 1 = (f + t + 1) + 1 by omega, fX2_putNumber_5, if_neg (nI_nle (by omega) (by omega)), dvN (by omega) (by omega) (by omega), ob, rmN (by omega), ob, e0, if_pos rfl, if_pos (by decide), if_neg hne, if_pos rfl, e10, ob]
    exact ih f (by omega)
theorem fig_unit {w k : Nat} (hw : w ≤ 2000000000) (hk : k ≤ 9) (h1 : w < 10 ^ (k + 1)) (h2 : k = 0 ∨ 10 ^ k ≤ w) (K : Int32 → Option ((Nat → Int32) × Int32)) : ∀ (t j f : Nat), j + t = k → t < f → fX8_figures_2 (nI w) f K (nI (10 ^ j)) = K (nI (10 ^ k)) := by
  intro t
  induction t with
  | zero =>
    intro j f e hf
    obtain ⟨f, rfl⟩ : ∃ m, f = m + 1 := ⟨f - 1, by omega⟩
    have : j = k := by omega
    subst this
    have hp := p10 hk
    have a2 : w / 10 ^ j < 10 := Nat.div_lt_of_lt_mul (by rw [Nat.pow_succ] at h1; exact h1)
    rw [fX8_figures_2, dvN (by omega) (by omega) (by omega), ob, if_pos (show nI (w / 10 ^ j) ≤ 9 from nI_le (b := 9) (by omega) (by omega))]
  | succ t ih =>
    intro j f e hf
    obtain ⟨f, rfl⟩ : ∃ m, f = m + 1 := ⟨f - 1, by omega⟩
    have hp := p10 (k := j) (by omega)
    have hle : 10 ^ (j + 1) ≤ w := Nat.le_trans (Nat.pow_le_pow_right (n := 10) (by omega) (by omega)) (h2.resolve_left (by omega))
    have a2 : 10 ≤ w / 10 ^ j := by
      rw [Nat.le_div_iff_mul_le (by omega)]
      rw [Nat.pow_succ] at hle
      omega
    have a3 : w / 10 ^ j < 2 ^ 31 := Nat.lt_of_le_of_lt (Nat.div_le_self _ _) (by omega)
    rw [fX8_figures_2, dvN (by omega) (by omega) (by omega), ob, if_neg (show ¬ nI (w / 10 ^ j) ≤ 9 from nI_ge (a := 9) (by omega) a3), show (10 : Int32) = nI 10 from rfl, pk_mul, ← Nat.pow_succ]
    exact ih (j + 1) f (by omega) (by omega)
theorem dig_k {w : Nat} (hw : w ≤ 2000000000) : ∃ k, k ≤ 9 ∧ w < 10 ^ (k + 1) ∧ (k = 0 ∨ 10 ^ k ≤ w) := by
  by_cases c1 : w < 10
  · exact ⟨0, by omega, by omega, Or.inl rfl⟩
  by_cases c2 : w < 100
  · exact ⟨1, by omega, by omega, Or.inr (by omega)⟩
  by_cases c3 : w < 1000
  · exact ⟨2, by omega, by omega, Or.inr (by omega)⟩
  by_cases c4 : w < 10000
  · exact ⟨3, by omega, by omega, Or.inr (by omega)⟩
  by_cases c5 : w < 100000
  · exact ⟨4, by omega, by omega, Or.inr (by omega)⟩
  by_cases c6 : w < 1000000
  · exact ⟨5, by omega, by omega, Or.inr (by omega)⟩
  by_cases c7 : w < 10000000
  · exact ⟨6, by omega, by omega, Or.inr (by omega)⟩
  by_cases c8 : w < 100000000
  · exact ⟨7, by omega, by omega, Or.inr (by omega)⟩
  by_cases c9 : w < 1000000000
  · exact ⟨8, by omega, by omega, Or.inr (by omega)⟩
  exact ⟨9, by omega, by omega, Or.inr (by omega)⟩
theorem num_sim {w : Nat} (hw : w ≤ 2000000000) {n : Nat} (hn : n < 2 ^ 29) {s d : Nat → Int32} (h : pgR n s d) (lt : Int32) : ∃ n' s' d' lt', fX2_putNumber s (nI n) lt (nI w) = some (s', nI n', lt') ∧ fX8_figures d (nI n) (nI w) = some (d', nI n') ∧ pgR n' s' d' ∧ n < n' ∧ n' ≤ n + 10 ∧ lt' ≠ 58 := by
  obtain ⟨k, hk, h1, h2⟩ := dig_k hw
  unfold fX2_putNumber fX8_figures
  have e1 := num_lead hw hk h1 h2 (fun _ _ s L lt => some (s, L, lt)) s (nI n) lt (9 - k) (FU - 1 - (9 - k)) (by omega)
  rw [show FU - 1 - (9 - k) + (9 - k) + 1 = FU from by unfold FU; omega, show k + (9 - k) = 9 by omega] at e1
  have e2 := fig_unit hw hk h1 h2 (fun x2_2 => fX8_figures_20 (nI w) FU (fun x3_20 g_draft_20 g_drafts_20 => some (g_draft_20, g_drafts_20)) x2_2 d (nI n)) k 0 FU (by omega) (by unfold FU; omega)
  obtain ⟨s', d', lt', q1, q2, q3, q4⟩ := num_tail hw (fun _ _ s L lt => some (s, L, lt)) (fun _ d D => some (d, D)) k (FU - 1 - (9 - k) + 1) FU n s d lt hk (by unfold FU; omega) (by unfold FU; omega) (by omega) h
  refine ⟨n + k + 1, s', d', lt', ?_, ?_, q3, by omega, by omega, q4⟩
  · exact e1.trans q1
  · exact e2.trans q2
theorem fig_1 {j : Nat} (hj : j < 10) (d : Nat → Int32) (D : Int32) : fX8_figures d D (nI j) = (fX8_letter d D (48 + nI j)).bind fun r => some (r.1, r.2) := by
  unfold fX8_figures
  have e2 := fig_unit (w := j) (k := 0) (by omega) (by omega) (by omega) (Or.inl rfl) (fun x2_2 => fX8_figures_20 (nI j) FU (fun x3_20 g_draft_20 g_drafts_20 => some (g_draft_20, g_drafts_20)) x2_2 d D) 0 0 FU rfl (by unfold FU; omega)
  refine e2.trans ?_
  have e10 : dv (nI (10 ^ 0)) 10 = some 0 := by decide
  rw [show FU = 5998 + 1 + 1 from rfl, fX8_figures_20, if_neg (by decide), dvN (by omega) (by decide) (by decide), ob, rmN (by rw [Nat.pow_zero, Nat.div_one]; omega), ob, e10, Nat.pow_zero, Nat.div_one, Nat.mod_eq_of_lt hj]
  congr 1
/-! ranges -/
def rgW (is : Int32) (d : Nat → Int32) (D a e : Int32) : Option ((Nat → Int32) × Int32) := (if is = 0 then some (d, D) else fX8_letter d D 44).bind fun r => (fX8_figures r.1 r.2 a).bind fun r => if e ≤ a then some r else (fX8_letter r.1 r.2 45).bind fun r => fX8_figures r.1 r.2 e
def flg (is lt : Int32) : Prop := (is = 0 ∧ lt = 58) ∨ (is = 1 ∧ lt ≠ 58)
theorem i_nI {x : Int32} (h0 : 0 ≤ x.toInt) (h1 : x.toInt ≤ 2000000000) : ∃ w : Nat, w ≤ 2000000000 ∧ x = nI w := by
  obtain ⟨j, hj, e⟩ := nI_of (x := x) (by rw [i32lt, t0]; omega)
  subst e
  rw [nI_toInt hj] at h1
  exact ⟨j, by omega, rfl⟩
theorem range_sim {a e : Int32} (ha : 1 ≤ a.toInt) (hae : a.toInt ≤ e.toInt) (he : e.toInt ≤ 2000000000) {n : Nat} (hn : n < 2 ^ 28) {s d : Nat → Int32} (h : pgR n s d) {is lt : Int32} (hf : flg is lt) : ∃ n' s' d' lt', fX2_putRange s (nI n) lt a e = some (s', nI n', lt') ∧ rgW is d (nI n) a e = some (d', nI n') ∧ pgR n' s' d' ∧ n' ≤ n + 22 ∧ lt' ≠ 58 := by
  obtain ⟨wa, hwa, rfl⟩ := i_nI (x := a) (by omega) (by omega)
  obtain ⟨we, hwe, rfl⟩ := i_nI (x := e) (by omega) he
  have rest : ∀ (n1 : Nat) (s1 d1 : Nat → Int32) (lt1 : Int32), n1 ≤ n + 1 → pgR n1 s1 d1 → ∃ n' s' d' lt', ((fX2_putNumber s1 (nI n1) lt1 (nI wa)).bind fun r17 => if nI we ≤ nI wa then some (r17.1, r17.2.1, r17.2.2) else (fX2_put r17.1 r17.2.1 r17.2.2 45).bind fun r28 => (fX2_putNumber r28.1 r28.2.1 r28.2.2 (nI we)).bind fun r33 => some (r33.1, r33.2.1, r33.2.2)) = some (s', nI n', lt') ∧ ((fX8_figures d1 (nI n1) (nI wa)).bind fun r => if nI we ≤ nI wa then some r else (fX8_letter r.1 r.2 45).bind fun r => fX8_figures r.1 r.2 (nI we)) = some (d', nI n') ∧ pgR n' s' d' ∧ n' ≤ n + 22 ∧ lt' ≠ 58 := by
    intro n1 s1 d1 lt1 hn1 h1
    obtain ⟨n2, s2, d2, lt2, e1, e2, h2, c0, c1, c2⟩ := num_sim hwa (show n1 < 2 ^ 29 by omega) h1 lt1
    rw [e1, e2, ob, ob]
    by_cases c : nI we ≤ nI wa
    · rw [if_pos c, if_pos c]
      exact ⟨n2, s2, d2, lt2, rfl, rfl, h2, by omega, c2⟩
    · obtain ⟨s3, d3, e3, e4, h3⟩ := put_sim (show n2 < 2 ^ 30 by omega) h2 lt2 45
      obtain ⟨n4, s4, d4, lt4, e5, e6, h4, c3, c4, c5⟩ := num_sim hwe (show n2 + 1 < 2 ^ 29 by omega) h3 45
      rw [if_neg c, if_neg c, e3, ob, e4, ob, e5, ob, e6]
      exact ⟨n4, s4, d4, lt4, rfl, rfl, h4, by omega, c5⟩
  unfold fX2_putRange rgW
  rcases hf with ⟨f1, f2⟩ | ⟨f1, f2⟩
  · rw [if_pos f2, if_pos f1, ob]
    exact rest n s d lt (by omega) h
  · obtain ⟨s1, d1, e1, e2, h1⟩ := put_sim (show n < 2 ^ 30 by omega) h lt 44
    rw [if_neg f2, if_neg (fun z => by rw [f1] at z; exact absurd z (by decide)), e1, ob, e2, ob]
    exact rest (n + 1) s1 d1 44 (by omega) h1
/-! runs -/
def wrC : List (Int32 × Int32) → (Nat → Int32) → Int32 → Int32 → Option ((Nat → Int32) × Int32 × Int32)
  | [], s, L, lt => some (s, L, lt)
  | p :: r, s, L, lt => (fX2_putRange s L lt p.1 p.2).bind fun t => wrC r t.1 t.2.1 t.2.2
def wrR : List (Int32 × Int32) → Int32 → (Nat → Int32) → Int32 → Option (Int32 × (Nat → Int32) × Int32)
  | [], is, d, D => some (is, d, D)
  | p :: r, is, d, D => (rgW is d D p.1 p.2).bind fun t => wrR r 1 t.1 t.2
theorem wr_sim : ∀ (R : List (Int32 × Int32)) (n : Nat) (s d : Nat → Int32) (is lt : Int32), (∀ p ∈ R, 1 ≤ p.1.toInt ∧ p.1.toInt ≤ p.2.toInt ∧ p.2.toInt ≤ 2000000000) → n + 22 * R.length < 2 ^ 28 → pgR n s d → flg is lt → ∃ n' s' d' is' lt', wrC R s (nI n) lt = some (s', nI n', lt') ∧ wrR R is d (nI n) = some (is', d', nI n') ∧ pgR n' s' d' ∧ n' ≤ n + 22 * R.length ∧ flg is' lt' := by
  intro R
  induction R with
  | nil => intro n s d is lt h1 hn h hf; exact ⟨n, s, d, is, lt, rfl, rfl, h, by omega, hf⟩
  | cons p R ih =>
    intro n s d is lt h1 hn h hf
    rw [List.length_cons] at hn
    have hp := h1 p List.mem_cons_self
    obtain ⟨n1, s1, d1, lt1, e1, e2, h2, c1, c2⟩ := range_sim hp.1 hp.2.1 hp.2.2 (show n < 2 ^ 28 by omega) h hf
    obtain ⟨n2, s2, d2, is2, lt2, e3, e4, h3, c3, c4⟩ := ih n1 s1 d1 1 lt1 (fun z hz => h1 z (List.mem_cons_of_mem _ hz)) (by omega) h2 (Or.inr ⟨rfl, c2⟩)
    rw [wrC, wrR, e1, ob, e2, ob, e3, e4]
    exact ⟨n2, s2, d2, is2, lt2, rfl, rfl, h3, by rw [List.length_cons]; omega, c4⟩
theorem rn_mem {m : Int32} {l : List Tr} (hr : okR l) {b : Int32} (hb : b.toInt ≤ 2000000000) : ∀ (F : Nat) (x : Int32), 1 ≤ x.toInt → ∀ p ∈ rn m l b F x, 1 ≤ p.1.toInt ∧ p.1.toInt ≤ p.2.toInt ∧ p.2.toInt ≤ 2000000000 := by
  intro F
  induction F with
  | zero => intro x h0 p hp; exact absurd hp List.not_mem_nil
  | succ F ih =>
    intro x h0 p hp
    rw [rn] at hp
    by_cases c : b < x
    · rw [if_pos c] at hp; exact absurd hp List.not_mem_nil
    · rw [if_neg c] at hp
      rw [i32lt] at c
      obtain ⟨r1, r2, r3, _⟩ := run_next (m := m) hr h0 (show x.toInt ≤ b.toInt by omega) hb
      rcases List.mem_cons.mp hp with e | e
      · subst e; exact ⟨h0, r1, by show (bt m l x b).toInt ≤ _; omega⟩
      · obtain ⟨a1, _⟩ := bf_spec (m := m) hr (show 1 ≤ (bt m l x b + 1).toInt by omega) (show (bt m l x b + 1).toInt ≤ 2000000001 by omega)
        exact ih _ (by omega) p e
theorem rn_len {m : Int32} {l : List Tr} {b : Int32} : ∀ (F : Nat) (x : Int32), (rn m l b F x).length ≤ F := by
  intro F
  induction F with
  | zero => intro x; exact Nat.le_refl _
  | succ F ih =>
    intro x
    rw [rn]
    split
    · exact Nat.zero_le _
    · rw [List.length_cons]; have := ih (bf m l (bt m l x b + 1)); omega
theorem wo_loop {v : Rg} {l : List Tr} (h : isL 10 v l) (hr : okR l) (m b : Int32) : ∀ (n i : Nat) (x : Int32) (s : Nat → Int32) (L lt : Int32), i ≤ l.length + 1 → l.length + 1 < i + n → fX2_writeOwn_11 10 v m b n (fun _ _ s L lt => some (s, L, lt)) x (nI i) s L lt = wrC (rn m l b (l.length + 1 - i) x) s L lt := by
  have h1 := h.1
  intro n
  induction n with
  | zero => intro i x s L lt h1 h2; omega
  | succ n ih =>
    intro i x s L lt hi hn
    rw [fX2_writeOwn_11, e_size h, ob]
    by_cases c : i = l.length + 1
    · rw [if_pos (nI_lt (by omega) (by omega)), c, Nat.sub_self, rn, wrC]
    · rw [if_neg (nI_nlt (by omega) (by omega)), e_bareTo h (by decide) hr, ob, nI_1, show l.length + 1 - i = (l.length + 1 - (i + 1)) + 1 by omega, rn]
      by_cases c2 : b < x
      · rw [if_pos c2, if_pos c2, wrC]
      · rw [if_neg c2, if_neg c2, wrC]
        congr 1
        funext t
        rw [e_bareFrom h (by decide), ob, ih (i + 1) _ _ _ _ (by omega) (by omega)]
theorem e_writeOwn {v : Rg} {l : List Tr} (h : isL 10 v l) (hr : okR l) (m a b : Int32) (s : Nat → Int32) (L lt : Int32) : fX2_writeOwn 10 s L lt v m a b = wrC (rn m l b (l.length + 1) (bf m l a)) s L lt := by
  have h1 := h.1
  unfold fX2_writeOwn
  rw [e_bareFrom h (by decide), ob]
  have := wo_loop h hr m b FU 0 (bf m l a) s L lt (Nat.zero_le _) (by unfold FU; omega)
  rw [nI_0, Nat.sub_zero] at this
  exact this
def ovS (m x : Int32) (o : Int32) (q : Tr) : Int32 := if q.1 = m then (if ¬ x < q.2.1 ∧ ¬ q.2.2 < x then q.2.2 else o) else o
theorem w61_loop {g : Nat → Int32} {l : List Tr} (h : isS g l) (m x : Int32) (k : Int32 → Int32 → Int32 → Option (Int32 × (Nat → Int32) × Int32)) : ∀ (n i : Nat) (e o : Int32), i ≤ l.length → l.length < i + n → fX8_writes_61 g m x n k e o (nI i) = k ((l.drop i).foldl (btF m x) e) ((l.drop i).foldl (ovS m x) o) (nI l.length) := by
  have hb := h.b
  intro n
  induction n with
  | zero => intro i e o h1 h2; omega
  | succ n ih =>
    intro i e o hi hn
    rw [fX8_writes_61, h.c, ob]
    by_cases c : i = l.length
    · rw [if_pos ((nI_geI (by omega) (by omega) hi).mpr c), c, List.drop_length]; rfl
    · have hlt : i < l.length := by omega
      rw [if_neg (fun z => c ((nI_geI (by omega) (by omega) hi).mp z)), h.m hlt, h.f hlt, h.l hlt, nI_1]
      have ih := fun e o => ih (i + 1) e o (by omega) (by omega)
      simp only [ob, e8_in32, hs_if, i01, e8_lesser, ih]
      rw [List.drop_eq_getElem_cons hlt, List.foldl_cons, List.foldl_cons, btF, ovS]
      (repeat' split) <;> rfl
theorem ovS_spec {m x : Int32} {l : List Tr} : ∀ o : Int32, (l.foldl (ovS m x) o = o ∧ ∀ q ∈ l, q.1 = m → ¬ (¬ x < q.2.1 ∧ ¬ q.2.2 < x)) ∨ (∃ q ∈ l, q.1 = m ∧ (¬ x < q.2.1 ∧ ¬ q.2.2 < x) ∧ q.2.2 = l.foldl (ovS m x) o) := by
  induction l with
  | nil => intro o; exact Or.inl ⟨rfl, fun q hq => absurd hq List.not_mem_nil⟩
  | cons p l ih =>
    intro o
    rw [List.foldl_cons]
    by_cases c : p.1 = m ∧ (¬ x < p.2.1 ∧ ¬ p.2.2 < x)
    · have e : ovS m x o p = p.2.2 := by unfold ovS; rw [if_pos c.1, if_pos c.2]
      rw [e]
      right
      rcases ih p.2.2 with ⟨a1, a2⟩ | ⟨q, hq, y⟩
      · exact ⟨p, List.mem_cons_self, c.1, c.2, a1.symm⟩
      · exact ⟨q, List.mem_cons_of_mem _ hq, y⟩
    · have e : ovS m x o p = o := by
        unfold ovS
        by_cases d : p.1 = m
        · rw [if_pos d, if_neg (fun z => c ⟨d, z⟩)]
        · rw [if_neg d]
      rw [e]
      rcases ih o with ⟨a1, a2⟩ | ⟨q, hq, y⟩
      · refine Or.inl ⟨a1, fun q hq hm => ?_⟩
        rcases List.mem_cons.mp hq with y | y
        · subst y; exact fun z => c ⟨hm, z⟩
        · exact a2 q y hm
      · exact Or.inr ⟨q, List.mem_cons_of_mem _ hq, y⟩
theorem w44_loop {g : Nat → Int32} {l : List Tr} (h : isS g l) (hr : okR l) (m : Int32) {b : Int32} (hb : b.toInt ≤ 2000000000) (k : Int32 → Int32 → (Nat → Int32) → Int32 → Option (Int32 × (Nat → Int32) × Int32)) (k' : Int32 → (Nat → Int32) → Int32 → Option (Int32 × (Nat → Int32) × Int32)) (hk : ∀ a x d D, k a x d D = k' a d D) : ∀ (n F : Nat) (is x : Int32) (d : Nat → Int32) (D : Int32), 1 ≤ x.toInt → x.toInt ≤ 2000000001 → meas m l b.toInt x.toInt < n → (fz m l (bf m l x).toInt < F ∨ b.toInt < (bf m l x).toInt) → fX8_writes_44 g m b n k is x d D = (wrR (rn m l b F (bf m l x)) is d D).bind fun t => k' t.1 t.2.1 t.2.2 := by
  have hl := h.1
  intro n
  induction n with
  | zero => intro F is x d D h0 h1 hm; omega
  | succ n ih =>
    intro F is x d D h0 h1 hm hF
    obtain ⟨a1, a2, a3, a4⟩ := bf_spec (m := m) hr h0 h1
    have hlp := fun k => w61_loop h m x k FU 0 b (-1) (Nat.zero_le _) (FU_gt (by omega))
    simp only [nI_0, List.drop_zero] at hlp
    rw [fX8_writes_44]
    by_cases c : b < x
    · rw [if_pos c, hk]
      rw [i32lt] at c
      rw [rn_nil (by omega), wrR, ob]
    · rw [if_neg c, hlp]
      rw [i32lt] at c
      rcases ovS_spec (m := m) (x := x) (l := l) (-1) with ⟨c1, c2⟩ | ⟨q, hq, y1, y2, y3⟩
      · rw [c1]
        have hbare : ¬ cv m l x.toInt := by
          rintro ⟨q, hq, y1, y2, y3⟩
          refine c2 q hq y1 ?_
          rw [i32lt, i32lt]; omega
        have ebf := bf_self hr h0 h1 hbare
        obtain ⟨r1, r2, r3, r4, r5⟩ := run_next (m := m) hr h0 (show x.toInt ≤ b.toInt by omega) hb
        rw [ebf] at hF ⊢
        obtain ⟨F, rfl⟩ : ∃ k, F = k + 1 := ⟨F - 1, by omega⟩
        have ih := fun d D => ih F 1 (bt m l x b + 1) d D (by omega) (by omega) (by omega) (by omega)
        rw [rn, if_neg (show ¬ b < x by rw [i32lt]; omega), wrR]
        rw [show (l.foldl (btF m x) b) = bt m l x b from rfl]
        unfold rgW
        simp only [if_true, Option.bind_assoc]
        by_cases c3 : is = 0
        · simp only [if_pos c3, ob]
          by_cases c4 : bt m l x b ≤ x
          · simp only [if_pos c4, ob, ih]
          · simp only [if_neg c4, Option.bind_assoc, ih]
        · simp only [if_neg c3]
          by_cases c4 : bt m l x b ≤ x
          · simp only [if_pos c4, ob, ih]
          · simp only [if_neg c4, Option.bind_assoc, ih]
      · rw [i32lt, i32lt] at y2
        obtain ⟨o1, o2, o3, o4, o5⟩ := over_next (b := b) hr h0 hq y1 (by omega) (by omega) y3
        have hne : ¬ l.foldl (ovS m x) (-1) = -1 := nn_m1 (by omega)
        rw [if_neg hne, if_neg hne, ih F is _ d D (by omega) (by omega) (by omega) (by rw [o4]; exact hF), o4]
