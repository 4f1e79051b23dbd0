/-! the whole text -/
def refG (b' : Nat → Int32) (N x1 : Int32) (f8 : Nat) (K : Int32 → (Nat → Int32) → (Nat → Int32) → Int32 → Int32 → (Nat → Int32) → Int32 → Int32 → Int32 → (Nat → Int32) → Int32 → Option (Int32 × (Nat → Int32) × (Nat → Int32) × Int32 × Int32 × (Nat → Int32) × Int32 × Int32 × Int32 × (Nat → Int32) × Int32)) (row list : Nat → Int32) (listed papers : Int32) (be : Nat → Int32) (bs F B : Int32) (g8 : Nat → Int32) (cl : Int32) : Option (Int32 × (Nat → Int32) × (Nat → Int32) × Int32 × Int32 × (Nat → Int32) × Int32 × Int32 × Int32 × (Nat → Int32) × Int32) :=
  (fX8_readsClause row list listed papers b' N be bs F B g8 wX8_339 wX8_462 x1).bind fun r74 => fX8_reads_20 b' N wX8_339 wX8_462 x1 f8 K r74.1 r74.2.1 r74.2.2.1 r74.2.2.2.1 r74.2.2.2.2.1 r74.2.2.2.2.2.1 r74.2.2.2.2.2.2.1 r74.2.2.2.2.2.2.2.1 r74.2.2.2.2.2.2.2.2.1 r74.2.2.2.2.2.2.2.2.2 cl
abbrev Cm : Type := Nat × (Nat → Int32)
abbrev S6 : Type := (Nat → Int32) × (Nat → Int32) × Int32 × Int32 × (Nat → Int32) × Int32
def exR : List Cm → S6 → Option S6
  | [], s => some s
  | c :: cs, s => (fX8_done s.1 s.2.1 s.2.2.1 s.2.2.2.1 s.2.2.2.2.1 s.2.2.2.2.2 c.2 (nI c.1)).bind fun r => exR cs r
theorem ld3 {g : Nat → Int32} {j : Nat} (h : j < 3) : ld 3 g (nI j) = some (g j) := ld_nI h (by omega)
theorem eight {v : Nat} (h : v < 8) : v = 0 ∨ v = 1 ∨ v = 2 ∨ v = 3 ∨ v = 4 ∨ v = 5 ∨ v = 6 ∨ v = 7 := by omega
theorem done_congr {row list : Nat → Int32} {listed papers : Int32} {be : Nat → Int32} {bs : Int32} {g g' : Nat → Int32} {v : Nat} (hv : v < 8) (h : ∀ j, j < arv v → g j = g' j) : fX8_done row list listed papers be bs g (nI v) = fX8_done row list listed papers be bs g' (nI v) := by
  have l : ∀ j, j < arv v → j < 3 → ld 3 g (nI j) = ld 3 g' (nI j) := fun j h1 h2 => by rw [ld3 h2, ld3 h2, h j h1]
  unfold fX8_done
  rcases eight hv with e | e | e | e | e | e | e | e
  · subst e
    rw [if_pos (by decide), if_pos (by decide)]
  · subst e
    have l0 : ld 3 g 0 = ld 3 g' 0 := l 0 (by decide) (by decide)
    have l1 : ld 3 g 1 = ld 3 g' 1 := l 1 (by decide) (by decide)
    have l2 : ld 3 g 2 = ld 3 g' 2 := l 2 (by decide) (by decide)
    rw [l0, l1, l2]
  · subst e
    have l0 : ld 3 g 0 = ld 3 g' 0 := l 0 (by decide) (by decide)
    have l1 : ld 3 g 1 = ld 3 g' 1 := l 1 (by decide) (by decide)
    rw [if_neg (by decide), if_neg (by decide), if_pos (by decide), if_neg (by decide), if_neg (by decide), if_pos (by decide), l0, l1]
  · subst e
    have l0 : ld 3 g 0 = ld 3 g' 0 := l 0 (by decide) (by decide)
    have l1 : ld 3 g 1 = ld 3 g' 1 := l 1 (by decide) (by decide)
    rw [if_neg (by decide), if_neg (by decide), if_neg (by decide), if_pos (by decide), if_neg (by decide), if_neg (by decide), if_neg (by decide), if_pos (by decide), l0, l1]
  · subst e
    have l0 : ld 3 g 0 = ld 3 g' 0 := l 0 (by decide) (by decide)
    have l1 : ld 3 g 1 = ld 3 g' 1 := l 1 (by decide) (by decide)
    have l2 : ld 3 g 2 = ld 3 g' 2 := l 2 (by decide) (by decide)
    rw [l0, l1, l2]
  · subst e
    have l0 : ld 3 g 0 = ld 3 g' 0 := l 0 (by decide) (by decide)
    have l1 : ld 3 g 1 = ld 3 g' 1 := l 1 (by decide) (by decide)
    rw [if_neg (by decide), if_neg (by decide), if_neg (by decide), if_neg (by decide), if_neg (by decide), if_pos (by decide), if_neg (by decide), if_neg (by decide), if_neg (by decide), if_neg (by decide), if_neg (by decide), if_pos (by decide), l0, l1]
  · subst e
    have l0 : ld 3 g 0 = ld 3 g' 0 := l 0 (by decide) (by decide)
    have l1 : ld 3 g 1 = ld 3 g' 1 := l 1 (by decide) (by decide)
    have l2 : ld 3 g 2 = ld 3 g' 2 := l 2 (by decide) (by decide)
    rw [l0, l1, l2]
  · subst e
    have l0 : ld 3 g 0 = ld 3 g' 0 := l 0 (by decide) (by decide)
    rw [if_neg (by decide), if_neg (by decide), if_neg (by decide), if_neg (by decide), if_neg (by decide), if_neg (by decide), if_neg (by decide), if_neg (by decide), if_neg (by decide), if_neg (by decide), if_neg (by decide), if_neg (by decide), if_neg (by decide), if_neg (by decide), l0]
def foI (fo : Option Nat) : Int32 := match fo with
  | none => -1
  | some f => nI f
def foB (fo : Option Nat) : Int32 := match fo with
  | none => 1
  | some _ => 0
/-- the class, from a command on -/
def cls7 (b : Nat → Int32) (n c q k : Nat) (cs : List Cm) (fo : Option Nat) : Prop := ∀ (f7 : Nat) (verbs nums : Nat → Int32) (cc : Int32) K, k < f7 → ∃ verbs' nums' cnt at', fX6_read_12 b (nI n) f7 K (nI c) verbs nums cc (nI q) = some (foI fo, verbs', nums', cnt, at') ∧ (fo = none → cnt = nI (c + cs.length) ∧ (∀ (i : Nat) (hi : i < cs.length), verbs' (c + i) = nI (cs[i]).1 ∧ ∀ j, j < arv (cs[i]).1 → nums' (3 * (c + i) + j) = (cs[i]).2 j) ∧ (∀ i, i < c → verbs' i = verbs i) ∧ ∀ j, j < 3 * c → nums' j = nums j)
def ref0 (b b' : Nat → Int32) (n c q k : Nat) (fo : Option Nat) : Prop := ∀ (f8 : Nat) K (row list : Nat → Int32) (listed papers : Int32) (be : Nat → Int32) (bs : Int32) (g8 : Nat → Int32), k + 1 < f8 → ∃ F B g8' cl, refG b' (nI n) 0 f8 K row list listed papers be bs (nI (skp (fun x => x = 32) b n q)) (nI (te b n q)) g8 (nI (c + 1)) = K (foB fo) row list listed papers be bs F B g8' cl ∧ ∀ f, fo = some f → F = nI f
def ref1 (b b' : Nat → Int32) (n c q k : Nat) (cs : List Cm) : Prop := ∀ (f8 : Nat) K (row list : Nat → Int32) (listed papers : Int32) (be : Nat → Int32) (bs : Int32) (g8 : Nat → Int32), k + 1 < f8 → ∃ F B g8', refG b' (nI n) 1 f8 K row list listed papers be bs (nI (skp (fun x => x = 32) b n q)) (nI (te b n q)) g8 (nI (c + 1)) = (exR cs (row, list, listed, papers, be, bs)).bind fun s => K 1 s.1 s.2.1 s.2.2.1 s.2.2.2.1 s.2.2.2.2.1 s.2.2.2.2.2 F B g8' (nI (c + cs.length))
theorem read_sim {b b' : Nat → Int32} {n : Nat} (hn : n ≤ 200) (hsm : same n b b') : ∀ (k c q : Nat), c + k = 24 → 0 < k → q ≤ n → ∃ (cs : List Cm) (fo : Option Nat), cs.length ≤ k ∧ (∀ x ∈ cs, x.1 < 8 ∧ okC x.1 x.2) ∧ (∀ f, fo = some f → f ≤ n) ∧ cls7 b n c q k cs fo ∧ ref0 b b' n c q k fo ∧ (fo = none → ref1 b b' n c q k cs) := by
  intro k
  induction k with
  | zero => intro c q h1 h2; omega
  | succ k ih =>
    intro c q hc hk hq
    have hc24 : ¬ (24 : Int32) ≤ nI c := nI_ge (b := 24) (by omega) (by omega)
    rcases cmd_sim (b := b) hn hsm hq with ⟨f, hf, k7, k8⟩ | ⟨v, vals, q', hv, hok, a1, a2, k7, k80, k81⟩
    · refine ⟨[], some f, Nat.zero_le _, fun x hx => absurd hx List.not_mem_nil, fun g hg => by cases hg; exact hf, ?_, ?_, fun h => by cases h⟩
      · intro f7 verbs nums cc K hf7
        obtain ⟨f7, rfl⟩ : ∃ m, f7 = m + 1 := ⟨f7 - 1, by omega⟩
        obtain ⟨v', n', at', e⟩ := k7 c verbs nums (by omega)
        rw [fX6_read_12, if_neg hc24, e, ob, if_neg (nI_m1 (by omega))]
        exact ⟨_, _, _, _, rfl, fun h => by cases h⟩
      · intro f8 K row list listed papers be bs g8 hf8
        obtain ⟨f8, rfl⟩ : ∃ m, f8 = m + 1 := ⟨f8 - 1, by omega⟩
        obtain ⟨beh, g8', e⟩ := k8 row list listed papers be bs g8 0
        unfold refG
        rw [e, ob, fX8_reads_20, if_pos rfl]
        exact ⟨nI f, beh, g8', nI (c + 1), rfl, fun g hg => by cases hg; rfl⟩
    · have hle := skp_le (P := fun x => x = 32) (b := b) (n := n) _ q' rfl a2
      have c7 : ∀ (f7 : Nat) (verbs nums : Nat → Int32) (cc : Int32) K, ∃ nums1, fX6_read_12 b (nI n) (f7 + 1) K (nI c) verbs nums cc (nI q) = (if nI (skp (fun x => x = 32) b n q') < nI n then (fX6_byteHere b (nI n) (nI (skp (fun x => x = 32) b n q'))).bind fun r56 => if r56 = 59 then if nI (c + 1) = 24 then some (nI (skp (fun x => x = 32) b n q'), upd verbs c (nI v), nums1, nI (c + 1), nI (skp (fun x => x = 32) b n q')) else fX6_read_12 b (nI n) f7 K (nI (c + 1)) (upd verbs c (nI v)) nums1 (nI (c + 1)) (nI (skp (fun x => x = 32) b n q') + 1) else some (nI (skp (fun x => x = 32) b n q'), upd verbs c (nI v), nums1, nI (c + 1), nI (skp (fun x => x = 32) b n q')) else some ((-1), upd verbs c (nI v), nums1, nI (c + 1), nI (skp (fun x => x = 32) b n q'))) ∧ (∀ j, j < arv v → nums1 (3 * c + j) = vals j) ∧ (∀ j, (j < 3 * c ∨ 3 * c + 3 ≤ j) → nums1 j = nums j) := by
        intro f7 verbs nums cc K
        obtain ⟨nums1, e, e2, e3⟩ := k7 c verbs nums (by omega)
        refine ⟨nums1, ?_, e2, e3⟩
        rw [fX6_read_12, if_neg hc24, e, ob, if_pos rfl]
        show ((fX6_skipBlanks b (nI n) (nI q')).bind _) = _
        rw [e_skipBlanks hn a2, ob, nI_1]
      have g0 : ∀ (f8 : Nat) K (row list : Nat → Int32) (listed papers : Int32) (be : Nat → Int32) (bs : Int32) (g8 : Nat → Int32), ∃ g8', refG b' (nI n) 0 f8 K row list listed papers be bs (nI (skp (fun x => x = 32) b n q)) (nI (te b n q)) g8 (nI (c + 1)) = fX8_reads_20 b' (nI n) wX8_339 wX8_462 0 f8 K 1 row list listed papers be bs (nI (skp (fun x => x = 32) b n q')) (nI (te b n q')) g8' (nI (c + 1)) := by
        intro f8 K row list listed papers be bs g8
        obtain ⟨g8', e⟩ := k80 row list listed papers be bs g8
        unfold refG
        rw [e, ob]
        exact ⟨g8', rfl⟩
      have g1 : ∀ (f8 : Nat) K (row list : Nat → Int32) (listed papers : Int32) (be : Nat → Int32) (bs : Int32) (g8 : Nat → Int32), ∃ g8', refG b' (nI n) 1 f8 K row list listed papers be bs (nI (skp (fun x => x = 32) b n q)) (nI (te b n q)) g8 (nI (c + 1)) = (fX8_done row list listed papers be bs vals (nI v)).bind fun s => fX8_reads_20 b' (nI n) wX8_339 wX8_462 1 f8 K 1 s.1 s.2.1 s.2.2.1 s.2.2.2.1 s.2.2.2.2.1 s.2.2.2.2.2 (nI (skp (fun x => x = 32) b n q')) (nI (te b n q')) g8' (nI (c + 1)) := by
        intro f8 K row list listed papers be bs g8
        obtain ⟨g8', e0, e⟩ := k81 row list listed papers be bs g8
        unfold refG
        rw [e, done_congr hv e0, Option.bind_assoc]
        exact ⟨g8', rfl⟩
      by_cases c1 : skp (fun x => x = 32) b n q' < n
      · have hne : ¬ nI n ≤ nI (skp (fun x => x = 32) b n q') := nI_ge c1 (by omega)
        by_cases c2 : b (skp (fun x => x = 32) b n q') = 59 ∧ c + 1 < 24
        · have hte : te b n q' = skp (fun x => x = 32) b n q' + 1 := by
            unfold te
            rw [if_pos c1, c2.1, if_neg (by decide), if_neg (by decide)]
          have hl24 : ¬ (24 : Int32) ≤ nI (c + 1) := nI_ge (b := 24) (by omega) (by omega)
          obtain ⟨cs, fo, i1, i2, i3, i4, i5, i6⟩ := ih (c + 1) (skp (fun x => x = 32) b n q' + 1) (by omega) (by omega) (by omega)
          have st : ∀ (x1 : Int32) (f8 : Nat) K (row list : Nat → Int32) (listed papers : Int32) (be : Nat → Int32) (bs : Int32) (g8 : Nat → Int32), fX8_reads_20 b' (nI n) wX8_339 wX8_462 x1 (f8 + 1) K 1 row list listed papers be bs (nI (skp (fun x => x = 32) b n q')) (nI (te b n q')) g8 (nI (c + 1)) = refG b' (nI n) x1 f8 K row list listed papers be bs (nI (skp (fun x => x = 32) b n (skp (fun x => x = 32) b n q' + 1))) (nI (te b n (skp (fun x => x = 32) b n q' + 1))) g8 (nI (c + 1 + 1)) := by
            intro x1 f8 K row list listed papers be bs g8
            unfold refG
            rw [fX8_reads_20, if_neg (show ¬ (1 : Int32) = 0 by decide), if_neg hne, if_neg hl24, ld_nI (by omega) (by omega), ob, ← hsm _ c1, if_pos c2.1, if_neg (show ¬ (1 : Int32) = 0 by decide), hte, e8_next hn hsm (by omega), ob, nI_1]
          refine ⟨(v, vals) :: cs, fo, by rw [List.length_cons]; omega, fun x hx => ?_, i3, ?_, ?_, ?_⟩
          · rcases List.mem_cons.mp hx with e | e
            · subst e; exact ⟨hv, hok⟩
            · exact i2 x e
          · intro f7 verbs nums cc K hf7
            obtain ⟨f7, rfl⟩ : ∃ m, f7 = m + 1 := ⟨f7 - 1, by omega⟩
            obtain ⟨nums1, e, e2, e3⟩ := c7 f7 verbs nums cc K
            rw [e, if_pos (nI_lt c1 (by omega)), e_byte hn hle.2, ob, if_pos c1, if_pos c2.1, if_neg (show ¬ nI (c + 1) = 24 from nI_ne (c := 24) (by omega) (by omega) (by omega)), nI_1]
            obtain ⟨v', n', cnt, at', e4, e5⟩ := i4 f7 (upd verbs c (nI v)) nums1 (nI (c + 1)) K (by omega)
            refine ⟨v', n', cnt, at', e4, fun h => ?_⟩
            obtain ⟨z1, z2, z3, z4⟩ := e5 h
            refine ⟨by rw [z1, List.length_cons]; congr 1; omega, fun i hi => ?_, fun i hi => by rw [z3 i (by omega), pk_un (by omega)], fun j hj => by rw [z4 j (by omega), e3 j (by omega)]⟩
            cases i with
            | zero =>
              refine ⟨by rw [Nat.add_zero, z3 c (by omega), pk_us]; rfl, fun j hj => ?_⟩
              have hj : j < arv v := hj
              have := (ktab v hv).2.2
              rw [Nat.add_zero, z4 _ (by omega)]
              exact e2 j hj
            | succ i =>
              rw [List.length_cons] at hi
              have := z2 i (by omega)
              rw [show c + 1 + i = c + (i + 1) by omega] at this
              exact this
          · intro f8 K row list listed papers be bs g8 hf8
            obtain ⟨f8, rfl⟩ : ∃ m, f8 = m + 1 := ⟨f8 - 1, by omega⟩
            obtain ⟨g8', e⟩ := g0 (f8 + 1) K row list listed papers be bs g8
            rw [e, st]
            exact i5 f8 K row list listed papers be bs g8' (by omega)
          · intro h f8 K row list listed papers be bs g8 hf8
            obtain ⟨f8, rfl⟩ : ∃ m, f8 = m + 1 := ⟨f8 - 1, by omega⟩
            obtain ⟨g8', e⟩ := g1 (f8 + 1) K row list listed papers be bs g8
            cases hd : fX8_done row list listed papers be bs vals (nI v) with
            | none =>
              refine ⟨0, 0, g8, ?_⟩
              rw [e, hd]
              show none = ((fX8_done row list listed papers be bs vals (nI v)).bind fun r => exR cs r).bind _
              rw [hd]
              rfl
            | some s =>
              obtain ⟨F, B, g8'', e2⟩ := i6 h f8 K s.1 s.2.1 s.2.2.1 s.2.2.2.1 s.2.2.2.2.1 s.2.2.2.2.2 g8' (by omega)
              refine ⟨F, B, g8'', ?_⟩
              rw [e, hd, ob, st, e2]
              show _ = ((fX8_done row list listed papers be bs vals (nI v)).bind fun r => exR cs r).bind _
              rw [hd, ob, List.length_cons, show c + 1 + cs.length = c + (cs.length + 1) by omega]
        · refine ⟨[], some (skp (fun x => x = 32) b n q'), Nat.zero_le _, fun x hx => absurd hx List.not_mem_nil, fun g hg => by cases hg; exact hle.2, ?_, ?_, fun h => by cases h⟩
          · intro f7 verbs nums cc K hf7
            obtain ⟨f7, rfl⟩ : ∃ m, f7 = m + 1 := ⟨f7 - 1, by omega⟩
            obtain ⟨nums1, e, e2, e3⟩ := c7 f7 verbs nums cc K
            rw [e, if_pos (nI_lt c1 (by omega)), e_byte hn hle.2, ob, if_pos c1]
            by_cases c3 : b (skp (fun x => x = 32) b n q') = 59
            · have c4 : ¬ c + 1 < 24 := fun z => c2 ⟨c3, z⟩
              rw [if_pos c3, if_pos (show nI (c + 1) = 24 by rw [show c + 1 = 24 by omega]; rfl)]
              exact ⟨_, _, _, _, rfl, fun h => by cases h⟩
            · rw [if_neg c3]
              exact ⟨_, _, _, _, rfl, fun h => by cases h⟩
          · intro f8 K row list listed papers be bs g8 hf8
            obtain ⟨f8, rfl⟩ : ∃ m, f8 = m + 2 := ⟨f8 - 2, by omega⟩
            obtain ⟨g8', e⟩ := g0 (f8 + 2) K row list listed papers be bs g8
            refine ⟨nI (skp (fun x => x = 32) b n q'), nI (te b n q'), g8', nI (c + 1), ?_, fun g hg => by cases hg; rfl⟩
            rw [e, fX8_reads_20, if_neg (show ¬ (1 : Int32) = 0 by decide), if_neg hne]
            by_cases c3 : c + 1 < 24
            · have hl24 : ¬ (24 : Int32) ≤ nI (c + 1) := nI_ge (b := 24) (by omega) (by omega)
              rw [if_neg hl24, ld_nI (by omega) (by omega), ob, ← hsm _ c1, if_neg (fun z => c2 ⟨z, c3⟩), if_pos rfl, fX8_reads_20, if_pos rfl]
              rfl
            · have hl24 : (24 : Int32) ≤ nI (c + 1) := nI_le (a := 24) (by omega) (by omega)
              rw [if_pos hl24, if_pos rfl, fX8_reads_20, if_pos rfl]
              rfl
      · have hge : nI n ≤ nI (skp (fun x => x = 32) b n q') := nI_le (by omega) (by omega)
        refine ⟨[(v, vals)], none, by rw [List.length_singleton]; omega, fun x hx => ?_, fun g hg => (by cases hg), ?_, ?_, ?_⟩
        · rw [List.mem_singleton] at hx
          subst hx; exact ⟨hv, hok⟩
        · intro f7 verbs nums cc K hf7
          obtain ⟨f7, rfl⟩ : ∃ m, f7 = m + 1 := ⟨f7 - 1, by omega⟩
          obtain ⟨nums1, e, e2, e3⟩ := c7 f7 verbs nums cc K
          rw [e, if_neg (nI_nlt (by omega) (by omega))]
          refine ⟨_, _, _, _, rfl, fun _ => ⟨rfl, fun i hi => ?_, fun i hi => pk_un (by omega), fun j hj => e3 j (by omega)⟩⟩
          rw [List.length_singleton] at hi
          have : i = 0 := by omega
          subst this
          exact ⟨pk_us, fun j hj => e2 j hj⟩
        · intro f8 K row list listed papers be bs g8 hf8
          obtain ⟨f8, rfl⟩ : ∃ m, f8 = m + 1 := ⟨f8 - 1, by omega⟩
          obtain ⟨g8', e⟩ := g0 (f8 + 1) K row list listed papers be bs g8
          rw [e, fX8_reads_20, if_neg (show ¬ (1 : Int32) = 0 by decide), if_pos hge]
          exact ⟨_, _, _, _, rfl, fun g hg => by cases hg⟩
        · intro h f8 K row list listed papers be bs g8 hf8
          obtain ⟨f8, rfl⟩ : ∃ m, f8 = m + 1 := ⟨f8 - 1, by omega⟩
          obtain ⟨g8', e⟩ := g1 (f8 + 1) K row list listed papers be bs g8
          cases hd : fX8_done row list listed papers be bs vals (nI v) with
          | none =>
            refine ⟨0, 0, g8, ?_⟩
            rw [e, hd]
            show none = ((fX8_done row list listed papers be bs vals (nI v)).bind fun r => exR [] r).bind _
            rw [hd]
            rfl
          | some s =>
            refine ⟨nI (skp (fun x => x = 32) b n q'), nI (te b n q'), g8', ?_⟩
            rw [e, hd, ob, fX8_reads_20, if_neg (show ¬ (1 : Int32) = 0 by decide), if_pos hge]
            show _ = ((fX8_done row list listed papers be bs vals (nI v)).bind fun r => exR [] r).bind _
            rw [hd, ob]
            rfl
theorem reads_eq {b b' : Nat → Int32} {n : Nat} (hn : n ≤ 200) (hsm : same n b b') (x1 : Int32) (row list : Nat → Int32) (listed papers : Int32) (be : Nat → Int32) (bs F B : Int32) (g8 : Nat → Int32) (cl : Int32) : fX8_reads row list listed papers b' (nI n) be bs F B g8 cl wX8_339 wX8_462 x1 = refG b' (nI n) x1 FU (fun x2_20 g_row_20 g_list_20 g_listed_20 g_papers_20 g_beside_20 g_besides_20 g_first_20 g_behind_20 g_numbers_20 g_clauses_20 => (bz x2_20).bind fun b92 => some (b92, g_row_20, g_list_20, g_listed_20, g_papers_20, g_beside_20, g_besides_20, g_first_20, g_behind_20, g_numbers_20, g_clauses_20)) row list listed papers be bs (nI (skp (fun x => x = 32) b n 0)) (nI (te b n 0)) g8 (nI (0 + 1)) := by
  have := e8_next (b := b) hn hsm (Nat.zero_le n) F
  rw [nI_0] at this
  unfold fX8_reads refG
  rw [this, ob]
  rfl
theorem foB_bz (fo : Option Nat) : bz (foB fo) = some (foB fo) := by cases fo <;> rfl
theorem sim_fault {D : Int} : S_fault (RR D) (RR D) := by
  intro c_archive_rooms c_archive_moveDays c_archive_day c_archive_series c_archive_pieces c_archive_trial c_archive_moves c_history_slots c_history_top c_history_steps c_planner_free c_planner_remaining c_planner_gaps c_planner_layings c_rows c_text_bytes c_text_verbs c_text_numbers c_text_length c_text_commandCount c_text_at c_page_signs c_page_length c_page_latest c_draft_signs c_draft_length c_draft_latest d_row d_undos d_list d_listed d_paper d_papers d_text d_length d_beside d_besides d_gapFirst d_gapLast d_laying d_layings d_free d_first d_behind d_numbers d_clauses d_words d_sorts d_shifted d_saved d_draft d_drafts h
  have h : R0 D c_archive_rooms c_archive_moveDays c_archive_day c_archive_series c_archive_pieces c_archive_moves c_history_slots c_history_top c_history_steps c_planner_gaps c_planner_layings c_rows c_text_bytes c_text_length c_page_signs c_page_length d_row d_undos d_list d_listed d_paper d_papers d_text d_length d_words d_sorts := h
  obtain ⟨hA, hZ, hL, ⟨n, hn, e1, e2, hs⟩, hP, hW, hO⟩ := h
  subst e1 e2 hW hO
  obtain ⟨cs, fo, i1, i2, i3, i4, i5, i6⟩ := read_sim hn hs 24 0 0 (by omega) (by omega) (Nat.zero_le _)
  obtain ⟨v', n', cnt, at', q1, q2⟩ := i4 FU c_text_verbs c_text_numbers 0 (fun x1_12 g_verbs_12 g_numbers_12 g_commandCount_12 g_at_12 => some (g_at_12, g_verbs_12, g_numbers_12, g_commandCount_12, g_at_12)) (by unfold FU; omega)
  obtain ⟨F, B, g8', cl, q3, q4⟩ := i5 FU (fun x2_20 g_row_20 g_list_20 g_listed_20 g_papers_20 g_beside_20 g_besides_20 g_first_20 g_behind_20 g_numbers_20 g_clauses_20 => (bz x2_20).bind fun b92 => some (b92, g_row_20, g_list_20, g_listed_20, g_papers_20, g_beside_20, g_besides_20, g_first_20, g_behind_20, g_numbers_20, g_clauses_20)) d_row d_list d_listed d_papers d_beside d_besides d_numbers (by unfold FU; omega)
  rw [nI_0] at q1
  have e7 : fX6_read c_text_bytes c_text_verbs c_text_numbers (nI n) c_text_commandCount c_text_at = some (foI fo, v', n', cnt, at') := by unfold fX6_read; exact q1
  have e8 : fX8_reads d_row d_list d_listed d_papers d_text (nI n) d_beside d_besides d_first d_behind d_numbers d_clauses wX8_339 wX8_462 0 = some (foB fo, d_row, d_list, d_listed, d_papers, d_beside, d_besides, F, B, g8', cl) := by
    rw [reads_eq hn hs, q3, foB_bz, ob]
  unfold fX7_fault fX8_fault
  rw [e7, e8, ob, ob]
  cases fo with
  | none =>
    rw [if_neg (show ¬ foB none = 0 by decide)]
    exact ⟨_, _, _, _, _, _, _, _, _, _, _, _, _, _, _, rfl, rfl, ⟨hA, hZ, hL, ⟨n, hn, rfl, rfl, hs⟩, hP, rfl, rfl⟩⟩
  | some f =>
    rw [if_pos (show foB (some f) = 0 from rfl), q4 f rfl]
    exact ⟨_, _, _, _, _, _, _, _, _, _, _, _, _, _, _, rfl, rfl, ⟨hA, hZ, hL, ⟨n, hn, rfl, rfl, hs⟩, hP, rfl, rfl⟩⟩
