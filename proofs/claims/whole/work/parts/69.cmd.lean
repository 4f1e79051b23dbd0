/-! one command -/
def prv (vals : Nat → Int32) (i : Nat) : Int32 := if i = 0 then 0 else vals (i - 1)
theorem v32 {v : Int64} {s : Nat} {bef : Int32} (hb : 0 ≤ bef.toInt) (h : (lo s bef).toInt64 ≤ v ∧ v ≤ (hi s).toInt64) : (lo s bef).toInt ≤ v.toInt32.toInt ∧ v.toInt32.toInt ≤ (hi s).toInt ∧ 0 ≤ v.toInt32.toInt := by
  have h1 := h.1
  have h2 := h.2
  have h3 := lo_nn (s := s) hb
  have h4 := @hi_le s
  rw [Int64.le_iff_toInt_le, Int32.toInt_toInt64] at h1 h2
  have e : v.toInt32.toInt = v.toInt := by
    rw [Int64.toInt_toInt32, Int.bmod_eq_of_le] <;> omega
  rw [e]
  omega
theorem nums_sim {b b' : Nat → Int32} {n : Nat} (hn : n ≤ 200) (hsm : same n b b') {v : Nat} (hv : v < 8) : ∀ (d i q : Nat) (vals : Nat → Int32), i + d = arv v → q ≤ n → 0 ≤ (prv vals i).toInt → (∃ f, f ≤ n ∧ (∀ (f7 c : Nat) (verbs nums : Nat → Int32) K7, d < f7 → c < 24 → ∃ nums' at', fX6_readCommand_58 b verbs (nI n) (nI c) (kx v) f7 K7 (prv vals i) (nI i) nums (nI q) = some (nI f, verbs, nums', at')) ∧ (∀ (f8 : Nat) K8 (row list : Nat → Int32) (listed papers : Int32) (be : Nat → Int32) (bs : Int32) (g8 : Nat → Int32), d < f8 → (∀ j, j < i → g8 j = vals j) → ∃ beh g8', fX8_readsClause_18 row list listed papers b' (nI n) be bs wX8_462 (nI v) f8 K8 (nI i) (nI (skp (fun x => x = 32) b n q)) (nI (te b n q)) g8 = some (0, row, list, listed, papers, be, bs, nI f, beh, g8'))) ∨ (∃ (vals' : Nat → Int32) (q' : Nat), q ≤ q' ∧ q' ≤ n ∧ (∀ j, j < i → vals' j = vals j) ∧ (∀ j, i ≤ j → j < arv v → (lo (stv v j) (prv vals' j)).toInt ≤ (vals' j).toInt ∧ (vals' j).toInt ≤ (hi (stv v j)).toInt) ∧ (∀ (f7 c : Nat) (verbs nums : Nat → Int32) K7, d < f7 → c < 24 → ∃ x5 nums', fX6_readCommand_58 b verbs (nI n) (nI c) (kx v) f7 K7 (prv vals i) (nI i) nums (nI q) = K7 x5 (nI (arv v)) nums' (nI q') ∧ (∀ j, i ≤ j → j < arv v → nums' (3 * c + j) = vals' j) ∧ (∀ j, (j < 3 * c + i ∨ 3 * c + 3 ≤ j) → nums' j = nums j)) ∧ (∀ (f8 : Nat) K8 (row list : Nat → Int32) (listed papers : Int32) (be : Nat → Int32) (bs : Int32) (g8 : Nat → Int32), d < f8 → (∀ j, j < i → g8 j = vals j) → ∃ x3 g8', fX8_readsClause_18 row list listed papers b' (nI n) be bs wX8_462 (nI v) f8 K8 (nI i) (nI (skp (fun x => x = 32) b n q)) (nI (te b n q)) g8 = K8 x3 (nI (skp (fun x => x = 32) b n q')) (nI (te b n q')) g8' ∧ ∀ j, j < arv v → g8' j = vals' j)) := by
  have hk := ktab v hv
  intro d
  induction d with
  | zero =>
    intro i q vals ei hq h0
    right
    refine ⟨vals, q, Nat.le_refl _, hq, fun _ _ => rfl, fun j h1 h2 => by omega, ?_, ?_⟩
    · intro f7 c verbs nums K7 hf hc
      obtain ⟨f7, rfl⟩ : ∃ m, f7 = m + 1 := ⟨f7 - 1, by omega⟩
      rw [fX6_readCommand_58, hk.2.1, ob, if_pos (nI_le (by omega) (by omega)), show i = arv v by omega]
      exact ⟨_, nums, rfl, fun j h1 h2 => by omega, fun _ _ => rfl⟩
    · intro f8 K8 row list listed papers be bs g8 hf hg
      obtain ⟨f8, rfl⟩ : ∃ m, f8 = m + 1 := ⟨f8 - 1, by omega⟩
      rw [fX8_readsClause_18]
      by_cases c : 3 ≤ i
      · rw [if_pos (show (3 : Int32) ≤ nI i from nI_le (a := 3) c (by omega))]
        exact ⟨_, g8, rfl, fun j hj => hg j (by omega)⟩
      · have ht := (ktab2a v hv i (by omega)).2 (by omega)
        rw [if_neg (show ¬ (3 : Int32) ≤ nI i from nI_ge (b := 3) (by omega) (by omega)), m3, nI_add, ld_nI (by omega) (by omega), ob, ht, if_pos (by decide)]
        exact ⟨_, g8, rfl, fun j hj => hg j (by omega)⟩
  | succ d ih =>
    intro i q vals ei hq h0
    have hi3 : i < 3 := by omega
    have hia : i < arv v := by omega
    have ht := (ktab2a v hv i hi3).1 hia
    have hs16 := ktab2b v hv i hi3 hia
    have hle := skp_le (P := fun x => x = 32) (b := b) (n := n) _ q rfl hq
    have hprev : ∀ g8 : Nat → Int32, (∀ j, j < i → g8 j = vals j) → stv v i = 4 → 1 ≤ i ∧ g8 (i - 1) = prv vals i := by
      intro g8 hg h4
      have hi1 : 1 ≤ i := by
        rcases Nat.eq_zero_or_pos i with z | z
        · rw [z] at h4; exact absurd h4 (ktab2c v hv)
        · exact z
      refine ⟨hi1, ?_⟩
      unfold prv
      rw [if_neg (by omega), hg (i - 1) (by omega)]
    obtain ⟨val, e, er, e1, e2, hcase⟩ := num1 (b := b) hn hsm hq hs16.1 hs16.2 hi3 h0
    have c7 : ∀ (f7 c : Nat) (verbs nums : Nat → Int32) K7, fX6_readCommand_58 b verbs (nI n) (nI c) (kx v) (f7 + 1) K7 (prv vals i) (nI i) nums (nI q) = if (lo (stv v i) (prv vals i)).toInt64 ≤ val ∧ val ≤ (hi (stv v i)).toInt64 then (fX6_setNumber nums (nI c) (nI i) val.toInt32).bind fun r134 => fX6_readCommand_58 b verbs (nI n) (nI c) (kx v) f7 K7 val.toInt32 (nI (i + 1)) r134 (nI e) else some (nI (skp (fun x => x = 32) b n q), verbs, nums, nI e) := by
      intro f7 c verbs nums K7
      rw [fX6_readCommand_58, hk.2.1, ob, if_neg (nI_ge hia (by omega)), e_skipBlanks hn hq, ob, er, ob, ht.1, ob, e_lowest hs16.1 hs16.2, ob, ob, e_highest hs16.1 hs16.2, ob, nI_1]
      show (if lg_cmp val (lo (stv v i) (prv vals i)).toInt64 < 0 then _ else if lg_cmp val (hi (stv v i)).toInt64 ≤ 0 then _ else _) = _
      by_cases c1 : (lo (stv v i) (prv vals i)).toInt64 ≤ val
      · have c1' : ¬ lg_cmp val (lo (stv v i) (prv vals i)).toInt64 < 0 := by
          rw [lg_cmp_lt, Int64.lt_iff_toInt_lt]
          rw [Int64.le_iff_toInt_le] at c1
          omega
        rw [if_neg c1']
        by_cases c2 : val ≤ (hi (stv v i)).toInt64
        · rw [if_pos ((lg_cmp_le _ _).mpr c2), if_pos ⟨c1, c2⟩]
        · rw [if_neg (fun z => c2 ((lg_cmp_le _ _).mp z)), if_neg (fun z => c2 z.2)]
      · have c1' : lg_cmp val (lo (stv v i) (prv vals i)).toInt64 < 0 := by
          rw [lg_cmp_lt, Int64.lt_iff_toInt_lt]
          rw [Int64.le_iff_toInt_le] at c1
          omega
        rw [if_pos c1', if_neg (fun z => c1 z.1)]
    have c8 : ∀ (f8 : Nat) K8 (row list : Nat → Int32) (listed papers : Int32) (be : Nat → Int32) (bs : Int32) (g8 : Nat → Int32), fX8_readsClause_18 row list listed papers b' (nI n) be bs wX8_462 (nI v) (f8 + 1) K8 (nI i) (nI (skp (fun x => x = 32) b n q)) (nI (te b n q)) g8 = (fX8_number b' (nI n) (nI (skp (fun x => x = 32) b n q)) (nI (te b n q)) g8 (nI i) (nI (stv v i))).bind fun r48 => if r48.1 = 0 then some (0, row, list, listed, papers, be, bs, r48.2.1, r48.2.2.1, r48.2.2.2) else fX8_readsClause_18 row list listed papers b' (nI n) be bs wX8_462 (nI v) f8 K8 (nI (i + 1)) r48.2.1 r48.2.2.1 r48.2.2.2 := by
      intro f8 K8 row list listed papers be bs g8
      rw [fX8_readsClause_18, if_neg (show ¬ (3 : Int32) ≤ nI i from nI_ge (b := 3) (by omega) (by omega)), m3, nI_add, ld_nI (by omega) (by omega), ob, ob, ht.2, if_neg (nI_nle (by omega) (by omega)), nI_1]
    rcases hcase with ⟨hb, h8⟩ | ⟨hb, h8⟩
    · left
      refine ⟨skp (fun x => x = 32) b n q, hle.2, ?_, ?_⟩
      · intro f7 c verbs nums K7 hf hc
        obtain ⟨f7, rfl⟩ : ∃ m, f7 = m + 1 := ⟨f7 - 1, by omega⟩
        rw [c7, if_neg hb]
        exact ⟨_, _, rfl⟩
      · intro f8 K8 row list listed papers be bs g8 hf hg
        obtain ⟨f8, rfl⟩ : ∃ m, f8 = m + 1 := ⟨f8 - 1, by omega⟩
        rw [c8, h8 g8 (hprev g8 hg), ob, if_pos rfl]
        exact ⟨_, _, rfl⟩
    · have hval := v32 h0 hb
      have hset : ∀ (c : Nat) (nums : Nat → Int32), c < 24 → fX6_setNumber nums (nI c) (nI i) val.toInt32 = some (upd nums (3 * c + i) val.toInt32) := by
        intro c nums hc
        unfold fX6_setNumber
        have e3 : nI c * 3 + nI i = nI (3 * c + i) := by rw [n3, pk_mul, nI_add, Nat.mul_comm c 3]
        rw [e3, if_neg (nI_nneg (by omega)), if_neg (nI_ge (by omega) (by omega)), sv_nI (by omega) (by omega), ob]
      have hpv : prv (upd vals i val.toInt32) (i + 1) = val.toInt32 := by
        unfold prv
        rw [if_neg (by omega), Nat.add_sub_cancel, pk_us]
      rcases ih (i + 1) e (upd vals i val.toInt32) (by omega) e2 (by rw [hpv]; exact hval.2.2) with ⟨f, hf1, k7, k8⟩ | ⟨vals', q', a1, a2, a3, a4, k7, k8⟩
      · left
        refine ⟨f, hf1, ?_, ?_⟩
        · intro f7 c verbs nums K7 hf hc
          obtain ⟨f7, rfl⟩ : ∃ m, f7 = m + 1 := ⟨f7 - 1, by omega⟩
          rw [c7, if_pos hb, hset c nums hc, ob]
          have := k7 f7 c verbs (upd nums (3 * c + i) val.toInt32) K7 (by omega) hc
          rw [hpv] at this
          exact this
        · intro f8 K8 row list listed papers be bs g8 hf hg
          obtain ⟨f8, rfl⟩ : ∃ m, f8 = m + 1 := ⟨f8 - 1, by omega⟩
          rw [c8, h8 g8 (hprev g8 hg), ob, if_neg (show ¬ (1 : Int32) = 0 by decide)]
          refine k8 f8 K8 row list listed papers be bs (upd g8 i val.toInt32) (by omega) (fun j hj => ?_)
          by_cases z : j = i
          · subst z; rw [pk_us, pk_us]
          · rw [pk_un z, pk_un z]; exact hg j (by omega)
      · right
        have hv' : vals' i = val.toInt32 := by rw [a3 i (by omega), pk_us]
        have hpp : prv vals' i = prv vals i := by
          unfold prv
          by_cases z : i = 0
          · rw [if_pos z, if_pos z]
          · rw [if_neg z, if_neg z, a3 (i - 1) (by omega), pk_un (by omega)]
        refine ⟨vals', q', by omega, a2, fun j hj => ?_, fun j h1 h2 => ?_, ?_, ?_⟩
        · rw [a3 j (by omega), pk_un (by omega)]
        · by_cases z : j = i
          · subst z; rw [hv', hpp]; exact ⟨hval.1, hval.2.1⟩
          · exact a4 j (by omega) h2
        · intro f7 c verbs nums K7 hf hc
          obtain ⟨f7, rfl⟩ : ∃ m, f7 = m + 1 := ⟨f7 - 1, by omega⟩
          rw [c7, if_pos hb, hset c nums hc, ob]
          have := k7 f7 c verbs (upd nums (3 * c + i) val.toInt32) K7 (by omega) hc
          rw [hpv] at this
          obtain ⟨x5, nums', b1, b2, b3⟩ := this
          refine ⟨x5, nums', b1, fun j h1 h2 => ?_, fun j hj => ?_⟩
          · by_cases z : j = i
            · subst z; rw [b3 _ (by omega), pk_us, hv']
            · exact b2 j (by omega) h2
          · rw [b3 j (by omega), pk_un (by omega)]
        · intro f8 K8 row list listed papers be bs g8 hf hg
          obtain ⟨f8, rfl⟩ : ∃ m, f8 = m + 1 := ⟨f8 - 1, by omega⟩
          rw [c8, h8 g8 (hprev g8 hg), ob, if_neg (show ¬ (1 : Int32) = 0 by decide)]
          refine k8 f8 K8 row list listed papers be bs (upd g8 i val.toInt32) (by omega) (fun j hj => ?_)
          by_cases z : j = i
          · subst z; rw [pk_us, pk_us]
          · rw [pk_un z, pk_un z]; exact hg j (by omega)
/-- what a command's numbers are -/
def okC (v : Nat) (vals : Nat → Int32) : Prop := ∀ j, j < arv v → (lo (stv v j) (prv vals j)).toInt ≤ (vals j).toInt ∧ (vals j).toInt ≤ (hi (stv v j)).toInt
/-- a fault, or a command that ends at q' -/
theorem cmd_sim {b b' : Nat → Int32} {n q : Nat} (hn : n ≤ 200) (hsm : same n b b') (hq : q ≤ n) : (∃ f, f ≤ n ∧ (∀ (c : Nat) (verbs nums : Nat → Int32), c < 24 → ∃ verbs' nums' at', fX6_readCommand b verbs nums (nI n) (nI q) (nI c) = some (nI f, verbs', nums', at')) ∧ (∀ (row list : Nat → Int32) (listed papers : Int32) (be : Nat → Int32) (bs : Int32) (g8 : Nat → Int32) (x1 : Int32), ∃ beh g8', fX8_readsClause row list listed papers b' (nI n) be bs (nI (skp (fun x => x = 32) b n q)) (nI (te b n q)) g8 wX8_339 wX8_462 x1 = some (0, row, list, listed, papers, be, bs, nI f, beh, g8'))) ∨ (∃ (v : Nat) (vals : Nat → Int32) (q' : Nat), v < 8 ∧ okC v vals ∧ q ≤ q' ∧ q' ≤ n ∧ (∀ (c : Nat) (verbs nums : Nat → Int32), c < 24 → ∃ nums', fX6_readCommand b verbs nums (nI n) (nI q) (nI c) = some (-1, upd verbs c (nI v), nums', nI q') ∧ (∀ j, j < arv v → nums' (3 * c + j) = vals j) ∧ (∀ j, (j < 3 * c ∨ 3 * c + 3 ≤ j) → nums' j = nums j)) ∧ (∀ (row list : Nat → Int32) (listed papers : Int32) (be : Nat → Int32) (bs : Int32) (g8 : Nat → Int32), ∃ g8', fX8_readsClause row list listed papers b' (nI n) be bs (nI (skp (fun x => x = 32) b n q)) (nI (te b n q)) g8 wX8_339 wX8_462 0 = some (1, row, list, listed, papers, be, bs, nI (skp (fun x => x = 32) b n q'), nI (te b n q'), g8')) ∧ (∀ (row list : Nat → Int32) (listed papers : Int32) (be : Nat → Int32) (bs : Int32) (g8 : Nat → Int32), ∃ g8', (∀ j, j < arv v → g8' j = vals j) ∧ fX8_readsClause row list listed papers b' (nI n) be bs (nI (skp (fun x => x = 32) b n q)) (nI (te b n q)) g8 wX8_339 wX8_462 1 = (fX8_done row list listed papers be bs g8' (nI v)).bind fun r68 => some (1, r68.1, r68.2.1, r68.2.2.1, r68.2.2.2.1, r68.2.2.2.2.1, r68.2.2.2.2.2, nI (skp (fun x => x = 32) b n q'), nI (te b n q'), g8'))) := by
  have hle := skp_le (P := fun x => x = 32) (b := b) (n := n) _ q rfl hq
  have hle2 := skp_le (P := fun x => 97 ≤ x ∧ x ≤ 122) (b := b) (n := n) _ (skp (fun x => x = 32) b n q) rfl hle.2
  have ht := te_le (b := b) hq
  obtain ⟨r, v7, v8, hr⟩ := verb_sim (b := b) hn hsm hq 8 0 FU FU (by omega) (by unfold FU; omega) (by unfold FU; omega)
  rw [nI_0] at v7 v8
  rcases hr with hr | ⟨v, hv, hr⟩
  · left
    refine ⟨skp (fun x => x = 32) b n q, hle.2, ?_, ?_⟩
    · intro c verbs nums hc
      unfold fX6_readCommand fX6_verbFrom
      rw [e_skipBlanks hn hq, ob, e_skipWord hn hle.2, ob, v7, ob, if_pos hr]
      exact ⟨_, _, _, rfl⟩
    · intro row list listed papers be bs g8 x1
      unfold fX8_readsClause fX8_wordHere
      rw [v8, ob, if_pos hr]
      exact ⟨_, _, rfl⟩
  · subst hr
    have hk := ktab v hv
    have hte : te b n q = skp (fun x => 97 ≤ x ∧ x ≤ 122) b n (skp (fun x => x = 32) b n q) := by
      rcases sm_tok (b := b) hq with ⟨e1, _, _⟩ | ⟨e1, e2⟩
      · exact e1.symm
      · exfalso
        have := verb_sim (b := b) hn hsm hq 8 0 FU FU (by omega) (by unfold FU; omega) (by unfold FU; omega)
        have hno : ∀ (d w f7 : Nat), w + d = 8 → d < f7 → fX6_verbFrom_2 b (nI (skp (fun x => 97 ≤ x ∧ x ≤ 122) b n (skp (fun x => x = 32) b n q))) (nI (skp (fun x => x = 32) b n q)) f7 (fun _ => some (-1)) (nI w) = some (-1) := by
          intro d
          induction d with
          | zero =>
            intro w f7 ew hf
            obtain ⟨f7, rfl⟩ : ∃ m, f7 = m + 1 := ⟨f7 - 1, by omega⟩
            have : w = 8 := by omega
            subst this
            rw [fX6_verbFrom_2, if_pos (by decide)]
          | succ d ih =>
            intro w f7 ew hf
            obtain ⟨f7, rfl⟩ : ∃ m, f7 = m + 1 := ⟨f7 - 1, by omega⟩
            have hw : w < 8 := by omega
            have hne : ¬ (8 : Int32) ≤ nI w := fun z => by have := (e8_bx (j := w) (by omega)).mp z; omega
            obtain ⟨r, i1, i2, i3⟩ := e_isWord (b := b) hn hle2.2 hle2.1 hw
            have hr0 : r = 0 := i2.resolve_right (fun z => by
              have := (i3.mp z).1
              have := (wlen w hw).1
              omega)
            rw [fX6_verbFrom_2, if_neg hne, (wlen w hw).2.2.2, ob, i1, ob, hr0, if_pos rfl, nI_1]
            exact ih (w + 1) f7 (by omega) (by omega)
        have h1 := hno 8 0 FU (by omega) (by unfold FU; omega)
        rw [nI_0, v7] at h1
        exact nI_m1 (j := v) (by omega) (Option.some.inj h1)
    have e7 : ∀ (c : Nat) (verbs nums : Nat → Int32), c < 24 → fX6_readCommand b verbs nums (nI n) (nI q) (nI c) = fX6_readCommand_58 b (upd verbs c (nI v)) (nI n) (nI c) (kx v) FU (fun x5_58 x6_58 g_numbers_58 g_at_58 => some ((-1), upd verbs c (nI v), g_numbers_58, g_at_58)) 0 0 nums (nI (te b n q)) := by
      intro c verbs nums hc
      unfold fX6_readCommand fX6_verbFrom
      rw [e_skipBlanks hn hq, ob, e_skipWord hn hle.2, ob, v7, ob, if_neg (nI_m1 (by omega)), if_neg (nI_nneg (by omega)), if_pos (nI_lt hc (by omega)), sv_nI hc (by omega), ob, hk.1, ob, hte]
    have e8 : ∀ (row list : Nat → Int32) (listed papers : Int32) (be : Nat → Int32) (bs : Int32) (g8 : Nat → Int32) (x1 : Int32), fX8_readsClause row list listed papers b' (nI n) be bs (nI (skp (fun x => x = 32) b n q)) (nI (te b n q)) g8 wX8_339 wX8_462 x1 = fX8_readsClause_18 row list listed papers b' (nI n) be bs wX8_462 (nI v) FU (fun x3_18 g_first_18 g_behind_18 g_numbers_18 => if x1 = 0 then some (1, row, list, listed, papers, be, bs, g_first_18, g_behind_18, g_numbers_18) else (fX8_done row list listed papers be bs g_numbers_18 (nI v)).bind fun r68 => some (1, r68.1, r68.2.1, r68.2.2.1, r68.2.2.2.1, r68.2.2.2.2.1, r68.2.2.2.2.2, g_first_18, g_behind_18, g_numbers_18)) 0 (nI (skp (fun x => x = 32) b n (te b n q))) (nI (te b n (te b n q))) g8 := by
      intro row list listed papers be bs g8 x1
      unfold fX8_readsClause fX8_wordHere
      rw [v8, ob, if_neg (nI_m1 (by omega)), e8_next hn hsm ht.2, ob]
    rcases nums_sim (b := b) hn hsm hv (arv v) 0 (te b n q) (fun _ => 0) (by omega) ht.2 (by unfold prv; rw [if_pos rfl]; decide) with ⟨f, hf, k7, k8⟩ | ⟨vals, q', a1, a2, a3, a4, k7, k8⟩
    · left
      refine ⟨f, hf, ?_, ?_⟩
      · intro c verbs nums hc
        rw [e7 c verbs nums hc]
        obtain ⟨nums', at', z⟩ := k7 FU c (upd verbs c (nI v)) nums (fun x5_58 x6_58 g_numbers_58 g_at_58 => some ((-1), upd verbs c (nI v), g_numbers_58, g_at_58)) (by unfold FU; omega) hc
        exact ⟨_, nums', at', z⟩
      · intro row list listed papers be bs g8 x1
        rw [e8]
        exact k8 FU _ row list listed papers be bs g8 (by unfold FU; omega) (fun j hj => absurd hj (Nat.not_lt_zero j))
    · right
      refine ⟨v, vals, q', hv, fun j hj => a4 j (Nat.zero_le _) hj, by omega, a2, ?_, ?_, ?_⟩
      · intro c verbs nums hc
        rw [e7 c verbs nums hc]
        obtain ⟨x5, nums', z1, z2, z3⟩ := k7 FU c (upd verbs c (nI v)) nums (fun x5_58 x6_58 g_numbers_58 g_at_58 => some ((-1), upd verbs c (nI v), g_numbers_58, g_at_58)) (by unfold FU; omega) hc
        exact ⟨nums', z1, fun j hj => z2 j (Nat.zero_le _) hj, fun j hj => z3 j (by omega)⟩
      · intro row list listed papers be bs g8
        rw [e8]
        obtain ⟨x3, g8', z1, z2⟩ := k8 FU (fun x3_18 g_first_18 g_behind_18 g_numbers_18 => if (0 : Int32) = 0 then some (1, row, list, listed, papers, be, bs, g_first_18, g_behind_18, g_numbers_18) else (fX8_done row list listed papers be bs g_numbers_18 (nI v)).bind fun r68 => some (1, r68.1, r68.2.1, r68.2.2.1, r68.2.2.2.1, r68.2.2.2.2.1, r68.2.2.2.2.2, g_first_18, g_behind_18, g_numbers_18)) row list listed papers be bs g8 (by unfold FU; omega) (fun j hj => absurd hj (Nat.not_lt_zero j))
        exact ⟨g8', z1.trans (if_pos rfl)⟩
      · intro row list listed papers be bs g8
        rw [e8]
        obtain ⟨x3, g8', z1, z2⟩ := k8 FU (fun x3_18 g_first_18 g_behind_18 g_numbers_18 => if (1 : Int32) = 0 then some (1, row, list, listed, papers, be, bs, g_first_18, g_behind_18, g_numbers_18) else (fX8_done row list listed papers be bs g_numbers_18 (nI v)).bind fun r68 => some (1, r68.1, r68.2.1, r68.2.2.1, r68.2.2.2.1, r68.2.2.2.2.1, r68.2.2.2.2.2, g_first_18, g_behind_18, g_numbers_18)) row list listed papers be bs g8 (by unfold FU; omega) (fun j hj => absurd hj (Nat.not_lt_zero j))
        exact ⟨g8', z2, z1.trans (if_neg (by decide))⟩
