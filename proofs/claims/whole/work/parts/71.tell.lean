/-! carrying out -/
def exS (D : Int) (rooms md : Nat → Int32) (day : Int32) (series pieces moves rows : Rg) (plen : Int32) (row list : Nat → Int32) (listed papers : Int32) (signs paper : Nat → Int32) : Prop := (∃ A : AS, okA D A ∧ clsA A rooms md day series pieces moves ∧ modA A row) ∧ (∃ l, rowsR l rows list listed) ∧ ∃ m : Nat, m ≤ 200 ∧ plen = nI m ∧ papers = nI m ∧ same m signs paper
theorem e_numberOf {nums : Nat → Int32} {c i : Nat} (hc : c < 24) (hi : i < 3) : fX6_numberOf nums (nI c) (nI i) = some (nums (3 * c + i)) := by
  unfold fX6_numberOf
  have e3 : nI c * 3 + nI i = nI (3 * c + i) := by rw [n3, pk_mul, nI_add, Nat.mul_comm c 3]
  rw [e3, if_neg (nI_nneg (by omega)), if_neg (nI_ge (by omega) (by omega)), ld_nI (by omega) (by omega), ob]
theorem e_verbOf {verbs : Nat → Int32} {c : Nat} (hc : c < 24) : fX6_verbOf verbs (nI c) = some (verbs c) := by
  unfold fX6_verbOf
  rw [if_neg (nI_nneg (by omega)), if_neg (nI_ge hc (by omega)), ld_nI hc (by omega), ob]
theorem begins_ok {row : Nat → Int32} (L P : Int32) : ∃ row', fX8_begins row L P = some (row', 0, 0) ∧ ∀ k, k < 562 → row' k = 0 := by
  have key : ∀ (n i : Nat) (r : Nat → Int32), i ≤ 562 → 562 < i + n → (∀ k, k < i → r k = 0) → ∃ r', fX8_begins_2 n (fun _ g => some (g, 0, 0)) (nI i) r = some (r', 0, 0) ∧ ∀ k, k < 562 → r' k = 0 := by
    intro n
    induction n with
    | zero => intro i r h1 h2; omega
    | succ n ih =>
      intro i r h1 h2 h3
      rw [fX8_begins_2]
      by_cases c : i = 562
      · subst c
        rw [n562, if_pos (nI_le (Nat.le_refl _) (by omega))]
        exact ⟨r, rfl, h3⟩
      · rw [n562, if_neg (nI_ge (by omega) (by omega)), sv_nI (by omega) (by omega), ob, nI_1]
        refine ih (i + 1) _ (by omega) (by omega) (fun k hk => ?_)
        by_cases e : k = i
        · subst e; rw [pk_us]
        · rw [pk_un e]; exact h3 k (by omega)
  unfold fX8_begins
  have := key FU 0 row (by omega) (by unfold FU; omega) (fun k hk => absurd hk (Nat.not_lt_zero k))
  rw [nI_0] at this
  exact this
theorem empty_ok {A : AS} {rooms md : Nat → Int32} {day : Int32} {series pieces moves : Rg} (hC : clsA A rooms md day series pieces moves) : ∃ rooms' series' pieces' moves', fX0_empty rooms day series pieces moves = some (rooms', 0, series', pieces', moves') ∧ isL 10 series' [] ∧ isL 42 pieces' [] ∧ isL 100 moves' [] ∧ ∀ j, j < 8 → rooms' j = 0 := by
  obtain ⟨v1, e1, h1⟩ := cut0 hC.1
  obtain ⟨v2, e2, h2⟩ := cut0 hC.2.1
  obtain ⟨v3, e3, h3⟩ := cut0 hC.2.2.1
  have key : ∀ (n i : Nat) (r : Nat → Int32), i ≤ 8 → 8 < i + n → (∀ k, k < i → r k = 0) → ∃ r', fX0_empty_31 n (fun _ g => some (g, 0, v1, v2, v3)) (nI i) r = some (r', 0, v1, v2, v3) ∧ ∀ k, k < 8 → r' k = 0 := by
    intro n
    induction n with
    | zero => intro i r h1 h2; omega
    | succ n ih =>
      intro i r h1 h2 h3
      rw [fX0_empty_31]
      by_cases c : i = 8
      · rw [if_pos ((e8_bx h1).mpr c)]
        subst c
        exact ⟨r, rfl, h3⟩
      · rw [if_neg (fun z => c ((e8_bx h1).mp z)), sv_nI (by omega) (by omega), ob, nI_1]
        refine ih (i + 1) _ (by omega) (by omega) (fun k hk => ?_)
        by_cases e : k = i
        · subst e; rw [pk_us]
        · rw [pk_un e]; exact h3 k (by omega)
  obtain ⟨r', e4, h4⟩ := key FU 0 rooms (by omega) (by unfold FU; omega) (fun k hk => absurd hk (Nat.not_lt_zero k))
  rw [nI_0] at e4
  unfold fX0_empty
  rw [e1, ob, e2, ob, e3, ob]
  exact ⟨r', v1, v2, v3, e4, h1, h2, h3, h4⟩
theorem okA_0 {D : Int} (hD : 0 ≤ D) : okA D (([] : List Tr), ([] : List Tr), ([] : List (Int32 × Tr)), (fun _ => 0), 0) := by
  have okS0 : okSer [] := ⟨fun q h => absurd h List.not_mem_nil, fun i h => absurd h (Nat.not_lt_zero i), fun i j h => absurd h (Nat.not_lt_zero i)⟩
  have okP0 : okP [] := ⟨fun q h => absurd h List.not_mem_nil, trivial, fun q h => absurd h List.not_mem_nil⟩
  exact ⟨okS0, okP0, fun q h => absurd h List.not_mem_nil, fun j hj => ⟨show (0 : Int) ≤ (0 : Int32).toInt by decide, show (0 : Int32).toInt ≤ (2000000000 : Int) by decide, show (0 : Int) ≤ (0 : Int32).toInt by decide⟩, show (0 : Int) ≤ (0 : Int32).toInt by decide, show (0 : Int32).toInt ≤ D by rw [t0]; exact hD⟩
theorem rgM {a b : Int32} (h1 : 1 ≤ a.toInt) (h2 : a.toInt ≤ b.toInt) (h3 : b.toInt ≤ 2000000000) : (1 ≤ a ∧ a ≤ MAX) ∧ (a ≤ b ∧ b ≤ MAX) := by
  refine ⟨⟨?_, ?_⟩, ?_, ?_⟩
  · rw [i32le, t1]; exact h1
  · rw [i32le, tM]; omega
  · rw [i32le]; exact h2
  · rw [i32le, tM]; exact h3
theorem bx7 {x : Int32} (h1 : 0 ≤ x.toInt) (h2 : x.toInt ≤ 7) : 0 ≤ x ∧ x ≤ 7 := by
  rw [i32le, i32le, t0, show (7 : Int32).toInt = 7 from rfl]; exact ⟨h1, h2⟩
theorem carry_sim {D : Int} (hD0 : 0 ≤ D) (hDm : D + 999 ≤ 2000000000) {rooms md : Nat → Int32} {day : Int32} {series pieces trial moves rows : Rg} {plen plat : Int32} {row list : Nat → Int32} {listed papers : Int32} {be : Nat → Int32} {bs : Int32} {signs paper verbs nums vals : Nat → Int32} {c v : Nat} (h : exS D rooms md day series pieces moves rows plen row list listed papers signs paper) (hc : c < 24) (hv : v < 8) (hok : okC v vals) (hvb : verbs c = nI v) (hnm : ∀ j, j < arv v → nums (3 * c + j) = vals j) : ∃ rooms' md' day' series' pieces' trial' moves' rows' plen' plat' row' list' listed' papers' be' bs', fX7_carryOut rooms md day series pieces trial moves rows verbs nums plen plat (nI c) = some (rooms', md', day', series', pieces', trial', moves', rows', plen', plat') ∧ fX8_done row list listed papers be bs vals (nI v) = some (row', list', listed', papers', be', bs') ∧ exS (D + 999) rooms' md' day' series' pieces' moves' rows' plen' row' list' listed' papers' signs paper := by
  obtain ⟨⟨A, hA, hC, hM⟩, ⟨l, hl⟩, hpg⟩ := h
  have hA9 := okA_mono (D' := D + 999) hA (by omega)
  have keep : exS (D + 999) rooms md day series pieces moves rows plen row list listed papers signs paper := ⟨⟨A, hA9, hC, hM⟩, ⟨l, hl⟩, hpg⟩
  have n0' : fX6_numberOf nums (nI c) 0 = some (nums (3 * c + 0)) := e_numberOf (i := 0) hc (by omega)
  have n1' : fX6_numberOf nums (nI c) 1 = some (nums (3 * c + 1)) := e_numberOf (i := 1) hc (by omega)
  have n2' : fX6_numberOf nums (nI c) 2 = some (nums (3 * c + 2)) := e_numberOf (i := 2) hc (by omega)
  have l0 : ld 3 vals 0 = some (vals 0) := ld3 (j := 0) (by omega)
  have l1 : ld 3 vals 1 = some (vals 1) := ld3 (j := 1) (by omega)
  have l2 : ld 3 vals 2 = some (vals 2) := ld3 (j := 2) (by omega)
  unfold fX7_carryOut fX8_done
  rw [n0', ob, n1', ob, n2', ob, e_verbOf hc, ob, hvb]
  rcases eight hv with e | e | e | e | e | e | e | e
  · subst e
    rw [if_pos (by decide), if_pos (by decide)]
    obtain ⟨row', e1, e2⟩ := begins_ok (row := row) listed papers
    obtain ⟨rooms', v1, v2, v3, e3, i1, i2, i3, i4⟩ := empty_ok hC
    obtain ⟨v4, e4, i5⟩ := cut0 hl.1
    unfold fX7_beginAnew fX2_wipe
    rw [e3, ob, e4, ob, ob, ob, e1, ob]
    refine ⟨_, _, _, _, _, _, _, _, _, _, _, _, _, _, _, _, rfl, rfl, ⟨⟨_, okA_0 (by omega), ⟨i1, i2, i3, fun i h => absurd h (Nat.not_lt_zero i), i4, rfl⟩, ⟨⟨Nat.zero_le _, e2 _ (by omega), fun i h => absurd h (Nat.not_lt_zero i)⟩, ⟨Nat.zero_le _, e2 _ (by omega), fun i h => absurd h (Nat.not_lt_zero i)⟩, ⟨Nat.zero_le _, e2 _ (by omega), fun i h => absurd h (Nat.not_lt_zero i)⟩, fun j hj => e2 _ (by omega), e2 _ (by omega)⟩⟩, ⟨[], i5, rfl, fun q h => absurd h List.not_mem_nil, fun q h => absurd h List.not_mem_nil, fun i h => absurd h (Nat.not_lt_zero i)⟩, ⟨0, Nat.zero_le _, rfl, rfl, fun i h => absurd h (Nat.not_lt_zero i)⟩⟩⟩
  · subst e
    rw [if_neg (by decide), if_pos (by decide), if_neg (by decide), if_pos (by decide), l0, ob, l1, ob, l2, ob, hnm 0 (by decide), hnm 1 (by decide), hnm 2 (by decide)]
    rcases ser_core hA.1 hC.1 hM.1 (vals 0) (vals 1) (vals 2) with ⟨r, hr, e1, e2⟩ | ⟨v', e1, hv', e2, hS', h10⟩
    · rw [e1, ob, adds_no hr e2, ob]
      exact ⟨_, _, _, _, _, _, _, _, _, _, _, _, _, _, _, _, rfl, rfl, keep⟩
    · rw [e1, ob, adds_yes hM.1 h10 e2, ob]
      exact ⟨_, _, _, _, _, _, _, _, _, _, _, _, _, _, _, _, rfl, rfl, ⟨⟨(A.1 ++ [(vals 0, vals 1, vals 2)], A.2.1, A.2.2.1, A.2.2.2.1, A.2.2.2.2), ⟨hS', hA9.2⟩, ⟨hv', hC.2⟩, modA_ser hM h10 _ _ _⟩, ⟨l, hl⟩, hpg⟩⟩
  · subst e
    rw [if_neg (by decide), if_neg (by decide), if_pos (by decide), if_neg (by decide), if_neg (by decide), if_pos (by decide), l0, ob, l1, ob, hnm 0 (by decide), hnm 1 (by decide)]
    rcases ser_core hA.1 hC.1 hM.1 (-1) (vals 0) (vals 1) with ⟨r, hr, e1, e2⟩ | ⟨v', e1, hv', e2, hS', h10⟩
    · rw [e1, ob, adds_no hr e2, ob]
      exact ⟨_, _, _, _, _, _, _, _, _, _, _, _, _, _, _, _, rfl, rfl, keep⟩
    · rw [e1, ob, adds_yes hM.1 h10 e2, ob]
      exact ⟨_, _, _, _, _, _, _, _, _, _, _, _, _, _, _, _, rfl, rfl, ⟨⟨(A.1 ++ [(-1, vals 0, vals 1)], A.2.1, A.2.2.1, A.2.2.2.1, A.2.2.2.2), ⟨hS', hA9.2⟩, ⟨hv', hC.2⟩, modA_ser hM h10 _ _ _⟩, ⟨l, hl⟩, hpg⟩⟩
  · subst e
    have k0 := hok 0 (by decide)
    have k1 := hok 1 (by decide)
    have k0a : 0 ≤ (vals 0).toInt := k0.1
    have k0b : (vals 0).toInt ≤ 7 := k0.2
    have k1a : 0 ≤ (vals 1).toInt := k1.1
    have k1b : (vals 1).toInt ≤ 2000000000 := k1.2
    have cb := bx7 k0a k0b
    have hl8 := load_le hA.2.1 cb
    rw [if_neg (by decide), if_neg (by decide), if_neg (by decide), if_pos (by decide), if_neg (by decide), if_neg (by decide), if_neg (by decide), if_pos (by decide), l0, ob, l1, ob, hnm 0 (by decide), hnm 1 (by decide)]
    obtain ⟨m, hm, em⟩ := (isBx_of cb).n
    unfold fX0_setRoom fX8_rooms
    rw [e7_isBox, ob, i01, if_pos cb, e_loadOf hC.2.1, ob, hl8.2, e8_load hM.2.1, ob, if_neg (show ¬ vals 1 < 0 by rw [i32lt, t0]; omega), if_pos (show vals 1 ≤ 2000000000 by rw [i32le, show (2000000000 : Int32).toInt = 2000000000 from rfl]; omega)]
    by_cases c3 : sumI (ov8 (vals 0) 1 MAX) A.2.1 ≤ vals 1
    · rw [if_pos c3, if_pos c3, em, ld_nI hm (by omega), ob, sv_nI hm (by omega), ob, ob, show (34 : Int32) = nI 34 from rfl, nI_add, sv_nI (by omega) (by omega), ob, ob]
      rw [i32le, hl8.1] at c3
      refine ⟨_, _, _, _, _, _, _, _, _, _, _, _, _, _, _, _, rfl, rfl, ⟨⟨(A.1, A.2.1, A.2.2.1, upd A.2.2.2.1 m (vals 1), A.2.2.2.2), ⟨hA9.1, hA9.2.1, hA9.2.2.1, fun j hj => ?_, hA9.2.2.2.2⟩, ⟨hC.1, hC.2.1, hC.2.2.1, hC.2.2.2.1, fun j hj => ?_, hC.2.2.2.2.2⟩, modA_room hM hm (vals 1)⟩, ⟨l, hl⟩, hpg⟩⟩
      · show 0 ≤ (upd A.2.2.2.1 m (vals 1) j).toInt ∧ (upd A.2.2.2.1 m (vals 1) j).toInt ≤ 2000000000 ∧ loadZ (nI j) A.2.1 ≤ (upd A.2.2.2.1 m (vals 1) j).toInt
        by_cases z : j = m
        · subst z
          rw [pk_us, ← em]
          exact ⟨k1a, k1b, c3⟩
        · rw [pk_un z]; exact hA.2.2.2.1 j hj
      · show upd rooms m (vals 1) j = upd A.2.2.2.1 m (vals 1) j
        by_cases z : j = m
        · subst z; rw [pk_us, pk_us]
        · rw [pk_un z, pk_un z]; exact hC.2.2.2.2.1 j hj
    · rw [if_neg c3, if_neg c3, ob, em, show (34 : Int32) = nI 34 from rfl, nI_add, ld58 (by omega), ob, sv_nI (by omega) (by omega), ob, ob]
      refine ⟨_, _, _, _, _, _, _, _, _, _, _, _, _, _, _, _, rfl, rfl, ⟨⟨A, hA9, hC, modA_ext hM (fun k hk => ?_)⟩, ⟨l, hl⟩, hpg⟩⟩
      show upd row (34 + m) (row (34 + m)) k = row k
      by_cases z : k = 34 + m
      · subst z; rw [pk_us]
      · rw [pk_un z]
  · subst e
    have k0 := hok 0 (by decide)
    have k1 := hok 1 (by decide)
    have k2 := hok 2 (by decide)
    have k0a : 0 ≤ (vals 0).toInt := k0.1
    have k0b : (vals 0).toInt ≤ 7 := k0.2
    have k1a : 1 ≤ (vals 1).toInt := k1.1
    have k2a : (vals 1).toInt ≤ (vals 2).toInt := k2.1
    have k2b : (vals 2).toInt ≤ 2000000000 := k2.2
    have cb := bx7 k0a k0b
    obtain ⟨m, hm, em⟩ := (isBx_of cb).n
    rw [if_neg (by decide), if_neg (by decide), if_neg (by decide), if_neg (by decide), if_pos (by decide), if_neg (by decide), if_neg (by decide), if_neg (by decide), if_neg (by decide), if_pos (by decide), l0, l1, l2, ob, ob, ob, hnm 0 (by decide), hnm 1 (by decide), hnm 2 (by decide), em]
    unfold fX8_brings
    rcases layV (trial := trial) (g := be) (n := bs) hA hC hM hm (rgM k1a k2a k2b) with ⟨md', p', tr', mv', g', e1, h0, e2, hg', c40', c100', hA', hC'⟩ | ⟨tr', g', n', e1, e2⟩
    · obtain ⟨row2, em2, hM2, hfar⟩ := moves_ok (a := vals 1) (b := vals 2) (box := nI m) hM hg' c40' c100'
      rw [e1, ob, e2, ob, if_neg (show ¬ (1 : Int32) = 0 by decide), em2, ob, ob]
      exact ⟨_, _, _, _, _, _, _, _, _, _, _, _, _, _, _, _, rfl, rfl, ⟨⟨_, okA_mono hA' (by omega), hC', hM2⟩, ⟨l, hl⟩, hpg⟩⟩
    · rw [e1, ob, e2, ob, if_pos rfl, ob]
      exact ⟨_, _, _, _, _, _, _, _, _, _, _, _, _, _, _, _, rfl, rfl, keep⟩
  · subst e
    have k0 := hok 0 (by decide)
    have k1 := hok 1 (by decide)
    have k0a : 1 ≤ (vals 0).toInt := k0.1
    have k1a : (vals 0).toInt ≤ (vals 1).toInt := k1.1
    have k1b : (vals 1).toInt ≤ 2000000000 := k1.2
    rw [if_neg (by decide), if_neg (by decide), if_neg (by decide), if_neg (by decide), if_neg (by decide), if_pos (by decide), if_neg (by decide), if_neg (by decide), if_neg (by decide), if_neg (by decide), if_neg (by decide), if_pos (by decide), l0, l1, ob, ob, hnm 0 (by decide), hnm 1 (by decide)]
    unfold fX8_brings
    rcases takeV (trial := trial) (g := be) (n := bs) hA hC hM (rgM k0a k1a k1b) with ⟨md', p', tr', mv', g', e1, e2, hg', c40', c100', hA', hC'⟩ | ⟨tr', g', n', e1, e2⟩
    · obtain ⟨row2, em2, hM2, hfar⟩ := moves_ok (a := vals 0) (b := vals 1) (box := -1) hM hg' c40' c100'
      rw [e1, ob, e2, ob, if_neg (show ¬ (1 : Int32) = 0 by decide), em2, ob, ob]
      exact ⟨_, _, _, _, _, _, _, _, _, _, _, _, _, _, _, _, rfl, rfl, ⟨⟨_, okA_mono hA' (by omega), hC', hM2⟩, ⟨l, hl⟩, hpg⟩⟩
    · rw [e1, ob, e2, ob, if_pos rfl, ob]
      exact ⟨_, _, _, _, _, _, _, _, _, _, _, _, _, _, _, _, rfl, rfl, keep⟩
  · subst e
    have k0 := hok 0 (by decide)
    have k1 := hok 1 (by decide)
    have k2 := hok 2 (by decide)
    have k0a : 0 ≤ (vals 0).toInt := k0.1
    have k0b : (vals 0).toInt ≤ 7 := k0.2
    have k1a : 1 ≤ (vals 1).toInt := k1.1
    have k2a : (vals 1).toInt ≤ (vals 2).toInt := k2.1
    have k2b : (vals 2).toInt ≤ 2000000000 := k2.2
    have cb := bx7 k0a k0b
    have hr := rgM k1a k2a k2b
    have hl12 := hl.1.1
    rw [if_neg (by decide), if_neg (by decide), if_neg (by decide), if_neg (by decide), if_neg (by decide), if_neg (by decide), if_pos (by decide), if_neg (by decide), if_neg (by decide), if_neg (by decide), if_neg (by decide), if_neg (by decide), if_neg (by decide), if_pos (by decide), l0, l1, l2, ob, ob, ob, hnm 0 (by decide), hnm 1 (by decide), hnm 2 (by decide)]
    unfold fX7_addRow
    rw [e7_isBox, ob, i01, if_pos cb, e7_isRange, ob, i01, if_pos hr]
    by_cases c12 : l.length = 12
    · have e8 : fX8_lists list listed (vals 0) (vals 1) (vals 2) = some (list, listed) := by
        unfold fX8_lists
        rw [if_pos (show listed = 12 by rw [hl.2.1, c12]; rfl)]
      rw [e_addF hl.1 c12, ob, if_pos rfl, ob, e8, ob]
      exact ⟨_, _, _, _, _, _, _, _, _, _, _, _, _, _, _, _, rfl, rfl, keep⟩
    · obtain ⟨v', list', e1, e2, hr'⟩ := rows_add hl (by omega) cb hr
      rw [e1, ob, if_neg (show ¬ (1 : Int32) = 0 by decide), e_size hr'.1, ob, ob, e2, ob]
      exact ⟨_, _, _, _, _, _, _, _, _, _, _, _, _, _, _, _, rfl, rfl, ⟨⟨A, hA9, hC, hM⟩, ⟨_, hr'⟩, hpg⟩⟩
  · subst e
    have k0 := hok 0 (by decide)
    have k0a : 1 ≤ (vals 0).toInt := k0.1
    have k0b : (vals 0).toInt ≤ 999 := k0.2
    have hd : day = A.2.2.2.2 := hC.2.2.2.2.2
    have hdb := hA.2.2.2.2
    have ex : (A.2.2.2.2 + vals 0).toInt = A.2.2.2.2.toInt + (vals 0).toInt := toI_add (by omega) (by omega)
    have e3 : ld 5058 row 3 = some A.2.2.2.2 := by rw [n3, ld58 (by omega), hM.2.2.2.2]
    have e4 : sv 5058 row 3 (A.2.2.2.2 + vals 0) = some (upd row 3 (A.2.2.2.2 + vals 0)) := sv_nI (i := 3) (by omega) (by omega)
    rw [if_neg (by decide), if_neg (by decide), if_neg (by decide), if_neg (by decide), if_neg (by decide), if_neg (by decide), if_neg (by decide), if_pos (by decide), if_neg (by decide), if_neg (by decide), if_neg (by decide), if_neg (by decide), if_neg (by decide), if_neg (by decide), if_neg (by decide), l0, hnm 0 (by decide), e3, ob, ob, e4, ob]
    unfold fX0_letPass
    rw [if_neg (by rw [i32lt, t1]; omega), if_pos (show vals 0 ≤ 999 by rw [i32le, show (999 : Int32).toInt = 999 from rfl]; omega), ob, hd]
    refine ⟨_, _, _, _, _, _, _, _, _, _, _, _, _, _, _, _, rfl, rfl, ⟨⟨(A.1, A.2.1, A.2.2.1, A.2.2.2.1, A.2.2.2.2 + vals 0), ⟨hA.1, hA.2.1, hA.2.2.1, hA.2.2.2.1, by show 0 ≤ (A.2.2.2.2 + vals 0).toInt; omega, by show (A.2.2.2.2 + vals 0).toInt ≤ D + 999; omega⟩, ⟨hC.1, hC.2.1, hC.2.2.1, hC.2.2.2.1, hC.2.2.2.2.1, rfl⟩, modA_day hM (A.2.2.2.2 + vals 0)⟩, ⟨l, hl⟩, hpg⟩⟩
theorem exS_mono {D D' : Int} (hD : D ≤ D') {rooms md : Nat → Int32} {day : Int32} {series pieces moves rows : Rg} {plen : Int32} {row list : Nat → Int32} {listed papers : Int32} {signs paper : Nat → Int32} (h : exS D rooms md day series pieces moves rows plen row list listed papers signs paper) : exS D' rooms md day series pieces moves rows plen row list listed papers signs paper := by
  obtain ⟨⟨A, hA, hC, hM⟩, h2⟩ := h
  exact ⟨⟨A, okA_mono hA hD, hC, hM⟩, h2⟩
theorem tell_loop {verbs nums signs paper : Nat → Int32} {M : Nat} (hM24 : M ≤ 24) (K : Int32 → (Nat → Int32) → (Nat → Int32) → Int32 → Rg → Rg → Rg → Rg → Rg → Int32 → Int32 → Option (Int32 × (Nat → Int32) × (Nat → Int32) × Int32 × Rg × Rg × Rg × Rg × Int32 × Rg × (Nat → Int32) × (Nat → Int32) × Int32 × Int32 × Int32 × Int32 × Int32)) : ∀ (cs : List Cm) (c fu : Nat) (D : Int) (rooms md : Nat → Int32) (day : Int32) (series pieces trial moves rows : Rg) (plen plat : Int32) (row list : Nat → Int32) (listed papers : Int32) (be : Nat → Int32) (bs : Int32), c + cs.length = M → cs.length < fu → 0 ≤ D → D + 999 * cs.length ≤ 1000000000 → (∀ x ∈ cs, x.1 < 8 ∧ okC x.1 x.2) → (∀ (i : Nat) (hi : i < cs.length), verbs (c + i) = nI (cs[i]).1 ∧ ∀ j, j < arv (cs[i]).1 → nums (3 * (c + i) + j) = (cs[i]).2 j) → exS D rooms md day series pieces moves rows plen row list listed papers signs paper → ∃ rooms' md' day' series' pieces' trial' moves' rows' plen' plat' row' list' listed' papers' be' bs', fX7_tell_24 verbs nums (nI M) fu K (nI c) rooms md day series pieces trial moves rows plen plat = K (nI M) rooms' md' day' series' pieces' trial' moves' rows' plen' plat' ∧ exR cs (row, list, listed, papers, be, bs) = some (row', list', listed', papers', be', bs') ∧ exS (D + 999 * cs.length) rooms' md' day' series' pieces' moves' rows' plen' row' list' listed' papers' signs paper := by
  intro cs
  induction cs with
  | nil =>
    intro c fu D rooms md day series pieces trial moves rows plen plat row list listed papers be bs e1 hf hD0 hDm hok hv h
    rw [List.length_nil] at e1 hf
    obtain ⟨fu, rfl⟩ : ∃ m, fu = m + 1 := ⟨fu - 1, by omega⟩
    have : c = M := by omega
    subst this
    rw [fX7_tell_24, if_pos (nI_le (Nat.le_refl _) (by omega)), exR]
    exact ⟨_, _, _, _, _, _, _, _, _, _, _, _, _, _, _, _, rfl, rfl, exS_mono (by rw [List.length_nil]; omega) h⟩
  | cons x cs ih =>
    intro c fu D rooms md day series pieces trial moves rows plen plat row list listed papers be bs e1 hf hD0 hDm hok hv h
    rw [List.length_cons] at e1 hf hDm
    obtain ⟨fu, rfl⟩ : ∃ m, fu = m + 1 := ⟨fu - 1, by omega⟩
    have hx := hok x List.mem_cons_self
    have h0 := hv 0 (by rw [List.length_cons]; omega)
    obtain ⟨a1, a2, a3, a4, a5, a6, a7, a8, a9, a10, b1, b2, b3, b4, b5, b6, q1, q2, q3⟩ := carry_sim (trial := trial) (plat := plat) (be := be) (bs := bs) (verbs := verbs) (nums := nums) (c := c) hD0 (by omega) h (by omega) hx.1 hx.2 h0.1 h0.2
    obtain ⟨a1', a2', a3', a4', a5', a6', a7', a8', a9', a10', b1', b2', b3', b4', b5', b6', r1, r2, r3⟩ := ih (c + 1) fu (D + 999) a1 a2 a3 a4 a5 a6 a7 a8 a9 a10 b1 b2 b3 b4 b5 b6 (by omega) (by omega) (by omega) (by omega) (fun y hy => hok y (List.mem_cons_of_mem _ hy)) (fun i hi => by
      have := hv (i + 1) (by rw [List.length_cons]; omega)
      rw [show c + (i + 1) = c + 1 + i by omega] at this
      exact this) q3
    rw [fX7_tell_24, if_neg (nI_ge (by omega) (by omega)), q1, ob, nI_1, exR]
    refine ⟨a1', a2', a3', a4', a5', a6', a7', a8', a9', a10', b1', b2', b3', b4', b5', b6', r1, ?_, exS_mono (by rw [List.length_cons]; omega) r3⟩
    show (fX8_done row list listed papers be bs x.2 (nI x.1)).bind _ = _
    rw [q2, ob, r2]
theorem sim_tell {D D' : Int} (h0 : 0 ≤ D) (hD : D + 23976 ≤ D') (hD' : D' ≤ 1000000000) : S_tell (RR D) (RR D') := by
  intro c_archive_rooms c_archive_moveDays c_archive_day c_archive_series c_archive_pieces c_archive_trial c_archive_moves c_history_slots c_history_top c_history_steps c_planner_free c_planner_remaining c_planner_gaps c_planner_layings c_rows c_text_bytes c_text_verbs c_text_numbers c_text_length c_text_commandCount c_text_at c_page_signs c_page_length c_page_latest c_draft_signs c_draft_length c_draft_latest d_row d_undos d_list d_listed d_paper d_papers d_text d_length d_beside d_besides d_gapFirst d_gapLast d_laying d_layings d_free d_first d_behind d_numbers d_clauses d_words d_sorts d_shifted d_saved d_draft d_drafts h
  have h : R0 D c_archive_rooms c_archive_moveDays c_archive_day c_archive_series c_archive_pieces c_archive_moves c_history_slots c_history_top c_history_steps c_planner_gaps c_planner_layings c_rows c_text_bytes c_text_length c_page_signs c_page_length d_row d_undos d_list d_listed d_paper d_papers d_text d_length d_words d_sorts := h
  obtain ⟨⟨A, hs, hA, hC, hM, hH⟩, hZ, hL, ⟨n, hn, e1, e2, hsm⟩, hP, hW, hO⟩ := h
  subst e1 e2 hW hO
  obtain ⟨h8, es, eu, t, ht, et⟩ := hist_steps hH
  obtain ⟨cs, fo, i1, i2, i3, i4, i5, i6⟩ := read_sim hn hsm 24 0 0 (by omega) (by omega) (Nat.zero_le _)
  obtain ⟨v', n', cnt, at', q1, q2⟩ := i4 FU c_text_verbs c_text_numbers 0 (fun x1_12 g_verbs_12 g_numbers_12 g_commandCount_12 g_at_12 => some (g_at_12, g_verbs_12, g_numbers_12, g_commandCount_12, g_at_12)) (by unfold FU; omega)
  obtain ⟨F, B, g8', cl, q3, q4⟩ := i5 FU (fun x2_20 g_row_20 g_list_20 g_listed_20 g_papers_20 g_beside_20 g_besides_20 g_first_20 g_behind_20 g_numbers_20 g_clauses_20 => (bz x2_20).bind fun b92 => some (b92, g_row_20, g_list_20, g_listed_20, g_papers_20, g_beside_20, g_besides_20, g_first_20, g_behind_20, g_numbers_20, g_clauses_20)) d_row d_list d_listed d_papers d_beside d_besides d_numbers (by unfold FU; omega)
  rw [nI_0] at q1
  have e7 : fX6_read c_text_bytes c_text_verbs c_text_numbers (nI n) c_text_commandCount c_text_at = some (foI fo, v', n', cnt, at') := by unfold fX6_read; exact q1
  have e8 : fX8_reads d_row d_list d_listed d_papers d_text (nI n) d_beside d_besides d_first d_behind d_numbers d_clauses wX8_339 wX8_462 0 = some (foB fo, d_row, d_list, d_listed, d_papers, d_beside, d_besides, F, B, g8', cl) := by
    rw [reads_eq hn hsm, q3, foB_bz, ob]
  cases fo with
  | none =>
    obtain ⟨z1, z2, _, _⟩ := q2 rfl
    rw [Nat.zero_add] at z1
    have hex : exS D c_archive_rooms c_archive_moveDays c_archive_day c_archive_series c_archive_pieces c_archive_moves c_rows c_page_length d_row d_list d_listed d_papers c_page_signs d_paper := ⟨⟨A, hA, hC, hM⟩, hL, hP⟩
    obtain ⟨F1, B1, g81, q5⟩ := i6 rfl FU (fun x2_20 g_row_20 g_list_20 g_listed_20 g_papers_20 g_beside_20 g_besides_20 g_first_20 g_behind_20 g_numbers_20 g_clauses_20 => (bz x2_20).bind fun b92 => some (b92, g_row_20, g_list_20, g_listed_20, g_papers_20, g_beside_20, g_besides_20, g_first_20, g_behind_20, g_numbers_20, g_clauses_20)) d_row d_list d_listed d_papers d_beside d_besides g8' (by unfold FU; omega)
    obtain ⟨a1, a2, a3, a4, a5, a6, a7, a8, a9, a10, b1, b2, b3, b4, b5, b6, r1, r2, r3⟩ := tell_loop (verbs := v') (nums := n') (signs := c_page_signs) (paper := d_paper) (M := cs.length) i1 (fun x2_24 g_archive_rooms_24 g_archive_moveDays_24 g_archive_day_24 v_archive_series_24 v_archive_pieces_24 v_archive_trial_24 v_archive_moves_24 v_rows_24 g_page_length_24 g_page_latest_24 => some (nI cs.length, g_archive_rooms_24, g_archive_moveDays_24, g_archive_day_24, v_archive_series_24, v_archive_pieces_24, v_archive_trial_24, v_archive_moves_24, 0, v_rows_24, v', n', 0, nI cs.length, at', g_page_length_24, g_page_latest_24)) cs 0 FU D c_archive_rooms c_archive_moveDays c_archive_day c_archive_series c_archive_pieces c_archive_trial c_archive_moves c_rows c_page_length c_page_latest d_row d_list d_listed d_papers d_beside d_besides (by omega) (by unfold FU; omega) h0 (by omega) i2 z2 hex
    rw [nI_0] at r1
    rw [r2, ob, show bz 1 = some 1 from rfl, ob] at q5
    obtain ⟨⟨A2, hA2, hC2, hM2⟩, hL2, hP2⟩ := exS_mono (D' := D') (by omega) r3
    have e9 : fX8_reads d_row d_list d_listed d_papers d_text (nI n) d_beside d_besides F B g8' cl wX8_339 wX8_462 1 = some (1, b1, b2, b3, b4, b5, b6, F1, B1, g81, nI cs.length) := by
      rw [reads_eq hn hsm, q5, Nat.zero_add]
    have hfin : R0 D' a1 a2 a3 a4 a5 a7 c_history_slots c_history_top 0 c_planner_gaps c_planner_layings a8 c_text_bytes 0 c_page_signs a9 b1 0 b2 b3 d_paper b4 d_text 0 wX8_339 wX8_462 := ⟨⟨A2, [], hA2, hC2, hM2, ⟨Nat.zero_le _, rfl, rfl, trivial, fun B h => absurd h List.not_mem_nil, t, ht, et, fun i h => absurd h (Nat.not_lt_zero i)⟩⟩, hZ, hL2, ⟨0, Nat.zero_le _, rfl, rfl, fun i h => absurd h (Nat.not_lt_zero i)⟩, hP2, rfl, rfl⟩
    have e7t : fX7_tell c_archive_rooms c_archive_moveDays c_archive_day c_archive_series c_archive_pieces c_archive_trial c_archive_moves c_history_steps c_rows c_text_bytes c_text_verbs c_text_numbers (nI n) c_text_commandCount c_text_at c_page_length c_page_latest = some (nI cs.length, a1, a2, a3, a4, a5, a6, a7, 0, a8, v', n', 0, nI cs.length, at', a9, a10) := by
      unfold fX7_tell fX6_commandCount fX6_wipe fX1_forget
      rw [e7, ob, if_pos (show foI none = -1 from rfl), ob, z1]
      exact r1
    have e8t : fX8_tell d_row d_undos d_list d_listed d_papers d_text (nI n) d_beside d_besides d_first d_behind d_numbers d_clauses wX8_339 wX8_462 = some (nI cs.length, b1, 0, b2, b3, b4, 0, b5, b6, F1, B1, g81, nI cs.length) := by
      unfold fX8_tell
      rw [e8, ob, if_neg (show ¬ foB none = 0 by decide)]
      show (fX8_reads d_row d_list d_listed d_papers d_text (nI n) d_beside d_besides F B g8' cl wX8_339 wX8_462 1).bind _ = _
      rw [e9, ob]
    rw [e7t, e8t]
    exact ⟨_, _, _, _, _, _, _, _, _, _, _, _, _, _, _, _, _, _, _, _, _, _, _, _, _, _, _, _, _, rfl, rfl, hfin⟩
  | some f =>
    have hf := i3 f rfl
    have hA' : R0 D' c_archive_rooms c_archive_moveDays c_archive_day c_archive_series c_archive_pieces c_archive_moves c_history_slots c_history_top c_history_steps c_planner_gaps c_planner_layings c_rows c_text_bytes (nI n) c_page_signs c_page_length d_row d_undos d_list d_listed d_paper d_papers d_text (nI n) wX8_339 wX8_462 := by
      refine ⟨⟨A, hs, okA_mono hA (by omega), hC, hM, ?_⟩, hZ, hL, ⟨n, hn, rfl, rfl, hsm⟩, hP, rfl, rfl⟩
      obtain ⟨b1, b2, b3, b4, b5, b6⟩ := hH
      exact ⟨b1, b2, b3, b4, fun B hB => okA_mono (b5 B hB) (by omega), b6⟩
    have e7t : fX7_tell c_archive_rooms c_archive_moveDays c_archive_day c_archive_series c_archive_pieces c_archive_trial c_archive_moves c_history_steps c_rows c_text_bytes c_text_verbs c_text_numbers (nI n) c_text_commandCount c_text_at c_page_length c_page_latest = some (-4, c_archive_rooms, c_archive_moveDays, c_archive_day, c_archive_series, c_archive_pieces, c_archive_trial, c_archive_moves, c_history_steps, c_rows, v', n', nI n, cnt, at', c_page_length, c_page_latest) := by
      unfold fX7_tell
      rw [e7, ob, if_neg (show ¬ foI (some f) = -1 from nI_m1 (by omega))]
    have e8t : fX8_tell d_row d_undos d_list d_listed d_papers d_text (nI n) d_beside d_besides d_first d_behind d_numbers d_clauses wX8_339 wX8_462 = some (-4, d_row, d_undos, d_list, d_listed, d_papers, nI n, d_beside, d_besides, F, B, g8', cl) := by
      unfold fX8_tell
      rw [e8, ob, if_pos (show foB (some f) = 0 from rfl)]
    rw [e7t, e8t]
    exact ⟨_, _, _, _, _, _, _, _, _, _, _, _, _, _, _, _, _, _, _, _, _, _, _, _, _, _, _, _, _, rfl, rfl, hA'⟩
