/-! whether a range fits; a move -/
theorem toL_add {x y : Int64} (h1 : -9223372036854775808 ≤ x.toInt + y.toInt) (h2 : x.toInt + y.toInt ≤ 9223372036854775807) : (x + y).toInt = x.toInt + y.toInt := by
  rw [Int64.toInt_add, Int.bmod_eq_of_le] <;> omega
theorem toL_sub {x y : Int64} (h1 : -9223372036854775808 ≤ x.toInt - y.toInt) (h2 : x.toInt - y.toInt ≤ 9223372036854775807) : (x - y).toInt = x.toInt - y.toInt := by
  rw [Int64.toInt_sub, Int.bmod_eq_of_le] <;> omega
theorem loadZ_nn {x : Int32} {l : List Tr} (hr : okR l) : 0 ≤ loadZ x l := by
  rw [← load_Z hr]; exact inZ_nn
theorem loadZ_le {x : Int32} {l : List Tr} (hr : okR l) (h : canon l) : loadZ x l ≤ 2000000000 := by
  rw [← load_Z hr]; exact inZ_le hr h
theorem fits13 {g : Nat → Int32} {M : List Tr} (hg : isB g M) (hr : okR M) {x3 : Int32} (hx : x3 ≠ -1) (k : Int64 → Int32 → Option (Int32 × (Nat → Int32) × Int32)) : ∀ (n i : Nat) (acc : Int64), i ≤ M.length → M.length < i + n → 0 ≤ acc.toInt → acc.toInt + loadZ x3 (M.drop i) ≤ 2000000000 → ∃ acc', fX8_fits_13 g (nI M.length) x3 n k acc (nI i) = k acc' (nI M.length) ∧ acc'.toInt = acc.toInt + loadZ x3 (M.drop i) := by
  have hl := hg.1
  intro n
  induction n with
  | zero => intro i acc h1 h2; omega
  | succ n ih =>
    intro i acc hi hn h0 hb
    rw [fX8_fits_13]
    by_cases c : i = M.length
    · rw [if_pos ((nI_geI (by omega) (by omega) hi).mpr c)]
      subst c
      rw [List.drop_length]
      exact ⟨acc, rfl, (Int.add_zero _).symm⟩
    · have hlt : i < M.length := by omega
      have hq := hg.2 i hlt
      have h1 := hr.i (List.getElem_mem hlt)
      have e2 : nI (3 * i) + 2 = nI (3 * i + 2) := nI_add (3 * i) 2
      have hd : okR (M.drop (i + 1)) := fun z hz => hr z (List.mem_of_mem_drop hz)
      have hnn := loadZ_nn (x := x3) hd
      rw [List.drop_eq_getElem_cons hlt, loadZ] at hb ⊢
      rw [if_neg (fun z => c ((nI_geI (by omega) (by omega) hi).mp z)), if_neg hx, m3, e2, nI_1, nI_1, ld132 (by omega), ob, ld132 (by omega), ob, ld132 (by omega), ob, hq.1, hq.2.1, hq.2.2]
      by_cases c1 : (M[i]).1 = x3
      · rw [if_pos c1] at hb ⊢
        rw [if_pos c1]
        have e1 : ((M[i]).2.2.toInt64 - (M[i]).2.1.toInt64 + 1).toInt = (M[i]).2.2.toInt - (M[i]).2.1.toInt + 1 := by
          rw [toL_add, toL_sub, Int32.toInt_toInt64, Int32.toInt_toInt64]
          · rfl
          all_goals (try rw [toL_sub]) <;> rw [Int32.toInt_toInt64, Int32.toInt_toInt64] <;> (try rw [show (1 : Int64).toInt = 1 from rfl]) <;> omega
        have e3 : (acc + ((M[i]).2.2.toInt64 - (M[i]).2.1.toInt64 + 1)).toInt = acc.toInt + ((M[i]).2.2.toInt - (M[i]).2.1.toInt + 1) := by
          rw [toL_add] <;> rw [e1] <;> omega
        obtain ⟨acc', f1, f2⟩ := ih (i + 1) (acc + ((M[i]).2.2.toInt64 - (M[i]).2.1.toInt64 + 1)) (by omega) (by omega) (by omega) (by omega)
        exact ⟨acc', f1, by rw [f2, e3]; omega⟩
      · rw [if_neg c1] at hb ⊢
        rw [if_neg c1, Int64.add_zero]
        obtain ⟨acc', f1, f2⟩ := ih (i + 1) acc (by omega) (by omega) (by omega) (by omega)
        exact ⟨acc', f1, by rw [f2]; omega⟩
theorem fits13n {g : Nat → Int32} {M : Nat} (hl : M ≤ 44) (k : Int64 → Int32 → Option (Int32 × (Nat → Int32) × Int32)) (acc : Int64) : ∀ (n i : Nat), i ≤ M → M < i + n → fX8_fits_13 g (nI M) (-1) n k acc (nI i) = k acc (nI M) := by
  intro n
  induction n with
  | zero => intro i h1 h2; omega
  | succ n ih =>
    intro i hi hn
    rw [fX8_fits_13]
    by_cases c : i = M
    · rw [if_pos ((nI_geI (by omega) (by omega) hi).mpr c), c]
    · rw [if_neg (fun z => c ((nI_geI (by omega) (by omega) hi).mp z)), if_pos rfl, Int64.add_zero, nI_1]
      exact ih (i + 1) (by omega) (by omega)
/-- the pieces when a range has been laid -/
def laid (box a b : Int32) (P : List Tr) : List Tr := mgL (cutL box a b P)
theorem c40 {M : Nat} (h : M < 2 ^ 31) : ((40 : Int32) < nI M) ↔ ¬ M ≤ 40 := by
  rw [show (40 : Int32) = nI 40 from rfl, nI_ltI (by omega) h]; omega
theorem c100 {M : Nat} (h : M < 2 ^ 31) : ((100 : Int32) ≤ nI M) ↔ ¬ M < 100 := by
  rw [show (100 : Int32) = nI 100 from rfl, nI_leI (by omega) h]; omega
theorem laid_len {box a b : Int32} (hrg : rgI a b) {P : List Tr} (hs : srt P) : (laid box a b P).length ≤ P.length + 2 := by
  have h1 := cut_len hrg.2.1 hs
  have h2 := @mid_len box a b
  have h3 := @mgL_len (cutL box a b P)
  unfold laid
  unfold cutL at h3 ⊢
  rw [List.length_append, List.length_append] at h3
  omega
theorem fits_take {A : AS} {row g : Nat → Int32} {n : Int32} (hM : modA A row) (hP : okP A.2.1) {a b : Int32} (hrg : rgI a b) : ∃ g', fX8_fits row g n a b (-1) = some (if (laid (-1) a b A.2.1).length ≤ 40 ∧ A.2.2.1.length < 100 then 1 else 0, g', nI (laid (-1) a b A.2.1).length) ∧ isB g' (laid (-1) a b A.2.1) := by
  have hs := canon_srt hP.1 hP.2.1
  have hl := laid_len (box := -1) hrg hs
  have h40 := hM.2.1.1
  have h100 := hM.2.2.1.1
  obtain ⟨g', e, hg⟩ := lays_ok (g := g) (n := n) (box := -1) hM.2.1 hP.1 hs hrg
  refine ⟨g', ?_, hg⟩
  unfold fX8_fits
  have hf := fun k => fits13n (g := g') (M := (laid (-1) a b A.2.1).length) (by omega) k 0 FU 0 (Nat.zero_le _) (by unfold FU; omega)
  rw [nI_0] at hf
  rw [e, ob]
  refine (hf _).trans ?_
  show (if (-1 : Int32) = -1 then if 40 < nI (laid (-1) a b A.2.1).length then some (0, g', nI (laid (-1) a b A.2.1).length) else (ld 5058 row 2).bind fun y117 => if 100 ≤ y117 then some (0, g', nI (laid (-1) a b A.2.1).length) else some (1, g', nI (laid (-1) a b A.2.1).length) else _) = _
  rw [if_pos rfl]
  by_cases c1 : (laid (-1) a b A.2.1).length ≤ 40
  · rw [if_neg (fun z => (c40 (by omega)).mp z c1), hM.2.2.1.c, ob]
    by_cases c2 : A.2.2.1.length < 100
    · rw [if_neg (fun z => (c100 (by omega)).mp z c2), if_pos ⟨c1, c2⟩]
    · rw [if_pos ((c100 (by omega)).mpr c2), if_neg (fun z => c2 z.2)]
  · rw [if_pos ((c40 (by omega)).mpr c1), if_neg (fun z => c1 z.1)]
theorem fits_lay {A : AS} {row g : Nat → Int32} {n : Int32} (hM : modA A row) (hP : okP A.2.1) {a b : Int32} (hrg : rgI a b) {m : Nat} (hm : m < 8) : ∃ g', fX8_fits row g n a b (nI m) = some (if loadZ (nI m) (laid (nI m) a b A.2.1) ≤ (A.2.2.2.1 m).toInt ∧ (laid (nI m) a b A.2.1).length ≤ 40 ∧ A.2.2.1.length < 100 then 1 else 0, g', nI (laid (nI m) a b A.2.1).length) ∧ isB g' (laid (nI m) a b A.2.1) := by
  have hs := canon_srt hP.1 hP.2.1
  have hl := laid_len (box := nI m) hrg hs
  have h40 := hM.2.1.1
  have h100 := hM.2.2.1.1
  have hm1 : nI m ≠ -1 := nI_m1 (by omega)
  have hok : okR (laid (nI m) a b A.2.1) := mgL_okR (cut_okR hrg hP.1) (cut_srt hrg hs)
  have hcn : canon (laid (nI m) a b A.2.1) := mgL_canon (cut_srt hrg hs)
  have hld := loadZ_le (x := nI m) hok hcn
  have hln := loadZ_nn (x := nI m) hok
  obtain ⟨g', e, hg⟩ := lays_ok (g := g) (n := n) (box := nI m) hM.2.1 hP.1 hs hrg
  refine ⟨g', ?_, hg⟩
  unfold fX8_fits
  obtain ⟨acc, hf, hacc⟩ := fits13 (M := laid (nI m) a b A.2.1) hg hok hm1 (fun x4_13 x6_13 => if nI m = (-1) then if 40 < nI (laid (nI m) a b A.2.1).length then some (0, g', nI (laid (nI m) a b A.2.1).length) else (ld 5058 row 2).bind fun y117 => if 100 ≤ y117 then some (0, g', nI (laid (nI m) a b A.2.1).length) else some (1, g', nI (laid (nI m) a b A.2.1).length) else (ld 5058 row (34 + nI m)).bind fun y97 => if 0 < (lg_cmp x4_13 y97.toInt64) then some (0, g', nI (laid (nI m) a b A.2.1).length) else if 40 < nI (laid (nI m) a b A.2.1).length then some (0, g', nI (laid (nI m) a b A.2.1).length) else (ld 5058 row 2).bind fun y117 => if 100 ≤ y117 then some (0, g', nI (laid (nI m) a b A.2.1).length) else some (1, g', nI (laid (nI m) a b A.2.1).length)) FU 0 0 (Nat.zero_le _) (FU_gt (by omega)) (by decide) (by rw [List.drop_zero]; show 0 + loadZ (nI m) (laid (nI m) a b A.2.1) ≤ 2000000000; omega)
  rw [nI_0] at hf
  rw [List.drop_zero, show (0 : Int64).toInt = 0 from rfl, Int.zero_add] at hacc
  rw [e, ob]
  refine hf.trans ?_
  rw [if_neg hm1, e8_room hM.2.2.2.1 hm, ob]
  have hc : (0 < lg_cmp acc (A.2.2.2.1 m).toInt64) ↔ ¬ loadZ (nI m) (laid (nI m) a b A.2.1) ≤ (A.2.2.2.1 m).toInt := by
    rw [lg_cmp_gt, Int64.lt_iff_toInt_lt, Int32.toInt_toInt64, hacc]; omega
  by_cases c0 : loadZ (nI m) (laid (nI m) a b A.2.1) ≤ (A.2.2.2.1 m).toInt
  · rw [if_neg (fun z => hc.mp z c0)]
    by_cases c1 : (laid (nI m) a b A.2.1).length ≤ 40
    · rw [if_neg (fun z => (c40 (by omega)).mp z c1), hM.2.2.1.c, ob]
      by_cases c2 : A.2.2.1.length < 100
      · rw [if_neg (fun z => (c100 (by omega)).mp z c2), if_pos ⟨c0, c1, c2⟩]
      · rw [if_pos ((c100 (by omega)).mpr c2), if_neg (fun z => c2 z.2.2)]
    · rw [if_pos ((c40 (by omega)).mpr c1), if_neg (fun z => c1 z.2.1)]
  · rw [if_pos (hc.mpr c0), if_neg (fun z => c0 z.1)]
def mvR (row g : Nat → Int32) (i : Nat) : Nat → Int32 := fun k => if 42 ≤ k ∧ k < 42 + i then g (k - 42) else row k
theorem moves13 {row g : Nat → Int32} {M : Nat} (hl : M ≤ 40) (k : Int32 → (Nat → Int32) → Option (Nat → Int32)) : ∀ (n i : Nat), i ≤ 3 * M → 3 * M < i + n → fX8_moves_13 g (nI M) n k (nI i) (mvR row g i) = k (nI (3 * M)) (mvR row g (3 * M)) := by
  intro n
  induction n with
  | zero => intro i h1 h2; omega
  | succ n ih =>
    intro i hi hn
    rw [fX8_moves_13, m3]
    by_cases c : i = 3 * M
    · rw [if_pos ((nI_geI (by omega) (by omega) hi).mpr c), c]
    · rw [if_neg (fun z => c ((nI_geI (by omega) (by omega) hi).mp z)), ld132 (by omega), ob, n42, nI_add, sv_nI (by omega) (by omega), ob, nI_1, ← ih (i + 1) (by omega) (by omega)]
      congr 1
      funext j
      unfold mvR
      by_cases e : j = 42 + i
      · subst e
        rw [pk_us, if_pos (by omega)]
        exact congrArg g (by omega)
      · rw [pk_un e]
        by_cases z : 42 ≤ j ∧ j < 42 + i
        · rw [if_pos z, if_pos (by omega)]
        · rw [if_neg z, if_neg (by omega)]
theorem moves_ok {A : AS} {row g : Nat → Int32} {M : List Tr} {a b box : Int32} (hM : modA A row) (hg : isB g M) (h40 : M.length ≤ 40) (h100 : A.2.2.1.length < 100) : ∃ row', fX8_moves row g (nI M.length) a b box = some row' ∧ modA (A.1, M, A.2.2.1 ++ [(A.2.2.2.2, (box, a, b))], A.2.2.2.1, A.2.2.2.2) row' ∧ ∀ k, 562 ≤ k → row' k = row k := by
  obtain ⟨hS, hP, hV, hR, hD⟩ := hM
  unfold fX8_moves
  have e0 : mvR (upd row 1 (nI M.length)) g 0 = upd row 1 (nI M.length) := by
    funext j
    unfold mvR
    rw [if_neg (by omega)]
  have hl := fun k => moves13 (row := upd row 1 (nI M.length)) (g := g) h40 k FU 0 (Nat.zero_le _) (by unfold FU; omega)
  rw [e0, nI_0] at hl
  have es : sv 5058 row 1 (nI M.length) = some (upd row 1 (nI M.length)) := sv_nI (i := 1) (by omega) (by omega)
  rw [es, ob, hl]
  have r2 : mvR (upd row 1 (nI M.length)) g (3 * M.length) 2 = nI A.2.2.1.length := by
    unfold mvR
    rw [if_neg (by omega), pk_un (by omega), hV.2.1]
  have r3 : mvR (upd row 1 (nI M.length)) g (3 * M.length) 3 = A.2.2.2.2 := by
    unfold mvR
    rw [if_neg (by omega), pk_un (by omega), hD]
  have rfar : ∀ j, 162 ≤ j → mvR (upd row 1 (nI M.length)) g (3 * M.length) j = row j := by
    intro j hj
    unfold mvR
    rw [if_neg (by omega), pk_un (by omega)]
  have rlow : ∀ j, j < 42 → j ≠ 1 → mvR (upd row 1 (nI M.length)) g (3 * M.length) j = row j := by
    intro j hj h1
    unfold mvR
    rw [if_neg (by omega), pk_un (by omega)]
  have r1 : mvR (upd row 1 (nI M.length)) g (3 * M.length) 1 = nI M.length := by
    unfold mvR
    rw [if_neg (by omega), pk_us]
  have rp : ∀ j, j < 3 * M.length → mvR (upd row 1 (nI M.length)) g (3 * M.length) (42 + j) = g j := by
    intro j hj
    unfold mvR
    rw [if_pos (by omega)]
    exact congrArg g (by omega)
  generalize mvR (upd row 1 (nI M.length)) g (3 * M.length) = R at *
  have e3 : nI (162 + 4 * A.2.2.1.length) + 3 = nI (162 + 4 * A.2.2.1.length + 3) := nI_add _ 3
  have e2 : nI (162 + 4 * A.2.2.1.length) + 2 = nI (162 + 4 * A.2.2.1.length + 2) := nI_add _ 2
  have eX : ld 5058 R 2 = some (nI A.2.2.1.length) := by rw [n2, ld58 (by omega), r2]
  have eY : ld 5058 R 3 = some A.2.2.2.2 := by rw [n3, ld58 (by omega), r3]
  rw [eX, ob, eY, ob, n162, n4, ix3, nI_1, e2, e3, sv_nI (by omega) (by omega), ob, sv_nI (by omega) (by omega), ob, sv_nI (by omega) (by omega), ob, sv_nI (by omega) (by omega), ob, n2, ld58 (by omega), ob, sv_nI (by omega) (by omega), ob, pk_un (by omega), pk_un (by omega), pk_un (by omega), pk_un (by omega), r2, nI_1]
  have far : ∀ (F : Nat → Int32) (v0 v1 v2 v3 v4 : Int32) (j : Nat), j ≠ 2 → (j < 162 + 4 * A.2.2.1.length ∨ 162 + 4 * A.2.2.1.length + 4 ≤ j) → upd (upd (upd (upd (upd F (162 + 4 * A.2.2.1.length) v0) (162 + 4 * A.2.2.1.length + 1) v1) (162 + 4 * A.2.2.1.length + 2) v2) (162 + 4 * A.2.2.1.length + 3) v3) 2 v4 j = F j := by
    intro F v0 v1 v2 v3 v4 j h1 h2
    rw [pk_un h1, pk_un (by omega), pk_un (by omega), pk_un (by omega), pk_un (by omega)]
  refine ⟨_, rfl, ⟨?_, ?_, ?_, ?_, ?_⟩, ?_⟩
  · refine isS_ext hS (fun k hk => ?_)
    rw [far _ _ _ _ _ _ _ (by omega) (by omega), rlow _ (by omega) (by omega)]
  · refine ⟨h40, ?_, fun i hi => ?_⟩
    · rw [far _ _ _ _ _ _ _ (by omega) (by omega), r1]
    · have hi : i < M.length := hi
      have := hg.2 i hi
      rw [far _ _ _ _ _ _ _ (by omega) (by omega), far _ _ _ _ _ _ _ (by omega) (by omega), far _ _ _ _ _ _ _ (by omega) (by omega), rp _ (by omega), show 42 + 3 * i + 1 = 42 + (3 * i + 1) by omega, rp _ (by omega), show 42 + 3 * i + 2 = 42 + (3 * i + 2) by omega, rp _ (by omega)]
      exact this
  · refine ⟨by rw [List.length_append, List.length_singleton]; omega, by rw [List.length_append, List.length_singleton]; exact pk_us, fun i hi => ?_⟩
    rw [List.length_append, List.length_singleton] at hi
    by_cases c : i < A.2.2.1.length
    · rw [far _ _ _ _ _ _ _ (by omega) (by omega), far _ _ _ _ _ _ _ (by omega) (by omega), far _ _ _ _ _ _ _ (by omega) (by omega), far _ _ _ _ _ _ _ (by omega) (by omega), rfar _ (by omega), rfar _ (by omega), rfar _ (by omega), rfar _ (by omega), List.getElem_append_left c]
      exact hV.2.2 i c
    · have ei : i = A.2.2.1.length := by omega
      subst ei
      have eg : (A.2.2.1 ++ [(A.2.2.2.2, (box, a, b))])[A.2.2.1.length]'(by rw [List.length_append, List.length_singleton]; omega) = (A.2.2.2.2, (box, a, b)) := by rw [List.getElem_append_right (Nat.le_refl _)]; simp
      rw [eg]
      refine ⟨?_, ?_, ?_, ?_⟩
      · rw [pk_un (by omega), pk_un (by omega), pk_un (by omega), pk_un (by omega), pk_us]
      · rw [pk_un (by omega), pk_un (by omega), pk_un (by omega), pk_us]
      · rw [pk_un (by omega), pk_un (by omega), pk_us]
      · rw [pk_un (by omega), pk_us]
  · intro j hj
    rw [far _ _ _ _ _ _ _ (by omega) (by omega), rlow _ (by omega) (by omega)]
    exact hR j hj
  · rw [far _ _ _ _ _ _ _ (by omega) (by omega), rlow _ (by omega) (by omega)]
    exact hD
  · intro k hk
    rw [far _ _ _ _ _ _ _ (by omega) (by omega), rfar _ (by omega)]
/-! the class brings -/
theorem e_enter {A : AS} {md : Nat → Int32} {moves : Rg} (hM : isL 100 moves (A.2.2.1.map Prod.snd)) (hD : ∀ (i : Nat) (h : i < A.2.2.1.length), md i = (A.2.2.1[i]).1) (h100 : A.2.2.1.length < 100) (d box a b : Int32) : ∃ md' moves', fX0_enter md d moves box a b = some (md', moves') ∧ isL 100 moves' ((A.2.2.1 ++ [(d, (box, a, b))]).map Prod.snd) ∧ ∀ (i : Nat) (h : i < (A.2.2.1 ++ [(d, (box, a, b))]).length), md' i = ((A.2.2.1 ++ [(d, (box, a, b))])[i]).1 := by
  have hlen : (A.2.2.1.map Prod.snd).length = A.2.2.1.length := List.length_map _
  obtain ⟨v', ev, hv⟩ := e_add hM (by omega) box a b
  unfold fX0_enter
  rw [e_size hM, ob, hlen, if_neg (fun z => (c100 (by omega)).mp z h100), sv_nI (by omega) (by omega), ob, ev, ob]
  refine ⟨_, _, rfl, ?_, fun i hi => ?_⟩
  · rw [List.map_append]; exact hv
  · rw [List.length_append, List.length_singleton] at hi
    by_cases c : i < A.2.2.1.length
    · rw [List.getElem_append_left c, pk_un (by omega)]; exact hD i c
    · have ei : i = A.2.2.1.length := by omega
      subst ei
      rw [pk_us, List.getElem_append_right (Nat.le_refl _)]; simp
theorem e_bring {A : AS} {rooms md : Nat → Int32} {day : Int32} {series pieces trial moves : Rg} (hC : clsA A rooms md day series pieces moves) (h40 : A.2.1.length ≤ 40) (hP : okP A.2.1) {a b : Int32} (hrg : rgI a b) (box : Int32) : ∃ trial', ((laid box a b A.2.1).length ≤ 40 ∧ A.2.2.1.length < 100 ∧ ∃ md' pieces' moves', fX0_bring md day pieces trial moves box a b = some (1, md', pieces', trial', moves') ∧ clsA (A.1, laid box a b A.2.1, A.2.2.1 ++ [(A.2.2.2.2, (box, a, b))], A.2.2.2.1, A.2.2.2.2) rooms md' day series pieces' moves') ∨ (¬ ((laid box a b A.2.1).length ≤ 40 ∧ A.2.2.1.length < 100) ∧ fX0_bring md day pieces trial moves box a b = some (0, md, pieces, trial', moves)) := by
  obtain ⟨hS, hp, hM, hD, hR, hd⟩ := hC
  have hs := canon_srt hP.1 hP.2.1
  have hlen : (A.2.2.1.map Prod.snd).length = A.2.2.1.length := List.length_map _
  have hm100 := hM.1
  unfold fX0_bring
  rw [e_size hM, ob, hlen]
  by_cases c1 : A.2.2.1.length < 100
  · rw [if_pos (show nI A.2.2.1.length < 100 from nI_lt (b := 100) c1 (by omega))]
    obtain ⟨v', ev, hv⟩ := e_becomeWith (v := trial) (box := box) hp hP.1 hs h40 hrg
    refine ⟨v', ?_⟩
    have hv1 := hv.1
    rw [ev, ob, e_size hv, ob]
    by_cases c2 : (laid box a b A.2.1).length ≤ 40
    · left
      obtain ⟨p', ep, hp'⟩ := e_copyFrom (N := 42) (v := pieces) hv hv.1 (by decide)
      obtain ⟨md', mv', ee, hm', hd'⟩ := e_enter hM hD c1 day box a b
      rw [if_pos (show nI (mgL (cutL box a b A.2.1)).length ≤ 40 from nI_le (b := 40) c2 (by omega)), ep, ob, ee, ob]
      subst hd
      exact ⟨c2, c1, md', p', mv', rfl, hS, hp', hm', hd', hR, rfl⟩
    · right
      refine ⟨fun z => c2 z.1, ?_⟩
      rw [if_neg (show ¬ nI (mgL (cutL box a b A.2.1)).length ≤ 40 from nI_ge (a := 40) (by unfold laid at c2; omega) (by omega))]
  · refine ⟨trial, Or.inr ⟨fun z => c1 z.2, ?_⟩⟩
    rw [if_neg (show ¬ nI A.2.2.1.length < 100 from nI_nlt (b := 100) (by omega) (by omega))]
theorem laid_okP {box a b : Int32} (hrg : rgI a b) {P : List Tr} (hP : okP P) (hb : box = -1 ∨ isBx box) : okP (laid box a b P) := mgL_okP (cut_okR hrg hP.1) (cut_srt hrg (canon_srt hP.1 hP.2.1)) (cut_mark hP.2.2 hb)
theorem laid_load {x box a b : Int32} (hrg : rgI a b) {P : List Tr} (hP : okP P) (hx : x ≠ -1) : loadZ x (laid box a b P) = loadZ x P - inZ x a b P + if x = box then b.toInt - a.toInt + 1 else 0 := by
  unfold laid
  rw [mgL_load, cut_load hrg hP.1 hx]
theorem okA_bring {D : Int} {A : AS} (hA : okA D A) {box a b : Int32} (hrg : rgI a b) (hb : box = -1 ∨ isBx box) (hl : ∀ j : Nat, j < 8 → nI j = box → loadZ (nI j) (laid box a b A.2.1) ≤ (A.2.2.2.1 j).toInt) (d : Int32) : okA D (A.1, laid box a b A.2.1, A.2.2.1 ++ [(d, (box, a, b))], A.2.2.2.1, A.2.2.2.2) := by
  obtain ⟨hS, hP, hM, hR, hd⟩ := hA
  refine ⟨hS, laid_okP hrg hP hb, fun q hq => ?_, fun j hj => ⟨(hR j hj).1, (hR j hj).2.1, ?_⟩, hd⟩
  · rcases List.mem_append.mp hq with z | z
    · exact hM q z
    · rw [List.mem_singleton] at z
      obtain ⟨r1, r2, r3⟩ := hrg
      subst z
      refine ⟨hb, ?_, ?_, ?_⟩
      · rw [i32le, t1]; exact r1
      · rw [i32le]; exact r2
      · rw [i32le, tM]; exact r3
  · by_cases c : nI j = box
    · exact hl j hj c
    · have := (hR j hj).2.2
      show loadZ (nI j) (laid box a b A.2.1) ≤ (A.2.2.2.1 j).toInt
      rw [laid_load hrg hP (nI_m1 (by omega)), if_neg c]
      have := @inZ_nn (nI j) a b A.2.1
      omega
theorem inZ_rg {x a b : Int32} (hab : a.toInt ≤ b.toInt) {P : List Tr} (hr : okR P) (hs : srt P) : inZ x a b P ≤ b.toInt - a.toInt + 1 := by
  unfold inZ
  exact apZ hr ((show P.Pairwise (fun p q => p.2.2.toInt < q.2.1.toInt) from hs).imp (fun h _ _ => Or.inl h)) a.toInt b.toInt (by omega)
theorem anyZ {P : List Tr} (hP : okP P) {a b : Int32} : 0 ≤ (sumI (ov8 (-1) a b) P).toInt := by
  have e : ∀ q ∈ P, (ov8 (-1) a b q).toInt = max 0 (min b.toInt q.2.2.toInt - max a.toInt q.2.1.toInt + 1) := by
    intro q hq
    have h1 := hP.1.i hq
    unfold ov8
    rw [if_pos (Or.inl rfl), cm_i h1.1 h1.2.2]
  have h1 : sumZ (fun q => (ov8 (-1) a b q).toInt) P ≤ sumZ lenZ P := by
    refine sumZ_le (fun q hq => ?_)
    have h1 := hP.1.i hq
    rw [e q hq]
    unfold lenZ
    omega
  have h2 := lenZ_le hP.1 hP.2.1
  have nn : ∀ q ∈ P, 0 ≤ (ov8 (-1) a b q).toInt := fun q hq => by rw [e q hq]; omega
  rw [sumI_Z nn (by omega)]
  exact sumZ_nn nn
theorem rg_of {a b : Int32} (h : (1 ≤ a ∧ a ≤ MAX) ∧ (a ≤ b ∧ b ≤ MAX)) : rgI a b := by
  have r1 := h.1.1
  have r2 := h.2.1
  have r3 := h.2.2
  rw [i32le] at r1 r2 r3
  exact ⟨r1, r2, r3⟩
/-- laying, where box and range are such: both or none -/
theorem layV {D : Int} {A : AS} {rooms md : Nat → Int32} {day : Int32} {series pieces trial moves : Rg} {row g : Nat → Int32} {n : Int32} (hA : okA D A) (hC : clsA A rooms md day series pieces moves) (hM : modA A row) {m : Nat} (hm : m < 8) {a b : Int32} (hr : (1 ≤ a ∧ a ≤ MAX) ∧ (a ≤ b ∧ b ≤ MAX)) : (∃ md' pieces' trial' moves' g', fX0_layInto rooms md day pieces trial moves (nI m) a b = some (b - a + 1 - sumI (ov8 (nI m) a b) A.2.1, md', pieces', trial', moves') ∧ 0 ≤ (b - a + 1 - sumI (ov8 (nI m) a b) A.2.1).toInt ∧ fX8_fits row g n a b (nI m) = some (1, g', nI (laid (nI m) a b A.2.1).length) ∧ isB g' (laid (nI m) a b A.2.1) ∧ (laid (nI m) a b A.2.1).length ≤ 40 ∧ A.2.2.1.length < 100 ∧ okA D (A.1, laid (nI m) a b A.2.1, A.2.2.1 ++ [(A.2.2.2.2, (nI m, a, b))], A.2.2.2.1, A.2.2.2.2) ∧ clsA (A.1, laid (nI m) a b A.2.1, A.2.2.1 ++ [(A.2.2.2.2, (nI m, a, b))], A.2.2.2.1, A.2.2.2.2) rooms md' day series pieces' moves') ∨ (∃ trial' g' n', fX0_layInto rooms md day pieces trial moves (nI m) a b = some (-5, md, pieces, trial', moves) ∧ fX8_fits row g n a b (nI m) = some (0, g', n')) := by
  have hrg := rg_of hr
  have hP := hA.2.1
  have hs := canon_srt hP.1 hP.2.1
  have hbox : 0 ≤ nI m ∧ nI m ≤ 7 := by
    rw [i32le, i32le, nI_toInt (by omega), t0, show (7 : Int32).toInt = 7 from rfl]; omega
  have hm1 : nI m ≠ -1 := nI_m1 (by omega)
  have hx := inBox_Z hP.1 hP.2.1 (a := a) (b := b) hm1
  have hx0 := @inZ_nn (nI m) a b A.2.1
  have hx1 := inZ_rg (x := nI m) hrg.2.1 hP.1 hs
  have hld := load_le hP hbox
  have hl0 := loadZ_nn (x := nI m) hP.1
  have hl1 := loadZ_le (x := nI m) hP.1 hP.2.1
  have hro := hA.2.2.2.1 m hm
  have hll := laid_load (x := nI m) (box := nI m) hrg hP hm1
  rw [if_pos rfl] at hll
  obtain ⟨g', ef, hg'⟩ := fits_lay (g := g) (n := n) hM hP hrg hm
  obtain ⟨r1, r2, r3⟩ := hrg
  have e1 : (b - a + 1 - sumI (ov8 (nI m) a b) A.2.1).toInt = b.toInt - a.toInt + 1 - inZ (nI m) a b A.2.1 := by
    rw [toI_sub, toI_1, toI_sub, hx] <;> (try rw [toI_1]) <;> (try rw [toI_sub]) <;> (try rw [hx]) <;> omega
  have e2 : (A.2.2.2.1 m - sumI (ov8 (nI m) 1 MAX) A.2.1).toInt = (A.2.2.2.1 m).toInt - loadZ (nI m) A.2.1 := by
    rw [toI_sub, hld.1] <;> rw [hld.1] <;> omega
  unfold fX0_layInto fX0_freeIn
  rw [e7_isBox, ob, i01, if_pos hbox, e7_isRange, ob, i01, if_pos hr, e_sheetsIn hC.2.1 (by decide), ob, e_room hC.2.2.2.2.1 hm, ob, e_loadOf hC.2.1, ob, ob, hld.2, ov_box hP.1 hbox.1 hr.2.1]
  by_cases c0 : loadZ (nI m) (laid (nI m) a b A.2.1) ≤ (A.2.2.2.1 m).toInt
  · rw [if_pos (by rw [i32le, e1, e2]; omega)]
    obtain ⟨trial', ⟨c1, c2, md', p', mv', eb, hC'⟩ | ⟨c1, eb⟩⟩ := e_bring (trial := trial) hC hM.2.1.1 hP ⟨r1, r2, r3⟩ (nI m)
    · left
      rw [if_pos ⟨c0, c1, c2⟩] at ef
      rw [eb, ob, if_neg (show ¬ (1 : Int32) = 0 by decide)]
      exact ⟨md', p', trial', mv', g', rfl, by omega, ef, hg', c1, c2, okA_bring hA ⟨r1, r2, r3⟩ (Or.inr (isBx_of hbox)) (fun j hj e => by have : j = m := (nI_eq (by omega) (by omega)).mp e; subst this; exact c0) _, hC'⟩
    · right
      rw [if_neg (fun z => c1 z.2)] at ef
      rw [eb, ob, if_pos rfl]
      exact ⟨trial', g', _, rfl, ef⟩
  · right
    rw [if_neg (fun z => c0 z.1)] at ef
    rw [if_neg (by rw [i32le, e1, e2]; omega)]
    exact ⟨trial, g', _, rfl, ef⟩
theorem takeV {D : Int} {A : AS} {rooms md : Nat → Int32} {day : Int32} {series pieces trial moves : Rg} {row g : Nat → Int32} {n : Int32} (hA : okA D A) (hC : clsA A rooms md day series pieces moves) (hM : modA A row) {a b : Int32} (hr : (1 ≤ a ∧ a ≤ MAX) ∧ (a ≤ b ∧ b ≤ MAX)) : (∃ md' pieces' trial' moves' g', fX0_takeOut md day pieces trial moves a b = some (sumI (ov8 (-1) a b) A.2.1, md', pieces', trial', moves') ∧ fX8_fits row g n a b (-1) = some (1, g', nI (laid (-1) a b A.2.1).length) ∧ isB g' (laid (-1) a b A.2.1) ∧ (laid (-1) a b A.2.1).length ≤ 40 ∧ A.2.2.1.length < 100 ∧ okA D (A.1, laid (-1) a b A.2.1, A.2.2.1 ++ [(A.2.2.2.2, (-1, a, b))], A.2.2.2.1, A.2.2.2.2) ∧ clsA (A.1, laid (-1) a b A.2.1, A.2.2.1 ++ [(A.2.2.2.2, (-1, a, b))], A.2.2.2.1, A.2.2.2.2) rooms md' day series pieces' moves') ∨ (∃ trial' g' n', fX0_takeOut md day pieces trial moves a b = some (-5, md, pieces, trial', moves) ∧ fX8_fits row g n a b (-1) = some (0, g', n')) := by
  have hrg := rg_of hr
  have hP := hA.2.1
  obtain ⟨g', ef, hg'⟩ := fits_take (g := g) (n := n) hM hP hrg
  unfold fX0_takeOut
  rw [e7_isRange, ob, i01, if_pos hr, e_sheetsIn hC.2.1 (by decide), ob, ov_any hP.1 hr.2.1]
  obtain ⟨trial', ⟨c1, c2, md', p', mv', eb, hC'⟩ | ⟨c1, eb⟩⟩ := e_bring (trial := trial) hC hM.2.1.1 hP hrg (-1)
  · left
    rw [if_pos ⟨c1, c2⟩] at ef
    rw [eb, ob, if_neg (show ¬ (1 : Int32) = 0 by decide)]
    exact ⟨md', p', trial', mv', g', rfl, ef, hg', c1, c2, okA_bring hA hrg (Or.inl rfl) (fun j hj e => absurd e (nI_m1 (by omega))) _, hC'⟩
  · right
    rw [if_neg c1] at ef
    rw [eb, ob, if_pos rfl]
    exact ⟨trial', g', _, rfl, ef⟩
