/-! labels -/
/-- a series, or all sheets -/
def serR (S : List Tr) (m f0 l0 : Int32) : Prop := (m = -1 ∧ f0 = 1 ∧ l0 = MAX) ∨ ∃ (j : Nat) (hj : j < S.length), m = nI j ∧ f0 = (S[j]).2.1 ∧ l0 = (S[j]).2.2
theorem serR.i {S : List Tr} (hr : okR S) {m f0 l0 : Int32} (h : serR S m f0 l0) : 1 ≤ f0.toInt ∧ f0.toInt ≤ 2000000000 ∧ l0.toInt ≤ 2000000000 := by
  rcases h with ⟨_, e1, e2⟩ | ⟨j, hj, _, e1, e2⟩
  · rw [e1, e2, t1, tM]; omega
  · have := hr.i (List.getElem_mem hj)
    rw [e1, e2]; omega
theorem e8_writes {g : Nat → Int32} {S : List Tr} (h : isS g S) (hr : okR S) {m f0 l0 : Int32} (hm : serR S m f0 l0) {a b : Int32} (hrg : rgI a b) (is : Int32) (d : Nat → Int32) (D : Int32) : fX8_writes g d D m a b is = (wrR (rn m S (imin b l0) (S.length + 1) (bf m S (imax a f0))) is d D).bind fun t => (bz t.1).bind fun b => some (b, t.2.1, t.2.2) := by
  have hi := hm.i hr
  obtain ⟨r1, r2, r3⟩ := hrg
  have e1 := @imax_i a f0
  have e2 := @imin_i b l0
  have hme := @meas_le m S (imin b l0).toInt (imax a f0).toInt
  have hz := @fz_le m S (bf m S (imax a f0)).toInt
  have h10 := h.1
  have key := w44_loop h hr m (b := imin b l0) (by omega) (fun x5_44 x6_44 g_draft_44 g_drafts_44 => (bz x5_44).bind fun b224 => some (b224, g_draft_44, g_drafts_44)) (fun x5 d D => (bz x5).bind fun b => some (b, d, D)) (fun _ _ _ _ => rfl) FU (S.length + 1) is (imax a f0) d D (by omega) (by omega) (by unfold FU; omega) (Or.inl (by omega))
  rw [← key]
  unfold fX8_writes
  rcases hm with ⟨c1, c2, c3⟩ | ⟨j, hj, c1, c2, c3⟩
  · have ex : imax a f0 = a := by rw [i32eq, e1, c2, t1]; omega
    have el : imin b l0 = b := by rw [i32eq, e2, c3, tM]; omega
    rw [if_pos c1, if_pos c1, ex, el]
  · have hn : ¬ m = -1 := by rw [c1]; exact nI_m1 (by omega)
    simp only [if_neg hn]
    rw [c1, h.f hj, ob, e8_greater, ob, h.l hj, ob, e8_lesser, ob, c2, c3]
theorem flg.bz {is lt : Int32} (h : flg is lt) : bz is = some is := by
  rcases h with ⟨e, _⟩ | ⟨e, _⟩ <;> subst e <;> rfl
theorem part_loop {g : Nat → Int32} {v w : Rg} {S P : List Tr} (hS : isL 10 v S) (hp : isL 42 w P) (gS : isS g S) (gp : isP g P) (hrS : okR S) (hrP : okR P) {m f0 l0 : Int32} (hm : serR S m f0 l0) (box : Int32) : ∀ (n i N : Nat) (s d : Nat → Int32) (is lt : Int32), i ≤ P.length → P.length < i + n → N + 300 * (P.length - i) < 2 ^ 28 → pgR N s d → flg is lt → ∃ N' s' d' lt', fX2_writePart_71 v w m box f0 l0 n (fun _ s L lt => some (s, L, lt)) (nI i) s (nI N) lt = some (s', nI N', lt') ∧ fX8_labels_52 g m box n (fun _ _ d D => some (d, D)) is (nI i) d (nI N) = some (d', nI N') ∧ pgR N' s' d' ∧ N' ≤ N + 300 * (P.length - i) := by
  have hb := hp.b
  have h10 := hS.1
  have hi0 := hm.i hrS
  intro n
  induction n with
  | zero => intro i N s d is lt h1 h2; omega
  | succ n ih =>
    intro i N s d is lt hi hn hN h hf
    rw [fX2_writePart_71, fX8_labels_52, e_size hp, gp.c, ob, ob]
    by_cases c : i = P.length
    · have := (nI_geI (show P.length < 2 ^ 31 by omega) (by omega) hi).mpr c
      rw [if_pos this, if_pos this]
      exact ⟨N, s, d, lt, rfl, rfl, h, by omega⟩
    · have hlt : i < P.length := by omega
      have := fun z => c ((nI_geI (show P.length < 2 ^ 31 by omega) (show i < 2 ^ 31 by omega) hi).mp z)
      have hq := hrP.i (List.getElem_mem hlt)
      unfold fX0_allSeries
      rw [if_neg this, if_neg this, e_markOf_in hp hlt, gp.m hlt, ob, ob, e_meets hp hlt, ob, i01, e_firstOf_in hp hlt, e_lastOf_in hp hlt, gp.f hlt, gp.l hlt, nI_1]
      simp only [ob]
      have skip := ih (i + 1) N s d is lt (by omega) (by omega) (by omega) h hf
      have skip2 : ∃ N' s' d' lt', fX2_writePart_71 v w m box f0 l0 n (fun _ s L lt => some (s, L, lt)) (nI (i + 1)) s (nI N) lt = some (s', nI N', lt') ∧ fX8_labels_52 g m box n (fun _ _ d D => some (d, D)) is (nI (i + 1)) d (nI N) = some (d', nI N') ∧ pgR N' s' d' ∧ N' ≤ N + 300 * (P.length - i) := by
        obtain ⟨a1, a2, a3, a4, a5, a6, a7, a8⟩ := skip
        exact ⟨a1, a2, a3, a4, a5, a6, a7, by omega⟩
      by_cases c1 : (P[i]).1 = box
      · rw [if_pos c1, if_pos c1, e8_writes gS hrS hm ⟨by omega, by omega, by omega⟩]
        have e1 := @imax_i (P[i]).2.1 f0
        have e2 := @imin_i (P[i]).2.2 l0
        by_cases c2 : ¬ l0 < (P[i]).2.1 ∧ ¬ (P[i]).2.2 < f0
        · rw [if_pos c2, e_writeOwn hS hrS]
          have bs := bf_spec (m := m) hrS (x := imax (P[i]).2.1 f0) (by omega) (by omega)
          have rl := rn_len (m := m) (l := S) (b := imin (P[i]).2.2 l0) (S.length + 1) (bf m S (imax (P[i]).2.1 f0))
          obtain ⟨N1, s1, d1, is1, lt1, w1, w2, w3', w4, w5⟩ := wr_sim (rn m S (imin (P[i]).2.2 l0) (S.length + 1) (bf m S (imax (P[i]).2.1 f0))) N s d is lt (rn_mem hrS (by omega) _ _ (by omega)) (by omega) h hf
          rw [w1, ob, w2, ob, w5.bz, ob, ob]
          obtain ⟨a1, a2, a3, a4, a5, a6, a7, a8⟩ := ih (i + 1) N1 s1 d1 is1 lt1 (by omega) (by omega) (by omega) w3' w5
          exact ⟨a1, a2, a3, a4, a5, a6, a7, by omega⟩
        · have bs := bf_spec (m := m) hrS (x := imax (P[i]).2.1 f0) (by omega) (by omega)
          rw [if_neg c2, rn_nil (by rw [i32lt, i32lt] at c2; omega), wrR, ob, hf.bz, ob, ob]
          exact skip2
      · rw [if_neg c1, if_neg c1]
        exact skip2
theorem e7_ser {v : Rg} {S : List Tr} (h : isL 10 v S) {m f0 l0 : Int32} (hm : serR S m f0 l0) : fX0_firstIn v m = some f0 ∧ fX0_lastIn v m = some l0 := by
  rcases hm with ⟨c1, c2, c3⟩ | ⟨j, hj, c1, c2, c3⟩
  · rw [c1, c2, c3]; exact ⟨rfl, rfl⟩
  · rw [c1, c2, c3]; exact ⟨e7_firstIn h hj, e7_lastIn h hj⟩
theorem part_sim {g : Nat → Int32} {v w : Rg} {S P : List Tr} (hS : isL 10 v S) (hp : isL 42 w P) (gS : isS g S) (gp : isP g P) (hrS : okR S) (hrP : okR P) {m f0 l0 : Int32} (hm : serR S m f0 l0) (box : Int32) {r : Int32} (e7 : fX0_ownIn v w m box = some r) (e8 : fX8_ownInBox g m box = some r) {N : Nat} (hN : N < 2 ^ 27) {s d : Nat → Int32} (h : pgR N s d) (lt : Int32) : ∃ N' s' d' lt', fX2_writePart s (nI N) lt v w m box = some (s', nI N', lt') ∧ fX8_labels g d (nI N) m box = some (d', nI N') ∧ pgR N' s' d' ∧ N' ≤ N + 13000 := by
  have h40 := gp.1
  have h10 := gS.1
  have hser := e7_ser hS hm
  unfold fX2_writePart fX8_labels fX0_pieces
  rw [e7, e8, ob, ob]
  by_cases c : r = 0
  · rw [if_pos c, if_pos c]
    exact ⟨N, s, d, lt, rfl, rfl, h, by omega⟩
  · rw [if_neg c, if_neg c]
    have body : ∀ (N1 : Nat) (s1 d1 : Nat → Int32) (lt1 : Int32), N1 ≤ N + 1 → pgR N1 s1 d1 → ∃ N' s' d' lt', (if m = (-1) then (fX2_put s1 (nI N1) lt1 120).bind fun r31 => (fX2_put r31.1 r31.2.1 r31.2.2 58).bind fun r45 => (fX0_firstIn v m).bind fun r50 => (fX0_lastIn v m).bind fun r57 => (some ()).bind fun r63 => fX2_writePart_71 v w m box r50 r57 FU (fun x7_71 g_signs_71 g_length_71 g_latest_71 => some (g_signs_71, g_length_71, g_latest_71)) 0 r45.1 r45.2.1 r45.2.2 else (fX2_putNumber s1 (nI N1) lt1 m).bind fun r39 => (fX2_put r39.1 r39.2.1 r39.2.2 58).bind fun r45 => (fX0_firstIn v m).bind fun r50 => (fX0_lastIn v m).bind fun r57 => (some ()).bind fun r63 => fX2_writePart_71 v w m box r50 r57 FU (fun x7_71 g_signs_71 g_length_71 g_latest_71 => some (g_signs_71, g_length_71, g_latest_71)) 0 r45.1 r45.2.1 r45.2.2) = some (s', nI N', lt') ∧ (if m = (-1) then (fX8_letter d1 (nI N1) 120).bind fun r38 => (fX8_letter r38.1 r38.2 58).bind fun r44 => fX8_labels_52 g m box FU (fun x3_52 x4_52 g_draft_52 g_drafts_52 => some (g_draft_52, g_drafts_52)) 0 0 r44.1 r44.2 else (fX8_letter d1 (nI N1) (48 + m)).bind fun r38 => (fX8_letter r38.1 r38.2 58).bind fun r44 => fX8_labels_52 g m box FU (fun x3_52 x4_52 g_draft_52 g_drafts_52 => some (g_draft_52, g_drafts_52)) 0 0 r44.1 r44.2) = some (d', nI N') ∧ pgR N' s' d' ∧ N' ≤ N + 13000 := by
      intro N1 s1 d1 lt1 hN1 h1
      rw [hser.1, hser.2]
      have fin : ∀ (N2 : Nat) (s2 d2 : Nat → Int32) (lt2 : Int32), N2 ≤ N + 12 → pgR N2 s2 d2 → ∃ N' s' d' lt', ((fX2_put s2 (nI N2) lt2 58).bind fun r45 => (some f0).bind fun r50 => (some l0).bind fun r57 => (some ()).bind fun r63 => fX2_writePart_71 v w m box r50 r57 FU (fun x7_71 g_signs_71 g_length_71 g_latest_71 => some (g_signs_71, g_length_71, g_latest_71)) 0 r45.1 r45.2.1 r45.2.2) = some (s', nI N', lt') ∧ ((fX8_letter d2 (nI N2) 58).bind fun r44 => fX8_labels_52 g m box FU (fun x3_52 x4_52 g_draft_52 g_drafts_52 => some (g_draft_52, g_drafts_52)) 0 0 r44.1 r44.2) = some (d', nI N') ∧ pgR N' s' d' ∧ N' ≤ N + 13000 := by
        intro N2 s2 d2 lt2 hN2 h2
        obtain ⟨s3, d3, p1, p2, h3⟩ := put_sim (show N2 < 2 ^ 30 by omega) h2 lt2 58
        obtain ⟨N4, s4, d4, lt4, q1, q2, q3, q4⟩ := part_loop hS hp gS gp hrS hrP hm box FU 0 (N2 + 1) s3 d3 0 58 (Nat.zero_le _) (FU_gt (by omega)) (by omega) h3 (Or.inl ⟨rfl, rfl⟩)
        rw [nI_0] at q1 q2
        rw [p1, p2, ob, ob, ob, ob, ob]
        exact ⟨N4, s4, d4, lt4, q1, q2, q3, by omega⟩
      by_cases c1 : m = -1
      · rw [if_pos c1, if_pos c1]
        obtain ⟨s2, d2, p1, p2, h2⟩ := put_sim (show N1 < 2 ^ 30 by omega) h1 lt1 120
        rw [p1, p2, ob, ob]
        exact fin (N1 + 1) s2 d2 120 (by omega) h2
      · rw [if_neg c1, if_neg c1]
        rcases hm with ⟨z, _⟩ | ⟨j, hj, z, _⟩
        · exact absurd z c1
        · obtain ⟨N2, s2, d2, lt2, p1, p2, h2, p3, p4, p5⟩ := num_sim (show j ≤ 2000000000 by omega) (show N1 < 2 ^ 29 by omega) h1 lt1
          obtain ⟨s3, d3, _, p6, _⟩ := put_sim (show N1 < 2 ^ 30 by omega) h1 lt1 (48 + nI j)
          rw [fig_1 (by omega), p6, ob] at p2
          have p7 : (d3, nI (N1 + 1)) = (d2, nI N2) := Option.some.inj p2
          rw [p7] at p6
          rw [z] at fin ⊢
          rw [p1, p6, ob, ob]
          exact fin N2 s2 d2 lt2 (by omega) h2
    by_cases c2 : N = 0
    · rw [if_pos (show nI N ≤ 0 by rw [c2]; decide), if_pos (show nI N ≤ 0 by rw [c2]; decide)]
      exact body N s d lt (by omega) h
    · obtain ⟨s1, d1, p1, p2, h1⟩ := put_sim (show N < 2 ^ 30 by omega) h lt 59
      rw [if_neg (nI_nle (by omega) (by omega)), if_neg (nI_nle (by omega) (by omega)), p1, p2, ob, ob]
      exact body (N + 1) s1 d1 59 (by omega) h1
theorem label_loop {g : Nat → Int32} {v w : Rg} {S P : List Tr} (hS : isL 10 v S) (hp : isL 42 w P) (gS : isS g S) (gp : isP g P) (hrS : okR S) (hrP : okR P) {box : Int32} (hx : 0 ≤ box ∧ box ≤ 7) (k7 : Int32 → (Nat → Int32) → Int32 → Int32 → Option ((Nat → Int32) × Int32 × Int32)) (k8 : Int32 → (Nat → Int32) → Int32 → Option (Int32 × (Nat → Int32) × Int32 × (Nat → Int32) × Int32)) : ∀ (n i N : Nat) (s d : Nat → Int32) (lt : Int32), i ≤ S.length → S.length < i + n → N + 13000 * (S.length - i) < 2 ^ 26 → pgR N s d → ∃ N' s' d' lt', fX2_writeLabel_6 v w box n k7 (nI i) s (nI N) lt = k7 (nI S.length) s' (nI N') lt' ∧ fX8_label_17 g box n k8 (nI i) d (nI N) = k8 (nI S.length) d' (nI N') ∧ pgR N' s' d' ∧ N' ≤ N + 13000 * (S.length - i) := by
  have hb := hS.b
  intro n
  induction n with
  | zero => intro i N s d lt h1 h2; omega
  | succ n ih =>
    intro i N s d lt hi hn hN h
    unfold fX2_writeLabel_6 fX8_label_17 fX0_seriesCount
    rw [e_size hS, gS.c]
    simp only [ob]
    by_cases c : i = S.length
    · have := (nI_geI (show S.length < 2 ^ 31 by omega) (by omega) hi).mpr c
      rw [if_pos this, if_pos this]
      subst c
      exact ⟨N, s, d, lt, rfl, rfl, h, by omega⟩
    · have hlt : i < S.length := by omega
      have := fun z => c ((nI_geI (show S.length < 2 ^ 31 by omega) (show i < 2 ^ 31 by omega) hi).mp z)
      obtain ⟨N1, s1, d1, lt1, p1, p2, h1, p3⟩ := part_sim hS hp gS gp hrS hrP (m := nI i) (f0 := (S[i]).2.1) (l0 := (S[i]).2.2) (Or.inr ⟨i, hlt, rfl, rfl, rfl⟩) box (e7_own hS hp hrS hrP hlt box) (e8_ownB gS gp hlt hx) (show N < 2 ^ 27 by omega) h lt
      rw [if_neg this, if_neg this, p1, p2, ob, ob, nI_1]
      obtain ⟨N2, s2, d2, lt2, q1, q2, q3, q4⟩ := ih (i + 1) N1 s1 d1 lt1 (by omega) (by omega) (by omega) h1
      exact ⟨N2, s2, d2, lt2, q1, q2, q3, by omega⟩
theorem lab60 {d : Nat → Int32} {N : Nat} (hN : N ≤ 200) (k : Int32 → (Nat → Int32) → Option (Int32 × (Nat → Int32) × Int32 × (Nat → Int32) × Int32)) : ∀ (n i : Nat) (p : Nat → Int32), i ≤ N → N < i + n → (∀ j, j < i → p j = d j) → ∃ p', fX8_label_60 d (nI N) n k (nI i) p = k (nI N) p' ∧ ∀ j, j < N → p' j = d j := by
  intro n
  induction n with
  | zero => intro i p h1 h2; omega
  | succ n ih =>
    intro i p hi hn hp
    rw [fX8_label_60]
    by_cases c : i = N
    · rw [if_pos ((nI_geI (by omega) (by omega) hi).mpr c), c]
      subst c
      exact ⟨p, rfl, hp⟩
    · rw [if_neg (fun z => c ((nI_geI (by omega) (by omega) hi).mp z)), ld_nI (by omega) (by omega), ob, sv_nI (by omega) (by omega), ob, nI_1]
      refine ih (i + 1) _ (by omega) (by omega) (fun j hj => ?_)
      by_cases e : j = i
      · subst e; rw [pk_us]
      · rw [pk_un e]; exact hp j (by omega)
theorem wlab7 {v w : Rg} {x1 : Int32} {s0 s1 s2 : Nat → Int32} {l0 lt0 N1 N2 lt1 lt2 : Int32} (p1 : fX2_writeLabel_6 v w x1 FU (fun x3_6 g_signs_6 g_length_6 g_latest_6 => (fX2_writePart g_signs_6 g_length_6 g_latest_6 v w (-1) x1).bind fun r31 => some (r31.1, r31.2.1, r31.2.2)) 0 s0 0 (-1) = (fX2_writePart s1 N1 lt1 v w (-1) x1).bind fun r31 => some (r31.1, r31.2.1, r31.2.2)) (q1 : fX2_writePart s1 N1 lt1 v w (-1) x1 = some (s2, N2, lt2)) : fX2_writeLabel s0 l0 lt0 v w x1 = some (s2, N2, lt2) := by
  unfold fX2_writeLabel fX2_wipe
  rw [ob]
  refine p1.trans ?_
  rw [q1, ob]
theorem wlab8 {row pp dr d1 d2 : Nat → Int32} {ps drs x1 N1 N2 : Int32} (c : 0 ≤ x1 ∧ x1 ≤ 7) (p2 : fX8_label_17 row x1 FU (fun x2_17 g_draft_17 g_drafts_17 => (fX8_labels row g_draft_17 g_drafts_17 (-1) x1).bind fun r42 => if r42.2 ≤ 200 then fX8_label_60 r42.1 r42.2 FU (fun x2_60 g_paper_60 => some (r42.2, g_paper_60, r42.2, r42.1, r42.2)) 0 pp else some ((-5), pp, ps, r42.1, r42.2)) 0 dr 0 = (fX8_labels row d1 N1 (-1) x1).bind fun r42 => if r42.2 ≤ 200 then fX8_label_60 r42.1 r42.2 FU (fun x2_60 g_paper_60 => some (r42.2, g_paper_60, r42.2, r42.1, r42.2)) 0 pp else some ((-5), pp, ps, r42.1, r42.2)) (q2 : fX8_labels row d1 N1 (-1) x1 = some (d2, N2)) : fX8_label row pp ps dr drs x1 = if N2 ≤ 200 then fX8_label_60 d2 N2 FU (fun x2_60 g_paper_60 => some (N2, g_paper_60, N2, d2, N2)) 0 pp else some ((-5), pp, ps, d2, N2) := by
  unfold fX8_label
  rw [e8_isBox, ob, i01, if_pos c]
  refine p2.trans ?_
  rw [q2, ob]
theorem label_core {D : Int} {A : AS} {rooms md : Nat → Int32} {day : Int32} {series pieces moves : Rg} {row : Nat → Int32} (hA : okA D A) (hC : clsA A rooms md day series pieces moves) (hM : modA A row) {x1 : Int32} (c : 0 ≤ x1 ∧ x1 ≤ 7) (s0 : Nat → Int32) (l0 lt0 : Int32) (pp : Nat → Int32) (ps : Int32) (dr : Nat → Int32) (drs : Int32) : ∃ (N : Nat) (s d : Nat → Int32) (lt : Int32), fX2_writeLabel s0 l0 lt0 series pieces x1 = some (s, nI N, lt) ∧ (fX8_label row pp ps dr drs x1 = if nI N ≤ 200 then fX8_label_60 d (nI N) FU (fun x2_60 g_paper_60 => some (nI N, g_paper_60, nI N, d, nI N)) 0 pp else some ((-5), pp, ps, d, nI N)) ∧ pgR N s d ∧ N < 2 ^ 28 := by
  have hleS := hM.1.1
  obtain ⟨N, s, d, lt, p1, p2, p3, p4⟩ := label_loop hC.1 hC.2.1 hM.1 hM.2.1 hA.1.1 hA.2.1.1 c (fun x3_6 g_signs_6 g_length_6 g_latest_6 => (fX2_writePart g_signs_6 g_length_6 g_latest_6 series pieces (-1) x1).bind fun r31 => some (r31.1, r31.2.1, r31.2.2)) (fun x2_17 g_draft_17 g_drafts_17 => (fX8_labels row g_draft_17 g_drafts_17 (-1) x1).bind fun r42 => if r42.2 ≤ 200 then fX8_label_60 r42.1 r42.2 FU (fun x2_60 g_paper_60 => some (r42.2, g_paper_60, r42.2, r42.1, r42.2)) 0 pp else some ((-5), pp, ps, r42.1, r42.2)) FU 0 0 s0 dr (-1) (Nat.zero_le _) (FU_gt (by omega)) (by omega) (fun i hi _ => absurd hi (Nat.not_lt_zero i))
  rw [nI_0] at p1 p2
  obtain ⟨N2, s2, d2, lt2, q1, q2, q3, q4⟩ := part_sim hC.1 hC.2.1 hM.1 hM.2.1 hA.1.1 hA.2.1.1 (m := -1) (f0 := 1) (l0 := MAX) (Or.inl ⟨rfl, rfl, rfl⟩) x1 (e7_own0 hC.1 hC.2.1 hA.1.1 hA.2.1.1 x1) (e8_ownB0 hM.1 hM.2.1 hA.2.1.1 c) (show N < 2 ^ 27 by omega) p3 lt
  exact ⟨N2, s2, d2, lt2, wlab7 p1 q1, wlab8 c p2 q2, q3, by omega⟩
theorem sim_label {D : Int} : S_label (RR D) (RR D) := by
  intro c_archive_rooms c_archive_moveDays c_archive_day c_archive_series c_archive_pieces c_archive_trial c_archive_moves c_history_slots c_history_top c_history_steps c_planner_free c_planner_remaining c_planner_gaps c_planner_layings c_rows c_text_bytes c_text_verbs c_text_numbers c_text_length c_text_commandCount c_text_at c_page_signs c_page_length c_page_latest c_draft_signs c_draft_length c_draft_latest d_row d_undos d_list d_listed d_paper d_papers d_text d_length d_beside d_besides d_gapFirst d_gapLast d_laying d_layings d_free d_first d_behind d_numbers d_clauses d_words d_sorts d_shifted d_saved d_draft d_drafts x1 h
  have h : R0 D c_archive_rooms c_archive_moveDays c_archive_day c_archive_series c_archive_pieces c_archive_moves c_history_slots c_history_top c_history_steps c_planner_gaps c_planner_layings c_rows c_text_bytes c_text_length c_page_signs c_page_length d_row d_undos d_list d_listed d_paper d_papers d_text d_length d_words d_sorts := h
  have hR := h
  obtain ⟨⟨A, hs, hA, hC, hM, hH⟩, hZ, hL, hT, hP, hW⟩ := h
  by_cases c : 0 ≤ x1 ∧ x1 ≤ 7
  · obtain ⟨N, s, d, lt, e7, e8, h3, h4⟩ := label_core hA hC hM c c_draft_signs c_draft_length c_draft_latest d_paper d_papers d_draft d_drafts
    have e7' : fX7_label c_archive_series c_archive_pieces c_page_signs c_page_length c_page_latest c_draft_signs c_draft_length c_draft_latest x1 = if nI N ≤ 200 then some (nI N, va_cpy s c_page_signs 0 0 200, nI N, lt, s, nI N, lt) else some (-5, c_page_signs, c_page_length, c_page_latest, s, nI N, lt) := by
      unfold fX7_label fX2_length fX2_copyFrom
      rw [e7_isBox, ob, i01, if_pos c, e7, ob, ob, show (200 : Int32) = nI 200 from rfl, cpy_ok (by omega) (by omega) (by omega), ob, ob, ob]
    rw [e7', e8]
    by_cases c2 : N ≤ 200
    · obtain ⟨p', l1, l2⟩ := lab60 (d := d) c2 (fun x2_60 g_paper_60 => some (nI N, g_paper_60, nI N, d, nI N)) FU 0 d_paper (Nat.zero_le _) (by unfold FU; omega) (fun j hj => absurd hj (Nat.not_lt_zero j))
      rw [nI_0] at l1
      have hsm : same N (va_cpy s c_page_signs 0 0 200) p' := by
        intro j hj
        rw [l2 j hj, ← h3 j hj (by omega)]
        exact cpy_at (by omega)
      rw [if_pos (show nI N ≤ 200 from nI_le (b := 200) c2 (by omega)), if_pos (show nI N ≤ 200 from nI_le (b := 200) c2 (by omega)), l1]
      exact ⟨_, _, _, _, _, _, _, _, _, _, _, rfl, rfl, ⟨⟨A, hs, hA, hC, hM, hH⟩, hZ, hL, hT, ⟨N, c2, rfl, rfl, hsm⟩, hW⟩⟩
    · rw [if_neg (show ¬ nI N ≤ 200 from nI_ge (a := 200) (by omega) (by omega)), if_neg (show ¬ nI N ≤ 200 from nI_ge (a := 200) (by omega) (by omega))]
      exact ⟨_, _, _, _, _, _, _, _, _, _, _, rfl, rfl, hR⟩
  · unfold fX7_label fX8_label
    rw [e7_isBox, e8_isBox, ob, ob, i01, i01, if_neg c, if_neg c]
    exact ⟨_, _, _, _, _, _, _, _, _, _, _, rfl, rfl, hR⟩
