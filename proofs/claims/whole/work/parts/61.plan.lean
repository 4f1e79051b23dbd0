/-! plans -/
def frA (A : AS) (j : Nat) : Int32 := A.2.2.2.1 j - sumI (ov8 (nI j) 1 MAX) A.2.1
theorem bx_nI {m : Nat} (hm : m < 8) : 0 ≤ nI m ∧ nI m ≤ 7 := by
  rw [i32le, i32le, nI_toInt (by omega), t0, show (7 : Int32).toInt = 7 from rfl]; omega
theorem frA_i {D : Int} {A : AS} (hA : okA D A) {j : Nat} (hj : j < 8) : (frA A j).toInt = (A.2.2.2.1 j).toInt - loadZ (nI j) A.2.1 ∧ 0 ≤ (frA A j).toInt ∧ (frA A j).toInt ≤ 2000000000 := by
  have hl := load_le hA.2.1 (bx_nI hj)
  have h0 := loadZ_nn (x := nI j) hA.2.1.1
  have hr := hA.2.2.2.1 j hj
  have e : (frA A j).toInt = (A.2.2.2.1 j).toInt - loadZ (nI j) A.2.1 := by
    unfold frA
    rw [toI_sub, hl.1] <;> rw [hl.1] <;> omega
  rw [e]
  omega
theorem free7 {D : Int} {A : AS} {rooms md : Nat → Int32} {day : Int32} {series pieces moves : Rg} (hA : okA D A) (hC : clsA A rooms md day series pieces moves) (k : Int32 → (Nat → Int32) → Option ((Nat → Int32) × Int32 × Rg × Rg)) : ∀ (n i : Nat) (f : Nat → Int32), i ≤ 8 → 8 < i + n → (∀ j, j < i → f j = frA A j) → ∃ f', fX3_makePlan_8 rooms pieces n k (nI i) f = k 8 f' ∧ ∀ j, j < 8 → f' j = frA A j := by
  intro n
  induction n with
  | zero => intro i f h1 h2; omega
  | succ n ih =>
    intro i f hi hn hf
    rw [fX3_makePlan_8]
    by_cases c : i = 8
    · rw [if_pos ((e8_bx hi).mpr c)]
      subst c
      exact ⟨f, rfl, hf⟩
    · have h8 : i < 8 := by omega
      unfold fX0_freeIn
      rw [if_neg (fun z => c ((e8_bx hi).mp z)), e_room hC.2.2.2.2.1 h8, ob, e_loadOf hC.2.1, ob, ob, (load_le hA.2.1 (bx_nI h8)).2, sv_nI h8 (by omega), ob, nI_1]
      refine ih (i + 1) _ (by omega) (by omega) (fun j hj => ?_)
      by_cases e : j = i
      · subst e; rw [pk_us]; rfl
      · rw [pk_un e]; exact hf j (by omega)
theorem free8 {A : AS} {row : Nat → Int32} (hM : modA A row) (k : Int32 → (Nat → Int32) → Option (Int32 × Int32 × (Nat → Int32) × Int32 × (Nat → Int32))) : ∀ (n i : Nat) (f : Nat → Int32), i ≤ 8 → 8 < i + n → (∀ j, j < i → f j = frA A j) → ∃ f', fX8_plans_7 row n k (nI i) f = k 8 f' ∧ ∀ j, j < 8 → f' j = frA A j := by
  intro n
  induction n with
  | zero => intro i f h1 h2; omega
  | succ n ih =>
    intro i f hi hn hf
    rw [fX8_plans_7]
    by_cases c : i = 8
    · rw [if_pos ((e8_bx hi).mpr c)]
      subst c
      exact ⟨f, rfl, hf⟩
    · have h8 : i < 8 := by omega
      rw [if_neg (fun z => c ((e8_bx hi).mp z)), e8_room hM.2.2.2.1 h8, ob, e8_load hM.2.1, ob, sv_nI h8 (by omega), ob, nI_1]
      refine ih (i + 1) _ (by omega) (by omega) (fun j hj => ?_)
      by_cases e : j = i
      · subst e; rw [pk_us]; rfl
      · rw [pk_un e]; exact hf j (by omega)
/-- layings from x on -/
def layG (x b : Int) (P W : List Tr) : Prop := srt W ∧ ∀ w ∈ W, x ≤ w.2.1.toInt ∧ w.2.1.toInt ≤ w.2.2.toInt ∧ w.2.2.toInt ≤ b ∧ isBx w.1 ∧ ∀ p ∈ P, p.2.2.toInt < w.2.1.toInt ∨ w.2.2.toInt < p.2.1.toInt
theorem plan_loop {row : Nat → Int32} {S P : List Tr} (h : isS row S) (hp : isP row P) (hr : okR P) (hc : canon P) (hS : okR S) {s : Nat} (hs : s < S.length) {vg : Rg} {G : List Tr} (hvg : isL 41 vg G) (k7 : Int32 → (Nat → Int32) → Int32 → Rg → Option ((Nat → Int32) × Int32 × Rg × Rg)) (k8 : Int32 → Int32 → Int32 → (Nat → Int32) → Int32 → (Nat → Int32) → Option (Int32 × Int32 × (Nat → Int32) × Int32 × (Nat → Int32))) : ∀ (t dn : List Tr) (n7 n8 : Nat) (x gf gl : Int32) (V : List Tr) (v : Rg) (f f' g8 : Nat → Int32) (rem : Int32), G = dn ++ t → 1 ≤ (imax x (S[s]).2.1).toInt → (imax x (S[s]).2.1).toInt ≤ 2000000001 → gapsL (S[s]).2.2 (imax x (S[s]).2.1) P = t → t.length < n7 → t.length < n8 → (∀ j, j < 8 → 0 ≤ (f j).toInt ∧ (f j).toInt ≤ 2000000000) → same 8 f f' → isL 49 v V → isY g8 V → V.length ≤ dn.length + zc f 8 → ∃ (W : List Tr) (v' : Rg) (f1 f1' g8' : Nat → Int32) (rem' y gf' gl' : Int32), fX3_makePlan_46 vg n7 k7 (nI dn.length) f rem v = k7 (nI G.length) f1 rem' v' ∧ fX8_plans_42 row (nI s) n8 k8 x gf gl g8 (nI V.length) f' = k8 y gf' gl' g8' (nI (V ++ W).length) f1' ∧ isL 49 v' (V ++ W) ∧ isY g8' (V ++ W) ∧ (∀ j, j < 8 → 0 ≤ (f1 j).toInt ∧ (f1 j).toInt = (f j).toInt - loadZ (nI j) W) ∧ layG (imax x (S[s]).2.1).toInt (S[s]).2.2.toInt P W ∧ rem' = rem + sumI lenI t - sumI lenI W := by
  have hb := hS.i (List.getElem_mem hs)
  have hsr := canon_srt hr hc
  have hG41 := hvg.1
  intro t
  induction t with
  | nil =>
    intro dn n7 n8 x gf gl V v f f' g8 rem eG h0 h1 e hn7 hn8 hf hsf hv hg hV
    obtain ⟨n7, rfl⟩ : ∃ k, n7 = k + 1 := ⟨n7 - 1, by omega⟩
    obtain ⟨n8, rfl⟩ : ∃ k, n8 = k + 1 := ⟨n8 - 1, by omega⟩
    obtain ⟨a, c, ef⟩ := finds_nil h hp hr hc hs gf gl h0 h1 e
    rw [List.append_nil] at eG
    rw [fX3_makePlan_46, e_size hvg, ob, ← eG, if_pos (nI_le (Nat.le_refl _) (by omega)), fX8_plans_42, ef, ob, if_pos rfl]
    refine ⟨[], v, f, f', g8, rem, x, a, c, rfl, by rw [List.append_nil], by rw [List.append_nil]; exact hv, by rw [List.append_nil]; exact hg, fun j hj => ⟨(hf j hj).1, by rw [loadZ]; omega⟩, ⟨List.Pairwise.nil, fun w hw => absurd hw List.not_mem_nil⟩, ?_⟩
    show rem = rem + 0 - 0
    rw [Int32.add_zero, Int32.sub_zero]
  | cons q t ih =>
    intro dn n7 n8 x gf gl V v f f' g8 rem eG h0 h1 e hn7 hn8 hf hsf hv hg hV
    rw [List.length_cons] at hn7 hn8
    obtain ⟨n7, rfl⟩ : ∃ k, n7 = k + 1 := ⟨n7 - 1, by omega⟩
    obtain ⟨n8, rfl⟩ : ∃ k, n8 = k + 1 := ⟨n8 - 1, by omega⟩
    obtain ⟨ef, eq1, f1, f2, f3, et, b0, b1⟩ := finds_cons h hp hr hc hS hs gf gl h0 h1 e
    have hfree := gaps_free hr hsr (imax x (S[s]).2.1) h0 h1 q (by rw [e]; exact List.mem_cons_self)
    have hdl : dn.length < G.length := by rw [eG, List.length_append, List.length_cons]; omega
    have eq : G[dn.length] = q := by
      simp only [eG]
      rw [List.getElem_append_right (Nat.le_refl _)]
      simp
    have em : 1 ≤ (q.2.2 - q.2.1 + 1).toInt := by
      rw [toI_1, toI_sub] <;> (try rw [toI_sub]) <;> omega
    obtain ⟨r, _, e8, _⟩ := best_pair hsf em
    obtain ⟨W1, v1, f1, f1', g81, y3, y4, t', p1, p2, p3, p4, p5, p6, p7, p8, p9, p10, p11⟩ := place_sim (b := q.2.2) (by omega) (gd := dn.length) (by omega) (fun x3_5 x4_5 g_free_5 v_layings_5 => some (g_free_5, (rem + ((q.2.2 - x3_5) + 1)), v_layings_5)) (fun x3_70 x4_70 g_laying_70 g_layings_70 g_free_70 => fX8_plans_42 row (nI s) n8 k8 (q.2.2 + 1) q.2.1 q.2.2 g_laying_70 g_layings_70 g_free_70) FU q.2.1 r 0 V v f f' g8 (by omega) (by omega) hf hsf hv hg hV (Nat.zero_le _) (by unfold FU; omega) (fun _ => e8)
    rw [nI_0] at p1
    have e7 : fX3_place f rem v q.2.1 q.2.2 = some (f1, rem + (q.2.2 - y3 + 1), v1) := by
      unfold fX3_place
      exact p1
    have ed : (dn ++ [q]).length = dn.length + 1 := by rw [List.length_append, List.length_singleton]
    have hf1 : ∀ j, j < 8 → 0 ≤ (f1 j).toInt ∧ (f1 j).toInt ≤ 2000000000 := by
      intro j hj
      have a := p6 j hj
      have b := hf j hj
      have hW1 : okR W1 := okR_i (fun w hw => by have := p10.2 w hw; omega)
      have := loadZ_nn (x := nI j) hW1
      omega
    obtain ⟨W2, v2, f2, f2', g82, rem2, y, gf2, gl2, q1, q2, q3, q4, q5, q6, q7⟩ := ih (dn ++ [q]) n7 n8 (q.2.2 + 1) q.2.1 q.2.2 (V ++ W1) v1 f1 f1' g81 (rem + (q.2.2 - y3 + 1)) (by rw [eG, List.append_assoc]; rfl) b0 b1 et (by omega) (by omega) hf1 p5 p3 p4 (by rw [ed]; omega)
    rw [ed] at q1
    have hq1 : (q.2.2 + 1).toInt = q.2.2.toInt + 1 := toI_1 (by omega) (by omega)
    have him : q.2.2.toInt < (imax (q.2.2 + 1) (S[s]).2.1).toInt := by rw [imax_i, hq1]; omega
    rw [fX3_makePlan_46, e_size hvg, ob, if_neg (nI_ge hdl (by omega)), e_firstOf_in hvg hdl, ob, e_lastOf_in hvg hdl, ob, eq, e7, ob, nI_1, fX8_plans_42, ef, ob, if_neg (show ¬ (1 : Int32) = 0 by decide), e8, ob]
    rw [List.append_assoc] at q2 q3 q4
    refine ⟨W1 ++ W2, v2, f2, f2', g82, rem2, y, gf2, gl2, q1, p2.trans q2, q3, q4, fun j hj => ⟨(q5 j hj).1, ?_⟩, ⟨List.pairwise_append.mpr ⟨p10.1, q6.1, fun w hw z hz => ?_⟩, fun w hw => ?_⟩, ?_⟩
    · rw [(q5 j hj).2, (p6 j hj).2, loadZ_app]; omega
    · have a := p10.2 w hw
      have b := q6.2 z hz
      omega
    · rcases List.mem_append.mp hw with z | z
      · have a := p10.2 w z
        refine ⟨by omega, a.2.1, by omega, a.2.2.2, fun p hp => ?_⟩
        rcases hfree.2 p hp with y | y
        · left; omega
        · right; omega
      · have a := q6.2 w z
        exact ⟨by omega, a.2⟩
    · rw [q7, sumI_app, p11, sumI]
      show rem + (q.2.2 - y3 + 1) + sumI lenI t - sumI lenI W2 = rem + (q.2.2 - q.2.1 + 1 + sumI lenI t) - (y3 - q.2.1 + sumI lenI W2)
      grind
def layP (A : AS) (V : List Tr) : Prop := srt V ∧ (∀ w ∈ V, rgI w.2.1 w.2.2 ∧ isBx w.1 ∧ ∀ p ∈ A.2.1, p.2.2.toInt < w.2.1.toInt ∨ w.2.2.toInt < p.2.1.toInt) ∧ ∀ j, j < 8 → loadZ (nI j) A.2.1 + loadZ (nI j) V ≤ (A.2.2.2.1 j).toInt
theorem anyZ2 {P : List Tr} (hP : okP P) {a b : Int32} : (sumI (ov8 (-1) a b) P).toInt = sumZ (fun q => max 0 (min b.toInt q.2.2.toInt - max a.toInt q.2.1.toInt + 1)) P := by
  have e : ∀ q ∈ P, (ov8 (-1) a b q).toInt = max 0 (min b.toInt q.2.2.toInt - max a.toInt q.2.1.toInt + 1) := by
    intro q hq
    have h1 := hP.1.i hq
    unfold ov8
    rw [if_pos (Or.inl rfl), cm_i h1.1 h1.2.2]
  have h1 : sumZ (fun q => (ov8 (-1) a b q).toInt) P ≤ sumZ lenZ P := by
    refine sumZ_le (fun q hq => ?_)
    have h1 := hP.1.i hq
    rw [e q hq]
    unfold lenZ
    omega
  have h2 := lenZ_le hP.1 hP.2.1
  have nn : ∀ q ∈ P, 0 ≤ (ov8 (-1) a b q).toInt := fun q hq => by rw [e q hq]; omega
  rw [sumI_Z nn (by omega)]
  exact sumZ_congr e
theorem gaps_rg {b : Int32} (hb : b.toInt ≤ 2000000000) {l : List Tr} (hr : okR l) (hs : srt l) : ∀ x : Int32, 1 ≤ x.toInt → x.toInt ≤ 2000000001 → ∀ q ∈ gapsL b x l, 1 ≤ q.2.1.toInt ∧ q.2.1.toInt ≤ q.2.2.toInt ∧ q.2.2.toInt ≤ 2000000000 := by
  induction l with
  | nil =>
    intro x h0 h1 q hq
    rw [gapsL] at hq
    by_cases c : b < x
    · rw [if_pos c] at hq; exact absurd hq List.not_mem_nil
    · rw [if_neg c, List.mem_singleton] at hq
      rw [i32lt] at c
      subst hq
      exact ⟨h0, by show x.toInt ≤ b.toInt; omega, hb⟩
  | cons p l ih =>
    intro x h0 h1 q hq
    have hp := hr.h
    have ih := ih hr.t (List.pairwise_cons.mp hs).2
    have ep : (p.2.2 + 1).toInt = p.2.2.toInt + 1 := toI_1 (by omega) (by omega)
    have ef : (p.2.1 - 1).toInt = p.2.1.toInt - 1 := toI_m1 (by omega) (by omega)
    rw [gapsL] at hq
    by_cases c : ¬ b < p.2.1 ∧ ¬ p.2.2 < x
    · rw [if_pos c] at hq
      by_cases c3 : p.2.1 ≤ x
      · rw [if_pos c3] at hq
        exact ih _ (by omega) (by omega) q hq
      · rw [if_neg c3] at hq
        rw [i32le] at c3
        rcases List.mem_cons.mp hq with e | e
        · subst e
          exact ⟨h0, by show x.toInt ≤ (p.2.1 - 1).toInt; omega, by show (p.2.1 - 1).toInt ≤ 2000000000; omega⟩
        · exact ih _ (by omega) (by omega) q e
    · rw [if_neg c] at hq
      exact ih x h0 h1 q hq
theorem gaps_total {P : List Tr} (hP : okP P) {a b : Int32} (hrg : rgI a b) : sumI lenI (gapsL b a P) = b - a + 1 - sumI (ov8 (-1) a b) P := by
  obtain ⟨r1, r2, r3⟩ := hrg
  have hs := canon_srt hP.1 hP.2.1
  have hsum := gaps_sum r3 hP.1 hs a r1 (by omega)
  have e2 := anyZ2 hP (a := a) (b := b)
  have h0 := anyZ hP (a := a) (b := b)
  have hrg := gaps_rg r3 hP.1 hs a r1 (by omega)
  have el : ∀ q ∈ gapsL b a P, (lenI q).toInt = lenZ q := by
    intro q hq
    have := hrg q hq
    unfold lenI lenZ
    rw [toI_1, toI_sub] <;> (try rw [toI_sub]) <;> omega
  have nn : ∀ q ∈ gapsL b a P, 0 ≤ (lenI q).toInt := by
    intro q hq
    have := hrg q hq
    rw [el q hq]
    unfold lenZ
    omega
  have es : sumZ (fun q => (lenI q).toInt) (gapsL b a P) = sumZ lenZ (gapsL b a P) := sumZ_congr el
  have e3 := sumI_Z nn (by rw [es]; omega)
  have nn2 := sumZ_nn nn
  rw [es] at nn2
  rw [i32eq, e3, es, hsum, toI_sub, toI_1, toI_sub, e2] <;> (try rw [toI_1]) <;> (try rw [toI_sub]) <;> (try rw [e2]) <;> omega
theorem plan_sim {D : Int} {A : AS} {rooms md : Nat → Int32} {day : Int32} {series pieces moves : Rg} {row : Nat → Int32} (hA : okA D A) (hC : clsA A rooms md day series pieces moves) (hM : modA A row) {vg vl : Rg} (hZ : szL 41 vg ∧ szL 49 vl) {s : Nat} (hs : s < A.1.length) (fr0 : Nat → Int32) (rem0 gf0 gl0 : Int32) (ly0 : Nat → Int32) (lys0 : Int32) (f80 : Nat → Int32) : ∃ (f7 : Nat → Int32) (rem : Int32) (vg' vl' : Rg) (gf gl : Int32) (g8 f8 : Nat → Int32) (V : List Tr), fX3_makePlan fr0 rem0 vg vl rooms series pieces (nI s) = some (f7, rem, vg', vl') ∧ fX8_plans row gf0 gl0 ly0 lys0 f80 (nI s) = some (gf, gl, g8, nI V.length, f8) ∧ szL 41 vg' ∧ isL 49 vl' V ∧ isY g8 V ∧ rem = ((A.1[s]).2.2 - (A.1[s]).2.1 + 1 - sumI (ov8 (-1) (A.1[s]).2.1 (A.1[s]).2.2) A.2.1) - sumI lenI V ∧ layP A V := by
  have hP := hA.2.1
  have hb := hA.1.1.i (List.getElem_mem hs)
  have h40 := hM.2.1.1
  have ei := imax_1 hb.1
  obtain ⟨vg', eg, hvg⟩ := e_findGaps hZ.1 hC.1 hC.2.1 h40 hs
  obtain ⟨vl1, ec, hvl1⟩ := cutS (by decide) hZ.2
  have hGl := @gaps_len (A.1[s]).2.2 A.2.1 (A.1[s]).2.1
  obtain ⟨f, ef, hf⟩ := free7 hA hC (fun x3_8 g_free_8 => (fX4_cutTo 49 vl 0).bind fun r36 => fX3_makePlan_46 vg' FU (fun x3_46 g_free_46 g_remaining_46 v_layings_46 => some (g_free_46, g_remaining_46, vg', v_layings_46)) 0 g_free_8 0 r36) FU 0 fr0 (by omega) (by unfold FU; omega) (fun j hj => absurd hj (Nat.not_lt_zero j))
  obtain ⟨f', ef', hf'⟩ := free8 hM (fun x2_7 g_free_7 => fX8_plans_42 row (nI s) FU (fun x2_42 g_gapFirst_42 g_gapLast_42 g_laying_42 g_layings_42 g_free_42 => some (g_gapFirst_42, g_gapLast_42, g_laying_42, g_layings_42, g_free_42)) 1 gf0 gl0 ly0 0 g_free_7) FU 0 f80 (by omega) (by unfold FU; omega) (fun j hj => absurd hj (Nat.not_lt_zero j))
  rw [nI_0] at ef ef'
  obtain ⟨W, v', f1, f1', g8', rem', y, gf', gl', q1, q2, q3, q4, q5, q6, q7⟩ := plan_loop hM.1 hM.2.1 hP.1 hP.2.1 hA.1.1 hs hvg (fun x3_46 g_free_46 g_remaining_46 v_layings_46 => some (g_free_46, g_remaining_46, vg', v_layings_46)) (fun x2_42 g_gapFirst_42 g_gapLast_42 g_laying_42 g_layings_42 g_free_42 => some (g_gapFirst_42, g_gapLast_42, g_laying_42, g_layings_42, g_free_42)) (gapsL (A.1[s]).2.2 (A.1[s]).2.1 A.2.1) [] FU FU 1 gf0 gl0 [] vl1 f f' ly0 0 rfl (by rw [ei]; omega) (by rw [ei]; omega) (by rw [ei]) (by unfold FU; omega) (by unfold FU; omega) (fun j hj => by rw [hf j hj]; exact (frA_i hA hj).2) (fun j hj => by rw [hf j hj, hf' j hj]) hvl1 (fun i hi => absurd hi (Nat.not_lt_zero i)) (Nat.zero_le _)
  rw [List.nil_append] at q2 q3 q4
  rw [List.length_nil, nI_0] at q1 q2
  refine ⟨f1, rem', vg', v', gf', gl', g8', f1', W, ?_, ?_, hvg.sz, q3, q4, ?_, q6.1, fun w hw => ?_, fun j hj => ?_⟩
  · unfold fX3_makePlan
    rw [eg, ob, ef, ec, ob]
    exact q1
  · unfold fX8_plans
    rw [ef']
    exact q2
  · rw [q7, Int32.zero_add, gaps_total hP hb]
  · have a := q6.2 w hw
    rw [ei] at a
    exact ⟨⟨by omega, a.2.1, by omega⟩, a.2.2.2.1, a.2.2.2.2⟩
  · have a := q5 j hj
    have b := (frA_i hA hj).1
    rw [hf j hj] at a
    omega
theorem isL.sz2 {N : Nat} {v : Rg} {l : List Tr} (h : isL N v l) : szL N v := h.sz
theorem sim_plan {D : Int} : S_plan (RR D) (RR D) := by
  intro c_archive_rooms c_archive_moveDays c_archive_day c_archive_series c_archive_pieces c_archive_trial c_archive_moves c_history_slots c_history_top c_history_steps c_planner_free c_planner_remaining c_planner_gaps c_planner_layings c_rows c_text_bytes c_text_verbs c_text_numbers c_text_length c_text_commandCount c_text_at c_page_signs c_page_length c_page_latest c_draft_signs c_draft_length c_draft_latest d_row d_undos d_list d_listed d_paper d_papers d_text d_length d_beside d_besides d_gapFirst d_gapLast d_laying d_layings d_free d_first d_behind d_numbers d_clauses d_words d_sorts d_shifted d_saved d_draft d_drafts x1 x2 x3 h
  have hR : RR D (c_archive_rooms, c_archive_moveDays, c_archive_day, c_archive_series, c_archive_pieces, c_archive_trial, c_archive_moves, c_history_slots, c_history_top, c_history_steps, c_planner_free, c_planner_remaining, c_planner_gaps, c_planner_layings, c_rows, c_text_bytes, c_text_verbs, c_text_numbers, c_text_length, c_text_commandCount, c_text_at, c_page_signs, c_page_length, c_page_latest, c_draft_signs, c_draft_length, c_draft_latest) (d_row, d_undos, d_list, d_listed, d_paper, d_papers, d_text, d_length, d_beside, d_besides, d_gapFirst, d_gapLast, d_laying, d_layings, d_free, d_first, d_behind, d_numbers, d_clauses, d_words, d_sorts, d_shifted, d_saved, d_draft, d_drafts) := h
  have h : R0 D c_archive_rooms c_archive_moveDays c_archive_day c_archive_series c_archive_pieces c_archive_moves c_history_slots c_history_top c_history_steps c_planner_gaps c_planner_layings c_rows c_text_bytes c_text_length c_page_signs c_page_length d_row d_undos d_list d_listed d_paper d_papers d_text d_length d_words d_sorts := h
  obtain ⟨⟨A, hs, hA, hC, hM, hH⟩, hZ, hrest⟩ := h
  have hleS := hM.1.1
  unfold fX7_plan fX8_plan fX3_layings
  rw [e8_isSeries hM.1, ob, i01]
  rcases ixc x1 A.1.length (by omega) with c | ⟨j, hj, rfl⟩
  · rw [e7_isSeries_out hC.1 c, ob, if_pos rfl, if_neg (show ¬ ¬ (x1 < 0 ∨ nI A.1.length ≤ x1) from fun z => z c)]
    exact ⟨_, _, _, _, _, _, _, _, _, _, rfl, rfl, hR⟩
  · obtain ⟨f7, rem, vg', vl', gf, gl, g8, f8, V, e7, e8, hvg, hvl, hy, hrem, hlay⟩ := plan_sim hA hC hM hZ hj c_planner_free c_planner_remaining d_gapFirst d_gapLast d_laying d_layings d_free
    have hV49 := hvl.1
    have fin : R0 D c_archive_rooms c_archive_moveDays c_archive_day c_archive_series c_archive_pieces c_archive_moves c_history_slots c_history_top c_history_steps vg' vl' c_rows c_text_bytes c_text_length c_page_signs c_page_length d_row d_undos d_list d_listed d_paper d_papers d_text d_length d_words d_sorts := ⟨⟨A, hs, hA, hC, hM, hH⟩, ⟨hvg, hvl.sz⟩, hrest⟩
    rw [e7_isSeries_in hC.1 hj, ob, if_neg (show ¬ (1 : Int32) = 0 by decide), if_pos (inn hj (by omega)), e7, e8]
    simp only [ob]
    by_cases c1 : x2 < -1
    · rw [if_pos c1, if_pos c1]
      exact ⟨_, _, _, _, _, _, _, _, _, _, rfl, rfl, hR⟩
    · rw [if_neg c1, if_neg c1]
      by_cases c2 : x2 = -1
      · rw [if_pos c2, if_pos c2, if_pos c2, if_pos c2, e_size hvl, ob]
        exact ⟨_, _, _, _, _, _, _, _, _, _, rfl, rfl, fin⟩
      · rw [if_neg c2, if_neg c2, if_neg c2, if_neg c2, zero64, show (2 : Int64) = (2 : Int32).toInt64 from by decide, e8_in32, ob, i01]
        have c3 : ¬ x2 < 0 := by
          rw [i32lt] at c1 ⊢
          rw [i32eq] at c2
          rw [tm1] at c1 c2
          rw [t0]
          omega
        obtain ⟨K, hK, rfl⟩ := nI_of c3
        by_cases c4 : x3 < 0
        · rw [if_pos c4, if_neg (fun z => by have := z.1; rw [i32le] at this; rw [i32lt] at c4; omega)]
          exact ⟨_, _, _, _, _, _, _, _, _, _, rfl, rfl, hR⟩
        · rw [if_neg c4]
          by_cases c5 : x3 ≤ 2
          · rw [if_pos c5, if_pos ⟨by rw [i32le]; rw [i32lt] at c4; omega, c5⟩]
            by_cases c6 : K < V.length
            · rw [e_has_in hvl c6, ob, if_neg (show ¬ (1 : Int32) = 0 by decide), if_neg (nI_ge c6 (by omega))]
              have hc := hy K c6
              unfold fX7_endOrMark
              rw [e_firstOf_in hvl c6, e_lastOf_in hvl c6, e_markOf_in hvl c6, m3]
              simp only [ob]
              by_cases d0 : x3 = 0
              · subst d0
                rw [if_pos rfl, ob, Int32.add_zero, ld_nI (by omega) (by omega), ob, hc.1]
                exact ⟨_, _, _, _, _, _, _, _, _, _, rfl, rfl, fin⟩
              · by_cases d1 : x3 = 1
                · subst d1
                  rw [if_neg d0, if_pos rfl, ob, nI_1, ld_nI (by omega) (by omega), ob, hc.2.1]
                  exact ⟨_, _, _, _, _, _, _, _, _, _, rfl, rfl, fin⟩
                · have d2 : x3 = 2 := by
                    rw [i32eq] at d0 d1 ⊢
                    rw [i32le] at c5
                    rw [i32lt] at c4
                    rw [show (2 : Int32).toInt = 2 from rfl] at c5 ⊢
                    rw [t0] at c4 d0
                    rw [t1] at d1
                    omega
                  subst d2
                  rw [if_neg d0, if_neg d1, if_pos rfl, ob, show nI (3 * K) + 2 = nI (3 * K + 2) from nI_add _ 2, ld_nI (by omega) (by omega), ob, hc.2.2]
                  exact ⟨_, _, _, _, _, _, _, _, _, _, rfl, rfl, fin⟩
            · rw [e_has_out hvl (Or.inr (nI_le (by omega) (by omega))), ob, if_pos rfl, if_pos (nI_le (by omega) (by omega))]
              exact ⟨_, _, _, _, _, _, _, _, _, _, rfl, rfl, fin⟩
          · rw [if_neg c5, if_neg (fun z => c5 z.2)]
            exact ⟨_, _, _, _, _, _, _, _, _, _, rfl, rfl, hR⟩
theorem left48 {g : Nat → Int32} {V : List Tr} (hV : V.length ≤ 49) (hy : isY g V) (k : Int32 → Int32 → Option (Int32 × Int32 × Int32 × (Nat → Int32) × Int32 × (Nat → Int32))) : ∀ (n i : Nat) (acc : Int32), i ≤ V.length → V.length < i + n → fX8_left_48 g (nI V.length) n k acc (nI i) = k (acc - sumI lenI (V.drop i)) (nI V.length) := by
  intro n
  induction n with
  | zero => intro i acc h1 h2; omega
  | succ n ih =>
    intro i acc hi hn
    rw [fX8_left_48]
    by_cases c : i = V.length
    · rw [if_pos ((nI_geI (by omega) (by omega) hi).mpr c)]
      subst c
      rw [List.drop_length, sumI, Int32.sub_zero]
    · have hlt : i < V.length := by omega
      have hc := hy i hlt
      rw [if_neg (fun z => c ((nI_geI (by omega) (by omega) hi).mp z)), m3, nI_1, nI_1, ld_nI (by omega) (by omega), ob, ld_nI (by omega) (by omega), ob, ih (i + 1) _ (by omega) (by omega), hc.1, hc.2.1, List.drop_eq_getElem_cons hlt, sumI]
      congr 1
      unfold lenI
      grind
theorem sim_left {D : Int} : S_left (RR D) (RR D) := by
  intro c_archive_rooms c_archive_moveDays c_archive_day c_archive_series c_archive_pieces c_archive_trial c_archive_moves c_history_slots c_history_top c_history_steps c_planner_free c_planner_remaining c_planner_gaps c_planner_layings c_rows c_text_bytes c_text_verbs c_text_numbers c_text_length c_text_commandCount c_text_at c_page_signs c_page_length c_page_latest c_draft_signs c_draft_length c_draft_latest d_row d_undos d_list d_listed d_paper d_papers d_text d_length d_beside d_besides d_gapFirst d_gapLast d_laying d_layings d_free d_first d_behind d_numbers d_clauses d_words d_sorts d_shifted d_saved d_draft d_drafts x1 h
  have hR : RR D (c_archive_rooms, c_archive_moveDays, c_archive_day, c_archive_series, c_archive_pieces, c_archive_trial, c_archive_moves, c_history_slots, c_history_top, c_history_steps, c_planner_free, c_planner_remaining, c_planner_gaps, c_planner_layings, c_rows, c_text_bytes, c_text_verbs, c_text_numbers, c_text_length, c_text_commandCount, c_text_at, c_page_signs, c_page_length, c_page_latest, c_draft_signs, c_draft_length, c_draft_latest) (d_row, d_undos, d_list, d_listed, d_paper, d_papers, d_text, d_length, d_beside, d_besides, d_gapFirst, d_gapLast, d_laying, d_layings, d_free, d_first, d_behind, d_numbers, d_clauses, d_words, d_sorts, d_shifted, d_saved, d_draft, d_drafts) := h
  have h : R0 D c_archive_rooms c_archive_moveDays c_archive_day c_archive_series c_archive_pieces c_archive_moves c_history_slots c_history_top c_history_steps c_planner_gaps c_planner_layings c_rows c_text_bytes c_text_length c_page_signs c_page_length d_row d_undos d_list d_listed d_paper d_papers d_text d_length d_words d_sorts := h
  obtain ⟨⟨A, hs, hA, hC, hM, hH⟩, hZ, hrest⟩ := h
  have hleS := hM.1.1
  unfold fX7_left fX8_left fX3_remaining
  rw [e8_isSeries hM.1, ob, i01]
  rcases ixc x1 A.1.length (by omega) with c | ⟨j, hj, rfl⟩
  · rw [e7_isSeries_out hC.1 c, ob, if_pos rfl, if_neg (show ¬ ¬ (x1 < 0 ∨ nI A.1.length ≤ x1) from fun z => z c)]
    exact ⟨_, _, _, _, _, _, _, _, _, _, rfl, rfl, hR⟩
  · obtain ⟨f7, rem, vg', vl', gf, gl, g8, f8, V, e7, e8, hvg, hvl, hy, hrem, hlay⟩ := plan_sim hA hC hM hZ hj c_planner_free c_planner_remaining d_gapFirst d_gapLast d_laying d_layings d_free
    have hV49 := hvl.1
    have fin : R0 D c_archive_rooms c_archive_moveDays c_archive_day c_archive_series c_archive_pieces c_archive_moves c_history_slots c_history_top c_history_steps vg' vl' c_rows c_text_bytes c_text_length c_page_signs c_page_length d_row d_undos d_list d_listed d_paper d_papers d_text d_length d_words d_sorts := ⟨⟨A, hs, hA, hC, hM, hH⟩, ⟨hvg, hvl.sz⟩, hrest⟩
    have hl := fun k acc => left48 hV49 hy k FU 0 acc (Nat.zero_le _) (FU_gt (by omega))
    simp only [nI_0, List.drop_zero] at hl
    rw [e7_isSeries_in hC.1 hj, ob, if_neg (show ¬ (1 : Int32) = 0 by decide), if_pos (inn hj (by omega)), e7, e8, ob, ob, ob, hM.1.f hj, hM.1.l hj, ob, ob, ob, ob, e8_inBox hM.2.1, ob]
    refine ⟨rem, _, _, _, _, gf, gl, g8, nI V.length, f8, rfl, ?_, fin⟩
    refine (hl _ _).trans ?_
    rw [hrem]
