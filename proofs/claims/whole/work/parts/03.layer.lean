/-! my own layer: rows as chunks, contracts out of pure functions -/
abbrev Rg : Type := (Nat → Int32) × (Nat → Int32) × (Nat → Int32) × Int32
/-- out of fuel: no loop of the program takes so many turns -/
def FU : Nat := 6000
def ld (N : Nat) (f : Nat → Int32) (i : Int32) : Option Int32 := if i < 0 ∨ N ≤ i.toNatClampNeg then none else some (f i.toNatClampNeg)
def sv (N : Nat) (f : Nat → Int32) (i x : Int32) : Option (Nat → Int32) := if i < 0 ∨ N ≤ i.toNatClampNeg then none else some (upd f i.toNatClampNeg x)
def dv (x y : Int32) : Option Int32 := if y = 0 then none else some (x / y)
def rmd (x y : Int32) : Option Int32 := if y = 0 then none else some (x - x / y * y)
/-- a boolean's answer -/
def bz (v : Int32) : Option Int32 := if v = 0 ∨ v = 1 then some v else none
/-- System.arraycopy of ints -/
def cpy (n0 : Nat) (f : Nat → Int32) (sp : Int32) (n1 : Nat) (g : Nat → Int32) (dp n : Int32) : Option (Nat → Int32) :=
  if ¬ sp < 0 ∧ ¬ dp < 0 ∧ ¬ n < 0 ∧ sp.toNatClampNeg + n.toNatClampNeg ≤ n0 ∧ dp.toNatClampNeg + n.toNatClampNeg ≤ n1 then some (va_cpy f g sp.toNatClampNeg dp.toNatClampNeg n.toNatClampNeg) else none
def iush (x y : Int32) : Int32 := (x.toUInt32 >>> (y.toUInt32 &&& Int32.toUInt32 31)).toInt32
def imax (x y : Int32) : Int32 := if x < y then y else x
def imin (x y : Int32) : Int32 := if y < x then y else x
theorem ld_v {N : Nat} {f : Nat → Int32} {i y : Int32} (h : ld N f i = some y) : vp_in i N ∧ y = f i.toNatClampNeg := by
  unfold ld at h
  by_cases c : i < 0 ∨ N ≤ i.toNatClampNeg
  · rw [if_pos c] at h; cases h
  · rw [if_neg c] at h; cases h; exact ⟨c, rfl⟩
theorem sv_v {N : Nat} {f g : Nat → Int32} {i x : Int32} (h : sv N f i x = some g) : vp_in i N ∧ g = upd f i.toNatClampNeg x := by
  unfold sv at h
  by_cases c : i < 0 ∨ N ≤ i.toNatClampNeg
  · rw [if_pos c] at h; cases h
  · rw [if_neg c] at h; cases h; exact ⟨c, rfl⟩
theorem dv_v {x y z : Int32} (h : dv x y = some z) : ¬ y = 0 ∧ z = x / y := by
  unfold dv at h
  by_cases c : y = 0
  · rw [if_pos c] at h; cases h
  · rw [if_neg c] at h; cases h; exact ⟨c, rfl⟩
theorem rmd_v {x y z : Int32} (h : rmd x y = some z) : ¬ y = 0 ∧ z = x - x / y * y := by
  unfold rmd at h
  by_cases c : y = 0
  · rw [if_pos c] at h; cases h
  · rw [if_neg c] at h; cases h; exact ⟨c, rfl⟩
theorem bz_v {v z : Int32} (h : bz v = some z) : narrow .boolean (.int v) = .int v ∧ z = v := by
  unfold bz at h
  by_cases c : v = 0 ∨ v = 1
  · rw [if_pos c] at h
    cases h
    refine ⟨?_, rfl⟩
    rcases c with rfl | rfl <;> rfl
  · rw [if_neg c] at h; cases h
theorem cpy_v {n0 : Nat} {f : Nat → Int32} {sp : Int32} {n1 : Nat} {g g' : Nat → Int32} {dp n : Int32} (h : cpy n0 f sp n1 g dp n = some g') : (¬ sp < 0 ∧ ¬ dp < 0 ∧ ¬ n < 0 ∧ sp.toNatClampNeg + n.toNatClampNeg ≤ n0 ∧ dp.toNatClampNeg + n.toNatClampNeg ≤ n1) ∧ g' = va_cpy f g sp.toNatClampNeg dp.toNatClampNeg n.toNatClampNeg := by
  unfold cpy at h
  split at h
  · rename_i c; cases h; exact ⟨c, rfl⟩
  · cases h
theorem br_t' {c : Prop} {α : Type} {_ : Decidable c} {x y : Option α} {r : α} (h : (if c then x else y) = some r) (hc : c) : x = some r := by rw [if_pos hc] at h; exact h
theorem br_f' {c : Prop} {α : Type} {_ : Decidable c} {x y : Option α} {r : α} (h : (if c then x else y) = some r) (hc : ¬ c) : y = some r := by rw [if_neg hc] at h; exact h
theorem ti_ne {x y : Int32} {i : Int} (h : ¬ x = y) (hi : y.toInt = i) : x.toInt ≠ i := fun e => h (Int32.toInt_inj.mp (e.trans hi.symm))
theorem bd {α β : Type} {o : Option α} {g : α → Option β} {r : β} (h : o.bind g = some r) : ∃ a, o = some a ∧ g a = some r := Option.bind_eq_some_iff.mp h
/-! worlds as lists of chunks -/
theorem cs_mem {ws : va_W} {D : va_G} {cl : List vw_C} {H : Heap} : va_P D cl ws H ↔ ∀ q ∈ ws, va_at D cl q H :=
  ⟨fun h q hq => by obtain ⟨k, hk⟩ := List.getElem?_of_mem hq; exact h k q hk, fun h k q hk => h q (List.mem_of_getElem? hk)⟩
theorem cs_nd {ws : va_W} {A : Nat → Prop} : va_D A ws ↔ (ws.map Prod.fst).Nodup ∧ ∀ q ∈ ws, A q.1 := by
  constructor
  · intro h
    refine ⟨?_, fun q hq => by obtain ⟨k, hk⟩ := List.getElem?_of_mem hq; exact h.2 k q hk⟩
    rw [List.Nodup, List.pairwise_iff_getElem]
    intro i j hi hj hij he
    rw [List.length_map] at hi hj
    simp only [List.getElem_map] at he
    exact absurd (h.1 i j _ _ (List.getElem?_eq_getElem hi) (List.getElem?_eq_getElem hj) he) (by omega)
  · intro h
    refine ⟨fun i j p q hp hq hpq => ?_, fun k q hk => h.2 q (List.mem_of_getElem? hk)⟩
    obtain ⟨hi, rfl⟩ := List.getElem?_eq_some_iff.mp hp
    obtain ⟨hj, rfl⟩ := List.getElem?_eq_some_iff.mp hq
    have h1 := h.1
    rw [List.Nodup, List.pairwise_iff_getElem] at h1
    rcases Nat.lt_trichotomy i j with c | c | c
    · have h2 := h1 i j (by rw [List.length_map]; exact hi) (by rw [List.length_map]; exact hj) c
      simp only [List.getElem_map] at h2
      exact absurd hpq h2
    · exact c
    · have h2 := h1 j i (by rw [List.length_map]; exact hj) (by rw [List.length_map]; exact hi) c
      simp only [List.getElem_map] at h2
      exact absurd hpq.symm h2
theorem cs_pick {α : Type} {cs ds : List α} {is : List Nat} (h : is.map (fun i => cs[i]?) = ds.map some) (hp : is.Perm (List.range cs.length)) : ds.Perm cs := by
  have h1 : (is.filterMap (fun i => cs[i]?)).Perm ((List.range cs.length).filterMap (fun i => cs[i]?)) := hp.filterMap _
  have h2 : is.filterMap (fun i => cs[i]?) = ds := by
    clear h1 hp
    induction is generalizing ds with
    | nil => cases ds with
      | nil => rfl
      | cons d ds => cases h
    | cons i is ih => cases ds with
      | nil => cases h
      | cons d ds =>
        simp only [List.map_cons, List.cons.injEq] at h
        rw [List.filterMap_cons, h.1]
        simp only
        rw [ih h.2]
  have h3 : (List.range cs.length).filterMap (fun i => cs[i]?) = cs := by
    clear h1 h2 h hp
    have : ∀ (pre : List α) (xs : List α), (List.range' pre.length xs.length).filterMap (fun i => (pre ++ xs)[i]?) = xs := by
      intro pre xs
      induction xs generalizing pre with
      | nil => rfl
      | cons x xs ih =>
        rw [List.length_cons, List.range'_succ, List.filterMap_cons]
        have e : (pre ++ x :: xs)[pre.length]? = some x := by simp
        rw [e]
        simp only
        have := ih (pre ++ [x])
        rw [List.length_append, List.append_assoc] at this
        simp only [List.length_cons, List.length_nil, List.cons_append, List.nil_append] at this
        rw [this]
    have := this [] cs
    rw [List.range_eq_range']
    simpa using this
  rw [h2, h3] at h1
  exact h1
theorem cs_P {D : va_G} {cl : List vw_C} {H : Heap} {a b : va_W} (hp : a.Perm b) (h : va_P D cl a H) : va_P D cl b H := cs_mem.mpr (fun q hq => cs_mem.mp h q (hp.mem_iff.mpr hq))
theorem cs_Dp {A : Nat → Prop} {a b : va_W} (hp : a.Perm b) (h : va_D A a) : va_D A b := by
  obtain ⟨h1, h2⟩ := cs_nd.mp h
  exact cs_nd.mpr ⟨(hp.map Prod.fst).nodup_iff.mp h1, fun q hq => h2 q (hp.mem_iff.mpr hq)⟩
def Wd (D : va_G) (A : Nat → Prop) (H0 H : Heap) (locs : List Loc) (cs : List va_W) : Prop := va_P D vwCl cs.flatten H ∧ va_D A cs.flatten ∧ va_S A H0 H locs
theorem cs_rs {α : Type} {cs : List α} {isC isR : List Nat} (hp : (isC ++ isR).isPerm (List.range cs.length) = true) : isR.map (fun i => cs[i]?) = (isR.filterMap (fun i => cs[i]?)).map some := by
  have hlt : ∀ i ∈ isR, i < cs.length := fun i hi => List.mem_range.mp ((List.isPerm_iff.mp hp).mem_iff.mp (List.mem_append_right _ hi))
  clear hp
  induction isR with
  | nil => rfl
  | cons i is ih =>
    have h1 := hlt i List.mem_cons_self
    rw [List.map_cons, List.filterMap_cons, List.getElem?_eq_getElem h1]
    simp only [List.map_cons]
    rw [ih (fun j hj => hlt j (List.mem_cons_of_mem _ hj))]
theorem cs_split {D : va_G} {A : Nat → Prop} {H0 H : Heap} {locs : List Loc} {cs ds : List va_W} (hw : Wd D A H0 H locs cs) (isC isR : List Nat) (hp : (isC ++ isR).isPerm (List.range cs.length) = true) (h : isC.map (fun i => cs[i]?) = ds.map some) : va_P D vwCl (ds.flatten ++ (isR.filterMap (fun i => cs[i]?)).flatten) H ∧ va_D A (ds.flatten ++ (isR.filterMap (fun i => cs[i]?)).flatten) := by
  have e : (ds.flatten ++ (isR.filterMap (fun i => cs[i]?)).flatten).Perm cs.flatten := by
    rw [← List.flatten_append]
    refine (cs_pick (is := isC ++ isR) ?_ (List.isPerm_iff.mp hp)).flatten
    rw [List.map_append, List.map_append, h, cs_rs hp]
  exact ⟨cs_P e.symm hw.1, cs_Dp e.symm hw.2.1⟩
theorem cs_join {D : va_G} {A : Nat → Prop} {H H1 : Heap} {d e r : va_W} (hP : va_P D vwCl (d ++ r) H) (hD : va_D A (d ++ r)) (hP1 : va_P D vwCl e H1) (hD1 : va_D (va_A d H.size) e) (hF : ∀ q, va_A d H.size q → A q) (hk : ∀ q : Nat, q < H.size → ¬ va_A d H.size q → H1[q]? = H[q]?) : va_P D vwCl (e ++ r) H1 ∧ va_D A (e ++ r) := by
  have hPm := cs_mem.mp hP
  obtain ⟨hn, hAm⟩ := cs_nd.mp hD
  obtain ⟨hn1, hAm1⟩ := cs_nd.mp hD1
  rw [List.map_append, List.nodup_append] at hn
  have apart : ∀ q ∈ r, q.1 < H.size ∧ ¬ va_A d H.size q.1 := by
    intro q hq
    have hlt := (hPm q (List.mem_append_right _ hq)).lt
    refine ⟨hlt, fun hA => ?_⟩
    rcases hA with ⟨k, x, hk⟩ | hge
    · exact hn.2.2 q.1 (List.mem_map.mpr ⟨(q.1, x), List.mem_of_getElem? hk, rfl⟩) q.1 (List.mem_map_of_mem hq) rfl
    · omega
  refine ⟨cs_mem.mpr (fun q hq => ?_), cs_nd.mpr ⟨?_, fun q hq => ?_⟩⟩
  · rcases List.mem_append.mp hq with h | h
    · exact cs_mem.mp hP1 q h
    · exact (hPm q (List.mem_append_right _ h)).kept (hk q.1 (apart q h).1 (apart q h).2)
  · rw [List.map_append, List.nodup_append]
    refine ⟨hn1, hn.2.1, fun a ha b hb hab => ?_⟩
    obtain ⟨x, hx, rfl⟩ := List.mem_map.mp ha
    obtain ⟨y, hy, rfl⟩ := List.mem_map.mp hb
    exact (apart y hy).2 (hab ▸ hAm1 x hx)
  · rcases List.mem_append.mp hq with h | h
    · exact hF q.1 (hAm1 q h)
    · exact hAm q (List.mem_append_right _ h)
/-! the text constants: by their numbers -/
abbrev GS : Type := ClassId × (Nat → Nat) × (Nat → Nat)
def sTx : List String := ["all", "series", "top", "box", "lay", "take", "row", "pass", "", "PAB", "AB", "XR", "XAB", "N"]
def sLen : List Nat := [3, 6, 3, 3, 3, 4, 3, 4, 0, 3, 2, 2, 3, 1]
def sByt : List (List Int32) := [[97, 108, 108], [115, 101, 114, 105, 101, 115], [116, 111, 112], [98, 111, 120], [108, 97, 121], [116, 97, 107, 101], [114, 111, 119], [112, 97, 115, 115], [], [80, 65, 66], [65, 66], [88, 82], [88, 65, 66], [78]]
def SE (cS : GS) (A : Nat → Prop) (U : State) (H : Heap) : Prop := vk_S 14 sLen sByt cS.2.1 cS.2.2 A U H ∧ va_Z "java/lang/String" "COMPACT_STRINGS" "Z" (.int 1) A U H ∧ va_Zq "jdk/internal/util/Preconditions" "SIOOBE_FORMATTER" "Ljava/util/function/BiFunction;" A U H
theorem SE.go {cS : GS} {A B : Nat → Prop} {u U : State} {H H1 : Heap} (h : SE cS A u H) (hAB : ∀ q, B q → A q) (hq : ∀ a : Nat, a < H.size → ¬ A a → H1[a]? = H[a]?) (hvm : u.vm.Alike U.vm) : SE cS B U H1 :=
  ⟨((h.1.kept hq).moved hvm).narrow hAB, ((h.2.1.kept hq).moved hvm).narrow hAB, ((h.2.2.kept hq).moved hvm).narrow hAB⟩
/-! what is known of the tables all along -/
def KK (D : va_G) (cI : ClassId) (cS : GS) (s : State) : Prop :=
  va_K D vwCl [(cI, .int), (cS.1, .object "BoxedPapers$Snapshot")] s ∧
  (va_Nw (.fieldLinkNest RX0 61 "BoxedPapers$Snapshot" "rooms" "[I" RX7) s ∧ va_Nw (.fieldLinkNest RX0 56 "BoxedPapers$Snapshot" "pieces" "LBoxedPapers$Ranges;" RX7) s ∧ va_Nw (.fieldLinkNest RX0 47 "BoxedPapers$Snapshot" "seriesCount" "I" RX7) s ∧ va_Nw (.fieldLinkNest RX0 52 "BoxedPapers$Snapshot" "moveCount" "I" RX7) s ∧ va_Nw (.fieldLinkNest RX0 55 "BoxedPapers$Snapshot" "day" "I" RX7) s) ∧
  (va_Nw (.methodLinkNest RX0 72 yX7_isRange RX7) s ∧ va_Nw (.methodLinkNest RX0 91 yX7_isBox RX7) s ∧ va_Nw (.methodLinkNest RX3 78 yX7_isBox RX7) s) ∧
  (∀ i : Nat, i < 14 → vk_R RX6 (86 + 2 * i) (sTx.getD i "") (cS.2.1 i) s)
theorem KK.warm {D : va_G} {cI : ClassId} {cS : GS} {s U : State} (hW : s.WarmedH U.vm) (h : KK D cI cS s) : KK D cI cS U := by
  obtain ⟨h1, ⟨a1, a2, a3, a4, a5⟩, ⟨b1, b2, b3⟩, k1⟩ := h
  exact ⟨va_K.moved hW.alike h1, ⟨va_Nw.warmF hW a1, va_Nw.warmF hW a2, va_Nw.warmF hW a3, va_Nw.warmF hW a4, va_Nw.warmF hW a5⟩, ⟨va_Nw.warmM hW b1, va_Nw.warmM hW b2, va_Nw.warmM hW b3⟩, fun i hi => (k1 i hi).warm hW⟩
theorem KK.calling {D : va_G} {cI : ClassId} {cS : GS} {U : State} {g : JFrame} {mk : MethodId} {a : Array Value} (h : KK D cI cS U) : KK D cI cS (U.calling g mk a) := by
  obtain ⟨h1, ⟨a1, a2, a3, a4, a5⟩, ⟨b1, b2, b3⟩, k1⟩ := h
  exact ⟨va_K.moved (u := U) (U := U.calling g mk a) (Vm.Alike.refl U.vm) h1, ⟨va_Nw.same rfl rfl a1, va_Nw.same rfl rfl a2, va_Nw.same rfl rfl a3, va_Nw.same rfl rfl a4, va_Nw.same rfl rfl a5⟩, ⟨va_Nw.same rfl rfl b1, va_Nw.same rfl rfl b2, va_Nw.same rfl rfl b3⟩, fun i hi => (k1 i hi).same rfl⟩
/-! the words: what the tables say that is good for any callee too -/
def TT : List Cond := lw_tbl.filter goodWord
theorem TT_of {w : Cond} (h : w ∈ lw_tbl) (hg : goodWord w = true) : w ∈ TT := List.mem_filter.mpr ⟨h, hg⟩
theorem TT_1 {w : Cond} (i : Nat) (h : tables_1_1[i]? = some w) (hg : goodWord w = true) : w ∈ TT := TT_of (List.mem_append_right _ (List.mem_append_left _ (List.mem_of_getElem? h))) hg
theorem TT_2 {w : Cond} (i : Nat) (h : tables_1_2[i]? = some w) (hg : goodWord w = true) : w ∈ TT := TT_of (List.mem_append_right _ (List.mem_append_right _ (List.mem_append_left _ (List.mem_of_getElem? h)))) hg
theorem TT_3 {w : Cond} (i : Nat) (h : tables_1_3[i]? = some w) (hg : goodWord w = true) : w ∈ TT := TT_of (List.mem_append_right _ (List.mem_append_right _ (List.mem_append_right _ (List.mem_append_left _ (List.mem_of_getElem? h))))) hg
theorem TT_4 {w : Cond} (i : Nat) (h : tables_1_4[i]? = some w) (hg : goodWord w = true) : w ∈ TT := TT_of (List.mem_append_right _ (List.mem_append_right _ (List.mem_append_right _ (List.mem_append_right _ (List.mem_append_left _ (List.mem_of_getElem? h)))))) hg
theorem TT_5 {w : Cond} (i : Nat) (h : tables_1_5[i]? = some w) (hg : goodWord w = true) : w ∈ TT := TT_of (List.mem_append_right _ (List.mem_append_right _ (List.mem_append_right _ (List.mem_append_right _ (List.mem_append_right _ (List.mem_append_left _ (List.mem_of_getElem? h))))))) hg
theorem TT_6 {w : Cond} (i : Nat) (h : tables_1_6[i]? = some w) (hg : goodWord w = true) : w ∈ TT := TT_of (List.mem_append_right _ (List.mem_append_right _ (List.mem_append_right _ (List.mem_append_right _ (List.mem_append_right _ (List.mem_append_right _ (List.mem_of_getElem? h))))))) hg
theorem TT_s {y : MethodName} {n : Nat} (i : Nat) (h : lw_privs[i]? = some (y, n)) (hg : goodWord (.selects y.cls y y) = true) : Cond.selects y.cls y y ∈ TT := TT_of (List.mem_append_left _ (List.mem_map.mpr ⟨(y, n), List.mem_of_getElem? h, rfl⟩)) hg
theorem TT_good (w : Cond) (h : w ∈ TT) : (w.onTables && w.keeps) = true ∨ ∃ ty, w = .arrayClass ty := good_of_word (List.mem_filter.mp h).2
theorem TT_in {ws : List Cond} (h : ∀ w ∈ ws, w ∈ TT) : GoodIn TT ws := fun w hw => ⟨h w hw, TT_good w (h w hw)⟩
/-! contracts -/
def KC (D : va_G) (cI : ClassId) (cS : GS) (sz : Nat) (ds : List va_W) : State → Prop := fun U => U.heap.size = sz ∧ va_P D vwCl ds.flatten U.heap ∧ KK D cI cS U ∧ va_D (fun _ => True) ds.flatten ∧ SE cS (va_A ds.flatten sz) U U.heap
def KP (D : va_G) (A : Nat → Prop) (v : Option Value) (es : List va_W) : Array Value → State → Outcome → State → Prop := fun _ st oc t => (oc = .returned v ∧ va_P D vwCl es.flatten t.heap ∧ va_D A es.flatten) ∧ va_F A st t
/-- a method's contract: from the chunks ds to the chunks es, with this answer; no cell is made -/
def CT (l : Launch) (D : va_G) (cI : ClassId) (cS : GS) (y : MethodName) (cc : ByteArray) (nL : Nat) (rt : Option FieldType) (rm : Room) (av : List Value) (ds : List va_W) (v : Option Value) (es : List va_W) : Prop :=
  ∀ sz : Nat, Met l y (Cond.code y cc nL rt :: TT) rm (va_Pc av (KC D cI cS sz ds)) (KP D (va_A ds.flatten sz) v es) 0 0 (va_A ds.flatten sz)
/-- what a method's walk has at hand -/
def MC (p : Program) (s : State) (m : MethodId) (args : Array Value) (meth : Method) (c : Code) (D : va_G) (cI : ClassId) (cS : GS) (A : Nat → Prop) (own : String) (cc : ByteArray) (nL : Nat) (ret : Option FieldType) : Prop :=
  (p.tables.exec = Jvm.exec ∧ c.code = cc ∧ c.maxLocals = nL ∧ s.vm.findClass own = some m.cls ∧ ∀ w ∈ TT, w.before args s = true) ∧ meth.sig.returnType = ret ∧ meth.locks = false ∧ KK D cI cS s ∧ SE cS A s s.heap
abbrev KQ (D : va_G) (A : Nat → Prop) (below : List Frame) (args : Array Value) (s : State) (v : Option Value) (es : List va_W) : State → Prop := MQ below (KP D A v es) args s 0 0 A
theorem CT.of {l : Launch} {D : va_G} {cI : ClassId} {cS : GS} {y : MethodName} {rm : Room} {av : List Value} {ds es : List va_W} {v : Option Value} {cc : ByteArray} {nL : Nat} {ret : Option FieldType} (own : String) (hy : plainName y.cls = true) (hown : y.cls = own) (hn : (lg_sl av).length ≤ nL)
    (body : ∀ (p : Program) (e : Env) (s : State) (m : MethodId) (below : List Frame) (meth : Method) (c : Code) (ls : Array Slot) (A : Nat → Prop), MC p s m av.toArray meth c D cI cS A own cc nL ret → (∀ q, s.heap.size ≤ q → A q) → lv_has ls nL (lv_args 0 av) → Wd D A s.heap s.heap [] ds →
      W p l e rm s m av.toArray below meth c s.heap [] 0 0 (KQ D A below av.toArray s v es) (F0 m 0 ls [])) : CT l D cI cS y cc nL ret rm av ds v es := by
  intro sz
  refine Met.ofW (cc := cc) (maxL := nL) (ret := ret) hy rfl ?_
  intro p e s m args below meth c s₁ B hml hv
  obtain ⟨rfl, hsz, hP, hK, hD0, hE⟩ := hv
  subst hsz
  have hts := atoms_spec (ws := Cond.code y cc nL ret :: TT) B.pre
  have hfc : s.vm.findClass own = some m.cls := hown ▸ findClass_of_methodNamed B.named
  rw [lg_entry_eq]
  exact body p e s m below meth c _ (va_A ds.flatten s.heap.size) ⟨⟨B.exec, B.bytes, hml, hfc, fun w h => hts w (List.mem_cons_of_mem _ h)⟩, B.returns, B.notSynchronized, hK, hE⟩ (fun q h => Or.inr h) (lv_entry av hn) ⟨hP, hD0.self, va_S.rf⟩
section Rows
variable {p : Program} {l : Launch} {e : Env} {R : Room} {s : State} {m : MethodId} {args : Array Value} {below : List Frame} {meth : Method} {c : Code} {H : Heap} {locs : List Loc} {Q : State → Prop} {D : va_G} {cI : ClassId} {cS : GS} {own : String} {cc : ByteArray} {nL : Nat} {ret : Option FieldType} {A : Nat → Prop} {H0 : Heap} {cs : List va_W} {pc : Nat} {ls : Array Slot} {rest : List Value}
theorem k_iret {v : Int32} {es : List va_W} (C : MC p s m args meth c D cI cS A own cc nL (some .int)) (hw : Wd D A s.heap H locs es) (hdg : decode cc pc = .ok (.ireturn, 1)) : W p l e R s m args below meth c H locs 0 0 (KQ D A below args s (some (.int v)) es) (F0 m pc ls [.int v]) :=
  W.iret C.1.1 C.1.2.1 C.2.1 (fun t ht hW => ⟨⟨rfl, by rw [ht]; exact hw.1, hw.2.1⟩, hw.2.2.F ht⟩) hw.2.2.2.2 hdg C.2.2.1
theorem k_zret {v : Int32} {es : List va_W} (C : MC p s m args meth c D cI cS A own cc nL (some .boolean)) (hn : narrow .boolean (.int v) = .int v) (hw : Wd D A s.heap H locs es) (hdg : decode cc pc = .ok (.ireturn, 1)) : W p l e R s m args below meth c H locs 0 0 (KQ D A below args s (some (.int v)) es) (F0 m pc ls [.int v]) :=
  W.zret C.1.1 C.1.2.1 C.2.1 hn (fun t ht hW => ⟨⟨rfl, by rw [ht]; exact hw.1, hw.2.1⟩, hw.2.2.F ht⟩) hw.2.2.2.2 hdg C.2.2.1
theorem k_zretb {v z : Int32} {es : List va_W} (C : MC p s m args meth c D cI cS A own cc nL (some .boolean)) (q : bz v = some z) (hw : Wd D A s.heap H locs es) (hdg : decode cc pc = .ok (.ireturn, 1)) : W p l e R s m args below meth c H locs 0 0 (KQ D A below args s (some (.int z)) es) (F0 m pc ls [.int v]) := by
  obtain ⟨hn, rfl⟩ := bz_v q
  exact k_zret C hn hw hdg
theorem k_lret {v : Int64} {es : List va_W} (C : MC p s m args meth c D cI cS A own cc nL (some .long)) (hw : Wd D A s.heap H locs es) (hdg : decode cc pc = .ok (.lreturn, 1)) : W p l e R s m args below meth c H locs 0 0 (KQ D A below args s (some (.long v)) es) (F0 m pc ls [.long v]) :=
  W.lret C.1.1 C.1.2.1 C.2.1 (fun t ht hW => ⟨⟨rfl, by rw [ht]; exact hw.1, hw.2.1⟩, hw.2.2.F ht⟩) hw.2.2.2.2 hdg C.2.2.1
theorem k_aret {v : Value} {rt : String} {es : List va_W} (C : MC p s m args meth c D cI cS A own cc nL (some (.object rt))) (hv : v = .null ∨ ∃ a, v = .ref a) (hw : Wd D A s.heap H locs es) (hdg : decode cc pc = .ok (.areturn, 1)) : W p l e R s m args below meth c H locs 0 0 (KQ D A below args s (some v) es) (F0 m pc ls [v]) :=
  W.aret C.1.1 C.1.2.1 C.2.1 (Or.inl ⟨rt, rfl⟩) hv (fun t ht hW => ⟨⟨rfl, by rw [ht]; exact hw.1, hw.2.1⟩, hw.2.2.F ht⟩) hw.2.2.2.2 hdg C.2.2.1
theorem k_vret {es : List va_W} (C : MC p s m args meth c D cI cS A own cc nL none) (hw : Wd D A s.heap H locs es) (hdg : decode cc pc = .ok (.return_, 1)) : W p l e R s m args below meth c H locs 0 0 (KQ D A below args s none es) (F0 m pc ls []) :=
  W.vret C.1.1 C.1.2.1 C.2.1 (fun t ht hW => ⟨⟨rfl, by rw [ht]; exact hw.1, hw.2.1⟩, hw.2.2.F ht⟩) hw.2.2.2.2 hdg C.2.2.1
theorem k_get (C : MC p s m args meth c D cI cS A own cc nL ret) {Cn : String} {T : u_T} {N ci index a : Nat} (hin : ∀ w ∈ u_ws Cn T N, w ∈ TT) (hw : Wd D A H0 H locs cs) (q0 : Nat) {fs : List Value} (he : cs.flatten[q0]? = some (a, .inr (ci, fs))) (hc : vwCl[ci]? = some (Cn, T, N)) (k : Nat) (hk : k < N) (hm : Cond.fieldLink own index (T k).1 (T k).2.1 (T k).2.2.1 ∈ TT) {v : Value} (hv : fs[k]? = some v) (hdg : decode cc pc = .ok (.getfield index, 3))
    (kk : W p l e R s m args below meth c H locs 0 0 Q (F0 m (pc + 3) ls (v :: rest))) : W p l e R s m args below meth c H locs 0 0 Q (F0 m pc ls (.ref a :: rest)) :=
  va_get C.1.1 C.1.2.1 C.1.2.2.2.2 hin C.1.2.2.2.1 C.2.2.2.1.1 hw.1 q0 he hc k hk (C.1.2.2.2.2 _ hm) (fun _ h => h) hv hdg kk
theorem k_put (C : MC p s m args meth c D cI cS A own cc nL ret) {Cn : String} {T : u_T} {N ci index a : Nat} (hin : ∀ w ∈ u_ws Cn T N, w ∈ TT) (ty0 : Nat → FieldType) (hty : ∀ k, k < N → parseFieldDescriptor (T k).2.2.1 = some (ty0 k)) (hnm : ∀ a, a < N → ∀ b, b < N → a ≠ b → (T a).2.1 ≠ (T b).2.1) (hw : Wd D A H0 H locs cs) (q0 : Nat) {fs : List Value} (he : cs.flatten[q0]? = some (a, .inr (ci, fs))) (hc : vwCl[ci]? = some (Cn, T, N)) (k : Nat) (hk : k < N) (hm : Cond.fieldLink own index (T k).1 (T k).2.1 (T k).2.2.1 ∈ TT) (hfin : (T k).2.2.2 = false) {v : Int32} (hd : ty0 k = .int) (hl : k < fs.length) (cs' : List va_W) (hcs : cs.flatten.set q0 (a, .inr (ci, fs.set k (.int v))) = cs'.flatten) (hdg : decode cc pc = .ok (.putfield index, 3))
    (kk : ∀ (H1 : Heap) (locs1 : List Loc), Wd D A H0 H1 locs1 cs' → W p l e R s m args below meth c H1 locs1 0 0 Q (F0 m (pc + 3) ls rest)) : W p l e R s m args below meth c H locs 0 0 Q (F0 m pc ls (.int v :: .ref a :: rest)) :=
  va_put C.1.1 C.1.2.1 C.1.2.2.2.2 hin ty0 hty hnm C.1.2.2.2.1 C.2.2.2.1.1 hw.1 hw.2.1 hw.2.2 q0 he hc k hk (C.1.2.2.2.2 _ hm) (fun _ h => h) hfin ((hty k hk).trans (congrArg some hd)) rfl rfl hl hdg
    (fun H1 locs1 h1 h2 h3 => kk H1 locs1 ⟨hcs ▸ h1, hcs ▸ h2, h3⟩)
theorem k_getN (C : MC p s m args meth c D cI cS A own cc nL ret) {Cn host : String} {T : u_T} {N ci index a : Nat} (hin : ∀ w ∈ u_ws Cn T N, w ∈ TT) (hw : Wd D A H0 H locs cs) (q0 : Nat) {fs : List Value} (he : cs.flatten[q0]? = some (a, .inr (ci, fs))) (hc : vwCl[ci]? = some (Cn, T, N)) (k : Nat) (hk : k < N) (hm : va_Nw (Cond.fieldLinkNest own index (T k).1 (T k).2.1 (T k).2.2.1 host) s) {v : Value} (hv : fs[k]? = some v) (hdg : decode cc pc = .ok (.getfield index, 3))
    (kk : W p l e R s m args below meth c H locs 0 0 Q (F0 m (pc + 3) ls (v :: rest))) : W p l e R s m args below meth c H locs 0 0 Q (F0 m pc ls (.ref a :: rest)) :=
  va_getN C.1.1 C.1.2.1 C.1.2.2.2.2 hin C.1.2.2.2.1 C.2.2.2.1.1 hw.1 q0 he hc k hk (va_Nw.use rfl hm) (fun _ h => h) hv hdg kk
theorem k_putN (C : MC p s m args meth c D cI cS A own cc nL ret) {Cn host : String} {T : u_T} {N ci index a : Nat} (hin : ∀ w ∈ u_ws Cn T N, w ∈ TT) (ty0 : Nat → FieldType) (hty : ∀ k, k < N → parseFieldDescriptor (T k).2.2.1 = some (ty0 k)) (hnm : ∀ a, a < N → ∀ b, b < N → a ≠ b → (T a).2.1 ≠ (T b).2.1) (hw : Wd D A H0 H locs cs) (q0 : Nat) {fs : List Value} (he : cs.flatten[q0]? = some (a, .inr (ci, fs))) (hc : vwCl[ci]? = some (Cn, T, N)) (k : Nat) (hk : k < N) (hm : va_Nw (Cond.fieldLinkNest own index (T k).1 (T k).2.1 (T k).2.2.1 host) s) (hfin : (T k).2.2.2 = false) {v : Int32} (hd : ty0 k = .int) (hl : k < fs.length) (cs' : List va_W) (hcs : cs.flatten.set q0 (a, .inr (ci, fs.set k (.int v))) = cs'.flatten) (hdg : decode cc pc = .ok (.putfield index, 3))
    (kk : ∀ (H1 : Heap) (locs1 : List Loc), Wd D A H0 H1 locs1 cs' → W p l e R s m args below meth c H1 locs1 0 0 Q (F0 m (pc + 3) ls rest)) : W p l e R s m args below meth c H locs 0 0 Q (F0 m pc ls (.int v :: .ref a :: rest)) :=
  va_putN C.1.1 C.1.2.1 C.1.2.2.2.2 hin ty0 hty hnm C.1.2.2.2.1 C.2.2.2.1.1 hw.1 hw.2.1 hw.2.2 q0 he hc k hk (va_Nw.use rfl hm) (fun _ h => h) hfin ((hty k hk).trans (congrArg some hd)) rfl rfl hl hdg
    (fun H1 locs1 h1 h2 h3 => kk H1 locs1 ⟨hcs ▸ h1, hcs ▸ h2, h3⟩)
theorem k_iald (C : MC p s m args meth c D cI cS A own cc nL ret) (hw : Wd D A H0 H locs cs) (q0 : Nat) {n a : Nat} {f : Nat → Int32} (he : cs.flatten[q0]? = some (a, .inl (cI, n, .inl f))) {i y : Int32} (hy : ld n f i = some y) (hdg : decode cc pc = .ok (.iaload, 1))
    (kk : W p l e R s m args below meth c H locs 0 0 Q (F0 m (pc + 1) ls (.int y :: rest))) : W p l e R s m args below meth c H locs 0 0 Q (F0 m pc ls (.int i :: .ref a :: rest)) :=
  va_iald C.1.1 C.1.2.1 C.2.2.2.1.1 hw.1 q0 0 he rfl (ld_v hy).1 hdg ((ld_v hy).2 ▸ kk)
theorem k_iast (C : MC p s m args meth c D cI cS A own cc nL ret) (hw : Wd D A H0 H locs cs) (q0 : Nat) {n a : Nat} {f g : Nat → Int32} (he : cs.flatten[q0]? = some (a, .inl (cI, n, .inl f))) {i x : Int32} (hy : sv n f i x = some g) (cs' : List va_W) (hcs : cs.flatten.set q0 (a, .inl (cI, n, .inl g)) = cs'.flatten) (hdg : decode cc pc = .ok (.iastore, 1))
    (kk : ∀ (H1 : Heap) (locs1 : List Loc), Wd D A H0 H1 locs1 cs' → W p l e R s m args below meth c H1 locs1 0 0 Q (F0 m (pc + 1) ls rest)) : W p l e R s m args below meth c H locs 0 0 Q (F0 m pc ls (.int x :: .int i :: .ref a :: rest)) := by
  obtain ⟨h1, rfl⟩ := sv_v hy
  exact va_iast C.1.1 C.1.2.1 C.2.2.2.1.1 hw.1 hw.2.1 hw.2.2 q0 0 he rfl h1 hdg (fun H1 locs1 h1 h2 h3 => kk H1 locs1 ⟨hcs ▸ h1, hcs ▸ h2, h3⟩)
theorem k_alen (C : MC p s m args meth c D cI cS A own cc nL ret) (hw : Wd D A H0 H locs cs) (q0 : Nat) {n a : Nat} {f : Nat → Int32} (he : cs.flatten[q0]? = some (a, .inl (cI, n, .inl f))) (hdg : decode cc pc = .ok (.arraylength, 1))
    (kk : W p l e R s m args below meth c H locs 0 0 Q (F0 m (pc + 1) ls (.int (nI n) :: rest))) : W p l e R s m args below meth c H locs 0 0 Q (F0 m pc ls (.ref a :: rest)) :=
  va_alen C.1.1 C.1.2.1 C.2.2.2.1.1 hw.1 q0 0 he rfl rfl hdg kk
theorem k_ldc (C : MC p s m args meth c D cI cS A own cc nL ret) {index : Nat} {v : Int32} (hm : Cond.constant own index v ∈ TT) (hdg : decode cc pc = .ok (.ldc index, 2)) (kk : W p l e R s m args below meth c H locs 0 0 Q (F0 m (pc + 2) ls (.int v :: rest))) : W p l e R s m args below meth c H locs 0 0 Q (F0 m pc ls rest) :=
  lv_ldc C.1.1 C.1.2.1 C.1.2.2.2.1 (C.1.2.2.2.2 _ hm) hdg kk
theorem k_ldc2 (C : MC p s m args meth c D cI cS A own cc nL ret) {index : Nat} {v : Int64} (hm : Cond.constantLong own index v ∈ TT) (hdg : decode cc pc = .ok (.ldc2_w index, 3)) (kk : W p l e R s m args below meth c H locs 0 0 Q (F0 m (pc + 3) ls (.long v :: rest))) : W p l e R s m args below meth c H locs 0 0 Q (F0 m pc ls rest) :=
  lv_ldc2 C.1.1 C.1.2.1 C.1.2.2.2.1 (C.1.2.2.2.2 _ hm) hdg kk
theorem k_idiv (C : MC p s m args meth c D cI cS A own cc nL ret) {x y z : Int32} (hy : dv x y = some z) (hdg : decode cc pc = .ok (.idiv, 1)) (kk : W p l e R s m args below meth c H locs 0 0 Q (F0 m (pc + 1) ls (.int z :: rest))) : W p l e R s m args below meth c H locs 0 0 Q (F0 m pc ls (.int y :: .int x :: rest)) :=
  lv_idiv C.1.1 C.1.2.1 hdg (dv_v hy).1 ((dv_v hy).2 ▸ kk)
theorem k_irem (C : MC p s m args meth c D cI cS A own cc nL ret) {x y z : Int32} (hy : rmd x y = some z) (hdg : decode cc pc = .ok (.irem, 1)) (kk : W p l e R s m args below meth c H locs 0 0 Q (F0 m (pc + 1) ls (.int z :: rest))) : W p l e R s m args below meth c H locs 0 0 Q (F0 m pc ls (.int y :: .int x :: rest)) :=
  lv_irem C.1.1 C.1.2.1 hdg (rmd_v hy).1 ((rmd_v hy).2 ▸ kk)
theorem k_mmax (C : MC p s m args meth c D cI cS A own cc nL ret) (hls : ls.size = nL) {index : Nat} {x y : Int32} (hm : Cond.methodLink own index Lib.Math.max.name ∈ TT) (hq : Cond.static Lib.Math.max.name ∈ TT ∧ Cond.initialized "java/lang/Math" ∈ TT ∧ Cond.code Lib.Math.max.name Lib.Math.max.code 2 (some .int) ∈ TT) (hf : 1 ≤ R.frames) (hlo : (rest.map fun v => v.category).sum + 13 ≤ R.locals) (hdg : decode cc pc = .ok (.invokestatic index, 3)) (kk : W p l e R s m args below meth c H locs 0 0 Q (F0 m (pc + 3) ls (.int (imax x y) :: rest))) : W p l e R s m args below meth c H locs 0 0 Q (F0 m pc ls (.int y :: .int x :: rest)) :=
  va_mmax C.1.1 C.1.2.1 (C.1.2.2.1.trans hls.symm) C.1.2.2.2.1 (C.1.2.2.2.2 _ hm) (C.1.2.2.2.2 _ hq.1) (C.1.2.2.2.2 _ hq.2.1) (C.1.2.2.2.2 _ hq.2.2) hf hlo (Nat.zero_le _) (Nat.zero_le _) hdg kk
theorem k_mmin (C : MC p s m args meth c D cI cS A own cc nL ret) (hls : ls.size = nL) {index : Nat} {x y : Int32} (hm : Cond.methodLink own index Lib.Math.min.name ∈ TT) (hq : Cond.static Lib.Math.min.name ∈ TT ∧ Cond.initialized "java/lang/Math" ∈ TT ∧ Cond.code Lib.Math.min.name Lib.Math.min.code 2 (some .int) ∈ TT) (hf : 1 ≤ R.frames) (hlo : (rest.map fun v => v.category).sum + 13 ≤ R.locals) (hdg : decode cc pc = .ok (.invokestatic index, 3)) (kk : W p l e R s m args below meth c H locs 0 0 Q (F0 m (pc + 3) ls (.int (imin x y) :: rest))) : W p l e R s m args below meth c H locs 0 0 Q (F0 m pc ls (.int y :: .int x :: rest)) :=
  va_mmin C.1.1 C.1.2.1 (C.1.2.2.1.trans hls.symm) C.1.2.2.2.1 (C.1.2.2.2.2 _ hm) (C.1.2.2.2.2 _ hq.1) (C.1.2.2.2.2 _ hq.2.1) (C.1.2.2.2.2 _ hq.2.2) hf hlo (Nat.zero_le _) (Nat.zero_le _) hdg kk
theorem k_copy (C : MC p s m args meth c D cI cS A own cc nL ret) (hls : ls.size = nL) {index a a0 n0 n1 : Nat} {f g g' : Nat → Int32} {sp dp n : Int32} (hm : Cond.methodLink own index arraycopyName ∈ TT) (hq : Cond.native arraycopyName ∈ TT ∧ Cond.static arraycopyName ∈ TT ∧ Cond.initialized "java/lang/System" ∈ TT) (hw : Wd D A H0 H locs cs) (q0 q1 : Nat) (ha0 : cs.flatten[q0]? = some (a0, .inl (cI, n0, .inl f))) (ha1 : cs.flatten[q1]? = some (a, .inl (cI, n1, .inl g))) (hy : cpy n0 f sp n1 g dp n = some g') (hf : 1 ≤ R.frames) (hlo : (rest.map fun v => v.category).sum + (nativeFrameWords "java/lang/System" "arraycopy" 5 + 11) ≤ R.locals) (cs' : List va_W) (hcs : cs.flatten.set q1 (a, .inl (cI, n1, .inl g')) = cs'.flatten) (hdg : decode cc pc = .ok (.invokestatic index, 3))
    (kk : ∀ (H1 : Heap) (locs1 : List Loc), Wd D A H0 H1 locs1 cs' → W p l e R s m args below meth c H1 locs1 0 0 Q (F0 m (pc + 3) ls rest)) : W p l e R s m args below meth c H locs 0 0 Q (F0 m pc ls (.int n :: .int dp :: .ref a :: .int sp :: .ref a0 :: rest)) := by
  obtain ⟨⟨h1, h2, h3, h4, h5⟩, rfl⟩ := cpy_v hy
  exact va_copyi C.1.1 C.1.2.1 (C.1.2.2.1.trans hls.symm) C.1.2.2.2.1 (C.1.2.2.2.2 _ hm) (C.1.2.2.2.2 _ hq.1) (C.1.2.2.2.2 _ hq.2.1) (C.1.2.2.2.2 _ hq.2.2) C.2.2.2.1.1 hw.1 hw.2.1 hw.2.2 q0 q1 0 0 ha0 ha1 rfl rfl rfl h1 h2 h3 h4 h5 (fun i hi => rfl) hf hlo hdg (fun H1 locs1 h1 h2 h3 => kk H1 locs1 ⟨hcs ▸ h1, hcs ▸ h2, h3⟩)
theorem k_ldc_w (C : MC p s m args meth c D cI cS A own cc nL ret) {index : Nat} {v : Int32} (hm : Cond.constant own index v ∈ TT) (hdg : decode cc pc = .ok (.ldc_w index, 3)) (kk : W p l e R s m args below meth c H locs 0 0 Q (F0 m (pc + 3) ls (.int v :: rest))) : W p l e R s m args below meth c H locs 0 0 Q (F0 m pc ls rest) :=
  lv_ldcw C.1.1 C.1.2.1 C.1.2.2.2.1 (C.1.2.2.2.2 _ hm) hdg kk
theorem k_nm {x y : Int32} (q : some x = some y) (kk : W p l e R s m args below meth c H locs 0 0 Q (F0 m pc ls (.int y :: rest))) : W p l e R s m args below meth c H locs 0 0 Q (F0 m pc ls (.int x :: rest)) := by
  cases q
  exact kk
/-- behind a call -/
theorem k_back {nC : Nat} {ds es cs' : List va_W} {v : Option Value} {st0 : List Value} (hr : va_Run p l e R s m args below meth c H locs 0 0 0 0 (F0 m pc ls st0) rest (fun st oc t => (oc = .returned v ∧ va_P D vwCl es.flatten t.heap ∧ va_D (va_A ds.flatten H.size) es.flatten) ∧ va_F (va_A ds.flatten H.size) st t) (va_A ds.flatten H.size)) (hA : ∀ q, s.heap.size ≤ q → A q) (hw : Wd D A s.heap H locs cs) (isC isR : List Nat) (hN : cs.length = nC) (hp : (isC ++ isR).isPerm (List.range nC) = true) (hC : isC.map (fun i => cs[i]?) = ds.map some) (hC' : isC.map (fun i => cs'[i]?) = es.map some) (hR' : isR.map (fun i => cs'[i]?) = isR.map (fun i => cs[i]?)) (hl : cs'.length = cs.length)
    (kk : ∀ (H1 : Heap) (locs1 : List Loc), Wd D A s.heap H1 locs1 cs' → W p l e R s m args below meth c H1 locs1 0 0 Q (F0 m (pc + 3) ls (v.toList ++ rest))) : W p l e R s m args below meth c H locs 0 0 Q (F0 m pc ls st0) := by
  obtain ⟨sP, sD⟩ := cs_split hw isC isR (by rw [hN]; exact hp) hC
  have hF : ∀ q, va_A ds.flatten H.size q → A q := by
    intro q hq
    rcases hq with ⟨k, x, hk⟩ | h
    · exact (cs_nd.mp sD).2 (q, x) (List.mem_append_left _ (List.mem_of_getElem? hk))
    · exact hA q (Nat.le_trans hw.2.2.1 h)
  intro T hT X
  obtain ⟨v', st₀, t, T', L, h0, X', hL, e1, e2, ⟨⟨hv, hP1, hD1⟩, hz, hk⟩, st⟩ := hr T hT X
  cases hv
  rw [h0] at hz hk
  obtain ⟨jP, jD⟩ := cs_join sP sD hP1 hD1 hF hk
  have e : (es.flatten ++ (isR.filterMap (fun i => cs[i]?)).flatten).Perm cs'.flatten := by
    rw [← List.flatten_append]
    refine (cs_pick (is := isC ++ isR) ?_ (by rw [hl, hN]; exact List.isPerm_iff.mp hp)).flatten
    rw [List.map_append, List.map_append, hC', hR', cs_rs (cs := cs) (by rw [hN]; exact hp)]
  have hS : va_S A s.heap t.heap (locs ++ L) := ⟨Nat.le_trans hw.2.2.1 hz, fun q h1 h2 => by rw [hk q (Nat.lt_of_lt_of_le h1 hw.2.2.1) (fun z => h2 (hF q z))]; exact hw.2.2.2.1 q h1 h2, fun q hq => by
      rcases List.mem_append.mp hq with h | h
      · exact hw.2.2.2.2 q h
      · exact hF _ (hL q h)⟩
  obtain ⟨t2, a1, b1⟩ := kk t.heap (locs ++ L) ⟨cs_P e jP, cs_Dp e jD, hS⟩ T' e1 X'
  exact ⟨t2, st t2 a1, b1⟩
theorem k_pre {nC : Nat} {ds : List va_W} (C : MC p s m args meth c D cI cS A own cc nL ret) (hA : ∀ q, s.heap.size ≤ q → A q) (hw : Wd D A s.heap H locs cs) (isC isR : List Nat) (hN : cs.length = nC) (hp : (isC ++ isR).isPerm (List.range nC) = true) (hC : isC.map (fun i => cs[i]?) = ds.map some) (av : List Value) : PreS s H (va_Pc av (KC D cI cS H.size ds)) av := by
  obtain ⟨sP, sD⟩ := cs_split hw isC isR (by rw [hN]; exact hp) hC
  have hF : ∀ q, va_A ds.flatten H.size q → A q := by
    intro q hq
    rcases hq with ⟨k, x, hk⟩ | h
    · exact (cs_nd.mp sD).2 (q, x) (List.mem_append_left _ (List.mem_of_getElem? hk))
    · exact hA q (Nat.le_trans hw.2.2.1 h)
  refine ⟨fun a U g mk q => ⟨q.1, q.2.1, q.2.2.1, q.2.2.2.1.calling, q.2.2.2.2.1, q.2.2.2.2.2.go (fun _ h => h) (fun _ _ _ => rfl) (Vm.Alike.refl U.vm)⟩, fun U hU hW => ⟨rfl, by rw [hU], ?_, C.2.2.2.1.warm hW, ?_, ?_⟩⟩
  · rw [hU]; exact cs_mem.mpr (fun q hq => cs_mem.mp sP q (List.mem_append_left _ hq))
  · have h1 := (cs_nd.mp sD).1
    rw [List.map_append, List.nodup_append] at h1
    exact cs_nd.mpr ⟨h1.1, fun _ _ => trivial⟩
  · rw [hU]; exact C.2.2.2.2.go hF hw.2.2.2.1 hW.alike
theorem k_preV {nC : Nat} {ds : List va_W} (C : MC p s m args meth c D cI cS A own cc nL ret) (hA : ∀ q, s.heap.size ≤ q → A q) (hw : Wd D A s.heap H locs cs) (isC isR : List Nat) (hN : cs.length = nC) (hp : (isC ++ isR).isPerm (List.range nC) = true) (hC : isC.map (fun i => cs[i]?) = ds.map some) (b : Nat) (As : List Value) {Cn : String} {T : u_T} {N ci : Nat} {fs : List Value} (hc : vwCl[ci]? = some (Cn, T, N)) (he : ds.flatten[0]? = some (b, .inr (ci, fs))) : PreV s H Cn b (va_Pc (.ref b :: As) (KC D cI cS H.size ds)) As := by
  obtain ⟨sP, sD⟩ := cs_split hw isC isR (by rw [hN]; exact hp) hC
  have hq := k_pre C hA hw isC isR hN hp hC (.ref b :: As)
  exact ⟨hq.1, va_recv (q := (Cn, T, N)) C.2.2.2.1.1 (ws := ds.flatten) (q0 := 0) (cs_mem.mpr (fun q hq => cs_mem.mp sP q (List.mem_append_left _ hq))) hc he, hq.2⟩
/-- what a call needs of the tables: its callee's rows -/
def CWd (y : MethodName) (cc : ByteArray) (maxL : Nat) (rt : Option FieldType) (n : Nat) : Prop := Cond.initialized y.cls ∈ TT ∧ Cond.code y cc maxL rt ∈ TT ∧ y.cls ≠ "java/lang/invoke/MethodHandle" ∧ y.cls ≠ "java/lang/invoke/VarHandle" ∧ (parseMethodDescriptor y.desc).map (fun d => d.parameters.length) = some n
def CWv (y : MethodName) (cc : ByteArray) (maxL : Nat) (rt : Option FieldType) (n : Nat) (Cn : String) : Prop := (Cond.instanceMethod y ∈ TT ∧ Cond.selects Cn y y ∈ TT ∧ y.cls = Cn) ∧ CWd y cc maxL rt n
def CWs (y : MethodName) (cc : ByteArray) (maxL : Nat) (rt : Option FieldType) (n : Nat) : Prop := Cond.static y ∈ TT ∧ CWd y cc maxL rt n
theorem CWd.good {y : MethodName} {cc : ByteArray} {maxL : Nat} {rt : Option FieldType} {n : Nat} (h : CWd y cc maxL rt n) : GoodIn TT (Cond.code y cc maxL rt :: TT) := TT_in (fun w hw => by
  rcases List.mem_cons.mp hw with rfl | hw
  · exact h.2.1
  · exact hw)
theorem k_callV {nC : Nat} {ds es : List va_W} (cs' : List va_W) {v : Option Value} {index maxL n b ci N : Nat} {y : MethodName} {bytes : ByteArray} {rt : Option FieldType} {rm : Room} {As : List Value} {Cn : String} {T : u_T} {fs : List Value} {st0 : List Value} (C : MC p s m args meth c D cI cS A own cc nL ret) (hls : ls.size = nL) (hM : CT l D cI cS y bytes maxL rt rm (.ref b :: As) ds v es) (hlk : Cond.methodLink own index y ∈ TT) (hcw : CWv y bytes maxL rt n Cn) (hrc : rm.cells = 0) (hrs : rm.slots = 0)
    (hR : rm.frames + 1 ≤ R.frames ∧ 8 + (maxL + 11) + rm.locals ≤ R.locals) (hn : As.length = n) (hc : vwCl[ci]? = some (Cn, T, N)) (he : ds.flatten[0]? = some (b, .inr (ci, fs))) (hst : st0 = As.reverse ++ .ref b :: rest) (hro : (rest.map fun v => v.category).sum ≤ 8)
    (hA : ∀ q, s.heap.size ≤ q → A q) (hw : Wd D A s.heap H locs cs) (isC isR : List Nat) (hN : cs.length = nC) (hp : (isC ++ isR).isPerm (List.range nC) = true) (hC : isC.map (fun i => cs[i]?) = ds.map some) (hC' : isC.map (fun i => cs'[i]?) = es.map some) (hR' : isR.map (fun i => cs'[i]?) = isR.map (fun i => cs[i]?)) (hl : cs'.length = cs.length) (hdg : decode cc pc = .ok (.invokevirtual index, 3))
    (kk : ∀ (H1 : Heap) (locs1 : List Loc), Wd D A s.heap H1 locs1 cs' → W p l e R s m args below meth c H1 locs1 0 0 Q (F0 m (pc + 3) ls (v.toList ++ rest))) : W p l e R s m args below meth c H locs 0 0 Q (F0 m pc ls st0) := by
  have hT : GoodIn TT (wsV own index Cn y (Cond.code y bytes maxL rt :: TT)) := TT_in (fun w hw => by
    rcases List.mem_append.mp hw with h | h
    · simp only [List.mem_cons, List.not_mem_nil, or_false] at h
      rcases h with rfl | rfl | rfl | rfl
      · exact hlk
      · exact hcw.1.1
      · exact hcw.1.2.1
      · exact hcw.1.2.2 ▸ hcw.2.1
    · exact (hcw.2.good w h).1)
  exact k_back (va_runV C.1 (hM H.size) (cwV n C.1.2.2.2.2 hT rfl hrc hrs ⟨hcw.1.2.2, hcw.2.2.2⟩ hR) (k_preV C hA hw isC isR hN hp hC b As hc he) rfl hn hls hst (lv_room hro) hdg ⟨Nat.zero_le _, Nat.zero_le _⟩) hA hw isC isR hN hp hC hC' hR' hl kk
theorem k_callS {nC : Nat} {ds es : List va_W} (cs' : List va_W) {v : Option Value} {index maxL n : Nat} {y : MethodName} {bytes : ByteArray} {rt : Option FieldType} {rm : Room} {As : List Value} {st0 : List Value} (C : MC p s m args meth c D cI cS A own cc nL ret) (hls : ls.size = nL) (hM : CT l D cI cS y bytes maxL rt rm As ds v es) (hlk : Cond.methodLink own index y ∈ TT) (hcw : CWs y bytes maxL rt n) (hrc : rm.cells = 0) (hrs : rm.slots = 0)
    (hR : rm.frames + 1 ≤ R.frames ∧ 8 + (maxL + 11) + rm.locals ≤ R.locals) (hn : As.length = n) (hst : st0 = As.reverse ++ rest) (hro : (rest.map fun v => v.category).sum ≤ 8)
    (hA : ∀ q, s.heap.size ≤ q → A q) (hw : Wd D A s.heap H locs cs) (isC isR : List Nat) (hN : cs.length = nC) (hp : (isC ++ isR).isPerm (List.range nC) = true) (hC : isC.map (fun i => cs[i]?) = ds.map some) (hC' : isC.map (fun i => cs'[i]?) = es.map some) (hR' : isR.map (fun i => cs'[i]?) = isR.map (fun i => cs[i]?)) (hl : cs'.length = cs.length) (hdg : decode cc pc = .ok (.invokestatic index, 3))
    (kk : ∀ (H1 : Heap) (locs1 : List Loc), Wd D A s.heap H1 locs1 cs' → W p l e R s m args below meth c H1 locs1 0 0 Q (F0 m (pc + 3) ls (v.toList ++ rest))) : W p l e R s m args below meth c H locs 0 0 Q (F0 m pc ls st0) :=
  k_back (va_runS C.1 (hM H.size) ⟨callB_of n C.1.2.2.2.2 hcw.2.good rfl hrc hrs (C.1.2.2.2.2 _ hcw.2.1) (C.1.2.2.2.2 _ hlk) hcw.2.2.2 hR, C.1.2.2.2.2 _ hcw.1⟩ (k_pre C hA hw isC isR hN hp hC As) rfl hn hls hst (lv_room hro) hdg ⟨Nat.zero_le _, Nat.zero_le _⟩) hA hw isC isR hN hp hC hC' hR' hl kk
theorem k_callSN {nC : Nat} {ds es : List va_W} (cs' : List va_W) {v : Option Value} {index maxL n : Nat} {y : MethodName} {bytes : ByteArray} {rt : Option FieldType} {rm : Room} {As : List Value} {host : String} {st0 : List Value} (C : MC p s m args meth c D cI cS A own cc nL ret) (hls : ls.size = nL) (hM : CT l D cI cS y bytes maxL rt rm As ds v es) (hnl : va_Nw (.methodLinkNest own index y host) s) (hcw : CWs y bytes maxL rt n) (hrc : rm.cells = 0) (hrs : rm.slots = 0)
    (hR : rm.frames + 1 ≤ R.frames ∧ 8 + (maxL + 11) + rm.locals ≤ R.locals) (hn : As.length = n) (hst : st0 = As.reverse ++ rest) (hro : (rest.map fun v => v.category).sum ≤ 8)
    (hA : ∀ q, s.heap.size ≤ q → A q) (hw : Wd D A s.heap H locs cs) (isC isR : List Nat) (hN : cs.length = nC) (hp : (isC ++ isR).isPerm (List.range nC) = true) (hC : isC.map (fun i => cs[i]?) = ds.map some) (hC' : isC.map (fun i => cs'[i]?) = es.map some) (hR' : isR.map (fun i => cs'[i]?) = isR.map (fun i => cs[i]?)) (hl : cs'.length = cs.length) (hdg : decode cc pc = .ok (.invokestatic index, 3))
    (kk : ∀ (H1 : Heap) (locs1 : List Loc), Wd D A s.heap H1 locs1 cs' → W p l e R s m args below meth c H1 locs1 0 0 Q (F0 m (pc + 3) ls (v.toList ++ rest))) : W p l e R s m args below meth c H locs 0 0 Q (F0 m pc ls st0) :=
  k_back (va_runSN C.1 (hM H.size) ⟨va_cnB n C.1.2.2.2.2 hcw.2.good rfl hrc hrs hnl (C.1.2.2.2.2 _ hcw.2.1) hcw.2.2.2 hR, C.1.2.2.2.2 _ hcw.1, trivial⟩ (k_pre C hA hw isC isR hN hp hC As) rfl hn hls hst (lv_room hro) hdg ⟨Nat.zero_le _, Nat.zero_le _⟩) hA hw isC isR hN hp hC hC' hR' hl kk
end Rows
