/-! constructors: cells are made -/
def adr (l : List Nat) : Nat → Nat := fun k => l.getD k 0
abbrev SNP : String := "BoxedPapers$Snapshot"
abbrev Zf : Nat → Int32 := fun _ => 0
def NP {σ : Type} (D : va_G) (A : Nat → Prop) (P : σ → Prop) (E : σ → List va_W) : Array Value → State → Outcome → State → Prop := fun _ st oc t => (oc = .returned none ∧ ∃ u, P u ∧ va_P D vwCl (E u).flatten t.heap ∧ va_D A (E u).flatten) ∧ va_F A st t
def CN {σ : Type} (l : Launch) (D : va_G) (cI : ClassId) (cS : GS) (y : MethodName) (cc : ByteArray) (nL : Nat) (rm : Room) (av : List Value) (d : va_W) (P : σ → Prop) (E : σ → List va_W) : Prop :=
  ∀ sz : Nat, Met l y (Cond.code y cc nL none :: TT) rm (va_Pc av (fun U => KC D cI cS sz [d] U ∧ va_AO SNP U)) (NP D (va_A [d].flatten sz) P E) rm.cells rm.slots (va_A [d].flatten sz)
abbrev NQ {σ : Type} (D : va_G) (A : Nat → Prop) (below : List Frame) (args : Array Value) (s : State) (mc ms : Nat) (P : σ → Prop) (E : σ → List va_W) : State → Prop := MQ below (NP D A P E) args s mc ms A
theorem CN.of {σ : Type} {l : Launch} {D : va_G} {cI : ClassId} {cS : GS} {y : MethodName} {rm : Room} {av : List Value} {d : va_W} {P : σ → Prop} {E : σ → List va_W} {cc : ByteArray} {nL : Nat} (own : String) (hy : plainName y.cls = true) (hown : y.cls = own) (hin : y.name = "<init>") (hn : (lg_sl av).length ≤ nL)
    (body : ∀ (p : Program) (e : Env) (s : State) (m : MethodId) (below : List Frame) (meth : Method) (c : Code) (ls : Array Slot) (A : Nat → Prop), MC p s m av.toArray meth c D cI cS A own cc nL none → va_AO SNP s → meth.name = "<init>" → (∀ q, s.heap.size ≤ q → A q) → lv_has ls nL (lv_args 0 av) → Wd D A s.heap s.heap [] [d] →
      W p l e rm s m av.toArray below meth c s.heap [] 0 0 (NQ D A below av.toArray s rm.cells rm.slots P E) (F0 m 0 ls [])) : CN l D cI cS y cc nL rm av d P E := by
  intro sz
  refine Met.ofW (cc := cc) (maxL := nL) (ret := none) hy rfl ?_
  intro p e s m args below meth c s₁ B hml hv
  obtain ⟨rfl, ⟨hsz, hP, hK, hD0, hE⟩, hO⟩ := hv
  subst hsz
  have hts := atoms_spec (ws := Cond.code y cc nL none :: TT) B.pre
  have hfc : s.vm.findClass own = some m.cls := hown ▸ findClass_of_methodNamed B.named
  have hmn : meth.name = "<init>" := (name_of_methodNamed B.named B.method).1.trans hin
  rw [lg_entry_eq]
  exact body p e s m below meth c _ (va_A [d].flatten s.heap.size) ⟨⟨B.exec, B.bytes, hml, hfc, fun w h => hts w (List.mem_cons_of_mem _ h)⟩, B.returns, B.notSynchronized, hK, hE⟩ hO hmn (fun q h => Or.inr h) (lv_entry av hn) ⟨hP, hD0.self, va_S.rf⟩
section Ctor
variable {p : Program} {l : Launch} {e : Env} {R : Room} {s : State} {m : MethodId} {args : Array Value} {below : List Frame} {meth : Method} {c : Code} {H : Heap} {locs : List Loc} {Q : State → Prop} {D : va_G} {cI : ClassId} {cS : GS} {own : String} {cc : ByteArray} {nL : Nat} {ret : Option FieldType} {A : Nat → Prop} {cs : List va_W} {pc : Nat} {ls : Array Slot} {rest : List Value} {cells slots : Nat}
theorem n_vret {σ : Type} {P : σ → Prop} {E : σ → List va_W} {mc ms : Nat} (u : σ) (hu : P u) (C : MC p s m args meth c D cI cS A own cc nL none) (hw : Wd D A s.heap H locs cs) (he : cs.flatten = (E u).flatten) (h1 : cells ≤ mc) (h2 : slots ≤ ms) (hdg : decode cc pc = .ok (.return_, 1)) : W p l e R s m args below meth c H locs cells slots (NQ D A below args s mc ms P E) (F0 m pc ls []) := by
  refine W.widen h1 h2 ?_
  exact W.vret C.1.1 C.1.2.1 C.2.1 (fun t ht hW => ⟨⟨rfl, u, hu, by rw [ht, ← he]; exact hw.1, he ▸ hw.2.1⟩, hw.2.2.F ht⟩) hw.2.2.2.2 hdg C.2.2.1
theorem n_obj (C : MC p s m args meth c D cI cS A own cc nL ret) (hls : ls.size = nL) {index a : Nat} (hm : Cond.methodLink own index Lib.objectInit ∈ TT) (hq : Cond.instanceMethod Lib.objectInit ∈ TT ∧ Cond.code Lib.objectInit ⟨#[0xb1]⟩ 1 none ∈ TT) (hf : 1 ≤ R.frames) (hlo : 2 * 0 + (rest.map fun v => v.category).sum + 12 ≤ R.locals) (hdg : decode cc pc = .ok (.invokespecial index, 3)) (kk : W p l e R s m args below meth c H locs cells slots Q (F0 m (pc + 3) ls rest)) : W p l e R s m args below meth c H locs cells slots Q (F0 m pc ls (.ref a :: rest)) :=
  W.objInit C.1.1 C.1.2.1 C.1.2.2.2.1 (C.1.2.2.2.2 _ hm) (C.1.2.2.2.2 _ hq.1) (C.1.2.2.2.2 _ hq.2) rfl (hls.trans C.1.2.2.1.symm) rfl hdg hf hlo kk
theorem n_putI (C : MC p s m args meth c D cI cS A own cc nL ret) {Cn : String} {T : u_T} {N ci index a : Nat} (hin : ∀ w ∈ u_ws Cn T N, w ∈ TT) (ty0 : Nat → FieldType) (hty : ∀ k, k < N → parseFieldDescriptor (T k).2.2.1 = some (ty0 k)) (hnm : ∀ a, a < N → ∀ b, b < N → a ≠ b → (T a).2.1 ≠ (T b).2.1) (hw : Wd D A s.heap H locs cs) (q0 : Nat) {fs : List Value} (he : cs.flatten[q0]? = some (a, .inr (ci, fs))) (hc : vwCl[ci]? = some (Cn, T, N)) (k : Nat) (hk : k < N) (hm : Cond.fieldLink own index (T k).1 (T k).2.1 (T k).2.2.1 ∈ TT) (hfin : (T k).2.2.2 = false) {v : Int32} (hd : ty0 k = .int) (hl : k < fs.length) (cs' : List va_W) (hcs : cs.flatten.set q0 (a, .inr (ci, fs.set k (.int v))) = cs'.flatten) (hdg : decode cc pc = .ok (.putfield index, 3))
    (kk : ∀ (H1 : Heap) (locs1 : List Loc), Wd D A s.heap H1 locs1 cs' → W p l e R s m args below meth c H1 locs1 cells slots Q (F0 m (pc + 3) ls rest)) : W p l e R s m args below meth c H locs cells slots Q (F0 m pc ls (.int v :: .ref a :: rest)) :=
  va_put C.1.1 C.1.2.1 C.1.2.2.2.2 hin ty0 hty hnm C.1.2.2.2.1 C.2.2.2.1.1 hw.1 hw.2.1 hw.2.2 q0 he hc k hk (C.1.2.2.2.2 _ hm) (fun _ h => h) hfin ((hty k hk).trans (congrArg some hd)) rfl rfl hl hdg
    (fun H1 locs1 h1 h2 h3 => kk H1 locs1 ⟨hcs ▸ h1, hcs ▸ h2, h3⟩)
theorem n_putF (C : MC p s m args meth c D cI cS A own cc nL ret) (hmn : meth.name = "<init>") {Cn : String} {T : u_T} {N ci index a q : Nat} (hin : ∀ w ∈ u_ws Cn T N, w ∈ TT) (ty0 : Nat → FieldType) (hty : ∀ k, k < N → parseFieldDescriptor (T k).2.2.1 = some (ty0 k)) (hnm : ∀ a, a < N → ∀ b, b < N → a ≠ b → (T a).2.1 ≠ (T b).2.1) (hw : Wd D A s.heap H locs cs) (q0 : Nat) {fs : List Value} (he : cs.flatten[q0]? = some (a, .inr (ci, fs))) (hc : vwCl[ci]? = some (Cn, T, N)) (k : Nat) (hk : k < N) (hm : Cond.fieldLink own index (T k).1 (T k).2.1 (T k).2.2.1 ∈ TT) (hfin : (T k).2.2.2 = true) (hdecl : (T k).1 = own) (hn : narrow (ty0 k) (.ref q) = .ref q) (hfit : fits (ty0 k) (.ref q) = true) (hl : k < fs.length) (cs' : List va_W) (hcs : cs.flatten.set q0 (a, .inr (ci, fs.set k (.ref q))) = cs'.flatten) (hdg : decode cc pc = .ok (.putfield index, 3))
    (kk : ∀ (H1 : Heap) (locs1 : List Loc), Wd D A s.heap H1 locs1 cs' → W p l e R s m args below meth c H1 locs1 cells slots Q (F0 m (pc + 3) ls rest)) : W p l e R s m args below meth c H locs cells slots Q (F0 m pc ls (.ref q :: .ref a :: rest)) :=
  va_putF C.1.1 C.1.2.1 C.1.2.2.2.2 hin ty0 hty hnm C.1.2.2.2.1 C.2.2.2.1.1 hw.1 hw.2.1 hw.2.2 q0 he hc k hk (C.1.2.2.2.2 _ hm) (fun _ h => h) hfin hmn hdecl (hty k hk) hn hfit hl hdg
    (fun H1 locs1 h1 h2 h3 => kk H1 locs1 ⟨hcs ▸ h1, hcs ▸ h2, h3⟩)
theorem n_iast (C : MC p s m args meth c D cI cS A own cc nL ret) (hw : Wd D A s.heap H locs cs) (q0 : Nat) {n a : Nat} {f : Nat → Int32} (he : cs.flatten[q0]? = some (a, .inl (cI, n, .inl f))) {i x : Int32} (j : Nat) (hi : i = nI j) (hj : j < n) (hn : n < 2 ^ 31) (cs' : List va_W) (hcs : cs.flatten.set q0 (a, .inl (cI, n, .inl (upd f j x))) = cs'.flatten) (hdg : decode cc pc = .ok (.iastore, 1))
    (kk : ∀ (H1 : Heap) (locs1 : List Loc), Wd D A s.heap H1 locs1 cs' → W p l e R s m args below meth c H1 locs1 cells slots Q (F0 m (pc + 1) ls rest)) : W p l e R s m args below meth c H locs cells slots Q (F0 m pc ls (.int x :: .int i :: .ref a :: rest)) := by
  subst hi
  have hc : (nI j).toNatClampNeg = j := nI_clamp (by omega)
  refine va_iast C.1.1 C.1.2.1 C.2.2.2.1.1 hw.1 hw.2.1 hw.2.2 q0 0 he rfl (vp_in_nI hj hn) hdg (fun H1 locs1 h1 h2 h3 => kk H1 locs1 ⟨?_, ?_, h3⟩)
  · rw [hc, hcs] at h1; exact h1
  · rw [hc, hcs] at h2; exact h2
theorem n_cI {cA : ClassId} (hK : KK D cI cS s) (h : va_K D vwCl ([(cI, .int), (cS.1, .object "BoxedPapers$Snapshot")] ++ [(cA, .int)]) s) : cA = cI := by
  have h1 : s.vm.findClass _ = some cI := (hK.1.2 0 _ rfl).2
  have h2 : s.vm.findClass _ = some cA := (h.2 2 _ rfl).2
  exact Option.some.inj (h2.symm.trans h1)
theorem n_newa (C : MC p s m args meth c D cI cS A own cc nL ret) (hA : ∀ q, s.heap.size ≤ q → A q) (hw : Wd D A s.heap H locs cs) {n : Int32} (N : Nat) (hN : n = nI N) (hl : N ≤ 100000) (harr : Cond.arrayClass .int ∈ TT) (hcells : cells + 1 ≤ R.cells) (hslots : slots + N ≤ R.slots) (hdg : decode cc pc = .ok (.newarray .int, 2))
    (kk : ∀ (q : Nat) (H1 : Heap), Wd D A s.heap H1 locs (cs ++ [ar cI q N Zf]) → W p l e R s m args below meth c H1 locs (cells + 1) (slots + N) Q (F0 m (pc + 2) ls (.ref q :: rest))) : W p l e R s m args below meth c H locs cells slots Q (F0 m pc ls (.int n :: rest)) := by
  subst hN
  refine va_newa (atype := .int) (ty := .int) (a0 := (N, .inl Zf)) C.1.1 C.1.2.1 (C.1.2.2.2.2 _ harr) rfl C.2.2.2.1.1 hw.1 hw.2.1 hw.2.2 hA (fun _ => rfl) (nI_pos (by omega)) (nI_clamp (by omega)) (by show N * 4 ≤ 536870912; omega) hcells hslots hdg (fun q cA H1 hK hP hD hS => ?_)
  have e := n_cI C.2.2.2.1 hK
  subst e
  refine kk q H1 ⟨?_, ?_, hS⟩
  · rw [List.flatten_append]; simpa [ar] using hP
  · rw [List.flatten_append]; simpa [ar] using hD
theorem n_new (C : MC p s m args meth c D cI cS A own cc nL ret) (hA : ∀ q, s.heap.size ≤ q → A q) (hw : Wd D A s.heap H locs cs) {Cn : String} {T : u_T} {N ci index : Nat} (hin : ∀ w ∈ u_ws Cn T N, w ∈ TT) (ty : Nat → FieldType) (hty : ∀ k, k < N → parseFieldDescriptor (T k).2.2.1 = some (ty k)) (hcl : Cond.classLink own index Cn ∈ TT) (hinst : Cond.instantiable Cn N ∈ TT) (hini : Cond.initialized Cn ∈ TT) (hc : vwCl[ci]? = some (Cn, T, N)) (fs : List Value) (hfs : ∀ j, j < N → defaultValue (ty j) = vp_V fs j) (hcells : cells + 1 ≤ R.cells) (hslots : slots + N ≤ R.slots) (hdg : decode cc pc = .ok (.new index, 3))
    (kk : ∀ (q : Nat) (H1 : Heap), Wd D A s.heap H1 locs (cs ++ [[(q, .inr (ci, fs))]]) → W p l e R s m args below meth c H1 locs (cells + 1) (slots + N) Q (F0 m (pc + 3) ls (.ref q :: rest))) : W p l e R s m args below meth c H locs cells slots Q (F0 m pc ls rest) := by
  refine va_new (ci := ci) (fs := fs) C.1.1 C.1.2.1 C.1.2.2.2.2 hin ty hty C.1.2.2.2.1 (C.1.2.2.2.2 _ hcl) (C.1.2.2.2.2 _ hinst) (C.1.2.2.2.2 _ hini) C.2.2.2.1.1 hw.1 hw.2.1 hw.2.2 hA hc hfs hcells hslots hdg (fun q H1 hP hD hS => kk q H1 ⟨?_, ?_, hS⟩)
  · rw [List.flatten_append]; simpa using hP
  · rw [List.flatten_append]; simpa using hD
/-- a constructor's call: the new object is the last chunk -/
theorem n_call {σ : Type} {P : σ → Prop} {E : σ → List va_W} {cs0 : List va_W} {d : va_W} {index maxL n b : Nat} {y : MethodName} {bytes : ByteArray} {rm : Room} {As : List Value} {st0 : List Value} (C : MC p s m args meth c D cI cS A own cc nL ret) (hO : va_AO SNP s) (hA : ∀ q, s.heap.size ≤ q → A q) (hls : ls.size = nL) (hw : Wd D A s.heap H locs (cs0 ++ [d])) (hM : CN l D cI cS y bytes maxL rm (.ref b :: As) d P E) (hlk : Cond.methodLink own index y ∈ TT) (hnm : y.name = "<init>") (hin : Cond.instanceMethod y ∈ TT) (hcw : CWd y bytes maxL none n)
    (hR : rm.frames + 1 ≤ R.frames ∧ 8 + (maxL + 11) + rm.locals ≤ R.locals) (hn : As.length = n) (hst : st0 = As.reverse ++ .ref b :: rest) (hro : (rest.map fun v => v.category).sum ≤ 8) (hcells : cells + rm.cells ≤ R.cells) (hslots : slots + rm.slots ≤ R.slots) (hdg : decode cc pc = .ok (.invokespecial index, 3))
    (kk : ∀ (u : σ) (H1 : Heap) (locs1 : List Loc), P u → Wd D A s.heap H1 locs1 (cs0 ++ E u) → W p l e R s m args below meth c H1 locs1 (cells + rm.cells) (slots + rm.slots) Q (F0 m (pc + 3) ls rest)) : W p l e R s m args below meth c H locs cells slots Q (F0 m pc ls st0) := by
  have ep : ([d].flatten ++ cs0.flatten).Perm (cs0 ++ [d]).flatten := by
    rw [List.flatten_append]; exact List.perm_append_comm
  have sP := cs_P ep.symm hw.1
  have sD := cs_Dp ep.symm hw.2.1
  have hF : ∀ q, va_A [d].flatten H.size q → A q := by
    intro q hq
    rcases hq with ⟨k, x, hk⟩ | h
    · exact (cs_nd.mp sD).2 (q, x) (List.mem_append_left _ (List.mem_of_getElem? hk))
    · exact hA q (Nat.le_trans hw.2.2.1 h)
  have hpre : PreS s H (va_Pc (.ref b :: As) (fun U => KC D cI cS H.size [d] U ∧ va_AO SNP U)) (.ref b :: As) := by
    refine ⟨fun a U g mk q => ⟨q.1, ⟨q.2.1.1, q.2.1.2.1, q.2.1.2.2.1.calling, q.2.1.2.2.2.1, q.2.1.2.2.2.2.go (fun _ h => h) (fun _ _ _ => rfl) (Vm.Alike.refl U.vm)⟩, q.2.2.moved (Vm.Alike.refl U.vm)⟩, fun U hU hW => ⟨rfl, ⟨by rw [hU], ?_, C.2.2.2.1.warm hW, ?_, ?_⟩, hO.moved hW.alike⟩⟩
    · rw [hU]; exact cs_mem.mpr (fun q hq => cs_mem.mp sP q (List.mem_append_left _ hq))
    · have h1 := (cs_nd.mp sD).1
      rw [List.map_append, List.nodup_append] at h1
      exact cs_nd.mpr ⟨h1.1, fun _ _ => trivial⟩
    · rw [hU]; exact C.2.2.2.2.go hF hw.2.2.2.1 hW.alike
  have hr := va_runI C.1 (hM H.size) ⟨callB_of n C.1.2.2.2.2 hcw.good rfl rfl rfl (C.1.2.2.2.2 _ hcw.1) (C.1.2.2.2.2 _ hlk) hcw.2.2 hR, hnm, C.1.2.2.2.2 _ hin⟩ hpre (g := F0 m pc ls st0) rfl hn hls hst (lv_room hro) hdg ⟨hcells, hslots⟩ (locs := locs) (e := e) (below := below) (meth := meth)
  intro T hT X
  obtain ⟨v', st₀, t, T', L, h0, X', hL, e1, e2, ⟨⟨hv, u, hu, hP1, hD1⟩, hz, hk⟩, st⟩ := hr T hT X
  cases hv
  rw [h0] at hz hk
  obtain ⟨jP, jD⟩ := cs_join sP sD hP1 hD1 hF hk
  have e3 : ((E u).flatten ++ cs0.flatten).Perm (cs0 ++ E u).flatten := by
    rw [List.flatten_append]; exact List.perm_append_comm
  have hS : va_S A s.heap t.heap (locs ++ L) := ⟨Nat.le_trans hw.2.2.1 hz, fun q h1 h2 => by rw [hk q (Nat.lt_of_lt_of_le h1 hw.2.2.1) (fun z => h2 (hF q z))]; exact hw.2.2.2.1 q h1 h2, fun q hq => by
      rcases List.mem_append.mp hq with h | h
      · exact hw.2.2.2.2 q h
      · exact hF _ (hL q h)⟩
  obtain ⟨t2, a1, b1⟩ := kk u t.heap (locs ++ L) hu ⟨cs_P e3 jP, cs_Dp e3 jD, hS⟩ T' e1 X'
  exact ⟨t2, st t2 a1, b1⟩
end Ctor
theorem imax0 {N : Nat} (h : N ≤ 100000) : imax (nI N) 0 = nI N := by
  unfold imax
  rw [if_neg (nI_pos (by omega))]
def rmX4_init (N : Nat) : Room := { frames := 1, cells := 3, slots := 3 * N, locals := 21 }
set_option maxRecDepth 100000 in
set_option maxHeartbeats 4000000 in
theorem nX4 {l : Launch} {D : va_G} {cI : ClassId} {cS : GS} {h0 N : Nat} (hN : N ≤ 100000) : CN l D cI cS yX4_init cX4_init 3 (rmX4_init N) [.ref h0, .int (nI N)] [(h0, .inr (4, [.null, .null, .null, .int 0]))] (fun u : Nat → Nat => h0 = u 0) (fun u => [cR cI u N (Zf, Zf, Zf, 0)]) := by
  refine CN.of RX4 (by decide) rfl rfl (Nat.le_of_ble_eq_true rfl) (fun p e s m below meth c ls A C hO hmn hA hl hw => ?_)
  have hx := C.1.1
  have hb := C.1.2.1
  have hl : lv_has ls 3 [(0, .ref h0), (1, .int (nI N))] := hl
  refine lv_aload_n hx hb dX4_init_0 rfl (lv_at hl 0 rfl) ?_
  refine n_obj C hl.1 mL_X4_3 mm_obj (Nat.le_of_ble_eq_true rfl) (Nat.le_of_ble_eq_true rfl) dX4_init_1 ?_
  refine lv_iload_n hx hb dX4_init_4 rfl (lv_at hl 1 rfl) ?_
  refine lv_iconst (v := 0) hx hb dX4_init_5 (by decide) ?_
  refine k_mmax C hl.1 mL_X4_9 mm_max (Nat.le_of_ble_eq_true rfl) (Nat.le_of_ble_eq_true rfl) dX4_init_6 ?_
  refine k_nm (congrArg some (imax0 hN)) ?_
  refine lv_istore_n (lv' := [(2, .int (nI N)), (0, .ref h0), (1, .int (nI N))]) hx hb dX4_init_9 rfl hl (by decide) rfl (fun ls hl => ?_)
  refine lv_aload_n hx hb dX4_init_10 rfl (lv_at hl 1 rfl) ?_
  refine lv_iload_n hx hb dX4_init_11 rfl (lv_at hl 0 rfl) ?_
  refine n_newa C hA hw N rfl hN mA_int (Nat.le_of_ble_eq_true rfl) (show 0 + N ≤ 3 * N by omega) dX4_init_12 (fun q12 H hw12 => ?_)
  refine n_putF C hmn inT_X4 tyX4 tyX4_ok nmX4 hw12 0 rfl rfl 0 (by decide) mF_X4_15 rfl rfl rfl rfl (Nat.le_of_ble_eq_true rfl) [[(h0, .inr (4, [.ref q12, .null, .null, .int 0]))], ar cI q12 N Zf] rfl dX4_init_14 (fun H locs hw14 => ?_)
  refine lv_aload_n hx hb dX4_init_17 rfl (lv_at hl 1 rfl) ?_
  refine lv_iload_n hx hb dX4_init_18 rfl (lv_at hl 0 rfl) ?_
  refine n_newa C hA hw14 N rfl hN mA_int (Nat.le_of_ble_eq_true rfl) (show 0 + N + N ≤ 3 * N by omega) dX4_init_19 (fun q19 H hw19 => ?_)
  refine n_putF C hmn inT_X4 tyX4 tyX4_ok nmX4 hw19 0 rfl rfl 1 (by decide) mF_X4_21 rfl rfl rfl rfl (Nat.le_of_ble_eq_true rfl) [[(h0, .inr (4, [.ref q12, .ref q19, .null, .int 0]))], ar cI q12 N Zf, ar cI q19 N Zf] rfl dX4_init_21 (fun H locs hw21 => ?_)
  refine lv_aload_n hx hb dX4_init_24 rfl (lv_at hl 1 rfl) ?_
  refine lv_iload_n hx hb dX4_init_25 rfl (lv_at hl 0 rfl) ?_
  refine n_newa C hA hw21 N rfl hN mA_int (Nat.le_of_ble_eq_true rfl) (show 0 + N + N + N ≤ 3 * N by omega) dX4_init_26 (fun q26 H hw26 => ?_)
  refine n_putF C hmn inT_X4 tyX4 tyX4_ok nmX4 hw26 0 rfl rfl 2 (by decide) mF_X4_24 rfl rfl rfl rfl (Nat.le_of_ble_eq_true rfl) [[(h0, .inr (4, [.ref q12, .ref q19, .ref q26, .int 0]))], ar cI q12 N Zf, ar cI q19 N Zf, ar cI q26 N Zf] rfl dX4_init_28 (fun H locs hw28 => ?_)
  refine lv_aload_n hx hb dX4_init_31 rfl (lv_at hl 1 rfl) ?_
  refine lv_iconst (v := 0) hx hb dX4_init_32 (by decide) ?_
  refine n_putI C inT_X4 tyX4 tyX4_ok nmX4 hw28 0 rfl rfl 3 (by decide) mF_X4_27 rfl rfl (Nat.le_of_ble_eq_true rfl) [[(h0, .inr (4, [.ref q12, .ref q19, .ref q26, .int 0]))], ar cI q12 N Zf, ar cI q19 N Zf, ar cI q26 N Zf] rfl dX4_init_33 (fun H locs hw33 => ?_)
  exact n_vret (adr [h0, q12, q19, q26]) rfl C hw33 rfl (show 0 + 1 + 1 + 1 ≤ 3 by omega) (show 0 + N + N + N ≤ 3 * N by omega) dX4_init_36
def rmX5_init : Room := { frames := 2, cells := 5, slots := 132, locals := 43 }
set_option maxRecDepth 100000 in
set_option maxHeartbeats 8000000 in
theorem nX5 {l : Launch} {D : va_G} {cI : ClassId} {cS : GS} {h0 : Nat} : CN l D cI cS yX5_init cX5_init 1 rmX5_init [.ref h0] [(h0, .inr (5, [.null, .null, .int 0, .int 0, .int 0]))] (fun u : (Nat → Nat) × (Nat → Nat) => h0 = u.1 0) (fun u => [oX5 u.1 u.2 0 0 0, ar cI (u.1 1) 8 Zf, cR cI u.2 40 (Zf, Zf, Zf, 0)]) := by
  refine CN.of RX5 (by decide) rfl rfl (Nat.le_of_ble_eq_true rfl) (fun p e s m below meth c ls A C hO hmn hA hl hw => ?_)
  have hx := C.1.1
  have hb := C.1.2.1
  have hl : lv_has ls 1 [(0, .ref h0)] := hl
  refine lv_aload_n hx hb dX5_init_0 rfl (lv_at hl 0 rfl) ?_
  refine n_obj C hl.1 mL_X5_3 mm_obj (Nat.le_of_ble_eq_true rfl) (Nat.le_of_ble_eq_true rfl) dX5_init_1 ?_
  refine lv_aload_n hx hb dX5_init_4 rfl (lv_at hl 0 rfl) ?_
  refine lv_bipush (v := 8) hx hb dX5_init_5 (by decide) ?_
  refine n_newa C hA hw 8 rfl (by decide) mA_int (Nat.le_of_ble_eq_true rfl) (Nat.le_of_ble_eq_true rfl) dX5_init_7 (fun q7 H hw7 => ?_)
  have hw7 : Wd D A s.heap H _ [[(h0, .inr (5, [.null, .null, .int 0, .int 0, .int 0]))], ar cI q7 8 Zf] := hw7
  refine n_putF C hmn inT_X5 tyX5 tyX5_ok nmX5 hw7 0 rfl rfl 0 (by decide) mF_X5_9 rfl rfl rfl rfl (Nat.le_of_ble_eq_true rfl) [[(h0, .inr (5, [.ref q7, .null, .int 0, .int 0, .int 0]))], ar cI q7 8 Zf] rfl dX5_init_9 (fun H locs hw9 => ?_)
  refine lv_aload_n hx hb dX5_init_12 rfl (lv_at hl 0 rfl) ?_
  refine n_new (ci := 4) C hA hw9 inT_X4 tyX4 tyX4_ok mJ_X5_15 mN_X4 mI_BoxedPapers_Ranges rfl [.null, .null, .null, .int 0] (fun j hj => by rcases (show j = 0 ∨ j = 1 ∨ j = 2 ∨ j = 3 by omega) with rfl | rfl | rfl | rfl <;> rfl) (Nat.le_of_ble_eq_true rfl) (Nat.le_of_ble_eq_true rfl) dX5_init_13 (fun q13 H hw13 => ?_)
  refine lv_dup hx hb dX5_init_16 rfl ?_
  refine lv_bipush (v := 40) hx hb dX5_init_17 (by decide) ?_
  refine n_call C hO hA hl.1 hw13 (nX4 (h0 := q13) (N := 40) (by decide)) mL_X5_17 rfl mM_X4_init mmX4_init ⟨(Nat.le_of_ble_eq_true rfl), (Nat.le_of_ble_eq_true rfl)⟩ rfl rfl (Nat.le_of_ble_eq_true rfl) (Nat.le_of_ble_eq_true rfl) (Nat.le_of_ble_eq_true rfl) dX5_init_19 (fun u H locs hu hw19 => ?_)
  obtain ⟨u19, eu⟩ : ∃ z, z = u := ⟨_, rfl⟩
  subst eu
  have hu : q13 = u19 0 := hu
  subst hu
  have hw19 : Wd D A s.heap H _ [[(h0, .inr (5, [.ref q7, .null, .int 0, .int 0, .int 0]))], ar cI q7 8 Zf, cR cI u19 40 (Zf, Zf, Zf, 0)] := hw19
  refine n_putF C hmn inT_X5 tyX5 tyX5_ok nmX5 hw19 0 rfl rfl 1 (by decide) mF_X5_20 rfl rfl rfl rfl (Nat.le_of_ble_eq_true rfl) [[(h0, .inr (5, [.ref q7, .ref (u19 0), .int 0, .int 0, .int 0]))], ar cI q7 8 Zf, cR cI u19 40 (Zf, Zf, Zf, 0)] rfl dX5_init_22 (fun H locs hw22 => ?_)
  refine lv_aload_n hx hb dX5_init_25 rfl (lv_at hl 0 rfl) ?_
  refine lv_iconst (v := 0) hx hb dX5_init_26 (by decide) ?_
  refine n_putI C inT_X5 tyX5 tyX5_ok nmX5 hw22 0 rfl rfl 2 (by decide) mF_X5_24 rfl rfl (Nat.le_of_ble_eq_true rfl) [[(h0, .inr (5, [.ref q7, .ref (u19 0), .int 0, .int 0, .int 0]))], ar cI q7 8 Zf, cR cI u19 40 (Zf, Zf, Zf, 0)] rfl dX5_init_27 (fun H locs hw27 => ?_)
  refine lv_aload_n hx hb dX5_init_30 rfl (lv_at hl 0 rfl) ?_
  refine lv_iconst (v := 0) hx hb dX5_init_31 (by decide) ?_
  refine n_putI C inT_X5 tyX5 tyX5_ok nmX5 hw27 0 rfl rfl 3 (by decide) mF_X5_28 rfl rfl (Nat.le_of_ble_eq_true rfl) [[(h0, .inr (5, [.ref q7, .ref (u19 0), .int 0, .int 0, .int 0]))], ar cI q7 8 Zf, cR cI u19 40 (Zf, Zf, Zf, 0)] rfl dX5_init_32 (fun H locs hw32 => ?_)
  refine lv_aload_n hx hb dX5_init_35 rfl (lv_at hl 0 rfl) ?_
  refine lv_iconst (v := 0) hx hb dX5_init_36 (by decide) ?_
  refine n_putI C inT_X5 tyX5 tyX5_ok nmX5 hw32 0 rfl rfl 4 (by decide) mF_X5_31 rfl rfl (Nat.le_of_ble_eq_true rfl) [[(h0, .inr (5, [.ref q7, .ref (u19 0), .int 0, .int 0, .int 0]))], ar cI q7 8 Zf, cR cI u19 40 (Zf, Zf, Zf, 0)] rfl dX5_init_37 (fun H locs hw37 => ?_)
  exact n_vret (adr [h0, q7, 0, 0, 0, 0], u19) rfl C hw37 rfl (Nat.le_of_ble_eq_true rfl) (Nat.le_of_ble_eq_true rfl) dX5_init_40
def rmX0_init : Room := { frames := 2, cells := 18, slots := 706, locals := 43 }
set_option maxRecDepth 100000 in
set_option maxHeartbeats 8000000 in
theorem nX0 {l : Launch} {D : va_G} {cI : ClassId} {cS : GS} {h0 : Nat} : CN l D cI cS yX0_init cX0_init 1 rmX0_init [.ref h0] [(h0, .inr (0, [.null, .null, .null, .null, .null, .null, .int 0]))] (fun u : (Nat → Nat) × (Nat → Nat) × (Nat → Nat) × (Nat → Nat) × (Nat → Nat) => h0 = u.1 0) (fun u => [oX0 u.1 u.2.1 u.2.2.1 u.2.2.2.1 u.2.2.2.2 0, cR cI u.2.1 10 (Zf, Zf, Zf, 0), ar cI (u.1 2) 8 Zf, cR cI u.2.2.1 42 (Zf, Zf, Zf, 0), cR cI u.2.2.2.1 42 (Zf, Zf, Zf, 0), cR cI u.2.2.2.2 100 (Zf, Zf, Zf, 0), ar cI (u.1 6) 100 Zf]) := by
  refine CN.of RX0 (by decide) rfl rfl (Nat.le_of_ble_eq_true rfl) (fun p e s m below meth c ls A C hO hmn hA hl hw => ?_)
  have hx := C.1.1
  have hb := C.1.2.1
  have hl : lv_has ls 1 [(0, .ref h0)] := hl
  refine lv_aload_n hx hb dX0_init_0 rfl (lv_at hl 0 rfl) ?_
  refine n_obj C hl.1 mL_X0_3 mm_obj (Nat.le_of_ble_eq_true rfl) (Nat.le_of_ble_eq_true rfl) dX0_init_1 ?_
  refine lv_aload_n hx hb dX0_init_4 rfl (lv_at hl 0 rfl) ?_
  refine n_new (ci := 4) C hA hw inT_X4 tyX4 tyX4_ok mJ_X0_9 mN_X4 mI_BoxedPapers_Ranges rfl [.null, .null, .null, .int 0] (fun j hj => by rcases (show j = 0 ∨ j = 1 ∨ j = 2 ∨ j = 3 by omega) with rfl | rfl | rfl | rfl <;> rfl) (Nat.le_of_ble_eq_true rfl) (Nat.le_of_ble_eq_true rfl) dX0_init_5 (fun q5 H hw5 => ?_)
  refine lv_dup hx hb dX0_init_8 rfl ?_
  refine lv_bipush (v := 10) hx hb dX0_init_9 (by decide) ?_
  refine n_call C hO hA hl.1 hw5 (nX4 (h0 := q5) (N := 10) (by decide)) mL_X0_11 rfl mM_X4_init mmX4_init ⟨(Nat.le_of_ble_eq_true rfl), (Nat.le_of_ble_eq_true rfl)⟩ rfl rfl (Nat.le_of_ble_eq_true rfl) (Nat.le_of_ble_eq_true rfl) (Nat.le_of_ble_eq_true rfl) dX0_init_11 (fun u H locs hu hw11 => ?_)
  obtain ⟨u11, eu⟩ : ∃ z, z = u := ⟨_, rfl⟩
  subst eu
  have hu : q5 = u11 0 := hu
  subst hu
  have hw11 : Wd D A s.heap H _ [[(h0, .inr (0, [.null, .null, .null, .null, .null, .null, .int 0]))], cR cI u11 10 (Zf, Zf, Zf, 0)] := hw11
  refine n_putF C hmn inT_X0 tyX0 tyX0_ok nmX0 hw11 0 rfl rfl 0 (by decide) mF_X0_14 rfl rfl rfl rfl (Nat.le_of_ble_eq_true rfl) [[(h0, .inr (0, [.ref (u11 0), .null, .null, .null, .null, .null, .int 0]))], cR cI u11 10 (Zf, Zf, Zf, 0)] rfl dX0_init_14 (fun H locs hw14 => ?_)
  refine lv_aload_n hx hb dX0_init_17 rfl (lv_at hl 0 rfl) ?_
  refine lv_bipush (v := 8) hx hb dX0_init_18 (by decide) ?_
  refine n_newa C hA hw14 8 rfl (by decide) mA_int (Nat.le_of_ble_eq_true rfl) (Nat.le_of_ble_eq_true rfl) dX0_init_20 (fun q20 H hw20 => ?_)
  have hw20 : Wd D A s.heap H _ [[(h0, .inr (0, [.ref (u11 0), .null, .null, .null, .null, .null, .int 0]))], cR cI u11 10 (Zf, Zf, Zf, 0), ar cI q20 8 Zf] := hw20
  refine n_putF C hmn inT_X0 tyX0 tyX0_ok nmX0 hw20 0 rfl rfl 1 (by decide) mF_X0_20 rfl rfl rfl rfl (Nat.le_of_ble_eq_true rfl) [[(h0, .inr (0, [.ref (u11 0), .ref q20, .null, .null, .null, .null, .int 0]))], cR cI u11 10 (Zf, Zf, Zf, 0), ar cI q20 8 Zf] rfl dX0_init_22 (fun H locs hw22 => ?_)
  refine lv_aload_n hx hb dX0_init_25 rfl (lv_at hl 0 rfl) ?_
  refine n_new (ci := 4) C hA hw22 inT_X4 tyX4 tyX4_ok mJ_X0_9 mN_X4 mI_BoxedPapers_Ranges rfl [.null, .null, .null, .int 0] (fun j hj => by rcases (show j = 0 ∨ j = 1 ∨ j = 2 ∨ j = 3 by omega) with rfl | rfl | rfl | rfl <;> rfl) (Nat.le_of_ble_eq_true rfl) (Nat.le_of_ble_eq_true rfl) dX0_init_26 (fun q26 H hw26 => ?_)
  refine lv_dup hx hb dX0_init_29 rfl ?_
  refine lv_bipush (v := 42) hx hb dX0_init_30 (by decide) ?_
  refine n_call C hO hA hl.1 hw26 (nX4 (h0 := q26) (N := 42) (by decide)) mL_X0_11 rfl mM_X4_init mmX4_init ⟨(Nat.le_of_ble_eq_true rfl), (Nat.le_of_ble_eq_true rfl)⟩ rfl rfl (Nat.le_of_ble_eq_true rfl) (Nat.le_of_ble_eq_true rfl) (Nat.le_of_ble_eq_true rfl) dX0_init_32 (fun u H locs hu hw32 => ?_)
  obtain ⟨u32, eu⟩ : ∃ z, z = u := ⟨_, rfl⟩
  subst eu
  have hu : q26 = u32 0 := hu
  subst hu
  have hw32 : Wd D A s.heap H _ [[(h0, .inr (0, [.ref (u11 0), .ref q20, .null, .null, .null, .null, .int 0]))], cR cI u11 10 (Zf, Zf, Zf, 0), ar cI q20 8 Zf, cR cI u32 42 (Zf, Zf, Zf, 0)] := hw32
  refine n_putF C hmn inT_X0 tyX0 tyX0_ok nmX0 hw32 0 rfl rfl 2 (by decide) mF_X0_24 rfl rfl rfl rfl (Nat.le_of_ble_eq_true rfl) [[(h0, .inr (0, [.ref (u11 0), .ref q20, .ref (u32 0), .null, .null, .null, .int 0]))], cR cI u11 10 (Zf, Zf, Zf, 0), ar cI q20 8 Zf, cR cI u32 42 (Zf, Zf, Zf, 0)] rfl dX0_init_35 (fun H locs hw35 => ?_)
  refine lv_aload_n hx hb dX0_init_38 rfl (lv_at hl 0 rfl) ?_
  refine n_new (ci := 4) C hA hw35 inT_X4 tyX4 tyX4_ok mJ_X0_9 mN_X4 mI_BoxedPapers_Ranges rfl [.null, .null, .null, .int 0] (fun j hj => by rcases (show j = 0 ∨ j = 1 ∨ j = 2 ∨ j = 3 by omega) with rfl | rfl | rfl | rfl <;> rfl) (Nat.le_of_ble_eq_true rfl) (Nat.le_of_ble_eq_true rfl) dX0_init_39 (fun q39 H hw39 => ?_)
  refine lv_dup hx hb dX0_init_42 rfl ?_
  refine lv_bipush (v := 42) hx hb dX0_init_43 (by decide) ?_
  refine n_call C hO hA hl.1 hw39 (nX4 (h0 := q39) (N := 42) (by decide)) mL_X0_11 rfl mM_X4_init mmX4_init ⟨(Nat.le_of_ble_eq_true rfl), (Nat.le_of_ble_eq_true rfl)⟩ rfl rfl (Nat.le_of_ble_eq_true rfl) (Nat.le_of_ble_eq_true rfl) (Nat.le_of_ble_eq_true rfl) dX0_init_45 (fun u H locs hu hw45 => ?_)
  obtain ⟨u45, eu⟩ : ∃ z, z = u := ⟨_, rfl⟩
  subst eu
  have hu : q39 = u45 0 := hu
  subst hu
  have hw45 : Wd D A s.heap H _ [[(h0, .inr (0, [.ref (u11 0), .ref q20, .ref (u32 0), .null, .null, .null, .int 0]))], cR cI u11 10 (Zf, Zf, Zf, 0), ar cI q20 8 Zf, cR cI u32 42 (Zf, Zf, Zf, 0), cR cI u45 42 (Zf, Zf, Zf, 0)] := hw45
  refine n_putF C hmn inT_X0 tyX0 tyX0_ok nmX0 hw45 0 rfl rfl 3 (by decide) mF_X0_27 rfl rfl rfl rfl (Nat.le_of_ble_eq_true rfl) [[(h0, .inr (0, [.ref (u11 0), .ref q20, .ref (u32 0), .ref (u45 0), .null, .null, .int 0]))], cR cI u11 10 (Zf, Zf, Zf, 0), ar cI q20 8 Zf, cR cI u32 42 (Zf, Zf, Zf, 0), cR cI u45 42 (Zf, Zf, Zf, 0)] rfl dX0_init_48 (fun H locs hw48 => ?_)
  refine lv_aload_n hx hb dX0_init_51 rfl (lv_at hl 0 rfl) ?_
  refine n_new (ci := 4) C hA hw48 inT_X4 tyX4 tyX4_ok mJ_X0_9 mN_X4 mI_BoxedPapers_Ranges rfl [.null, .null, .null, .int 0] (fun j hj => by rcases (show j = 0 ∨ j = 1 ∨ j = 2 ∨ j = 3 by omega) with rfl | rfl | rfl | rfl <;> rfl) (Nat.le_of_ble_eq_true rfl) (Nat.le_of_ble_eq_true rfl) dX0_init_52 (fun q52 H hw52 => ?_)
  refine lv_dup hx hb dX0_init_55 rfl ?_
  refine lv_bipush (v := 100) hx hb dX0_init_56 (by decide) ?_
  refine n_call C hO hA hl.1 hw52 (nX4 (h0 := q52) (N := 100) (by decide)) mL_X0_11 rfl mM_X4_init mmX4_init ⟨(Nat.le_of_ble_eq_true rfl), (Nat.le_of_ble_eq_true rfl)⟩ rfl rfl (Nat.le_of_ble_eq_true rfl) (Nat.le_of_ble_eq_true rfl) (Nat.le_of_ble_eq_true rfl) dX0_init_58 (fun u H locs hu hw58 => ?_)
  obtain ⟨u58, eu⟩ : ∃ z, z = u := ⟨_, rfl⟩
  subst eu
  have hu : q52 = u58 0 := hu
  subst hu
  have hw58 : Wd D A s.heap H _ [[(h0, .inr (0, [.ref (u11 0), .ref q20, .ref (u32 0), .ref (u45 0), .null, .null, .int 0]))], cR cI u11 10 (Zf, Zf, Zf, 0), ar cI q20 8 Zf, cR cI u32 42 (Zf, Zf, Zf, 0), cR cI u45 42 (Zf, Zf, Zf, 0), cR cI u58 100 (Zf, Zf, Zf, 0)] := hw58
  refine n_putF C hmn inT_X0 tyX0 tyX0_ok nmX0 hw58 0 rfl rfl 4 (by decide) mF_X0_30 rfl rfl rfl rfl (Nat.le_of_ble_eq_true rfl) [[(h0, .inr (0, [.ref (u11 0), .ref q20, .ref (u32 0), .ref (u45 0), .ref (u58 0), .null, .int 0]))], cR cI u11 10 (Zf, Zf, Zf, 0), ar cI q20 8 Zf, cR cI u32 42 (Zf, Zf, Zf, 0), cR cI u45 42 (Zf, Zf, Zf, 0), cR cI u58 100 (Zf, Zf, Zf, 0)] rfl dX0_init_61 (fun H locs hw61 => ?_)
  refine lv_aload_n hx hb dX0_init_64 rfl (lv_at hl 0 rfl) ?_
  refine lv_bipush (v := 100) hx hb dX0_init_65 (by decide) ?_
  refine n_newa C hA hw61 100 rfl (by decide) mA_int (Nat.le_of_ble_eq_true rfl) (Nat.le_of_ble_eq_true rfl) dX0_init_67 (fun q67 H hw67 => ?_)
  have hw67 : Wd D A s.heap H _ [[(h0, .inr (0, [.ref (u11 0), .ref q20, .ref (u32 0), .ref (u45 0), .ref (u58 0), .null, .int 0]))], cR cI u11 10 (Zf, Zf, Zf, 0), ar cI q20 8 Zf, cR cI u32 42 (Zf, Zf, Zf, 0), cR cI u45 42 (Zf, Zf, Zf, 0), cR cI u58 100 (Zf, Zf, Zf, 0), ar cI q67 100 Zf] := hw67
  refine n_putF C hmn inT_X0 tyX0 tyX0_ok nmX0 hw67 0 rfl rfl 5 (by decide) mF_X0_33 rfl rfl rfl rfl (Nat.le_of_ble_eq_true rfl) [[(h0, .inr (0, [.ref (u11 0), .ref q20, .ref (u32 0), .ref (u45 0), .ref (u58 0), .ref q67, .int 0]))], cR cI u11 10 (Zf, Zf, Zf, 0), ar cI q20 8 Zf, cR cI u32 42 (Zf, Zf, Zf, 0), cR cI u45 42 (Zf, Zf, Zf, 0), cR cI u58 100 (Zf, Zf, Zf, 0), ar cI q67 100 Zf] rfl dX0_init_69 (fun H locs hw69 => ?_)
  refine lv_aload_n hx hb dX0_init_72 rfl (lv_at hl 0 rfl) ?_
  refine lv_iconst (v := 0) hx hb dX0_init_73 (by decide) ?_
  refine n_putI C inT_X0 tyX0 tyX0_ok nmX0 hw69 0 rfl rfl 6 (by decide) mF_X0_36 rfl rfl (Nat.le_of_ble_eq_true rfl) [[(h0, .inr (0, [.ref (u11 0), .ref q20, .ref (u32 0), .ref (u45 0), .ref (u58 0), .ref q67, .int 0]))], cR cI u11 10 (Zf, Zf, Zf, 0), ar cI q20 8 Zf, cR cI u32 42 (Zf, Zf, Zf, 0), cR cI u45 42 (Zf, Zf, Zf, 0), cR cI u58 100 (Zf, Zf, Zf, 0), ar cI q67 100 Zf] rfl dX0_init_74 (fun H locs hw74 => ?_)
  exact n_vret (adr [h0, 0, q20, 0, 0, 0, q67, 0], u11, u32, u45, u58) rfl C hw74 rfl (Nat.le_of_ble_eq_true rfl) (Nat.le_of_ble_eq_true rfl) dX0_init_77
theorem n_get {p : Program} {l : Launch} {e : Env} {R : Room} {s : State} {m : MethodId} {args : Array Value} {below : List Frame} {meth : Method} {c : Code} {H : Heap} {locs : List Loc} {Q : State → Prop} {D : va_G} {cI : ClassId} {cS : GS} {own : String} {cc : ByteArray} {nL : Nat} {ret : Option FieldType} {A : Nat → Prop} {cs : List va_W} {pc : Nat} {ls : Array Slot} {rest : List Value} {cells slots : Nat} (C : MC p s m args meth c D cI cS A own cc nL ret) {Cn : String} {T : u_T} {N ci index a : Nat} (hin : ∀ w ∈ u_ws Cn T N, w ∈ TT) (hw : Wd D A s.heap H locs cs) (q0 : Nat) {fs : List Value} (he : cs.flatten[q0]? = some (a, .inr (ci, fs))) (hc : vwCl[ci]? = some (Cn, T, N)) (k : Nat) (hk : k < N) (hm : Cond.fieldLink own index (T k).1 (T k).2.1 (T k).2.2.1 ∈ TT) {v : Value} (hv : fs[k]? = some v) (hdg : decode cc pc = .ok (.getfield index, 3))
    (kk : W p l e R s m args below meth c H locs cells slots Q (F0 m (pc + 3) ls (v :: rest))) : W p l e R s m args below meth c H locs cells slots Q (F0 m pc ls (.ref a :: rest)) :=
  va_get C.1.1 C.1.2.1 C.1.2.2.2.2 hin C.1.2.2.2.1 C.2.2.2.1.1 hw.1 q0 he hc k hk (C.1.2.2.2.2 _ hm) (fun _ h => h) hv hdg kk
theorem Wd.perm {D : va_G} {A : Nat → Prop} {H0 H : Heap} {locs : List Loc} {cs cs' : List va_W} (h : Wd D A H0 H locs cs) (hp : cs.flatten.Perm cs'.flatten) : Wd D A H0 H locs cs' := ⟨cs_P hp h.1, cs_Dp hp h.2.1, h.2.2⟩
def V0 : Nat → Sn := fun _ => (Zf, (Zf, Zf, Zf, 0), 0, 0, 0)
def slI (cS : GS) (q : Nat) (as : Nat → Nat → Nat) (i : Nat) : va_W := [(q, .inl (cS.1, 9, .inr (.inr (.inr (.inr (fun j => if j < i then some (as j 0) else none))))))]
def asU (as : Nat → Nat → Nat) (i : Nat) (u v : Nat → Nat) : Nat → Nat → Nat := fun k => if k = i then u else if k = 100 + i then v else as k
theorem cSn_asU (cI : ClassId) (as : Nat → Nat → Nat) (i : Nat) (hi : i < 9) (u v : Nat → Nat) : cSn cI (asU as i u v) V0 (List.range (i + 1)) = cSn cI as V0 (List.range i) ++ [oX5 u v 0 0 0, ar cI (u 1) 8 Zf, cR cI v 40 (Zf, Zf, Zf, 0)].flatten := by
  unfold cSn
  rw [List.range_succ, List.flatMap_append]
  congr 1
  · rw [List.flatMap_def, List.flatMap_def]
    congr 1
    refine List.map_congr_left (fun j hj => ?_)
    have hj := List.mem_range.mp hj
    have e1 : asU as i u v j = as j := by unfold asU; rw [if_neg (by omega), if_neg (by omega)]
    have e2 : asU as i u v (100 + j) = as (100 + j) := by unfold asU; rw [if_neg (by omega), if_neg (by omega)]
    rw [e1, e2]
  · have e1 : asU as i u v i = u := by unfold asU; rw [if_pos rfl]
    have e2 : asU as i u v (100 + i) = v := by unfold asU; rw [if_neg (by omega), if_pos rfl]
    rw [List.flatMap_cons, List.flatMap_nil, List.append_nil, e1, e2]
    rfl
theorem slI_asU (cS : GS) (q : Nat) (as : Nat → Nat → Nat) (i : Nat) (hi : i < 9) (u v : Nat → Nat) : ([(q, .inl (cS.1, 9, .inr (.inr (.inr (.inr (va_up (fun j => if j < i then some (as j 0) else none) i (some (u 0))))))))] : va_W) = slI cS q (asU as i u v) (i + 1) := by
  unfold slI
  have e : va_up (fun j => if j < i then some (as j 0) else none) i (some (u 0)) = (fun j => if j < i + 1 then some (asU as i u v j 0) else none) := by
    funext j
    unfold va_up asU
    by_cases h1 : j = i
    · subst h1; simp
    · rw [if_neg h1]
      show (if j < i then some (as j 0) else none) = _
      by_cases h2 : j < i
      · rw [if_pos h2, if_pos (by omega), if_neg h1, if_neg (by omega)]
      · rw [if_neg h2, if_neg (by omega)]
  rw [e]
def rmX1_init : Room := { frames := 3, cells := 55, slots := 1242, locals := 63 }
set_option maxRecDepth 100000 in
set_option maxHeartbeats 4000000 in
theorem nX1_loop {p : Program} {l : Launch} {e : Env} {s : State} {m : MethodId} {args : Array Value} {below : List Frame} {meth : Method} {c : Code} {D : va_G} {cI : ClassId} {cS : GS} {A : Nat → Prop} {h0 q : Nat} (C : MC p s m args meth c D cI cS A RX1 cX1_init 2 none) (hO : va_AO SNP s) (hA : ∀ q, s.heap.size ≤ q → A q) :
    ∀ (n i : Nat) (as : Nat → Nat → Nat) (H : Heap) (locs : List Loc) (ls : Array Slot), i ≤ 9 → 9 < i + n → Wd D A s.heap H locs [[(h0, .inr (1, [.ref q, .int 0, .int 0]))], slI cS q as i, cSn cI as V0 (List.range i)] → lv_has ls 2 [(0, .ref h0), (1, .int (nI i))] →
      W p l e rmX1_init s m args below meth c H locs (1 + 6 * i) (9 + 137 * i) (NQ D A below args s rmX1_init.cells rmX1_init.slots (fun u : (Nat → Nat) × (Nat → Nat → Nat) => h0 = u.1 0) (fun u => [oX1 u.1 0 0, cSl cI cS (u.1 1) u.2 (fun _ => (Zf, (Zf, Zf, Zf, 0), 0, 0, 0))])) (F0 m 15 ls []) := by
  have hx := C.1.1
  have hb := C.1.2.1
  intro n
  induction n with
  | zero => intro i as H locs ls h1 h2; omega
  | succ n ih =>
    intro i as H locs ls hi hn hw hl
    refine lv_iload_n hx hb dX1_init_15 rfl (lv_at hl 1 rfl) ?_
    refine lv_aload_n hx hb dX1_init_16 rfl (lv_at hl 0 rfl) ?_
    refine n_get C inT_X1 hw 0 rfl rfl 0 (by decide) mF_X1_11 rfl dX1_init_17 ?_
    refine va_alen hx hb C.2.2.2.1.1 hw.1 1 1 rfl rfl (v := nI 9) rfl dX1_init_20 ?_
    refine lv_icmp_ge (tgt := 43) hx hb dX1_init_21 (by decide) (fun c21 => ?_) (fun c21 => ?_)
    · have e9 : i = 9 := by
        rcases Nat.lt_or_ge i 9 with h | h
        · exact absurd c21 (nI_ge h (by omega))
        · omega
      subst e9
      refine lv_aload_n hx hb dX1_init_43 rfl (lv_at hl 0 rfl) ?_
      refine lv_iconst (v := 0) hx hb dX1_init_44 (by decide) ?_
      refine n_putI C inT_X1 tyX1 tyX1_ok nmX1 hw 0 rfl rfl 1 (by decide) mF_X1_18 rfl rfl (Nat.le_of_ble_eq_true rfl) [[(h0, .inr (1, [.ref q, .int 0, .int 0]))], slI cS q as 9, cSn cI as V0 (List.range 9)] rfl dX1_init_45 (fun H locs hw45 => ?_)
      refine lv_aload_n hx hb dX1_init_48 rfl (lv_at hl 0 rfl) ?_
      refine lv_iconst (v := 0) hx hb dX1_init_49 (by decide) ?_
      refine n_putI C inT_X1 tyX1 tyX1_ok nmX1 hw45 0 rfl rfl 2 (by decide) mF_X1_22 rfl rfl (Nat.le_of_ble_eq_true rfl) [[(h0, .inr (1, [.ref q, .int 0, .int 0]))], slI cS q as 9, cSn cI as V0 (List.range 9)] rfl dX1_init_50 (fun H locs hw50 => ?_)
      exact n_vret (adr [h0, q], as) rfl C hw50 rfl (Nat.le_of_ble_eq_true rfl) (Nat.le_of_ble_eq_true rfl) dX1_init_53
    · have hi9 : i < 9 := by
        rcases Nat.lt_or_ge i 9 with h | h
        · exact h
        · exact absurd (nI_le h (by omega)) c21
      refine lv_aload_n hx hb dX1_init_24 rfl (lv_at hl 0 rfl) ?_
      refine n_get C inT_X1 hw 0 rfl rfl 0 (by decide) mF_X1_11 rfl dX1_init_25 ?_
      refine lv_iload_n hx hb dX1_init_28 rfl (lv_at hl 1 rfl) ?_
      refine n_new (ci := 5) C hA hw inT_X5 tyX5 tyX5_ok mJ_X1_9 mN_X5 mI_BoxedPapers_Snapshot rfl [.null, .null, .int 0, .int 0, .int 0] (fun j hj => by rcases (show j = 0 ∨ j = 1 ∨ j = 2 ∨ j = 3 ∨ j = 4 by omega) with rfl | rfl | rfl | rfl | rfl <;> rfl) (show 1 + 6 * i + 1 ≤ 55 by omega) (show 9 + 137 * i + 5 ≤ 1242 by omega) dX1_init_29 (fun q29 H hw29 => ?_)
      refine lv_dup hx hb dX1_init_32 rfl ?_
      refine n_call C hO hA hl.1 hw29 (nX5 (h0 := q29)) mL_X1_17 rfl mM_X5_init mmX5_init ⟨Nat.le_of_ble_eq_true rfl, Nat.le_of_ble_eq_true rfl⟩ rfl rfl (Nat.le_of_ble_eq_true rfl) (show 1 + 6 * i + 1 + 5 ≤ 55 by omega) (show 9 + 137 * i + 5 + 132 ≤ 1242 by omega) dX1_init_33 (fun u H locs hu hw33 => ?_)
      obtain ⟨u, v⟩ := u
      have hu : q29 = u 0 := hu
      subst hu
      have hw33 : Wd D A s.heap H locs [[(h0, .inr (1, [.ref q, .int 0, .int 0]))], slI cS q as i, cSn cI as V0 (List.range i), oX5 u v 0 0 0, ar cI (u 1) 8 Zf, cR cI v 40 (Zf, Zf, Zf, 0)] := hw33
      have hw34 : Wd D A s.heap H locs [[(h0, .inr (1, [.ref q, .int 0, .int 0]))], slI cS q as i, oX5 u v 0 0 0, ar cI (u 1) 8 Zf, cR cI v 40 (Zf, Zf, Zf, 0), cSn cI as V0 (List.range i)] := hw33.perm (by
        simp only [List.flatten_cons, List.flatten_nil, List.append_nil]
        refine List.Perm.append_left _ (List.Perm.append_left _ ?_)
        have := @List.perm_append_comm _ (cSn cI as V0 (List.range i)) (oX5 u v 0 0 0 ++ (ar cI (u 1) 8 Zf ++ cR cI v 40 (Zf, Zf, Zf, 0)))
        simpa only [List.append_assoc] using this)
      refine va_astq (n := 9) (f := fun j => if j < i then some (as j 0) else none) hx hb C.2.2.2.1.1 hw34.1 hw34.2.1 hw34.2.2 1 1 2 5 rfl rfl rfl rfl (vp_in_nI hi9 (by omega)) dX1_init_36 (fun H locs hP hD hS => ?_)
      rw [nI_clamp (show i < 2 ^ 31 by omega)] at hP hD
      have hw36 : Wd D A s.heap H locs [[(h0, .inr (1, [.ref q, .int 0, .int 0]))], [(q, .inl (cS.1, 9, .inr (.inr (.inr (.inr (va_up (fun j => if j < i then some (as j 0) else none) i (some (u 0))))))))], oX5 u v 0 0 0, ar cI (u 1) 8 Zf, cR cI v 40 (Zf, Zf, Zf, 0), cSn cI as V0 (List.range i)] := ⟨hP, hD, hS⟩
      rw [slI_asU cS q as i hi9 u v] at hw36
      have hw37 : Wd D A s.heap H locs [[(h0, .inr (1, [.ref q, .int 0, .int 0]))], slI cS q (asU as i u v) (i + 1), cSn cI (asU as i u v) V0 (List.range (i + 1))] := hw36.perm (by
        rw [cSn_asU cI as i hi9 u v]
        simp only [List.flatten_cons, List.flatten_nil, List.append_nil]
        refine List.Perm.append_left _ (List.Perm.append_left _ ?_)
        have := @List.perm_append_comm _ (oX5 u v 0 0 0 ++ (ar cI (u 1) 8 Zf ++ cR cI v 40 (Zf, Zf, Zf, 0))) (cSn cI as V0 (List.range i))
        simpa only [List.append_assoc] using this)
      refine lv_iinc (v := nI (i + 1)) (lv' := [(1, .int (nI (i + 1))), (0, .ref h0)]) hx hb dX1_init_37 hl (k := 1) rfl (nI_1 i) (by decide) rfl (fun ls hl => ?_)
      refine lv_goto (tgt := 15) hx hb dX1_init_40 (by decide) ?_
      refine W.widen (k := 1 + 6 * (i + 1)) (n := 9 + 137 * (i + 1)) (show 1 + 6 * i + 1 + 5 ≤ 1 + 6 * (i + 1) by omega) (show 9 + 137 * i + 5 + 132 ≤ 9 + 137 * (i + 1) by omega) ?_
      exact ih (i + 1) (asU as i u v) H locs ls (by omega) (by omega) hw37 (lv_sub hl [1, 0] rfl)
set_option maxRecDepth 100000 in
set_option maxHeartbeats 4000000 in
theorem nX1 {l : Launch} {D : va_G} {cI : ClassId} {cS : GS} {h0 : Nat} : CN l D cI cS yX1_init cX1_init 2 rmX1_init [.ref h0] [(h0, .inr (1, [.null, .int 0, .int 0]))] (fun u : (Nat → Nat) × (Nat → Nat → Nat) => h0 = u.1 0) (fun u => [oX1 u.1 0 0, cSl cI cS (u.1 1) u.2 (fun _ => (Zf, (Zf, Zf, Zf, 0), 0, 0, 0))]) := by
  refine CN.of RX1 (by decide) rfl rfl (Nat.le_of_ble_eq_true rfl) (fun p e s m below meth c ls A C hO hmn hA hl hw => ?_)
  have hx := C.1.1
  have hb := C.1.2.1
  have hl : lv_has ls 2 [(0, .ref h0)] := hl
  refine lv_aload_n hx hb dX1_init_0 rfl (lv_at hl 0 rfl) ?_
  refine n_obj C hl.1 mL_X1_3 mm_obj (Nat.le_of_ble_eq_true rfl) (Nat.le_of_ble_eq_true rfl) dX1_init_1 ?_
  refine lv_aload_n hx hb dX1_init_4 rfl (lv_at hl 0 rfl) ?_
  refine lv_bipush (v := 9) hx hb dX1_init_5 (by decide) ?_
  refine va_newq (C := SNP) hx hb C.1.2.2.2.1 (C.1.2.2.2.2 _ mJ_X1_9) hO C.2.2.2.1.1 hw.1 hw.2.1 hw.2.2 hA (N' := 9) (by decide) (by decide) (Nat.le_of_ble_eq_true rfl) (Nat.le_of_ble_eq_true rfl) (Nat.le_of_ble_eq_true rfl) dX1_init_7 (fun q cA H hK hP hD hS => ?_)
  have ec : cA = cS.1 := by
    obtain ⟨k1, m1, h1, h2, h3, h4⟩ := (C.2.2.2.1.1.2 1 _ rfl).2
    obtain ⟨k2, m2, g1, g2, g3, g4⟩ := (hK.2 2 _ rfl).2
    exact Option.some.inj (g4.symm.trans h4)
  subst ec
  have hw7 : Wd D A s.heap H [] [[(h0, .inr (1, [.null, .int 0, .int 0]))], [(q, .inl (cS.1, 9, .inr (.inr (.inr (.inr (fun _ => none))))))]] := ⟨hP, hD, hS⟩
  refine n_putF C hmn inT_X1 tyX1 tyX1_ok nmX1 hw7 0 rfl rfl 0 (by decide) mF_X1_11 rfl rfl rfl rfl (Nat.le_of_ble_eq_true rfl) [[(h0, .inr (1, [.ref q, .int 0, .int 0]))], [(q, .inl (cS.1, 9, .inr (.inr (.inr (.inr (fun _ => none))))))]] rfl dX1_init_10 (fun H locs hw10 => ?_)
  refine lv_iconst (v := 0) hx hb dX1_init_13 (by decide) ?_
  refine lv_istore_n (lv' := [(1, .int 0), (0, .ref h0)]) hx hb dX1_init_14 rfl hl (by decide) rfl (fun ls hl => ?_)
  have hw14 : Wd D A s.heap H locs [[(h0, .inr (1, [.ref q, .int 0, .int 0]))], slI cS q (fun _ _ => 0) 0, cSn cI (fun _ _ => 0) V0 (List.range 0)] := by
    have e : slI cS q (fun _ _ => 0) 0 = [(q, .inl (cS.1, 9, .inr (.inr (.inr (.inr (fun _ => none))))))] := by
      unfold slI
      simp
    rw [e]
    exact hw10
  exact nX1_loop C hO hA 10 0 (fun _ _ => 0) H locs ls (by omega) (by omega) hw14 (lv_sub hl [1, 0] rfl)
def rmX2_init : Room := { frames := 1, cells := 1, slots := 200, locals := 21 }
set_option maxRecDepth 100000 in
set_option maxHeartbeats 8000000 in
theorem nX2 {l : Launch} {D : va_G} {cI : ClassId} {cS : GS} {h0 : Nat} : CN l D cI cS yX2_init cX2_init 1 rmX2_init [.ref h0] [(h0, .inr (2, [.null, .int 0, .int 0]))] (fun u : (Nat → Nat) => h0 = u 0) (fun u => [oX2 u 0 (-1), ar cI (u 1) 200 Zf]) := by
  refine CN.of RX2 (by decide) rfl rfl (Nat.le_of_ble_eq_true rfl) (fun p e s m below meth c ls A C hO hmn hA hl hw => ?_)
  have hx := C.1.1
  have hb := C.1.2.1
  have hl : lv_has ls 1 [(0, .ref h0)] := hl
  refine lv_aload_n hx hb dX2_init_0 rfl (lv_at hl 0 rfl) ?_
  refine n_obj C hl.1 mL_X2_3 mm_obj (Nat.le_of_ble_eq_true rfl) (Nat.le_of_ble_eq_true rfl) dX2_init_1 ?_
  refine lv_aload_n hx hb dX2_init_4 rfl (lv_at hl 0 rfl) ?_
  refine lv_sipush (v := 200) hx hb dX2_init_5 (by decide) ?_
  refine n_newa C hA hw 200 rfl (by decide) mA_int (Nat.le_of_ble_eq_true rfl) (Nat.le_of_ble_eq_true rfl) dX2_init_8 (fun q8 H hw8 => ?_)
  have hw8 : Wd D A s.heap H _ [[(h0, .inr (2, [.null, .int 0, .int 0]))], ar cI q8 200 Zf] := hw8
  refine n_putF C hmn inT_X2 tyX2 tyX2_ok nmX2 hw8 0 rfl rfl 0 (by decide) mF_X2_9 rfl rfl rfl rfl (Nat.le_of_ble_eq_true rfl) [[(h0, .inr (2, [.ref q8, .int 0, .int 0]))], ar cI q8 200 Zf] rfl dX2_init_10 (fun H locs hw10 => ?_)
  refine lv_aload_n hx hb dX2_init_13 rfl (lv_at hl 0 rfl) ?_
  refine lv_iconst (v := 0) hx hb dX2_init_14 (by decide) ?_
  refine n_putI C inT_X2 tyX2 tyX2_ok nmX2 hw10 0 rfl rfl 1 (by decide) mF_X2_15 rfl rfl (Nat.le_of_ble_eq_true rfl) [[(h0, .inr (2, [.ref q8, .int 0, .int 0]))], ar cI q8 200 Zf] rfl dX2_init_15 (fun H locs hw15 => ?_)
  refine lv_aload_n hx hb dX2_init_18 rfl (lv_at hl 0 rfl) ?_
  refine lv_iconst (v := (-1)) hx hb dX2_init_19 (by decide) ?_
  refine n_putI C inT_X2 tyX2 tyX2_ok nmX2 hw15 0 rfl rfl 2 (by decide) mF_X2_19 rfl rfl (Nat.le_of_ble_eq_true rfl) [[(h0, .inr (2, [.ref q8, .int 0, .int (-1)]))], ar cI q8 200 Zf] rfl dX2_init_20 (fun H locs hw20 => ?_)
  exact n_vret (adr [h0, q8, 0, 0]) rfl C hw20 rfl (Nat.le_of_ble_eq_true rfl) (Nat.le_of_ble_eq_true rfl) dX2_init_23
def rmX3_init : Room := { frames := 2, cells := 9, slots := 286, locals := 43 }
set_option maxRecDepth 100000 in
set_option maxHeartbeats 8000000 in
theorem nX3 {l : Launch} {D : va_G} {cI : ClassId} {cS : GS} {h0 : Nat} : CN l D cI cS yX3_init cX3_init 1 rmX3_init [.ref h0] [(h0, .inr (3, [.null, .null, .null, .int 0]))] (fun u : (Nat → Nat) × (Nat → Nat) × (Nat → Nat) => h0 = u.1 0) (fun u => [oX3 u.1 u.2.1 u.2.2 0, cR cI u.2.1 41 (Zf, Zf, Zf, 0), cR cI u.2.2 49 (Zf, Zf, Zf, 0), ar cI (u.1 3) 8 Zf]) := by
  refine CN.of RX3 (by decide) rfl rfl (Nat.le_of_ble_eq_true rfl) (fun p e s m below meth c ls A C hO hmn hA hl hw => ?_)
  have hx := C.1.1
  have hb := C.1.2.1
  have hl : lv_has ls 1 [(0, .ref h0)] := hl
  refine lv_aload_n hx hb dX3_init_0 rfl (lv_at hl 0 rfl) ?_
  refine n_obj C hl.1 mL_X3_3 mm_obj (Nat.le_of_ble_eq_true rfl) (Nat.le_of_ble_eq_true rfl) dX3_init_1 ?_
  refine lv_aload_n hx hb dX3_init_4 rfl (lv_at hl 0 rfl) ?_
  refine n_new (ci := 4) C hA hw inT_X4 tyX4 tyX4_ok mJ_X3_9 mN_X4 mI_BoxedPapers_Ranges rfl [.null, .null, .null, .int 0] (fun j hj => by rcases (show j = 0 ∨ j = 1 ∨ j = 2 ∨ j = 3 by omega) with rfl | rfl | rfl | rfl <;> rfl) (Nat.le_of_ble_eq_true rfl) (Nat.le_of_ble_eq_true rfl) dX3_init_5 (fun q5 H hw5 => ?_)
  refine lv_dup hx hb dX3_init_8 rfl ?_
  refine lv_bipush (v := 41) hx hb dX3_init_9 (by decide) ?_
  refine n_call C hO hA hl.1 hw5 (nX4 (h0 := q5) (N := 41) (by decide)) mL_X3_11 rfl mM_X4_init mmX4_init ⟨(Nat.le_of_ble_eq_true rfl), (Nat.le_of_ble_eq_true rfl)⟩ rfl rfl (Nat.le_of_ble_eq_true rfl) (Nat.le_of_ble_eq_true rfl) (Nat.le_of_ble_eq_true rfl) dX3_init_11 (fun u H locs hu hw11 => ?_)
  obtain ⟨u11, eu⟩ : ∃ z, z = u := ⟨_, rfl⟩
  subst eu
  have hu : q5 = u11 0 := hu
  subst hu
  have hw11 : Wd D A s.heap H _ [[(h0, .inr (3, [.null, .null, .null, .int 0]))], cR cI u11 41 (Zf, Zf, Zf, 0)] := hw11
  refine n_putF C hmn inT_X3 tyX3 tyX3_ok nmX3 hw11 0 rfl rfl 0 (by decide) mF_X3_14 rfl rfl rfl rfl (Nat.le_of_ble_eq_true rfl) [[(h0, .inr (3, [.ref (u11 0), .null, .null, .int 0]))], cR cI u11 41 (Zf, Zf, Zf, 0)] rfl dX3_init_14 (fun H locs hw14 => ?_)
  refine lv_aload_n hx hb dX3_init_17 rfl (lv_at hl 0 rfl) ?_
  refine n_new (ci := 4) C hA hw14 inT_X4 tyX4 tyX4_ok mJ_X3_9 mN_X4 mI_BoxedPapers_Ranges rfl [.null, .null, .null, .int 0] (fun j hj => by rcases (show j = 0 ∨ j = 1 ∨ j = 2 ∨ j = 3 by omega) with rfl | rfl | rfl | rfl <;> rfl) (Nat.le_of_ble_eq_true rfl) (Nat.le_of_ble_eq_true rfl) dX3_init_18 (fun q18 H hw18 => ?_)
  refine lv_dup hx hb dX3_init_21 rfl ?_
  refine lv_bipush (v := 49) hx hb dX3_init_22 (by decide) ?_
  refine n_call C hO hA hl.1 hw18 (nX4 (h0 := q18) (N := 49) (by decide)) mL_X3_11 rfl mM_X4_init mmX4_init ⟨(Nat.le_of_ble_eq_true rfl), (Nat.le_of_ble_eq_true rfl)⟩ rfl rfl (Nat.le_of_ble_eq_true rfl) (Nat.le_of_ble_eq_true rfl) (Nat.le_of_ble_eq_true rfl) dX3_init_24 (fun u H locs hu hw24 => ?_)
  obtain ⟨u24, eu⟩ : ∃ z, z = u := ⟨_, rfl⟩
  subst eu
  have hu : q18 = u24 0 := hu
  subst hu
  have hw24 : Wd D A s.heap H _ [[(h0, .inr (3, [.ref (u11 0), .null, .null, .int 0]))], cR cI u11 41 (Zf, Zf, Zf, 0), cR cI u24 49 (Zf, Zf, Zf, 0)] := hw24
  refine n_putF C hmn inT_X3 tyX3 tyX3_ok nmX3 hw24 0 rfl rfl 1 (by decide) mF_X3_20 rfl rfl rfl rfl (Nat.le_of_ble_eq_true rfl) [[(h0, .inr (3, [.ref (u11 0), .ref (u24 0), .null, .int 0]))], cR cI u11 41 (Zf, Zf, Zf, 0), cR cI u24 49 (Zf, Zf, Zf, 0)] rfl dX3_init_27 (fun H locs hw27 => ?_)
  refine lv_aload_n hx hb dX3_init_30 rfl (lv_at hl 0 rfl) ?_
  refine lv_bipush (v := 8) hx hb dX3_init_31 (by decide) ?_
  refine n_newa C hA hw27 8 rfl (by decide) mA_int (Nat.le_of_ble_eq_true rfl) (Nat.le_of_ble_eq_true rfl) dX3_init_33 (fun q33 H hw33 => ?_)
  have hw33 : Wd D A s.heap H _ [[(h0, .inr (3, [.ref (u11 0), .ref (u24 0), .null, .int 0]))], cR cI u11 41 (Zf, Zf, Zf, 0), cR cI u24 49 (Zf, Zf, Zf, 0), ar cI q33 8 Zf] := hw33
  refine n_putF C hmn inT_X3 tyX3 tyX3_ok nmX3 hw33 0 rfl rfl 2 (by decide) mF_X3_23 rfl rfl rfl rfl (Nat.le_of_ble_eq_true rfl) [[(h0, .inr (3, [.ref (u11 0), .ref (u24 0), .ref q33, .int 0]))], cR cI u11 41 (Zf, Zf, Zf, 0), cR cI u24 49 (Zf, Zf, Zf, 0), ar cI q33 8 Zf] rfl dX3_init_35 (fun H locs hw35 => ?_)
  refine lv_aload_n hx hb dX3_init_38 rfl (lv_at hl 0 rfl) ?_
  refine lv_iconst (v := 0) hx hb dX3_init_39 (by decide) ?_
  refine n_putI C inT_X3 tyX3 tyX3_ok nmX3 hw35 0 rfl rfl 3 (by decide) mF_X3_27 rfl rfl (Nat.le_of_ble_eq_true rfl) [[(h0, .inr (3, [.ref (u11 0), .ref (u24 0), .ref q33, .int 0]))], cR cI u11 41 (Zf, Zf, Zf, 0), cR cI u24 49 (Zf, Zf, Zf, 0), ar cI q33 8 Zf] rfl dX3_init_40 (fun H locs hw40 => ?_)
  exact n_vret (adr [h0, 0, 0, q33, 0], u11, u24) rfl C hw40 rfl (Nat.le_of_ble_eq_true rfl) (Nat.le_of_ble_eq_true rfl) dX3_init_43
def rmX6_init : Room := { frames := 1, cells := 3, slots := 296, locals := 21 }
set_option maxRecDepth 100000 in
set_option maxHeartbeats 8000000 in
theorem nX6 {l : Launch} {D : va_G} {cI : ClassId} {cS : GS} {h0 : Nat} : CN l D cI cS yX6_init cX6_init 1 rmX6_init [.ref h0] [(h0, .inr (6, [.null, .null, .null, .int 0, .int 0, .int 0]))] (fun u : (Nat → Nat) => h0 = u 0) (fun u => [oX6 u 0 0 0, ar cI (u 1) 200 Zf, ar cI (u 2) 24 Zf, ar cI (u 3) 72 Zf]) := by
  refine CN.of RX6 (by decide) rfl rfl (Nat.le_of_ble_eq_true rfl) (fun p e s m below meth c ls A C hO hmn hA hl hw => ?_)
  have hx := C.1.1
  have hb := C.1.2.1
  have hl : lv_has ls 1 [(0, .ref h0)] := hl
  refine lv_aload_n hx hb dX6_init_0 rfl (lv_at hl 0 rfl) ?_
  refine n_obj C hl.1 mL_X6_3 mm_obj (Nat.le_of_ble_eq_true rfl) (Nat.le_of_ble_eq_true rfl) dX6_init_1 ?_
  refine lv_aload_n hx hb dX6_init_4 rfl (lv_at hl 0 rfl) ?_
  refine lv_sipush (v := 200) hx hb dX6_init_5 (by decide) ?_
  refine n_newa C hA hw 200 rfl (by decide) mA_int (Nat.le_of_ble_eq_true rfl) (Nat.le_of_ble_eq_true rfl) dX6_init_8 (fun q8 H hw8 => ?_)
  have hw8 : Wd D A s.heap H _ [[(h0, .inr (6, [.null, .null, .null, .int 0, .int 0, .int 0]))], ar cI q8 200 Zf] := hw8
  refine n_putF C hmn inT_X6 tyX6 tyX6_ok nmX6 hw8 0 rfl rfl 0 (by decide) mF_X6_9 rfl rfl rfl rfl (Nat.le_of_ble_eq_true rfl) [[(h0, .inr (6, [.ref q8, .null, .null, .int 0, .int 0, .int 0]))], ar cI q8 200 Zf] rfl dX6_init_10 (fun H locs hw10 => ?_)
  refine lv_aload_n hx hb dX6_init_13 rfl (lv_at hl 0 rfl) ?_
  refine lv_bipush (v := 24) hx hb dX6_init_14 (by decide) ?_
  refine n_newa C hA hw10 24 rfl (by decide) mA_int (Nat.le_of_ble_eq_true rfl) (Nat.le_of_ble_eq_true rfl) dX6_init_16 (fun q16 H hw16 => ?_)
  have hw16 : Wd D A s.heap H _ [[(h0, .inr (6, [.ref q8, .null, .null, .int 0, .int 0, .int 0]))], ar cI q8 200 Zf, ar cI q16 24 Zf] := hw16
  refine n_putF C hmn inT_X6 tyX6 tyX6_ok nmX6 hw16 0 rfl rfl 1 (by decide) mF_X6_15 rfl rfl rfl rfl (Nat.le_of_ble_eq_true rfl) [[(h0, .inr (6, [.ref q8, .ref q16, .null, .int 0, .int 0, .int 0]))], ar cI q8 200 Zf, ar cI q16 24 Zf] rfl dX6_init_18 (fun H locs hw18 => ?_)
  refine lv_aload_n hx hb dX6_init_21 rfl (lv_at hl 0 rfl) ?_
  refine lv_bipush (v := 72) hx hb dX6_init_22 (by decide) ?_
  refine n_newa C hA hw18 72 rfl (by decide) mA_int (Nat.le_of_ble_eq_true rfl) (Nat.le_of_ble_eq_true rfl) dX6_init_24 (fun q24 H hw24 => ?_)
  have hw24 : Wd D A s.heap H _ [[(h0, .inr (6, [.ref q8, .ref q16, .null, .int 0, .int 0, .int 0]))], ar cI q8 200 Zf, ar cI q16 24 Zf, ar cI q24 72 Zf] := hw24
  refine n_putF C hmn inT_X6 tyX6 tyX6_ok nmX6 hw24 0 rfl rfl 2 (by decide) mF_X6_18 rfl rfl rfl rfl (Nat.le_of_ble_eq_true rfl) [[(h0, .inr (6, [.ref q8, .ref q16, .ref q24, .int 0, .int 0, .int 0]))], ar cI q8 200 Zf, ar cI q16 24 Zf, ar cI q24 72 Zf] rfl dX6_init_26 (fun H locs hw26 => ?_)
  refine lv_aload_n hx hb dX6_init_29 rfl (lv_at hl 0 rfl) ?_
  refine lv_iconst (v := 0) hx hb dX6_init_30 (by decide) ?_
  refine n_putI C inT_X6 tyX6 tyX6_ok nmX6 hw26 0 rfl rfl 3 (by decide) mF_X6_21 rfl rfl (Nat.le_of_ble_eq_true rfl) [[(h0, .inr (6, [.ref q8, .ref q16, .ref q24, .int 0, .int 0, .int 0]))], ar cI q8 200 Zf, ar cI q16 24 Zf, ar cI q24 72 Zf] rfl dX6_init_31 (fun H locs hw31 => ?_)
  refine lv_aload_n hx hb dX6_init_34 rfl (lv_at hl 0 rfl) ?_
  refine lv_iconst (v := 0) hx hb dX6_init_35 (by decide) ?_
  refine n_putI C inT_X6 tyX6 tyX6_ok nmX6 hw31 0 rfl rfl 4 (by decide) mF_X6_25 rfl rfl (Nat.le_of_ble_eq_true rfl) [[(h0, .inr (6, [.ref q8, .ref q16, .ref q24, .int 0, .int 0, .int 0]))], ar cI q8 200 Zf, ar cI q16 24 Zf, ar cI q24 72 Zf] rfl dX6_init_36 (fun H locs hw36 => ?_)
  refine lv_aload_n hx hb dX6_init_39 rfl (lv_at hl 0 rfl) ?_
  refine lv_iconst (v := 0) hx hb dX6_init_40 (by decide) ?_
  refine n_putI C inT_X6 tyX6 tyX6_ok nmX6 hw36 0 rfl rfl 5 (by decide) mF_X6_28 rfl rfl (Nat.le_of_ble_eq_true rfl) [[(h0, .inr (6, [.ref q8, .ref q16, .ref q24, .int 0, .int 0, .int 0]))], ar cI q8 200 Zf, ar cI q16 24 Zf, ar cI q24 72 Zf] rfl dX6_init_41 (fun H locs hw41 => ?_)
  exact n_vret (adr [h0, q8, q16, q24, 0, 0, 0]) rfl C hw41 rfl (Nat.le_of_ble_eq_true rfl) (Nat.le_of_ble_eq_true rfl) dX6_init_44
def rmX7_init : Room := { frames := 4, cells := 97, slots := 2996, locals := 84 }
set_option maxRecDepth 100000 in
set_option maxHeartbeats 8000000 in
theorem nX7 {l : Launch} {D : va_G} {cI : ClassId} {cS : GS} {h0 : Nat} : CN l D cI cS yX7_init cX7_init 1 rmX7_init [.ref h0] [(h0, .inr (7, [.null, .null, .null, .null, .null, .null, .null]))] (fun u : (Nat → Nat) × (Nat → Nat) × (Nat → Nat) × (Nat → Nat) × (Nat → Nat) × (Nat → Nat) × (Nat → Nat) × (Nat → Nat → Nat) × (Nat → Nat) × (Nat → Nat) × (Nat → Nat) × (Nat → Nat) × (Nat → Nat) × (Nat → Nat) × (Nat → Nat) => h0 = u.1 0) (fun u => [oX7 u.1 u.2.1 u.2.2.2.2.2.2.1 u.2.2.2.2.2.2.2.2.1 u.2.2.2.2.2.2.2.2.2.2.2.1 u.2.2.2.2.2.2.2.2.2.2.2.2.1 u.2.2.2.2.2.2.2.2.2.2.2.2.2.1 u.2.2.2.2.2.2.2.2.2.2.2.2.2.2, oX0 u.2.1 u.2.2.1 u.2.2.2.1 u.2.2.2.2.1 u.2.2.2.2.2.1 0, cR cI u.2.2.1 10 (Zf, Zf, Zf, 0), ar cI (u.2.1 2) 8 Zf, cR cI u.2.2.2.1 42 (Zf, Zf, Zf, 0), cR cI u.2.2.2.2.1 42 (Zf, Zf, Zf, 0), cR cI u.2.2.2.2.2.1 100 (Zf, Zf, Zf, 0), ar cI (u.2.1 6) 100 Zf, oX1 u.2.2.2.2.2.2.1 0 0, cSl cI cS (u.2.2.2.2.2.2.1 1) u.2.2.2.2.2.2.2.1 (fun _ => (Zf, (Zf, Zf, Zf, 0), 0, 0, 0)), oX3 u.2.2.2.2.2.2.2.2.1 u.2.2.2.2.2.2.2.2.2.1 u.2.2.2.2.2.2.2.2.2.2.1 0, cR cI u.2.2.2.2.2.2.2.2.2.1 41 (Zf, Zf, Zf, 0), cR cI u.2.2.2.2.2.2.2.2.2.2.1 49 (Zf, Zf, Zf, 0), ar cI (u.2.2.2.2.2.2.2.2.1 3) 8 Zf, cR cI u.2.2.2.2.2.2.2.2.2.2.2.1 12 (Zf, Zf, Zf, 0), oX6 u.2.2.2.2.2.2.2.2.2.2.2.2.1 0 0 0, ar cI (u.2.2.2.2.2.2.2.2.2.2.2.2.1 1) 200 Zf, ar cI (u.2.2.2.2.2.2.2.2.2.2.2.2.1 2) 24 Zf, ar cI (u.2.2.2.2.2.2.2.2.2.2.2.2.1 3) 72 Zf, oX2 u.2.2.2.2.2.2.2.2.2.2.2.2.2.1 0 (-1), ar cI (u.2.2.2.2.2.2.2.2.2.2.2.2.2.1 1) 200 Zf, oX2 u.2.2.2.2.2.2.2.2.2.2.2.2.2.2 0 (-1), ar cI (u.2.2.2.2.2.2.2.2.2.2.2.2.2.2 1) 200 Zf]) := by
  refine CN.of RX7 (by decide) rfl rfl (Nat.le_of_ble_eq_true rfl) (fun p e s m below meth c ls A C hO hmn hA hl hw => ?_)
  have hx := C.1.1
  have hb := C.1.2.1
  have hl : lv_has ls 1 [(0, .ref h0)] := hl
  refine lv_aload_n hx hb dX7_init_0 rfl (lv_at hl 0 rfl) ?_
  refine n_obj C hl.1 mL_X7_3 mm_obj (Nat.le_of_ble_eq_true rfl) (Nat.le_of_ble_eq_true rfl) dX7_init_1 ?_
  refine lv_aload_n hx hb dX7_init_4 rfl (lv_at hl 0 rfl) ?_
  refine n_new (ci := 0) C hA hw inT_X0 tyX0 tyX0_ok mJ_X7_9 mN_X0 mI_BoxedPapers_Archive rfl [.null, .null, .null, .null, .null, .null, .int 0] (fun j hj => by rcases (show j = 0 ∨ j = 1 ∨ j = 2 ∨ j = 3 ∨ j = 4 ∨ j = 5 ∨ j = 6 by omega) with rfl | rfl | rfl | rfl | rfl | rfl | rfl <;> rfl) (Nat.le_of_ble_eq_true rfl) (Nat.le_of_ble_eq_true rfl) dX7_init_5 (fun q5 H hw5 => ?_)
  refine lv_dup hx hb dX7_init_8 rfl ?_
  refine n_call C hO hA hl.1 hw5 (nX0 (h0 := q5)) mL_X7_11 rfl mM_X0_init mmX0_init ⟨(Nat.le_of_ble_eq_true rfl), (Nat.le_of_ble_eq_true rfl)⟩ rfl rfl (Nat.le_of_ble_eq_true rfl) (Nat.le_of_ble_eq_true rfl) (Nat.le_of_ble_eq_true rfl) dX7_init_9 (fun u H locs hu hw9 => ?_)
  obtain ⟨u9, u9_series, u9_pieces, u9_trial, u9_moves⟩ := u
  have hu : q5 = u9 0 := hu
  subst hu
  have hw9 : Wd D A s.heap H _ [[(h0, .inr (7, [.null, .null, .null, .null, .null, .null, .null]))], oX0 u9 u9_series u9_pieces u9_trial u9_moves 0, cR cI u9_series 10 (Zf, Zf, Zf, 0), ar cI (u9 2) 8 Zf, cR cI u9_pieces 42 (Zf, Zf, Zf, 0), cR cI u9_trial 42 (Zf, Zf, Zf, 0), cR cI u9_moves 100 (Zf, Zf, Zf, 0), ar cI (u9 6) 100 Zf] := hw9
  refine n_putF C hmn inT_X7 tyX7 tyX7_ok nmX7 hw9 0 rfl rfl 0 (by decide) mF_X7_12 rfl rfl rfl rfl (Nat.le_of_ble_eq_true rfl) [[(h0, .inr (7, [.ref (u9 0), .null, .null, .null, .null, .null, .null]))], oX0 u9 u9_series u9_pieces u9_trial u9_moves 0, cR cI u9_series 10 (Zf, Zf, Zf, 0), ar cI (u9 2) 8 Zf, cR cI u9_pieces 42 (Zf, Zf, Zf, 0), cR cI u9_trial 42 (Zf, Zf, Zf, 0), cR cI u9_moves 100 (Zf, Zf, Zf, 0), ar cI (u9 6) 100 Zf] rfl dX7_init_12 (fun H locs hw12 => ?_)
  refine lv_aload_n hx hb dX7_init_15 rfl (lv_at hl 0 rfl) ?_
  refine n_new (ci := 1) C hA hw12 inT_X1 tyX1 tyX1_ok mJ_X7_16 mN_X1 mI_BoxedPapers_History rfl [.null, .int 0, .int 0] (fun j hj => by rcases (show j = 0 ∨ j = 1 ∨ j = 2 by omega) with rfl | rfl | rfl <;> rfl) (Nat.le_of_ble_eq_true rfl) (Nat.le_of_ble_eq_true rfl) dX7_init_16 (fun q16 H hw16 => ?_)
  refine lv_dup hx hb dX7_init_19 rfl ?_
  refine n_call C hO hA hl.1 hw16 (nX1 (h0 := q16)) mL_X7_18 rfl mM_X1_init mmX1_init ⟨(Nat.le_of_ble_eq_true rfl), (Nat.le_of_ble_eq_true rfl)⟩ rfl rfl (Nat.le_of_ble_eq_true rfl) (Nat.le_of_ble_eq_true rfl) (Nat.le_of_ble_eq_true rfl) dX7_init_20 (fun u H locs hu hw20 => ?_)
  obtain ⟨u20, u20_slots⟩ := u
  have hu : q16 = u20 0 := hu
  subst hu
  have hw20 : Wd D A s.heap H _ [[(h0, .inr (7, [.ref (u9 0), .null, .null, .null, .null, .null, .null]))], oX0 u9 u9_series u9_pieces u9_trial u9_moves 0, cR cI u9_series 10 (Zf, Zf, Zf, 0), ar cI (u9 2) 8 Zf, cR cI u9_pieces 42 (Zf, Zf, Zf, 0), cR cI u9_trial 42 (Zf, Zf, Zf, 0), cR cI u9_moves 100 (Zf, Zf, Zf, 0), ar cI (u9 6) 100 Zf, oX1 u20 0 0, cSl cI cS (u20 1) u20_slots (fun _ => (Zf, (Zf, Zf, Zf, 0), 0, 0, 0))] := hw20
  refine n_putF C hmn inT_X7 tyX7 tyX7_ok nmX7 hw20 0 rfl rfl 1 (by decide) mF_X7_19 rfl rfl rfl rfl (Nat.le_of_ble_eq_true rfl) [[(h0, .inr (7, [.ref (u9 0), .ref (u20 0), .null, .null, .null, .null, .null]))], oX0 u9 u9_series u9_pieces u9_trial u9_moves 0, cR cI u9_series 10 (Zf, Zf, Zf, 0), ar cI (u9 2) 8 Zf, cR cI u9_pieces 42 (Zf, Zf, Zf, 0), cR cI u9_trial 42 (Zf, Zf, Zf, 0), cR cI u9_moves 100 (Zf, Zf, Zf, 0), ar cI (u9 6) 100 Zf, oX1 u20 0 0, cSl cI cS (u20 1) u20_slots (fun _ => (Zf, (Zf, Zf, Zf, 0), 0, 0, 0))] rfl dX7_init_23 (fun H locs hw23 => ?_)
  refine lv_aload_n hx hb dX7_init_26 rfl (lv_at hl 0 rfl) ?_
  refine n_new (ci := 3) C hA hw23 inT_X3 tyX3 tyX3_ok mJ_X7_23 mN_X3 mI_BoxedPapers_Planner rfl [.null, .null, .null, .int 0] (fun j hj => by rcases (show j = 0 ∨ j = 1 ∨ j = 2 ∨ j = 3 by omega) with rfl | rfl | rfl | rfl <;> rfl) (Nat.le_of_ble_eq_true rfl) (Nat.le_of_ble_eq_true rfl) dX7_init_27 (fun q27 H hw27 => ?_)
  refine lv_dup hx hb dX7_init_30 rfl ?_
  refine n_call C hO hA hl.1 hw27 (nX3 (h0 := q27)) mL_X7_25 rfl mM_X3_init mmX3_init ⟨(Nat.le_of_ble_eq_true rfl), (Nat.le_of_ble_eq_true rfl)⟩ rfl rfl (Nat.le_of_ble_eq_true rfl) (Nat.le_of_ble_eq_true rfl) (Nat.le_of_ble_eq_true rfl) dX7_init_31 (fun u H locs hu hw31 => ?_)
  obtain ⟨u31, u31_gaps, u31_layings⟩ := u
  have hu : q27 = u31 0 := hu
  subst hu
  have hw31 : Wd D A s.heap H _ [[(h0, .inr (7, [.ref (u9 0), .ref (u20 0), .null, .null, .null, .null, .null]))], oX0 u9 u9_series u9_pieces u9_trial u9_moves 0, cR cI u9_series 10 (Zf, Zf, Zf, 0), ar cI (u9 2) 8 Zf, cR cI u9_pieces 42 (Zf, Zf, Zf, 0), cR cI u9_trial 42 (Zf, Zf, Zf, 0), cR cI u9_moves 100 (Zf, Zf, Zf, 0), ar cI (u9 6) 100 Zf, oX1 u20 0 0, cSl cI cS (u20 1) u20_slots (fun _ => (Zf, (Zf, Zf, Zf, 0), 0, 0, 0)), oX3 u31 u31_gaps u31_layings 0, cR cI u31_gaps 41 (Zf, Zf, Zf, 0), cR cI u31_layings 49 (Zf, Zf, Zf, 0), ar cI (u31 3) 8 Zf] := hw31
  refine n_putF C hmn inT_X7 tyX7 tyX7_ok nmX7 hw31 0 rfl rfl 2 (by decide) mF_X7_26 rfl rfl rfl rfl (Nat.le_of_ble_eq_true rfl) [[(h0, .inr (7, [.ref (u9 0), .ref (u20 0), .ref (u31 0), .null, .null, .null, .null]))], oX0 u9 u9_series u9_pieces u9_trial u9_moves 0, cR cI u9_series 10 (Zf, Zf, Zf, 0), ar cI (u9 2) 8 Zf, cR cI u9_pieces 42 (Zf, Zf, Zf, 0), cR cI u9_trial 42 (Zf, Zf, Zf, 0), cR cI u9_moves 100 (Zf, Zf, Zf, 0), ar cI (u9 6) 100 Zf, oX1 u20 0 0, cSl cI cS (u20 1) u20_slots (fun _ => (Zf, (Zf, Zf, Zf, 0), 0, 0, 0)), oX3 u31 u31_gaps u31_layings 0, cR cI u31_gaps 41 (Zf, Zf, Zf, 0), cR cI u31_layings 49 (Zf, Zf, Zf, 0), ar cI (u31 3) 8 Zf] rfl dX7_init_34 (fun H locs hw34 => ?_)
  refine lv_aload_n hx hb dX7_init_37 rfl (lv_at hl 0 rfl) ?_
  refine n_new (ci := 4) C hA hw34 inT_X4 tyX4 tyX4_ok mJ_X7_30 mN_X4 mI_BoxedPapers_Ranges rfl [.null, .null, .null, .int 0] (fun j hj => by rcases (show j = 0 ∨ j = 1 ∨ j = 2 ∨ j = 3 by omega) with rfl | rfl | rfl | rfl <;> rfl) (Nat.le_of_ble_eq_true rfl) (Nat.le_of_ble_eq_true rfl) dX7_init_38 (fun q38 H hw38 => ?_)
  refine lv_dup hx hb dX7_init_41 rfl ?_
  refine lv_bipush (v := 12) hx hb dX7_init_42 (by decide) ?_
  refine n_call C hO hA hl.1 hw38 (nX4 (h0 := q38) (N := 12) (by decide)) mL_X7_32 rfl mM_X4_init mmX4_init ⟨(Nat.le_of_ble_eq_true rfl), (Nat.le_of_ble_eq_true rfl)⟩ rfl rfl (Nat.le_of_ble_eq_true rfl) (Nat.le_of_ble_eq_true rfl) (Nat.le_of_ble_eq_true rfl) dX7_init_44 (fun u H locs hu hw44 => ?_)
  obtain ⟨u44, eu⟩ : ∃ z, z = u := ⟨_, rfl⟩
  subst eu
  have hu : q38 = u44 0 := hu
  subst hu
  have hw44 : Wd D A s.heap H _ [[(h0, .inr (7, [.ref (u9 0), .ref (u20 0), .ref (u31 0), .null, .null, .null, .null]))], oX0 u9 u9_series u9_pieces u9_trial u9_moves 0, cR cI u9_series 10 (Zf, Zf, Zf, 0), ar cI (u9 2) 8 Zf, cR cI u9_pieces 42 (Zf, Zf, Zf, 0), cR cI u9_trial 42 (Zf, Zf, Zf, 0), cR cI u9_moves 100 (Zf, Zf, Zf, 0), ar cI (u9 6) 100 Zf, oX1 u20 0 0, cSl cI cS (u20 1) u20_slots (fun _ => (Zf, (Zf, Zf, Zf, 0), 0, 0, 0)), oX3 u31 u31_gaps u31_layings 0, cR cI u31_gaps 41 (Zf, Zf, Zf, 0), cR cI u31_layings 49 (Zf, Zf, Zf, 0), ar cI (u31 3) 8 Zf, cR cI u44 12 (Zf, Zf, Zf, 0)] := hw44
  refine n_putF C hmn inT_X7 tyX7 tyX7_ok nmX7 hw44 0 rfl rfl 3 (by decide) mF_X7_35 rfl rfl rfl rfl (Nat.le_of_ble_eq_true rfl) [[(h0, .inr (7, [.ref (u9 0), .ref (u20 0), .ref (u31 0), .ref (u44 0), .null, .null, .null]))], oX0 u9 u9_series u9_pieces u9_trial u9_moves 0, cR cI u9_series 10 (Zf, Zf, Zf, 0), ar cI (u9 2) 8 Zf, cR cI u9_pieces 42 (Zf, Zf, Zf, 0), cR cI u9_trial 42 (Zf, Zf, Zf, 0), cR cI u9_moves 100 (Zf, Zf, Zf, 0), ar cI (u9 6) 100 Zf, oX1 u20 0 0, cSl cI cS (u20 1) u20_slots (fun _ => (Zf, (Zf, Zf, Zf, 0), 0, 0, 0)), oX3 u31 u31_gaps u31_layings 0, cR cI u31_gaps 41 (Zf, Zf, Zf, 0), cR cI u31_layings 49 (Zf, Zf, Zf, 0), ar cI (u31 3) 8 Zf, cR cI u44 12 (Zf, Zf, Zf, 0)] rfl dX7_init_47 (fun H locs hw47 => ?_)
  refine lv_aload_n hx hb dX7_init_50 rfl (lv_at hl 0 rfl) ?_
  refine n_new (ci := 6) C hA hw47 inT_X6 tyX6 tyX6_ok mJ_X7_39 mN_X6 mI_BoxedPapers_Text rfl [.null, .null, .null, .int 0, .int 0, .int 0] (fun j hj => by rcases (show j = 0 ∨ j = 1 ∨ j = 2 ∨ j = 3 ∨ j = 4 ∨ j = 5 by omega) with rfl | rfl | rfl | rfl | rfl | rfl <;> rfl) (Nat.le_of_ble_eq_true rfl) (Nat.le_of_ble_eq_true rfl) dX7_init_51 (fun q51 H hw51 => ?_)
  refine lv_dup hx hb dX7_init_54 rfl ?_
  refine n_call C hO hA hl.1 hw51 (nX6 (h0 := q51)) mL_X7_41 rfl mM_X6_init mmX6_init ⟨(Nat.le_of_ble_eq_true rfl), (Nat.le_of_ble_eq_true rfl)⟩ rfl rfl (Nat.le_of_ble_eq_true rfl) (Nat.le_of_ble_eq_true rfl) (Nat.le_of_ble_eq_true rfl) dX7_init_55 (fun u H locs hu hw55 => ?_)
  obtain ⟨u55, eu⟩ : ∃ z, z = u := ⟨_, rfl⟩
  subst eu
  have hu : q51 = u55 0 := hu
  subst hu
  have hw55 : Wd D A s.heap H _ [[(h0, .inr (7, [.ref (u9 0), .ref (u20 0), .ref (u31 0), .ref (u44 0), .null, .null, .null]))], oX0 u9 u9_series u9_pieces u9_trial u9_moves 0, cR cI u9_series 10 (Zf, Zf, Zf, 0), ar cI (u9 2) 8 Zf, cR cI u9_pieces 42 (Zf, Zf, Zf, 0), cR cI u9_trial 42 (Zf, Zf, Zf, 0), cR cI u9_moves 100 (Zf, Zf, Zf, 0), ar cI (u9 6) 100 Zf, oX1 u20 0 0, cSl cI cS (u20 1) u20_slots (fun _ => (Zf, (Zf, Zf, Zf, 0), 0, 0, 0)), oX3 u31 u31_gaps u31_layings 0, cR cI u31_gaps 41 (Zf, Zf, Zf, 0), cR cI u31_layings 49 (Zf, Zf, Zf, 0), ar cI (u31 3) 8 Zf, cR cI u44 12 (Zf, Zf, Zf, 0), oX6 u55 0 0 0, ar cI (u55 1) 200 Zf, ar cI (u55 2) 24 Zf, ar cI (u55 3) 72 Zf] := hw55
  refine n_putF C hmn inT_X7 tyX7 tyX7_ok nmX7 hw55 0 rfl rfl 4 (by decide) mF_X7_42 rfl rfl rfl rfl (Nat.le_of_ble_eq_true rfl) [[(h0, .inr (7, [.ref (u9 0), .ref (u20 0), .ref (u31 0), .ref (u44 0), .ref (u55 0), .null, .null]))], oX0 u9 u9_series u9_pieces u9_trial u9_moves 0, cR cI u9_series 10 (Zf, Zf, Zf, 0), ar cI (u9 2) 8 Zf, cR cI u9_pieces 42 (Zf, Zf, Zf, 0), cR cI u9_trial 42 (Zf, Zf, Zf, 0), cR cI u9_moves 100 (Zf, Zf, Zf, 0), ar cI (u9 6) 100 Zf, oX1 u20 0 0, cSl cI cS (u20 1) u20_slots (fun _ => (Zf, (Zf, Zf, Zf, 0), 0, 0, 0)), oX3 u31 u31_gaps u31_layings 0, cR cI u31_gaps 41 (Zf, Zf, Zf, 0), cR cI u31_layings 49 (Zf, Zf, Zf, 0), ar cI (u31 3) 8 Zf, cR cI u44 12 (Zf, Zf, Zf, 0), oX6 u55 0 0 0, ar cI (u55 1) 200 Zf, ar cI (u55 2) 24 Zf, ar cI (u55 3) 72 Zf] rfl dX7_init_58 (fun H locs hw58 => ?_)
  refine lv_aload_n hx hb dX7_init_61 rfl (lv_at hl 0 rfl) ?_
  refine n_new (ci := 2) C hA hw58 inT_X2 tyX2 tyX2_ok mJ_X7_46 mN_X2 mI_BoxedPapers_Page rfl [.null, .int 0, .int 0] (fun j hj => by rcases (show j = 0 ∨ j = 1 ∨ j = 2 by omega) with rfl | rfl | rfl <;> rfl) (Nat.le_of_ble_eq_true rfl) (Nat.le_of_ble_eq_true rfl) dX7_init_62 (fun q62 H hw62 => ?_)
  refine lv_dup hx hb dX7_init_65 rfl ?_
  refine n_call C hO hA hl.1 hw62 (nX2 (h0 := q62)) mL_X7_48 rfl mM_X2_init mmX2_init ⟨(Nat.le_of_ble_eq_true rfl), (Nat.le_of_ble_eq_true rfl)⟩ rfl rfl (Nat.le_of_ble_eq_true rfl) (Nat.le_of_ble_eq_true rfl) (Nat.le_of_ble_eq_true rfl) dX7_init_66 (fun u H locs hu hw66 => ?_)
  obtain ⟨u66, eu⟩ : ∃ z, z = u := ⟨_, rfl⟩
  subst eu
  have hu : q62 = u66 0 := hu
  subst hu
  have hw66 : Wd D A s.heap H _ [[(h0, .inr (7, [.ref (u9 0), .ref (u20 0), .ref (u31 0), .ref (u44 0), .ref (u55 0), .null, .null]))], oX0 u9 u9_series u9_pieces u9_trial u9_moves 0, cR cI u9_series 10 (Zf, Zf, Zf, 0), ar cI (u9 2) 8 Zf, cR cI u9_pieces 42 (Zf, Zf, Zf, 0), cR cI u9_trial 42 (Zf, Zf, Zf, 0), cR cI u9_moves 100 (Zf, Zf, Zf, 0), ar cI (u9 6) 100 Zf, oX1 u20 0 0, cSl cI cS (u20 1) u20_slots (fun _ => (Zf, (Zf, Zf, Zf, 0), 0, 0, 0)), oX3 u31 u31_gaps u31_layings 0, cR cI u31_gaps 41 (Zf, Zf, Zf, 0), cR cI u31_layings 49 (Zf, Zf, Zf, 0), ar cI (u31 3) 8 Zf, cR cI u44 12 (Zf, Zf, Zf, 0), oX6 u55 0 0 0, ar cI (u55 1) 200 Zf, ar cI (u55 2) 24 Zf, ar cI (u55 3) 72 Zf, oX2 u66 0 (-1), ar cI (u66 1) 200 Zf] := hw66
  refine n_putF C hmn inT_X7 tyX7 tyX7_ok nmX7 hw66 0 rfl rfl 5 (by decide) mF_X7_49 rfl rfl rfl rfl (Nat.le_of_ble_eq_true rfl) [[(h0, .inr (7, [.ref (u9 0), .ref (u20 0), .ref (u31 0), .ref (u44 0), .ref (u55 0), .ref (u66 0), .null]))], oX0 u9 u9_series u9_pieces u9_trial u9_moves 0, cR cI u9_series 10 (Zf, Zf, Zf, 0), ar cI (u9 2) 8 Zf, cR cI u9_pieces 42 (Zf, Zf, Zf, 0), cR cI u9_trial 42 (Zf, Zf, Zf, 0), cR cI u9_moves 100 (Zf, Zf, Zf, 0), ar cI (u9 6) 100 Zf, oX1 u20 0 0, cSl cI cS (u20 1) u20_slots (fun _ => (Zf, (Zf, Zf, Zf, 0), 0, 0, 0)), oX3 u31 u31_gaps u31_layings 0, cR cI u31_gaps 41 (Zf, Zf, Zf, 0), cR cI u31_layings 49 (Zf, Zf, Zf, 0), ar cI (u31 3) 8 Zf, cR cI u44 12 (Zf, Zf, Zf, 0), oX6 u55 0 0 0, ar cI (u55 1) 200 Zf, ar cI (u55 2) 24 Zf, ar cI (u55 3) 72 Zf, oX2 u66 0 (-1), ar cI (u66 1) 200 Zf] rfl dX7_init_69 (fun H locs hw69 => ?_)
  refine lv_aload_n hx hb dX7_init_72 rfl (lv_at hl 0 rfl) ?_
  refine n_new (ci := 2) C hA hw69 inT_X2 tyX2 tyX2_ok mJ_X7_46 mN_X2 mI_BoxedPapers_Page rfl [.null, .int 0, .int 0] (fun j hj => by rcases (show j = 0 ∨ j = 1 ∨ j = 2 by omega) with rfl | rfl | rfl <;> rfl) (Nat.le_of_ble_eq_true rfl) (Nat.le_of_ble_eq_true rfl) dX7_init_73 (fun q73 H hw73 => ?_)
  refine lv_dup hx hb dX7_init_76 rfl ?_
  refine n_call C hO hA hl.1 hw73 (nX2 (h0 := q73)) mL_X7_48 rfl mM_X2_init mmX2_init ⟨(Nat.le_of_ble_eq_true rfl), (Nat.le_of_ble_eq_true rfl)⟩ rfl rfl (Nat.le_of_ble_eq_true rfl) (Nat.le_of_ble_eq_true rfl) (Nat.le_of_ble_eq_true rfl) dX7_init_77 (fun u H locs hu hw77 => ?_)
  obtain ⟨u77, eu⟩ : ∃ z, z = u := ⟨_, rfl⟩
  subst eu
  have hu : q73 = u77 0 := hu
  subst hu
  have hw77 : Wd D A s.heap H _ [[(h0, .inr (7, [.ref (u9 0), .ref (u20 0), .ref (u31 0), .ref (u44 0), .ref (u55 0), .ref (u66 0), .null]))], oX0 u9 u9_series u9_pieces u9_trial u9_moves 0, cR cI u9_series 10 (Zf, Zf, Zf, 0), ar cI (u9 2) 8 Zf, cR cI u9_pieces 42 (Zf, Zf, Zf, 0), cR cI u9_trial 42 (Zf, Zf, Zf, 0), cR cI u9_moves 100 (Zf, Zf, Zf, 0), ar cI (u9 6) 100 Zf, oX1 u20 0 0, cSl cI cS (u20 1) u20_slots (fun _ => (Zf, (Zf, Zf, Zf, 0), 0, 0, 0)), oX3 u31 u31_gaps u31_layings 0, cR cI u31_gaps 41 (Zf, Zf, Zf, 0), cR cI u31_layings 49 (Zf, Zf, Zf, 0), ar cI (u31 3) 8 Zf, cR cI u44 12 (Zf, Zf, Zf, 0), oX6 u55 0 0 0, ar cI (u55 1) 200 Zf, ar cI (u55 2) 24 Zf, ar cI (u55 3) 72 Zf, oX2 u66 0 (-1), ar cI (u66 1) 200 Zf, oX2 u77 0 (-1), ar cI (u77 1) 200 Zf] := hw77
  refine n_putF C hmn inT_X7 tyX7 tyX7_ok nmX7 hw77 0 rfl rfl 6 (by decide) mF_X7_53 rfl rfl rfl rfl (Nat.le_of_ble_eq_true rfl) [[(h0, .inr (7, [.ref (u9 0), .ref (u20 0), .ref (u31 0), .ref (u44 0), .ref (u55 0), .ref (u66 0), .ref (u77 0)]))], oX0 u9 u9_series u9_pieces u9_trial u9_moves 0, cR cI u9_series 10 (Zf, Zf, Zf, 0), ar cI (u9 2) 8 Zf, cR cI u9_pieces 42 (Zf, Zf, Zf, 0), cR cI u9_trial 42 (Zf, Zf, Zf, 0), cR cI u9_moves 100 (Zf, Zf, Zf, 0), ar cI (u9 6) 100 Zf, oX1 u20 0 0, cSl cI cS (u20 1) u20_slots (fun _ => (Zf, (Zf, Zf, Zf, 0), 0, 0, 0)), oX3 u31 u31_gaps u31_layings 0, cR cI u31_gaps 41 (Zf, Zf, Zf, 0), cR cI u31_layings 49 (Zf, Zf, Zf, 0), ar cI (u31 3) 8 Zf, cR cI u44 12 (Zf, Zf, Zf, 0), oX6 u55 0 0 0, ar cI (u55 1) 200 Zf, ar cI (u55 2) 24 Zf, ar cI (u55 3) 72 Zf, oX2 u66 0 (-1), ar cI (u66 1) 200 Zf, oX2 u77 0 (-1), ar cI (u77 1) 200 Zf] rfl dX7_init_80 (fun H locs hw80 => ?_)
  exact n_vret (adr [h0, 0, 0, 0, 0, 0, 0, 0], u9, u9_series, u9_pieces, u9_trial, u9_moves, u20, u20_slots, u31, u31_gaps, u31_layings, u44, u55, u66, u77) rfl C hw80 rfl (Nat.le_of_ble_eq_true rfl) (Nat.le_of_ble_eq_true rfl) dX7_init_83
def wX8_81 : Nat → Int32 := upd Zf 0 97
def wX8_86 : Nat → Int32 := upd wX8_81 1 108
def wX8_91 : Nat → Int32 := upd wX8_86 2 108
def wX8_95 : Nat → Int32 := upd wX8_91 3 0
def wX8_99 : Nat → Int32 := upd wX8_95 4 0
def wX8_103 : Nat → Int32 := upd wX8_99 5 0
def wX8_109 : Nat → Int32 := upd wX8_103 6 115
def wX8_115 : Nat → Int32 := upd wX8_109 7 101
def wX8_121 : Nat → Int32 := upd wX8_115 8 114
def wX8_127 : Nat → Int32 := upd wX8_121 9 105
def wX8_133 : Nat → Int32 := upd wX8_127 10 101
def wX8_139 : Nat → Int32 := upd wX8_133 11 115
def wX8_145 : Nat → Int32 := upd wX8_139 12 116
def wX8_151 : Nat → Int32 := upd wX8_145 13 111
def wX8_157 : Nat → Int32 := upd wX8_151 14 112
def wX8_162 : Nat → Int32 := upd wX8_157 15 0
def wX8_167 : Nat → Int32 := upd wX8_162 16 0
def wX8_172 : Nat → Int32 := upd wX8_167 17 0
def wX8_178 : Nat → Int32 := upd wX8_172 18 98
def wX8_184 : Nat → Int32 := upd wX8_178 19 111
def wX8_190 : Nat → Int32 := upd wX8_184 20 120
def wX8_195 : Nat → Int32 := upd wX8_190 21 0
def wX8_200 : Nat → Int32 := upd wX8_195 22 0
def wX8_205 : Nat → Int32 := upd wX8_200 23 0
def wX8_211 : Nat → Int32 := upd wX8_205 24 108
def wX8_217 : Nat → Int32 := upd wX8_211 25 97
def wX8_223 : Nat → Int32 := upd wX8_217 26 121
def wX8_228 : Nat → Int32 := upd wX8_223 27 0
def wX8_233 : Nat → Int32 := upd wX8_228 28 0
def wX8_238 : Nat → Int32 := upd wX8_233 29 0
def wX8_244 : Nat → Int32 := upd wX8_238 30 116
def wX8_250 : Nat → Int32 := upd wX8_244 31 97
def wX8_256 : Nat → Int32 := upd wX8_250 32 107
def wX8_262 : Nat → Int32 := upd wX8_256 33 101
def wX8_267 : Nat → Int32 := upd wX8_262 34 0
def wX8_272 : Nat → Int32 := upd wX8_267 35 0
def wX8_278 : Nat → Int32 := upd wX8_272 36 114
def wX8_284 : Nat → Int32 := upd wX8_278 37 111
def wX8_290 : Nat → Int32 := upd wX8_284 38 119
def wX8_295 : Nat → Int32 := upd wX8_290 39 0
def wX8_300 : Nat → Int32 := upd wX8_295 40 0
def wX8_305 : Nat → Int32 := upd wX8_300 41 0
def wX8_311 : Nat → Int32 := upd wX8_305 42 112
def wX8_317 : Nat → Int32 := upd wX8_311 43 97
def wX8_323 : Nat → Int32 := upd wX8_317 44 115
def wX8_329 : Nat → Int32 := upd wX8_323 45 115
def wX8_334 : Nat → Int32 := upd wX8_329 46 0
def wX8_339 : Nat → Int32 := upd wX8_334 47 0
def wX8_351 : Nat → Int32 := upd Zf 0 0
def wX8_355 : Nat → Int32 := upd wX8_351 1 0
def wX8_359 : Nat → Int32 := upd wX8_355 2 0
def wX8_363 : Nat → Int32 := upd wX8_359 3 1
def wX8_367 : Nat → Int32 := upd wX8_363 4 3
def wX8_371 : Nat → Int32 := upd wX8_367 5 4
def wX8_376 : Nat → Int32 := upd wX8_371 6 3
def wX8_381 : Nat → Int32 := upd wX8_376 7 4
def wX8_386 : Nat → Int32 := upd wX8_381 8 0
def wX8_391 : Nat → Int32 := upd wX8_386 9 2
def wX8_396 : Nat → Int32 := upd wX8_391 10 5
def wX8_401 : Nat → Int32 := upd wX8_396 11 0
def wX8_406 : Nat → Int32 := upd wX8_401 12 2
def wX8_411 : Nat → Int32 := upd wX8_406 13 3
def wX8_416 : Nat → Int32 := upd wX8_411 14 4
def wX8_421 : Nat → Int32 := upd wX8_416 15 3
def wX8_426 : Nat → Int32 := upd wX8_421 16 4
def wX8_431 : Nat → Int32 := upd wX8_426 17 0
def wX8_436 : Nat → Int32 := upd wX8_431 18 2
def wX8_441 : Nat → Int32 := upd wX8_436 19 3
def wX8_446 : Nat → Int32 := upd wX8_441 20 4
def wX8_452 : Nat → Int32 := upd wX8_446 21 6
def wX8_457 : Nat → Int32 := upd wX8_452 22 0
def wX8_462 : Nat → Int32 := upd wX8_457 23 0
def rmX8_init : Room := { frames := 1, cells := 13, slots := 6743, locals := 21 }
set_option maxRecDepth 100000 in
set_option maxHeartbeats 8000000 in
theorem nX8 {l : Launch} {D : va_G} {cI : ClassId} {cS : GS} {h0 : Nat} : CN l D cI cS yX8_init cX8_init 1 rmX8_init [.ref h0] [(h0, .inr (8, [.null, .int 0, .null, .int 0, .null, .int 0, .null, .int 0, .null, .int 0, .int 0, .int 0, .null, .int 0, .null, .int 0, .int 0, .null, .int 0, .null, .null, .null, .null, .null, .int 0]))] (fun u : (Nat → Nat) => h0 = u 0) (fun u => [oX8 u 0 0 0 0 0 0 0 0 0 0 0 0, ar cI (u 1) 5058 Zf, ar cI (u 3) 36 Zf, ar cI (u 5) 200 Zf, ar cI (u 7) 200 Zf, ar cI (u 9) 132 Zf, ar cI (u 13) 192 Zf, ar cI (u 15) 8 Zf, ar cI (u 18) 3 Zf, ar cI (u 20) 48 wX8_339, ar cI (u 21) 24 wX8_462, ar cI (u 22) 80 Zf, ar cI (u 23) 562 Zf, ar cI (u 24) 200 Zf]) := by
  refine CN.of RX8 (by decide) rfl rfl (Nat.le_of_ble_eq_true rfl) (fun p e s m below meth c ls A C hO hmn hA hl hw => ?_)
  have hx := C.1.1
  have hb := C.1.2.1
  have hl : lv_has ls 1 [(0, .ref h0)] := hl
  refine lv_aload_n hx hb dX8_init_0 rfl (lv_at hl 0 rfl) ?_
  refine n_obj C hl.1 mL_X8_1 mm_obj (Nat.le_of_ble_eq_true rfl) (Nat.le_of_ble_eq_true rfl) dX8_init_1 ?_
  refine lv_aload_n hx hb dX8_init_4 rfl (lv_at hl 0 rfl) ?_
  refine lv_sipush (v := 5058) hx hb dX8_init_5 (by decide) ?_
  refine n_newa C hA hw 5058 rfl (by decide) mA_int (Nat.le_of_ble_eq_true rfl) (Nat.le_of_ble_eq_true rfl) dX8_init_8 (fun q8 H hw8 => ?_)
  have hw8 : Wd D A s.heap H _ [[(h0, .inr (8, [.null, .int 0, .null, .int 0, .null, .int 0, .null, .int 0, .null, .int 0, .int 0, .int 0, .null, .int 0, .null, .int 0, .int 0, .null, .int 0, .null, .null, .null, .null, .null, .int 0]))], ar cI q8 5058 Zf] := hw8
  refine n_putF C hmn inT_X8 tyX8 tyX8_ok nmX8 hw8 0 rfl rfl 0 (by decide) mF_X8_7 rfl rfl rfl rfl (Nat.le_of_ble_eq_true rfl) [[(h0, .inr (8, [.ref q8, .int 0, .null, .int 0, .null, .int 0, .null, .int 0, .null, .int 0, .int 0, .int 0, .null, .int 0, .null, .int 0, .int 0, .null, .int 0, .null, .null, .null, .null, .null, .int 0]))], ar cI q8 5058 Zf] rfl dX8_init_10 (fun H locs hw10 => ?_)
  refine lv_aload_n hx hb dX8_init_13 rfl (lv_at hl 0 rfl) ?_
  refine lv_bipush (v := 36) hx hb dX8_init_14 (by decide) ?_
  refine n_newa C hA hw10 36 rfl (by decide) mA_int (Nat.le_of_ble_eq_true rfl) (Nat.le_of_ble_eq_true rfl) dX8_init_16 (fun q16 H hw16 => ?_)
  have hw16 : Wd D A s.heap H _ [[(h0, .inr (8, [.ref q8, .int 0, .null, .int 0, .null, .int 0, .null, .int 0, .null, .int 0, .int 0, .int 0, .null, .int 0, .null, .int 0, .int 0, .null, .int 0, .null, .null, .null, .null, .null, .int 0]))], ar cI q8 5058 Zf, ar cI q16 36 Zf] := hw16
  refine n_putF C hmn inT_X8 tyX8 tyX8_ok nmX8 hw16 0 rfl rfl 2 (by decide) mF_X8_13 rfl rfl rfl rfl (Nat.le_of_ble_eq_true rfl) [[(h0, .inr (8, [.ref q8, .int 0, .ref q16, .int 0, .null, .int 0, .null, .int 0, .null, .int 0, .int 0, .int 0, .null, .int 0, .null, .int 0, .int 0, .null, .int 0, .null, .null, .null, .null, .null, .int 0]))], ar cI q8 5058 Zf, ar cI q16 36 Zf] rfl dX8_init_18 (fun H locs hw18 => ?_)
  refine lv_aload_n hx hb dX8_init_21 rfl (lv_at hl 0 rfl) ?_
  refine lv_sipush (v := 200) hx hb dX8_init_22 (by decide) ?_
  refine n_newa C hA hw18 200 rfl (by decide) mA_int (Nat.le_of_ble_eq_true rfl) (Nat.le_of_ble_eq_true rfl) dX8_init_25 (fun q25 H hw25 => ?_)
  have hw25 : Wd D A s.heap H _ [[(h0, .inr (8, [.ref q8, .int 0, .ref q16, .int 0, .null, .int 0, .null, .int 0, .null, .int 0, .int 0, .int 0, .null, .int 0, .null, .int 0, .int 0, .null, .int 0, .null, .null, .null, .null, .null, .int 0]))], ar cI q8 5058 Zf, ar cI q16 36 Zf, ar cI q25 200 Zf] := hw25
  refine n_putF C hmn inT_X8 tyX8 tyX8_ok nmX8 hw25 0 rfl rfl 4 (by decide) mF_X8_16 rfl rfl rfl rfl (Nat.le_of_ble_eq_true rfl) [[(h0, .inr (8, [.ref q8, .int 0, .ref q16, .int 0, .ref q25, .int 0, .null, .int 0, .null, .int 0, .int 0, .int 0, .null, .int 0, .null, .int 0, .int 0, .null, .int 0, .null, .null, .null, .null, .null, .int 0]))], ar cI q8 5058 Zf, ar cI q16 36 Zf, ar cI q25 200 Zf] rfl dX8_init_27 (fun H locs hw27 => ?_)
  refine lv_aload_n hx hb dX8_init_30 rfl (lv_at hl 0 rfl) ?_
  refine lv_sipush (v := 200) hx hb dX8_init_31 (by decide) ?_
  refine n_newa C hA hw27 200 rfl (by decide) mA_int (Nat.le_of_ble_eq_true rfl) (Nat.le_of_ble_eq_true rfl) dX8_init_34 (fun q34 H hw34 => ?_)
  have hw34 : Wd D A s.heap H _ [[(h0, .inr (8, [.ref q8, .int 0, .ref q16, .int 0, .ref q25, .int 0, .null, .int 0, .null, .int 0, .int 0, .int 0, .null, .int 0, .null, .int 0, .int 0, .null, .int 0, .null, .null, .null, .null, .null, .int 0]))], ar cI q8 5058 Zf, ar cI q16 36 Zf, ar cI q25 200 Zf, ar cI q34 200 Zf] := hw34
  refine n_putF C hmn inT_X8 tyX8 tyX8_ok nmX8 hw34 0 rfl rfl 6 (by decide) mF_X8_19 rfl rfl rfl rfl (Nat.le_of_ble_eq_true rfl) [[(h0, .inr (8, [.ref q8, .int 0, .ref q16, .int 0, .ref q25, .int 0, .ref q34, .int 0, .null, .int 0, .int 0, .int 0, .null, .int 0, .null, .int 0, .int 0, .null, .int 0, .null, .null, .null, .null, .null, .int 0]))], ar cI q8 5058 Zf, ar cI q16 36 Zf, ar cI q25 200 Zf, ar cI q34 200 Zf] rfl dX8_init_36 (fun H locs hw36 => ?_)
  refine lv_aload_n hx hb dX8_init_39 rfl (lv_at hl 0 rfl) ?_
  refine lv_sipush (v := 132) hx hb dX8_init_40 (by decide) ?_
  refine n_newa C hA hw36 132 rfl (by decide) mA_int (Nat.le_of_ble_eq_true rfl) (Nat.le_of_ble_eq_true rfl) dX8_init_43 (fun q43 H hw43 => ?_)
  have hw43 : Wd D A s.heap H _ [[(h0, .inr (8, [.ref q8, .int 0, .ref q16, .int 0, .ref q25, .int 0, .ref q34, .int 0, .null, .int 0, .int 0, .int 0, .null, .int 0, .null, .int 0, .int 0, .null, .int 0, .null, .null, .null, .null, .null, .int 0]))], ar cI q8 5058 Zf, ar cI q16 36 Zf, ar cI q25 200 Zf, ar cI q34 200 Zf, ar cI q43 132 Zf] := hw43
  refine n_putF C hmn inT_X8 tyX8 tyX8_ok nmX8 hw43 0 rfl rfl 8 (by decide) mF_X8_22 rfl rfl rfl rfl (Nat.le_of_ble_eq_true rfl) [[(h0, .inr (8, [.ref q8, .int 0, .ref q16, .int 0, .ref q25, .int 0, .ref q34, .int 0, .ref q43, .int 0, .int 0, .int 0, .null, .int 0, .null, .int 0, .int 0, .null, .int 0, .null, .null, .null, .null, .null, .int 0]))], ar cI q8 5058 Zf, ar cI q16 36 Zf, ar cI q25 200 Zf, ar cI q34 200 Zf, ar cI q43 132 Zf] rfl dX8_init_45 (fun H locs hw45 => ?_)
  refine lv_aload_n hx hb dX8_init_48 rfl (lv_at hl 0 rfl) ?_
  refine lv_sipush (v := 192) hx hb dX8_init_49 (by decide) ?_
  refine n_newa C hA hw45 192 rfl (by decide) mA_int (Nat.le_of_ble_eq_true rfl) (Nat.le_of_ble_eq_true rfl) dX8_init_52 (fun q52 H hw52 => ?_)
  have hw52 : Wd D A s.heap H _ [[(h0, .inr (8, [.ref q8, .int 0, .ref q16, .int 0, .ref q25, .int 0, .ref q34, .int 0, .ref q43, .int 0, .int 0, .int 0, .null, .int 0, .null, .int 0, .int 0, .null, .int 0, .null, .null, .null, .null, .null, .int 0]))], ar cI q8 5058 Zf, ar cI q16 36 Zf, ar cI q25 200 Zf, ar cI q34 200 Zf, ar cI q43 132 Zf, ar cI q52 192 Zf] := hw52
  refine n_putF C hmn inT_X8 tyX8 tyX8_ok nmX8 hw52 0 rfl rfl 12 (by decide) mF_X8_25 rfl rfl rfl rfl (Nat.le_of_ble_eq_true rfl) [[(h0, .inr (8, [.ref q8, .int 0, .ref q16, .int 0, .ref q25, .int 0, .ref q34, .int 0, .ref q43, .int 0, .int 0, .int 0, .ref q52, .int 0, .null, .int 0, .int 0, .null, .int 0, .null, .null, .null, .null, .null, .int 0]))], ar cI q8 5058 Zf, ar cI q16 36 Zf, ar cI q25 200 Zf, ar cI q34 200 Zf, ar cI q43 132 Zf, ar cI q52 192 Zf] rfl dX8_init_54 (fun H locs hw54 => ?_)
  refine lv_aload_n hx hb dX8_init_57 rfl (lv_at hl 0 rfl) ?_
  refine lv_bipush (v := 8) hx hb dX8_init_58 (by decide) ?_
  refine n_newa C hA hw54 8 rfl (by decide) mA_int (Nat.le_of_ble_eq_true rfl) (Nat.le_of_ble_eq_true rfl) dX8_init_60 (fun q60 H hw60 => ?_)
  have hw60 : Wd D A s.heap H _ [[(h0, .inr (8, [.ref q8, .int 0, .ref q16, .int 0, .ref q25, .int 0, .ref q34, .int 0, .ref q43, .int 0, .int 0, .int 0, .ref q52, .int 0, .null, .int 0, .int 0, .null, .int 0, .null, .null, .null, .null, .null, .int 0]))], ar cI q8 5058 Zf, ar cI q16 36 Zf, ar cI q25 200 Zf, ar cI q34 200 Zf, ar cI q43 132 Zf, ar cI q52 192 Zf, ar cI q60 8 Zf] := hw60
  refine n_putF C hmn inT_X8 tyX8 tyX8_ok nmX8 hw60 0 rfl rfl 14 (by decide) mF_X8_28 rfl rfl rfl rfl (Nat.le_of_ble_eq_true rfl) [[(h0, .inr (8, [.ref q8, .int 0, .ref q16, .int 0, .ref q25, .int 0, .ref q34, .int 0, .ref q43, .int 0, .int 0, .int 0, .ref q52, .int 0, .ref q60, .int 0, .int 0, .null, .int 0, .null, .null, .null, .null, .null, .int 0]))], ar cI q8 5058 Zf, ar cI q16 36 Zf, ar cI q25 200 Zf, ar cI q34 200 Zf, ar cI q43 132 Zf, ar cI q52 192 Zf, ar cI q60 8 Zf] rfl dX8_init_62 (fun H locs hw62 => ?_)
  refine lv_aload_n hx hb dX8_init_65 rfl (lv_at hl 0 rfl) ?_
  refine lv_iconst (v := 3) hx hb dX8_init_66 (by decide) ?_
  refine n_newa C hA hw62 3 rfl (by decide) mA_int (Nat.le_of_ble_eq_true rfl) (Nat.le_of_ble_eq_true rfl) dX8_init_67 (fun q67 H hw67 => ?_)
  have hw67 : Wd D A s.heap H _ [[(h0, .inr (8, [.ref q8, .int 0, .ref q16, .int 0, .ref q25, .int 0, .ref q34, .int 0, .ref q43, .int 0, .int 0, .int 0, .ref q52, .int 0, .ref q60, .int 0, .int 0, .null, .int 0, .null, .null, .null, .null, .null, .int 0]))], ar cI q8 5058 Zf, ar cI q16 36 Zf, ar cI q25 200 Zf, ar cI q34 200 Zf, ar cI q43 132 Zf, ar cI q52 192 Zf, ar cI q60 8 Zf, ar cI q67 3 Zf] := hw67
  refine n_putF C hmn inT_X8 tyX8 tyX8_ok nmX8 hw67 0 rfl rfl 17 (by decide) mF_X8_31 rfl rfl rfl rfl (Nat.le_of_ble_eq_true rfl) [[(h0, .inr (8, [.ref q8, .int 0, .ref q16, .int 0, .ref q25, .int 0, .ref q34, .int 0, .ref q43, .int 0, .int 0, .int 0, .ref q52, .int 0, .ref q60, .int 0, .int 0, .ref q67, .int 0, .null, .null, .null, .null, .null, .int 0]))], ar cI q8 5058 Zf, ar cI q16 36 Zf, ar cI q25 200 Zf, ar cI q34 200 Zf, ar cI q43 132 Zf, ar cI q52 192 Zf, ar cI q60 8 Zf, ar cI q67 3 Zf] rfl dX8_init_69 (fun H locs hw69 => ?_)
  refine lv_aload_n hx hb dX8_init_72 rfl (lv_at hl 0 rfl) ?_
  refine lv_bipush (v := 48) hx hb dX8_init_73 (by decide) ?_
  refine n_newa C hA hw69 48 rfl (by decide) mA_int (Nat.le_of_ble_eq_true rfl) (Nat.le_of_ble_eq_true rfl) dX8_init_75 (fun q75 H hw75 => ?_)
  have hw75 : Wd D A s.heap H _ [[(h0, .inr (8, [.ref q8, .int 0, .ref q16, .int 0, .ref q25, .int 0, .ref q34, .int 0, .ref q43, .int 0, .int 0, .int 0, .ref q52, .int 0, .ref q60, .int 0, .int 0, .ref q67, .int 0, .null, .null, .null, .null, .null, .int 0]))], ar cI q8 5058 Zf, ar cI q16 36 Zf, ar cI q25 200 Zf, ar cI q34 200 Zf, ar cI q43 132 Zf, ar cI q52 192 Zf, ar cI q60 8 Zf, ar cI q67 3 Zf, ar cI q75 48 Zf] := hw75
  refine lv_dup hx hb dX8_init_77 rfl ?_
  refine lv_iconst (v := 0) hx hb dX8_init_78 (by decide) ?_
  refine lv_bipush (v := 97) hx hb dX8_init_79 (by decide) ?_
  refine n_iast C hw75 9 rfl 0 rfl (by decide) (by decide) [[(h0, .inr (8, [.ref q8, .int 0, .ref q16, .int 0, .ref q25, .int 0, .ref q34, .int 0, .ref q43, .int 0, .int 0, .int 0, .ref q52, .int 0, .ref q60, .int 0, .int 0, .ref q67, .int 0, .null, .null, .null, .null, .null, .int 0]))], ar cI q8 5058 Zf, ar cI q16 36 Zf, ar cI q25 200 Zf, ar cI q34 200 Zf, ar cI q43 132 Zf, ar cI q52 192 Zf, ar cI q60 8 Zf, ar cI q67 3 Zf, ar cI q75 48 wX8_81] rfl dX8_init_81 (fun H locs hw81 => ?_)
  refine lv_dup hx hb dX8_init_82 rfl ?_
  refine lv_iconst (v := 1) hx hb dX8_init_83 (by decide) ?_
  refine lv_bipush (v := 108) hx hb dX8_init_84 (by decide) ?_
  refine n_iast C hw81 9 rfl 1 rfl (by decide) (by decide) [[(h0, .inr (8, [.ref q8, .int 0, .ref q16, .int 0, .ref q25, .int 0, .ref q34, .int 0, .ref q43, .int 0, .int 0, .int 0, .ref q52, .int 0, .ref q60, .int 0, .int 0, .ref q67, .int 0, .null, .null, .null, .null, .null, .int 0]))], ar cI q8 5058 Zf, ar cI q16 36 Zf, ar cI q25 200 Zf, ar cI q34 200 Zf, ar cI q43 132 Zf, ar cI q52 192 Zf, ar cI q60 8 Zf, ar cI q67 3 Zf, ar cI q75 48 wX8_86] rfl dX8_init_86 (fun H locs hw86 => ?_)
  refine lv_dup hx hb dX8_init_87 rfl ?_
  refine lv_iconst (v := 2) hx hb dX8_init_88 (by decide) ?_
  refine lv_bipush (v := 108) hx hb dX8_init_89 (by decide) ?_
  refine n_iast C hw86 9 rfl 2 rfl (by decide) (by decide) [[(h0, .inr (8, [.ref q8, .int 0, .ref q16, .int 0, .ref q25, .int 0, .ref q34, .int 0, .ref q43, .int 0, .int 0, .int 0, .ref q52, .int 0, .ref q60, .int 0, .int 0, .ref q67, .int 0, .null, .null, .null, .null, .null, .int 0]))], ar cI q8 5058 Zf, ar cI q16 36 Zf, ar cI q25 200 Zf, ar cI q34 200 Zf, ar cI q43 132 Zf, ar cI q52 192 Zf, ar cI q60 8 Zf, ar cI q67 3 Zf, ar cI q75 48 wX8_91] rfl dX8_init_91 (fun H locs hw91 => ?_)
  refine lv_dup hx hb dX8_init_92 rfl ?_
  refine lv_iconst (v := 3) hx hb dX8_init_93 (by decide) ?_
  refine lv_iconst (v := 0) hx hb dX8_init_94 (by decide) ?_
  refine n_iast C hw91 9 rfl 3 rfl (by decide) (by decide) [[(h0, .inr (8, [.ref q8, .int 0, .ref q16, .int 0, .ref q25, .int 0, .ref q34, .int 0, .ref q43, .int 0, .int 0, .int 0, .ref q52, .int 0, .ref q60, .int 0, .int 0, .ref q67, .int 0, .null, .null, .null, .null, .null, .int 0]))], ar cI q8 5058 Zf, ar cI q16 36 Zf, ar cI q25 200 Zf, ar cI q34 200 Zf, ar cI q43 132 Zf, ar cI q52 192 Zf, ar cI q60 8 Zf, ar cI q67 3 Zf, ar cI q75 48 wX8_95] rfl dX8_init_95 (fun H locs hw95 => ?_)
  refine lv_dup hx hb dX8_init_96 rfl ?_
  refine lv_iconst (v := 4) hx hb dX8_init_97 (by decide) ?_
  refine lv_iconst (v := 0) hx hb dX8_init_98 (by decide) ?_
  refine n_iast C hw95 9 rfl 4 rfl (by decide) (by decide) [[(h0, .inr (8, [.ref q8, .int 0, .ref q16, .int 0, .ref q25, .int 0, .ref q34, .int 0, .ref q43, .int 0, .int 0, .int 0, .ref q52, .int 0, .ref q60, .int 0, .int 0, .ref q67, .int 0, .null, .null, .null, .null, .null, .int 0]))], ar cI q8 5058 Zf, ar cI q16 36 Zf, ar cI q25 200 Zf, ar cI q34 200 Zf, ar cI q43 132 Zf, ar cI q52 192 Zf, ar cI q60 8 Zf, ar cI q67 3 Zf, ar cI q75 48 wX8_99] rfl dX8_init_99 (fun H locs hw99 => ?_)
  refine lv_dup hx hb dX8_init_100 rfl ?_
  refine lv_iconst (v := 5) hx hb dX8_init_101 (by decide) ?_
  refine lv_iconst (v := 0) hx hb dX8_init_102 (by decide) ?_
  refine n_iast C hw99 9 rfl 5 rfl (by decide) (by decide) [[(h0, .inr (8, [.ref q8, .int 0, .ref q16, .int 0, .ref q25, .int 0, .ref q34, .int 0, .ref q43, .int 0, .int 0, .int 0, .ref q52, .int 0, .ref q60, .int 0, .int 0, .ref q67, .int 0, .null, .null, .null, .null, .null, .int 0]))], ar cI q8 5058 Zf, ar cI q16 36 Zf, ar cI q25 200 Zf, ar cI q34 200 Zf, ar cI q43 132 Zf, ar cI q52 192 Zf, ar cI q60 8 Zf, ar cI q67 3 Zf, ar cI q75 48 wX8_103] rfl dX8_init_103 (fun H locs hw103 => ?_)
  refine lv_dup hx hb dX8_init_104 rfl ?_
  refine lv_bipush (v := 6) hx hb dX8_init_105 (by decide) ?_
  refine lv_bipush (v := 115) hx hb dX8_init_107 (by decide) ?_
  refine n_iast C hw103 9 rfl 6 rfl (by decide) (by decide) [[(h0, .inr (8, [.ref q8, .int 0, .ref q16, .int 0, .ref q25, .int 0, .ref q34, .int 0, .ref q43, .int 0, .int 0, .int 0, .ref q52, .int 0, .ref q60, .int 0, .int 0, .ref q67, .int 0, .null, .null, .null, .null, .null, .int 0]))], ar cI q8 5058 Zf, ar cI q16 36 Zf, ar cI q25 200 Zf, ar cI q34 200 Zf, ar cI q43 132 Zf, ar cI q52 192 Zf, ar cI q60 8 Zf, ar cI q67 3 Zf, ar cI q75 48 wX8_109] rfl dX8_init_109 (fun H locs hw109 => ?_)
  refine lv_dup hx hb dX8_init_110 rfl ?_
  refine lv_bipush (v := 7) hx hb dX8_init_111 (by decide) ?_
  refine lv_bipush (v := 101) hx hb dX8_init_113 (by decide) ?_
  refine n_iast C hw109 9 rfl 7 rfl (by decide) (by decide) [[(h0, .inr (8, [.ref q8, .int 0, .ref q16, .int 0, .ref q25, .int 0, .ref q34, .int 0, .ref q43, .int 0, .int 0, .int 0, .ref q52, .int 0, .ref q60, .int 0, .int 0, .ref q67, .int 0, .null, .null, .null, .null, .null, .int 0]))], ar cI q8 5058 Zf, ar cI q16 36 Zf, ar cI q25 200 Zf, ar cI q34 200 Zf, ar cI q43 132 Zf, ar cI q52 192 Zf, ar cI q60 8 Zf, ar cI q67 3 Zf, ar cI q75 48 wX8_115] rfl dX8_init_115 (fun H locs hw115 => ?_)
  refine lv_dup hx hb dX8_init_116 rfl ?_
  refine lv_bipush (v := 8) hx hb dX8_init_117 (by decide) ?_
  refine lv_bipush (v := 114) hx hb dX8_init_119 (by decide) ?_
  refine n_iast C hw115 9 rfl 8 rfl (by decide) (by decide) [[(h0, .inr (8, [.ref q8, .int 0, .ref q16, .int 0, .ref q25, .int 0, .ref q34, .int 0, .ref q43, .int 0, .int 0, .int 0, .ref q52, .int 0, .ref q60, .int 0, .int 0, .ref q67, .int 0, .null, .null, .null, .null, .null, .int 0]))], ar cI q8 5058 Zf, ar cI q16 36 Zf, ar cI q25 200 Zf, ar cI q34 200 Zf, ar cI q43 132 Zf, ar cI q52 192 Zf, ar cI q60 8 Zf, ar cI q67 3 Zf, ar cI q75 48 wX8_121] rfl dX8_init_121 (fun H locs hw121 => ?_)
  refine lv_dup hx hb dX8_init_122 rfl ?_
  refine lv_bipush (v := 9) hx hb dX8_init_123 (by decide) ?_
  refine lv_bipush (v := 105) hx hb dX8_init_125 (by decide) ?_
  refine n_iast C hw121 9 rfl 9 rfl (by decide) (by decide) [[(h0, .inr (8, [.ref q8, .int 0, .ref q16, .int 0, .ref q25, .int 0, .ref q34, .int 0, .ref q43, .int 0, .int 0, .int 0, .ref q52, .int 0, .ref q60, .int 0, .int 0, .ref q67, .int 0, .null, .null, .null, .null, .null, .int 0]))], ar cI q8 5058 Zf, ar cI q16 36 Zf, ar cI q25 200 Zf, ar cI q34 200 Zf, ar cI q43 132 Zf, ar cI q52 192 Zf, ar cI q60 8 Zf, ar cI q67 3 Zf, ar cI q75 48 wX8_127] rfl dX8_init_127 (fun H locs hw127 => ?_)
  refine lv_dup hx hb dX8_init_128 rfl ?_
  refine lv_bipush (v := 10) hx hb dX8_init_129 (by decide) ?_
  refine lv_bipush (v := 101) hx hb dX8_init_131 (by decide) ?_
  refine n_iast C hw127 9 rfl 10 rfl (by decide) (by decide) [[(h0, .inr (8, [.ref q8, .int 0, .ref q16, .int 0, .ref q25, .int 0, .ref q34, .int 0, .ref q43, .int 0, .int 0, .int 0, .ref q52, .int 0, .ref q60, .int 0, .int 0, .ref q67, .int 0, .null, .null, .null, .null, .null, .int 0]))], ar cI q8 5058 Zf, ar cI q16 36 Zf, ar cI q25 200 Zf, ar cI q34 200 Zf, ar cI q43 132 Zf, ar cI q52 192 Zf, ar cI q60 8 Zf, ar cI q67 3 Zf, ar cI q75 48 wX8_133] rfl dX8_init_133 (fun H locs hw133 => ?_)
  refine lv_dup hx hb dX8_init_134 rfl ?_
  refine lv_bipush (v := 11) hx hb dX8_init_135 (by decide) ?_
  refine lv_bipush (v := 115) hx hb dX8_init_137 (by decide) ?_
  refine n_iast C hw133 9 rfl 11 rfl (by decide) (by decide) [[(h0, .inr (8, [.ref q8, .int 0, .ref q16, .int 0, .ref q25, .int 0, .ref q34, .int 0, .ref q43, .int 0, .int 0, .int 0, .ref q52, .int 0, .ref q60, .int 0, .int 0, .ref q67, .int 0, .null, .null, .null, .null, .null, .int 0]))], ar cI q8 5058 Zf, ar cI q16 36 Zf, ar cI q25 200 Zf, ar cI q34 200 Zf, ar cI q43 132 Zf, ar cI q52 192 Zf, ar cI q60 8 Zf, ar cI q67 3 Zf, ar cI q75 48 wX8_139] rfl dX8_init_139 (fun H locs hw139 => ?_)
  refine lv_dup hx hb dX8_init_140 rfl ?_
  refine lv_bipush (v := 12) hx hb dX8_init_141 (by decide) ?_
  refine lv_bipush (v := 116) hx hb dX8_init_143 (by decide) ?_
  refine n_iast C hw139 9 rfl 12 rfl (by decide) (by decide) [[(h0, .inr (8, [.ref q8, .int 0, .ref q16, .int 0, .ref q25, .int 0, .ref q34, .int 0, .ref q43, .int 0, .int 0, .int 0, .ref q52, .int 0, .ref q60, .int 0, .int 0, .ref q67, .int 0, .null, .null, .null, .null, .null, .int 0]))], ar cI q8 5058 Zf, ar cI q16 36 Zf, ar cI q25 200 Zf, ar cI q34 200 Zf, ar cI q43 132 Zf, ar cI q52 192 Zf, ar cI q60 8 Zf, ar cI q67 3 Zf, ar cI q75 48 wX8_145] rfl dX8_init_145 (fun H locs hw145 => ?_)
  refine lv_dup hx hb dX8_init_146 rfl ?_
  refine lv_bipush (v := 13) hx hb dX8_init_147 (by decide) ?_
  refine lv_bipush (v := 111) hx hb dX8_init_149 (by decide) ?_
  refine n_iast C hw145 9 rfl 13 rfl (by decide) (by decide) [[(h0, .inr (8, [.ref q8, .int 0, .ref q16, .int 0, .ref q25, .int 0, .ref q34, .int 0, .ref q43, .int 0, .int 0, .int 0, .ref q52, .int 0, .ref q60, .int 0, .int 0, .ref q67, .int 0, .null, .null, .null, .null, .null, .int 0]))], ar cI q8 5058 Zf, ar cI q16 36 Zf, ar cI q25 200 Zf, ar cI q34 200 Zf, ar cI q43 132 Zf, ar cI q52 192 Zf, ar cI q60 8 Zf, ar cI q67 3 Zf, ar cI q75 48 wX8_151] rfl dX8_init_151 (fun H locs hw151 => ?_)
  refine lv_dup hx hb dX8_init_152 rfl ?_
  refine lv_bipush (v := 14) hx hb dX8_init_153 (by decide) ?_
  refine lv_bipush (v := 112) hx hb dX8_init_155 (by decide) ?_
  refine n_iast C hw151 9 rfl 14 rfl (by decide) (by decide) [[(h0, .inr (8, [.ref q8, .int 0, .ref q16, .int 0, .ref q25, .int 0, .ref q34, .int 0, .ref q43, .int 0, .int 0, .int 0, .ref q52, .int 0, .ref q60, .int 0, .int 0, .ref q67, .int 0, .null, .null, .null, .null, .null, .int 0]))], ar cI q8 5058 Zf, ar cI q16 36 Zf, ar cI q25 200 Zf, ar cI q34 200 Zf, ar cI q43 132 Zf, ar cI q52 192 Zf, ar cI q60 8 Zf, ar cI q67 3 Zf, ar cI q75 48 wX8_157] rfl dX8_init_157 (fun H locs hw157 => ?_)
  refine lv_dup hx hb dX8_init_158 rfl ?_
  refine lv_bipush (v := 15) hx hb dX8_init_159 (by decide) ?_
  refine lv_iconst (v := 0) hx hb dX8_init_161 (by decide) ?_
  refine n_iast C hw157 9 rfl 15 rfl (by decide) (by decide) [[(h0, .inr (8, [.ref q8, .int 0, .ref q16, .int 0, .ref q25, .int 0, .ref q34, .int 0, .ref q43, .int 0, .int 0, .int 0, .ref q52, .int 0, .ref q60, .int 0, .int 0, .ref q67, .int 0, .null, .null, .null, .null, .null, .int 0]))], ar cI q8 5058 Zf, ar cI q16 36 Zf, ar cI q25 200 Zf, ar cI q34 200 Zf, ar cI q43 132 Zf, ar cI q52 192 Zf, ar cI q60 8 Zf, ar cI q67 3 Zf, ar cI q75 48 wX8_162] rfl dX8_init_162 (fun H locs hw162 => ?_)
  refine lv_dup hx hb dX8_init_163 rfl ?_
  refine lv_bipush (v := 16) hx hb dX8_init_164 (by decide) ?_
  refine lv_iconst (v := 0) hx hb dX8_init_166 (by decide) ?_
  refine n_iast C hw162 9 rfl 16 rfl (by decide) (by decide) [[(h0, .inr (8, [.ref q8, .int 0, .ref q16, .int 0, .ref q25, .int 0, .ref q34, .int 0, .ref q43, .int 0, .int 0, .int 0, .ref q52, .int 0, .ref q60, .int 0, .int 0, .ref q67, .int 0, .null, .null, .null, .null, .null, .int 0]))], ar cI q8 5058 Zf, ar cI q16 36 Zf, ar cI q25 200 Zf, ar cI q34 200 Zf, ar cI q43 132 Zf, ar cI q52 192 Zf, ar cI q60 8 Zf, ar cI q67 3 Zf, ar cI q75 48 wX8_167] rfl dX8_init_167 (fun H locs hw167 => ?_)
  refine lv_dup hx hb dX8_init_168 rfl ?_
  refine lv_bipush (v := 17) hx hb dX8_init_169 (by decide) ?_
  refine lv_iconst (v := 0) hx hb dX8_init_171 (by decide) ?_
  refine n_iast C hw167 9 rfl 17 rfl (by decide) (by decide) [[(h0, .inr (8, [.ref q8, .int 0, .ref q16, .int 0, .ref q25, .int 0, .ref q34, .int 0, .ref q43, .int 0, .int 0, .int 0, .ref q52, .int 0, .ref q60, .int 0, .int 0, .ref q67, .int 0, .null, .null, .null, .null, .null, .int 0]))], ar cI q8 5058 Zf, ar cI q16 36 Zf, ar cI q25 200 Zf, ar cI q34 200 Zf, ar cI q43 132 Zf, ar cI q52 192 Zf, ar cI q60 8 Zf, ar cI q67 3 Zf, ar cI q75 48 wX8_172] rfl dX8_init_172 (fun H locs hw172 => ?_)
  refine lv_dup hx hb dX8_init_173 rfl ?_
  refine lv_bipush (v := 18) hx hb dX8_init_174 (by decide) ?_
  refine lv_bipush (v := 98) hx hb dX8_init_176 (by decide) ?_
  refine n_iast C hw172 9 rfl 18 rfl (by decide) (by decide) [[(h0, .inr (8, [.ref q8, .int 0, .ref q16, .int 0, .ref q25, .int 0, .ref q34, .int 0, .ref q43, .int 0, .int 0, .int 0, .ref q52, .int 0, .ref q60, .int 0, .int 0, .ref q67, .int 0, .null, .null, .null, .null, .null, .int 0]))], ar cI q8 5058 Zf, ar cI q16 36 Zf, ar cI q25 200 Zf, ar cI q34 200 Zf, ar cI q43 132 Zf, ar cI q52 192 Zf, ar cI q60 8 Zf, ar cI q67 3 Zf, ar cI q75 48 wX8_178] rfl dX8_init_178 (fun H locs hw178 => ?_)
  refine lv_dup hx hb dX8_init_179 rfl ?_
  refine lv_bipush (v := 19) hx hb dX8_init_180 (by decide) ?_
  refine lv_bipush (v := 111) hx hb dX8_init_182 (by decide) ?_
  refine n_iast C hw178 9 rfl 19 rfl (by decide) (by decide) [[(h0, .inr (8, [.ref q8, .int 0, .ref q16, .int 0, .ref q25, .int 0, .ref q34, .int 0, .ref q43, .int 0, .int 0, .int 0, .ref q52, .int 0, .ref q60, .int 0, .int 0, .ref q67, .int 0, .null, .null, .null, .null, .null, .int 0]))], ar cI q8 5058 Zf, ar cI q16 36 Zf, ar cI q25 200 Zf, ar cI q34 200 Zf, ar cI q43 132 Zf, ar cI q52 192 Zf, ar cI q60 8 Zf, ar cI q67 3 Zf, ar cI q75 48 wX8_184] rfl dX8_init_184 (fun H locs hw184 => ?_)
  refine lv_dup hx hb dX8_init_185 rfl ?_
  refine lv_bipush (v := 20) hx hb dX8_init_186 (by decide) ?_
  refine lv_bipush (v := 120) hx hb dX8_init_188 (by decide) ?_
  refine n_iast C hw184 9 rfl 20 rfl (by decide) (by decide) [[(h0, .inr (8, [.ref q8, .int 0, .ref q16, .int 0, .ref q25, .int 0, .ref q34, .int 0, .ref q43, .int 0, .int 0, .int 0, .ref q52, .int 0, .ref q60, .int 0, .int 0, .ref q67, .int 0, .null, .null, .null, .null, .null, .int 0]))], ar cI q8 5058 Zf, ar cI q16 36 Zf, ar cI q25 200 Zf, ar cI q34 200 Zf, ar cI q43 132 Zf, ar cI q52 192 Zf, ar cI q60 8 Zf, ar cI q67 3 Zf, ar cI q75 48 wX8_190] rfl dX8_init_190 (fun H locs hw190 => ?_)
  refine lv_dup hx hb dX8_init_191 rfl ?_
  refine lv_bipush (v := 21) hx hb dX8_init_192 (by decide) ?_
  refine lv_iconst (v := 0) hx hb dX8_init_194 (by decide) ?_
  refine n_iast C hw190 9 rfl 21 rfl (by decide) (by decide) [[(h0, .inr (8, [.ref q8, .int 0, .ref q16, .int 0, .ref q25, .int 0, .ref q34, .int 0, .ref q43, .int 0, .int 0, .int 0, .ref q52, .int 0, .ref q60, .int 0, .int 0, .ref q67, .int 0, .null, .null, .null, .null, .null, .int 0]))], ar cI q8 5058 Zf, ar cI q16 36 Zf, ar cI q25 200 Zf, ar cI q34 200 Zf, ar cI q43 132 Zf, ar cI q52 192 Zf, ar cI q60 8 Zf, ar cI q67 3 Zf, ar cI q75 48 wX8_195] rfl dX8_init_195 (fun H locs hw195 => ?_)
  refine lv_dup hx hb dX8_init_196 rfl ?_
  refine lv_bipush (v := 22) hx hb dX8_init_197 (by decide) ?_
  refine lv_iconst (v := 0) hx hb dX8_init_199 (by decide) ?_
  refine n_iast C hw195 9 rfl 22 rfl (by decide) (by decide) [[(h0, .inr (8, [.ref q8, .int 0, .ref q16, .int 0, .ref q25, .int 0, .ref q34, .int 0, .ref q43, .int 0, .int 0, .int 0, .ref q52, .int 0, .ref q60, .int 0, .int 0, .ref q67, .int 0, .null, .null, .null, .null, .null, .int 0]))], ar cI q8 5058 Zf, ar cI q16 36 Zf, ar cI q25 200 Zf, ar cI q34 200 Zf, ar cI q43 132 Zf, ar cI q52 192 Zf, ar cI q60 8 Zf, ar cI q67 3 Zf, ar cI q75 48 wX8_200] rfl dX8_init_200 (fun H locs hw200 => ?_)
  refine lv_dup hx hb dX8_init_201 rfl ?_
  refine lv_bipush (v := 23) hx hb dX8_init_202 (by decide) ?_
  refine lv_iconst (v := 0) hx hb dX8_init_204 (by decide) ?_
  refine n_iast C hw200 9 rfl 23 rfl (by decide) (by decide) [[(h0, .inr (8, [.ref q8, .int 0, .ref q16, .int 0, .ref q25, .int 0, .ref q34, .int 0, .ref q43, .int 0, .int 0, .int 0, .ref q52, .int 0, .ref q60, .int 0, .int 0, .ref q67, .int 0, .null, .null, .null, .null, .null, .int 0]))], ar cI q8 5058 Zf, ar cI q16 36 Zf, ar cI q25 200 Zf, ar cI q34 200 Zf, ar cI q43 132 Zf, ar cI q52 192 Zf, ar cI q60 8 Zf, ar cI q67 3 Zf, ar cI q75 48 wX8_205] rfl dX8_init_205 (fun H locs hw205 => ?_)
  refine lv_dup hx hb dX8_init_206 rfl ?_
  refine lv_bipush (v := 24) hx hb dX8_init_207 (by decide) ?_
  refine lv_bipush (v := 108) hx hb dX8_init_209 (by decide) ?_
  refine n_iast C hw205 9 rfl 24 rfl (by decide) (by decide) [[(h0, .inr (8, [.ref q8, .int 0, .ref q16, .int 0, .ref q25, .int 0, .ref q34, .int 0, .ref q43, .int 0, .int 0, .int 0, .ref q52, .int 0, .ref q60, .int 0, .int 0, .ref q67, .int 0, .null, .null, .null, .null, .null, .int 0]))], ar cI q8 5058 Zf, ar cI q16 36 Zf, ar cI q25 200 Zf, ar cI q34 200 Zf, ar cI q43 132 Zf, ar cI q52 192 Zf, ar cI q60 8 Zf, ar cI q67 3 Zf, ar cI q75 48 wX8_211] rfl dX8_init_211 (fun H locs hw211 => ?_)
  refine lv_dup hx hb dX8_init_212 rfl ?_
  refine lv_bipush (v := 25) hx hb dX8_init_213 (by decide) ?_
  refine lv_bipush (v := 97) hx hb dX8_init_215 (by decide) ?_
  refine n_iast C hw211 9 rfl 25 rfl (by decide) (by decide) [[(h0, .inr (8, [.ref q8, .int 0, .ref q16, .int 0, .ref q25, .int 0, .ref q34, .int 0, .ref q43, .int 0, .int 0, .int 0, .ref q52, .int 0, .ref q60, .int 0, .int 0, .ref q67, .int 0, .null, .null, .null, .null, .null, .int 0]))], ar cI q8 5058 Zf, ar cI q16 36 Zf, ar cI q25 200 Zf, ar cI q34 200 Zf, ar cI q43 132 Zf, ar cI q52 192 Zf, ar cI q60 8 Zf, ar cI q67 3 Zf, ar cI q75 48 wX8_217] rfl dX8_init_217 (fun H locs hw217 => ?_)
  refine lv_dup hx hb dX8_init_218 rfl ?_
  refine lv_bipush (v := 26) hx hb dX8_init_219 (by decide) ?_
  refine lv_bipush (v := 121) hx hb dX8_init_221 (by decide) ?_
  refine n_iast C hw217 9 rfl 26 rfl (by decide) (by decide) [[(h0, .inr (8, [.ref q8, .int 0, .ref q16, .int 0, .ref q25, .int 0, .ref q34, .int 0, .ref q43, .int 0, .int 0, .int 0, .ref q52, .int 0, .ref q60, .int 0, .int 0, .ref q67, .int 0, .null, .null, .null, .null, .null, .int 0]))], ar cI q8 5058 Zf, ar cI q16 36 Zf, ar cI q25 200 Zf, ar cI q34 200 Zf, ar cI q43 132 Zf, ar cI q52 192 Zf, ar cI q60 8 Zf, ar cI q67 3 Zf, ar cI q75 48 wX8_223] rfl dX8_init_223 (fun H locs hw223 => ?_)
  refine lv_dup hx hb dX8_init_224 rfl ?_
  refine lv_bipush (v := 27) hx hb dX8_init_225 (by decide) ?_
  refine lv_iconst (v := 0) hx hb dX8_init_227 (by decide) ?_
  refine n_iast C hw223 9 rfl 27 rfl (by decide) (by decide) [[(h0, .inr (8, [.ref q8, .int 0, .ref q16, .int 0, .ref q25, .int 0, .ref q34, .int 0, .ref q43, .int 0, .int 0, .int 0, .ref q52, .int 0, .ref q60, .int 0, .int 0, .ref q67, .int 0, .null, .null, .null, .null, .null, .int 0]))], ar cI q8 5058 Zf, ar cI q16 36 Zf, ar cI q25 200 Zf, ar cI q34 200 Zf, ar cI q43 132 Zf, ar cI q52 192 Zf, ar cI q60 8 Zf, ar cI q67 3 Zf, ar cI q75 48 wX8_228] rfl dX8_init_228 (fun H locs hw228 => ?_)
  refine lv_dup hx hb dX8_init_229 rfl ?_
  refine lv_bipush (v := 28) hx hb dX8_init_230 (by decide) ?_
  refine lv_iconst (v := 0) hx hb dX8_init_232 (by decide) ?_
  refine n_iast C hw228 9 rfl 28 rfl (by decide) (by decide) [[(h0, .inr (8, [.ref q8, .int 0, .ref q16, .int 0, .ref q25, .int 0, .ref q34, .int 0, .ref q43, .int 0, .int 0, .int 0, .ref q52, .int 0, .ref q60, .int 0, .int 0, .ref q67, .int 0, .null, .null, .null, .null, .null, .int 0]))], ar cI q8 5058 Zf, ar cI q16 36 Zf, ar cI q25 200 Zf, ar cI q34 200 Zf, ar cI q43 132 Zf, ar cI q52 192 Zf, ar cI q60 8 Zf, ar cI q67 3 Zf, ar cI q75 48 wX8_233] rfl dX8_init_233 (fun H locs hw233 => ?_)
  refine lv_dup hx hb dX8_init_234 rfl ?_
  refine lv_bipush (v := 29) hx hb dX8_init_235 (by decide) ?_
  refine lv_iconst (v := 0) hx hb dX8_init_237 (by decide) ?_
  refine n_iast C hw233 9 rfl 29 rfl (by decide) (by decide) [[(h0, .inr (8, [.ref q8, .int 0, .ref q16, .int 0, .ref q25, .int 0, .ref q34, .int 0, .ref q43, .int 0, .int 0, .int 0, .ref q52, .int 0, .ref q60, .int 0, .int 0, .ref q67, .int 0, .null, .null, .null, .null, .null, .int 0]))], ar cI q8 5058 Zf, ar cI q16 36 Zf, ar cI q25 200 Zf, ar cI q34 200 Zf, ar cI q43 132 Zf, ar cI q52 192 Zf, ar cI q60 8 Zf, ar cI q67 3 Zf, ar cI q75 48 wX8_238] rfl dX8_init_238 (fun H locs hw238 => ?_)
  refine lv_dup hx hb dX8_init_239 rfl ?_
  refine lv_bipush (v := 30) hx hb dX8_init_240 (by decide) ?_
  refine lv_bipush (v := 116) hx hb dX8_init_242 (by decide) ?_
  refine n_iast C hw238 9 rfl 30 rfl (by decide) (by decide) [[(h0, .inr (8, [.ref q8, .int 0, .ref q16, .int 0, .ref q25, .int 0, .ref q34, .int 0, .ref q43, .int 0, .int 0, .int 0, .ref q52, .int 0, .ref q60, .int 0, .int 0, .ref q67, .int 0, .null, .null, .null, .null, .null, .int 0]))], ar cI q8 5058 Zf, ar cI q16 36 Zf, ar cI q25 200 Zf, ar cI q34 200 Zf, ar cI q43 132 Zf, ar cI q52 192 Zf, ar cI q60 8 Zf, ar cI q67 3 Zf, ar cI q75 48 wX8_244] rfl dX8_init_244 (fun H locs hw244 => ?_)
  refine lv_dup hx hb dX8_init_245 rfl ?_
  refine lv_bipush (v := 31) hx hb dX8_init_246 (by decide) ?_
  refine lv_bipush (v := 97) hx hb dX8_init_248 (by decide) ?_
  refine n_iast C hw244 9 rfl 31 rfl (by decide) (by decide) [[(h0, .inr (8, [.ref q8, .int 0, .ref q16, .int 0, .ref q25, .int 0, .ref q34, .int 0, .ref q43, .int 0, .int 0, .int 0, .ref q52, .int 0, .ref q60, .int 0, .int 0, .ref q67, .int 0, .null, .null, .null, .null, .null, .int 0]))], ar cI q8 5058 Zf, ar cI q16 36 Zf, ar cI q25 200 Zf, ar cI q34 200 Zf, ar cI q43 132 Zf, ar cI q52 192 Zf, ar cI q60 8 Zf, ar cI q67 3 Zf, ar cI q75 48 wX8_250] rfl dX8_init_250 (fun H locs hw250 => ?_)
  refine lv_dup hx hb dX8_init_251 rfl ?_
  refine lv_bipush (v := 32) hx hb dX8_init_252 (by decide) ?_
  refine lv_bipush (v := 107) hx hb dX8_init_254 (by decide) ?_
  refine n_iast C hw250 9 rfl 32 rfl (by decide) (by decide) [[(h0, .inr (8, [.ref q8, .int 0, .ref q16, .int 0, .ref q25, .int 0, .ref q34, .int 0, .ref q43, .int 0, .int 0, .int 0, .ref q52, .int 0, .ref q60, .int 0, .int 0, .ref q67, .int 0, .null, .null, .null, .null, .null, .int 0]))], ar cI q8 5058 Zf, ar cI q16 36 Zf, ar cI q25 200 Zf, ar cI q34 200 Zf, ar cI q43 132 Zf, ar cI q52 192 Zf, ar cI q60 8 Zf, ar cI q67 3 Zf, ar cI q75 48 wX8_256] rfl dX8_init_256 (fun H locs hw256 => ?_)
  refine lv_dup hx hb dX8_init_257 rfl ?_
  refine lv_bipush (v := 33) hx hb dX8_init_258 (by decide) ?_
  refine lv_bipush (v := 101) hx hb dX8_init_260 (by decide) ?_
  refine n_iast C hw256 9 rfl 33 rfl (by decide) (by decide) [[(h0, .inr (8, [.ref q8, .int 0, .ref q16, .int 0, .ref q25, .int 0, .ref q34, .int 0, .ref q43, .int 0, .int 0, .int 0, .ref q52, .int 0, .ref q60, .int 0, .int 0, .ref q67, .int 0, .null, .null, .null, .null, .null, .int 0]))], ar cI q8 5058 Zf, ar cI q16 36 Zf, ar cI q25 200 Zf, ar cI q34 200 Zf, ar cI q43 132 Zf, ar cI q52 192 Zf, ar cI q60 8 Zf, ar cI q67 3 Zf, ar cI q75 48 wX8_262] rfl dX8_init_262 (fun H locs hw262 => ?_)
  refine lv_dup hx hb dX8_init_263 rfl ?_
  refine lv_bipush (v := 34) hx hb dX8_init_264 (by decide) ?_
  refine lv_iconst (v := 0) hx hb dX8_init_266 (by decide) ?_
  refine n_iast C hw262 9 rfl 34 rfl (by decide) (by decide) [[(h0, .inr (8, [.ref q8, .int 0, .ref q16, .int 0, .ref q25, .int 0, .ref q34, .int 0, .ref q43, .int 0, .int 0, .int 0, .ref q52, .int 0, .ref q60, .int 0, .int 0, .ref q67, .int 0, .null, .null, .null, .null, .null, .int 0]))], ar cI q8 5058 Zf, ar cI q16 36 Zf, ar cI q25 200 Zf, ar cI q34 200 Zf, ar cI q43 132 Zf, ar cI q52 192 Zf, ar cI q60 8 Zf, ar cI q67 3 Zf, ar cI q75 48 wX8_267] rfl dX8_init_267 (fun H locs hw267 => ?_)
  refine lv_dup hx hb dX8_init_268 rfl ?_
  refine lv_bipush (v := 35) hx hb dX8_init_269 (by decide) ?_
  refine lv_iconst (v := 0) hx hb dX8_init_271 (by decide) ?_
  refine n_iast C hw267 9 rfl 35 rfl (by decide) (by decide) [[(h0, .inr (8, [.ref q8, .int 0, .ref q16, .int 0, .ref q25, .int 0, .ref q34, .int 0, .ref q43, .int 0, .int 0, .int 0, .ref q52, .int 0, .ref q60, .int 0, .int 0, .ref q67, .int 0, .null, .null, .null, .null, .null, .int 0]))], ar cI q8 5058 Zf, ar cI q16 36 Zf, ar cI q25 200 Zf, ar cI q34 200 Zf, ar cI q43 132 Zf, ar cI q52 192 Zf, ar cI q60 8 Zf, ar cI q67 3 Zf, ar cI q75 48 wX8_272] rfl dX8_init_272 (fun H locs hw272 => ?_)
  refine lv_dup hx hb dX8_init_273 rfl ?_
  refine lv_bipush (v := 36) hx hb dX8_init_274 (by decide) ?_
  refine lv_bipush (v := 114) hx hb dX8_init_276 (by decide) ?_
  refine n_iast C hw272 9 rfl 36 rfl (by decide) (by decide) [[(h0, .inr (8, [.ref q8, .int 0, .ref q16, .int 0, .ref q25, .int 0, .ref q34, .int 0, .ref q43, .int 0, .int 0, .int 0, .ref q52, .int 0, .ref q60, .int 0, .int 0, .ref q67, .int 0, .null, .null, .null, .null, .null, .int 0]))], ar cI q8 5058 Zf, ar cI q16 36 Zf, ar cI q25 200 Zf, ar cI q34 200 Zf, ar cI q43 132 Zf, ar cI q52 192 Zf, ar cI q60 8 Zf, ar cI q67 3 Zf, ar cI q75 48 wX8_278] rfl dX8_init_278 (fun H locs hw278 => ?_)
  refine lv_dup hx hb dX8_init_279 rfl ?_
  refine lv_bipush (v := 37) hx hb dX8_init_280 (by decide) ?_
  refine lv_bipush (v := 111) hx hb dX8_init_282 (by decide) ?_
  refine n_iast C hw278 9 rfl 37 rfl (by decide) (by decide) [[(h0, .inr (8, [.ref q8, .int 0, .ref q16, .int 0, .ref q25, .int 0, .ref q34, .int 0, .ref q43, .int 0, .int 0, .int 0, .ref q52, .int 0, .ref q60, .int 0, .int 0, .ref q67, .int 0, .null, .null, .null, .null, .null, .int 0]))], ar cI q8 5058 Zf, ar cI q16 36 Zf, ar cI q25 200 Zf, ar cI q34 200 Zf, ar cI q43 132 Zf, ar cI q52 192 Zf, ar cI q60 8 Zf, ar cI q67 3 Zf, ar cI q75 48 wX8_284] rfl dX8_init_284 (fun H locs hw284 => ?_)
  refine lv_dup hx hb dX8_init_285 rfl ?_
  refine lv_bipush (v := 38) hx hb dX8_init_286 (by decide) ?_
  refine lv_bipush (v := 119) hx hb dX8_init_288 (by decide) ?_
  refine n_iast C hw284 9 rfl 38 rfl (by decide) (by decide) [[(h0, .inr (8, [.ref q8, .int 0, .ref q16, .int 0, .ref q25, .int 0, .ref q34, .int 0, .ref q43, .int 0, .int 0, .int 0, .ref q52, .int 0, .ref q60, .int 0, .int 0, .ref q67, .int 0, .null, .null, .null, .null, .null, .int 0]))], ar cI q8 5058 Zf, ar cI q16 36 Zf, ar cI q25 200 Zf, ar cI q34 200 Zf, ar cI q43 132 Zf, ar cI q52 192 Zf, ar cI q60 8 Zf, ar cI q67 3 Zf, ar cI q75 48 wX8_290] rfl dX8_init_290 (fun H locs hw290 => ?_)
  refine lv_dup hx hb dX8_init_291 rfl ?_
  refine lv_bipush (v := 39) hx hb dX8_init_292 (by decide) ?_
  refine lv_iconst (v := 0) hx hb dX8_init_294 (by decide) ?_
  refine n_iast C hw290 9 rfl 39 rfl (by decide) (by decide) [[(h0, .inr (8, [.ref q8, .int 0, .ref q16, .int 0, .ref q25, .int 0, .ref q34, .int 0, .ref q43, .int 0, .int 0, .int 0, .ref q52, .int 0, .ref q60, .int 0, .int 0, .ref q67, .int 0, .null, .null, .null, .null, .null, .int 0]))], ar cI q8 5058 Zf, ar cI q16 36 Zf, ar cI q25 200 Zf, ar cI q34 200 Zf, ar cI q43 132 Zf, ar cI q52 192 Zf, ar cI q60 8 Zf, ar cI q67 3 Zf, ar cI q75 48 wX8_295] rfl dX8_init_295 (fun H locs hw295 => ?_)
  refine lv_dup hx hb dX8_init_296 rfl ?_
  refine lv_bipush (v := 40) hx hb dX8_init_297 (by decide) ?_
  refine lv_iconst (v := 0) hx hb dX8_init_299 (by decide) ?_
  refine n_iast C hw295 9 rfl 40 rfl (by decide) (by decide) [[(h0, .inr (8, [.ref q8, .int 0, .ref q16, .int 0, .ref q25, .int 0, .ref q34, .int 0, .ref q43, .int 0, .int 0, .int 0, .ref q52, .int 0, .ref q60, .int 0, .int 0, .ref q67, .int 0, .null, .null, .null, .null, .null, .int 0]))], ar cI q8 5058 Zf, ar cI q16 36 Zf, ar cI q25 200 Zf, ar cI q34 200 Zf, ar cI q43 132 Zf, ar cI q52 192 Zf, ar cI q60 8 Zf, ar cI q67 3 Zf, ar cI q75 48 wX8_300] rfl dX8_init_300 (fun H locs hw300 => ?_)
  refine lv_dup hx hb dX8_init_301 rfl ?_
  refine lv_bipush (v := 41) hx hb dX8_init_302 (by decide) ?_
  refine lv_iconst (v := 0) hx hb dX8_init_304 (by decide) ?_
  refine n_iast C hw300 9 rfl 41 rfl (by decide) (by decide) [[(h0, .inr (8, [.ref q8, .int 0, .ref q16, .int 0, .ref q25, .int 0, .ref q34, .int 0, .ref q43, .int 0, .int 0, .int 0, .ref q52, .int 0, .ref q60, .int 0, .int 0, .ref q67, .int 0, .null, .null, .null, .null, .null, .int 0]))], ar cI q8 5058 Zf, ar cI q16 36 Zf, ar cI q25 200 Zf, ar cI q34 200 Zf, ar cI q43 132 Zf, ar cI q52 192 Zf, ar cI q60 8 Zf, ar cI q67 3 Zf, ar cI q75 48 wX8_305] rfl dX8_init_305 (fun H locs hw305 => ?_)
  refine lv_dup hx hb dX8_init_306 rfl ?_
  refine lv_bipush (v := 42) hx hb dX8_init_307 (by decide) ?_
  refine lv_bipush (v := 112) hx hb dX8_init_309 (by decide) ?_
  refine n_iast C hw305 9 rfl 42 rfl (by decide) (by decide) [[(h0, .inr (8, [.ref q8, .int 0, .ref q16, .int 0, .ref q25, .int 0, .ref q34, .int 0, .ref q43, .int 0, .int 0, .int 0, .ref q52, .int 0, .ref q60, .int 0, .int 0, .ref q67, .int 0, .null, .null, .null, .null, .null, .int 0]))], ar cI q8 5058 Zf, ar cI q16 36 Zf, ar cI q25 200 Zf, ar cI q34 200 Zf, ar cI q43 132 Zf, ar cI q52 192 Zf, ar cI q60 8 Zf, ar cI q67 3 Zf, ar cI q75 48 wX8_311] rfl dX8_init_311 (fun H locs hw311 => ?_)
  refine lv_dup hx hb dX8_init_312 rfl ?_
  refine lv_bipush (v := 43) hx hb dX8_init_313 (by decide) ?_
  refine lv_bipush (v := 97) hx hb dX8_init_315 (by decide) ?_
  refine n_iast C hw311 9 rfl 43 rfl (by decide) (by decide) [[(h0, .inr (8, [.ref q8, .int 0, .ref q16, .int 0, .ref q25, .int 0, .ref q34, .int 0, .ref q43, .int 0, .int 0, .int 0, .ref q52, .int 0, .ref q60, .int 0, .int 0, .ref q67, .int 0, .null, .null, .null, .null, .null, .int 0]))], ar cI q8 5058 Zf, ar cI q16 36 Zf, ar cI q25 200 Zf, ar cI q34 200 Zf, ar cI q43 132 Zf, ar cI q52 192 Zf, ar cI q60 8 Zf, ar cI q67 3 Zf, ar cI q75 48 wX8_317] rfl dX8_init_317 (fun H locs hw317 => ?_)
  refine lv_dup hx hb dX8_init_318 rfl ?_
  refine lv_bipush (v := 44) hx hb dX8_init_319 (by decide) ?_
  refine lv_bipush (v := 115) hx hb dX8_init_321 (by decide) ?_
  refine n_iast C hw317 9 rfl 44 rfl (by decide) (by decide) [[(h0, .inr (8, [.ref q8, .int 0, .ref q16, .int 0, .ref q25, .int 0, .ref q34, .int 0, .ref q43, .int 0, .int 0, .int 0, .ref q52, .int 0, .ref q60, .int 0, .int 0, .ref q67, .int 0, .null, .null, .null, .null, .null, .int 0]))], ar cI q8 5058 Zf, ar cI q16 36 Zf, ar cI q25 200 Zf, ar cI q34 200 Zf, ar cI q43 132 Zf, ar cI q52 192 Zf, ar cI q60 8 Zf, ar cI q67 3 Zf, ar cI q75 48 wX8_323] rfl dX8_init_323 (fun H locs hw323 => ?_)
  refine lv_dup hx hb dX8_init_324 rfl ?_
  refine lv_bipush (v := 45) hx hb dX8_init_325 (by decide) ?_
  refine lv_bipush (v := 115) hx hb dX8_init_327 (by decide) ?_
  refine n_iast C hw323 9 rfl 45 rfl (by decide) (by decide) [[(h0, .inr (8, [.ref q8, .int 0, .ref q16, .int 0, .ref q25, .int 0, .ref q34, .int 0, .ref q43, .int 0, .int 0, .int 0, .ref q52, .int 0, .ref q60, .int 0, .int 0, .ref q67, .int 0, .null, .null, .null, .null, .null, .int 0]))], ar cI q8 5058 Zf, ar cI q16 36 Zf, ar cI q25 200 Zf, ar cI q34 200 Zf, ar cI q43 132 Zf, ar cI q52 192 Zf, ar cI q60 8 Zf, ar cI q67 3 Zf, ar cI q75 48 wX8_329] rfl dX8_init_329 (fun H locs hw329 => ?_)
  refine lv_dup hx hb dX8_init_330 rfl ?_
  refine lv_bipush (v := 46) hx hb dX8_init_331 (by decide) ?_
  refine lv_iconst (v := 0) hx hb dX8_init_333 (by decide) ?_
  refine n_iast C hw329 9 rfl 46 rfl (by decide) (by decide) [[(h0, .inr (8, [.ref q8, .int 0, .ref q16, .int 0, .ref q25, .int 0, .ref q34, .int 0, .ref q43, .int 0, .int 0, .int 0, .ref q52, .int 0, .ref q60, .int 0, .int 0, .ref q67, .int 0, .null, .null, .null, .null, .null, .int 0]))], ar cI q8 5058 Zf, ar cI q16 36 Zf, ar cI q25 200 Zf, ar cI q34 200 Zf, ar cI q43 132 Zf, ar cI q52 192 Zf, ar cI q60 8 Zf, ar cI q67 3 Zf, ar cI q75 48 wX8_334] rfl dX8_init_334 (fun H locs hw334 => ?_)
  refine lv_dup hx hb dX8_init_335 rfl ?_
  refine lv_bipush (v := 47) hx hb dX8_init_336 (by decide) ?_
  refine lv_iconst (v := 0) hx hb dX8_init_338 (by decide) ?_
  refine n_iast C hw334 9 rfl 47 rfl (by decide) (by decide) [[(h0, .inr (8, [.ref q8, .int 0, .ref q16, .int 0, .ref q25, .int 0, .ref q34, .int 0, .ref q43, .int 0, .int 0, .int 0, .ref q52, .int 0, .ref q60, .int 0, .int 0, .ref q67, .int 0, .null, .null, .null, .null, .null, .int 0]))], ar cI q8 5058 Zf, ar cI q16 36 Zf, ar cI q25 200 Zf, ar cI q34 200 Zf, ar cI q43 132 Zf, ar cI q52 192 Zf, ar cI q60 8 Zf, ar cI q67 3 Zf, ar cI q75 48 wX8_339] rfl dX8_init_339 (fun H locs hw339 => ?_)
  refine n_putF C hmn inT_X8 tyX8 tyX8_ok nmX8 hw339 0 rfl rfl 19 (by decide) mF_X8_34 rfl rfl rfl rfl (Nat.le_of_ble_eq_true rfl) [[(h0, .inr (8, [.ref q8, .int 0, .ref q16, .int 0, .ref q25, .int 0, .ref q34, .int 0, .ref q43, .int 0, .int 0, .int 0, .ref q52, .int 0, .ref q60, .int 0, .int 0, .ref q67, .int 0, .ref q75, .null, .null, .null, .null, .int 0]))], ar cI q8 5058 Zf, ar cI q16 36 Zf, ar cI q25 200 Zf, ar cI q34 200 Zf, ar cI q43 132 Zf, ar cI q52 192 Zf, ar cI q60 8 Zf, ar cI q67 3 Zf, ar cI q75 48 wX8_339] rfl dX8_init_340 (fun H locs hw340 => ?_)
  refine lv_aload_n hx hb dX8_init_343 rfl (lv_at hl 0 rfl) ?_
  refine lv_bipush (v := 24) hx hb dX8_init_344 (by decide) ?_
  refine n_newa C hA hw340 24 rfl (by decide) mA_int (Nat.le_of_ble_eq_true rfl) (Nat.le_of_ble_eq_true rfl) dX8_init_346 (fun q346 H hw346 => ?_)
  have hw346 : Wd D A s.heap H _ [[(h0, .inr (8, [.ref q8, .int 0, .ref q16, .int 0, .ref q25, .int 0, .ref q34, .int 0, .ref q43, .int 0, .int 0, .int 0, .ref q52, .int 0, .ref q60, .int 0, .int 0, .ref q67, .int 0, .ref q75, .null, .null, .null, .null, .int 0]))], ar cI q8 5058 Zf, ar cI q16 36 Zf, ar cI q25 200 Zf, ar cI q34 200 Zf, ar cI q43 132 Zf, ar cI q52 192 Zf, ar cI q60 8 Zf, ar cI q67 3 Zf, ar cI q75 48 wX8_339, ar cI q346 24 Zf] := hw346
  refine lv_dup hx hb dX8_init_348 rfl ?_
  refine lv_iconst (v := 0) hx hb dX8_init_349 (by decide) ?_
  refine lv_iconst (v := 0) hx hb dX8_init_350 (by decide) ?_
  refine n_iast C hw346 10 rfl 0 rfl (by decide) (by decide) [[(h0, .inr (8, [.ref q8, .int 0, .ref q16, .int 0, .ref q25, .int 0, .ref q34, .int 0, .ref q43, .int 0, .int 0, .int 0, .ref q52, .int 0, .ref q60, .int 0, .int 0, .ref q67, .int 0, .ref q75, .null, .null, .null, .null, .int 0]))], ar cI q8 5058 Zf, ar cI q16 36 Zf, ar cI q25 200 Zf, ar cI q34 200 Zf, ar cI q43 132 Zf, ar cI q52 192 Zf, ar cI q60 8 Zf, ar cI q67 3 Zf, ar cI q75 48 wX8_339, ar cI q346 24 wX8_351] rfl dX8_init_351 (fun H locs hw351 => ?_)
  refine lv_dup hx hb dX8_init_352 rfl ?_
  refine lv_iconst (v := 1) hx hb dX8_init_353 (by decide) ?_
  refine lv_iconst (v := 0) hx hb dX8_init_354 (by decide) ?_
  refine n_iast C hw351 10 rfl 1 rfl (by decide) (by decide) [[(h0, .inr (8, [.ref q8, .int 0, .ref q16, .int 0, .ref q25, .int 0, .ref q34, .int 0, .ref q43, .int 0, .int 0, .int 0, .ref q52, .int 0, .ref q60, .int 0, .int 0, .ref q67, .int 0, .ref q75, .null, .null, .null, .null, .int 0]))], ar cI q8 5058 Zf, ar cI q16 36 Zf, ar cI q25 200 Zf, ar cI q34 200 Zf, ar cI q43 132 Zf, ar cI q52 192 Zf, ar cI q60 8 Zf, ar cI q67 3 Zf, ar cI q75 48 wX8_339, ar cI q346 24 wX8_355] rfl dX8_init_355 (fun H locs hw355 => ?_)
  refine lv_dup hx hb dX8_init_356 rfl ?_
  refine lv_iconst (v := 2) hx hb dX8_init_357 (by decide) ?_
  refine lv_iconst (v := 0) hx hb dX8_init_358 (by decide) ?_
  refine n_iast C hw355 10 rfl 2 rfl (by decide) (by decide) [[(h0, .inr (8, [.ref q8, .int 0, .ref q16, .int 0, .ref q25, .int 0, .ref q34, .int 0, .ref q43, .int 0, .int 0, .int 0, .ref q52, .int 0, .ref q60, .int 0, .int 0, .ref q67, .int 0, .ref q75, .null, .null, .null, .null, .int 0]))], ar cI q8 5058 Zf, ar cI q16 36 Zf, ar cI q25 200 Zf, ar cI q34 200 Zf, ar cI q43 132 Zf, ar cI q52 192 Zf, ar cI q60 8 Zf, ar cI q67 3 Zf, ar cI q75 48 wX8_339, ar cI q346 24 wX8_359] rfl dX8_init_359 (fun H locs hw359 => ?_)
  refine lv_dup hx hb dX8_init_360 rfl ?_
  refine lv_iconst (v := 3) hx hb dX8_init_361 (by decide) ?_
  refine lv_iconst (v := 1) hx hb dX8_init_362 (by decide) ?_
  refine n_iast C hw359 10 rfl 3 rfl (by decide) (by decide) [[(h0, .inr (8, [.ref q8, .int 0, .ref q16, .int 0, .ref q25, .int 0, .ref q34, .int 0, .ref q43, .int 0, .int 0, .int 0, .ref q52, .int 0, .ref q60, .int 0, .int 0, .ref q67, .int 0, .ref q75, .null, .null, .null, .null, .int 0]))], ar cI q8 5058 Zf, ar cI q16 36 Zf, ar cI q25 200 Zf, ar cI q34 200 Zf, ar cI q43 132 Zf, ar cI q52 192 Zf, ar cI q60 8 Zf, ar cI q67 3 Zf, ar cI q75 48 wX8_339, ar cI q346 24 wX8_363] rfl dX8_init_363 (fun H locs hw363 => ?_)
  refine lv_dup hx hb dX8_init_364 rfl ?_
  refine lv_iconst (v := 4) hx hb dX8_init_365 (by decide) ?_
  refine lv_iconst (v := 3) hx hb dX8_init_366 (by decide) ?_
  refine n_iast C hw363 10 rfl 4 rfl (by decide) (by decide) [[(h0, .inr (8, [.ref q8, .int 0, .ref q16, .int 0, .ref q25, .int 0, .ref q34, .int 0, .ref q43, .int 0, .int 0, .int 0, .ref q52, .int 0, .ref q60, .int 0, .int 0, .ref q67, .int 0, .ref q75, .null, .null, .null, .null, .int 0]))], ar cI q8 5058 Zf, ar cI q16 36 Zf, ar cI q25 200 Zf, ar cI q34 200 Zf, ar cI q43 132 Zf, ar cI q52 192 Zf, ar cI q60 8 Zf, ar cI q67 3 Zf, ar cI q75 48 wX8_339, ar cI q346 24 wX8_367] rfl dX8_init_367 (fun H locs hw367 => ?_)
  refine lv_dup hx hb dX8_init_368 rfl ?_
  refine lv_iconst (v := 5) hx hb dX8_init_369 (by decide) ?_
  refine lv_iconst (v := 4) hx hb dX8_init_370 (by decide) ?_
  refine n_iast C hw367 10 rfl 5 rfl (by decide) (by decide) [[(h0, .inr (8, [.ref q8, .int 0, .ref q16, .int 0, .ref q25, .int 0, .ref q34, .int 0, .ref q43, .int 0, .int 0, .int 0, .ref q52, .int 0, .ref q60, .int 0, .int 0, .ref q67, .int 0, .ref q75, .null, .null, .null, .null, .int 0]))], ar cI q8 5058 Zf, ar cI q16 36 Zf, ar cI q25 200 Zf, ar cI q34 200 Zf, ar cI q43 132 Zf, ar cI q52 192 Zf, ar cI q60 8 Zf, ar cI q67 3 Zf, ar cI q75 48 wX8_339, ar cI q346 24 wX8_371] rfl dX8_init_371 (fun H locs hw371 => ?_)
  refine lv_dup hx hb dX8_init_372 rfl ?_
  refine lv_bipush (v := 6) hx hb dX8_init_373 (by decide) ?_
  refine lv_iconst (v := 3) hx hb dX8_init_375 (by decide) ?_
  refine n_iast C hw371 10 rfl 6 rfl (by decide) (by decide) [[(h0, .inr (8, [.ref q8, .int 0, .ref q16, .int 0, .ref q25, .int 0, .ref q34, .int 0, .ref q43, .int 0, .int 0, .int 0, .ref q52, .int 0, .ref q60, .int 0, .int 0, .ref q67, .int 0, .ref q75, .null, .null, .null, .null, .int 0]))], ar cI q8 5058 Zf, ar cI q16 36 Zf, ar cI q25 200 Zf, ar cI q34 200 Zf, ar cI q43 132 Zf, ar cI q52 192 Zf, ar cI q60 8 Zf, ar cI q67 3 Zf, ar cI q75 48 wX8_339, ar cI q346 24 wX8_376] rfl dX8_init_376 (fun H locs hw376 => ?_)
  refine lv_dup hx hb dX8_init_377 rfl ?_
  refine lv_bipush (v := 7) hx hb dX8_init_378 (by decide) ?_
  refine lv_iconst (v := 4) hx hb dX8_init_380 (by decide) ?_
  refine n_iast C hw376 10 rfl 7 rfl (by decide) (by decide) [[(h0, .inr (8, [.ref q8, .int 0, .ref q16, .int 0, .ref q25, .int 0, .ref q34, .int 0, .ref q43, .int 0, .int 0, .int 0, .ref q52, .int 0, .ref q60, .int 0, .int 0, .ref q67, .int 0, .ref q75, .null, .null, .null, .null, .int 0]))], ar cI q8 5058 Zf, ar cI q16 36 Zf, ar cI q25 200 Zf, ar cI q34 200 Zf, ar cI q43 132 Zf, ar cI q52 192 Zf, ar cI q60 8 Zf, ar cI q67 3 Zf, ar cI q75 48 wX8_339, ar cI q346 24 wX8_381] rfl dX8_init_381 (fun H locs hw381 => ?_)
  refine lv_dup hx hb dX8_init_382 rfl ?_
  refine lv_bipush (v := 8) hx hb dX8_init_383 (by decide) ?_
  refine lv_iconst (v := 0) hx hb dX8_init_385 (by decide) ?_
  refine n_iast C hw381 10 rfl 8 rfl (by decide) (by decide) [[(h0, .inr (8, [.ref q8, .int 0, .ref q16, .int 0, .ref q25, .int 0, .ref q34, .int 0, .ref q43, .int 0, .int 0, .int 0, .ref q52, .int 0, .ref q60, .int 0, .int 0, .ref q67, .int 0, .ref q75, .null, .null, .null, .null, .int 0]))], ar cI q8 5058 Zf, ar cI q16 36 Zf, ar cI q25 200 Zf, ar cI q34 200 Zf, ar cI q43 132 Zf, ar cI q52 192 Zf, ar cI q60 8 Zf, ar cI q67 3 Zf, ar cI q75 48 wX8_339, ar cI q346 24 wX8_386] rfl dX8_init_386 (fun H locs hw386 => ?_)
  refine lv_dup hx hb dX8_init_387 rfl ?_
  refine lv_bipush (v := 9) hx hb dX8_init_388 (by decide) ?_
  refine lv_iconst (v := 2) hx hb dX8_init_390 (by decide) ?_
  refine n_iast C hw386 10 rfl 9 rfl (by decide) (by decide) [[(h0, .inr (8, [.ref q8, .int 0, .ref q16, .int 0, .ref q25, .int 0, .ref q34, .int 0, .ref q43, .int 0, .int 0, .int 0, .ref q52, .int 0, .ref q60, .int 0, .int 0, .ref q67, .int 0, .ref q75, .null, .null, .null, .null, .int 0]))], ar cI q8 5058 Zf, ar cI q16 36 Zf, ar cI q25 200 Zf, ar cI q34 200 Zf, ar cI q43 132 Zf, ar cI q52 192 Zf, ar cI q60 8 Zf, ar cI q67 3 Zf, ar cI q75 48 wX8_339, ar cI q346 24 wX8_391] rfl dX8_init_391 (fun H locs hw391 => ?_)
  refine lv_dup hx hb dX8_init_392 rfl ?_
  refine lv_bipush (v := 10) hx hb dX8_init_393 (by decide) ?_
  refine lv_iconst (v := 5) hx hb dX8_init_395 (by decide) ?_
  refine n_iast C hw391 10 rfl 10 rfl (by decide) (by decide) [[(h0, .inr (8, [.ref q8, .int 0, .ref q16, .int 0, .ref q25, .int 0, .ref q34, .int 0, .ref q43, .int 0, .int 0, .int 0, .ref q52, .int 0, .ref q60, .int 0, .int 0, .ref q67, .int 0, .ref q75, .null, .null, .null, .null, .int 0]))], ar cI q8 5058 Zf, ar cI q16 36 Zf, ar cI q25 200 Zf, ar cI q34 200 Zf, ar cI q43 132 Zf, ar cI q52 192 Zf, ar cI q60 8 Zf, ar cI q67 3 Zf, ar cI q75 48 wX8_339, ar cI q346 24 wX8_396] rfl dX8_init_396 (fun H locs hw396 => ?_)
  refine lv_dup hx hb dX8_init_397 rfl ?_
  refine lv_bipush (v := 11) hx hb dX8_init_398 (by decide) ?_
  refine lv_iconst (v := 0) hx hb dX8_init_400 (by decide) ?_
  refine n_iast C hw396 10 rfl 11 rfl (by decide) (by decide) [[(h0, .inr (8, [.ref q8, .int 0, .ref q16, .int 0, .ref q25, .int 0, .ref q34, .int 0, .ref q43, .int 0, .int 0, .int 0, .ref q52, .int 0, .ref q60, .int 0, .int 0, .ref q67, .int 0, .ref q75, .null, .null, .null, .null, .int 0]))], ar cI q8 5058 Zf, ar cI q16 36 Zf, ar cI q25 200 Zf, ar cI q34 200 Zf, ar cI q43 132 Zf, ar cI q52 192 Zf, ar cI q60 8 Zf, ar cI q67 3 Zf, ar cI q75 48 wX8_339, ar cI q346 24 wX8_401] rfl dX8_init_401 (fun H locs hw401 => ?_)
  refine lv_dup hx hb dX8_init_402 rfl ?_
  refine lv_bipush (v := 12) hx hb dX8_init_403 (by decide) ?_
  refine lv_iconst (v := 2) hx hb dX8_init_405 (by decide) ?_
  refine n_iast C hw401 10 rfl 12 rfl (by decide) (by decide) [[(h0, .inr (8, [.ref q8, .int 0, .ref q16, .int 0, .ref q25, .int 0, .ref q34, .int 0, .ref q43, .int 0, .int 0, .int 0, .ref q52, .int 0, .ref q60, .int 0, .int 0, .ref q67, .int 0, .ref q75, .null, .null, .null, .null, .int 0]))], ar cI q8 5058 Zf, ar cI q16 36 Zf, ar cI q25 200 Zf, ar cI q34 200 Zf, ar cI q43 132 Zf, ar cI q52 192 Zf, ar cI q60 8 Zf, ar cI q67 3 Zf, ar cI q75 48 wX8_339, ar cI q346 24 wX8_406] rfl dX8_init_406 (fun H locs hw406 => ?_)
  refine lv_dup hx hb dX8_init_407 rfl ?_
  refine lv_bipush (v := 13) hx hb dX8_init_408 (by decide) ?_
  refine lv_iconst (v := 3) hx hb dX8_init_410 (by decide) ?_
  refine n_iast C hw406 10 rfl 13 rfl (by decide) (by decide) [[(h0, .inr (8, [.ref q8, .int 0, .ref q16, .int 0, .ref q25, .int 0, .ref q34, .int 0, .ref q43, .int 0, .int 0, .int 0, .ref q52, .int 0, .ref q60, .int 0, .int 0, .ref q67, .int 0, .ref q75, .null, .null, .null, .null, .int 0]))], ar cI q8 5058 Zf, ar cI q16 36 Zf, ar cI q25 200 Zf, ar cI q34 200 Zf, ar cI q43 132 Zf, ar cI q52 192 Zf, ar cI q60 8 Zf, ar cI q67 3 Zf, ar cI q75 48 wX8_339, ar cI q346 24 wX8_411] rfl dX8_init_411 (fun H locs hw411 => ?_)
  refine lv_dup hx hb dX8_init_412 rfl ?_
  refine lv_bipush (v := 14) hx hb dX8_init_413 (by decide) ?_
  refine lv_iconst (v := 4) hx hb dX8_init_415 (by decide) ?_
  refine n_iast C hw411 10 rfl 14 rfl (by decide) (by decide) [[(h0, .inr (8, [.ref q8, .int 0, .ref q16, .int 0, .ref q25, .int 0, .ref q34, .int 0, .ref q43, .int 0, .int 0, .int 0, .ref q52, .int 0, .ref q60, .int 0, .int 0, .ref q67, .int 0, .ref q75, .null, .null, .null, .null, .int 0]))], ar cI q8 5058 Zf, ar cI q16 36 Zf, ar cI q25 200 Zf, ar cI q34 200 Zf, ar cI q43 132 Zf, ar cI q52 192 Zf, ar cI q60 8 Zf, ar cI q67 3 Zf, ar cI q75 48 wX8_339, ar cI q346 24 wX8_416] rfl dX8_init_416 (fun H locs hw416 => ?_)
  refine lv_dup hx hb dX8_init_417 rfl ?_
  refine lv_bipush (v := 15) hx hb dX8_init_418 (by decide) ?_
  refine lv_iconst (v := 3) hx hb dX8_init_420 (by decide) ?_
  refine n_iast C hw416 10 rfl 15 rfl (by decide) (by decide) [[(h0, .inr (8, [.ref q8, .int 0, .ref q16, .int 0, .ref q25, .int 0, .ref q34, .int 0, .ref q43, .int 0, .int 0, .int 0, .ref q52, .int 0, .ref q60, .int 0, .int 0, .ref q67, .int 0, .ref q75, .null, .null, .null, .null, .int 0]))], ar cI q8 5058 Zf, ar cI q16 36 Zf, ar cI q25 200 Zf, ar cI q34 200 Zf, ar cI q43 132 Zf, ar cI q52 192 Zf, ar cI q60 8 Zf, ar cI q67 3 Zf, ar cI q75 48 wX8_339, ar cI q346 24 wX8_421] rfl dX8_init_421 (fun H locs hw421 => ?_)
  refine lv_dup hx hb dX8_init_422 rfl ?_
  refine lv_bipush (v := 16) hx hb dX8_init_423 (by decide) ?_
  refine lv_iconst (v := 4) hx hb dX8_init_425 (by decide) ?_
  refine n_iast C hw421 10 rfl 16 rfl (by decide) (by decide) [[(h0, .inr (8, [.ref q8, .int 0, .ref q16, .int 0, .ref q25, .int 0, .ref q34, .int 0, .ref q43, .int 0, .int 0, .int 0, .ref q52, .int 0, .ref q60, .int 0, .int 0, .ref q67, .int 0, .ref q75, .null, .null, .null, .null, .int 0]))], ar cI q8 5058 Zf, ar cI q16 36 Zf, ar cI q25 200 Zf, ar cI q34 200 Zf, ar cI q43 132 Zf, ar cI q52 192 Zf, ar cI q60 8 Zf, ar cI q67 3 Zf, ar cI q75 48 wX8_339, ar cI q346 24 wX8_426] rfl dX8_init_426 (fun H locs hw426 => ?_)
  refine lv_dup hx hb dX8_init_427 rfl ?_
  refine lv_bipush (v := 17) hx hb dX8_init_428 (by decide) ?_
  refine lv_iconst (v := 0) hx hb dX8_init_430 (by decide) ?_
  refine n_iast C hw426 10 rfl 17 rfl (by decide) (by decide) [[(h0, .inr (8, [.ref q8, .int 0, .ref q16, .int 0, .ref q25, .int 0, .ref q34, .int 0, .ref q43, .int 0, .int 0, .int 0, .ref q52, .int 0, .ref q60, .int 0, .int 0, .ref q67, .int 0, .ref q75, .null, .null, .null, .null, .int 0]))], ar cI q8 5058 Zf, ar cI q16 36 Zf, ar cI q25 200 Zf, ar cI q34 200 Zf, ar cI q43 132 Zf, ar cI q52 192 Zf, ar cI q60 8 Zf, ar cI q67 3 Zf, ar cI q75 48 wX8_339, ar cI q346 24 wX8_431] rfl dX8_init_431 (fun H locs hw431 => ?_)
  refine lv_dup hx hb dX8_init_432 rfl ?_
  refine lv_bipush (v := 18) hx hb dX8_init_433 (by decide) ?_
  refine lv_iconst (v := 2) hx hb dX8_init_435 (by decide) ?_
  refine n_iast C hw431 10 rfl 18 rfl (by decide) (by decide) [[(h0, .inr (8, [.ref q8, .int 0, .ref q16, .int 0, .ref q25, .int 0, .ref q34, .int 0, .ref q43, .int 0, .int 0, .int 0, .ref q52, .int 0, .ref q60, .int 0, .int 0, .ref q67, .int 0, .ref q75, .null, .null, .null, .null, .int 0]))], ar cI q8 5058 Zf, ar cI q16 36 Zf, ar cI q25 200 Zf, ar cI q34 200 Zf, ar cI q43 132 Zf, ar cI q52 192 Zf, ar cI q60 8 Zf, ar cI q67 3 Zf, ar cI q75 48 wX8_339, ar cI q346 24 wX8_436] rfl dX8_init_436 (fun H locs hw436 => ?_)
  refine lv_dup hx hb dX8_init_437 rfl ?_
  refine lv_bipush (v := 19) hx hb dX8_init_438 (by decide) ?_
  refine lv_iconst (v := 3) hx hb dX8_init_440 (by decide) ?_
  refine n_iast C hw436 10 rfl 19 rfl (by decide) (by decide) [[(h0, .inr (8, [.ref q8, .int 0, .ref q16, .int 0, .ref q25, .int 0, .ref q34, .int 0, .ref q43, .int 0, .int 0, .int 0, .ref q52, .int 0, .ref q60, .int 0, .int 0, .ref q67, .int 0, .ref q75, .null, .null, .null, .null, .int 0]))], ar cI q8 5058 Zf, ar cI q16 36 Zf, ar cI q25 200 Zf, ar cI q34 200 Zf, ar cI q43 132 Zf, ar cI q52 192 Zf, ar cI q60 8 Zf, ar cI q67 3 Zf, ar cI q75 48 wX8_339, ar cI q346 24 wX8_441] rfl dX8_init_441 (fun H locs hw441 => ?_)
  refine lv_dup hx hb dX8_init_442 rfl ?_
  refine lv_bipush (v := 20) hx hb dX8_init_443 (by decide) ?_
  refine lv_iconst (v := 4) hx hb dX8_init_445 (by decide) ?_
  refine n_iast C hw441 10 rfl 20 rfl (by decide) (by decide) [[(h0, .inr (8, [.ref q8, .int 0, .ref q16, .int 0, .ref q25, .int 0, .ref q34, .int 0, .ref q43, .int 0, .int 0, .int 0, .ref q52, .int 0, .ref q60, .int 0, .int 0, .ref q67, .int 0, .ref q75, .null, .null, .null, .null, .int 0]))], ar cI q8 5058 Zf, ar cI q16 36 Zf, ar cI q25 200 Zf, ar cI q34 200 Zf, ar cI q43 132 Zf, ar cI q52 192 Zf, ar cI q60 8 Zf, ar cI q67 3 Zf, ar cI q75 48 wX8_339, ar cI q346 24 wX8_446] rfl dX8_init_446 (fun H locs hw446 => ?_)
  refine lv_dup hx hb dX8_init_447 rfl ?_
  refine lv_bipush (v := 21) hx hb dX8_init_448 (by decide) ?_
  refine lv_bipush (v := 6) hx hb dX8_init_450 (by decide) ?_
  refine n_iast C hw446 10 rfl 21 rfl (by decide) (by decide) [[(h0, .inr (8, [.ref q8, .int 0, .ref q16, .int 0, .ref q25, .int 0, .ref q34, .int 0, .ref q43, .int 0, .int 0, .int 0, .ref q52, .int 0, .ref q60, .int 0, .int 0, .ref q67, .int 0, .ref q75, .null, .null, .null, .null, .int 0]))], ar cI q8 5058 Zf, ar cI q16 36 Zf, ar cI q25 200 Zf, ar cI q34 200 Zf, ar cI q43 132 Zf, ar cI q52 192 Zf, ar cI q60 8 Zf, ar cI q67 3 Zf, ar cI q75 48 wX8_339, ar cI q346 24 wX8_452] rfl dX8_init_452 (fun H locs hw452 => ?_)
  refine lv_dup hx hb dX8_init_453 rfl ?_
  refine lv_bipush (v := 22) hx hb dX8_init_454 (by decide) ?_
  refine lv_iconst (v := 0) hx hb dX8_init_456 (by decide) ?_
  refine n_iast C hw452 10 rfl 22 rfl (by decide) (by decide) [[(h0, .inr (8, [.ref q8, .int 0, .ref q16, .int 0, .ref q25, .int 0, .ref q34, .int 0, .ref q43, .int 0, .int 0, .int 0, .ref q52, .int 0, .ref q60, .int 0, .int 0, .ref q67, .int 0, .ref q75, .null, .null, .null, .null, .int 0]))], ar cI q8 5058 Zf, ar cI q16 36 Zf, ar cI q25 200 Zf, ar cI q34 200 Zf, ar cI q43 132 Zf, ar cI q52 192 Zf, ar cI q60 8 Zf, ar cI q67 3 Zf, ar cI q75 48 wX8_339, ar cI q346 24 wX8_457] rfl dX8_init_457 (fun H locs hw457 => ?_)
  refine lv_dup hx hb dX8_init_458 rfl ?_
  refine lv_bipush (v := 23) hx hb dX8_init_459 (by decide) ?_
  refine lv_iconst (v := 0) hx hb dX8_init_461 (by decide) ?_
  refine n_iast C hw457 10 rfl 23 rfl (by decide) (by decide) [[(h0, .inr (8, [.ref q8, .int 0, .ref q16, .int 0, .ref q25, .int 0, .ref q34, .int 0, .ref q43, .int 0, .int 0, .int 0, .ref q52, .int 0, .ref q60, .int 0, .int 0, .ref q67, .int 0, .ref q75, .null, .null, .null, .null, .int 0]))], ar cI q8 5058 Zf, ar cI q16 36 Zf, ar cI q25 200 Zf, ar cI q34 200 Zf, ar cI q43 132 Zf, ar cI q52 192 Zf, ar cI q60 8 Zf, ar cI q67 3 Zf, ar cI q75 48 wX8_339, ar cI q346 24 wX8_462] rfl dX8_init_462 (fun H locs hw462 => ?_)
  refine n_putF C hmn inT_X8 tyX8 tyX8_ok nmX8 hw462 0 rfl rfl 20 (by decide) mF_X8_37 rfl rfl rfl rfl (Nat.le_of_ble_eq_true rfl) [[(h0, .inr (8, [.ref q8, .int 0, .ref q16, .int 0, .ref q25, .int 0, .ref q34, .int 0, .ref q43, .int 0, .int 0, .int 0, .ref q52, .int 0, .ref q60, .int 0, .int 0, .ref q67, .int 0, .ref q75, .ref q346, .null, .null, .null, .int 0]))], ar cI q8 5058 Zf, ar cI q16 36 Zf, ar cI q25 200 Zf, ar cI q34 200 Zf, ar cI q43 132 Zf, ar cI q52 192 Zf, ar cI q60 8 Zf, ar cI q67 3 Zf, ar cI q75 48 wX8_339, ar cI q346 24 wX8_462] rfl dX8_init_463 (fun H locs hw463 => ?_)
  refine lv_aload_n hx hb dX8_init_466 rfl (lv_at hl 0 rfl) ?_
  refine lv_bipush (v := 80) hx hb dX8_init_467 (by decide) ?_
  refine n_newa C hA hw463 80 rfl (by decide) mA_int (Nat.le_of_ble_eq_true rfl) (Nat.le_of_ble_eq_true rfl) dX8_init_469 (fun q469 H hw469 => ?_)
  have hw469 : Wd D A s.heap H _ [[(h0, .inr (8, [.ref q8, .int 0, .ref q16, .int 0, .ref q25, .int 0, .ref q34, .int 0, .ref q43, .int 0, .int 0, .int 0, .ref q52, .int 0, .ref q60, .int 0, .int 0, .ref q67, .int 0, .ref q75, .ref q346, .null, .null, .null, .int 0]))], ar cI q8 5058 Zf, ar cI q16 36 Zf, ar cI q25 200 Zf, ar cI q34 200 Zf, ar cI q43 132 Zf, ar cI q52 192 Zf, ar cI q60 8 Zf, ar cI q67 3 Zf, ar cI q75 48 wX8_339, ar cI q346 24 wX8_462, ar cI q469 80 Zf] := hw469
  refine n_putF C hmn inT_X8 tyX8 tyX8_ok nmX8 hw469 0 rfl rfl 21 (by decide) mF_X8_40 rfl rfl rfl rfl (Nat.le_of_ble_eq_true rfl) [[(h0, .inr (8, [.ref q8, .int 0, .ref q16, .int 0, .ref q25, .int 0, .ref q34, .int 0, .ref q43, .int 0, .int 0, .int 0, .ref q52, .int 0, .ref q60, .int 0, .int 0, .ref q67, .int 0, .ref q75, .ref q346, .ref q469, .null, .null, .int 0]))], ar cI q8 5058 Zf, ar cI q16 36 Zf, ar cI q25 200 Zf, ar cI q34 200 Zf, ar cI q43 132 Zf, ar cI q52 192 Zf, ar cI q60 8 Zf, ar cI q67 3 Zf, ar cI q75 48 wX8_339, ar cI q346 24 wX8_462, ar cI q469 80 Zf] rfl dX8_init_471 (fun H locs hw471 => ?_)
  refine lv_aload_n hx hb dX8_init_474 rfl (lv_at hl 0 rfl) ?_
  refine lv_sipush (v := 562) hx hb dX8_init_475 (by decide) ?_
  refine n_newa C hA hw471 562 rfl (by decide) mA_int (Nat.le_of_ble_eq_true rfl) (Nat.le_of_ble_eq_true rfl) dX8_init_478 (fun q478 H hw478 => ?_)
  have hw478 : Wd D A s.heap H _ [[(h0, .inr (8, [.ref q8, .int 0, .ref q16, .int 0, .ref q25, .int 0, .ref q34, .int 0, .ref q43, .int 0, .int 0, .int 0, .ref q52, .int 0, .ref q60, .int 0, .int 0, .ref q67, .int 0, .ref q75, .ref q346, .ref q469, .null, .null, .int 0]))], ar cI q8 5058 Zf, ar cI q16 36 Zf, ar cI q25 200 Zf, ar cI q34 200 Zf, ar cI q43 132 Zf, ar cI q52 192 Zf, ar cI q60 8 Zf, ar cI q67 3 Zf, ar cI q75 48 wX8_339, ar cI q346 24 wX8_462, ar cI q469 80 Zf, ar cI q478 562 Zf] := hw478
  refine n_putF C hmn inT_X8 tyX8 tyX8_ok nmX8 hw478 0 rfl rfl 22 (by decide) mF_X8_43 rfl rfl rfl rfl (Nat.le_of_ble_eq_true rfl) [[(h0, .inr (8, [.ref q8, .int 0, .ref q16, .int 0, .ref q25, .int 0, .ref q34, .int 0, .ref q43, .int 0, .int 0, .int 0, .ref q52, .int 0, .ref q60, .int 0, .int 0, .ref q67, .int 0, .ref q75, .ref q346, .ref q469, .ref q478, .null, .int 0]))], ar cI q8 5058 Zf, ar cI q16 36 Zf, ar cI q25 200 Zf, ar cI q34 200 Zf, ar cI q43 132 Zf, ar cI q52 192 Zf, ar cI q60 8 Zf, ar cI q67 3 Zf, ar cI q75 48 wX8_339, ar cI q346 24 wX8_462, ar cI q469 80 Zf, ar cI q478 562 Zf] rfl dX8_init_480 (fun H locs hw480 => ?_)
  refine lv_aload_n hx hb dX8_init_483 rfl (lv_at hl 0 rfl) ?_
  refine lv_sipush (v := 200) hx hb dX8_init_484 (by decide) ?_
  refine n_newa C hA hw480 200 rfl (by decide) mA_int (Nat.le_of_ble_eq_true rfl) (Nat.le_of_ble_eq_true rfl) dX8_init_487 (fun q487 H hw487 => ?_)
  have hw487 : Wd D A s.heap H _ [[(h0, .inr (8, [.ref q8, .int 0, .ref q16, .int 0, .ref q25, .int 0, .ref q34, .int 0, .ref q43, .int 0, .int 0, .int 0, .ref q52, .int 0, .ref q60, .int 0, .int 0, .ref q67, .int 0, .ref q75, .ref q346, .ref q469, .ref q478, .null, .int 0]))], ar cI q8 5058 Zf, ar cI q16 36 Zf, ar cI q25 200 Zf, ar cI q34 200 Zf, ar cI q43 132 Zf, ar cI q52 192 Zf, ar cI q60 8 Zf, ar cI q67 3 Zf, ar cI q75 48 wX8_339, ar cI q346 24 wX8_462, ar cI q469 80 Zf, ar cI q478 562 Zf, ar cI q487 200 Zf] := hw487
  refine n_putF C hmn inT_X8 tyX8 tyX8_ok nmX8 hw487 0 rfl rfl 23 (by decide) mF_X8_46 rfl rfl rfl rfl (Nat.le_of_ble_eq_true rfl) [[(h0, .inr (8, [.ref q8, .int 0, .ref q16, .int 0, .ref q25, .int 0, .ref q34, .int 0, .ref q43, .int 0, .int 0, .int 0, .ref q52, .int 0, .ref q60, .int 0, .int 0, .ref q67, .int 0, .ref q75, .ref q346, .ref q469, .ref q478, .ref q487, .int 0]))], ar cI q8 5058 Zf, ar cI q16 36 Zf, ar cI q25 200 Zf, ar cI q34 200 Zf, ar cI q43 132 Zf, ar cI q52 192 Zf, ar cI q60 8 Zf, ar cI q67 3 Zf, ar cI q75 48 wX8_339, ar cI q346 24 wX8_462, ar cI q469 80 Zf, ar cI q478 562 Zf, ar cI q487 200 Zf] rfl dX8_init_489 (fun H locs hw489 => ?_)
  exact n_vret (adr [h0, q8, 0, q16, 0, q25, 0, q34, 0, q43, 0, 0, 0, q52, 0, q60, 0, 0, q67, 0, q75, q346, q469, q478, q487, 0]) rfl C hw489 rfl (Nat.le_of_ble_eq_true rfl) (Nat.le_of_ble_eq_true rfl) dX8_init_492
