section LW
variable {p : Program} {l : Launch} {e : Env} {R : Room} {s : State} {m : MethodId} {args : Array Value} {below : List Frame} {meth : Method} {c : Code} {H : Heap} {locs : List Loc} {cells slots : Nat} {Q : State → Prop}
variable {cc : ByteArray} {pc : Nat} {ls : Array Slot} {rest : List Value}
theorem lv_ldcwf (hexec : p.tables.exec = Jvm.exec) (hb : c.code = cc) {own : String} {index : Nat} {v : UInt32} (hown : s.vm.findClass own = some m.cls) (hconst : (Jvm.Cond.constantFloat own index v).before args s = true) (hdg : decode cc pc = .ok (.ldc_w index, 3)) (k : W p l e R s m args below meth c H locs cells slots Q (F0 m (pc + 3) ls (.float v :: rest))) : W p l e R s m args below meth c H locs cells slots Q (F0 m pc ls rest) := by
  intro T hT X
  obtain ⟨t, a, b⟩ := k T hT X
  obtain ⟨k0, cf, hk, hcf, hcp⟩ := Cond.constantFloat_spec hown hconst
  obtain ⟨k', hk', he⟩ := X.warmed.alike.2.2 _ _ hk
  refine ⟨t, ?_, b⟩
  have hdg' : decode c.code (F0 m pc ls rest).pc = .ok (.ldc_w index, 3) := by rw [hb]; exact hdg
  jvm_step X.here [hexec, hdg', ldc_w.wp_float (s := T) (f := F0 m pc ls rest) X.here.top hk' (by rw [he]; exact hcf) hcp]
  exact a
end LW
section VLW
variable {K : Kx} {G : Gx} {cc : ByteArray} {own : String} {nL : Nat} {R : Room} {k n pc : Nat} {lv lv' : List (Nat × Value)} {rest : List Value} {ws ws' : va_W}
theorem v_ldcwf {i : Nat} {v : UInt32} (d : decode cc pc = .ok (.ldc_w i, 3)) (hw : Cond.constantFloat own i v ∈ GT) (kk : V K G cc own nL R k n (pc + 3) lv (.float v :: rest) ws) : V K G cc own nL R k n pc lv rest ws := by
  obtain ⟨p, l, e, s, m, args, below, meth, c, A, H0, Q⟩ := K; intro hC hK hH hE hA H locs ls hP hD hS hl
  exact lv_ldcwf hC.1 hC.2.1 hC.2.2.2.1 (hC.2.2.2.2 _ hw) d (kk hC hK hH hE hA H locs ls hP hD hS hl)
end VLW
/-! the throw of an exception whose constructor names that of its superclass by its own index -/
def nsN : String := "java/util/NoSuchElementException"
def nsW : List Cond := .code (Bundle.initS nsN) prog_28_method_4_code 2 none :: .methodLink nsN 13 (Bundle.initS "java/lang/RuntimeException") :: (Bundle.ownAtoms "Sealhouse" 254 nsN exN).filter (fun w => decide (w ≠ .code (Bundle.initS nsN) Bundle.six 2 none) && decide (w ≠ .methodLink nsN 7 (Bundle.initS "java/lang/RuntimeException")))
theorem nsW_t : ∀ w ∈ nsW.filter vx_no, w ∈ lw_tbl ∧ (goodWord w || isDC w) = true := by decide +kernel
theorem nsW_1 : ∀ w ∈ Bundle.throwableAtoms, w ∈ nsW := by decide +kernel
theorem nsW_2 : ∀ w ∈ Bundle.throwableSAtoms, w ∈ nsW := by decide +kernel
theorem nsW_3 : ∀ w ∈ Bundle.passSAtoms nsN "java/lang/RuntimeException" 13 prog_28_method_4_code, w ∈ nsW := by decide +kernel
theorem nsW_4 : ∀ w ∈ Bundle.chainSAtoms "java/lang/RuntimeException" ["java/lang/Exception"], w ∈ nsW := by decide +kernel
theorem nsW_0 {args : Array Value} {s : State} (h1 : ∀ w ∈ GT, w.before args s = true) (h2 : ∀ w ∈ lw_tbl, isDC w = true → va_Nw w s) : ∀ w ∈ nsW.filter vx_no, w.before args s = true := by
  intro w hw
  obtain ⟨a, b⟩ := nsW_t w hw
  cases hg : goodWord w with
  | true => exact h1 w (List.mem_filter.mpr ⟨a, hg⟩)
  | false =>
    rw [hg, Bool.false_or] at b
    exact va_Nw.use (isDC_on b) (h2 w a b)
theorem nsW_g : ∀ w ∈ nsW.filter vx_no, vx_ot w = true := by
  intro w hw
  have := (nsW_t w hw).2
  unfold vx_ot
  cases hg : goodWord w with
  | true => rw [Bool.or_true]
  | false =>
    rw [hg, Bool.false_or] at this
    rw [isDC_on this]; rfl
/-- the method that an object of that kind has for a named one -/
theorem ns_sel {l : Launch} {e : Env} {s : State} {args : Array Value} (ad : l.admits e) {x : MethodName} {cx : ClassId} {mx : MethodId} (fc : s.vm.findClass nsN = some cx) (fm : s.methodNamed? x = some mx)
    (hx : x.cls ≠ "java/lang/invoke/MethodHandle" ∧ x.cls ≠ "java/lang/invoke/VarHandle") (w : (Cond.selects nsN x x).before args s = true) : selectMethod e.platform s.vm cx mx = .method mx := by
  have far := State.methodFound?_of_named fm hx
  obtain ⟨cy, ry, my, p1, p2, p3, p4, -⟩ := Cond.selects_spec w
  rw [fc] at p1
  rw [far] at p2
  rw [fm] at p3
  injection p1 with p1
  injection p2 with p2
  injection p3 with p3
  subst p1 p2 p3
  exact (Launch.admits_selectMethod ad s.vm cx mx).trans p4
/-- an object of the kind cx, with the rows kx, has the field f -/
def ns_on (s : State) (cx : ClassId) (kx : Class) (f : Field) : Prop :=
  kx.instanceTypes[f.slot]? = some f.type ∧ ∃ d : Class × Field, Jmm.declares? s.vm f.slot (cx + 1) cx = some d ∧ d.2.name = f.name
theorem ns_on.ne {s : State} {cx : ClassId} {kx : Class} {f g : Field} (a : ns_on s cx kx f) (b : ns_on s cx kx g) (n : f.name ≠ g.name) : f.slot ≠ g.slot := by
  obtain ⟨-, d, d1, d2⟩ := a
  obtain ⟨-, b, b1, b2⟩ := b
  exact Cond.laysApart d1 b1 d2 b2 n
theorem ns_null {T : ThrowableT} {cx : ClassId} {kx : Class} {q : Addr} {u z : RefV} {k : ThreadId} {f : Field} (a : kx.instanceTypes[f.slot]? = some f.type) (t : f.type = .object "java/lang/Object")
    (n1 : T.fCause.slot ≠ f.slot) (n2 : T.fStack.slot ≠ f.slot) (n3 : T.fSupp.slot ≠ f.slot) : ((preparedCellV T (freshCell cx kx) q u z).withEntry k).slots[f.slot]? = some .null := by
  show ((((kx.instanceTypes.map defaultValue).setIfInBounds T.fCause.slot (.ref q)).setIfInBounds T.fStack.slot u.v).setIfInBounds T.fSupp.slot z.v)[f.slot]? = some .null
  rw [Array.getElem?_setIfInBounds_ne n3, Array.getElem?_setIfInBounds_ne n2, Array.getElem?_setIfInBounds_ne n1, Array.getElem?_map, a, t]
  rfl
/-- the cell of statics lies as it lay -/
theorem ns_still {s W : State} {n k : Nat} (same : s.sameButNew W [] n k) {q : Addr} {d : Cell} (hd : s.heap[q]? = some d) (st : d.vm.isStatics = true) : ∃ d', W.heap[q]? = some d' ∧ d'.vm ≠ .unknown ∧ ∀ i : Nat, d'.slots[i]? = d.slots[i]? := by
  obtain ⟨d', e1, e2, -, e4⟩ := same.2.2.2.2.2 q d hd
  have e0 := congrArg Cell.vm e2
  have ev : d'.vm = d.vm := e0
  refine ⟨d', e1, fun no => ?_, fun i => e4 i (fun y => nomatch y)⟩
  rw [← ev, no] at st
  exact absurd st (by decide)
/-- the three constructors that hand the text on -/
theorem ns_chain {args : Array Value} {s : State} {pl : Platform} (mg : pl.magicAccessors = ({} : Platform).magicAccessors) {top : MethodId} (ht : s.methodNamed? (Bundle.initS Bundle.tN) = some top) (ws : ∀ w ∈ nsW, w.before args s = true) :
    ∃ (P : PassC) (Q : List PassC), Q.length = 2 ∧ (∀ y, y ∈ P :: Q → y.LinksS pl s) ∧ s.methodNamed? (Bundle.initS nsN) = some P.m ∧ PassesOn top ((P :: Q).map (·.toPassT)) := by
  obtain ⟨P, lp, mp, up⟩ := PassC.ofS_atoms (args := args) (s := s) mg (X := nsN) (Y := "java/lang/RuntimeException") (by decide) ⟨by decide, by decide⟩ (bytes := prog_28_method_4_code) (index := 13) (by decide +kernel) (by decide +kernel) (by decide +kernel) (by decide +kernel) (fun w hw => ws w (nsW_3 w hw))
  obtain ⟨N, Q, ln, l1, lq, m1, e1, e2⟩ := Bundle.chainS (args := args) mg ht ["java/lang/Exception"] "java/lang/RuntimeException" (by decide) (by decide) (fun w hw => ws w (nsW_4 w hw))
  refine ⟨P, N :: Q, congrArg Nat.succ ln, fun y hy => ?_, mp, Option.some.inj (up.symm.trans m1), e1, e2⟩
  simp only [List.mem_cons] at hy
  rcases hy with r | r | r
  · rw [r]; exact lp
  · rw [r]; exact l1
  · exact lq y r
theorem ns_skip {args : Array Value} {s : State} {pl : Platform} (mg : pl.magicAccessors = ({} : Platform).magicAccessors) {T : ThrowableC} {Z : Init0T} (L : T.Links pl s) (Y : Bundle.Ties T Z s) (ws : ∀ w ∈ nsW, w.before args s = true) {cx : ClassId} {kx : Class}
    (fc : s.vm.findClass nsN = some cx) (hk : s.vm.classes[cx]? = some kx) (c1 : ns_on s cx kx T.fCause) (c2 : ns_on s cx kx T.fStack) (c3 : ns_on s cx kx T.fSupp) {q : Addr} {u z : RefV} {k : ThreadId} :
    SkipFacts T pl s (fun y => y) u ((preparedCellV T.toThrowableT (freshCell cx kx) q u z).withEntry k) := by
  obtain ⟨ci, i, f, b1, b2, b3, b4, -, b6, b7, b8⟩ := Cond.ownField (t := .object "java/lang/Object") Y.found L.cls (by decide +kernel) (ws (.fieldLink Bundle.tN 198 Bundle.tN "backtrace" "Ljava/lang/Object;") (by decide +kernel)) (ws (.lays Bundle.tN Bundle.tN "backtrace" "Ljava/lang/Object;") (by decide +kernel)) pl mg
  have on : ns_on s cx kx f := Cond.laysAt fc hk b8 (ws (.lays nsN Bundle.tN "backtrace" "Ljava/lang/Object;") (by decide +kernel))
  have far : ∀ {g : Field}, ns_on s cx kx g → g.name ≠ "backtrace" → g.slot ≠ f.slot := fun hg hn => hg.ne on (by rw [b6]; exact hn)
  exact ⟨{ ci198 := ci, i198 := i, fBack := f }, ⟨b1, b2, b3, b4⟩, ns_null on.1 b7 (far c1 (by rw [Y.causeName]; decide)) (far c2 (by rw [Y.stackName]; decide)) (far c3 (by rw [Y.suppName]; decide)), fun _ _ => rfl⟩
/-- from the constructor's call, behind new, dup and the text, to the throw -/
theorem ns_throw {p : Program} {l : Launch} {e : Env} {R : Room} {s W : State} {m : MethodId} {args : Array Value} {below : List Frame} {meth : Method} {c : Code} {n k : Nat} (X : Stand p l e R s m args below meth c W [] n k)
    (hexec : p.tables.exec = Jvm.exec) (off : e.platform.stackTraces = false) (own : s.vm.findClass "Sealhouse" = some m.cls) (ws : ∀ w ∈ nsW, w.before args s = true)
    {q tx : Addr} {cx : ClassId} {kx : Class} (fc : s.vm.findClass nsN = some cx) (hk : s.vm.classes[cx]? = some kx) (hq : W.heap[q]? = some (freshCell cx kx)) (new : s.heap.size ≤ q)
    {pc : Nat} {ls : Array Slot} {rest : List Value} (sz : ls.size = c.maxLocals) (i0 : decode c.code pc = .ok (.invokespecial 254, 3)) (i3 : decode c.code (pc + 3) = .ok (.athrow, 1)) (out : ∀ x ∈ c.exceptionTable.toList, covers x (pc + 3) = false)
    (rf : 5 < R.frames) (rl : (rest.map fun v => v.category).sum + 82 ≤ R.locals) (un : meth.locks = false) :
    ∃ U : State, Steps p.tables e below (W.setTop (F0 m pc ls (.ref tx :: .ref q :: .ref q :: rest))) U ∧ U.status = .running ∧ Ended U below (.threw q) ∧ s.WarmedH U.vm ∧
      s.sameButNew ({ U with vm := s.vm } : State) [] n k ∧ ∃ y, U.heap[q]? = some y ∧ y.vm = .none ∧ y.cls = cx := by
  obtain ⟨ow, fi, mg⟩ : e.platform.frameOwnsMonitors = true ∧ e.platform.finalization = false ∧ e.platform.magicAccessors = ({} : Platform).magicAccessors := by
    rw [X.admits.platform]
    exact ⟨rfl, rfl, rfl⟩
  obtain ⟨T, Z0, L, -, Y⟩ := ThrowableC.of_atoms (args := args) ow fi mg (fun w hw => ws w (nsW_1 w hw))
  obtain ⟨Z, M, LZ, LM, top⟩ := Init0T.ofS_atoms (args := args) mg L Y (fun w hw => ws w (nsW_2 w hw))
  obtain ⟨P, Q, ln, lq, nP, pass⟩ := ns_chain mg top ws
  have ord : kx.kind = .ordinary := by
    obtain ⟨c9, k9, g1, g2, g3, -⟩ := Cond.instantiable_spec (ws (.instantiable nsN 6) (by decide +kernel))
    rw [fc] at g1
    injection g1 with g1
    rw [← g1, hk] at g2
    injection g2 with g2
    rw [g2]
    exact g3
  obtain ⟨iM, fM⟩ := Y.msg
  have c1 : ns_on s cx kx T.fCause := Cond.laysAt fc hk Y.cause (ws (.lays nsN Bundle.tN "cause" "Ljava/lang/Throwable;") (by decide +kernel))
  have c2 : ns_on s cx kx T.fStack := Cond.laysAt fc hk Y.stack (ws (.lays nsN Bundle.tN "stackTrace" Bundle.steD) (by decide +kernel))
  have c3 : ns_on s cx kx T.fSupp := Cond.laysAt fc hk Y.supp (ws (.lays nsN Bundle.tN "suppressedExceptions" Bundle.listD) (by decide +kernel))
  have c4 : ns_on s cx kx T.fMsg := Cond.laysAt fc hk fM (ws (.lays nsN Bundle.tN "detailMessage" "Ljava/lang/String;") (by decide +kernel))
  have takes : ∀ {f : Field} {v : Value}, ns_on s cx kx f → fits f.type v = true → Takes s (freshCell cx kx) f v := fun on hv => Takes.of_laid hk ord on.1 hv
  obtain ⟨dS, hS, isS⟩ := Y.statics
  obtain ⟨u, hu⟩ := Cond.staticRefV Y.unassigned L.unassignedStatic L.statics hS isS (ws (.isRef (.static Bundle.tN "UNASSIGNED_STACK" Bundle.steD)) (by decide +kernel))
  obtain ⟨z, hz⟩ := Cond.staticRefV Y.sentinel L.sentinelStatic L.statics hS isS (ws (.isRef (.static Bundle.tN "SUPPRESSED_SENTINEL" Bundle.listD)) (by decide +kernel))
  obtain ⟨dW, hW, known, keep⟩ := ns_still X.same hS isS
  have apart : T.aS ≠ q := fun no => by
    have lt := (Array.getElem?_eq_some_iff.mp hS).1
    rw [no] at lt
    exact absurd lt (Nat.not_lt.mpr new)
  obtain ⟨tm, _, _, _, vm₁, nt, -, -, -, -, -, -, -, w1, run1⟩ := Steps.initColdS (tb := p.tables) (e := e) (below := below) (s := s) (U := W) X.here hexec X.warmed mg own (t := Bundle.initS nsN) rfl rfl ⟨by decide, by decide⟩
    (ws (.methodLink "Sealhouse" 254 (Bundle.initS nsN)) (by decide +kernel)) (ws (.instanceMethod (Bundle.initS nsN)) (by decide +kernel)) (bytes := prog_28_method_4_code) (maxL := 2) (ws (.code (Bundle.initS nsN) prog_28_method_4_code 2 none) (by decide +kernel))
    (f := F0 m pc ls (.ref tx :: .ref q :: .ref q :: rest)) rfl (a := q) (msg := .ref tx) (rest := .ref q :: rest) rfl i0
  rw [nP] at nt
  injection nt with nt
  subst nt
  have room : 2 * 0 + (1 + (rest.map fun v => v.category).sum) + (13 * (Q.length + 1) + 42) ≤ R.locals := by omega
  have few : Q.length + 1 + 2 < R.frames := by omega
  obtain ⟨vm₂, X₂, run2⟩ := (X.noted w1).ctorMessageOffV hexec (g := F0 m pc ls (.ref q :: rest)) rfl sz T L Z LZ M LM (P :: Q) lq pass (u0 := u) (sen := z) (self := q) (msg := .ref tx) rfl (cell := freshCell cx kx) (cellS := dW)
    hq (fun _ no => by cases no) (fun no => by cases no) rfl rfl
    (ns_sel X.admits fc Y.fill0 (by decide) (ws (.selects nsN Bundle.tFill0 Bundle.tFill0) (by decide +kernel))) (ns_sel X.admits fc Y.fill (by decide) (ws (.selects nsN Bundle.tFill Bundle.tFill) (by decide +kernel)))
    hW apart known ((keep _).trans hu) ((keep _).trans hz)
    (takes c1 (by rw [Y.causeType]; rfl)) (takes c2 (by rw [Y.stackType]; exact fits_refV_array _ u)) (takes c3 (by rw [Y.suppType]; exact fits_refV_object _ z)) (takes c4 (by rw [Y.msgType]; rfl))
    Y.objLocals (ns_skip mg L Y ws fc hk c1 c2 c3) off [] i0 few room
  obtain ⟨run3, live, ended, w2, same⟩ := X₂.athrowLeaves hexec (g := F0 m (pc + 3) ls (.ref q :: rest)) rfl rfl rfl out (a := q) (rest := rest) rfl i3 un
  have all : s.sameButNew ({ (((W.setVm vm₁).setVm vm₂).setCell q (plainBareV T.toThrowableT (freshCell cx kx) q u z (.ref tx))).setFrames (.throwing q :: below) with vm := s.vm } : State) [] n k := by
    refine same.weaken (fun y hy lt => absurd lt (Nat.not_lt.mpr ?_)) (Nat.le_refl _) (Nat.le_refl _)
    simp only [List.nil_append, List.mem_cons, List.not_mem_nil, or_false] at hy
    rcases hy with r | r | r | r | r <;> (rw [r]; exact new)
  refine ⟨_, run1 _ (fun acts => ?_), live, ended, w2, all, _, heapAt_setCell_self _ (Array.getElem?_eq_some_iff.mp hq).1, rfl, rfl⟩
  rw [doInvoke_state]
  exact run2 _ run3
section NSX
variable {p : Program} {l : Launch} {e : Env} {R : Room} {s : State} {m : MethodId} {args : Array Value} {below : List Frame} {meth : Method} {c : Code} {H : Heap} {locs : List Loc} {cells slots : Nat}
variable {Qc : Array Value → State → Outcome → State → Prop} {XC : String → State → State → Prop} {mc ms : Nat} {free : Addr → Prop} {ls : Array Slot} {rest : List Value}
theorem vx_throwN {cc : ByteArray} {pc : Nat} (hexec : p.tables.exec = Jvm.exec) (hb : c.code = cc) (hl : l.stackTraces = false) {text : String} {ik is sa : Nat} {A : Nat → Prop}
    (hown : s.vm.findClass "Sealhouse" = some m.cls)
    (hk : (Cond.classLink "Sealhouse" ik nsN).before args s = true) (hini : (Cond.initialized nsN).before args s = true) (hstr : vk_R "Sealhouse" is text sa s) (hat : ∀ w ∈ nsW.filter vx_no, w.before args s = true)
    (hU : vx_Zq Bundle.tN "UNASSIGNED_STACK" Bundle.steD A s s.heap) (hN : vx_Zq Bundle.tN "SUPPRESSED_SENTINEL" Bundle.listD A s s.heap) (hS : va_S A s.heap H locs) (hsize : ls.size = c.maxLocals)
    (d0 : decode cc pc = .ok (.new ik, 3)) (d3 : decode cc (pc + 3) = .ok (.dup, 1)) (d4 : decode cc (pc + 4) = .ok (.ldc is, 2)) (d6 : decode cc (pc + 6) = .ok (.invokespecial 254, 3)) (d9 : decode cc (pc + 9) = .ok (.athrow, 1))
    (hout : ∀ x ∈ c.exceptionTable.toList, covers x (pc + 9) = false)
    (hRframes : 5 < R.frames) (hRlocals : (rest.map fun v => v.category).sum + 82 ≤ R.locals) (hRcells : cells + 1 ≤ R.cells) (hRslots : slots + 6 ≤ R.slots) (hlocks : meth.locks = false)
    (hx : ∀ t : State, s.vm.Alike t.vm → H.size ≤ t.heap.size → (∀ q : Nat, q < H.size → t.heap[q]? = H[q]?) → XC nsN s t)
    (hf : ∀ z ∈ locs, free z.base) (hc : cells + 1 ≤ mc) (hs : slots + 6 ≤ ms) :
    W p l e R s m args below meth c H locs cells slots (vx_MQ below Qc XC args s mc ms free) (F0 m pc ls rest) := by
  intro T hT X
  have htr : e.platform.stackTraces = false := (show e.platform.stackTraces = l.stackTraces by rw [X.admits.platform]).trans hl
  have Y := vx_rebase X (R' := { frames := R.frames, locals := R.locals, cells := 1, slots := 6 }) (Nat.le_refl _) (Nat.le_refl _) hRcells hRslots
  obtain ⟨s', hA⟩ : ∃ z, z = (T.setVm s.vm).setFrames (.invoking m args :: below) := ⟨_, rfl⟩
  rw [← hA] at Y
  have hvm : s'.vm = s.vm := by rw [hA]; rfl
  have hhp : s'.heap = H := by rw [hA]; exact hT
  have hW0 : s.WarmedH s'.vm := by rw [hvm]; exact State.WarmedH.refl s
  have hat' : ∀ w ∈ nsW.filter vx_no, w.before args s' = true := fun w hw => vx_ot_at hW0 hvm.symm (nsW_g w hw) (hat w hw)
  have hk' : (Cond.classLink "Sealhouse" ik nsN).before args s' = true := vx_ot_at hW0 hvm.symm rfl hk
  have hini' : (Cond.initialized nsN).before args s' = true := vx_ot_at hW0 hvm.symm rfl hini
  have hU' : vx_Zq Bundle.tN "UNASSIGNED_STACK" Bundle.steD A s' s'.heap := by rw [hhp]; exact vx_Zq.moved hW0.alike (hU.kept hS.2.1)
  have hN' : vx_Zq Bundle.tN "SUPPRESSED_SENTINEL" Bundle.listD A s' s'.heap := by rw [hhp]; exact vx_Zq.moved hW0.alike (hN.kept hS.2.1)
  have h : ∀ w ∈ nsW, w.before args s' = true := vx_own hat' (vx_isRefq hU'.1) (vx_isRefq hN'.1) hU'.2.word hN'.2.word
  have hown' : s'.vm.findClass "Sealhouse" = some m.cls := by rw [hvm]; exact hown
  have hins : (Cond.instantiable nsN 6).before args s' = true := h _ (by decide +kernel)
  obtain ⟨vm₁, cX, kX, hfX, hkX, -, -, X₁, st1⟩ := Y.newCold hexec (own := "Sealhouse") (C := nsN) (index := ik) (n := 6) hown' hk' hins hini'
    (g := F0 m pc ls rest) rfl (by rw [hb]; exact d0) (Nat.le_refl _) (Nat.le_refl _)
  generalize hT1 : (T.setVm vm₁).pushCell { cls := cX, slots := kX.instanceTypes.map defaultValue, vm := .none } = T1 at X₁ st1
  have hcat : (Value.ref T.heap.size).category = 1 := rfl
  have hcellA : T1.heap[T.heap.size]? = some (freshCell cX kX) := by rw [← hT1]; exact State.heap_pushCell_size _ _
  have d3' : decode c.code (pc + 3) = .ok (.dup, 1) := by rw [hb]; exact d3
  have d4' : decode c.code (pc + 4) = .ok (.ldc is, 2) := by rw [hb]; exact d4
  have hstr' : vk_R "Sealhouse" is text sa s' := vk_R.warm hW0 hstr
  obtain ⟨U, hsteps, hrun, hend, hW, hsame, ce, hce, hO, hO2⟩ := ns_throw X₁ hexec htr hown' h (tx := sa) hfX hkX hcellA (by rw [hhp, hT]; exact Nat.le_refl _) (pc := pc + 6) (ls := ls) (rest := rest) hsize
    (by rw [hb]; exact d6) (by rw [hb]; exact d9) hout hRframes hRlocals hlocks
  obtain ⟨f1, f2⟩ := vx_frame hsame
  rw [hhp] at f1 f2
  have hWs : s.WarmedH U.vm := State.WarmedH.trans hW0 hW
  have hcl : s.vm.findClass nsN = some ce.cls := by rw [hO2, ← hvm]; exact hfX
  have hall : s.sameButNew ({ U with vm := s.vm } : State) locs mc ms := by
    subst hA
    obtain ⟨e1, e2⟩ := hsame
    rw [State.setFrames_setFrames] at e1
    have h2 : (T.setVm s.vm).sameButNew ({ U with vm := s.vm } : State) [] (0 + 1) (0 + 6) := ⟨e1, e2⟩
    have h3 := X.same.trans h2
    rw [List.append_nil] at h3
    exact h3.mono hc hs
  refine ⟨U, ?_, .threw T.heap.size, hrun, hend, Or.inr ⟨T.heap.size, rfl, nsN, ce, locs, hx U hWs.alike f1 (fun q hq => f2 q hq (fun z hz => nomatch hz)), hce, hO, hcl, hWs, hall, hf⟩⟩
  refine st1 _ ?_
  show Steps p.tables e below (T1.setTop { method := m, pc := pc + 3, locals := ls, stack := .ref T.heap.size :: rest, locked := none }) _
  jvm_step X₁.here [X₁.here.top, hexec, d3', Value.category]
  exact X₁.ldcString hexec (own := "Sealhouse") (text := text) (index := is) (a := sa) hown' hstr'.1 hstr'.2
    (g := { method := m, pc := pc + 4, locals := ls, stack := .ref T.heap.size :: .ref T.heap.size :: rest, locked := none }) rfl d4' _ hsteps
end NSX
section VNS
variable {K : Kx} {G : Gx} {cc : ByteArray} {nL : Nat} {R : Room} {k n pc : Nat} {lv : List (Nat × Value)} {rest : List Value} {ws : va_W}
theorem v_throwN {ik is j mc ms : Nat} {text : String} (hX : RetX K G nsN ws mc ms) (hk : Cond.classLink "Sealhouse" ik nsN ∈ GT) (hini : Cond.initialized nsN ∈ GT) (hs : ("Sealhouse", is, text, j) ∈ strJ)
    (d0 : decode cc pc = .ok (.new ik, 3)) (d3 : decode cc (pc + 3) = .ok (.dup, 1)) (d4 : decode cc (pc + 4) = .ok (.ldc is, 2)) (d7 : decode cc (pc + 6) = .ok (.invokespecial 254, 3)) (d10 : decode cc (pc + 9) = .ok (.athrow, 1))
    (hRf : 5 < R.frames) (hRl : (rest.map fun v => v.category).sum + 82 ≤ R.locals) (hRc : k + 1 ≤ R.cells) (hRs : n + 6 ≤ R.slots) (hc : k + 1 ≤ mc) (hms : n + 6 ≤ ms) : V K G cc "Sealhouse" nL R k n pc lv rest ws := by
  obtain ⟨p, l, e, s, m, args, below, meth, c, A, H0, Q⟩ := K
  obtain ⟨Qc, free, hQ, hlocks, hf, hno, hst⟩ := hX
  intro hC hK hH hE hA H locs ls hP hD hS hl
  subst hH; subst hQ
  exact vx_throwN hC.1 hC.2.1 hst hC.2.2.2.1 (hC.2.2.2.2 _ hk) (hC.2.2.2.2 _ hini) (hE.2.2.2.2.1 _ hs) (nsW_0 hC.2.2.2.2 hE.2.2.2.2.2.1) hE.1.1 hE.1.2 hS (by rw [hC.2.2.1]; exact hl.1) d0 d3 d4 d7 d10 (fun x hx => (hno x hx).elim) hRf hRl hRc hRs hlocks
    (fun t _ h1 h2 => ⟨rfl, hP.kept (fun i q hq => h2 _ (hP i q hq).lt), hD, Nat.le_trans hS.1 h1, fun q q1 q2 => by rw [h2 q (Nat.lt_of_lt_of_le q1 hS.1)]; exact hS.2.1 q q1 q2⟩) (fun q z => hf _ (hS.2.2 q z)) hc hms
end VNS
