theorem kw_max : Cond.code Lib.Math.max.name Lib.Math.max.code 2 (some .int) ∈ GT := gt_of 594 (by decide +kernel) (by decide +kernel)
theorem kw_min : Cond.code Lib.Math.min.name Lib.Math.min.code 2 (some .int) ∈ GT := gt_of 597 (by decide +kernel) (by decide +kernel)
theorem lenJ_le (j : Nat) : lenJ.getD j 0 ≤ 9 := by
  match j with
  | 0 => decide
  | 1 => decide
  | 2 => decide
  | j + 3 => exact Nat.zero_le _
theorem va_nd_range' : ∀ n s : Nat, va_nd (List.range' s n) = true
  | 0, _ => rfl
  | n + 1, s => by
    rw [List.range'_succ]
    show (decide (s ∉ List.range' (s + 1) n) && va_nd (List.range' (s + 1) n)) = true
    rw [va_nd_range' n (s + 1), Bool.and_true, decide_eq_true_eq]
    intro h
    rw [List.mem_range'_1] at h
    omega
theorem va_nd_range (n : Nat) : va_nd (List.range n) = true := by
  rw [List.range_eq_range']; exact va_nd_range' n 0
section EN
variable {K : Kx} {G : Gx} {cc : ByteArray} {own : String} {nL : Nat} {R : Room} {k n pc : Nat} {lv lv' : List (Nat × Value)} {rest : List Value} {ws ws' : va_W}
theorem v_ldcS {i j : Nat} {tx : String} (d : decode cc pc = .ok (.ldc i, 2)) (hq : (own, i, tx, j) ∈ strJ) (kk : V K G cc own nL R k n (pc + 2) lv (.ref (G.2.2.1 j) :: rest) ws) : V K G cc own nL R k n pc lv (rest) ws := by
  obtain ⟨p, l, e, s, m, args, below, meth, c, A, H0, Q⟩ := K; intro hC hK hH hE hA H locs ls hP hD hS hl
  exact va_ldcS hC.1 hC.2.1 hC.2.2.2.1 (hE.2.2.2.2.1 _ hq) d (kk hC hK hH hE hA H locs ls hP hD hS hl)
theorem n_mmax {i a b : Nat} (d : decode cc pc = .ok (.invokestatic i, 3)) (h1 : Cond.methodLink own i Lib.Math.max.name ∈ GT) (h2 : Cond.static Lib.Math.max.name ∈ GT) (h3 : Cond.initialized "java/lang/Math" ∈ GT) (h4 : Cond.code Lib.Math.max.name Lib.Math.max.code 2 (some .int) ∈ GT) (hf : 1 ≤ R.frames) (hlo : (rest.map fun v => v.category).sum + 13 ≤ R.locals) (hk : k ≤ R.cells) (hs : n ≤ R.slots) (hab : b ≤ a) (ha : a < 2147483648) (kk : V K G cc own nL R k n (pc + 3) lv (.int (nI a) :: rest) ws) : V K G cc own nL R k n pc lv (.int (nI b) :: .int (nI a) :: rest) ws := by
  obtain ⟨p, l, e, s, m, args, below, meth, c, A, H0, Q⟩ := K; intro hC hK hH hE hA H locs ls hP hD hS hl
  refine va_mmax hC.1 hC.2.1 (by rw [hC.2.2.1]; exact hl.1.symm) hC.2.2.2.1 (hC.2.2.2.2 _ h1) (hC.2.2.2.2 _ h2) (hC.2.2.2.2 _ h3) (hC.2.2.2.2 _ h4) hf hlo hk hs d ?_
  rw [if_neg (nI_nlt hab ha)]
  exact kk hC hK hH hE hA H locs ls hP hD hS hl
theorem n_mmin {i a b : Nat} (d : decode cc pc = .ok (.invokestatic i, 3)) (h1 : Cond.methodLink own i Lib.Math.min.name ∈ GT) (h2 : Cond.static Lib.Math.min.name ∈ GT) (h3 : Cond.initialized "java/lang/Math" ∈ GT) (h4 : Cond.code Lib.Math.min.name Lib.Math.min.code 2 (some .int) ∈ GT) (hf : 1 ≤ R.frames) (hlo : (rest.map fun v => v.category).sum + 13 ≤ R.locals) (hk : k ≤ R.cells) (hs : n ≤ R.slots) (hab : a ≤ b) (hb : b < 2147483648) (kk : V K G cc own nL R k n (pc + 3) lv (.int (nI a) :: rest) ws) : V K G cc own nL R k n pc lv (.int (nI b) :: .int (nI a) :: rest) ws := by
  obtain ⟨p, l, e, s, m, args, below, meth, c, A, H0, Q⟩ := K; intro hC hK hH hE hA H locs ls hP hD hS hl
  refine va_mmin hC.1 hC.2.1 (by rw [hC.2.2.1]; exact hl.1.symm) hC.2.2.2.1 (hC.2.2.2.2 _ h1) (hC.2.2.2.2 _ h2) (hC.2.2.2.2 _ h3) (hC.2.2.2.2 _ h4) hf hlo hk hs d ?_
  rw [if_neg (nI_nlt hab hb)]
  exact kk hC hK hH hE hA H locs ls hP hD hS hl
theorem v_i2b {x : Int32} (d : decode cc pc = .ok (.i2b, 1)) (kk : V K G cc own nL R k n (pc + 1) lv (.int x.toInt8.toInt32 :: rest) ws) : V K G cc own nL R k n pc lv (.int x :: rest) ws := by
  obtain ⟨p, l, e, s, m, args, below, meth, c, A, H0, Q⟩ := K; intro hC hK hH hE hA H locs ls hP hD hS hl
  exact lv_i2b hC.1 hC.2.1 d rfl (kk hC hK hH hE hA H locs ls hP hD hS hl)
theorem v_compact {i : Nat} (d : decode cc pc = .ok (.getstatic i, 3)) (hw : Cond.fieldLink own i "java/lang/String" "COMPACT_STRINGS" "Z" ∈ GT) (kk : V K G cc own nL R k n (pc + 3) lv (.int (nI 1) :: rest) ws) : V K G cc own nL R k n pc lv (rest) ws := by
  obtain ⟨p, l, e, s, m, args, below, meth, c, A, H0, Q⟩ := K; intro hC hK hH hE hA H locs ls hP hD hS hl
  subst hH
  exact va_gets hC.1 hC.2.1 hE.2.2.1 hS hC.2.2.2.1 (hC.2.2.2.2 _ hw) (fun x h => h) d (kk hC hK rfl hE hA H locs ls hP hD hS hl)
theorem v_fmt {i : Nat} (d : decode cc pc = .ok (.getstatic i, 3)) (hw : Cond.fieldLink own i "jdk/internal/util/Preconditions" "SIOOBE_FORMATTER" "Ljava/util/function/BiFunction;" ∈ GT) (kn : V K G cc own nL R k n (pc + 3) lv (.null :: rest) ws) (kk : ∀ t : Nat, V K G cc own nL R k n (pc + 3) lv (.ref t :: rest) ws) : V K G cc own nL R k n pc lv (rest) ws := by
  obtain ⟨p, l, e, s, m, args, below, meth, c, A, H0, Q⟩ := K; intro hC hK hH hE hA H locs ls hP hD hS hl
  subst hH
  rcases hE.2.1 with h | ⟨t, h⟩
  · exact va_gets hC.1 hC.2.1 h hS hC.2.2.2.1 (hC.2.2.2.2 _ hw) (fun x h => h) d (kn hC hK rfl hE hA H locs ls hP hD hS hl)
  · exact va_gets hC.1 hC.2.1 h hS hC.2.2.2.1 (hC.2.2.2.2 _ hw) (fun x h => h) d (kk t hC hK rfl hE hA H locs ls hP hD hS hl)
theorem v_scoder {i j : Nat} (hj : j < 3) (d : decode cc pc = .ok (.getfield i, 3)) (hw : Cond.fieldLink own i "java/lang/String" "coder" "B" ∈ GT) (kk : V K G cc own nL R k n (pc + 3) lv (.int (nI 0) :: rest) ws) : V K G cc own nL R k n pc lv (.ref (G.2.2.1 j) :: rest) ws := by
  obtain ⟨p, l, e, s, m, args, below, meth, c, A, H0, Q⟩ := K; intro hC hK hH hE hA H locs ls hP hD hS hl
  subst hH
  exact vk_getf hC.1 hC.2.1 (hE.2.2.2.1 j hj).2.1 hS hC.2.2.2.1 (hC.2.2.2.2 _ hw) (fun x h => h) d (kk hC hK rfl hE hA H locs ls hP hD hS hl)
theorem v_svalue {i j : Nat} (hj : j < 3) (d : decode cc pc = .ok (.getfield i, 3)) (hw : Cond.fieldLink own i "java/lang/String" "value" "[B" ∈ GT) (kk : V K G cc own nL R k n (pc + 3) lv (.ref (G.2.2.2 j) :: rest) ws) : V K G cc own nL R k n pc lv (.ref (G.2.2.1 j) :: rest) ws := by
  obtain ⟨p, l, e, s, m, args, below, meth, c, A, H0, Q⟩ := K; intro hC hK hH hE hA H locs ls hP hD hS hl
  subst hH
  exact vk_getf hC.1 hC.2.1 (hE.2.2.2.1 j hj).2.2.1 hS hC.2.2.2.1 (hC.2.2.2.2 _ hw) (fun x h => h) d (kk hC hK rfl hE hA H locs ls hP hD hS hl)
theorem v_slen {j : Nat} (hj : j < 3) (d : decode cc pc = .ok (.arraylength, 1)) (kk : V K G cc own nL R k n (pc + 1) lv (.int (nI (lenJ.getD j 0)) :: rest) ws) : V K G cc own nL R k n pc lv (.ref (G.2.2.2 j) :: rest) ws := by
  obtain ⟨p, l, e, s, m, args, below, meth, c, A, H0, Q⟩ := K; intro hC hK hH hE hA H locs ls hP hD hS hl
  subst hH
  exact va_tlen hC.1 hC.2.1 (hE.2.2.2.1 j hj).2.2.2 hS rfl d (kk hC hK rfl hE hA H locs ls hP hD hS hl)
theorem v_sbald {j z : Nat} (hj : j < 3) (hz : z < lenJ.getD j 0) (hz2 : z < 2147483648) (d : decode cc pc = .ok (.baload, 1)) (kk : V K G cc own nL R k n (pc + 1) lv (.int ((bytJ.getD j []).getD z 0) :: rest) ws) : V K G cc own nL R k n pc lv (.int (nI z) :: .ref (G.2.2.2 j) :: rest) ws := by
  obtain ⟨p, l, e, s, m, args, below, meth, c, A, H0, Q⟩ := K; intro hC hK hH hE hA H locs ls hP hD hS hl
  subst hH
  exact va_tb hC.1 hC.2.1 (hE.2.2.2.1 j hj).2.2.2 hS (i := nI z) (vp_in_nI hz (Nat.lt_of_le_of_lt (lenJ_le j) (by decide))) (by rw [nI_clamp hz2]) d (kk hC hK rfl hE hA H locs ls hP hD hS hl)
/-- a call of a String constant's method -/
theorem c_T1 {st0 st2 : List Value} {v0 : Option Value} {y : MethodName} {b : ByteArray} {mL : Nat} {rt : Option FieldType} {rm : Room} {i j : Nat} {As : List Value} (hj : j < 3) (hM : Mt K.2.1 G y b mL rt rm (Value.ref (G.2.2.1 j) :: As) [] (D1 v0 [])) (d : decode cc pc = .ok (.invokevirtual i, 3)) (h1 : Cond.methodLink own i y ∈ GT) (h2 : Cond.instanceMethod y ∈ GT) (h3 : Cond.initialized y.cls ∈ GT) (h4 : Cond.code y b mL rt ∈ GT) (h5 : Cond.selects y.cls y y ∈ GT) (hy : y.cls = "java/lang/String") (hd : y.cls ≠ "java/lang/invoke/MethodHandle" ∧ y.cls ≠ "java/lang/invoke/VarHandle" ∧ (parseMethodDescriptor y.desc).map (fun d => d.parameters.length) = some As.length) (hr : rm.frames + 1 ≤ R.frames ∧ 8 + (mL + 11) + rm.locals ≤ R.locals) (hks : k + rm.cells ≤ R.cells ∧ n + rm.slots ≤ R.slots) (hkn : k + rm.cells = k ∧ n + rm.slots = n) (hst : (rest.map fun v => v.category).sum ≤ 8) (hs0 : As.reverse ++ .ref (G.2.2.1 j) :: rest = st0) (hs2 : v0.toList ++ rest = st2) (kk : V K G cc own nL R k n (pc + 3) lv (st2) ws) : V K G cc own nL R k n pc lv (st0) ws := by
  subst hs0
  obtain ⟨p, l, e, s, m, args, below, meth, c, A, H0, Q⟩ := K; intro hX hK hH hE hA H locs ls hP hD hS hl
  have hP' : va_P G.1 vwCl [] H := fun k q h => by simp at h
  have hD' : va_D A [] := ⟨fun i j p q h => by simp at h, fun k q h => by simp at h⟩
  have hF : ∀ q, va_A [] H.size q → A q := va_free hD hS hA [] rfl
  have hE' := ev_call (wc := []) (by rw [hH]; exact hE) hS hF
  have hrecv : ∃ cell : Cell, H[G.2.2.1 j]? = some cell ∧ cell.vm.isStatics = false ∧ s.vm.findClass y.cls = some cell.cls := by
    subst hH
    obtain ⟨cell, q1, q2, q3, -⟩ := (hE.2.2.2.1 j hj).1.kept hS.2.1
    exact ⟨cell, q1, q2, by rw [hy]; exact q3⟩
  refine w_after (va_runV (C := y.cls) (b := G.2.2.1 j) (As := As) (rest := rest) (ws := Cond.code y b mL rt :: GT) hX (hM H.size) (cwV As.length hX.2.2.2.2 ?_ rfl rfl rfl ⟨rfl, hd⟩ hr) ⟨mt_blind, hrecv, fun U hU hW => mt_pre hP' hD' hK hE' U hU hW⟩ rfl rfl hl.1 rfl (lv_room hst) d hks) hP hD hS hA [] (List.range ws.length) rfl (wr := ws) (by apply List.ext_getElem?; intro i; simp; rcases Nat.lt_or_ge i ws.length with q | q <;> simp [q]) (va_nd_range _) (fun i _ h => by simp at h) (fun v w1 H1 locs1 hf hP hD hS => ?_)
  · exact gt_cons h1 (gt_cons h2 (gt_cons h5 (gt_cons h3 (gt_cons h4 gt_self))))
  · obtain ⟨rfl, rfl⟩ := hf
    rw [List.append_nil] at hP hD
    subst hs2
    have e1 : k + rm.cells = k := hkn.1
    have e2 : n + rm.slots = n := hkn.2
    rw [e1, e2]
    exact kk hX hK hH hE hA H1 locs1 ls hP hD hS hl
/-! what is thrown -/
def XQ (G : Gx) (E : String) (wc : va_W) (A : Nat → Prop) : String → State → State → Prop := fun E' st t => E' = E ∧ va_P G.1 vwCl wc t.heap ∧ va_D A wc ∧ va_F A st t
def RetX (K : Kx) (G : Gx) (E : String) (wc : va_W) (mc ms : Nat) : Prop :=
  match K with
  | (_, l, _, s, _, args, below, meth, c, A, H0, Q) => ∃ (Qc : Array Value → State → Outcome → State → Prop) (free : Addr → Prop), Q = vx_MQ below Qc (XQ G E wc A) args s mc ms free ∧ meth.locks = false ∧ (∀ q, A q → free q) ∧ (∀ x ∈ c.exceptionTable.toList, False) ∧ l.stackTraces = false
def MtX (l : Launch) (G : Gx) (y : MethodName) (b : ByteArray) (nL : Nat) (rt : Option FieldType) (rm : Room) (av : List Value) (wc : va_W) (E : String) : Prop :=
  ∀ sz : Nat, vx_Met l y (Cond.code y b nL rt :: GT) rm (va_Pc av (fun U => U.heap.size = sz ∧ va_P G.1 vwCl wc U.heap ∧ va_K G.1 vwCl (tyl G) U ∧ va_D (fun _ => True) wc ∧ EV G (va_A wc sz) U U.heap)) (fun _ _ _ _ => False) (XQ G E wc (va_A wc sz)) rm.cells rm.slots (va_A wc sz)
theorem MtX.of {l : Launch} {G : Gx} {y : MethodName} {b : ByteArray} {nL : Nat} {rt : Option FieldType} {rm : Room} {av : List Value} {wc : va_W} {E : String} (hst : l.stackTraces = false) (hy : plainName y.cls = true) (hlen : (lg_sl av).length ≤ nL)
    (body : ∀ K : Kx, K.2.1 = l → RetX K G E wc rm.cells rm.slots → V K G b y.cls nL rm 0 0 0 (lv_args 0 av) [] wc) : MtX l G y b nL rt rm av wc E := by
  intro sz
  refine vx_ofW (cc := b) (maxL := nL) (ret := rt) hy rfl ?_
  intro p e s m args below meth c s₁ B hml hno hv
  obtain ⟨rfl, hsz, hP, hK, hD0, hE⟩ := hv
  have hts := atoms_spec (ws := Cond.code y b nL rt :: GT) B.pre
  have hown : s.vm.findClass y.cls = some m.cls := findClass_of_methodNamed B.named
  subst hsz
  have hD := hD0.self (sz := s.heap.size)
  have hb := body (p, l, e, s, m, av.toArray, below, meth, c, va_A wc s.heap.size, s.heap, vx_MQ below (fun _ _ _ _ => False) (XQ G E wc (va_A wc s.heap.size)) av.toArray s rm.cells rm.slots (va_A wc s.heap.size)) rfl ⟨fun _ _ _ _ => False, va_A wc s.heap.size, rfl, B.notSynchronized, fun q h => h, hno, hst⟩
  rw [lg_entry_eq]
  exact hb ⟨B.exec, B.bytes, hml, hown, fun w h => hts w (List.mem_cons_of_mem _ h)⟩ hK rfl hE (fun q h => Or.inr h) s.heap [] _ hP hD va_S.rf (lv_entry av hlen)
theorem ex_words {own cls : String} {ic : Nat} {names : List String} {args : Array Value} {s : State} (h : ∀ w ∈ vx_atS own ic cls names, w ∈ lw_tbl ∧ (goodWord w || isDC w) = true) (h1 : ∀ w ∈ GT, w.before args s = true) (h2 : ∀ w ∈ lw_tbl, isDC w = true → va_Nw w s) : ∀ w ∈ vx_atS own ic cls names, w.before args s = true := by
  intro w hw
  obtain ⟨a, b⟩ := h w hw
  cases hg : goodWord w with
  | true => exact h1 w (List.mem_filter.mpr ⟨a, hg⟩)
  | false =>
    rw [hg, Bool.false_or] at b
    exact va_Nw.use (isDC_on b) (h2 w a b)
theorem ex_good {own cls : String} {ic ik : Nat} {names : List String} (hk : Cond.classLink own ik cls ∈ GT) (hini : Cond.initialized cls ∈ GT) (h : ∀ w ∈ vx_atS own ic cls names, w ∈ lw_tbl ∧ (goodWord w || isDC w) = true) : ∀ w ∈ Cond.classLink own ik cls :: Cond.initialized cls :: vx_atS own ic cls names, vx_ot w = true := by
  intro w hw
  rcases List.mem_cons.mp hw with rfl | hw
  · rfl
  · rcases List.mem_cons.mp hw with rfl | hw
    · rfl
    · have := (h w hw).2
      unfold vx_ot
      cases hg : goodWord w with
      | true => rw [Bool.or_true]
      | false =>
        rw [hg, Bool.false_or] at this
        rw [isDC_on this]; rfl

theorem v_throwS {ik is ic j mc ms : Nat} {cls text : String} {names : List String} (hX : RetX K G cls ws mc ms) (hcls : Bundle.fit cls = true) (hnames : ∀ n ∈ names, Bundle.fit n = true) (hk : Cond.classLink own ik cls ∈ GT) (hini : Cond.initialized cls ∈ GT) (hs : (own, is, text, j) ∈ strJ) (hat : ∀ w ∈ vx_atS own ic cls names, w ∈ lw_tbl ∧ (goodWord w || isDC w) = true)
    (d0 : decode cc pc = .ok (.new ik, 3)) (d3 : decode cc (pc + 3) = .ok (.dup, 1)) (d4 : decode cc (pc + 4) = .ok (.ldc is, 2)) (d7 : decode cc (pc + 6) = .ok (.invokespecial ic, 3)) (d10 : decode cc (pc + 9) = .ok (.athrow, 1))
    (hRf : names.length + 3 < R.frames) (hRl : (rest.map fun v => v.category).sum + (13 * (names.length + 1) + 43) ≤ R.locals) (hRc : k + 1 ≤ R.cells) (hRs : n + 6 ≤ R.slots) (hc : k + 1 ≤ mc) (hms : n + 6 ≤ ms) : V K G cc own nL R k n pc lv (rest) ws := by
  obtain ⟨p, l, e, s, m, args, below, meth, c, A, H0, Q⟩ := K
  obtain ⟨Qc, free, hQ, hlocks, hf, hno, hst⟩ := hX
  intro hC hK hH hE hA H locs ls hP hD hS hl
  subst hH; subst hQ
  exact vx_throwS hC.1 hC.2.1 hst hC.2.2.2.1 hcls hnames (hC.2.2.2.2 _ hk) (hC.2.2.2.2 _ hini) (hE.2.2.2.2.1 _ hs) (ex_words hat hC.2.2.2.2 hE.2.2.2.2.2.1) (ex_good hk hini hat) hE.1.1 hE.1.2 hS (by rw [hC.2.2.1]; exact hl.1) d0 d3 d4 d7 d10 (fun x hx => (hno x hx).elim) hRf hRl hRc hRs hlocks
    (fun t _ h1 h2 => ⟨rfl, hP.kept (fun i q hq => h2 _ (hP i q hq).lt), hD, Nat.le_trans hS.1 h1, fun q q1 q2 => by rw [h2 q (Nat.lt_of_lt_of_le q1 hS.1)]; exact hS.2.1 q q1 q2⟩) (fun q z => hf _ (hS.2.2 q z)) hc hms
theorem v_throwSW {ik is ic j mc ms : Nat} {cls text : String} {names : List String} (hX : RetX K G cls ws mc ms) (hcls : Bundle.fit cls = true) (hnames : ∀ n ∈ names, Bundle.fit n = true) (hk : Cond.classLink own ik cls ∈ GT) (hini : Cond.initialized cls ∈ GT) (hs : (own, is, text, j) ∈ strJ) (hat : ∀ w ∈ vx_atS own ic cls names, w ∈ lw_tbl ∧ (goodWord w || isDC w) = true)
    (d0 : decode cc pc = .ok (.new ik, 3)) (d3 : decode cc (pc + 3) = .ok (.dup, 1)) (d4 : decode cc (pc + 4) = .ok (.ldc_w is, 3)) (d7 : decode cc (pc + 7) = .ok (.invokespecial ic, 3)) (d10 : decode cc (pc + 10) = .ok (.athrow, 1))
    (hRf : names.length + 3 < R.frames) (hRl : (rest.map fun v => v.category).sum + (13 * (names.length + 1) + 43) ≤ R.locals) (hRc : k + 1 ≤ R.cells) (hRs : n + 6 ≤ R.slots) (hc : k + 1 ≤ mc) (hms : n + 6 ≤ ms) : V K G cc own nL R k n pc lv (rest) ws := by
  obtain ⟨p, l, e, s, m, args, below, meth, c, A, H0, Q⟩ := K
  obtain ⟨Qc, free, hQ, hlocks, hf, hno, hst⟩ := hX
  intro hC hK hH hE hA H locs ls hP hD hS hl
  subst hH; subst hQ
  exact vx_throwSW hC.1 hC.2.1 hst hC.2.2.2.1 hcls hnames (hC.2.2.2.2 _ hk) (hC.2.2.2.2 _ hini) (hE.2.2.2.2.1 _ hs) (ex_words hat hC.2.2.2.2 hE.2.2.2.2.2.1) (ex_good hk hini hat) hE.1.1 hE.1.2 hS (by rw [hC.2.2.1]; exact hl.1) d0 d3 d4 d7 d10 (fun x hx => (hno x hx).elim) hRf hRl hRc hRs hlocks
    (fun t _ h1 h2 => ⟨rfl, hP.kept (fun i q hq => h2 _ (hP i q hq).lt), hD, Nat.le_trans hS.1 h1, fun q q1 q2 => by rw [h2 q (Nat.lt_of_lt_of_le q1 hS.1)]; exact hS.2.1 q q1 q2⟩) (fun q z => hf _ (hS.2.2 q z)) hc hms
end EN
theorem w_afterX {p : Program} {l : Launch} {e : Env} {R : Room} {s : State} {m : MethodId} {args : Array Value} {below : List Frame} {meth : Method} {c : Code} {H H0 : Heap} {locs : List Loc} {k n mc ms pc : Nat} {Q : State → Prop} {G : Gx} {A : Nat → Prop} {ls : Array Slot} {st0 rest : List Value} {ws wc wr : va_W} {E : String}
    (hr : vx_Run p l e R s m args below meth c H locs k n mc ms (F0 m pc ls st0) rest (fun _ _ _ => False) (XQ G E wc (va_A wc H.size)) (va_A wc H.size))
    (hP : va_P G.1 vwCl ws H) (hD : va_D A ws) (hS : va_S A H0 H locs) (hA : ∀ q, H0.size ≤ q → A q) (isC isR : List Nat) (hC : isC.map (fun i => ws[i]?) = wc.map some) (hR : isR.map (fun i => ws[i]?) = wr.map some) (hn : va_nd isR = true) (hdis : ∀ i ∈ isR, i ∉ isC) (is : List Nat) (hi1 : va_nd is = true) (hi2 : is.filterMap (fun i => (wr ++ wc)[i]?) = ws) (hi3 : is.map (fun i => (wr ++ wc)[i]?) = ws.map some)
    (kx : ∀ (ce : Cell) (q9 : Addr) (H1 : Heap) (locs1 : List Loc), va_P G.1 vwCl ws H1 → va_D A ws → va_S A H0 H1 locs1 → H1[q9]? = some ce → ce.vm = .none → s.vm.findClass E = some ce.cls → vx_W p l e R s m args below meth c H1 locs1 (k + mc) (n + ms) Q (F0 m pc ls rest) q9) : W p l e R s m args below meth c H locs k n Q (F0 m pc ls st0) := by
  have hF := va_free hD hS hA isC hC
  intro T hT X
  rcases hr T hT X with ⟨v, st₀, t, T', L, h0, X', hL, e1, e2, hno, st⟩ | ⟨q, st₀, t, T', L, E', ce, h0, X', hL, e1, e2, ⟨rfl, hP1, hD1, hz, hk⟩, hce, hcv, hcl, st⟩
  · exact hno.elim
  · rw [h0] at hz hk
    obtain ⟨hP2, hD2⟩ := va_join hP hD isC isR hC hR hn hdis (H1 := T'.heap) (fun q h1 h2 => by rw [e1]; exact hk q h1 h2) hF (by rw [e1]; exact hP1) hD1
    obtain ⟨t2, a1, b1⟩ := kx ce q T'.heap (locs ++ L) (hP2.sub is hi2) (hD2.sub is hi1 hi3)
      ⟨Nat.le_trans hS.1 (by rw [e1]; exact hz), fun q h1 h2 => by rw [e1, hk q (Nat.lt_of_lt_of_le h1 hS.1) (fun z => h2 (hF q z))]; exact hS.2.1 q h1 h2, fun q hq => by
        rcases List.mem_append.mp hq with h | h
        · exact hS.2.2 q h
        · exact hF _ (hL q h)⟩ (by rw [e1]; exact hce) hcv hcl T' rfl X'
    exact ⟨t2, st.trans a1, b1⟩
section EX
variable {K : Kx} {G : Gx} {cc : ByteArray} {own : String} {nL : Nat} {R : Room} {k n pc mc ms : Nat} {lv : List (Nat × Value)} {rest st0 : List Value} {ws wc wr : va_W} {E : String} {y : MethodName} {b : ByteArray} {mL : Nat} {rt : Option FieldType} {rm : Room} {i : Nat} {As : List Value}

theorem c_SX  (hRX : RetX K G E ws mc ms) (hM : MtX K.2.1 G y b mL rt rm As wc E) (isC isR : List Nat) (d : decode cc pc = .ok (.invokestatic i, 3)) (h1 : Cond.methodLink own i y ∈ GT) (h2 : Cond.static y ∈ GT) (h3 : Cond.initialized y.cls ∈ GT) (h4 : Cond.code y b mL rt ∈ GT) (hd : y.cls ≠ "java/lang/invoke/MethodHandle" ∧ y.cls ≠ "java/lang/invoke/VarHandle" ∧ (parseMethodDescriptor y.desc).map (fun d => d.parameters.length) = some As.length) (hr : rm.frames + 1 ≤ R.frames ∧ 8 + (mL + 11) + rm.locals ≤ R.locals) (hks : k + rm.cells ≤ R.cells ∧ n + rm.slots ≤ R.slots) (hmc : k + rm.cells ≤ mc ∧ n + rm.slots ≤ ms) (hst : (rest.map fun v => v.category).sum ≤ 8) (hs0 : As.reverse ++ rest = st0) (hC : isC.map (fun i => ws[i]?) = wc.map some) (hR : isR.map (fun i => ws[i]?) = wr.map some) (hP1 : isC.filterMap (fun i => ws[i]?) = wc) (hn : va_nd isC = true) (hn2 : va_nd isR = true) (hdis : ∀ i ∈ isR, i ∉ isC)  (is : List Nat) (hi1 : va_nd is = true) (hi2 : is.filterMap (fun i => (wr ++ wc)[i]?) = ws) (hi3 : is.map (fun i => (wr ++ wc)[i]?) = ws.map some) : V K G cc own nL R k n pc lv (st0) ws := by
  subst hs0
  obtain ⟨p, l, e, s, m, args, below, meth, c, A, H0, Q⟩ := K
  obtain ⟨Qc, free, hQ, hlocks, hf, hno, hstt⟩ := hRX
  intro hX hK hH hE hA H locs ls hP hD hS hl
  subst hQ
  have hP' := hP.sub isC hP1
  have hD' := hD.sub isC hn hC
  have hF := va_free hD hS hA isC hC
  have hE' := ev_call (by rw [hH]; exact hE) hS hF
  refine w_afterX (vx_runS (As := As) (rest := rest) (ws := Cond.code y b mL rt :: GT) hX (hM H.size) (va_cwS As.length hX.2.2.2.2 ?_ rfl rfl rfl hd hr) ⟨mt_blind, fun U hU hW => mt_pre hP' hD' hK hE' U hU hW⟩ rfl rfl hl.1 rfl (lv_room hst) d hks) hP hD hS hA isC isR hC hR hn2 hdis is hi1 hi2 hi3 (fun ce q9 H1 locs1 hP hD hS hce hcv hcl => ?_)
  · exact gt_cons h1 (gt_cons h2 (gt_cons h3 (gt_cons h4 gt_self)))
  · subst hH
    exact vx_out (fun x hx => (hno x hx).elim) hlocks hce hcv hcl (fun t ht _ => ⟨rfl, by rw [ht]; exact hP, hD, hS.F ht⟩) (fun q z => hf _ (hS.2.2 q z)) hmc.1 hmc.2
theorem c_VX {a ci : Nat} {fs : List Value} {T : u_T} {N : Nat} (hRX : RetX K G E ws mc ms) (hM : MtX K.2.1 G y b mL rt rm (Value.ref a :: As) wc E) (isC isR : List Nat) (d : decode cc pc = .ok (.invokevirtual i, 3)) (h1 : Cond.methodLink own i y ∈ GT) (h2 : Cond.instanceMethod y ∈ GT) (h3 : Cond.initialized y.cls ∈ GT) (h4 : Cond.code y b mL rt ∈ GT) (h5 : Cond.selects y.cls y y ∈ GT) (hd : y.cls ≠ "java/lang/invoke/MethodHandle" ∧ y.cls ≠ "java/lang/invoke/VarHandle" ∧ (parseMethodDescriptor y.desc).map (fun d => d.parameters.length) = some As.length) (hr : rm.frames + 1 ≤ R.frames ∧ 8 + (mL + 11) + rm.locals ≤ R.locals) (hks : k + rm.cells ≤ R.cells ∧ n + rm.slots ≤ R.slots) (hmc : k + rm.cells ≤ mc ∧ n + rm.slots ≤ ms) (hst : (rest.map fun v => v.category).sum ≤ 8) (hs0 : As.reverse ++ .ref a :: rest = st0) (hC : isC.map (fun i => ws[i]?) = wc.map some) (hR : isR.map (fun i => ws[i]?) = wr.map some) (hP1 : isC.filterMap (fun i => ws[i]?) = wc) (hn : va_nd isC = true) (hn2 : va_nd isR = true) (hdis : ∀ i ∈ isR, i ∉ isC) (q0 : Nat) (he : ws[q0]? = some (a, .inr (ci, fs))) (hc : vwCl[ci]? = some (y.cls, T, N)) (is : List Nat) (hi1 : va_nd is = true) (hi2 : is.filterMap (fun i => (wr ++ wc)[i]?) = ws) (hi3 : is.map (fun i => (wr ++ wc)[i]?) = ws.map some) : V K G cc own nL R k n pc lv (st0) ws := by
  subst hs0
  obtain ⟨p, l, e, s, m, args, below, meth, c, A, H0, Q⟩ := K
  obtain ⟨Qc, free, hQ, hlocks, hf, hno, hstt⟩ := hRX
  intro hX hK hH hE hA H locs ls hP hD hS hl
  subst hQ
  have hP' := hP.sub isC hP1
  have hD' := hD.sub isC hn hC
  have hF := va_free hD hS hA isC hC
  have hE' := ev_call (by rw [hH]; exact hE) hS hF
  refine w_afterX (vx_runV (C := y.cls) (b := a) (As := As) (rest := rest) (ws := Cond.code y b mL rt :: GT) hX (hM H.size) (cwV As.length hX.2.2.2.2 ?_ rfl rfl rfl ⟨rfl, hd⟩ hr) ⟨mt_blind, va_recv hK hP hc he, fun U hU hW => mt_pre hP' hD' hK hE' U hU hW⟩ rfl rfl hl.1 rfl (lv_room hst) d hks) hP hD hS hA isC isR hC hR hn2 hdis is hi1 hi2 hi3 (fun ce q9 H1 locs1 hP hD hS hce hcv hcl => ?_)
  · exact gt_cons h1 (gt_cons h2 (gt_cons h5 (gt_cons h3 (gt_cons h4 gt_self))))
  · subst hH
    exact vx_out (fun x hx => (hno x hx).elim) hlocks hce hcv hcl (fun t ht _ => ⟨rfl, by rw [ht]; exact hP, hD, hS.F ht⟩) (fun q z => hf _ (hS.2.2 q z)) hmc.1 hmc.2
/-! methods with a table of handlers -/
def MtH (l : Launch) (G : Gx) (y : MethodName) (b : ByteArray) (nL : Nat) (rt : Option FieldType) (hh : List (Nat × Nat × Nat × Nat)) (rm : Room) (av : List Value) (wc : va_W) (fin : Option Value → va_W → Prop) : Prop :=
  ∀ sz : Nat, Met l y (Cond.codeWith y b nL rt hh :: GT) rm (va_Pc av (fun U => U.heap.size = sz ∧ va_P G.1 vwCl wc U.heap ∧ va_K G.1 vwCl (tyl G) U ∧ va_D (fun _ => True) wc ∧ EV G (va_A wc sz) U U.heap)) (MtQ G fin wc sz) rm.cells rm.slots (va_A wc sz)
def Tb (K : Kx) (hh : List (Nat × Nat × Nat × Nat)) : Prop :=
  match K with
  | (_, _, _, _, _, _, _, _, c, _, _, _) => c.exceptionTable.toList = tableOf hh
theorem MtH.of {l : Launch} {G : Gx} {y : MethodName} {b : ByteArray} {nL : Nat} {rt : Option FieldType} {hh : List (Nat × Nat × Nat × Nat)} {rm : Room} {av : List Value} {wc : va_W} {fin : Option Value → va_W → Prop} (hy : plainName y.cls = true) (hlen : (lg_sl av).length ≤ nL)
    (body : ∀ K : Kx, K.2.1 = l → Tb K hh → Ret K G fin rt rm.cells rm.slots → V K G b y.cls nL rm 0 0 0 (lv_args 0 av) [] wc) : MtH l G y b nL rt hh rm av wc fin := by
  intro sz
  refine va_MetW (cc := b) (maxL := nL) (ret := rt) hy rfl ?_
  intro p e s m args below meth c s₁ B hml hv
  obtain ⟨rfl, hsz, hP, hK, hD0, hE⟩ := hv
  have hts := atoms_spec (ws := Cond.codeWith y b nL rt hh :: GT) B.pre
  have hown : s.vm.findClass y.cls = some m.cls := findClass_of_methodNamed B.named
  have htb := vx_table (x := y) B (hts _ List.mem_cons_self)
  subst hsz
  have hD := hD0.self (sz := s.heap.size)
  have hb := body (p, l, e, s, m, av.toArray, below, meth, c, va_A wc s.heap.size, s.heap, MQ below (MtQ G fin wc s.heap.size) av.toArray s rm.cells rm.slots (va_A wc s.heap.size)) rfl htb ⟨MtQ G fin wc s.heap.size, va_A wc s.heap.size, fun t h => h, B.returns, B.notSynchronized, fun q h => h, fun v w H locs t hf hP hD hS hK ht => ⟨⟨v, w, rfl, hf, by rw [ht]; exact hP, hK, hD⟩, hS.F ht⟩⟩
  rw [lg_entry_eq]
  exact hb ⟨B.exec, B.bytes, hml, hown, fun w h => hts w (List.mem_cons_of_mem _ h)⟩ hK rfl hE (fun q h => Or.inr h) s.heap [] _ hP hD va_S.rf (lv_entry av hlen)
theorem c_SH1 {k' n' : Nat} {st2 : List Value} {w1 ws2 : va_W} {v0 : Option Value} {hh : List (Nat × Nat × Nat × Nat)} (hM : MtH K.2.1 G y b mL rt hh rm As wc (D1 v0 w1)) (isC isR : List Nat) (d : decode cc pc = .ok (.invokestatic i, 3)) (h1 : Cond.methodLink own i y ∈ GT) (h2 : Cond.static y ∈ GT) (h3 : Cond.initialized y.cls ∈ GT) (h4 : Cond.codeWith y b mL rt hh ∈ GT) (hd : y.cls ≠ "java/lang/invoke/MethodHandle" ∧ y.cls ≠ "java/lang/invoke/VarHandle" ∧ (parseMethodDescriptor y.desc).map (fun d => d.parameters.length) = some As.length) (hr : rm.frames + 1 ≤ R.frames ∧ 8 + (mL + 11) + rm.locals ≤ R.locals) (hks : k + rm.cells ≤ R.cells ∧ n + rm.slots ≤ R.slots) (hkn : k + rm.cells = k' ∧ n + rm.slots = n') (hst : (rest.map fun v => v.category).sum ≤ 8) (hs0 : As.reverse ++ rest = st0) (hC : isC.map (fun i => ws[i]?) = wc.map some) (hR : isR.map (fun i => ws[i]?) = wr.map some) (hP1 : isC.filterMap (fun i => ws[i]?) = wc) (hn : va_nd isC = true) (hn2 : va_nd isR = true) (hdis : ∀ i ∈ isR, i ∉ isC) (is : List Nat) (hi1 : va_nd is = true) (hi2 : is.filterMap (fun i => (wr ++ w1)[i]?) = ws2) (hi3 : is.map (fun i => (wr ++ w1)[i]?) = ws2.map some) (hs2 : v0.toList ++ rest = st2) (kk : V K G cc own nL R k' n' (pc + 3) lv (st2) ws2) : V K G cc own nL R k n pc lv (st0) ws := by
  obtain ⟨hk1, hk2⟩ := hkn
  subst hk1; subst hk2; subst hs0; subst hs2
  obtain ⟨p, l, e, s, m, args, below, meth, c, A, H0, Q⟩ := K; intro hX hK hH hE hA H locs ls hP hD hS hl
  have hP' := hP.sub isC hP1
  have hD' := hD.sub isC hn hC
  have hF := va_free hD hS hA isC hC
  have hE' := ev_call (by rw [hH]; exact hE) hS hF
  refine w_after (vx_runSW (As := As) (rest := rest) (ws := Cond.codeWith y b mL rt hh :: GT) hX (hM H.size) (vx_cwSW As.length hX.2.2.2.2 ?_ rfl rfl rfl hd hr) ⟨mt_blind, fun U hU hW => mt_pre hP' hD' hK hE' U hU hW⟩ rfl rfl hl.1 rfl (lv_room hst) d hks) hP hD hS hA isC isR hC hR hn2 hdis (fun v w H1 locs1 hf hP hD hS => ?_)
  · exact gt_cons h1 (gt_cons h2 (gt_cons h3 (gt_cons h4 gt_self)))
  · obtain ⟨rfl, rfl⟩ := hf
    exact kk hX hK hH hE hA H1 locs1 ls (hP.sub is hi2) (hD.sub is hi1 hi3) hS hl
/-- a call that throws, caught in this method by the row x of its table -/
theorem c_VXC {k' n' : Nat} {a ci : Nat} {fs : List Value} {T : u_T} {N : Nat} {hh : List (Nat × Nat × Nat × Nat)} {name : String} (hTb : Tb K hh) (pre suf : List ExceptionTableEntry) (x : ExceptionTableEntry) (hsp : tableOf hh = pre ++ x :: suf) (hcov : covers x pc = true) (hpass : ∀ z ∈ pre, covers z pc = false ∨ (z.catchType ≠ 0 ∧ ∃ nm : String, Cond.classLink own z.catchType nm ∈ GT ∧ ∀ G A U H, EV G A U H → va_Nc E nm U)) (h0 : x.catchType ≠ 0) (hlink : Cond.classLink own x.catchType name ∈ GT) (hcast : Cond.castable E name ∈ lw_tbl)
    (hM : MtX K.2.1 G y b mL rt rm (Value.ref a :: As) wc E) (isC isR : List Nat) (d : decode cc pc = .ok (.invokevirtual i, 3)) (h1 : Cond.methodLink own i y ∈ GT) (h2 : Cond.instanceMethod y ∈ GT) (h3 : Cond.initialized y.cls ∈ GT) (h4 : Cond.code y b mL rt ∈ GT) (h5 : Cond.selects y.cls y y ∈ GT) (hd : y.cls ≠ "java/lang/invoke/MethodHandle" ∧ y.cls ≠ "java/lang/invoke/VarHandle" ∧ (parseMethodDescriptor y.desc).map (fun d => d.parameters.length) = some As.length) (hr : rm.frames + 1 ≤ R.frames ∧ 8 + (mL + 11) + rm.locals ≤ R.locals) (hks : k + rm.cells ≤ R.cells ∧ n + rm.slots ≤ R.slots) (hkn : k + rm.cells = k' ∧ n + rm.slots = n') (hst : (rest.map fun v => v.category).sum ≤ 8) (hs0 : As.reverse ++ .ref a :: rest = st0) (hC : isC.map (fun i => ws[i]?) = wc.map some) (hR : isR.map (fun i => ws[i]?) = wr.map some) (hP1 : isC.filterMap (fun i => ws[i]?) = wc) (hn : va_nd isC = true) (hn2 : va_nd isR = true) (hdis : ∀ i ∈ isR, i ∉ isC) (q0 : Nat) (he : ws[q0]? = some (a, .inr (ci, fs))) (hc : vwCl[ci]? = some (y.cls, T, N)) (is : List Nat) (hi1 : va_nd is = true) (hi2 : is.filterMap (fun i => (wr ++ wc)[i]?) = ws) (hi3 : is.map (fun i => (wr ++ wc)[i]?) = ws.map some)
    (kk : ∀ q9 : Nat, V K G cc own nL R k' n' x.handlerPc lv ([.ref q9]) ws) : V K G cc own nL R k n pc lv (st0) ws := by
  obtain ⟨hk1, hk2⟩ := hkn
  subst hk1; subst hk2; subst hs0
  obtain ⟨p, l, e, s, m, args, below, meth, c, A, H0, Q⟩ := K
  intro hX hK hH hE hA H locs ls hP hD hS hl
  have hP' := hP.sub isC hP1
  have hD' := hD.sub isC hn hC
  have hF := va_free hD hS hA isC hC
  have hE' := ev_call (by rw [hH]; exact hE) hS hF
  refine w_afterX (vx_runV (C := y.cls) (b := a) (As := As) (rest := rest) (ws := Cond.code y b mL rt :: GT) hX (hM H.size) (cwV As.length hX.2.2.2.2 ?_ rfl rfl rfl ⟨rfl, hd⟩ hr) ⟨mt_blind, va_recv hK hP hc he, fun U hU hW => mt_pre hP' hD' hK hE' U hU hW⟩ rfl rfl hl.1 rfl (lv_room hst) d hks) hP hD hS hA isC isR hC hR hn2 hdis is hi1 hi2 hi3 (fun ce q9 H1 locs1 hP hD hS hce hcv hcl => ?_)
  · exact gt_cons h1 (gt_cons h2 (gt_cons h5 (gt_cons h3 (gt_cons h4 gt_self))))
  · refine vx_catch (name := name) hX.2.2.2.1 pre x suf (Eq.trans hTb hsp) (fun z hz => ?_) hcov h0 (hX.2.2.2.2 _ hlink) (va_Nw.use rfl (hE.2.2.2.2.2.1 _ hcast rfl)) hce hcv hcl (kk q9 hX hK hH hE hA H1 locs1 ls hP hD hS hl)
    rcases hpass z hz with h | ⟨g1, nm, g2, g3⟩
    · exact Or.inl h
    · exact Or.inr ⟨g1, nm, hX.2.2.2.2 _ g2, g3 _ _ _ _ hE⟩
/-- a private constructor of a nest mate -/
theorem c_IN1 {k' n' : Nat} {α : Type} {v0 : α → Option Value} {w1 : α → va_W} {P : α → Prop} {ws2 : α → va_W} {a : Nat} {host : String} (hM : Mt K.2.1 G y b mL none rm (Value.ref a :: As) wc (E1 v0 w1 P)) (hnest : Cond.methodLinkNest own i y host ∈ lw_tbl) (isC isR : List Nat) (d : decode cc pc = .ok (.invokespecial i, 3)) (h2 : Cond.instanceMethod y ∈ GT) (h3 : Cond.initialized y.cls ∈ GT) (h4 : Cond.code y b mL none ∈ GT) (hy1 : y.name = "<init>") (hv0 : ∀ u, v0 u = none) (hd : y.cls ≠ "java/lang/invoke/MethodHandle" ∧ y.cls ≠ "java/lang/invoke/VarHandle" ∧ (parseMethodDescriptor y.desc).map (fun d => d.parameters.length) = some As.length) (hr : rm.frames + 1 ≤ R.frames ∧ 8 + (mL + 11) + rm.locals ≤ R.locals) (hks : k + rm.cells ≤ R.cells ∧ n + rm.slots ≤ R.slots) (hkn : k + rm.cells = k' ∧ n + rm.slots = n') (hst : (rest.map fun v => v.category).sum ≤ 8) (hs0 : As.reverse ++ .ref a :: rest = st0) (hC : isC.map (fun i => ws[i]?) = wc.map some) (hR : isR.map (fun i => ws[i]?) = wr.map some) (hP1 : isC.filterMap (fun i => ws[i]?) = wc) (hn : va_nd isC = true) (hn2 : va_nd isR = true) (hdis : ∀ i ∈ isR, i ∉ isC) (is : List Nat) (hi1 : va_nd is = true) (hi2 : ∀ u, is.filterMap (fun i => (wr ++ w1 u)[i]?) = ws2 u) (hi3 : ∀ u, is.map (fun i => (wr ++ w1 u)[i]?) = (ws2 u).map some) (kk : ∀ u, P u → V K G cc own nL R k' n' (pc + 3) lv (rest) (ws2 u)) : V K G cc own nL R k n pc lv (st0) ws := by
  obtain ⟨hk1, hk2⟩ := hkn
  subst hk1; subst hk2; subst hs0
  obtain ⟨p, l, e, s, m, args, below, meth, c, A, H0, Q⟩ := K; intro hX hK hH hE hA H locs ls hP hD hS hl
  have hP' := hP.sub isC hP1
  have hD' := hD.sub isC hn hC
  have hF := va_free hD hS hA isC hC
  have hE' := ev_call (by rw [hH]; exact hE) hS hF
  refine w_after (va_runIN (b := a) (As := As) (rest := rest) (ws := Cond.code y b mL none :: GT) hX (hM H.size) ⟨va_cnB As.length hX.2.2.2.2 ?_ rfl rfl rfl (hE.2.2.2.2.2.1 _ hnest rfl) (hX.2.2.2.2 _ h3) hd hr, hy1, hX.2.2.2.2 _ h2⟩ ⟨mt_blind, fun U hU hW => mt_pre hP' hD' hK hE' U hU hW⟩ rfl rfl hl.1 rfl (lv_room hst) d hks) hP hD hS hA isC isR hC hR hn2 hdis (fun v w H1 locs1 hf hP hD hS => ?_)
  · exact gt_cons h4 gt_self
  · obtain ⟨u, rfl, rfl, hp⟩ := hf
    rw [hv0 u]
    exact kk u hp hX hK hH hE hA H1 locs1 ls (hP.sub is (hi2 u)) (hD.sub is hi1 (hi3 u)) hS hl
end EX
