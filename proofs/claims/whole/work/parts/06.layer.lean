/-! V: the machine at a frame, with its world, locals and operand stack in the goal; Mt: a method's contract in these words -/
abbrev Gx : Type := va_G × (Nat → ClassId) × (Nat → Nat) × (Nat → Nat)
def tyl (G : Gx) : List (ClassId × FieldType) := [(G.2.1 0, .char), (G.2.1 1, .int), (G.2.1 2, .long), (G.2.1 3, .boolean)]

/-! what holds of the rest of the machine through the whole run: statics, string constants, words of the tables that stay -/
def lenJ : List Nat := [9, 4, 9]
def bytJ : List (List Int32) := [[116, 115, 112, 98, 108, 113, 109, 100, 102], [98, 116, 112, 115], [116, 115, 112, 98, 108, 113, 109, 100, 102]]
def strJ : List (String × Nat × String × Nat) := [("Sealhouse", 39, "tspblqmdf", 0), ("Sealhouse", 240, "btps", 1), ("SealhouseModel", 110, "tspblqmdf", 2), ("Sealhouse", 291, "no such register", 3), ("Sealhouse", 297, "out of range", 4), ("Sealhouse", 293, "no such compartment", 5), ("Sealhouse", 175, "the call at the depth 0 does not return", 6), ("Sealhouse", 295, "no such cell", 7), ("Sealhouse", 247, "no such question", 8), ("Sealhouse", 252, "the register holds a number", 9), ("Sealhouse", 257, "no such call", 10), ("Sealhouse", 269, "no such cause", 11)]
def isDC : Cond → Bool
  | .declares _ => true
  | .castable _ _ => true
  | .methodLinkNest .. => true
  | _ => false
def SF (G : Gx) (A : Nat → Prop) (U : State) (H : Heap) (i : Nat) : Prop := va_O "java/lang/String" (G.2.2.1 i) A U H ∧ va_OF "java/lang/String" "coder" "B" (.int 0) (G.2.2.1 i) A U H ∧ va_OF "java/lang/String" "value" "[B" (.ref (G.2.2.2 i)) (G.2.2.1 i) A U H ∧ va_T .byte (G.2.2.2 i) (lenJ.getD i 0) (fun j => .int ((bytJ.getD i []).getD j 0)) A U H
def EV (G : Gx) (A : Nat → Prop) (U : State) (H : Heap) : Prop :=
  (vx_Zq Bundle.tN "UNASSIGNED_STACK" Bundle.steD A U H ∧ vx_Zq Bundle.tN "SUPPRESSED_SENTINEL" Bundle.listD A U H) ∧ va_Zq "jdk/internal/util/Preconditions" "SIOOBE_FORMATTER" "Ljava/util/function/BiFunction;" A U H ∧ va_Z "java/lang/String" "COMPACT_STRINGS" "Z" (.int 1) A U H ∧ (∀ i, i < 3 → SF G A U H i) ∧ (∀ q ∈ strJ, vk_R q.1 q.2.1 q.2.2.1 (G.2.2.1 q.2.2.2) U) ∧ (∀ w ∈ lw_tbl, isDC w = true → va_Nw w U) ∧ (va_Nc "java/lang/IllegalArgumentException" "java/lang/IndexOutOfBoundsException" U ∧ va_Nc "java/util/NoSuchElementException" "java/lang/IndexOutOfBoundsException" U ∧ va_Nc "java/util/NoSuchElementException" "java/lang/IllegalArgumentException" U)
theorem isDC_warm {s U : State} (hW : s.WarmedH U.vm) : ∀ {w : Cond}, isDC w = true → va_Nw w s → va_Nw w U := by
  intro w hw h
  cases w <;> first | exact absurd hw (by decide) | exact va_Nw.warmD hW h | exact va_Nw.warmC hW h | exact va_Nw.warmM hW h | (simp [isDC] at hw)
theorem isDC_on : ∀ {w : Cond}, isDC w = true → w.onTables = true := by
  intro w hw
  cases w <;> first | rfl | (simp [isDC] at hw)
theorem EV.warm {G : Gx} {A : Nat → Prop} {s U : State} {H : Heap} (hW : s.WarmedH U.vm) (h : EV G A s H) : EV G A U H :=
  ⟨⟨h.1.1.moved hW.alike, h.1.2.moved hW.alike⟩, va_Zq.moved hW.alike h.2.1, va_Z.moved hW.alike h.2.2.1, fun i hi => ⟨va_O.moved hW.alike (h.2.2.2.1 i hi).1, va_OF.moved hW.alike (h.2.2.2.1 i hi).2.1, va_OF.moved hW.alike (h.2.2.2.1 i hi).2.2.1, va_T.moved hW.alike (h.2.2.2.1 i hi).2.2.2⟩, fun q hq => vk_R.warm hW (h.2.2.2.2.1 q hq), fun w hw hd => isDC_warm hW hd (h.2.2.2.2.2.1 w hw hd), (h.2.2.2.2.2.2.1).moved hW.alike, (h.2.2.2.2.2.2.2.1).moved hW.alike, (h.2.2.2.2.2.2.2.2).moved hW.alike⟩
theorem EV.same {G : Gx} {A : Nat → Prop} {u U : State} {H : Heap} (hv : U.vm = u.vm) (h : EV G A u H) : EV G A U H := by
  have ha : u.vm.Alike U.vm := by rw [hv]; exact Vm.Alike.refl _
  exact ⟨⟨h.1.1.moved ha, h.1.2.moved ha⟩, va_Zq.moved ha h.2.1, va_Z.moved ha h.2.2.1, fun i hi => ⟨va_O.moved ha (h.2.2.2.1 i hi).1, va_OF.moved ha (h.2.2.2.1 i hi).2.1, va_OF.moved ha (h.2.2.2.1 i hi).2.2.1, va_T.moved ha (h.2.2.2.1 i hi).2.2.2⟩, fun q hq => vk_R.same hv (h.2.2.2.2.1 q hq), fun w hw hd => va_Nw.same (isDC_on hd) hv.symm (h.2.2.2.2.2.1 w hw hd), (h.2.2.2.2.2.2.1).moved ha, (h.2.2.2.2.2.2.2.1).moved ha, (h.2.2.2.2.2.2.2.2).moved ha⟩
theorem EV.kept {G : Gx} {A : Nat → Prop} {U : State} {H H1 : Heap} (h : EV G A U H) (hq : ∀ a : Nat, a < H.size → ¬ A a → H1[a]? = H[a]?) : EV G A U H1 :=
  ⟨⟨h.1.1.kept hq, h.1.2.kept hq⟩, va_Zq.kept h.2.1 hq, va_Z.kept h.2.2.1 hq, fun i hi => ⟨(h.2.2.2.1 i hi).1.kept hq, (h.2.2.2.1 i hi).2.1.kept hq, (h.2.2.2.1 i hi).2.2.1.kept hq, (h.2.2.2.1 i hi).2.2.2.kept hq⟩, h.2.2.2.2⟩
theorem EV.narrow {G : Gx} {A B : Nat → Prop} {U : State} {H : Heap} (h : EV G A U H) (hAB : ∀ q, B q → A q) : EV G B U H :=
  ⟨⟨h.1.1.narrow hAB, h.1.2.narrow hAB⟩, va_Zq.narrow h.2.1 hAB, va_Z.narrow h.2.2.1 hAB, fun i hi => ⟨(h.2.2.2.1 i hi).1.narrow hAB, (h.2.2.2.1 i hi).2.1.narrow hAB, (h.2.2.2.1 i hi).2.2.1.narrow hAB, (h.2.2.2.1 i hi).2.2.2.narrow hAB⟩, h.2.2.2.2⟩

abbrev Kx : Type := Program × Launch × Env × State × MethodId × Array Value × List Frame × Method × Code × (Nat → Prop) × Heap × (State → Prop)
def V (K : Kx) (G : Gx) (cc : ByteArray) (own : String) (nL : Nat) (R : Room) (k n pc : Nat) (lv : List (Nat × Value)) (st : List Value) (ws : va_W) : Prop :=
  match K with
  | (p, l, e, s, m, args, below, meth, c, A, H0, Q) => CallFix p m c cc nL s args GT own → va_K G.1 vwCl (tyl G) s → H0 = s.heap → EV G A s s.heap → (∀ q, H0.size ≤ q → A q) → ∀ (H : Heap) (locs : List Loc) (ls : Array Slot), va_P G.1 vwCl ws H → va_D A ws → va_S A H0 H locs → lv_has ls nL lv → W p l e R s m args below meth c H locs k n Q (F0 m pc ls st)
section VL
variable {K : Kx} {G : Gx} {cc : ByteArray} {own : String} {nL : Nat} {R : Room} {k n pc : Nat} {lv lv' : List (Nat × Value)} {rest : List Value} {ws ws' : va_W}

theorem v_iconst {i : Int} {v : Int32} (d : decode cc pc = .ok (.iconst i, 1)) (hv : Int32.ofInt i = v) (kk : V K G cc own nL R k n (pc + 1) lv (.int v :: rest) ws) : V K G cc own nL R k n pc lv rest ws := by
  obtain ⟨p, l, e, s, m, args, below, meth, c, A, H0, Q⟩ := K; intro hC hK hH hE hA H locs ls hP hD hS hl
  exact lv_iconst hC.1 hC.2.1 d hv (kk hC hK hH hE hA H locs ls hP hD hS hl)
theorem v_bipush {i : Int} {v : Int32} (d : decode cc pc = .ok (.bipush i, 2)) (hv : (Int8.ofInt i).toInt32 = v) (kk : V K G cc own nL R k n (pc + 2) lv (.int v :: rest) ws) : V K G cc own nL R k n pc lv rest ws := by
  obtain ⟨p, l, e, s, m, args, below, meth, c, A, H0, Q⟩ := K; intro hC hK hH hE hA H locs ls hP hD hS hl
  exact lv_bipush hC.1 hC.2.1 d hv (kk hC hK hH hE hA H locs ls hP hD hS hl)
theorem v_sipush {i : Int} {v : Int32} (d : decode cc pc = .ok (.sipush i, 3)) (hv : (Int16.ofInt i).toInt32 = v) (kk : V K G cc own nL R k n (pc + 3) lv (.int v :: rest) ws) : V K G cc own nL R k n pc lv rest ws := by
  obtain ⟨p, l, e, s, m, args, below, meth, c, A, H0, Q⟩ := K; intro hC hK hH hE hA H locs ls hP hD hS hl
  exact lv_sipush hC.1 hC.2.1 d hv (kk hC hK hH hE hA H locs ls hP hD hS hl)
theorem v_lconst {i : Fin 2} {v : Int64} (d : decode cc pc = .ok (.lconst i, 1)) (hv : Int64.ofNat (i : Nat) = v) (kk : V K G cc own nL R k n (pc + 1) lv (.long v :: rest) ws) : V K G cc own nL R k n pc lv rest ws := by
  obtain ⟨p, l, e, s, m, args, below, meth, c, A, H0, Q⟩ := K; intro hC hK hH hE hA H locs ls hP hD hS hl
  exact lv_lconst hC.1 hC.2.1 d hv (kk hC hK hH hE hA H locs ls hP hD hS hl)
theorem v_iload_n {q : Fin 4} {i : Nat} {x : Int32} (d : decode cc pc = .ok (.iload_n q, 1)) (hi : (q : Nat) = i) (j : Nat) (h : lv[j]? = some (i, .int x)) (kk : V K G cc own nL R k n (pc + 1) lv (.int x :: rest) ws) : V K G cc own nL R k n pc lv rest ws := by
  obtain ⟨p, l, e, s, m, args, below, meth, c, A, H0, Q⟩ := K; intro hC hK hH hE hA H locs ls hP hD hS hl
  exact lv_iload_n hC.1 hC.2.1 d hi (lv_at hl j h) (kk hC hK hH hE hA H locs ls hP hD hS hl)
theorem v_iload {i : Nat} {x : Int32} (d : decode cc pc = .ok (.iload i, 2)) (j : Nat) (h : lv[j]? = some (i, .int x)) (kk : V K G cc own nL R k n (pc + 2) lv (.int x :: rest) ws) : V K G cc own nL R k n pc lv rest ws := by
  obtain ⟨p, l, e, s, m, args, below, meth, c, A, H0, Q⟩ := K; intro hC hK hH hE hA H locs ls hP hD hS hl
  exact lv_iload hC.1 hC.2.1 d (lv_at hl j h) (kk hC hK hH hE hA H locs ls hP hD hS hl)
theorem v_lload_n {q : Fin 4} {i : Nat} {x : Int64} (d : decode cc pc = .ok (.lload_n q, 1)) (hi : (q : Nat) = i) (j : Nat) (h : lv[j]? = some (i, .long x)) (kk : V K G cc own nL R k n (pc + 1) lv (.long x :: rest) ws) : V K G cc own nL R k n pc lv rest ws := by
  obtain ⟨p, l, e, s, m, args, below, meth, c, A, H0, Q⟩ := K; intro hC hK hH hE hA H locs ls hP hD hS hl
  exact lv_lload_n hC.1 hC.2.1 d hi (lv_at hl j h) (kk hC hK hH hE hA H locs ls hP hD hS hl)
theorem v_lload {i : Nat} {x : Int64} (d : decode cc pc = .ok (.lload i, 2)) (j : Nat) (h : lv[j]? = some (i, .long x)) (kk : V K G cc own nL R k n (pc + 2) lv (.long x :: rest) ws) : V K G cc own nL R k n pc lv rest ws := by
  obtain ⟨p, l, e, s, m, args, below, meth, c, A, H0, Q⟩ := K; intro hC hK hH hE hA H locs ls hP hD hS hl
  exact lv_lload hC.1 hC.2.1 d (lv_at hl j h) (kk hC hK hH hE hA H locs ls hP hD hS hl)
theorem v_aload_n {q : Fin 4} {i : Nat} {x : Nat} (d : decode cc pc = .ok (.aload_n q, 1)) (hi : (q : Nat) = i) (j : Nat) (h : lv[j]? = some (i, .ref x)) (kk : V K G cc own nL R k n (pc + 1) lv (.ref x :: rest) ws) : V K G cc own nL R k n pc lv rest ws := by
  obtain ⟨p, l, e, s, m, args, below, meth, c, A, H0, Q⟩ := K; intro hC hK hH hE hA H locs ls hP hD hS hl
  exact lv_aload_n hC.1 hC.2.1 d hi (lv_at hl j h) (kk hC hK hH hE hA H locs ls hP hD hS hl)
theorem v_aload {i : Nat} {x : Nat} (d : decode cc pc = .ok (.aload i, 2)) (j : Nat) (h : lv[j]? = some (i, .ref x)) (kk : V K G cc own nL R k n (pc + 2) lv (.ref x :: rest) ws) : V K G cc own nL R k n pc lv rest ws := by
  obtain ⟨p, l, e, s, m, args, below, meth, c, A, H0, Q⟩ := K; intro hC hK hH hE hA H locs ls hP hD hS hl
  exact lv_aload hC.1 hC.2.1 d (lv_at hl j h) (kk hC hK hH hE hA H locs ls hP hD hS hl)
theorem v_dload_n {q : Fin 4} {i : Nat} {x : UInt64} (d : decode cc pc = .ok (.dload_n q, 1)) (hi : (q : Nat) = i) (j : Nat) (h : lv[j]? = some (i, .double x)) (kk : V K G cc own nL R k n (pc + 1) lv (.double x :: rest) ws) : V K G cc own nL R k n pc lv rest ws := by
  obtain ⟨p, l, e, s, m, args, below, meth, c, A, H0, Q⟩ := K; intro hC hK hH hE hA H locs ls hP hD hS hl
  exact lv_dload_n hC.1 hC.2.1 d hi (lv_at hl j h) (kk hC hK hH hE hA H locs ls hP hD hS hl)
theorem v_dload {i : Nat} {x : UInt64} (d : decode cc pc = .ok (.dload i, 2)) (j : Nat) (h : lv[j]? = some (i, .double x)) (kk : V K G cc own nL R k n (pc + 2) lv (.double x :: rest) ws) : V K G cc own nL R k n pc lv rest ws := by
  obtain ⟨p, l, e, s, m, args, below, meth, c, A, H0, Q⟩ := K; intro hC hK hH hE hA H locs ls hP hD hS hl
  exact lv_dload hC.1 hC.2.1 d (lv_at hl j h) (kk hC hK hH hE hA H locs ls hP hD hS hl)
theorem v_istore_n {q : Fin 4} {i : Nat} {x : Int32} (d : decode cc pc = .ok (.istore_n q, 1)) (hi : (q : Nat) = i) (hn : i < nL) (h : (i, Value.int x) :: lv.filter (fun q => !(q.1 == i) && !(q.1 + 1 == i && q.2.category == 2)) = lv') (kk : V K G cc own nL R k n (pc + 1) lv' rest ws) : V K G cc own nL R k n pc lv (.int x :: rest) ws := by
  obtain ⟨p, l, e, s, m, args, below, meth, c, A, H0, Q⟩ := K; intro hC hK hH hE hA H locs ls hP hD hS hl
  exact lv_istore_n hC.1 hC.2.1 d hi hl hn h (fun ls hl => kk hC hK hH hE hA H locs ls hP hD hS hl)
theorem v_istore  {i : Nat} {x : Int32} (d : decode cc pc = .ok (.istore i, 2))  (hn : i < nL) (h : (i, Value.int x) :: lv.filter (fun q => !(q.1 == i) && !(q.1 + 1 == i && q.2.category == 2)) = lv') (kk : V K G cc own nL R k n (pc + 2) lv' rest ws) : V K G cc own nL R k n pc lv (.int x :: rest) ws := by
  obtain ⟨p, l, e, s, m, args, below, meth, c, A, H0, Q⟩ := K; intro hC hK hH hE hA H locs ls hP hD hS hl
  exact lv_istore hC.1 hC.2.1 d  hl hn h (fun ls hl => kk hC hK hH hE hA H locs ls hP hD hS hl)
theorem v_lstore_n {q : Fin 4} {i : Nat} {x : Int64} (d : decode cc pc = .ok (.lstore_n q, 1)) (hi : (q : Nat) = i) (hn : i + 1 < nL) (h : (i, Value.long x) :: lv.filter (fun q => !(q.1 == i) && (!(q.1 == i + 1) && !(q.1 + 1 == i && q.2.category == 2))) = lv') (kk : V K G cc own nL R k n (pc + 1) lv' rest ws) : V K G cc own nL R k n pc lv (.long x :: rest) ws := by
  obtain ⟨p, l, e, s, m, args, below, meth, c, A, H0, Q⟩ := K; intro hC hK hH hE hA H locs ls hP hD hS hl
  exact lv_lstore_n hC.1 hC.2.1 d hi hl hn h (fun ls hl => kk hC hK hH hE hA H locs ls hP hD hS hl)
theorem v_lstore  {i : Nat} {x : Int64} (d : decode cc pc = .ok (.lstore i, 2))  (hn : i + 1 < nL) (h : (i, Value.long x) :: lv.filter (fun q => !(q.1 == i) && (!(q.1 == i + 1) && !(q.1 + 1 == i && q.2.category == 2))) = lv') (kk : V K G cc own nL R k n (pc + 2) lv' rest ws) : V K G cc own nL R k n pc lv (.long x :: rest) ws := by
  obtain ⟨p, l, e, s, m, args, below, meth, c, A, H0, Q⟩ := K; intro hC hK hH hE hA H locs ls hP hD hS hl
  exact lv_lstore hC.1 hC.2.1 d  hl hn h (fun ls hl => kk hC hK hH hE hA H locs ls hP hD hS hl)
theorem v_astore_n {q : Fin 4} {i : Nat} {x : Nat} (d : decode cc pc = .ok (.astore_n q, 1)) (hi : (q : Nat) = i) (hn : i < nL) (h : (i, Value.ref x) :: lv.filter (fun q => !(q.1 == i) && !(q.1 + 1 == i && q.2.category == 2)) = lv') (kk : V K G cc own nL R k n (pc + 1) lv' rest ws) : V K G cc own nL R k n pc lv (.ref x :: rest) ws := by
  obtain ⟨p, l, e, s, m, args, below, meth, c, A, H0, Q⟩ := K; intro hC hK hH hE hA H locs ls hP hD hS hl
  exact lv_astore_n hC.1 hC.2.1 d hi hl hn h (fun ls hl => kk hC hK hH hE hA H locs ls hP hD hS hl)
theorem v_astore  {i : Nat} {x : Nat} (d : decode cc pc = .ok (.astore i, 2))  (hn : i < nL) (h : (i, Value.ref x) :: lv.filter (fun q => !(q.1 == i) && !(q.1 + 1 == i && q.2.category == 2)) = lv') (kk : V K G cc own nL R k n (pc + 2) lv' rest ws) : V K G cc own nL R k n pc lv (.ref x :: rest) ws := by
  obtain ⟨p, l, e, s, m, args, below, meth, c, A, H0, Q⟩ := K; intro hC hK hH hE hA H locs ls hP hD hS hl
  exact lv_astore hC.1 hC.2.1 d  hl hn h (fun ls hl => kk hC hK hH hE hA H locs ls hP hD hS hl)
theorem v_dstore_n {q : Fin 4} {i : Nat} {x : UInt64} (d : decode cc pc = .ok (.dstore_n q, 1)) (hi : (q : Nat) = i) (hn : i + 1 < nL) (h : (i, Value.double x) :: lv.filter (fun q => !(q.1 == i) && (!(q.1 == i + 1) && !(q.1 + 1 == i && q.2.category == 2))) = lv') (kk : V K G cc own nL R k n (pc + 1) lv' rest ws) : V K G cc own nL R k n pc lv (.double x :: rest) ws := by
  obtain ⟨p, l, e, s, m, args, below, meth, c, A, H0, Q⟩ := K; intro hC hK hH hE hA H locs ls hP hD hS hl
  exact lv_dstore_n hC.1 hC.2.1 d hi hl hn h (fun ls hl => kk hC hK hH hE hA H locs ls hP hD hS hl)
theorem v_dstore  {i : Nat} {x : UInt64} (d : decode cc pc = .ok (.dstore i, 2))  (hn : i + 1 < nL) (h : (i, Value.double x) :: lv.filter (fun q => !(q.1 == i) && (!(q.1 == i + 1) && !(q.1 + 1 == i && q.2.category == 2))) = lv') (kk : V K G cc own nL R k n (pc + 2) lv' rest ws) : V K G cc own nL R k n pc lv (.double x :: rest) ws := by
  obtain ⟨p, l, e, s, m, args, below, meth, c, A, H0, Q⟩ := K; intro hC hK hH hE hA H locs ls hP hD hS hl
  exact lv_dstore hC.1 hC.2.1 d  hl hn h (fun ls hl => kk hC hK hH hE hA H locs ls hP hD hS hl)
theorem v_iinc {i : Nat} {z : Int} {x v : Int32} (d : decode cc pc = .ok (.iinc i z, 3)) (j : Nat) (hj : lv[j]? = some (i, .int x)) (hv : x + Int32.ofInt z = v) (hn : i < nL) (h : (i, Value.int v) :: lv.filter (fun q => !(q.1 == i) && !(q.1 + 1 == i && q.2.category == 2)) = lv') (kk : V K G cc own nL R k n (pc + 3) lv' rest ws) : V K G cc own nL R k n pc lv rest ws := by
  obtain ⟨p, l, e, s, m, args, below, meth, c, A, H0, Q⟩ := K; intro hC hK hH hE hA H locs ls hP hD hS hl
  exact lv_iinc hC.1 hC.2.1 d hl hj hv hn h (fun ls hl => kk hC hK hH hE hA H locs ls hP hD hS hl)
theorem v_iadd {x y : Int32} (d : decode cc pc = .ok (.iadd, 1))  (kk : V K G cc own nL R k n (pc + 1) lv (.int (x + y) :: rest) ws) : V K G cc own nL R k n pc lv (.int y :: .int x :: rest) ws := by
  obtain ⟨p, l, e, s, m, args, below, meth, c, A, H0, Q⟩ := K; intro hC hK hH hE hA H locs ls hP hD hS hl
  exact lv_iadd hC.1 hC.2.1 d (kk hC hK hH hE hA H locs ls hP hD hS hl)
theorem v_isub {x y : Int32} (d : decode cc pc = .ok (.isub, 1))  (kk : V K G cc own nL R k n (pc + 1) lv (.int (x - y) :: rest) ws) : V K G cc own nL R k n pc lv (.int y :: .int x :: rest) ws := by
  obtain ⟨p, l, e, s, m, args, below, meth, c, A, H0, Q⟩ := K; intro hC hK hH hE hA H locs ls hP hD hS hl
  exact lv_isub hC.1 hC.2.1 d (kk hC hK hH hE hA H locs ls hP hD hS hl)
theorem v_imul {x y : Int32} (d : decode cc pc = .ok (.imul, 1))  (kk : V K G cc own nL R k n (pc + 1) lv (.int (x * y) :: rest) ws) : V K G cc own nL R k n pc lv (.int y :: .int x :: rest) ws := by
  obtain ⟨p, l, e, s, m, args, below, meth, c, A, H0, Q⟩ := K; intro hC hK hH hE hA H locs ls hP hD hS hl
  exact lv_imul hC.1 hC.2.1 d (kk hC hK hH hE hA H locs ls hP hD hS hl)
theorem v_iand {x y : Int32} (d : decode cc pc = .ok (.iand, 1))  (kk : V K G cc own nL R k n (pc + 1) lv (.int (x &&& y) :: rest) ws) : V K G cc own nL R k n pc lv (.int y :: .int x :: rest) ws := by
  obtain ⟨p, l, e, s, m, args, below, meth, c, A, H0, Q⟩ := K; intro hC hK hH hE hA H locs ls hP hD hS hl
  exact lv_iand hC.1 hC.2.1 d (kk hC hK hH hE hA H locs ls hP hD hS hl)
theorem v_ior {x y : Int32} (d : decode cc pc = .ok (.ior, 1))  (kk : V K G cc own nL R k n (pc + 1) lv (.int (x ||| y) :: rest) ws) : V K G cc own nL R k n pc lv (.int y :: .int x :: rest) ws := by
  obtain ⟨p, l, e, s, m, args, below, meth, c, A, H0, Q⟩ := K; intro hC hK hH hE hA H locs ls hP hD hS hl
  exact lv_ior hC.1 hC.2.1 d (kk hC hK hH hE hA H locs ls hP hD hS hl)
theorem v_ixor {x y : Int32} (d : decode cc pc = .ok (.ixor, 1))  (kk : V K G cc own nL R k n (pc + 1) lv (.int (x ^^^ y) :: rest) ws) : V K G cc own nL R k n pc lv (.int y :: .int x :: rest) ws := by
  obtain ⟨p, l, e, s, m, args, below, meth, c, A, H0, Q⟩ := K; intro hC hK hH hE hA H locs ls hP hD hS hl
  exact lv_ixor hC.1 hC.2.1 d (kk hC hK hH hE hA H locs ls hP hD hS hl)
theorem v_ishr {x y : Int32} (d : decode cc pc = .ok (.ishr, 1))  (kk : V K G cc own nL R k n (pc + 1) lv (.int (x >>> (y &&& 31)) :: rest) ws) : V K G cc own nL R k n pc lv (.int y :: .int x :: rest) ws := by
  obtain ⟨p, l, e, s, m, args, below, meth, c, A, H0, Q⟩ := K; intro hC hK hH hE hA H locs ls hP hD hS hl
  exact lv_ishr hC.1 hC.2.1 d (kk hC hK hH hE hA H locs ls hP hD hS hl)
theorem v_idiv {x y : Int32} (d : decode cc pc = .ok (.idiv, 1)) (hne : ¬ y = 0) (kk : V K G cc own nL R k n (pc + 1) lv (.int (x / y) :: rest) ws) : V K G cc own nL R k n pc lv (.int y :: .int x :: rest) ws := by
  obtain ⟨p, l, e, s, m, args, below, meth, c, A, H0, Q⟩ := K; intro hC hK hH hE hA H locs ls hP hD hS hl
  exact lv_idiv hC.1 hC.2.1 d hne (kk hC hK hH hE hA H locs ls hP hD hS hl)
theorem v_ineg {x : Int32} (d : decode cc pc = .ok (.ineg, 1))  (kk : V K G cc own nL R k n (pc + 1) lv (.int (-x) :: rest) ws) : V K G cc own nL R k n pc lv (.int x :: rest) ws := by
  obtain ⟨p, l, e, s, m, args, below, meth, c, A, H0, Q⟩ := K; intro hC hK hH hE hA H locs ls hP hD hS hl
  exact lv_ineg hC.1 hC.2.1 d (kk hC hK hH hE hA H locs ls hP hD hS hl)
theorem v_ladd {x y : Int64} (d : decode cc pc = .ok (.ladd, 1))  (kk : V K G cc own nL R k n (pc + 1) lv (.long (x + y) :: rest) ws) : V K G cc own nL R k n pc lv (.long y :: .long x :: rest) ws := by
  obtain ⟨p, l, e, s, m, args, below, meth, c, A, H0, Q⟩ := K; intro hC hK hH hE hA H locs ls hP hD hS hl
  exact lv_ladd hC.1 hC.2.1 d (kk hC hK hH hE hA H locs ls hP hD hS hl)
theorem v_lsub {x y : Int64} (d : decode cc pc = .ok (.lsub, 1))  (kk : V K G cc own nL R k n (pc + 1) lv (.long (x - y) :: rest) ws) : V K G cc own nL R k n pc lv (.long y :: .long x :: rest) ws := by
  obtain ⟨p, l, e, s, m, args, below, meth, c, A, H0, Q⟩ := K; intro hC hK hH hE hA H locs ls hP hD hS hl
  exact lv_lsub hC.1 hC.2.1 d (kk hC hK hH hE hA H locs ls hP hD hS hl)
theorem v_lmul {x y : Int64} (d : decode cc pc = .ok (.lmul, 1))  (kk : V K G cc own nL R k n (pc + 1) lv (.long (x * y) :: rest) ws) : V K G cc own nL R k n pc lv (.long y :: .long x :: rest) ws := by
  obtain ⟨p, l, e, s, m, args, below, meth, c, A, H0, Q⟩ := K; intro hC hK hH hE hA H locs ls hP hD hS hl
  exact lv_lmul hC.1 hC.2.1 d (kk hC hK hH hE hA H locs ls hP hD hS hl)
theorem v_land {x y : Int64} (d : decode cc pc = .ok (.land, 1))  (kk : V K G cc own nL R k n (pc + 1) lv (.long (x &&& y) :: rest) ws) : V K G cc own nL R k n pc lv (.long y :: .long x :: rest) ws := by
  obtain ⟨p, l, e, s, m, args, below, meth, c, A, H0, Q⟩ := K; intro hC hK hH hE hA H locs ls hP hD hS hl
  exact lv_land hC.1 hC.2.1 d (kk hC hK hH hE hA H locs ls hP hD hS hl)
theorem v_lor {x y : Int64} (d : decode cc pc = .ok (.lor, 1))  (kk : V K G cc own nL R k n (pc + 1) lv (.long (x ||| y) :: rest) ws) : V K G cc own nL R k n pc lv (.long y :: .long x :: rest) ws := by
  obtain ⟨p, l, e, s, m, args, below, meth, c, A, H0, Q⟩ := K; intro hC hK hH hE hA H locs ls hP hD hS hl
  exact lv_lor hC.1 hC.2.1 d (kk hC hK hH hE hA H locs ls hP hD hS hl)
theorem v_lxor {x y : Int64} (d : decode cc pc = .ok (.lxor, 1))  (kk : V K G cc own nL R k n (pc + 1) lv (.long (x ^^^ y) :: rest) ws) : V K G cc own nL R k n pc lv (.long y :: .long x :: rest) ws := by
  obtain ⟨p, l, e, s, m, args, below, meth, c, A, H0, Q⟩ := K; intro hC hK hH hE hA H locs ls hP hD hS hl
  exact lv_lxor hC.1 hC.2.1 d (kk hC hK hH hE hA H locs ls hP hD hS hl)
theorem v_lshl {x : Int64} {y : Int32} (d : decode cc pc = .ok (.lshl, 1))  (kk : V K G cc own nL R k n (pc + 1) lv (.long (x <<< (y.toInt64 &&& 63)) :: rest) ws) : V K G cc own nL R k n pc lv (.int y :: .long x :: rest) ws := by
  obtain ⟨p, l, e, s, m, args, below, meth, c, A, H0, Q⟩ := K; intro hC hK hH hE hA H locs ls hP hD hS hl
  exact lv_lshl hC.1 hC.2.1 d rfl (kk hC hK hH hE hA H locs ls hP hD hS hl)
theorem v_lshr {x : Int64} {y : Int32} (d : decode cc pc = .ok (.lshr, 1))  (kk : V K G cc own nL R k n (pc + 1) lv (.long (x >>> (y.toInt64 &&& 63)) :: rest) ws) : V K G cc own nL R k n pc lv (.int y :: .long x :: rest) ws := by
  obtain ⟨p, l, e, s, m, args, below, meth, c, A, H0, Q⟩ := K; intro hC hK hH hE hA H locs ls hP hD hS hl
  exact lv_lshr hC.1 hC.2.1 d rfl (kk hC hK hH hE hA H locs ls hP hD hS hl)
theorem v_lushr {x : Int64} {y : Int32} (d : decode cc pc = .ok (.lushr, 1))  (kk : V K G cc own nL R k n (pc + 1) lv (.long ((x.toUInt64 >>> (y.toInt64.toUInt64 &&& Int64.toUInt64 63)).toInt64) :: rest) ws) : V K G cc own nL R k n pc lv (.int y :: .long x :: rest) ws := by
  obtain ⟨p, l, e, s, m, args, below, meth, c, A, H0, Q⟩ := K; intro hC hK hH hE hA H locs ls hP hD hS hl
  exact lv_lushr hC.1 hC.2.1 d rfl (kk hC hK hH hE hA H locs ls hP hD hS hl)
theorem v_i2l {x : Int32} (d : decode cc pc = .ok (.i2l, 1))  (kk : V K G cc own nL R k n (pc + 1) lv (.long x.toInt64 :: rest) ws) : V K G cc own nL R k n pc lv (.int x :: rest) ws := by
  obtain ⟨p, l, e, s, m, args, below, meth, c, A, H0, Q⟩ := K; intro hC hK hH hE hA H locs ls hP hD hS hl
  exact lv_i2l hC.1 hC.2.1 d rfl (kk hC hK hH hE hA H locs ls hP hD hS hl)
theorem v_l2i {x : Int64} (d : decode cc pc = .ok (.l2i, 1))  (kk : V K G cc own nL R k n (pc + 1) lv (.int x.toInt32 :: rest) ws) : V K G cc own nL R k n pc lv (.long x :: rest) ws := by
  obtain ⟨p, l, e, s, m, args, below, meth, c, A, H0, Q⟩ := K; intro hC hK hH hE hA H locs ls hP hD hS hl
  exact lv_l2i hC.1 hC.2.1 d rfl (kk hC hK hH hE hA H locs ls hP hD hS hl)
theorem v_i2c {x : Int32} (d : decode cc pc = .ok (.i2c, 1))  (kk : V K G cc own nL R k n (pc + 1) lv (.int (x.toUInt32 % 65536).toInt32 :: rest) ws) : V K G cc own nL R k n pc lv (.int x :: rest) ws := by
  obtain ⟨p, l, e, s, m, args, below, meth, c, A, H0, Q⟩ := K; intro hC hK hH hE hA H locs ls hP hD hS hl
  exact lv_i2c hC.1 hC.2.1 d rfl (kk hC hK hH hE hA H locs ls hP hD hS hl)
theorem v_i2f {x : Int32} (d : decode cc pc = .ok (.i2f, 1))  (kk : V K G cc own nL R k n (pc + 1) lv (.float (FP.i2f x) :: rest) ws) : V K G cc own nL R k n pc lv (.int x :: rest) ws := by
  obtain ⟨p, l, e, s, m, args, below, meth, c, A, H0, Q⟩ := K; intro hC hK hH hE hA H locs ls hP hD hS hl
  exact lv_i2f hC.1 hC.2.1 d (kk hC hK hH hE hA H locs ls hP hD hS hl)
theorem v_i2d {x : Int32} (d : decode cc pc = .ok (.i2d, 1))  (kk : V K G cc own nL R k n (pc + 1) lv (.double (FP.i2d x) :: rest) ws) : V K G cc own nL R k n pc lv (.int x :: rest) ws := by
  obtain ⟨p, l, e, s, m, args, below, meth, c, A, H0, Q⟩ := K; intro hC hK hH hE hA H locs ls hP hD hS hl
  exact lv_i2d hC.1 hC.2.1 d (kk hC hK hH hE hA H locs ls hP hD hS hl)
theorem v_fdiv {x y : UInt32} (d : decode cc pc = .ok (.fdiv, 1)) (hne : vf_n32 (FP.fdiv x y)) (kk : V K G cc own nL R k n (pc + 1) lv (.float (FP.fdiv x y) :: rest) ws) : V K G cc own nL R k n pc lv (.float y :: .float x :: rest) ws := by
  obtain ⟨p, l, e, s, m, args, below, meth, c, A, H0, Q⟩ := K; intro hC hK hH hE hA H locs ls hP hD hS hl
  exact lv_fdiv hC.1 hC.2.1 d hne (kk hC hK hH hE hA H locs ls hP hD hS hl)
theorem v_ddiv {x y : UInt64} (d : decode cc pc = .ok (.ddiv, 1)) (hne : vf_n64 (FP.ddiv x y)) (kk : V K G cc own nL R k n (pc + 1) lv (.double (FP.ddiv x y) :: rest) ws) : V K G cc own nL R k n pc lv (.double y :: .double x :: rest) ws := by
  obtain ⟨p, l, e, s, m, args, below, meth, c, A, H0, Q⟩ := K; intro hC hK hH hE hA H locs ls hP hD hS hl
  exact lv_ddiv hC.1 hC.2.1 d hne (kk hC hK hH hE hA H locs ls hP hD hS hl)
theorem v_f2d {x : UInt32} (d : decode cc pc = .ok (.f2d, 1)) (hne : vf_n64 (FP.f2d x)) (kk : V K G cc own nL R k n (pc + 1) lv (.double (FP.f2d x) :: rest) ws) : V K G cc own nL R k n pc lv (.float x :: rest) ws := by
  obtain ⟨p, l, e, s, m, args, below, meth, c, A, H0, Q⟩ := K; intro hC hK hH hE hA H locs ls hP hD hS hl
  exact lv_f2d hC.1 hC.2.1 d hne (kk hC hK hH hE hA H locs ls hP hD hS hl)
theorem v_dcmp {x y : UInt64} {op : CmpOp} (d : decode cc pc = .ok (.dcmp op, 1))  (kk : V K G cc own nL R k n (pc + 1) lv (.int (Op.cmpValue (FP.dcmp x y) op) :: rest) ws) : V K G cc own nL R k n pc lv (.double y :: .double x :: rest) ws := by
  obtain ⟨p, l, e, s, m, args, below, meth, c, A, H0, Q⟩ := K; intro hC hK hH hE hA H locs ls hP hD hS hl
  exact lv_dcmp hC.1 hC.2.1 d (kk hC hK hH hE hA H locs ls hP hD hS hl)
theorem v_lcmp {x y : Int64} (d : decode cc pc = .ok (.lcmp, 1))  (kk : V K G cc own nL R k n (pc + 1) lv (.int (lg_cmp x y) :: rest) ws) : V K G cc own nL R k n pc lv (.long y :: .long x :: rest) ws := by
  obtain ⟨p, l, e, s, m, args, below, meth, c, A, H0, Q⟩ := K; intro hC hK hH hE hA H locs ls hP hD hS hl
  exact W.lcmp hC.1 hC.2.1 d (kk hC hK hH hE hA H locs ls hP hD hS hl)
theorem v_dup {a : Value} (d : decode cc pc = .ok (.dup, 1)) (ha : a.category = 1) (kk : V K G cc own nL R k n (pc + 1) lv (a :: a :: rest) ws) : V K G cc own nL R k n pc lv (a :: rest) ws := by
  obtain ⟨p, l, e, s, m, args, below, meth, c, A, H0, Q⟩ := K; intro hC hK hH hE hA H locs ls hP hD hS hl
  exact lv_dup hC.1 hC.2.1 d ha (kk hC hK hH hE hA H locs ls hP hD hS hl)
theorem v_pop {a : Value} (d : decode cc pc = .ok (.pop, 1)) (ha : a.category = 1) (kk : V K G cc own nL R k n (pc + 1) lv rest ws) : V K G cc own nL R k n pc lv (a :: rest) ws := by
  obtain ⟨p, l, e, s, m, args, below, meth, c, A, H0, Q⟩ := K; intro hC hK hH hE hA H locs ls hP hD hS hl
  exact lv_pop hC.1 hC.2.1 d ha (kk hC hK hH hE hA H locs ls hP hD hS hl)
theorem v_dup2 {a b : Value} (d : decode cc pc = .ok (.dup2, 1)) (ha : a.category = 1) (hb : b.category = 1) (kk : V K G cc own nL R k n (pc + 1) lv (a :: b :: a :: b :: rest) ws) : V K G cc own nL R k n pc lv (a :: b :: rest) ws := by
  obtain ⟨p, l, e, s, m, args, below, meth, c, A, H0, Q⟩ := K; intro hC hK hH hE hA H locs ls hP hD hS hl
  exact lv_dup2_11 hC.1 hC.2.1 d ha hb (kk hC hK hH hE hA H locs ls hP hD hS hl)
theorem v_ldc {i : Nat} {v : Int32} (d : decode cc pc = .ok (.ldc i, 2)) (hw : Cond.constant own i v ∈ GT) (kk : V K G cc own nL R k n (pc + 2) lv (.int v :: rest) ws) : V K G cc own nL R k n pc lv rest ws := by
  obtain ⟨p, l, e, s, m, args, below, meth, c, A, H0, Q⟩ := K; intro hC hK hH hE hA H locs ls hP hD hS hl
  exact lv_ldc hC.1 hC.2.1 hC.2.2.2.1 (hC.2.2.2.2 _ hw) d (kk hC hK hH hE hA H locs ls hP hD hS hl)
theorem v_ldc2 {i : Nat} {v : Int64} (d : decode cc pc = .ok (.ldc2_w i, 3)) (hw : Cond.constantLong own i v ∈ GT) (kk : V K G cc own nL R k n (pc + 3) lv (.long v :: rest) ws) : V K G cc own nL R k n pc lv rest ws := by
  obtain ⟨p, l, e, s, m, args, below, meth, c, A, H0, Q⟩ := K; intro hC hK hH hE hA H locs ls hP hD hS hl
  exact lv_ldc2 hC.1 hC.2.1 hC.2.2.2.1 (hC.2.2.2.2 _ hw) d (kk hC hK hH hE hA H locs ls hP hD hS hl)
theorem v_ldcf {i : Nat} {v : UInt32} (d : decode cc pc = .ok (.ldc i, 2)) (hw : Cond.constantFloat own i v ∈ GT) (kk : V K G cc own nL R k n (pc + 2) lv (.float v :: rest) ws) : V K G cc own nL R k n pc lv rest ws := by
  obtain ⟨p, l, e, s, m, args, below, meth, c, A, H0, Q⟩ := K; intro hC hK hH hE hA H locs ls hP hD hS hl
  exact lv_ldcf hC.1 hC.2.1 hC.2.2.2.1 (hC.2.2.2.2 _ hw) d (kk hC hK hH hE hA H locs ls hP hD hS hl)
theorem v_ldc2d {i : Nat} {v : UInt64} (d : decode cc pc = .ok (.ldc2_w i, 3)) (hw : Cond.constantDouble own i v ∈ GT) (kk : V K G cc own nL R k n (pc + 3) lv (.double v :: rest) ws) : V K G cc own nL R k n pc lv rest ws := by
  obtain ⟨p, l, e, s, m, args, below, meth, c, A, H0, Q⟩ := K; intro hC hK hH hE hA H locs ls hP hD hS hl
  exact lv_ldc2d hC.1 hC.2.1 hC.2.2.2.1 (hC.2.2.2.2 _ hw) d (kk hC hK hH hE hA H locs ls hP hD hS hl)
theorem v_goto {off : Int} {tgt : Nat} (d : decode cc pc = .ok (.goto off, 3)) (ht : (pc : Int) + off = (tgt : Int)) (kk : V K G cc own nL R k n tgt lv rest ws) : V K G cc own nL R k n pc lv rest ws := by
  obtain ⟨p, l, e, s, m, args, below, meth, c, A, H0, Q⟩ := K; intro hC hK hH hE hA H locs ls hP hD hS hl
  exact lv_goto hC.1 hC.2.1 d ht (kk hC hK hH hE hA H locs ls hP hD hS hl)
theorem v_if_eq {x : Int32} {off : Int} {tgt : Nat} (d : decode cc pc = .ok (.ifCond .eq off, 3)) (ht : (pc : Int) + off = (tgt : Int)) (kt : x = 0 → V K G cc own nL R k n tgt lv rest ws) (kf : ¬ x = 0 → V K G cc own nL R k n (pc + 3) lv rest ws) : V K G cc own nL R k n pc lv (.int x :: rest) ws := by
  obtain ⟨p, l, e, s, m, args, below, meth, c, A, H0, Q⟩ := K; intro hC hK hH hE hA H locs ls hP hD hS hl
  exact lv_if_eq hC.1 hC.2.1 d ht (fun z => kt z hC hK hH hE hA H locs ls hP hD hS hl) (fun z => kf z hC hK hH hE hA H locs ls hP hD hS hl)
theorem v_icmp_eq {x y : Int32} {off : Int} {tgt : Nat} (d : decode cc pc = .ok (.if_icmp .eq off, 3)) (ht : (pc : Int) + off = (tgt : Int)) (kt : x = y → V K G cc own nL R k n tgt lv rest ws) (kf : ¬ x = y → V K G cc own nL R k n (pc + 3) lv rest ws) : V K G cc own nL R k n pc lv (.int y :: .int x :: rest) ws := by
  obtain ⟨p, l, e, s, m, args, below, meth, c, A, H0, Q⟩ := K; intro hC hK hH hE hA H locs ls hP hD hS hl
  exact lv_icmp_eq hC.1 hC.2.1 d ht (fun z => kt z hC hK hH hE hA H locs ls hP hD hS hl) (fun z => kf z hC hK hH hE hA H locs ls hP hD hS hl)
theorem v_if_ne {x : Int32} {off : Int} {tgt : Nat} (d : decode cc pc = .ok (.ifCond .ne off, 3)) (ht : (pc : Int) + off = (tgt : Int)) (kt : ¬ x = 0 → V K G cc own nL R k n tgt lv rest ws) (kf : x = 0 → V K G cc own nL R k n (pc + 3) lv rest ws) : V K G cc own nL R k n pc lv (.int x :: rest) ws := by
  obtain ⟨p, l, e, s, m, args, below, meth, c, A, H0, Q⟩ := K; intro hC hK hH hE hA H locs ls hP hD hS hl
  exact lv_if_ne hC.1 hC.2.1 d ht (fun z => kt z hC hK hH hE hA H locs ls hP hD hS hl) (fun z => kf z hC hK hH hE hA H locs ls hP hD hS hl)
theorem v_icmp_ne {x y : Int32} {off : Int} {tgt : Nat} (d : decode cc pc = .ok (.if_icmp .ne off, 3)) (ht : (pc : Int) + off = (tgt : Int)) (kt : ¬ x = y → V K G cc own nL R k n tgt lv rest ws) (kf : x = y → V K G cc own nL R k n (pc + 3) lv rest ws) : V K G cc own nL R k n pc lv (.int y :: .int x :: rest) ws := by
  obtain ⟨p, l, e, s, m, args, below, meth, c, A, H0, Q⟩ := K; intro hC hK hH hE hA H locs ls hP hD hS hl
  exact lv_icmp_ne hC.1 hC.2.1 d ht (fun z => kt z hC hK hH hE hA H locs ls hP hD hS hl) (fun z => kf z hC hK hH hE hA H locs ls hP hD hS hl)
theorem v_if_lt {x : Int32} {off : Int} {tgt : Nat} (d : decode cc pc = .ok (.ifCond .lt off, 3)) (ht : (pc : Int) + off = (tgt : Int)) (kt : x < 0 → V K G cc own nL R k n tgt lv rest ws) (kf : ¬ x < 0 → V K G cc own nL R k n (pc + 3) lv rest ws) : V K G cc own nL R k n pc lv (.int x :: rest) ws := by
  obtain ⟨p, l, e, s, m, args, below, meth, c, A, H0, Q⟩ := K; intro hC hK hH hE hA H locs ls hP hD hS hl
  exact lv_if_lt hC.1 hC.2.1 d ht (fun z => kt z hC hK hH hE hA H locs ls hP hD hS hl) (fun z => kf z hC hK hH hE hA H locs ls hP hD hS hl)
theorem v_icmp_lt {x y : Int32} {off : Int} {tgt : Nat} (d : decode cc pc = .ok (.if_icmp .lt off, 3)) (ht : (pc : Int) + off = (tgt : Int)) (kt : x < y → V K G cc own nL R k n tgt lv rest ws) (kf : ¬ x < y → V K G cc own nL R k n (pc + 3) lv rest ws) : V K G cc own nL R k n pc lv (.int y :: .int x :: rest) ws := by
  obtain ⟨p, l, e, s, m, args, below, meth, c, A, H0, Q⟩ := K; intro hC hK hH hE hA H locs ls hP hD hS hl
  exact lv_icmp_lt hC.1 hC.2.1 d ht (fun z => kt z hC hK hH hE hA H locs ls hP hD hS hl) (fun z => kf z hC hK hH hE hA H locs ls hP hD hS hl)
theorem v_if_ge {x : Int32} {off : Int} {tgt : Nat} (d : decode cc pc = .ok (.ifCond .ge off, 3)) (ht : (pc : Int) + off = (tgt : Int)) (kt : 0 ≤ x → V K G cc own nL R k n tgt lv rest ws) (kf : ¬ 0 ≤ x → V K G cc own nL R k n (pc + 3) lv rest ws) : V K G cc own nL R k n pc lv (.int x :: rest) ws := by
  obtain ⟨p, l, e, s, m, args, below, meth, c, A, H0, Q⟩ := K; intro hC hK hH hE hA H locs ls hP hD hS hl
  exact lv_if_ge hC.1 hC.2.1 d ht (fun z => kt z hC hK hH hE hA H locs ls hP hD hS hl) (fun z => kf z hC hK hH hE hA H locs ls hP hD hS hl)
theorem v_icmp_ge {x y : Int32} {off : Int} {tgt : Nat} (d : decode cc pc = .ok (.if_icmp .ge off, 3)) (ht : (pc : Int) + off = (tgt : Int)) (kt : y ≤ x → V K G cc own nL R k n tgt lv rest ws) (kf : ¬ y ≤ x → V K G cc own nL R k n (pc + 3) lv rest ws) : V K G cc own nL R k n pc lv (.int y :: .int x :: rest) ws := by
  obtain ⟨p, l, e, s, m, args, below, meth, c, A, H0, Q⟩ := K; intro hC hK hH hE hA H locs ls hP hD hS hl
  exact lv_icmp_ge hC.1 hC.2.1 d ht (fun z => kt z hC hK hH hE hA H locs ls hP hD hS hl) (fun z => kf z hC hK hH hE hA H locs ls hP hD hS hl)
theorem v_if_gt {x : Int32} {off : Int} {tgt : Nat} (d : decode cc pc = .ok (.ifCond .gt off, 3)) (ht : (pc : Int) + off = (tgt : Int)) (kt : 0 < x → V K G cc own nL R k n tgt lv rest ws) (kf : ¬ 0 < x → V K G cc own nL R k n (pc + 3) lv rest ws) : V K G cc own nL R k n pc lv (.int x :: rest) ws := by
  obtain ⟨p, l, e, s, m, args, below, meth, c, A, H0, Q⟩ := K; intro hC hK hH hE hA H locs ls hP hD hS hl
  exact lv_if_gt hC.1 hC.2.1 d ht (fun z => kt z hC hK hH hE hA H locs ls hP hD hS hl) (fun z => kf z hC hK hH hE hA H locs ls hP hD hS hl)
theorem v_icmp_gt {x y : Int32} {off : Int} {tgt : Nat} (d : decode cc pc = .ok (.if_icmp .gt off, 3)) (ht : (pc : Int) + off = (tgt : Int)) (kt : y < x → V K G cc own nL R k n tgt lv rest ws) (kf : ¬ y < x → V K G cc own nL R k n (pc + 3) lv rest ws) : V K G cc own nL R k n pc lv (.int y :: .int x :: rest) ws := by
  obtain ⟨p, l, e, s, m, args, below, meth, c, A, H0, Q⟩ := K; intro hC hK hH hE hA H locs ls hP hD hS hl
  exact lv_icmp_gt hC.1 hC.2.1 d ht (fun z => kt z hC hK hH hE hA H locs ls hP hD hS hl) (fun z => kf z hC hK hH hE hA H locs ls hP hD hS hl)
theorem v_if_le {x : Int32} {off : Int} {tgt : Nat} (d : decode cc pc = .ok (.ifCond .le off, 3)) (ht : (pc : Int) + off = (tgt : Int)) (kt : x ≤ 0 → V K G cc own nL R k n tgt lv rest ws) (kf : ¬ x ≤ 0 → V K G cc own nL R k n (pc + 3) lv rest ws) : V K G cc own nL R k n pc lv (.int x :: rest) ws := by
  obtain ⟨p, l, e, s, m, args, below, meth, c, A, H0, Q⟩ := K; intro hC hK hH hE hA H locs ls hP hD hS hl
  exact lv_if_le hC.1 hC.2.1 d ht (fun z => kt z hC hK hH hE hA H locs ls hP hD hS hl) (fun z => kf z hC hK hH hE hA H locs ls hP hD hS hl)
theorem v_icmp_le {x y : Int32} {off : Int} {tgt : Nat} (d : decode cc pc = .ok (.if_icmp .le off, 3)) (ht : (pc : Int) + off = (tgt : Int)) (kt : x ≤ y → V K G cc own nL R k n tgt lv rest ws) (kf : ¬ x ≤ y → V K G cc own nL R k n (pc + 3) lv rest ws) : V K G cc own nL R k n pc lv (.int y :: .int x :: rest) ws := by
  obtain ⟨p, l, e, s, m, args, below, meth, c, A, H0, Q⟩ := K; intro hC hK hH hE hA H locs ls hP hD hS hl
  exact lv_icmp_le hC.1 hC.2.1 d ht (fun z => kt z hC hK hH hE hA H locs ls hP hD hS hl) (fun z => kf z hC hK hH hE hA H locs ls hP hD hS hl)
theorem v_tableIn {dflt lo hi : Int} {offs : Array Int} {len : Nat} {x : Int32} {off : Int} {tgt : Nat} (d : decode cc pc = .ok (.tableswitch dflt lo hi offs, len)) (h1 : ¬ x.toInt < lo) (h2 : ¬ hi < x.toInt) (ho : offs[(x.toInt - lo).toNat]? = some off) (ht : (pc : Int) + off = (tgt : Int)) (kk : V K G cc own nL R k n tgt lv rest ws) : V K G cc own nL R k n pc lv (.int x :: rest) ws := by
  obtain ⟨p, l, e, s, m, args, below, meth, c, A, H0, Q⟩ := K; intro hC hK hH hE hA H locs ls hP hD hS hl
  exact lv_tableIn hC.1 hC.2.1 d h1 h2 ho ht (kk hC hK hH hE hA H locs ls hP hD hS hl)
theorem v_get {a ci i N : Nat} {fs : List Value} {ref C : String} {T : u_T} {v : Value} (q0 : Nat) (f : Nat) (d : decode cc pc = .ok (.getfield i, 3)) (he : ws[q0]? = some (a, .inr (ci, fs))) (hc : vwCl[ci]? = some (C, T, N)) (hin : ∀ x ∈ u_ws C T N, x ∈ GT) (hf : f < N) (hw : Cond.fieldLink own i ref (T f).2.1 (T f).2.2.1 ∈ GT) (hsame : (T f).1 = ref) (hv : fs[f]? = some v) (kk : V K G cc own nL R k n (pc + 3) lv (v :: rest) ws) : V K G cc own nL R k n pc lv (.ref a :: rest) ws := by
  obtain ⟨p, l, e, s, m, args, below, meth, c, A, H0, Q⟩ := K; intro hC hK hH hE hA H locs ls hP hD hS hl
  exact va_get hC.1 hC.2.1 hC.2.2.2.2 hin hC.2.2.2.1 hK hP q0 he hc f hf (hC.2.2.2.2 _ hw) (fun x h => by rw [← hsame]; exact h) hv d (kk hC hK hH hE hA H locs ls hP hD hS hl)
theorem v_put {a ci i N : Nat} {fs : List Value} {ref C : String} {T : u_T} {v : Value} {t : FieldType} {ty0 : Nat → FieldType} (q0 : Nat) (f : Nat) (d : decode cc pc = .ok (.putfield i, 3)) (he : ws[q0]? = some (a, .inr (ci, fs))) (hc : vwCl[ci]? = some (C, T, N)) (hin : ∀ x ∈ u_ws C T N, x ∈ GT) (hty : ∀ j, j < N → parseFieldDescriptor (T j).2.2.1 = some (ty0 j)) (hnm : ∀ a, a < N → ∀ b, b < N → a ≠ b → (T a).2.1 ≠ (T b).2.1) (hf : f < N) (hw : Cond.fieldLink own i ref (T f).2.1 (T f).2.2.1 ∈ GT) (hsame : (T f).1 = ref) (hfin : (T f).2.2.2 = false) (hd : parseFieldDescriptor (T f).2.2.1 = some t) (hnr : narrow t v = v) (hft : fits t v = true) (hlf : f < fs.length) (hws : ws.set q0 (a, .inr (ci, fs.set f v)) = ws') (kk : V K G cc own nL R k n (pc + 3) lv rest ws') : V K G cc own nL R k n pc lv (v :: .ref a :: rest) ws := by
  obtain ⟨p, l, e, s, m, args, below, meth, c, A, H0, Q⟩ := K; intro hC hK hH hE hA H locs ls hP hD hS hl
  subst hws
  exact va_put hC.1 hC.2.1 hC.2.2.2.2 hin ty0 hty hnm hC.2.2.2.1 hK hP hD hS q0 he hc f hf (hC.2.2.2.2 _ hw) (fun x h => by rw [← hsame]; exact h) hfin hd hnr hft hlf d (fun H locs hP hD hS => kk hC hK hH hE hA H locs ls hP hD hS hl)
theorem v_putF {a ci i N : Nat} {fs : List Value} {ref C : String} {T : u_T} {v : Value} {t : FieldType} {ty0 : Nat → FieldType} (q0 : Nat) (f : Nat) (hini : K.2.2.2.2.2.2.2.1.name = "<init>") (d : decode cc pc = .ok (.putfield i, 3)) (he : ws[q0]? = some (a, .inr (ci, fs))) (hc : vwCl[ci]? = some (C, T, N)) (hin : ∀ x ∈ u_ws C T N, x ∈ GT) (hty : ∀ j, j < N → parseFieldDescriptor (T j).2.2.1 = some (ty0 j)) (hnm : ∀ a, a < N → ∀ b, b < N → a ≠ b → (T a).2.1 ≠ (T b).2.1) (hf : f < N) (hw : Cond.fieldLink own i ref (T f).2.1 (T f).2.2.1 ∈ GT) (hsame : (T f).1 = ref) (hfin : (T f).2.2.2 = true) (hdecl : (T f).1 = own) (hd : parseFieldDescriptor (T f).2.2.1 = some t) (hnr : narrow t v = v) (hft : fits t v = true) (hlf : f < fs.length) (hws : ws.set q0 (a, .inr (ci, fs.set f v)) = ws') (kk : V K G cc own nL R k n (pc + 3) lv rest ws') : V K G cc own nL R k n pc lv (v :: .ref a :: rest) ws := by
  obtain ⟨p, l, e, s, m, args, below, meth, c, A, H0, Q⟩ := K; intro hC hK hH hE hA H locs ls hP hD hS hl
  subst hws
  exact va_putF hC.1 hC.2.1 hC.2.2.2.2 hin ty0 hty hnm hC.2.2.2.1 hK hP hD hS q0 he hc f hf (hC.2.2.2.2 _ hw) (fun x h => by rw [← hsame]; exact h) hfin hini hdecl hd hnr hft hlf d (fun H locs hP hD hS => kk hC hK hH hE hA H locs ls hP hD hS hl)
theorem v_iald {a z : Nat} {f : Nat → Int32} {i : Int32} (q0 : Nat) (d : decode cc pc = .ok (.iaload, 1)) (he : ws[q0]? = some (a, .inl (G.2.1 1, z, .inl f))) (hi : vp_in i z) (kk : V K G cc own nL R k n (pc + 1) lv (.int (f i.toNatClampNeg) :: rest) ws) : V K G cc own nL R k n pc lv (.int i :: .ref a :: rest) ws := by
  obtain ⟨p, l, e, s, m, args, below, meth, c, A, H0, Q⟩ := K; intro hC hK hH hE hA H locs ls hP hD hS hl
  exact va_iald hC.1 hC.2.1 hK hP q0 1 he rfl hi d (kk hC hK hH hE hA H locs ls hP hD hS hl)
theorem v_cald {a z : Nat} {f : Nat → Int32} {i : Int32} (q0 : Nat) (d : decode cc pc = .ok (.caload, 1)) (he : ws[q0]? = some (a, .inl (G.2.1 0, z, .inl f))) (hi : vp_in i z) (kk : V K G cc own nL R k n (pc + 1) lv (.int (f i.toNatClampNeg) :: rest) ws) : V K G cc own nL R k n pc lv (.int i :: .ref a :: rest) ws := by
  obtain ⟨p, l, e, s, m, args, below, meth, c, A, H0, Q⟩ := K; intro hC hK hH hE hA H locs ls hP hD hS hl
  exact va_cald hC.1 hC.2.1 hK hP q0 0 he rfl hi d (kk hC hK hH hE hA H locs ls hP hD hS hl)
theorem v_zald {a z : Nat} {f : Nat → Int32} {i : Int32} (q0 : Nat) (d : decode cc pc = .ok (.baload, 1)) (he : ws[q0]? = some (a, .inl (G.2.1 3, z, .inl f))) (hi : vp_in i z) (kk : V K G cc own nL R k n (pc + 1) lv (.int (f i.toNatClampNeg) :: rest) ws) : V K G cc own nL R k n pc lv (.int i :: .ref a :: rest) ws := by
  obtain ⟨p, l, e, s, m, args, below, meth, c, A, H0, Q⟩ := K; intro hC hK hH hE hA H locs ls hP hD hS hl
  exact va_zald hC.1 hC.2.1 hK hP q0 3 he rfl hi d (kk hC hK hH hE hA H locs ls hP hD hS hl)
theorem v_lald {a z : Nat} {f : Nat → Int64} {i : Int32} (q0 : Nat) (d : decode cc pc = .ok (.laload, 1)) (he : ws[q0]? = some (a, .inl (G.2.1 2, z, .inr (.inl f)))) (hi : vp_in i z) (kk : V K G cc own nL R k n (pc + 1) lv (.long (f i.toNatClampNeg) :: rest) ws) : V K G cc own nL R k n pc lv (.int i :: .ref a :: rest) ws := by
  obtain ⟨p, l, e, s, m, args, below, meth, c, A, H0, Q⟩ := K; intro hC hK hH hE hA H locs ls hP hD hS hl
  exact va_lald hC.1 hC.2.1 hK hP q0 2 he rfl hi d (kk hC hK hH hE hA H locs ls hP hD hS hl)
theorem v_iast {a z : Nat} {f : Nat → Int32} {i : Int32} {x : Int32} (q0 : Nat) (d : decode cc pc = .ok (.iastore, 1)) (he : ws[q0]? = some (a, .inl (G.2.1 1, z, .inl f))) (hi : vp_in i z) (hws : ws.set q0 (a, .inl (G.2.1 1, z, .inl (upd f i.toNatClampNeg x))) = ws') (kk : V K G cc own nL R k n (pc + 1) lv rest ws') : V K G cc own nL R k n pc lv (.int x :: .int i :: .ref a :: rest) ws := by
  obtain ⟨p, l, e, s, m, args, below, meth, c, A, H0, Q⟩ := K; intro hC hK hH hE hA H locs ls hP hD hS hl
  subst hws
  exact va_iast hC.1 hC.2.1 hK hP hD hS q0 1 he rfl hi d (fun H locs hP hD hS => kk hC hK hH hE hA H locs ls hP hD hS hl)
theorem v_cast {a z : Nat} {f : Nat → Int32} {i : Int32} {x : Int32} (q0 : Nat) (d : decode cc pc = .ok (.castore, 1)) (he : ws[q0]? = some (a, .inl (G.2.1 0, z, .inl f))) (hi : vp_in i z) (hws : ws.set q0 (a, .inl (G.2.1 0, z, .inl (upd f i.toNatClampNeg (vp_nar .char x)))) = ws') (kk : V K G cc own nL R k n (pc + 1) lv rest ws') : V K G cc own nL R k n pc lv (.int x :: .int i :: .ref a :: rest) ws := by
  obtain ⟨p, l, e, s, m, args, below, meth, c, A, H0, Q⟩ := K; intro hC hK hH hE hA H locs ls hP hD hS hl
  subst hws
  exact va_cast hC.1 hC.2.1 hK hP hD hS q0 0 he rfl hi d (fun H locs hP hD hS => kk hC hK hH hE hA H locs ls hP hD hS hl)
theorem v_zast {a z : Nat} {f : Nat → Int32} {i : Int32} {x : Int32} (q0 : Nat) (d : decode cc pc = .ok (.bastore, 1)) (he : ws[q0]? = some (a, .inl (G.2.1 3, z, .inl f))) (hi : vp_in i z) (hws : ws.set q0 (a, .inl (G.2.1 3, z, .inl (upd f i.toNatClampNeg (vp_nar .boolean x)))) = ws') (kk : V K G cc own nL R k n (pc + 1) lv rest ws') : V K G cc own nL R k n pc lv (.int x :: .int i :: .ref a :: rest) ws := by
  obtain ⟨p, l, e, s, m, args, below, meth, c, A, H0, Q⟩ := K; intro hC hK hH hE hA H locs ls hP hD hS hl
  subst hws
  exact va_zast hC.1 hC.2.1 hK hP hD hS q0 3 he rfl hi d (fun H locs hP hD hS => kk hC hK hH hE hA H locs ls hP hD hS hl)
theorem v_last {a z : Nat} {f : Nat → Int64} {i : Int32} {x : Int64} (q0 : Nat) (d : decode cc pc = .ok (.lastore, 1)) (he : ws[q0]? = some (a, .inl (G.2.1 2, z, .inr (.inl f)))) (hi : vp_in i z) (hws : ws.set q0 (a, .inl (G.2.1 2, z, .inr (.inl (vp_updL f i.toNatClampNeg x)))) = ws') (kk : V K G cc own nL R k n (pc + 1) lv rest ws') : V K G cc own nL R k n pc lv (.long x :: .int i :: .ref a :: rest) ws := by
  obtain ⟨p, l, e, s, m, args, below, meth, c, A, H0, Q⟩ := K; intro hC hK hH hE hA H locs ls hP hD hS hl
  subst hws
  exact va_last hC.1 hC.2.1 hK hP hD hS q0 2 he rfl hi d (fun H locs hP hD hS => kk hC hK hH hE hA H locs ls hP hD hS hl)
theorem v_alen {a : Nat} {cA : ClassId} {x : vp_A} {t : FieldType} {v : Int32} (q0 t0 : Nat) (d : decode cc pc = .ok (.arraylength, 1)) (he : ws[q0]? = some (a, .inl (cA, x))) (ht : (tyl G)[t0]? = some (cA, t)) (hv : Int32.ofNat x.1 = v) (kk : V K G cc own nL R k n (pc + 1) lv (.int v :: rest) ws) : V K G cc own nL R k n pc lv (.ref a :: rest) ws := by
  obtain ⟨p, l, e, s, m, args, below, meth, c, A, H0, Q⟩ := K; intro hC hK hH hE hA H locs ls hP hD hS hl
  exact va_alen hC.1 hC.2.1 hK hP q0 t0 he ht hv d (kk hC hK hH hE hA H locs ls hP hD hS hl)
theorem v_widen {k' n' : Nat} (h1 : k ≤ k') (h2 : n ≤ n') (kk : V K G cc own nL R k' n' pc lv rest ws) : V K G cc own nL R k n pc lv rest ws := by
  obtain ⟨p, l, e, s, m, args, below, meth, c, A, H0, Q⟩ := K; intro hC hK hH hE hA H locs ls hP hD hS hl
  exact W.widen h1 h2 (kk hC hK hH hE hA H locs ls hP hD hS hl)
theorem v_topi {x : Int32} (kk : ∀ y : Int32, y = x → V K G cc own nL R k n pc lv (.int y :: rest) ws) : V K G cc own nL R k n pc lv (.int x :: rest) ws := kk x rfl
theorem v_topl {x : Int64} (kk : ∀ y : Int64, y = x → V K G cc own nL R k n pc lv (.long y :: rest) ws) : V K G cc own nL R k n pc lv (.long x :: rest) ws := kk x rfl
theorem v_eqi {x y : Int32} (h : x = y) (kk : V K G cc own nL R k n pc lv (.int y :: rest) ws) : V K G cc own nL R k n pc lv (.int x :: rest) ws := h ▸ kk
theorem v_eql {x y : Int64} (h : x = y) (kk : V K G cc own nL R k n pc lv (.long y :: rest) ws) : V K G cc own nL R k n pc lv (.long x :: rest) ws := h ▸ kk
theorem v_lv (ks : List Nat) (h : lv_pick lv ks = lv') (kk : V K G cc own nL R k n pc lv' rest ws) : V K G cc own nL R k n pc lv rest ws := by
  obtain ⟨p, l, e, s, m, args, below, meth, c, A, H0, Q⟩ := K; intro hC hK hH hE hA H locs ls hP hD hS hl
  exact kk hC hK hH hE hA H locs ls hP hD hS (lv_sub hl ks h)
theorem v_sub (is : List Nat) (hn : va_nd is = true) (h1 : is.filterMap (fun i => ws[i]?) = ws') (h2 : is.map (fun i => ws[i]?) = ws'.map some) (kk : V K G cc own nL R k n pc lv rest ws') : V K G cc own nL R k n pc lv rest ws := by
  obtain ⟨p, l, e, s, m, args, below, meth, c, A, H0, Q⟩ := K; intro hC hK hH hE hA H locs ls hP hD hS hl
  exact kk hC hK hH hE hA H locs ls (hP.sub is h1) (hD.sub is hn h2) hS hl
theorem v_objInit {a i : Nat} (d : decode cc pc = .ok (.invokespecial i, 3)) (hw : Cond.methodLink own i Lib.objectInit ∈ GT) (h1 : Cond.instanceMethod Lib.objectInit ∈ GT) (h2 : Cond.code Lib.objectInit ⟨#[0xb1]⟩ 1 none ∈ GT) (hf : 1 ≤ R.frames) (hlo : (rest.map fun v => v.category).sum + 12 ≤ R.locals) (kk : V K G cc own nL R k n (pc + 3) lv rest ws) : V K G cc own nL R k n pc lv (.ref a :: rest) ws := by
  obtain ⟨p, l, e, s, m, args, below, meth, c, A, H0, Q⟩ := K; intro hC hK hH hE hA H locs ls hP hD hS hl
  exact W.objInit hC.1 hC.2.1 hC.2.2.2.1 (hC.2.2.2.2 _ hw) (hC.2.2.2.2 _ h1) (hC.2.2.2.2 _ h2) rfl (by rw [hC.2.2.1]; exact hl.1) rfl d hf (by show 2 * 0 + _ + 12 ≤ _; omega) (kk hC hK hH hE hA H locs ls hP hD hS hl)
theorem v_new {ci i N : Nat} {C : String} {T : u_T} {fs : List Value} {ty : Nat → FieldType} (d : decode cc pc = .ok (.new i, 3)) (hc : vwCl[ci]? = some (C, T, N)) (hin : ∀ x ∈ u_ws C T N, x ∈ GT) (hty : ∀ j, j < N → parseFieldDescriptor (T j).2.2.1 = some (ty j)) (h1 : Cond.classLink own i C ∈ GT) (h2 : Cond.instantiable C N ∈ GT) (h3 : Cond.initialized C ∈ GT) (hfs : ∀ j, j < N → defaultValue (ty j) = vp_V fs j) (hk : k + 1 ≤ R.cells) (hs : n + N ≤ R.slots) (kk : ∀ q : Nat, V K G cc own nL R (k + 1) (n + N) (pc + 3) lv (.ref q :: rest) (ws ++ [(q, .inr (ci, fs))])) : V K G cc own nL R k n pc lv rest ws := by
  obtain ⟨p, l, e, s, m, args, below, meth, c, A, H0, Q⟩ := K; intro hC hK hH hE hA H locs ls hP hD hS hl
  exact va_new hC.1 hC.2.1 hC.2.2.2.2 hin ty hty hC.2.2.2.1 (hC.2.2.2.2 _ h1) (hC.2.2.2.2 _ h2) (hC.2.2.2.2 _ h3) hK hP hD hS hA hc hfs hk hs d (fun q H hP hD hS => kk q hC hK hH hE hA H locs ls hP hD hS hl)
theorem v_newa {x : Int32} {z : Nat} {a0 : vp_A} {t : FieldType} {at0 : ArrayType} (t0 : Nat) {cA : ClassId} (d : decode cc pc = .ok (.newarray at0, 2)) (hT : newarray.typeOf at0 = t) (ht : (tyl G)[t0]? = some (cA, t)) (hno : ∀ C, t ≠ .object C) (h1 : Cond.arrayClass (newarray.typeOf at0) ∈ GT) (ha : ∀ cA : ClassId, vp_cell cA a0 = arrV cA z (fun _ => defaultValue t)) (hx : ¬ x < 0) (hz : x.toNatClampNeg = z) (hby : z * componentBytes t ≤ 536870912) (hk : k + 1 ≤ R.cells) (hs : n + z ≤ R.slots) (kk : ∀ q : Nat, V K G cc own nL R (k + 1) (n + z) (pc + 2) lv (.ref q :: rest) (ws ++ [(q, .inl (cA, a0))])) : V K G cc own nL R k n pc lv (.int x :: rest) ws := by
  obtain ⟨p, l, e, s, m, args, below, meth, c, A, H0, Q⟩ := K; intro hC hK hH hE hA H locs ls hP hD hS hl
  refine va_newa hC.1 hC.2.1 (hC.2.2.2.2 _ h1) hT hK hP hD hS hA ha hx hz hby hk hs d (fun q cB H hK2 hP hD hS => ?_)
  have e1 := (hK.2 t0 _ ht).2
  have e2 := (hK2.2 4 (cB, t) rfl).2
  have hcc : cB = cA := by
    cases t <;> first | exact Option.some.inj (e2.symm.trans e1) | exact absurd rfl (hno _)
  subst hcc
  exact kk q hC hK hH hE hA H locs ls hP hD hS hl
/-- what the method may end with: an answer and a world -/
def Ret (K : Kx) (G : Gx) (fin : Option Value → va_W → Prop) (rt : Option FieldType) (k n : Nat) : Prop :=
  match K with
  | (_, _, _, s, _, args, below, meth, _, A, H0, Q) => ∃ (Qc : Array Value → State → Outcome → State → Prop) (free : Addr → Prop), (∀ t, MQ below Qc args s k n free t → Q t) ∧ meth.sig.returnType = rt ∧ meth.locks = false ∧ (∀ q, A q → free q) ∧ ∀ (v : Option Value) (ws : va_W) (H : Heap) (locs : List Loc) (t : State), fin v ws → va_P G.1 vwCl ws H → va_D A ws → va_S A H0 H locs → va_K G.1 vwCl (tyl G) t → t.heap = H → Qc args s (.returned v) t
theorem w_mono {p : Program} {l : Launch} {e : Env} {R : Room} {s : State} {m : MethodId} {args : Array Value} {below : List Frame} {meth : Method} {c : Code} {H : Heap} {locs : List Loc} {k n : Nat} {Q Q' : State → Prop} {g : JFrame} (h : ∀ t, Q t → Q' t) (kk : W p l e R s m args below meth c H locs k n Q g) : W p l e R s m args below meth c H locs k n Q' g := by
  intro T hT X
  obtain ⟨t, a, b⟩ := kk T hT X
  exact ⟨t, a, h t b⟩
variable {fin : Option Value → va_W → Prop}
theorem v_iret {v : Int32} (hR : Ret K G fin (some .int) k n) (d : decode cc pc = .ok (.ireturn, 1)) (h : fin (some (.int v)) ws) : V K G cc own nL R k n pc lv [.int v] ws := by
  obtain ⟨p, l, e, s, m, args, below, meth, c, A, H0, Q⟩ := K
  obtain ⟨Qc, free, hQ, hr, hlocks, hf, hq⟩ := hR
  intro hC hK hH hE hA H locs ls hP hD hS hl
  exact w_mono hQ (W.iret hC.1 hC.2.1 hr (fun t ht hW => hq _ ws H locs t h hP hD hS (va_K.moved hW.alike hK) ht) (fun q z => hf _ (hS.2.2 q z)) d hlocks)
theorem v_lret {v : Int64} (hR : Ret K G fin (some .long) k n) (d : decode cc pc = .ok (.lreturn, 1)) (h : fin (some (.long v)) ws) : V K G cc own nL R k n pc lv [.long v] ws := by
  obtain ⟨p, l, e, s, m, args, below, meth, c, A, H0, Q⟩ := K
  obtain ⟨Qc, free, hQ, hr, hlocks, hf, hq⟩ := hR
  intro hC hK hH hE hA H locs ls hP hD hS hl
  exact w_mono hQ (W.lret hC.1 hC.2.1 hr (fun t ht hW => hq _ ws H locs t h hP hD hS (va_K.moved hW.alike hK) ht) (fun q z => hf _ (hS.2.2 q z)) d hlocks)
theorem v_fret {v : UInt32} (hR : Ret K G fin (some .float) k n) (d : decode cc pc = .ok (.freturn, 1)) (h : fin (some (.float v)) ws) : V K G cc own nL R k n pc lv [.float v] ws := by
  obtain ⟨p, l, e, s, m, args, below, meth, c, A, H0, Q⟩ := K
  obtain ⟨Qc, free, hQ, hr, hlocks, hf, hq⟩ := hR
  intro hC hK hH hE hA H locs ls hP hD hS hl
  exact w_mono hQ (W.fret hC.1 hC.2.1 hr (fun t ht hW => hq _ ws H locs t h hP hD hS (va_K.moved hW.alike hK) ht) (fun q z => hf _ (hS.2.2 q z)) d hlocks)
theorem v_dret {v : UInt64} (hR : Ret K G fin (some .double) k n) (d : decode cc pc = .ok (.dreturn, 1)) (h : fin (some (.double v)) ws) : V K G cc own nL R k n pc lv [.double v] ws := by
  obtain ⟨p, l, e, s, m, args, below, meth, c, A, H0, Q⟩ := K
  obtain ⟨Qc, free, hQ, hr, hlocks, hf, hq⟩ := hR
  intro hC hK hH hE hA H locs ls hP hD hS hl
  exact w_mono hQ (W.dret hC.1 hC.2.1 hr (fun t ht hW => hq _ ws H locs t h hP hD hS (va_K.moved hW.alike hK) ht) (fun q z => hf _ (hS.2.2 q z)) d hlocks)
theorem v_zret {v : Int32} {t : FieldType} (hR : Ret K G fin (some t) k n) (d : decode cc pc = .ok (.ireturn, 1)) (hn : narrow t (.int v) = .int v) (h : fin (some (.int v)) ws) : V K G cc own nL R k n pc lv [.int v] ws := by
  obtain ⟨p, l, e, s, m, args, below, meth, c, A, H0, Q⟩ := K
  obtain ⟨Qc, free, hQ, hr, hlocks, hf, hq⟩ := hR
  intro hC hK hH hE hA H locs ls hP hD hS hl
  exact w_mono hQ (W.zret hC.1 hC.2.1 hr hn (fun t ht hW => hq _ ws H locs t h hP hD hS (va_K.moved hW.alike hK) ht) (fun q z => hf _ (hS.2.2 q z)) d hlocks)
theorem v_vret (hR : Ret K G fin none k n) (d : decode cc pc = .ok (.return_, 1)) (h : fin none ws) : V K G cc own nL R k n pc lv [] ws := by
  obtain ⟨p, l, e, s, m, args, below, meth, c, A, H0, Q⟩ := K
  obtain ⟨Qc, free, hQ, hr, hlocks, hf, hq⟩ := hR
  intro hC hK hH hE hA H locs ls hP hD hS hl
  exact w_mono hQ (W.vret hC.1 hC.2.1 hr (fun t ht hW => hq _ ws H locs t h hP hD hS (va_K.moved hW.alike hK) ht) (fun q z => hf _ (hS.2.2 q z)) d hlocks)
end VL
/-- **a method's contract**: from the world wc it returns, with an answer and a world that fin allows -/
def MtQ (G : Gx) (fin : Option Value → va_W → Prop) (wc : va_W) (sz : Nat) : Array Value → State → Outcome → State → Prop := fun _ st oc t => (∃ (v : Option Value) (w1 : va_W), oc = .returned v ∧ fin v w1 ∧ va_P G.1 vwCl w1 t.heap ∧ va_K G.1 vwCl (tyl G) t ∧ va_D (va_A wc sz) w1) ∧ va_F (va_A wc sz) st t
def Mt (l : Launch) (G : Gx) (y : MethodName) (b : ByteArray) (nL : Nat) (rt : Option FieldType) (rm : Room) (av : List Value) (wc : va_W) (fin : Option Value → va_W → Prop) : Prop :=
  ∀ sz : Nat, Met l y (Cond.code y b nL rt :: GT) rm (va_Pc av (fun U => U.heap.size = sz ∧ va_P G.1 vwCl wc U.heap ∧ va_K G.1 vwCl (tyl G) U ∧ va_D (fun _ => True) wc ∧ EV G (va_A wc sz) U U.heap)) (MtQ G fin wc sz) rm.cells rm.slots (va_A wc sz)
/-- one answer, one world -/
def D1 (v0 : Option Value) (w0 : va_W) : Option Value → va_W → Prop := fun v w => v = v0 ∧ w = w0
theorem Mt.of {l : Launch} {G : Gx} {y : MethodName} {b : ByteArray} {nL : Nat} {rt : Option FieldType} {rm : Room} {av : List Value} {wc : va_W} {fin : Option Value → va_W → Prop} (hy : plainName y.cls = true) (hlen : (lg_sl av).length ≤ nL)
    (body : ∀ K : Kx, K.2.1 = l → K.2.2.2.2.2.2.2.1.name = y.name → Ret K G fin rt rm.cells rm.slots → V K G b y.cls nL rm 0 0 0 (lv_args 0 av) [] wc) : Mt l G y b nL rt rm av wc fin := by
  intro sz
  refine Met.ofW (cc := b) (maxL := nL) (ret := rt) hy rfl ?_
  intro p e s m args below meth c s₁ B hml hv
  obtain ⟨rfl, hsz, hP, hK, hD0, hE⟩ := hv
  have hts := atoms_spec (ws := Cond.code y b nL rt :: GT) B.pre
  have hown : s.vm.findClass y.cls = some m.cls := findClass_of_methodNamed B.named
  subst hsz
  have hD := hD0.self (sz := s.heap.size)
  have hb := body (p, l, e, s, m, av.toArray, below, meth, c, va_A wc s.heap.size, s.heap, MQ below (MtQ G fin wc s.heap.size) av.toArray s rm.cells rm.slots (va_A wc s.heap.size)) rfl (name_of_methodNamed B.named B.method).1 ⟨MtQ G fin wc s.heap.size, va_A wc s.heap.size, fun t h => h, B.returns, B.notSynchronized, fun q h => h, fun v w H locs t hf hP hD hS hK ht => ⟨⟨v, w, rfl, hf, by rw [ht]; exact hP, hK, hD⟩, hS.F ht⟩⟩
  rw [lg_entry_eq]
  exact hb ⟨B.exec, B.bytes, hml, hown, fun w h => hts w (List.mem_cons_of_mem _ h)⟩ hK rfl hE (fun q h => Or.inr h) s.heap [] _ hP hD va_S.rf (lv_entry av hlen)
section VC
variable {p : Program} {l : Launch} {e : Env} {R : Room} {s : State} {m : MethodId} {args : Array Value} {below : List Frame} {meth : Method} {c : Code} {H H0 : Heap} {locs : List Loc} {k n mc ms pc : Nat} {Q : State → Prop} {G : Gx} {A : Nat → Prop} {ls : Array Slot} {st0 rest : List Value} {fin : Option Value → va_W → Prop} {ws wc wr : va_W}
theorem w_after (hr : va_Run p l e R s m args below meth c H locs k n mc ms (F0 m pc ls st0) rest (fun st oc t => (∃ (v : Option Value) (w1 : va_W), oc = .returned v ∧ fin v w1 ∧ va_P G.1 vwCl w1 t.heap ∧ va_K G.1 vwCl (tyl G) t ∧ va_D (va_A wc H.size) w1) ∧ va_F (va_A wc H.size) st t) (va_A wc H.size))
    (hP : va_P G.1 vwCl ws H) (hD : va_D A ws) (hS : va_S A H0 H locs) (hA : ∀ q, H0.size ≤ q → A q) (isC isR : List Nat) (hC : isC.map (fun i => ws[i]?) = wc.map some) (hR : isR.map (fun i => ws[i]?) = wr.map some) (hn : va_nd isR = true) (hdis : ∀ i ∈ isR, i ∉ isC)
    (kk : ∀ (v : Option Value) (w1 : va_W) (H1 : Heap) (locs1 : List Loc), fin v w1 → va_P G.1 vwCl (wr ++ w1) H1 → va_D A (wr ++ w1) → va_S A H0 H1 locs1 → W p l e R s m args below meth c H1 locs1 (k + mc) (n + ms) Q (F0 m (pc + 3) ls (v.toList ++ rest))) : W p l e R s m args below meth c H locs k n Q (F0 m pc ls st0) := by
  have hF := va_free hD hS hA isC hC
  intro T hT X
  obtain ⟨v, st₀, t, T', L, h0, X', hL, e1, e2, ⟨⟨v', w1, hv, hfin, hP1, hK1, hD1⟩, hz, hk⟩, st⟩ := hr T hT X
  cases hv
  rw [h0] at hz hk
  obtain ⟨hP2, hD2⟩ := va_join hP hD isC isR hC hR hn hdis (H1 := T'.heap) (fun q h1 h2 => by rw [e1]; exact hk q h1 h2) hF (by rw [e1]; exact hP1) hD1
  obtain ⟨t2, a1, b1⟩ := kk v w1 T'.heap (locs ++ L) hfin hP2 hD2
    ⟨Nat.le_trans hS.1 (by rw [e1]; exact hz), fun q h1 h2 => by rw [e1, hk q (Nat.lt_of_lt_of_le h1 hS.1) (fun z => h2 (hF q z))]; exact hS.2.1 q h1 h2, fun q hq => by
      rcases List.mem_append.mp hq with h | h
      · exact hS.2.2 q h
      · exact hF _ (hL q h)⟩ T' rfl X'
  exact ⟨t2, st t2 a1, b1⟩
theorem mt_pre {av : List Value} (hP : va_P G.1 vwCl wc H) (hD : va_D A wc) (hK : va_K G.1 vwCl (tyl G) s) (hE : EV G (va_A wc H.size) s H) (U : State) (hU : U.heap = H) (hW : s.WarmedH U.vm) : va_Pc av (fun U => U.heap.size = H.size ∧ va_P G.1 vwCl wc U.heap ∧ va_K G.1 vwCl (tyl G) U ∧ va_D (fun _ => True) wc ∧ EV G (va_A wc H.size) U U.heap) av.toArray U :=
  ⟨rfl, by rw [hU], by rw [hU]; exact hP, va_K.moved hW.alike hK, hD.weaken (fun _ _ _ _ => trivial), by rw [hU]; exact hE.warm hW⟩
theorem mt_blind {av : List Value} {sz : Nat} : FrameBlind (va_Pc av (fun U => U.heap.size = sz ∧ va_P G.1 vwCl wc U.heap ∧ va_K G.1 vwCl (tyl G) U ∧ va_D (fun _ => True) wc ∧ EV G (va_A wc sz) U U.heap)) := fun a U g mk q => by
  obtain ⟨q0, q1, qP, qK, qD, qE⟩ := q
  exact ⟨q0, q1, qP, va_K.moved (u := U) (U := U.calling g mk a) (Vm.Alike.refl U.vm) qK, qD, EV.same (u := U) (U := U.calling g mk a) (H := U.heap) rfl qE⟩
theorem ev_call (hE : EV G A s H0) (hS : va_S A H0 H locs) (hF : ∀ q, va_A wc H.size q → A q) : EV G (va_A wc H.size) s H := (hE.kept (fun a h1 h2 => hS.2.1 a h1 h2)).narrow hF
end VC
section VD
variable {K : Kx} {G : Gx} {cc : ByteArray} {own : String} {nL : Nat} {R : Room} {k n pc : Nat} {lv : List (Nat × Value)} {rest : List Value} {ws wc wr w1 ws' : va_W} {fin : Option Value → va_W → Prop} {y : MethodName} {b : ByteArray} {mL : Nat} {rt : Option FieldType} {rm : Room} {i : Nat} {av As : List Value}

theorem v_callS (hM : Mt (K.2.1) G y b mL rt rm As wc fin) (isC isR : List Nat) (d : decode cc pc = .ok (.invokestatic i, 3)) (h1 : Cond.methodLink own i y ∈ GT) (h2 : Cond.static y ∈ GT) (h3 : Cond.initialized y.cls ∈ GT) (h4 : Cond.code y b mL rt ∈ GT) (hd :  y.cls ≠ "java/lang/invoke/MethodHandle" ∧ y.cls ≠ "java/lang/invoke/VarHandle" ∧ (parseMethodDescriptor y.desc).map (fun d => d.parameters.length) = some As.length) (hr : rm.frames + 1 ≤ R.frames ∧ 8 + (mL + 11) + rm.locals ≤ R.locals) (hks : k + rm.cells ≤ R.cells ∧ n + rm.slots ≤ R.slots) (hst : (rest.map fun v => v.category).sum ≤ 8) (hC : isC.map (fun i => ws[i]?) = wc.map some) (hR : isR.map (fun i => ws[i]?) = wr.map some) (hP1 : isC.filterMap (fun i => ws[i]?) = wc) (hn : va_nd isC = true) (hn2 : va_nd isR = true) (hdis : ∀ i ∈ isR, i ∉ isC) (kk : ∀ (v : Option Value) (w1 : va_W), fin v w1 → V K G cc own nL R (k + rm.cells) (n + rm.slots) (pc + 3) lv (v.toList ++ rest) (wr ++ w1)) : V K G cc own nL R k n pc lv (As.reverse ++ rest) ws := by
  obtain ⟨p, l, e, s, m, args, below, meth, c, A, H0, Q⟩ := K; intro hX hK hH hE hA H locs ls hP hD hS hl
  have hP' := hP.sub isC hP1
  have hD' := hD.sub isC hn hC
  have hF := va_free hD hS hA isC hC
  have hE' := ev_call (by rw [hH]; exact hE) hS hF
  refine w_after (va_runS (As := As) (rest := rest) (ws := Cond.code y b mL rt :: GT) hX (hM H.size) (va_cwS As.length hX.2.2.2.2 ?_ rfl rfl rfl hd hr) ⟨mt_blind, fun U hU hW => mt_pre hP' hD' hK hE' U hU hW⟩ rfl rfl hl.1 rfl (lv_room hst) d hks) hP hD hS hA isC isR hC hR hn2 hdis (fun v w1 H1 locs1 hf hP hD hS => kk v w1 hf hX hK hH hE hA H1 locs1 ls hP hD hS hl)
  exact gt_cons h1 (gt_cons h2 (gt_cons h3 (gt_cons h4 gt_self)))
theorem v_callV {a ci q0 : Nat} {fs : List Value} {T : u_T} {N : Nat} (hM : Mt (K.2.1) G y b mL rt rm (Value.ref a :: As) wc fin) (isC isR : List Nat) (d : decode cc pc = .ok (.invokevirtual i, 3)) (h1 : Cond.methodLink own i y ∈ GT) (h2 : Cond.instanceMethod y ∈ GT) (h3 : Cond.initialized y.cls ∈ GT) (h4 : Cond.code y b mL rt ∈ GT) (h5 : Cond.selects y.cls y y ∈ GT) (hd :  y.cls ≠ "java/lang/invoke/MethodHandle" ∧ y.cls ≠ "java/lang/invoke/VarHandle" ∧ (parseMethodDescriptor y.desc).map (fun d => d.parameters.length) = some As.length) (hr : rm.frames + 1 ≤ R.frames ∧ 8 + (mL + 11) + rm.locals ≤ R.locals) (hks : k + rm.cells ≤ R.cells ∧ n + rm.slots ≤ R.slots) (hst : (rest.map fun v => v.category).sum ≤ 8) (hC : isC.map (fun i => ws[i]?) = wc.map some) (hR : isR.map (fun i => ws[i]?) = wr.map some) (hP1 : isC.filterMap (fun i => ws[i]?) = wc) (hn : va_nd isC = true) (hn2 : va_nd isR = true) (hdis : ∀ i ∈ isR, i ∉ isC) (he : ws[q0]? = some (a, .inr (ci, fs))) (hc : vwCl[ci]? = some (y.cls, T, N)) (kk : ∀ (v : Option Value) (w1 : va_W), fin v w1 → V K G cc own nL R (k + rm.cells) (n + rm.slots) (pc + 3) lv (v.toList ++ rest) (wr ++ w1)) : V K G cc own nL R k n pc lv (As.reverse ++ .ref a :: rest) ws := by
  obtain ⟨p, l, e, s, m, args, below, meth, c, A, H0, Q⟩ := K; intro hX hK hH hE hA H locs ls hP hD hS hl
  have hP' := hP.sub isC hP1
  have hD' := hD.sub isC hn hC
  have hF := va_free hD hS hA isC hC
  have hE' := ev_call (by rw [hH]; exact hE) hS hF
  refine w_after (va_runV (C := y.cls) (b := a) (As := As) (rest := rest) (ws := Cond.code y b mL rt :: GT) hX (hM H.size) (cwV As.length hX.2.2.2.2 ?_ rfl rfl rfl ⟨rfl, hd⟩ hr) ⟨mt_blind, va_recv hK hP hc he, fun U hU hW => mt_pre hP' hD' hK hE' U hU hW⟩ rfl rfl hl.1 rfl (lv_room hst) d hks) hP hD hS hA isC isR hC hR hn2 hdis (fun v w1 H1 locs1 hf hP hD hS => kk v w1 hf hX hK hH hE hA H1 locs1 ls hP hD hS hl)
  exact gt_cons h1 (gt_cons h2 (gt_cons h5 (gt_cons h3 (gt_cons h4 gt_self))))
theorem v_callI {a : Nat} (hM : Mt (K.2.1) G y b mL rt rm (Value.ref a :: As) wc fin) (isC isR : List Nat) (d : decode cc pc = .ok (.invokespecial i, 3)) (h1 : Cond.methodLink own i y ∈ GT) (h2 : Cond.instanceMethod y ∈ GT) (h3 : Cond.initialized y.cls ∈ GT) (h4 : Cond.code y b mL rt ∈ GT) (hrt : rt = none) (hy1 : y.name = "<init>") (hd :  y.cls ≠ "java/lang/invoke/MethodHandle" ∧ y.cls ≠ "java/lang/invoke/VarHandle" ∧ (parseMethodDescriptor y.desc).map (fun d => d.parameters.length) = some As.length) (hr : rm.frames + 1 ≤ R.frames ∧ 8 + (mL + 11) + rm.locals ≤ R.locals) (hks : k + rm.cells ≤ R.cells ∧ n + rm.slots ≤ R.slots) (hst : (rest.map fun v => v.category).sum ≤ 8) (hC : isC.map (fun i => ws[i]?) = wc.map some) (hR : isR.map (fun i => ws[i]?) = wr.map some) (hP1 : isC.filterMap (fun i => ws[i]?) = wc) (hn : va_nd isC = true) (hn2 : va_nd isR = true) (hdis : ∀ i ∈ isR, i ∉ isC) (kk : ∀ (v : Option Value) (w1 : va_W), fin v w1 → V K G cc own nL R (k + rm.cells) (n + rm.slots) (pc + 3) lv (v.toList ++ rest) (wr ++ w1)) : V K G cc own nL R k n pc lv (As.reverse ++ .ref a :: rest) ws := by
  obtain ⟨p, l, e, s, m, args, below, meth, c, A, H0, Q⟩ := K; intro hX hK hH hE hA H locs ls hP hD hS hl
  have hP' := hP.sub isC hP1
  have hD' := hD.sub isC hn hC
  have hF := va_free hD hS hA isC hC
  have hE' := ev_call (by rw [hH]; exact hE) hS hF
  subst hrt
  refine w_after (va_runI (b := a) (As := As) (rest := rest) (ws := Cond.code y b mL none :: GT) hX (hM H.size) (cwI As.length hX.2.2.2.2 ?_ rfl rfl rfl (hX.2.2.2.2 _ h3) (hX.2.2.2.2 _ h1) (hX.2.2.2.2 _ h2) hy1 hd hr) ⟨mt_blind, fun U hU hW => mt_pre hP' hD' hK hE' U hU hW⟩ rfl rfl hl.1 rfl (lv_room hst) d hks) hP hD hS hA isC isR hC hR hn2 hdis (fun v w1 H1 locs1 hf hP hD hS => kk v w1 hf hX hK hH hE hA H1 locs1 ls hP hD hS hl)
  exact gt_cons h4 gt_self
end VD
