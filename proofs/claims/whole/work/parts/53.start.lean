/-! THE CLAIM OUT OF ONE WALK OF THE LAW'S BODY. Your part is whole_start (and what it stands on); all else here is the same for every law, but numbers. -/
def R_law : String := "SealhouseLaw"
def lw_P (b : Addr) (xs : List Int32) (args : Array Value) (s : State) : Prop := args = #[.ref b] ∧ s.IntsAt b xs ∧ xs.length ≤ 2560 ∧ (Jvm.Cond.and given_1 narrow_1).before args s = true
/-- what a walk over the start with the record d0 says of its end, said of the start itself -/
theorem lw_closed {s t : State} {o : Outcome} {d0 : Drawn} {L : List Loc} {k n : Nat} (hd0 : s.drawn.sameBut d0 lw_cs) (hv : ∃ v, o = .returned v) (hW : (s.setDrawn d0).WarmedH t.vm) (hs : (s.setDrawn d0).sameButNew ({ t with vm := s.vm } : State) L k n) : State.butDraws s t lw_cs (fun t1 => Framed s o t1 L k n) := by
  have h2 : t.drawn = d0 := congrArg State.drawn hs.1
  refine ⟨⟨hv, hW, State.sameButNew.setDrawn hs s.drawn⟩, ?_, by decide⟩
  rw [h2]
  exact hd0
def lw_Q (_ : Array Value) (s : State) (o : Outcome) (t : State) : Prop := o = .returned (some (.int 1)) ∧ State.butDraws s t lw_cs (fun t1 => Framed s o t1 [] 601024 7293034)
def lw_Z (below : List Frame) (a : Array Value) (s : State) : State → Prop := fun t => ∃ o, t.status = .running ∧ Ended t below o ∧ lw_Q a s o t
/-- the law's own end, with 1 on the stack, nothing written that was there before, its room as the claim has it; d0: the record of draws at this point (at the entry s.drawn: begin with 'refine W.base ?_' and 'have hd0 := Drawn.sameBut.refl s.drawn lw_cs') -/
theorem lw_ret {p : Program} {l : Launch} {e : Env} {s : State} {m : MethodId} {below : List Frame} {meth : Method} {c : Code} {b : Nat} {d0 : Drawn} (hd0 : s.drawn.sameBut d0 lw_cs) (hx : p.tables.exec = Jvm.exec) (hb : c.code = code) (hr : meth.sig.returnType = ret) (hlocks : meth.locks = false) {pc : Nat} {H : Heap} {ls : Array Slot} (hdg : decode code pc = .ok (.ireturn, 1)) : W p l e room_1 (s.setDrawn d0) m #[Value.ref b] below meth c H [] 601024 7293034 (lw_Z below #[Value.ref b] s) (F0 m pc ls [.int 1]) := by
  intro T hT X
  obtain ⟨fs, hret, hrun, hended, hW, hframe⟩ := X.leave (v := some (.int 1)) (hlocks := hlocks) (fun h => by rw [hr] at h; cases h)
  have hmeth' : T.vm.method? m = some meth := X.method'
  refine ⟨T.setFrames fs, ?_, .returned (some (.int 1)), hrun, hended, rfl, lw_closed hd0 ⟨_, rfl⟩ hW hframe⟩
  jvm_step X.here [X.here.top, hx, hb, hdg, hmeth', hr, ret, narrow_b1]
  (try refine ⟨rfl, ?_⟩); (try refine ⟨rfl, ?_⟩)
  first | (intro acts; rw [hret _ acts rfl rfl rfl]) | rw [hret _ _ rfl rfl rfl]
  exact Steps.refl _
/-- what holds at the law's entry: the machine, the code, the tables' words (any of lw_tbl by 'hts w (by decide +kernel)'), the script of L ints xs at the cell b, what the Statement gives of the start (any of its parts by flat_of_before) -/
def lw_At (p : Program) (s : State) (m : MethodId) (meth : Method) (c : Code) (b L : Nat) (xs : Nat → Int32) : Prop :=
  p.tables.exec = Jvm.exec ∧ c.code = code ∧ meth.sig.returnType = ret ∧ c.maxLocals = 9 ∧ s.vm.findClass R_law = some m.cls ∧ (∀ w ∈ lw_tbl, w.before #[Value.ref b] s = true) ∧ va_X b L xs s s.heap ∧ b < s.heap.size ∧ meth.locks = false ∧ (Jvm.Cond.and given_1 narrow_1).before #[Value.ref b] s = true
/-! what the Statement gives of the start, in the words of the walk -/
def tyJ : List FieldType := [.char, .int, .long, .boolean]
theorem arr_known {ty : FieldType} {args : Array Value} {s : State} (hp : ∀ C, ty ≠ .object C) (h : (Cond.arrayClass ty).before args s = true) : ∃ cA, ArrOfT s cA ty ∧ va_RA s cA ty := by
  obtain ⟨cA, kA, comp, h1, h2, h3⟩ := Cond.arrayClass_spec (args := args) (first := s) (o := none) (s := s) (idx := []) h
  refine ⟨cA, fun n z => ⟨fun k h => (by cases h), kA, h2, comp, h3⟩, ?_⟩
  cases ty with
  | object C => exact (hp C rfl).elim
  | _ => exact h1
def tmJ (i : Nat) : Term := .string (strJ.getD i ("", 0, "", 0)).1 (strJ.getD i ("", 0, "", 0)).2.1
theorem tmJ_q : ∀ q ∈ strJ, q.2.2.2 < 12 ∧ tmJ q.2.2.2 = .string q.1 q.2.1 := by decide +kernel
theorem lenJ_31 : ∀ i, i < 3 → lenJ.getD i 0 < 2 ^ 31 := by decide
def flJ : List Cond := flatC (Jvm.Cond.and given_1 narrow_1)
theorem fl_ex : ∀ i, i < 12 → Cond.exactly (tmJ i) "java/lang/String" ∈ flJ := by decide +kernel
theorem fl_co : ∀ i, i < 3 → Cond.eq (.field (tmJ i) "java/lang/String" "coder" "B") (.int 0) ∈ flJ := by decide +kernel
theorem fl_ar : ∀ i, i < 3 → Cond.arrayOf (.field (tmJ i) "java/lang/String" "value" "[B") .byte ∈ flJ := by decide +kernel
theorem fl_le : ∀ i, i < 3 → Cond.eq (.length (.field (tmJ i) "java/lang/String" "value" "[B")) (.int (Int32.ofNat (lenJ.getD i 0))) ∈ flJ := by decide +kernel
theorem fl_el : ∀ i, i < 3 → ∀ j, j < lenJ.getD i 0 → Cond.eq (.elem (.field (tmJ i) "java/lang/String" "value" "[B") (.int (Int32.ofNat j))) (.int ((bytJ.getD i []).getD j 0)) ∈ flJ := by decide +kernel
theorem tb_str : ∀ q ∈ strJ, Cond.stringRef q.1 q.2.1 q.2.2.1 ∈ lw_tbl := by decide +kernel
theorem str_known {args : Array Value} {s : State} {A : Nat → Prop} (hs : ∀ w ∈ flJ, w.before args s = true) (hA : ∀ a : Nat, a < s.heap.size → ¬ A a) (i : Nat) :
    ∃ q : Nat × Nat, i < 12 → (tmJ i).eval args s none [] s = some (.ref q.1) ∧ (i < 3 → va_O "java/lang/String" q.1 A s s.heap ∧ va_OF "java/lang/String" "coder" "B" (.int 0) q.1 A s s.heap ∧ va_OF "java/lang/String" "value" "[B" (.ref q.2) q.1 A s s.heap ∧ va_T .byte q.2 (lenJ.getD i 0) (fun j => .int ((bytJ.getD i []).getD j 0)) A s s.heap) := by
  by_cases hi : i < 12
  · obtain ⟨a, c, cA, kA, q1, -, -, -, -, -, -⟩ := Cond.exactly_spec (args := args) (first := s) (o := none) (s := s) (idx := []) (t := tmJ i) (cls := "java/lang/String") (hs _ (fl_ex i hi))
    by_cases h3 : i < 3
    · obtain ⟨t, ht, hT⟩ := va_Tof (f := fun j => .int ((bytJ.getD i []).getD j 0)) (A := A) (lenJ_31 i h3) (hs _ (fl_ar i h3)) (va_eqt (hs _ (fl_le i h3))) (fun j hj => va_eqt (hs _ (fl_el i h3 j hj))) hA
      exact ⟨(a, t), fun _ => ⟨q1, fun _ => ⟨va_Oof (hs _ (fl_ex i hi)) q1 hA, vk_OFof q1 (va_eqt (hs _ (fl_co i h3))) hA, vk_OFof q1 ht hA, hT⟩⟩⟩
    · exact ⟨(a, 0), fun _ => ⟨q1, fun h => absurd h h3⟩⟩
  · exact ⟨(0, 0), fun h => absurd h hi⟩
theorem cls_known {args : Array Value} {s : State} (h : ∀ w ∈ GT, w.before args s = true) (k : Nat) : ∃ z : ClassId × (Nat → Nat), ∀ q, vwCl[k]? = some q → u_Kn s q.1 q.2.1 q.2.2 z.1 z.2 := by
  obtain ⟨c0, i0, h0⟩ := u_known (C := RX1) (T := TX1) (N := 3) (n := 3) h gin_X1 (h (.instantiable RX1 3) (by decide +kernel))
  match k with
  | 0 => exact ⟨(c0, i0), fun q hq => by cases hq; exact h0⟩
  | 1 => obtain ⟨c, i, hh⟩ := u_known (C := RX2) (T := TX2) (N := 1) (n := 1) h gin_X2 (h (.instantiable RX2 1) (by decide +kernel)); exact ⟨(c, i), fun q hq => by cases hq; exact hh⟩
  | 2 => obtain ⟨c, i, hh⟩ := u_known (C := RX3) (T := TX3) (N := 5) (n := 5) h gin_X3 (h (.instantiable RX3 5) (by decide +kernel)); exact ⟨(c, i), fun q hq => by cases hq; exact hh⟩
  | 3 => obtain ⟨c, i, hh⟩ := u_known (C := RX4) (T := TX4) (N := 5) (n := 5) h gin_X4 (h (.instantiable RX4 5) (by decide +kernel)); exact ⟨(c, i), fun q hq => by cases hq; exact hh⟩
  | 4 => obtain ⟨c, i, hh⟩ := u_known (C := RX5) (T := TX5) (N := 1) (n := 1) h gin_X5 (h (.instantiable RX5 1) (by decide +kernel)); exact ⟨(c, i), fun q hq => by cases hq; exact hh⟩
  | 5 => obtain ⟨c, i, hh⟩ := u_known (C := RX7) (T := TX7) (N := 6) (n := 6) h gin_X7 (h (.instantiable RX7 6) (by decide +kernel)); exact ⟨(c, i), fun q hq => by cases hq; exact hh⟩
  | 6 => obtain ⟨c, i, hh⟩ := u_known (C := RX8) (T := TX8) (N := 20) (n := 20) h gin_X8 (h (.instantiable RX8 20) (by decide +kernel)); exact ⟨(c, i), fun q hq => by cases hq; exact hh⟩
  | k + 7 => exact ⟨(c0, i0), fun q hq => nomatch hq⟩
theorem tys_known {args : Array Value} {s : State} (h : ∀ w ∈ GT, w.before args s = true) (k : Nat) : ∃ z : ClassId, ∀ t, tyJ[k]? = some t → ArrOfT s z t ∧ va_RA s z t := by
  obtain ⟨c0, h0⟩ := arr_known (ty := .char) (fun C => nofun) (h (.arrayClass .char) (by decide +kernel))
  match k with
  | 0 => exact ⟨c0, fun t ht => by cases ht; exact h0⟩
  | 1 => obtain ⟨c, hh⟩ := arr_known (ty := .int) (fun C => nofun) (h (.arrayClass .int) (by decide +kernel)); exact ⟨c, fun t ht => by cases ht; exact hh⟩
  | 2 => obtain ⟨c, hh⟩ := arr_known (ty := .long) (fun C => nofun) (h (.arrayClass .long) (by decide +kernel)); exact ⟨c, fun t ht => by cases ht; exact hh⟩
  | 3 => obtain ⟨c, hh⟩ := arr_known (ty := .boolean) (fun C => nofun) (h (.arrayClass .boolean) (by decide +kernel)); exact ⟨c, fun t ht => by cases ht; exact hh⟩
  | k + 4 => exact ⟨c0, fun t ht => nomatch ht⟩
set_option maxHeartbeats 8000000 in
set_option maxRecDepth 100000 in
theorem whole_start {p : Program} {e : Env} {s : State} {m : MethodId} {below : List Frame} {meth : Method} {c : Code} (l : Launch) (hflags : l.flags = flags0) {b L : Nat} {xs : Nat → Int32} (hL : L ≤ 2560) (C0 : lw_At p s m meth c b L xs) : W p l e room_1 s m #[Value.ref b] below meth c s.heap [] 0 0 (lw_Z below #[Value.ref b] s) (entryFrame m ([Value.ref b] : List Value).toArray 9) := by
  obtain ⟨hx, hb, hr, hml, hown, hts, hX, hbl, hlocks, hgv⟩ := id C0
  have hls : l.stackTraces = false := by
    unfold Launch.stackTraces
    rw [hflags]
    decide
  have hs : ∀ w ∈ flJ, w.before #[Value.ref b] s = true := flat_of_before _ hgv
  have hGT : ∀ w ∈ GT, w.before #[Value.ref b] s = true := fun w h => hts w ((List.mem_filter.mp h).1)
  obtain ⟨dC, hC⟩ := Classical.axiomOfChoice (cls_known hGT)
  obtain ⟨dT, hT⟩ := Classical.axiomOfChoice (tys_known hGT)
  have hA : ∀ a : Nat, a < s.heap.size → ¬ (fun q : Nat => s.heap.size ≤ q) a := fun a h h2 => absurd h2 (Nat.not_le.mpr h)
  obtain ⟨ad, had⟩ := Classical.axiomOfChoice (str_known (A := fun q : Nat => s.heap.size ≤ q) hs hA)
  obtain ⟨G, hG⟩ : ∃ G : Gx, G = ((fun k => (dC k).1, fun k => (dC k).2), dT, fun i => (ad i).1, fun i => (ad i).2) := ⟨_, rfl⟩
  have hK : va_K G.1 vwCl (tyl G) s := by
    rw [hG]
    refine ⟨fun k q hq => hC k q hq, fun k q hq => ?_⟩
    match k with
    | 0 => cases hq; exact hT 0 _ rfl
    | 1 => cases hq; exact hT 1 _ rfl
    | 2 => cases hq; exact hT 2 _ rfl
    | 3 => cases hq; exact hT 3 _ rfl
    | k + 4 => exact nomatch hq
  have hE : EV G (fun q : Nat => s.heap.size ≤ q) s s.heap := by
    rw [hG]
    refine ⟨⟨vx_Zqof (hts _ (by decide +kernel)) (hts _ (by decide +kernel)) (hs _ (by decide +kernel)) hA, vx_Zqof (hts _ (by decide +kernel)) (hts _ (by decide +kernel)) (hs _ (by decide +kernel)) hA⟩, va_Zqof (hts _ (by decide +kernel)) (hts _ (by decide +kernel)) (hs _ (by decide +kernel)) hA, va_Zof (hts _ (by decide +kernel)) (hts _ (by decide +kernel)) (va_eqt (hs _ (by decide +kernel))) hA, fun i hi => (had i (by omega)).2 hi, fun q hq => ?_, fun w hw hd => va_Nw.of (isDC_on hd) (hts w hw), va_Nc.of (hs _ (by decide +kernel)), va_Nc.of (hs _ (by decide +kernel)), va_Nc.of (hs _ (by decide +kernel))⟩
    obtain ⟨h1, h2⟩ := tmJ_q q hq
    have h3 := (had _ h1).1
    rw [h2] at h3
    exact vk_R.of (hts _ (tb_str q hq)) h3
  obtain ⟨K, hKx⟩ : ∃ K : Kx, K = (p, l, e, s, m, #[Value.ref b], below, meth, c, (fun q : Nat => s.heap.size ≤ q), s.heap, lw_Z below #[Value.ref b] s) := ⟨_, rfl⟩
  have hV : V K G cL_law RL 9 room_1 0 0 0 [(0, .ref b)] [] [] := by
    refine law_s K l (by rw [hKx]) G ?_
    intro ox om am oc ac orr ar oh as ao ab aq an re rn ra rv rb rs rc rq tq od ad mo m1 m2 m3 m4 m5 m6 m8 m9 m10 m11 m12 m13 m14 m15 m16 m19 oo
    have hS : Sim iniX inY := ini_sim
    have hScr : Scr K b L xs := by rw [hKx]; exact ⟨hX, hbl, Nat.not_le.mpr hbl⟩
    have hend : ∀ (k n : Nat) (lv : List (Nat × Value)) (ws : va_W), k ≤ 601024 → n ≤ 7293034 → V K G cL_law RL 9 room_1 k n 2016 lv [.int 1] ws := by
      rw [hKx]
      intro k n lv ws hk hn hC9 hK9 hH9 hE9 hA9 H locs ls hP hD hS9 hl9
      refine va_forget (fun q hq => hS9.2.2 q hq) (W.widen hk hn ?_)
      exact W.base (lw_ret (Drawn.sameBut.refl s.drawn lw_cs) hx hb hr hlocks dL_law_2016)
    exact law_loop K l (by rw [hKx]) hls G hScr hL ox om am oc ac orr ar oh as ao ab aq an re rn ra rv rb rs rc rq tq od ad mo m1 m2 m3 m4 m5 m6 m8 m9 m10 m11 m12 m13 m14 m15 m16 m19 oo 49 2627 (by decide) (by decide) hend 601 0 iniX inY (fun _ => 0) (by decide) (by decide) hS
  rw [hKx] at hV
  have hl := lv_entry ([.ref b]) (n := 9) (Nat.le_of_ble_eq_true rfl)
  rw [lg_entry_eq]
  exact hV ⟨hx, hb, hml, hown, hGT⟩ hK rfl hE (fun q h => h) s.heap [] _ (fun k q h => (by cases h)) ⟨fun i j p q h => (by cases h), fun k q h => (by cases h)⟩ va_S.rf hl
