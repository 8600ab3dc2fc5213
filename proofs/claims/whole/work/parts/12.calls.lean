/-! Calls and Heap: the words of their states -/
def begR (rg : Nat → Int64) (pr c : Nat) (u v : Int64) : Nat → Int64 := vp_updL (vp_updL (vp_updL (vp_updL (clrA rg (pr * 8) ((pr + 1) * 8)) (pr * 8 + 0) u) (pr * 8 + 1) v) (pr * 8 + 6) (wRt (32 + pr * 4) (32 + pr * 4 + 4) (nI (32 + pr * 4)) 111 0)) (pr * 8 + 7) (wRt (c * 8) (c * 8 + 8) (nI (c * 8)) 95 0)
def stA (st : Nat → Nat) (q : Nat) : Nat := if 64 ≤ q ∧ q < 96 then st (q - 64) else 45
def mdF (c : Nat) : Nat := if 16 < c then up c 4 else if 8 < c then up c 2 else c
def freeR (st : Nat → Nat) (b n : Nat) : Bool := allF (fun j => decide (stA st (b + j) = 102)) n
def okB (st : Nat → Nat) (n b : Nat) : Bool := exactB b (b + n) && freeR st b n
def filA (f : Nat → Nat) (x u v : Nat) : Nat → Nat := fun j => if u ≤ j ∧ j < v then x else f j
theorem filA_0 (f : Nat → Nat) (x u : Nat) : filA f x u u = f := by
  funext j; unfold filA; rw [if_neg (by omega)]
theorem filA_s (f : Nat → Nat) (x : Nat) {u i : Nat} (h : u ≤ i) : va_up (filA f x u i) i x = filA f x u (i + 1) := by
  funext j; unfold filA va_up
  by_cases e : j = i
  · subst e; rw [if_pos rfl, if_pos (by omega)]
  · rw [if_neg e]; dsimp only
    by_cases e2 : u ≤ j ∧ j < i
    · rw [if_pos e2, if_pos (by omega)]
    · rw [if_neg e2, if_neg (by omega)]
def rsH (st : Nat → Nat) (h : Nat → Int64) : Nat → (Nat → Int64)
  | 0 => h
  | n + 1 => if stA st (64 + n) = 114 then addH (rsH st h n) 0 (64 + n) else rsH st h n
def relS (st : Nat → Nat) (n : Nat) : Nat → Nat := fun j => if j < n ∧ st j = 114 then 102 else st j
def relC (st ow : Nat → Nat) (ct : Nat → Int32) : Nat → (Nat → Int32)
  | 0 => ct
  | n + 1 => if st n = 114 then upd (relC st ow ct n) (ow n) (relC st ow ct n (ow n) - nI 1) else relC st ow ct n
theorem relS_0 (st : Nat → Nat) : relS st 0 = st := by
  funext j; unfold relS; rw [if_neg (by omega)]
theorem relS_i (st : Nat → Nat) (i : Nat) : relS st i i = st i := by unfold relS; rw [if_neg (by omega)]
theorem relS_y {st : Nat → Nat} {i : Nat} (h : relS st i i = 114) : va_up (relS st i) i 102 = relS st (i + 1) := by
  rw [relS_i] at h
  funext j; unfold relS va_up
  by_cases e : j = i
  · subst e; rw [if_pos rfl, if_pos ⟨by omega, h⟩]
  · rw [if_neg e]; dsimp only
    by_cases e2 : j < i ∧ st j = 114
    · rw [if_pos e2, if_pos ⟨by omega, e2.2⟩]
    · rw [if_neg e2, if_neg (fun z => e2 ⟨by omega, z.2⟩)]
theorem relS_n {st : Nat → Nat} {i : Nat} (h : relS st i i ≠ 114) : relS st i = relS st (i + 1) := by
  rw [relS_i] at h
  funext j; unfold relS
  by_cases e2 : j < i ∧ st j = 114
  · rw [if_pos e2, if_pos ⟨by omega, e2.2⟩]
  · rw [if_neg e2, if_neg (fun z => e2 ⟨by
      rcases Nat.lt_or_ge j i with q | q
      · exact q
      · have q2 : j = i := by omega
        subst q2; exact absurd z.2 h, z.2⟩)]
theorem relC_y {st ow : Nat → Nat} {ct : Nat → Int32} {i : Nat} (h : relS st i i = 114) : upd (relC st ow ct i) (ow i) (relC st ow ct i (ow i) - nI 1) = relC st ow ct (i + 1) := by
  rw [relS_i] at h; rw [relC, if_pos h]
theorem relC_n {st ow : Nat → Nat} {ct : Nat → Int32} {i : Nat} (h : relS st i i ≠ 114) : relC st ow ct i = relC st ow ct (i + 1) := by
  rw [relS_i] at h; rw [relC, if_neg h]
def ownP (st ow : Nat → Nat) (c : Nat) : Nat → Bool := fun j => decide (st j ≠ 102 ∧ ow j = c)
def cntS (st ow : Nat → Nat) (ct : Nat → Int32) : Nat → Bool := fun c => decide (nI (cntF (ownP st ow c) 32) = ct c)
theorem freeR_s {st : Nat → Nat} {b i : Nat} : freeR st b (i + 1) = (freeR st b i && decide (stA st (b + i) = 102)) := rfl
theorem freeR_false {st : Nat → Nat} {b n i : Nat} (hi : i < n) (h : stA st (b + i) ≠ 102) : freeR st b n = false := allF_false hi (decide_eq_false h)
theorem cntF_y {p : Nat → Bool} {i : Nat} (h : p i = true) : cntF p i + 1 = cntF p (i + 1) := by rw [cntF, h]; rfl
theorem cntF_n {p : Nat → Bool} {i : Nat} (h : p i = false) : cntF p i = cntF p (i + 1) := by rw [cntF, h]; rfl
theorem okB_step {st : Nat → Nat} {n i : Nat} (hno : ∀ x9, 64 ≤ x9 → x9 < i → okB st n x9 = false) (h : okB st n i = false) : ∀ x9, 64 ≤ x9 → x9 < i + 1 → okB st n x9 = false := by
  intro x h1 h2
  rcases Nat.lt_or_ge x i with h3 | h3
  · exact hno x h1 h3
  · rw [show x = i by omega]; exact h
def lowK (p : Nat → Bool) : Nat → Nat
  | 0 => 0
  | n + 1 => if lowK p n < n then lowK p n else if p n then n else n + 1
theorem lowK_le (p : Nat → Bool) : ∀ n, lowK p n ≤ n
  | 0 => Nat.le_refl 0
  | n + 1 => by
    rw [lowK]; have := lowK_le p n
    split
    · omega
    · split <;> omega
theorem lowK_yes {p : Nat → Bool} {k : Nat} (h : p k = true) (hn : ∀ j, j < k → p j = false) : ∀ n, k < n → lowK p n = k
  | 0, h0 => absurd h0 (Nat.not_lt_zero _)
  | n + 1, h0 => by
    rw [lowK]
    rcases Nat.lt_or_ge k n with q | q
    · rw [lowK_yes h hn n q, if_pos q]
    · have e : k = n := by omega
      subst e
      have : ¬ lowK p k < k := by
        intro z
        have : ∀ m, m ≤ k → lowK p m = m := by
          intro m
          induction m with
          | zero => intro _; rfl
          | succ m ih =>
            intro hm
            rw [lowK, ih (by omega), if_neg (Nat.lt_irrefl m), hn m (by omega)]; rfl
        have := this k (Nat.le_refl k)
        omega
      rw [if_neg this, if_pos h]
theorem lowK_no {p : Nat → Bool} : ∀ n, (∀ j, j < n → p j = false) → lowK p n = n
  | 0, _ => rfl
  | n + 1, h => by rw [lowK, lowK_no n (fun j hj => h j (by omega)), if_neg (Nat.lt_irrefl n), h n (by omega)]; rfl
theorem lowK_at {p : Nat → Bool} : ∀ n, lowK p n < n → p (lowK p n) = true
  | 0, h => absurd h (Nat.not_lt_zero _)
  | n + 1, h => by
    rw [lowK] at h ⊢
    split
    · rename_i q; exact lowK_at n q
    · split
      · assumption
      · rename_i q1 q2; rw [if_neg q1, if_neg q2] at h; exact absurd h (Nat.lt_irrefl _)
def lwP (st : Nat → Nat) (n : Nat) : Nat → Bool := fun k => okB st n (64 + k) && decide (64 + k + n ≤ 96)
theorem lowX_ex (p : Nat → Bool) : ∃ z : Nat, z = lowK p 32 := ⟨_, rfl⟩
/-- the same, not to be unfolded -/
noncomputable def lowX (p : Nat → Bool) : Nat := Classical.choose (lowX_ex p)
theorem lowX_eq (p : Nat → Bool) : lowX p = lowK p 32 := Classical.choose_spec (lowX_ex p)
theorem lowX_at {p : Nat → Bool} (h : lowX p < 32) : p (lowX p) = true := by
  rw [lowX_eq] at h ⊢; exact lowK_at 32 h
noncomputable def lowR (st : Nat → Nat) (n : Nat) : Int32 := if lowX (lwP st n) < 32 then nI (64 + lowX (lwP st n)) else -1
theorem lowR_yes {st : Nat → Nat} {n y : Nat} (h1 : 64 ≤ y) (h2 : y + n ≤ 96) (hn : 1 ≤ n) (h : okB st n y = true) (hno : ∀ x9, 64 ≤ x9 → x9 < y → okB st n x9 = false) : lowR st n = nI y := by
  have e : lowX (lwP st n) = y - 64 := (lowX_eq _).trans <| lowK_yes (by unfold lwP; rw [show 64 + (y - 64) = y by omega, h, decide_eq_true h2]; rfl) (fun j hj => by unfold lwP; rw [hno (64 + j) (by omega) (by omega)]; rfl) 32 (by omega)
  unfold lowR
  rw [e, if_pos (by omega), show 64 + (y - 64) = y by omega]
theorem lowR_no {st : Nat → Nat} {n : Nat} (hn : 1 ≤ n) (hno : ∀ x9, 64 ≤ x9 → x9 + n ≤ 96 → okB st n x9 = false) : lowR st n = -1 := by
  have e : lowX (lwP st n) = 32 := (lowX_eq _).trans <| lowK_no 32 (fun j hj => by
    unfold lwP
    rcases Nat.lt_or_ge 96 (64 + j + n) with q | q
    · rw [decide_eq_false (by omega), Bool.and_false]
    · rw [hno (64 + j) (by omega) q]; rfl)
  unfold lowR
  rw [e, if_neg (by omega)]

theorem stA_lt {st : Nat → Nat} (h : ∀ j, st j < 65536) (q : Nat) : stA st q < 65536 := by
  unfold stA; split
  · exact h _
  · decide
theorem dX1_init_0 : decode cX1_init 0 = .ok (.aload_n 0, 1) := by decide +kernel
theorem dX1_init_1 : decode cX1_init 1 = .ok (.invokespecial 3, 3) := by decide +kernel
theorem dX1_init_4 : decode cX1_init 4 = .ok (.aload_n 0, 1) := by decide +kernel
theorem dX1_init_5 : decode cX1_init 5 = .ok (.bipush 8, 2) := by decide +kernel
theorem dX1_init_7 : decode cX1_init 7 = .ok (.newarray .int, 2) := by decide +kernel
theorem dX1_init_9 : decode cX1_init 9 = .ok (.putfield 9, 3) := by decide +kernel
theorem dX1_init_12 : decode cX1_init 12 = .ok (.aload_n 0, 1) := by decide +kernel
theorem dX1_init_13 : decode cX1_init 13 = .ok (.new 15, 3) := by decide +kernel
theorem dX1_init_16 : decode cX1_init 16 = .ok (.dup, 1) := by decide +kernel
theorem dX1_init_17 : decode cX1_init 17 = .ok (.bipush 64, 2) := by decide +kernel
theorem dX1_init_19 : decode cX1_init 19 = .ok (.invokespecial 17, 3) := by decide +kernel
theorem dX1_init_22 : decode cX1_init 22 = .ok (.putfield 20, 3) := by decide +kernel
theorem dX1_init_25 : decode cX1_init 25 = .ok (.aload_n 0, 1) := by decide +kernel
theorem dX1_init_26 : decode cX1_init 26 = .ok (.iconst 0, 1) := by decide +kernel
theorem dX1_init_27 : decode cX1_init 27 = .ok (.putfield 24, 3) := by decide +kernel
theorem dX1_init_30 : decode cX1_init 30 = .ok (.return_, 1) := by decide +kernel
theorem hd_X1_init : yX1_init.cls ≠ "java/lang/invoke/MethodHandle" ∧ yX1_init.cls ≠ "java/lang/invoke/VarHandle" ∧ (parseMethodDescriptor yX1_init.desc).map (fun d => d.parameters.length) = some 0 := by decide +kernel
abbrev rm_X1_init : Room := { frames := 2, cells := 3, slots := 73, locals := 33 }
set_option maxHeartbeats 4000000 in
set_option maxRecDepth 100000 in
theorem c_X1_init (l : Launch) (G : Gx) (oc : Nat) : Mt l G yX1_init cX1_init 1 none rm_X1_init [.ref oc] [(oc, .inr (0, [.null, .null, .int (nI 0)]))] (E1 (α := (Nat) × (Nat) × (Nat)) (fun u9 => none) (fun u9 => [(oc, .inr (0, [.ref u9.1, .ref u9.2.1, .int (nI 0)])), (u9.1, .inl (G.2.1 1, 8, .inl (fun j9 => nI ((fun _ => 0) j9)))), (u9.2.1, .inr (4, [.ref u9.2.2])), (u9.2.2, .inl (G.2.1 2, 64, .inr (.inl (fun _ => 0))))]) (fun u9 => True)) := by
  refine Mt.of (by decide) (Nat.le_of_ble_eq_true rfl) ?_
  intro K hl9 hn9 hR
  show V K G cX1_init RX1 1 rm_X1_init 0 0 0 [(0, .ref oc)] [] [(oc, .inr (0, [.null, .null, .int (nI 0)]))]
  refine v_aload_n dX1_init_0 rfl 0 rfl ?_
  refine v_objInit dX1_init_1 kw_85 kw_67 kw_68 (Nat.le_of_ble_eq_true rfl) (Nat.le_of_ble_eq_true rfl) ?_
  refine v_aload_n dX1_init_4 rfl 0 rfl ?_
  refine v_bipush (v := nI 8) dX1_init_5 (by decide) ?_
  refine v_newa (z := 8) (t := .int) (at0 := .int) (a0 := (8, .inl (fun j9 => nI ((fun _ => 0) j9)))) 1 dX1_init_7 rfl rfl (fun _ h => nomatch h) kw_ac_I (fun _ => rfl) (nI_pos (by omega)) (nI_clamp (by omega)) (by decide) (by decide) (by decide) (fun q1_7 => ?_)
  show V K G cX1_init RX1 1 rm_X1_init 1 8 9 [(0, .ref oc)] [.ref q1_7, .ref oc] [(oc, .inr (0, [.null, .null, .int (nI 0)])), (q1_7, .inl (G.2.1 1, 8, .inl (fun j9 => nI ((fun _ => 0) j9))))]
  refine v_putF (ref := "Sealhouse$Calls") (C := RX1) (T := TX1) (N := 3) (ty0 := tyX1) (t := tyX1 0) (ws' := [(oc, .inr (0, [.ref q1_7, .null, .int (nI 0)])), (q1_7, .inl (G.2.1 1, 8, .inl (fun j9 => nI ((fun _ => 0) j9))))]) 0 0 hn9 dX1_init_9 rfl rfl gin_X1 tyX1_ok nmX1 (by decide) kw_88 rfl rfl rfl (by decide +kernel) rfl rfl (Nat.le_of_ble_eq_true rfl) rfl ?_
  refine v_aload_n dX1_init_12 rfl 0 rfl ?_
  refine v_new (ci := 4) (C := RX5) (T := TX5) (N := 1) (ty := tyX5) (fs := [.null]) dX1_init_13 rfl gin_X5 tyX5_ok kw_86 kw_70 kw_39 (by decide) (by decide) (by decide) (fun q2_13 => ?_)
  show V K G cX1_init RX1 1 rm_X1_init 2 9 16 [(0, .ref oc)] [.ref q2_13, .ref oc] [(oc, .inr (0, [.ref q1_7, .null, .int (nI 0)])), (q1_7, .inl (G.2.1 1, 8, .inl (fun j9 => nI ((fun _ => 0) j9)))), (q2_13, .inr (4, [.null]))]
  refine v_dup dX1_init_16 rfl ?_
  refine v_bipush (v := nI 64) dX1_init_17 (by decide) ?_
  refine c_IE (As := [.int (nI 64)]) (rest := [.ref q2_13, .ref oc]) (wr := [(oc, .inr (0, [.ref q1_7, .null, .int (nI 0)])), (q1_7, .inl (G.2.1 1, 8, .inl (fun j9 => nI ((fun _ => 0) j9))))]) (k' := 3) (n' := 73) (st2 := fun u9 => [.ref q2_13, .ref oc]) (ws2 := fun u9 => [(oc, .inr (0, [.ref q1_7, .null, .int (nI 0)])), (q1_7, .inl (G.2.1 1, 8, .inl (fun j9 => nI ((fun _ => 0) j9)))), (q2_13, .inr (4, [.ref u9])), (u9, .inl (G.2.1 2, 64, .inr (.inl (fun _ => 0))))]) (c_X5_init_64 K.2.1 G q2_13 ) [2] [0, 1] dX1_init_19 kw_87 kw_72 kw_39 kw_73 rfl rfl hd_X5_init ⟨Nat.le_of_ble_eq_true rfl, Nat.le_of_ble_eq_true rfl⟩ ⟨(by decide), (by decide)⟩ ⟨rfl, rfl⟩ (Nat.le_of_ble_eq_true rfl) rfl rfl rfl rfl rfl rfl (by decide) [0, 1, 2, 3] rfl (fun _ => rfl) (fun _ => rfl) (fun _ => rfl) ?_
  intro a_19 p_19
  show V K G cX1_init RX1 1 rm_X1_init 3 73 22 [(0, .ref oc)] [.ref q2_13, .ref oc] [(oc, .inr (0, [.ref q1_7, .null, .int (nI 0)])), (q1_7, .inl (G.2.1 1, 8, .inl (fun j9 => nI ((fun _ => 0) j9)))), (q2_13, .inr (4, [.ref a_19])), (a_19, .inl (G.2.1 2, 64, .inr (.inl (fun _ => 0))))]
  refine v_putF (ref := "Sealhouse$Calls") (C := RX1) (T := TX1) (N := 3) (ty0 := tyX1) (t := tyX1 1) (ws' := [(oc, .inr (0, [.ref q1_7, .ref q2_13, .int (nI 0)])), (q1_7, .inl (G.2.1 1, 8, .inl (fun j9 => nI ((fun _ => 0) j9)))), (q2_13, .inr (4, [.ref a_19])), (a_19, .inl (G.2.1 2, 64, .inr (.inl (fun _ => 0))))]) 0 1 hn9 dX1_init_22 rfl rfl gin_X1 tyX1_ok nmX1 (by decide) kw_89 rfl rfl rfl (by decide +kernel) rfl rfl (Nat.le_of_ble_eq_true rfl) rfl ?_
  refine v_aload_n dX1_init_25 rfl 0 rfl ?_
  refine v_iconst (v := nI 0) dX1_init_26 (by decide) ?_
  refine v_put (ref := "Sealhouse$Calls") (C := RX1) (T := TX1) (N := 3) (ty0 := tyX1) (t := tyX1 2) (ws' := [(oc, .inr (0, [.ref q1_7, .ref q2_13, .int (nI 0)])), (q1_7, .inl (G.2.1 1, 8, .inl (fun j9 => nI ((fun _ => 0) j9)))), (q2_13, .inr (4, [.ref a_19])), (a_19, .inl (G.2.1 2, 64, .inr (.inl (fun _ => 0))))]) 0 2 dX1_init_27 rfl rfl gin_X1 tyX1_ok nmX1 (by decide) kw_90 rfl rfl (by decide +kernel) rfl rfl (Nat.le_of_ble_eq_true rfl) rfl ?_
  exact v_vret hR dX1_init_30 ⟨(q1_7, q2_13, a_19), rfl, rfl, by trivial⟩
theorem dX1_partStart_0 : decode cX1_partStart 0 = .ok (.bipush 32, 2) := by decide +kernel
theorem dX1_partStart_2 : decode cX1_partStart 2 = .ok (.iload_n 0, 1) := by decide +kernel
theorem dX1_partStart_3 : decode cX1_partStart 3 = .ok (.iconst 4, 1) := by decide +kernel
theorem dX1_partStart_4 : decode cX1_partStart 4 = .ok (.imul, 1) := by decide +kernel
theorem dX1_partStart_5 : decode cX1_partStart 5 = .ok (.iadd, 1) := by decide +kernel
theorem dX1_partStart_6 : decode cX1_partStart 6 = .ok (.ireturn, 1) := by decide +kernel
theorem hd_X1_partStart : yX1_partStart.cls ≠ "java/lang/invoke/MethodHandle" ∧ yX1_partStart.cls ≠ "java/lang/invoke/VarHandle" ∧ (parseMethodDescriptor yX1_partStart.desc).map (fun d => d.parameters.length) = some 1 := by decide +kernel
abbrev rm_X1_partStart : Room := { frames := 0, cells := 0, slots := 0, locals := 0 }
set_option maxHeartbeats 4000000 in
set_option maxRecDepth 100000 in
theorem c_X1_partStart (l : Launch) (G : Gx) (x : Nat) (hx : x < 1000) : Mt l G yX1_partStart cX1_partStart 1 (some .int) rm_X1_partStart [.int (nI x)] [] (D1 (some (.int (nI (32 + x * 4)))) []) := by
  refine Mt.of (by decide) (Nat.le_of_ble_eq_true rfl) ?_
  intro K hl9 hn9 hR
  show V K G cX1_partStart RX1 1 rm_X1_partStart 0 0 0 [(0, .int (nI x))] [] []
  refine v_bipush (v := nI 32) dX1_partStart_0 (by decide) ?_
  refine v_iload_n dX1_partStart_2 rfl 0 rfl ?_
  refine v_iconst (v := nI 4) dX1_partStart_3 (by decide) ?_
  refine n_imul (a := x) (b := 4) (z := x * 4) dX1_partStart_4 rfl ?_
  refine n_iadd (a := 32) (b := x * 4) (z := 32 + (x * 4)) dX1_partStart_5 rfl ?_
  exact v_iret hR dX1_partStart_6 (by exact ⟨rfl, rfl⟩)
theorem dX1_presentDepth_0 : decode cX1_presentDepth 0 = .ok (.aload_n 0, 1) := by decide +kernel
theorem dX1_presentDepth_1 : decode cX1_presentDepth 1 = .ok (.getfield 24, 3) := by decide +kernel
theorem dX1_presentDepth_4 : decode cX1_presentDepth 4 = .ok (.ireturn, 1) := by decide +kernel
theorem hd_X1_presentDepth : yX1_presentDepth.cls ≠ "java/lang/invoke/MethodHandle" ∧ yX1_presentDepth.cls ≠ "java/lang/invoke/VarHandle" ∧ (parseMethodDescriptor yX1_presentDepth.desc).map (fun d => d.parameters.length) = some 0 := by decide +kernel
abbrev rm_X1_presentDepth : Room := { frames := 0, cells := 0, slots := 0, locals := 0 }
set_option maxHeartbeats 4000000 in
set_option maxRecDepth 100000 in
theorem c_X1_presentDepth (l : Launch) (G : Gx) (oc : Nat) (ac : Nat) (orr : Nat) (ar : Nat) (pr : Nat) (co : Nat → Nat) (rg : Nat → Int64) : Mt l G yX1_presentDepth cX1_presentDepth 1 (some .int) rm_X1_presentDepth [.ref oc] [(oc, .inr (0, [.ref ac, .ref orr, .int (nI pr)])), (ac, .inl (G.2.1 1, 8, .inl (fun j9 => nI (co j9)))), (orr, .inr (4, [.ref ar])), (ar, .inl (G.2.1 2, 64, .inr (.inl rg)))] (D1 (some (.int (nI pr))) [(oc, .inr (0, [.ref ac, .ref orr, .int (nI pr)])), (ac, .inl (G.2.1 1, 8, .inl (fun j9 => nI (co j9)))), (orr, .inr (4, [.ref ar])), (ar, .inl (G.2.1 2, 64, .inr (.inl rg)))]) := by
  refine Mt.of (by decide) (Nat.le_of_ble_eq_true rfl) ?_
  intro K hl9 hn9 hR
  show V K G cX1_presentDepth RX1 1 rm_X1_presentDepth 0 0 0 [(0, .ref oc)] [] [(oc, .inr (0, [.ref ac, .ref orr, .int (nI pr)])), (ac, .inl (G.2.1 1, 8, .inl (fun j9 => nI (co j9)))), (orr, .inr (4, [.ref ar])), (ar, .inl (G.2.1 2, 64, .inr (.inl rg)))]
  refine v_aload_n dX1_presentDepth_0 rfl 0 rfl ?_
  refine v_get (ref := "Sealhouse$Calls") (C := RX1) (T := TX1) (N := 3) 0 2 dX1_presentDepth_1 rfl rfl gin_X1 (by decide) kw_90 rfl rfl ?_
  exact v_iret hR dX1_presentDepth_4 (by exact ⟨rfl, rfl⟩)
theorem dX1_isDeepest_0 : decode cX1_isDeepest 0 = .ok (.aload_n 0, 1) := by decide +kernel
theorem dX1_isDeepest_1 : decode cX1_isDeepest 1 = .ok (.getfield 24, 3) := by decide +kernel
theorem dX1_isDeepest_4 : decode cX1_isDeepest 4 = .ok (.bipush 7, 2) := by decide +kernel
theorem dX1_isDeepest_6 : decode cX1_isDeepest 6 = .ok (.if_icmp .lt 7, 3) := by decide +kernel
theorem dX1_isDeepest_9 : decode cX1_isDeepest 9 = .ok (.iconst 1, 1) := by decide +kernel
theorem dX1_isDeepest_10 : decode cX1_isDeepest 10 = .ok (.goto 4, 3) := by decide +kernel
theorem dX1_isDeepest_13 : decode cX1_isDeepest 13 = .ok (.iconst 0, 1) := by decide +kernel
theorem dX1_isDeepest_14 : decode cX1_isDeepest 14 = .ok (.ireturn, 1) := by decide +kernel
theorem hd_X1_isDeepest : yX1_isDeepest.cls ≠ "java/lang/invoke/MethodHandle" ∧ yX1_isDeepest.cls ≠ "java/lang/invoke/VarHandle" ∧ (parseMethodDescriptor yX1_isDeepest.desc).map (fun d => d.parameters.length) = some 0 := by decide +kernel
abbrev rm_X1_isDeepest : Room := { frames := 0, cells := 0, slots := 0, locals := 0 }
set_option maxHeartbeats 4000000 in
set_option maxRecDepth 100000 in
theorem c_X1_isDeepest (l : Launch) (G : Gx) (oc : Nat) (ac : Nat) (orr : Nat) (ar : Nat) (pr : Nat) (co : Nat → Nat) (rg : Nat → Int64) (hpr : pr < 8) : Mt l G yX1_isDeepest cX1_isDeepest 1 (some .boolean) rm_X1_isDeepest [.ref oc] [(oc, .inr (0, [.ref ac, .ref orr, .int (nI pr)])), (ac, .inl (G.2.1 1, 8, .inl (fun j9 => nI (co j9)))), (orr, .inr (4, [.ref ar])), (ar, .inl (G.2.1 2, 64, .inr (.inl rg)))] (D1 (some (.int (bI (decide (7 ≤ pr))))) [(oc, .inr (0, [.ref ac, .ref orr, .int (nI pr)])), (ac, .inl (G.2.1 1, 8, .inl (fun j9 => nI (co j9)))), (orr, .inr (4, [.ref ar])), (ar, .inl (G.2.1 2, 64, .inr (.inl rg)))]) := by
  refine Mt.of (by decide) (Nat.le_of_ble_eq_true rfl) ?_
  intro K hl9 hn9 hR
  show V K G cX1_isDeepest RX1 1 rm_X1_isDeepest 0 0 0 [(0, .ref oc)] [] [(oc, .inr (0, [.ref ac, .ref orr, .int (nI pr)])), (ac, .inl (G.2.1 1, 8, .inl (fun j9 => nI (co j9)))), (orr, .inr (4, [.ref ar])), (ar, .inl (G.2.1 2, 64, .inr (.inl rg)))]
  refine v_aload_n dX1_isDeepest_0 rfl 0 rfl ?_
  refine v_get (ref := "Sealhouse$Calls") (C := RX1) (T := TX1) (N := 3) 0 2 dX1_isDeepest_1 rfl rfl gin_X1 (by decide) kw_90 rfl rfl ?_
  refine v_bipush (v := nI 7) dX1_isDeepest_4 (by decide) ?_
  refine n_icmp_lt (a := pr) (b := 7) (tgt := 13) dX1_isDeepest_6 (by decide) (by omega) (by omega) (fun c6 => ?_) (fun c6 => ?_)
  ·
    refine v_iconst (v := nI 0) dX1_isDeepest_13 (by decide) ?_
    refine v_eqi (y := bI false) (by decide) ?_
    exact v_zret hR dX1_isDeepest_14 (bI_nar _) (by refine ⟨?_, rfl⟩; first | rw [decide_eq_true (by omega)] | rw [decide_eq_false (by omega)])
  ·
    refine v_iconst (v := nI 1) dX1_isDeepest_9 (by decide) ?_
    refine v_goto (tgt := 14) dX1_isDeepest_10 (by decide) ?_
    refine v_eqi (y := bI true) (by decide) ?_
    exact v_zret hR dX1_isDeepest_14 (bI_nar _) (by refine ⟨?_, rfl⟩; first | rw [decide_eq_true (by omega)] | rw [decide_eq_false (by omega)])
theorem dX1_compartmentAt_0 : decode cX1_compartmentAt 0 = .ok (.iload_n 1, 1) := by decide +kernel
theorem dX1_compartmentAt_1 : decode cX1_compartmentAt 1 = .ok (.ifCond .lt 21, 3) := by decide +kernel
theorem dX1_compartmentAt_4 : decode cX1_compartmentAt 4 = .ok (.iload_n 1, 1) := by decide +kernel
theorem dX1_compartmentAt_5 : decode cX1_compartmentAt 5 = .ok (.aload_n 0, 1) := by decide +kernel
theorem dX1_compartmentAt_6 : decode cX1_compartmentAt 6 = .ok (.getfield 9, 3) := by decide +kernel
theorem dX1_compartmentAt_9 : decode cX1_compartmentAt 9 = .ok (.arraylength, 1) := by decide +kernel
theorem dX1_compartmentAt_10 : decode cX1_compartmentAt 10 = .ok (.if_icmp .ge 12, 3) := by decide +kernel
theorem dX1_compartmentAt_13 : decode cX1_compartmentAt 13 = .ok (.aload_n 0, 1) := by decide +kernel
theorem dX1_compartmentAt_14 : decode cX1_compartmentAt 14 = .ok (.getfield 9, 3) := by decide +kernel
theorem dX1_compartmentAt_17 : decode cX1_compartmentAt 17 = .ok (.iload_n 1, 1) := by decide +kernel
theorem dX1_compartmentAt_18 : decode cX1_compartmentAt 18 = .ok (.iaload, 1) := by decide +kernel
theorem dX1_compartmentAt_19 : decode cX1_compartmentAt 19 = .ok (.goto 4, 3) := by decide +kernel
theorem dX1_compartmentAt_22 : decode cX1_compartmentAt 22 = .ok (.iconst 0, 1) := by decide +kernel
theorem dX1_compartmentAt_23 : decode cX1_compartmentAt 23 = .ok (.ireturn, 1) := by decide +kernel
theorem hd_X1_compartmentAt : yX1_compartmentAt.cls ≠ "java/lang/invoke/MethodHandle" ∧ yX1_compartmentAt.cls ≠ "java/lang/invoke/VarHandle" ∧ (parseMethodDescriptor yX1_compartmentAt.desc).map (fun d => d.parameters.length) = some 1 := by decide +kernel
abbrev rm_X1_compartmentAt : Room := { frames := 0, cells := 0, slots := 0, locals := 0 }
set_option maxHeartbeats 4000000 in
set_option maxRecDepth 100000 in
theorem c_X1_compartmentAt (l : Launch) (G : Gx) (oc : Nat) (ac : Nat) (orr : Nat) (ar : Nat) (pr : Nat) (co : Nat → Nat) (rg : Nat → Int64) (x : Nat) (hx : x < 8) : Mt l G yX1_compartmentAt cX1_compartmentAt 2 (some .int) rm_X1_compartmentAt [.ref oc, .int (nI x)] [(oc, .inr (0, [.ref ac, .ref orr, .int (nI pr)])), (ac, .inl (G.2.1 1, 8, .inl (fun j9 => nI (co j9)))), (orr, .inr (4, [.ref ar])), (ar, .inl (G.2.1 2, 64, .inr (.inl rg)))] (D1 (some (.int (nI (co x)))) [(oc, .inr (0, [.ref ac, .ref orr, .int (nI pr)])), (ac, .inl (G.2.1 1, 8, .inl (fun j9 => nI (co j9)))), (orr, .inr (4, [.ref ar])), (ar, .inl (G.2.1 2, 64, .inr (.inl rg)))]) := by
  refine Mt.of (by decide) (Nat.le_of_ble_eq_true rfl) ?_
  intro K hl9 hn9 hR
  show V K G cX1_compartmentAt RX1 2 rm_X1_compartmentAt 0 0 0 [(0, .ref oc), (1, .int (nI x))] [] [(oc, .inr (0, [.ref ac, .ref orr, .int (nI pr)])), (ac, .inl (G.2.1 1, 8, .inl (fun j9 => nI (co j9)))), (orr, .inr (4, [.ref ar])), (ar, .inl (G.2.1 2, 64, .inr (.inl rg)))]
  refine v_iload_n dX1_compartmentAt_0 rfl 1 rfl ?_
  refine n_if_lt (a := x) (tgt := 22) dX1_compartmentAt_1 (by decide) (by omega) ?_
  refine v_iload_n dX1_compartmentAt_4 rfl 1 rfl ?_
  refine v_aload_n dX1_compartmentAt_5 rfl 0 rfl ?_
  refine v_get (ref := "Sealhouse$Calls") (C := RX1) (T := TX1) (N := 3) 0 0 dX1_compartmentAt_6 rfl rfl gin_X1 (by decide) kw_88 rfl rfl ?_
  refine v_alen (v := nI 8) 1 1 dX1_compartmentAt_9 rfl rfl rfl ?_
  refine n_icmp_ge (a := x) (b := 8) (tgt := 22) dX1_compartmentAt_10 (by decide) (by omega) (by omega) (fun c10 => absurd c10 (by omega)) (fun c10 => ?_)
  refine v_aload_n dX1_compartmentAt_13 rfl 0 rfl ?_
  refine v_get (ref := "Sealhouse$Calls") (C := RX1) (T := TX1) (N := 3) 0 0 dX1_compartmentAt_14 rfl rfl gin_X1 (by decide) kw_88 rfl rfl ?_
  refine v_iload_n dX1_compartmentAt_17 rfl 1 rfl ?_
  refine n_iald (i := x) (x := nI (co x)) 1 dX1_compartmentAt_18 rfl (by omega) (by decide) rfl ?_
  refine v_goto (tgt := 23) dX1_compartmentAt_19 (by decide) ?_
  exact v_iret hR dX1_compartmentAt_23 (by exact ⟨rfl, rfl⟩)
theorem dX1_runningCompartment_0 : decode cX1_runningCompartment 0 = .ok (.aload_n 0, 1) := by decide +kernel
theorem dX1_runningCompartment_1 : decode cX1_runningCompartment 1 = .ok (.aload_n 0, 1) := by decide +kernel
theorem dX1_runningCompartment_2 : decode cX1_runningCompartment 2 = .ok (.getfield 24, 3) := by decide +kernel
theorem dX1_runningCompartment_5 : decode cX1_runningCompartment 5 = .ok (.invokevirtual 28, 3) := by decide +kernel
theorem dX1_runningCompartment_8 : decode cX1_runningCompartment 8 = .ok (.ireturn, 1) := by decide +kernel
theorem hd_X1_runningCompartment : yX1_runningCompartment.cls ≠ "java/lang/invoke/MethodHandle" ∧ yX1_runningCompartment.cls ≠ "java/lang/invoke/VarHandle" ∧ (parseMethodDescriptor yX1_runningCompartment.desc).map (fun d => d.parameters.length) = some 0 := by decide +kernel
abbrev rm_X1_runningCompartment : Room := { frames := 1, cells := 0, slots := 0, locals := 21 }
set_option maxHeartbeats 4000000 in
set_option maxRecDepth 100000 in
theorem c_X1_runningCompartment (l : Launch) (G : Gx) (oc : Nat) (ac : Nat) (orr : Nat) (ar : Nat) (pr : Nat) (co : Nat → Nat) (rg : Nat → Int64) (hpr : pr < 8) : Mt l G yX1_runningCompartment cX1_runningCompartment 1 (some .int) rm_X1_runningCompartment [.ref oc] [(oc, .inr (0, [.ref ac, .ref orr, .int (nI pr)])), (ac, .inl (G.2.1 1, 8, .inl (fun j9 => nI (co j9)))), (orr, .inr (4, [.ref ar])), (ar, .inl (G.2.1 2, 64, .inr (.inl rg)))] (D1 (some (.int (nI (co pr)))) [(oc, .inr (0, [.ref ac, .ref orr, .int (nI pr)])), (ac, .inl (G.2.1 1, 8, .inl (fun j9 => nI (co j9)))), (orr, .inr (4, [.ref ar])), (ar, .inl (G.2.1 2, 64, .inr (.inl rg)))]) := by
  refine Mt.of (by decide) (Nat.le_of_ble_eq_true rfl) ?_
  intro K hl9 hn9 hR
  show V K G cX1_runningCompartment RX1 1 rm_X1_runningCompartment 0 0 0 [(0, .ref oc)] [] [(oc, .inr (0, [.ref ac, .ref orr, .int (nI pr)])), (ac, .inl (G.2.1 1, 8, .inl (fun j9 => nI (co j9)))), (orr, .inr (4, [.ref ar])), (ar, .inl (G.2.1 2, 64, .inr (.inl rg)))]
  refine v_aload_n dX1_runningCompartment_0 rfl 0 rfl ?_
  refine v_aload_n dX1_runningCompartment_1 rfl 0 rfl ?_
  refine v_get (ref := "Sealhouse$Calls") (C := RX1) (T := TX1) (N := 3) 0 2 dX1_runningCompartment_2 rfl rfl gin_X1 (by decide) kw_90 rfl rfl ?_
  refine c_V1 (ci := 0) (T := TX1) (N := 3) (As := [.int (nI pr)]) (rest := []) (wr := []) (k' := 0) (n' := 0) (st2 := [.int (nI (co pr))]) (ws2 := [(oc, .inr (0, [.ref ac, .ref orr, .int (nI pr)])), (ac, .inl (G.2.1 1, 8, .inl (fun j9 => nI (co j9)))), (orr, .inr (4, [.ref ar])), (ar, .inl (G.2.1 2, 64, .inr (.inl rg)))]) (c_X1_compartmentAt K.2.1 G oc ac orr ar pr co rg pr (by omega)) [0, 1, 2, 3] [] dX1_runningCompartment_5 kw_654 kw_324 kw_40 kw_326 kw_325 hd_X1_compartmentAt ⟨Nat.le_of_ble_eq_true rfl, Nat.le_of_ble_eq_true rfl⟩ ⟨(by decide), (by decide)⟩ ⟨rfl, rfl⟩ (Nat.le_of_ble_eq_true rfl) rfl rfl rfl rfl rfl rfl (by decide) 0 rfl rfl [0, 1, 2, 3] rfl rfl rfl rfl ?_
  exact v_iret hR dX1_runningCompartment_8 (by exact ⟨rfl, rfl⟩)
theorem dX1_registerAt_0 : decode cX1_registerAt 0 = .ok (.aload_n 0, 1) := by decide +kernel
theorem dX1_registerAt_1 : decode cX1_registerAt 1 = .ok (.getfield 20, 3) := by decide +kernel
theorem dX1_registerAt_4 : decode cX1_registerAt 4 = .ok (.iload_n 1, 1) := by decide +kernel
theorem dX1_registerAt_5 : decode cX1_registerAt 5 = .ok (.bipush 8, 2) := by decide +kernel
theorem dX1_registerAt_7 : decode cX1_registerAt 7 = .ok (.imul, 1) := by decide +kernel
theorem dX1_registerAt_8 : decode cX1_registerAt 8 = .ok (.iload_n 2, 1) := by decide +kernel
theorem dX1_registerAt_9 : decode cX1_registerAt 9 = .ok (.iadd, 1) := by decide +kernel
theorem dX1_registerAt_10 : decode cX1_registerAt 10 = .ok (.invokevirtual 32, 3) := by decide +kernel
theorem dX1_registerAt_13 : decode cX1_registerAt 13 = .ok (.lreturn, 1) := by decide +kernel
theorem hd_X1_registerAt : yX1_registerAt.cls ≠ "java/lang/invoke/MethodHandle" ∧ yX1_registerAt.cls ≠ "java/lang/invoke/VarHandle" ∧ (parseMethodDescriptor yX1_registerAt.desc).map (fun d => d.parameters.length) = some 2 := by decide +kernel
abbrev rm_X1_registerAt : Room := { frames := 1, cells := 0, slots := 0, locals := 21 }
set_option maxHeartbeats 4000000 in
set_option maxRecDepth 100000 in
theorem c_X1_registerAt (l : Launch) (G : Gx) (oc : Nat) (ac : Nat) (orr : Nat) (ar : Nat) (pr : Nat) (co : Nat → Nat) (rg : Nat → Int64) (x : Nat) (r : Nat) (hx : x < 8) (hr : r < 8) : Mt l G yX1_registerAt cX1_registerAt 3 (some .long) rm_X1_registerAt [.ref oc, .int (nI x), .int (nI r)] [(oc, .inr (0, [.ref ac, .ref orr, .int (nI pr)])), (ac, .inl (G.2.1 1, 8, .inl (fun j9 => nI (co j9)))), (orr, .inr (4, [.ref ar])), (ar, .inl (G.2.1 2, 64, .inr (.inl rg)))] (D1 (some (.long (rg (x * 8 + r)))) [(oc, .inr (0, [.ref ac, .ref orr, .int (nI pr)])), (ac, .inl (G.2.1 1, 8, .inl (fun j9 => nI (co j9)))), (orr, .inr (4, [.ref ar])), (ar, .inl (G.2.1 2, 64, .inr (.inl rg)))]) := by
  refine Mt.of (by decide) (Nat.le_of_ble_eq_true rfl) ?_
  intro K hl9 hn9 hR
  show V K G cX1_registerAt RX1 3 rm_X1_registerAt 0 0 0 [(0, .ref oc), (1, .int (nI x)), (2, .int (nI r))] [] [(oc, .inr (0, [.ref ac, .ref orr, .int (nI pr)])), (ac, .inl (G.2.1 1, 8, .inl (fun j9 => nI (co j9)))), (orr, .inr (4, [.ref ar])), (ar, .inl (G.2.1 2, 64, .inr (.inl rg)))]
  refine v_aload_n dX1_registerAt_0 rfl 0 rfl ?_
  refine v_get (ref := "Sealhouse$Calls") (C := RX1) (T := TX1) (N := 3) 0 1 dX1_registerAt_1 rfl rfl gin_X1 (by decide) kw_89 rfl rfl ?_
  refine v_iload_n dX1_registerAt_4 rfl 1 rfl ?_
  refine v_bipush (v := nI 8) dX1_registerAt_5 (by decide) ?_
  refine n_imul (a := x) (b := 8) (z := x * 8) dX1_registerAt_7 rfl ?_
  refine v_iload_n dX1_registerAt_8 rfl 2 rfl ?_
  refine n_iadd (a := x * 8) (b := r) (z := (x * 8) + r) dX1_registerAt_9 rfl ?_
  refine c_V1 (ci := 4) (T := TX5) (N := 1) (As := [.int (nI ((x * 8) + r))]) (rest := []) (wr := [(oc, .inr (0, [.ref ac, .ref orr, .int (nI pr)])), (ac, .inl (G.2.1 1, 8, .inl (fun j9 => nI (co j9))))]) (k' := 0) (n' := 0) (st2 := [.long (rg ((x * 8) + r))]) (ws2 := [(oc, .inr (0, [.ref ac, .ref orr, .int (nI pr)])), (ac, .inl (G.2.1 1, 8, .inl (fun j9 => nI (co j9)))), (orr, .inr (4, [.ref ar])), (ar, .inl (G.2.1 2, 64, .inr (.inl rg)))]) (c_X5_read K.2.1 G orr ar 64 rg ((x * 8) + r) (by omega) (by omega)) [2, 3] [0, 1] dX1_registerAt_10 kw_331 kw_332 kw_39 kw_334 kw_333 hd_X5_read ⟨Nat.le_of_ble_eq_true rfl, Nat.le_of_ble_eq_true rfl⟩ ⟨(by decide), (by decide)⟩ ⟨rfl, rfl⟩ (Nat.le_of_ble_eq_true rfl) rfl rfl rfl rfl rfl rfl (by decide) 2 rfl rfl [0, 1, 2, 3] rfl rfl rfl rfl ?_
  exact v_lret hR dX1_registerAt_13 (by exact ⟨rfl, rfl⟩)
theorem dX1_held_0 : decode cX1_held 0 = .ok (.aload_n 0, 1) := by decide +kernel
theorem dX1_held_1 : decode cX1_held 1 = .ok (.aload_n 0, 1) := by decide +kernel
theorem dX1_held_2 : decode cX1_held 2 = .ok (.getfield 24, 3) := by decide +kernel
theorem dX1_held_5 : decode cX1_held 5 = .ok (.iload_n 1, 1) := by decide +kernel
theorem dX1_held_6 : decode cX1_held 6 = .ok (.invokevirtual 36, 3) := by decide +kernel
theorem dX1_held_9 : decode cX1_held 9 = .ok (.lreturn, 1) := by decide +kernel
theorem hd_X1_held : yX1_held.cls ≠ "java/lang/invoke/MethodHandle" ∧ yX1_held.cls ≠ "java/lang/invoke/VarHandle" ∧ (parseMethodDescriptor yX1_held.desc).map (fun d => d.parameters.length) = some 1 := by decide +kernel
abbrev rm_X1_held : Room := { frames := 2, cells := 0, slots := 0, locals := 43 }
set_option maxHeartbeats 4000000 in
set_option maxRecDepth 100000 in
theorem c_X1_held (l : Launch) (G : Gx) (oc : Nat) (ac : Nat) (orr : Nat) (ar : Nat) (pr : Nat) (co : Nat → Nat) (rg : Nat → Int64) (r : Nat) (hpr : pr < 8) (hr : r < 8) : Mt l G yX1_held cX1_held 2 (some .long) rm_X1_held [.ref oc, .int (nI r)] [(oc, .inr (0, [.ref ac, .ref orr, .int (nI pr)])), (ac, .inl (G.2.1 1, 8, .inl (fun j9 => nI (co j9)))), (orr, .inr (4, [.ref ar])), (ar, .inl (G.2.1 2, 64, .inr (.inl rg)))] (D1 (some (.long (rg (pr * 8 + r)))) [(oc, .inr (0, [.ref ac, .ref orr, .int (nI pr)])), (ac, .inl (G.2.1 1, 8, .inl (fun j9 => nI (co j9)))), (orr, .inr (4, [.ref ar])), (ar, .inl (G.2.1 2, 64, .inr (.inl rg)))]) := by
  refine Mt.of (by decide) (Nat.le_of_ble_eq_true rfl) ?_
  intro K hl9 hn9 hR
  show V K G cX1_held RX1 2 rm_X1_held 0 0 0 [(0, .ref oc), (1, .int (nI r))] [] [(oc, .inr (0, [.ref ac, .ref orr, .int (nI pr)])), (ac, .inl (G.2.1 1, 8, .inl (fun j9 => nI (co j9)))), (orr, .inr (4, [.ref ar])), (ar, .inl (G.2.1 2, 64, .inr (.inl rg)))]
  refine v_aload_n dX1_held_0 rfl 0 rfl ?_
  refine v_aload_n dX1_held_1 rfl 0 rfl ?_
  refine v_get (ref := "Sealhouse$Calls") (C := RX1) (T := TX1) (N := 3) 0 2 dX1_held_2 rfl rfl gin_X1 (by decide) kw_90 rfl rfl ?_
  refine v_iload_n dX1_held_5 rfl 1 rfl ?_
  refine c_V1 (ci := 0) (T := TX1) (N := 3) (As := [.int (nI pr), .int (nI r)]) (rest := []) (wr := []) (k' := 0) (n' := 0) (st2 := [.long (rg (pr * 8 + r))]) (ws2 := [(oc, .inr (0, [.ref ac, .ref orr, .int (nI pr)])), (ac, .inl (G.2.1 1, 8, .inl (fun j9 => nI (co j9)))), (orr, .inr (4, [.ref ar])), (ar, .inl (G.2.1 2, 64, .inr (.inl rg)))]) (c_X1_registerAt K.2.1 G oc ac orr ar pr co rg pr r (by omega) (by omega)) [0, 1, 2, 3] [] dX1_held_6 kw_531 kw_328 kw_40 kw_330 kw_329 hd_X1_registerAt ⟨Nat.le_of_ble_eq_true rfl, Nat.le_of_ble_eq_true rfl⟩ ⟨(by decide), (by decide)⟩ ⟨rfl, rfl⟩ (Nat.le_of_ble_eq_true rfl) rfl rfl rfl rfl rfl rfl (by decide) 0 rfl rfl [0, 1, 2, 3] rfl rfl rfl rfl ?_
  exact v_lret hR dX1_held_9 (by exact ⟨rfl, rfl⟩)
theorem dX1_hold_0 : decode cX1_hold 0 = .ok (.aload_n 0, 1) := by decide +kernel
theorem dX1_hold_1 : decode cX1_hold 1 = .ok (.getfield 20, 3) := by decide +kernel
theorem dX1_hold_4 : decode cX1_hold 4 = .ok (.aload_n 0, 1) := by decide +kernel
theorem dX1_hold_5 : decode cX1_hold 5 = .ok (.getfield 24, 3) := by decide +kernel
theorem dX1_hold_8 : decode cX1_hold 8 = .ok (.bipush 8, 2) := by decide +kernel
theorem dX1_hold_10 : decode cX1_hold 10 = .ok (.imul, 1) := by decide +kernel
theorem dX1_hold_11 : decode cX1_hold 11 = .ok (.iload_n 1, 1) := by decide +kernel
theorem dX1_hold_12 : decode cX1_hold 12 = .ok (.iadd, 1) := by decide +kernel
theorem dX1_hold_13 : decode cX1_hold 13 = .ok (.lload_n 2, 1) := by decide +kernel
theorem dX1_hold_14 : decode cX1_hold 14 = .ok (.invokevirtual 40, 3) := by decide +kernel
theorem dX1_hold_17 : decode cX1_hold 17 = .ok (.return_, 1) := by decide +kernel
theorem hd_X1_hold : yX1_hold.cls ≠ "java/lang/invoke/MethodHandle" ∧ yX1_hold.cls ≠ "java/lang/invoke/VarHandle" ∧ (parseMethodDescriptor yX1_hold.desc).map (fun d => d.parameters.length) = some 2 := by decide +kernel
abbrev rm_X1_hold : Room := { frames := 1, cells := 0, slots := 0, locals := 23 }
set_option maxHeartbeats 4000000 in
set_option maxRecDepth 100000 in
theorem c_X1_hold (l : Launch) (G : Gx) (oc : Nat) (ac : Nat) (orr : Nat) (ar : Nat) (pr : Nat) (co : Nat → Nat) (rg : Nat → Int64) (r : Nat) (x : Int64) (hpr : pr < 8) (hr : r < 8) : Mt l G yX1_hold cX1_hold 4 none rm_X1_hold [.ref oc, .int (nI r), .long x] [(oc, .inr (0, [.ref ac, .ref orr, .int (nI pr)])), (ac, .inl (G.2.1 1, 8, .inl (fun j9 => nI (co j9)))), (orr, .inr (4, [.ref ar])), (ar, .inl (G.2.1 2, 64, .inr (.inl rg)))] (D1 none [(oc, .inr (0, [.ref ac, .ref orr, .int (nI pr)])), (ac, .inl (G.2.1 1, 8, .inl (fun j9 => nI (co j9)))), (orr, .inr (4, [.ref ar])), (ar, .inl (G.2.1 2, 64, .inr (.inl (vp_updL rg (pr * 8 + r) x))))]) := by
  refine Mt.of (by decide) (Nat.le_of_ble_eq_true rfl) ?_
  intro K hl9 hn9 hR
  show V K G cX1_hold RX1 4 rm_X1_hold 0 0 0 [(0, .ref oc), (1, .int (nI r)), (2, .long x)] [] [(oc, .inr (0, [.ref ac, .ref orr, .int (nI pr)])), (ac, .inl (G.2.1 1, 8, .inl (fun j9 => nI (co j9)))), (orr, .inr (4, [.ref ar])), (ar, .inl (G.2.1 2, 64, .inr (.inl rg)))]
  refine v_aload_n dX1_hold_0 rfl 0 rfl ?_
  refine v_get (ref := "Sealhouse$Calls") (C := RX1) (T := TX1) (N := 3) 0 1 dX1_hold_1 rfl rfl gin_X1 (by decide) kw_89 rfl rfl ?_
  refine v_aload_n dX1_hold_4 rfl 0 rfl ?_
  refine v_get (ref := "Sealhouse$Calls") (C := RX1) (T := TX1) (N := 3) 0 2 dX1_hold_5 rfl rfl gin_X1 (by decide) kw_90 rfl rfl ?_
  refine v_bipush (v := nI 8) dX1_hold_8 (by decide) ?_
  refine n_imul (a := pr) (b := 8) (z := pr * 8) dX1_hold_10 rfl ?_
  refine v_iload_n dX1_hold_11 rfl 1 rfl ?_
  refine n_iadd (a := pr * 8) (b := r) (z := (pr * 8) + r) dX1_hold_12 rfl ?_
  refine v_lload_n dX1_hold_13 rfl 2 rfl ?_
  refine c_V1 (ci := 4) (T := TX5) (N := 1) (As := [.int (nI ((pr * 8) + r)), .long x]) (rest := []) (wr := [(oc, .inr (0, [.ref ac, .ref orr, .int (nI pr)])), (ac, .inl (G.2.1 1, 8, .inl (fun j9 => nI (co j9))))]) (k' := 0) (n' := 0) (st2 := []) (ws2 := [(oc, .inr (0, [.ref ac, .ref orr, .int (nI pr)])), (ac, .inl (G.2.1 1, 8, .inl (fun j9 => nI (co j9)))), (orr, .inr (4, [.ref ar])), (ar, .inl (G.2.1 2, 64, .inr (.inl (vp_updL rg ((pr * 8) + r) x))))]) (c_X5_write K.2.1 G orr ar 64 rg ((pr * 8) + r) x (by omega) (by omega)) [2, 3] [0, 1] dX1_hold_14 kw_227 kw_220 kw_39 kw_222 kw_221 hd_X5_write ⟨Nat.le_of_ble_eq_true rfl, Nat.le_of_ble_eq_true rfl⟩ ⟨(by decide), (by decide)⟩ ⟨rfl, rfl⟩ (Nat.le_of_ble_eq_true rfl) rfl rfl rfl rfl rfl rfl (by decide) 2 rfl rfl [0, 1, 2, 3] rfl rfl rfl rfl ?_
  exact v_vret hR dX1_hold_17 (by exact ⟨rfl, rfl⟩)
theorem dX1_begin_0 : decode cX1_begin 0 = .ok (.aload_n 0, 1) := by decide +kernel
theorem dX1_begin_1 : decode cX1_begin 1 = .ok (.getfield 24, 3) := by decide +kernel
theorem dX1_begin_4 : decode cX1_begin 4 = .ok (.ifCond .lt 15, 3) := by decide +kernel
theorem dX1_begin_7 : decode cX1_begin 7 = .ok (.aload_n 0, 1) := by decide +kernel
theorem dX1_begin_8 : decode cX1_begin 8 = .ok (.getfield 24, 3) := by decide +kernel
theorem dX1_begin_11 : decode cX1_begin 11 = .ok (.aload_n 0, 1) := by decide +kernel
theorem dX1_begin_12 : decode cX1_begin 12 = .ok (.getfield 9, 3) := by decide +kernel
theorem dX1_begin_15 : decode cX1_begin 15 = .ok (.arraylength, 1) := by decide +kernel
theorem dX1_begin_16 : decode cX1_begin 16 = .ok (.if_icmp .lt 4, 3) := by decide +kernel
theorem dX1_begin_19 : decode cX1_begin 19 = .ok (.return_, 1) := by decide +kernel
theorem dX1_begin_20 : decode cX1_begin 20 = .ok (.aload_n 0, 1) := by decide +kernel
theorem dX1_begin_21 : decode cX1_begin 21 = .ok (.getfield 9, 3) := by decide +kernel
theorem dX1_begin_24 : decode cX1_begin 24 = .ok (.aload_n 0, 1) := by decide +kernel
theorem dX1_begin_25 : decode cX1_begin 25 = .ok (.getfield 24, 3) := by decide +kernel
theorem dX1_begin_28 : decode cX1_begin 28 = .ok (.iload_n 1, 1) := by decide +kernel
theorem dX1_begin_29 : decode cX1_begin 29 = .ok (.iastore, 1) := by decide +kernel
theorem dX1_begin_30 : decode cX1_begin 30 = .ok (.aload_n 0, 1) := by decide +kernel
theorem dX1_begin_31 : decode cX1_begin 31 = .ok (.getfield 20, 3) := by decide +kernel
theorem dX1_begin_34 : decode cX1_begin 34 = .ok (.aload_n 0, 1) := by decide +kernel
theorem dX1_begin_35 : decode cX1_begin 35 = .ok (.getfield 24, 3) := by decide +kernel
theorem dX1_begin_38 : decode cX1_begin 38 = .ok (.bipush 8, 2) := by decide +kernel
theorem dX1_begin_40 : decode cX1_begin 40 = .ok (.imul, 1) := by decide +kernel
theorem dX1_begin_41 : decode cX1_begin 41 = .ok (.aload_n 0, 1) := by decide +kernel
theorem dX1_begin_42 : decode cX1_begin 42 = .ok (.getfield 24, 3) := by decide +kernel
theorem dX1_begin_45 : decode cX1_begin 45 = .ok (.iconst 1, 1) := by decide +kernel
theorem dX1_begin_46 : decode cX1_begin 46 = .ok (.iadd, 1) := by decide +kernel
theorem dX1_begin_47 : decode cX1_begin 47 = .ok (.bipush 8, 2) := by decide +kernel
theorem dX1_begin_49 : decode cX1_begin 49 = .ok (.imul, 1) := by decide +kernel
theorem dX1_begin_50 : decode cX1_begin 50 = .ok (.invokevirtual 44, 3) := by decide +kernel
theorem dX1_begin_53 : decode cX1_begin 53 = .ok (.aload_n 0, 1) := by decide +kernel
theorem dX1_begin_54 : decode cX1_begin 54 = .ok (.iconst 0, 1) := by decide +kernel
theorem dX1_begin_55 : decode cX1_begin 55 = .ok (.lload_n 2, 1) := by decide +kernel
theorem dX1_begin_56 : decode cX1_begin 56 = .ok (.invokevirtual 48, 3) := by decide +kernel
theorem dX1_begin_59 : decode cX1_begin 59 = .ok (.aload_n 0, 1) := by decide +kernel
theorem dX1_begin_60 : decode cX1_begin 60 = .ok (.iconst 1, 1) := by decide +kernel
theorem dX1_begin_61 : decode cX1_begin 61 = .ok (.lload 4, 2) := by decide +kernel
theorem dX1_begin_63 : decode cX1_begin 63 = .ok (.invokevirtual 48, 3) := by decide +kernel
theorem dX1_begin_66 : decode cX1_begin 66 = .ok (.aload_n 0, 1) := by decide +kernel
theorem dX1_begin_67 : decode cX1_begin 67 = .ok (.getfield 24, 3) := by decide +kernel
theorem dX1_begin_70 : decode cX1_begin 70 = .ok (.invokestatic 51, 3) := by decide +kernel
theorem dX1_begin_73 : decode cX1_begin 73 = .ok (.istore 6, 2) := by decide +kernel
theorem dX1_begin_75 : decode cX1_begin 75 = .ok (.aload_n 0, 1) := by decide +kernel
theorem dX1_begin_76 : decode cX1_begin 76 = .ok (.bipush 6, 2) := by decide +kernel
theorem dX1_begin_78 : decode cX1_begin 78 = .ok (.iload 6, 2) := by decide +kernel
theorem dX1_begin_80 : decode cX1_begin 80 = .ok (.iload 6, 2) := by decide +kernel
theorem dX1_begin_82 : decode cX1_begin 82 = .ok (.iconst 4, 1) := by decide +kernel
theorem dX1_begin_83 : decode cX1_begin 83 = .ok (.iadd, 1) := by decide +kernel
theorem dX1_begin_84 : decode cX1_begin 84 = .ok (.iload 6, 2) := by decide +kernel
theorem dX1_begin_86 : decode cX1_begin 86 = .ok (.bipush 111, 2) := by decide +kernel
theorem dX1_begin_88 : decode cX1_begin 88 = .ok (.iconst 0, 1) := by decide +kernel
theorem dX1_begin_89 : decode cX1_begin 89 = .ok (.invokestatic 54, 3) := by decide +kernel
theorem dX1_begin_92 : decode cX1_begin 92 = .ok (.invokevirtual 48, 3) := by decide +kernel
theorem dX1_begin_95 : decode cX1_begin 95 = .ok (.iload_n 1, 1) := by decide +kernel
theorem dX1_begin_96 : decode cX1_begin 96 = .ok (.bipush 8, 2) := by decide +kernel
theorem dX1_begin_98 : decode cX1_begin 98 = .ok (.imul, 1) := by decide +kernel
theorem dX1_begin_99 : decode cX1_begin 99 = .ok (.istore 7, 2) := by decide +kernel
theorem dX1_begin_101 : decode cX1_begin 101 = .ok (.aload_n 0, 1) := by decide +kernel
theorem dX1_begin_102 : decode cX1_begin 102 = .ok (.bipush 7, 2) := by decide +kernel
theorem dX1_begin_104 : decode cX1_begin 104 = .ok (.iload 7, 2) := by decide +kernel
theorem dX1_begin_106 : decode cX1_begin 106 = .ok (.iload 7, 2) := by decide +kernel
theorem dX1_begin_108 : decode cX1_begin 108 = .ok (.bipush 8, 2) := by decide +kernel
theorem dX1_begin_110 : decode cX1_begin 110 = .ok (.iadd, 1) := by decide +kernel
theorem dX1_begin_111 : decode cX1_begin 111 = .ok (.iload 7, 2) := by decide +kernel
theorem dX1_begin_113 : decode cX1_begin 113 = .ok (.bipush 95, 2) := by decide +kernel
theorem dX1_begin_115 : decode cX1_begin 115 = .ok (.iconst 0, 1) := by decide +kernel
theorem dX1_begin_116 : decode cX1_begin 116 = .ok (.invokestatic 54, 3) := by decide +kernel
theorem dX1_begin_119 : decode cX1_begin 119 = .ok (.invokevirtual 48, 3) := by decide +kernel
theorem dX1_begin_122 : decode cX1_begin 122 = .ok (.return_, 1) := by decide +kernel
theorem hd_X1_begin : yX1_begin.cls ≠ "java/lang/invoke/MethodHandle" ∧ yX1_begin.cls ≠ "java/lang/invoke/VarHandle" ∧ (parseMethodDescriptor yX1_begin.desc).map (fun d => d.parameters.length) = some 3 := by decide +kernel
abbrev rm_X1_begin : Room := { frames := 2, cells := 0, slots := 0, locals := 46 }
set_option maxHeartbeats 4000000 in
set_option maxRecDepth 100000 in
theorem c_X1_begin (l : Launch) (G : Gx) (oc : Nat) (ac : Nat) (orr : Nat) (ar : Nat) (pr : Nat) (co : Nat → Nat) (rg : Nat → Int64) (c : Nat) (u : Int64) (v : Int64) (hpr : pr < 8) (hc : c < 4) : Mt l G yX1_begin cX1_begin 8 none rm_X1_begin [.ref oc, .int (nI c), .long u, .long v] [(oc, .inr (0, [.ref ac, .ref orr, .int (nI pr)])), (ac, .inl (G.2.1 1, 8, .inl (fun j9 => nI (co j9)))), (orr, .inr (4, [.ref ar])), (ar, .inl (G.2.1 2, 64, .inr (.inl rg)))] (D1 none [(oc, .inr (0, [.ref ac, .ref orr, .int (nI pr)])), (ac, .inl (G.2.1 1, 8, .inl (fun j9 => nI ((va_up co pr c) j9)))), (orr, .inr (4, [.ref ar])), (ar, .inl (G.2.1 2, 64, .inr (.inl (begR rg pr c u v))))]) := by
  refine Mt.of (by decide) (Nat.le_of_ble_eq_true rfl) ?_
  intro K hl9 hn9 hR
  show V K G cX1_begin RX1 8 rm_X1_begin 0 0 0 [(0, .ref oc), (1, .int (nI c)), (2, .long u), (4, .long v)] [] [(oc, .inr (0, [.ref ac, .ref orr, .int (nI pr)])), (ac, .inl (G.2.1 1, 8, .inl (fun j9 => nI (co j9)))), (orr, .inr (4, [.ref ar])), (ar, .inl (G.2.1 2, 64, .inr (.inl rg)))]
  refine v_aload_n dX1_begin_0 rfl 0 rfl ?_
  refine v_get (ref := "Sealhouse$Calls") (C := RX1) (T := TX1) (N := 3) 0 2 dX1_begin_1 rfl rfl gin_X1 (by decide) kw_90 rfl rfl ?_
  refine n_if_lt (a := pr) (tgt := 19) dX1_begin_4 (by decide) (by omega) ?_
  refine v_aload_n dX1_begin_7 rfl 0 rfl ?_
  refine v_get (ref := "Sealhouse$Calls") (C := RX1) (T := TX1) (N := 3) 0 2 dX1_begin_8 rfl rfl gin_X1 (by decide) kw_90 rfl rfl ?_
  refine v_aload_n dX1_begin_11 rfl 0 rfl ?_
  refine v_get (ref := "Sealhouse$Calls") (C := RX1) (T := TX1) (N := 3) 0 0 dX1_begin_12 rfl rfl gin_X1 (by decide) kw_88 rfl rfl ?_
  refine v_alen (v := nI 8) 1 1 dX1_begin_15 rfl rfl rfl ?_
  refine n_icmp_lt (a := pr) (b := 8) (tgt := 20) dX1_begin_16 (by decide) (by omega) (by omega) (fun c16 => ?_) (fun c16 => absurd c16 (by omega))
  refine v_aload_n dX1_begin_20 rfl 0 rfl ?_
  refine v_get (ref := "Sealhouse$Calls") (C := RX1) (T := TX1) (N := 3) 0 0 dX1_begin_21 rfl rfl gin_X1 (by decide) kw_88 rfl rfl ?_
  refine v_aload_n dX1_begin_24 rfl 0 rfl ?_
  refine v_get (ref := "Sealhouse$Calls") (C := RX1) (T := TX1) (N := 3) 0 2 dX1_begin_25 rfl rfl gin_X1 (by decide) kw_90 rfl rfl ?_
  refine v_iload_n dX1_begin_28 rfl 1 rfl ?_
  refine n_iast (i := pr) (g := (fun j9 => nI ((va_up co pr c) j9))) (ws' := [(oc, .inr (0, [.ref ac, .ref orr, .int (nI pr)])), (ac, .inl (G.2.1 1, 8, .inl (fun j9 => nI ((va_up co pr c) j9)))), (orr, .inr (4, [.ref ar])), (ar, .inl (G.2.1 2, 64, .inr (.inl rg)))]) 1 dX1_begin_29 rfl (by omega) (by decide) (upd_n _ _ _) rfl ?_
  refine v_aload_n dX1_begin_30 rfl 0 rfl ?_
  refine v_get (ref := "Sealhouse$Calls") (C := RX1) (T := TX1) (N := 3) 0 1 dX1_begin_31 rfl rfl gin_X1 (by decide) kw_89 rfl rfl ?_
  refine v_aload_n dX1_begin_34 rfl 0 rfl ?_
  refine v_get (ref := "Sealhouse$Calls") (C := RX1) (T := TX1) (N := 3) 0 2 dX1_begin_35 rfl rfl gin_X1 (by decide) kw_90 rfl rfl ?_
  refine v_bipush (v := nI 8) dX1_begin_38 (by decide) ?_
  refine n_imul (a := pr) (b := 8) (z := pr * 8) dX1_begin_40 rfl ?_
  refine v_aload_n dX1_begin_41 rfl 0 rfl ?_
  refine v_get (ref := "Sealhouse$Calls") (C := RX1) (T := TX1) (N := 3) 0 2 dX1_begin_42 rfl rfl gin_X1 (by decide) kw_90 rfl rfl ?_
  refine v_iconst (v := nI 1) dX1_begin_45 (by decide) ?_
  refine n_iadd (a := pr) (b := 1) (z := pr + 1) dX1_begin_46 rfl ?_
  refine v_bipush (v := nI 8) dX1_begin_47 (by decide) ?_
  refine n_imul (a := pr + 1) (b := 8) (z := (pr + 1) * 8) dX1_begin_49 rfl ?_
  refine c_V1 (ci := 4) (T := TX5) (N := 1) (As := [.int (nI (pr * 8)), .int (nI ((pr + 1) * 8))]) (rest := []) (wr := [(oc, .inr (0, [.ref ac, .ref orr, .int (nI pr)])), (ac, .inl (G.2.1 1, 8, .inl (fun j9 => nI ((va_up co pr c) j9))))]) (k' := 0) (n' := 0) (st2 := []) (ws2 := [(oc, .inr (0, [.ref ac, .ref orr, .int (nI pr)])), (ac, .inl (G.2.1 1, 8, .inl (fun j9 => nI ((va_up co pr c) j9)))), (orr, .inr (4, [.ref ar])), (ar, .inl (G.2.1 2, 64, .inr (.inl (clrA rg (pr * 8) ((pr + 1) * 8)))))]) (c_X5_clear K.2.1 G orr ar 64 rg (pr * 8) ((pr + 1) * 8) (by omega) (by omega) (by omega)) [2, 3] [0, 1] dX1_begin_50 kw_214 kw_215 kw_39 kw_217 kw_216 hd_X5_clear ⟨Nat.le_of_ble_eq_true rfl, Nat.le_of_ble_eq_true rfl⟩ ⟨(by decide), (by decide)⟩ ⟨rfl, rfl⟩ (Nat.le_of_ble_eq_true rfl) rfl rfl rfl rfl rfl rfl (by decide) 2 rfl rfl [0, 1, 2, 3] rfl rfl rfl rfl ?_
  refine v_aload_n dX1_begin_53 rfl 0 rfl ?_
  refine v_iconst (v := nI 0) dX1_begin_54 (by decide) ?_
  refine v_lload_n dX1_begin_55 rfl 2 rfl ?_
  refine c_V1 (ci := 0) (T := TX1) (N := 3) (As := [.int (nI 0), .long u]) (rest := []) (wr := []) (k' := 0) (n' := 0) (st2 := []) (ws2 := [(oc, .inr (0, [.ref ac, .ref orr, .int (nI pr)])), (ac, .inl (G.2.1 1, 8, .inl (fun j9 => nI ((va_up co pr c) j9)))), (orr, .inr (4, [.ref ar])), (ar, .inl (G.2.1 2, 64, .inr (.inl (vp_updL (clrA rg (pr * 8) ((pr + 1) * 8)) (pr * 8 + 0) u))))]) (c_X1_hold K.2.1 G oc ac orr ar pr (va_up co pr c) (clrA rg (pr * 8) ((pr + 1) * 8)) 0 u (by omega) (by omega)) [0, 1, 2, 3] [] dX1_begin_56 kw_223 kw_224 kw_40 kw_226 kw_225 hd_X1_hold ⟨Nat.le_of_ble_eq_true rfl, Nat.le_of_ble_eq_true rfl⟩ ⟨(by decide), (by decide)⟩ ⟨rfl, rfl⟩ (Nat.le_of_ble_eq_true rfl) rfl rfl rfl rfl rfl rfl (by decide) 0 rfl rfl [0, 1, 2, 3] rfl rfl rfl rfl ?_
  refine v_aload_n dX1_begin_59 rfl 0 rfl ?_
  refine v_iconst (v := nI 1) dX1_begin_60 (by decide) ?_
  refine v_lload dX1_begin_61 3 rfl ?_
  refine c_V1 (ci := 0) (T := TX1) (N := 3) (As := [.int (nI 1), .long v]) (rest := []) (wr := []) (k' := 0) (n' := 0) (st2 := []) (ws2 := [(oc, .inr (0, [.ref ac, .ref orr, .int (nI pr)])), (ac, .inl (G.2.1 1, 8, .inl (fun j9 => nI ((va_up co pr c) j9)))), (orr, .inr (4, [.ref ar])), (ar, .inl (G.2.1 2, 64, .inr (.inl (vp_updL (vp_updL (clrA rg (pr * 8) ((pr + 1) * 8)) (pr * 8 + 0) u) (pr * 8 + 1) v))))]) (c_X1_hold K.2.1 G oc ac orr ar pr (va_up co pr c) (vp_updL (clrA rg (pr * 8) ((pr + 1) * 8)) (pr * 8 + 0) u) 1 v (by omega) (by omega)) [0, 1, 2, 3] [] dX1_begin_63 kw_223 kw_224 kw_40 kw_226 kw_225 hd_X1_hold ⟨Nat.le_of_ble_eq_true rfl, Nat.le_of_ble_eq_true rfl⟩ ⟨(by decide), (by decide)⟩ ⟨rfl, rfl⟩ (Nat.le_of_ble_eq_true rfl) rfl rfl rfl rfl rfl rfl (by decide) 0 rfl rfl [0, 1, 2, 3] rfl rfl rfl rfl ?_
  refine v_aload_n dX1_begin_66 rfl 0 rfl ?_
  refine v_get (ref := "Sealhouse$Calls") (C := RX1) (T := TX1) (N := 3) 0 2 dX1_begin_67 rfl rfl gin_X1 (by decide) kw_90 rfl rfl ?_
  refine c_S1 (As := [.int (nI pr)]) (rest := []) (wr := [(oc, .inr (0, [.ref ac, .ref orr, .int (nI pr)])), (ac, .inl (G.2.1 1, 8, .inl (fun j9 => nI ((va_up co pr c) j9)))), (orr, .inr (4, [.ref ar])), (ar, .inl (G.2.1 2, 64, .inr (.inl (vp_updL (vp_updL (clrA rg (pr * 8) ((pr + 1) * 8)) (pr * 8 + 0) u) (pr * 8 + 1) v))))]) (k' := 0) (n' := 0) (st2 := [.int (nI (32 + pr * 4))]) (ws2 := [(oc, .inr (0, [.ref ac, .ref orr, .int (nI pr)])), (ac, .inl (G.2.1 1, 8, .inl (fun j9 => nI ((va_up co pr c) j9)))), (orr, .inr (4, [.ref ar])), (ar, .inl (G.2.1 2, 64, .inr (.inl (vp_updL (vp_updL (clrA rg (pr * 8) ((pr + 1) * 8)) (pr * 8 + 0) u) (pr * 8 + 1) v))))]) (c_X1_partStart K.2.1 G pr (by omega)) [] [0, 1, 2, 3] dX1_begin_70 kw_228 kw_139 kw_40 kw_140 hd_X1_partStart ⟨Nat.le_of_ble_eq_true rfl, Nat.le_of_ble_eq_true rfl⟩ ⟨(by decide), (by decide)⟩ ⟨rfl, rfl⟩ (Nat.le_of_ble_eq_true rfl) rfl rfl rfl rfl rfl rfl (by decide) [0, 1, 2, 3] rfl rfl rfl rfl ?_
  refine v_istore (lv' := [(6, .int (nI (32 + pr * 4))), (0, .ref oc), (1, .int (nI c)), (2, .long u), (4, .long v)]) dX1_begin_73 (by decide) rfl ?_
  refine v_aload_n dX1_begin_75 rfl 1 rfl ?_
  refine v_bipush (v := nI 6) dX1_begin_76 (by decide) ?_
  refine v_iload dX1_begin_78 0 rfl ?_
  refine v_iload dX1_begin_80 0 rfl ?_
  refine v_iconst (v := nI 4) dX1_begin_82 (by decide) ?_
  refine n_iadd (a := 32 + pr * 4) (b := 4) (z := (32 + pr * 4) + 4) dX1_begin_83 rfl ?_
  refine v_iload dX1_begin_84 0 rfl ?_
  refine v_bipush (v := nI 111) dX1_begin_86 (by decide) ?_
  refine v_iconst (v := nI 0) dX1_begin_88 (by decide) ?_
  refine c_S1 (As := [.int (nI (32 + pr * 4)), .int (nI ((32 + pr * 4) + 4)), .int (nI (32 + pr * 4)), .int (nI 111), .int (nI 0)]) (rest := [.int (nI 6), .ref oc]) (wr := [(oc, .inr (0, [.ref ac, .ref orr, .int (nI pr)])), (ac, .inl (G.2.1 1, 8, .inl (fun j9 => nI ((va_up co pr c) j9)))), (orr, .inr (4, [.ref ar])), (ar, .inl (G.2.1 2, 64, .inr (.inl (vp_updL (vp_updL (clrA rg (pr * 8) ((pr + 1) * 8)) (pr * 8 + 0) u) (pr * 8 + 1) v))))]) (k' := 0) (n' := 0) (st2 := [.long (wRt (32 + pr * 4) ((32 + pr * 4) + 4) (nI (32 + pr * 4)) 111 0), .int (nI 6), .ref oc]) (ws2 := [(oc, .inr (0, [.ref ac, .ref orr, .int (nI pr)])), (ac, .inl (G.2.1 1, 8, .inl (fun j9 => nI ((va_up co pr c) j9)))), (orr, .inr (4, [.ref ar])), (ar, .inl (G.2.1 2, 64, .inr (.inl (vp_updL (vp_updL (clrA rg (pr * 8) ((pr + 1) * 8)) (pr * 8 + 0) u) (pr * 8 + 1) v))))]) (c_X6_right K.2.1 G (32 + pr * 4) ((32 + pr * 4) + 4) (nI (32 + pr * 4)) 111 0 (by omega) (by omega) (by omega) (by omega)) [] [0, 1, 2, 3] dX1_begin_89 kw_229 kw_230 kw_45 kw_231 hd_X6_right ⟨Nat.le_of_ble_eq_true rfl, Nat.le_of_ble_eq_true rfl⟩ ⟨(by decide), (by decide)⟩ ⟨rfl, rfl⟩ (Nat.le_of_ble_eq_true rfl) rfl rfl rfl rfl rfl rfl (by decide) [0, 1, 2, 3] rfl rfl rfl rfl ?_
  refine c_V1 (ci := 0) (T := TX1) (N := 3) (As := [.int (nI 6), .long (wRt (32 + pr * 4) ((32 + pr * 4) + 4) (nI (32 + pr * 4)) 111 0)]) (rest := []) (wr := []) (k' := 0) (n' := 0) (st2 := []) (ws2 := [(oc, .inr (0, [.ref ac, .ref orr, .int (nI pr)])), (ac, .inl (G.2.1 1, 8, .inl (fun j9 => nI ((va_up co pr c) j9)))), (orr, .inr (4, [.ref ar])), (ar, .inl (G.2.1 2, 64, .inr (.inl (vp_updL (vp_updL (vp_updL (clrA rg (pr * 8) ((pr + 1) * 8)) (pr * 8 + 0) u) (pr * 8 + 1) v) (pr * 8 + 6) (wRt (32 + pr * 4) ((32 + pr * 4) + 4) (nI (32 + pr * 4)) 111 0)))))]) (c_X1_hold K.2.1 G oc ac orr ar pr (va_up co pr c) (vp_updL (vp_updL (clrA rg (pr * 8) ((pr + 1) * 8)) (pr * 8 + 0) u) (pr * 8 + 1) v) 6 (wRt (32 + pr * 4) ((32 + pr * 4) + 4) (nI (32 + pr * 4)) 111 0) (by omega) (by omega)) [0, 1, 2, 3] [] dX1_begin_92 kw_223 kw_224 kw_40 kw_226 kw_225 hd_X1_hold ⟨Nat.le_of_ble_eq_true rfl, Nat.le_of_ble_eq_true rfl⟩ ⟨(by decide), (by decide)⟩ ⟨rfl, rfl⟩ (Nat.le_of_ble_eq_true rfl) rfl rfl rfl rfl rfl rfl (by decide) 0 rfl rfl [0, 1, 2, 3] rfl rfl rfl rfl ?_
  refine v_iload_n dX1_begin_95 rfl 2 rfl ?_
  refine v_bipush (v := nI 8) dX1_begin_96 (by decide) ?_
  refine n_imul (a := c) (b := 8) (z := c * 8) dX1_begin_98 rfl ?_
  refine v_istore (lv' := [(7, .int (nI (c * 8))), (6, .int (nI (32 + pr * 4))), (0, .ref oc), (1, .int (nI c)), (2, .long u), (4, .long v)]) dX1_begin_99 (by decide) rfl ?_
  refine v_aload_n dX1_begin_101 rfl 2 rfl ?_
  refine v_bipush (v := nI 7) dX1_begin_102 (by decide) ?_
  refine v_iload dX1_begin_104 0 rfl ?_
  refine v_iload dX1_begin_106 0 rfl ?_
  refine v_bipush (v := nI 8) dX1_begin_108 (by decide) ?_
  refine n_iadd (a := c * 8) (b := 8) (z := (c * 8) + 8) dX1_begin_110 rfl ?_
  refine v_iload dX1_begin_111 0 rfl ?_
  refine v_bipush (v := nI 95) dX1_begin_113 (by decide) ?_
  refine v_iconst (v := nI 0) dX1_begin_115 (by decide) ?_
  refine c_S1 (As := [.int (nI (c * 8)), .int (nI ((c * 8) + 8)), .int (nI (c * 8)), .int (nI 95), .int (nI 0)]) (rest := [.int (nI 7), .ref oc]) (wr := [(oc, .inr (0, [.ref ac, .ref orr, .int (nI pr)])), (ac, .inl (G.2.1 1, 8, .inl (fun j9 => nI ((va_up co pr c) j9)))), (orr, .inr (4, [.ref ar])), (ar, .inl (G.2.1 2, 64, .inr (.inl (vp_updL (vp_updL (vp_updL (clrA rg (pr * 8) ((pr + 1) * 8)) (pr * 8 + 0) u) (pr * 8 + 1) v) (pr * 8 + 6) (wRt (32 + pr * 4) ((32 + pr * 4) + 4) (nI (32 + pr * 4)) 111 0)))))]) (k' := 0) (n' := 0) (st2 := [.long (wRt (c * 8) ((c * 8) + 8) (nI (c * 8)) 95 0), .int (nI 7), .ref oc]) (ws2 := [(oc, .inr (0, [.ref ac, .ref orr, .int (nI pr)])), (ac, .inl (G.2.1 1, 8, .inl (fun j9 => nI ((va_up co pr c) j9)))), (orr, .inr (4, [.ref ar])), (ar, .inl (G.2.1 2, 64, .inr (.inl (vp_updL (vp_updL (vp_updL (clrA rg (pr * 8) ((pr + 1) * 8)) (pr * 8 + 0) u) (pr * 8 + 1) v) (pr * 8 + 6) (wRt (32 + pr * 4) ((32 + pr * 4) + 4) (nI (32 + pr * 4)) 111 0)))))]) (c_X6_right K.2.1 G (c * 8) ((c * 8) + 8) (nI (c * 8)) 95 0 (by omega) (by omega) (by omega) (by omega)) [] [0, 1, 2, 3] dX1_begin_116 kw_229 kw_230 kw_45 kw_231 hd_X6_right ⟨Nat.le_of_ble_eq_true rfl, Nat.le_of_ble_eq_true rfl⟩ ⟨(by decide), (by decide)⟩ ⟨rfl, rfl⟩ (Nat.le_of_ble_eq_true rfl) rfl rfl rfl rfl rfl rfl (by decide) [0, 1, 2, 3] rfl rfl rfl rfl ?_
  refine c_V1 (ci := 0) (T := TX1) (N := 3) (As := [.int (nI 7), .long (wRt (c * 8) ((c * 8) + 8) (nI (c * 8)) 95 0)]) (rest := []) (wr := []) (k' := 0) (n' := 0) (st2 := []) (ws2 := [(oc, .inr (0, [.ref ac, .ref orr, .int (nI pr)])), (ac, .inl (G.2.1 1, 8, .inl (fun j9 => nI ((va_up co pr c) j9)))), (orr, .inr (4, [.ref ar])), (ar, .inl (G.2.1 2, 64, .inr (.inl (vp_updL (vp_updL (vp_updL (vp_updL (clrA rg (pr * 8) ((pr + 1) * 8)) (pr * 8 + 0) u) (pr * 8 + 1) v) (pr * 8 + 6) (wRt (32 + pr * 4) ((32 + pr * 4) + 4) (nI (32 + pr * 4)) 111 0)) (pr * 8 + 7) (wRt (c * 8) ((c * 8) + 8) (nI (c * 8)) 95 0)))))]) (c_X1_hold K.2.1 G oc ac orr ar pr (va_up co pr c) (vp_updL (vp_updL (vp_updL (clrA rg (pr * 8) ((pr + 1) * 8)) (pr * 8 + 0) u) (pr * 8 + 1) v) (pr * 8 + 6) (wRt (32 + pr * 4) ((32 + pr * 4) + 4) (nI (32 + pr * 4)) 111 0)) 7 (wRt (c * 8) ((c * 8) + 8) (nI (c * 8)) 95 0) (by omega) (by omega)) [0, 1, 2, 3] [] dX1_begin_119 kw_223 kw_224 kw_40 kw_226 kw_225 hd_X1_hold ⟨Nat.le_of_ble_eq_true rfl, Nat.le_of_ble_eq_true rfl⟩ ⟨(by decide), (by decide)⟩ ⟨rfl, rfl⟩ (Nat.le_of_ble_eq_true rfl) rfl rfl rfl rfl rfl rfl (by decide) 0 rfl rfl [0, 1, 2, 3] rfl rfl rfl rfl ?_
  exact v_vret hR dX1_begin_122 (by exact ⟨rfl, rfl⟩)
theorem dX1_goDeeper_0 : decode cX1_goDeeper 0 = .ok (.aload_n 0, 1) := by decide +kernel
theorem dX1_goDeeper_1 : decode cX1_goDeeper 1 = .ok (.invokevirtual 60, 3) := by decide +kernel
theorem dX1_goDeeper_4 : decode cX1_goDeeper 4 = .ok (.ifCond .ne 21, 3) := by decide +kernel
theorem dX1_goDeeper_7 : decode cX1_goDeeper 7 = .ok (.aload_n 0, 1) := by decide +kernel
theorem dX1_goDeeper_8 : decode cX1_goDeeper 8 = .ok (.dup, 1) := by decide +kernel
theorem dX1_goDeeper_9 : decode cX1_goDeeper 9 = .ok (.getfield 24, 3) := by decide +kernel
theorem dX1_goDeeper_12 : decode cX1_goDeeper 12 = .ok (.iconst 1, 1) := by decide +kernel
theorem dX1_goDeeper_13 : decode cX1_goDeeper 13 = .ok (.iadd, 1) := by decide +kernel
theorem dX1_goDeeper_14 : decode cX1_goDeeper 14 = .ok (.putfield 24, 3) := by decide +kernel
theorem dX1_goDeeper_17 : decode cX1_goDeeper 17 = .ok (.aload_n 0, 1) := by decide +kernel
theorem dX1_goDeeper_18 : decode cX1_goDeeper 18 = .ok (.iload_n 1, 1) := by decide +kernel
theorem dX1_goDeeper_19 : decode cX1_goDeeper 19 = .ok (.lload_n 2, 1) := by decide +kernel
theorem dX1_goDeeper_20 : decode cX1_goDeeper 20 = .ok (.lload 4, 2) := by decide +kernel
theorem dX1_goDeeper_22 : decode cX1_goDeeper 22 = .ok (.invokevirtual 64, 3) := by decide +kernel
theorem dX1_goDeeper_25 : decode cX1_goDeeper 25 = .ok (.return_, 1) := by decide +kernel
theorem hd_X1_goDeeper : yX1_goDeeper.cls ≠ "java/lang/invoke/MethodHandle" ∧ yX1_goDeeper.cls ≠ "java/lang/invoke/VarHandle" ∧ (parseMethodDescriptor yX1_goDeeper.desc).map (fun d => d.parameters.length) = some 3 := by decide +kernel
abbrev rm_X1_goDeeper : Room := { frames := 3, cells := 0, slots := 0, locals := 73 }
set_option maxHeartbeats 4000000 in
set_option maxRecDepth 100000 in
theorem c_X1_goDeeper (l : Launch) (G : Gx) (oc : Nat) (ac : Nat) (orr : Nat) (ar : Nat) (pr : Nat) (co : Nat → Nat) (rg : Nat → Int64) (c : Nat) (u : Int64) (v : Int64) (hpr : pr < 7) (hc : c < 4) : Mt l G yX1_goDeeper cX1_goDeeper 6 none rm_X1_goDeeper [.ref oc, .int (nI c), .long u, .long v] [(oc, .inr (0, [.ref ac, .ref orr, .int (nI pr)])), (ac, .inl (G.2.1 1, 8, .inl (fun j9 => nI (co j9)))), (orr, .inr (4, [.ref ar])), (ar, .inl (G.2.1 2, 64, .inr (.inl rg)))] (D1 none [(oc, .inr (0, [.ref ac, .ref orr, .int (nI (pr + 1))])), (ac, .inl (G.2.1 1, 8, .inl (fun j9 => nI ((va_up co (pr + 1) c) j9)))), (orr, .inr (4, [.ref ar])), (ar, .inl (G.2.1 2, 64, .inr (.inl (begR rg (pr + 1) c u v))))]) := by
  refine Mt.of (by decide) (Nat.le_of_ble_eq_true rfl) ?_
  intro K hl9 hn9 hR
  show V K G cX1_goDeeper RX1 6 rm_X1_goDeeper 0 0 0 [(0, .ref oc), (1, .int (nI c)), (2, .long u), (4, .long v)] [] [(oc, .inr (0, [.ref ac, .ref orr, .int (nI pr)])), (ac, .inl (G.2.1 1, 8, .inl (fun j9 => nI (co j9)))), (orr, .inr (4, [.ref ar])), (ar, .inl (G.2.1 2, 64, .inr (.inl rg)))]
  refine v_aload_n dX1_goDeeper_0 rfl 0 rfl ?_
  refine c_V1 (ci := 0) (T := TX1) (N := 3) (As := []) (rest := []) (wr := []) (k' := 0) (n' := 0) (st2 := [.int (bI (decide (7 ≤ pr)))]) (ws2 := [(oc, .inr (0, [.ref ac, .ref orr, .int (nI pr)])), (ac, .inl (G.2.1 1, 8, .inl (fun j9 => nI (co j9)))), (orr, .inr (4, [.ref ar])), (ar, .inl (G.2.1 2, 64, .inr (.inl rg)))]) (c_X1_isDeepest K.2.1 G oc ac orr ar pr co rg (by omega)) [0, 1, 2, 3] [] dX1_goDeeper_1 kw_761 kw_754 kw_40 kw_756 kw_755 hd_X1_isDeepest ⟨Nat.le_of_ble_eq_true rfl, Nat.le_of_ble_eq_true rfl⟩ ⟨(by decide), (by decide)⟩ ⟨rfl, rfl⟩ (Nat.le_of_ble_eq_true rfl) rfl rfl rfl rfl rfl rfl (by decide) 0 rfl rfl [0, 1, 2, 3] rfl rfl rfl rfl ?_
  refine b_if_ne (tgt := 25) dX1_goDeeper_4 (by decide) (fun c4 => absurd c4 (by exact fun h => absurd (of_decide_eq_true h) (by omega))) (fun c4 => ?_)
  refine v_aload_n dX1_goDeeper_7 rfl 0 rfl ?_
  refine v_dup dX1_goDeeper_8 rfl ?_
  refine v_get (ref := "Sealhouse$Calls") (C := RX1) (T := TX1) (N := 3) 0 2 dX1_goDeeper_9 rfl rfl gin_X1 (by decide) kw_90 rfl rfl ?_
  refine v_iconst (v := nI 1) dX1_goDeeper_12 (by decide) ?_
  refine n_iadd (a := pr) (b := 1) (z := pr + 1) dX1_goDeeper_13 rfl ?_
  refine v_put (ref := "Sealhouse$Calls") (C := RX1) (T := TX1) (N := 3) (ty0 := tyX1) (t := tyX1 2) (ws' := [(oc, .inr (0, [.ref ac, .ref orr, .int (nI (pr + 1))])), (ac, .inl (G.2.1 1, 8, .inl (fun j9 => nI (co j9)))), (orr, .inr (4, [.ref ar])), (ar, .inl (G.2.1 2, 64, .inr (.inl rg)))]) 0 2 dX1_goDeeper_14 rfl rfl gin_X1 tyX1_ok nmX1 (by decide) kw_90 rfl rfl (by decide +kernel) rfl rfl (Nat.le_of_ble_eq_true rfl) rfl ?_
  refine v_aload_n dX1_goDeeper_17 rfl 0 rfl ?_
  refine v_iload_n dX1_goDeeper_18 rfl 1 rfl ?_
  refine v_lload_n dX1_goDeeper_19 rfl 2 rfl ?_
  refine v_lload dX1_goDeeper_20 3 rfl ?_
  refine c_V1 (ci := 0) (T := TX1) (N := 3) (As := [.int (nI c), .long u, .long v]) (rest := []) (wr := []) (k' := 0) (n' := 0) (st2 := []) (ws2 := [(oc, .inr (0, [.ref ac, .ref orr, .int (nI (pr + 1))])), (ac, .inl (G.2.1 1, 8, .inl (fun j9 => nI ((va_up co (pr + 1) c) j9)))), (orr, .inr (4, [.ref ar])), (ar, .inl (G.2.1 2, 64, .inr (.inl (begR rg (pr + 1) c u v))))]) (c_X1_begin K.2.1 G oc ac orr ar (pr + 1) co rg c u v (by omega) (by omega)) [0, 1, 2, 3] [] dX1_goDeeper_22 kw_762 kw_211 kw_40 kw_213 kw_212 hd_X1_begin ⟨Nat.le_of_ble_eq_true rfl, Nat.le_of_ble_eq_true rfl⟩ ⟨(by decide), (by decide)⟩ ⟨rfl, rfl⟩ (Nat.le_of_ble_eq_true rfl) rfl rfl rfl rfl rfl rfl (by decide) 0 rfl rfl [0, 1, 2, 3] rfl rfl rfl rfl ?_
  exact v_vret hR dX1_goDeeper_25 (by exact ⟨rfl, rfl⟩)
theorem dX1_goBack_0 : decode cX1_goBack 0 = .ok (.aload_n 0, 1) := by decide +kernel
theorem dX1_goBack_1 : decode cX1_goBack 1 = .ok (.getfield 24, 3) := by decide +kernel
theorem dX1_goBack_4 : decode cX1_goBack 4 = .ok (.ifCond .le 19, 3) := by decide +kernel
theorem dX1_goBack_7 : decode cX1_goBack 7 = .ok (.aload_n 0, 1) := by decide +kernel
theorem dX1_goBack_8 : decode cX1_goBack 8 = .ok (.dup, 1) := by decide +kernel
theorem dX1_goBack_9 : decode cX1_goBack 9 = .ok (.getfield 24, 3) := by decide +kernel
theorem dX1_goBack_12 : decode cX1_goBack 12 = .ok (.iconst 1, 1) := by decide +kernel
theorem dX1_goBack_13 : decode cX1_goBack 13 = .ok (.isub, 1) := by decide +kernel
theorem dX1_goBack_14 : decode cX1_goBack 14 = .ok (.putfield 24, 3) := by decide +kernel
theorem dX1_goBack_17 : decode cX1_goBack 17 = .ok (.aload_n 0, 1) := by decide +kernel
theorem dX1_goBack_18 : decode cX1_goBack 18 = .ok (.iconst 0, 1) := by decide +kernel
theorem dX1_goBack_19 : decode cX1_goBack 19 = .ok (.lload_n 1, 1) := by decide +kernel
theorem dX1_goBack_20 : decode cX1_goBack 20 = .ok (.invokevirtual 48, 3) := by decide +kernel
theorem dX1_goBack_23 : decode cX1_goBack 23 = .ok (.return_, 1) := by decide +kernel
theorem hd_X1_goBack : yX1_goBack.cls ≠ "java/lang/invoke/MethodHandle" ∧ yX1_goBack.cls ≠ "java/lang/invoke/VarHandle" ∧ (parseMethodDescriptor yX1_goBack.desc).map (fun d => d.parameters.length) = some 1 := by decide +kernel
abbrev rm_X1_goBack : Room := { frames := 2, cells := 0, slots := 0, locals := 46 }
set_option maxHeartbeats 4000000 in
set_option maxRecDepth 100000 in
theorem c_X1_goBack (l : Launch) (G : Gx) (oc : Nat) (ac : Nat) (orr : Nat) (ar : Nat) (pr : Nat) (co : Nat → Nat) (rg : Nat → Int64) (u : Int64) (hpr : pr < 8) (h0 : 0 < pr) : Mt l G yX1_goBack cX1_goBack 3 none rm_X1_goBack [.ref oc, .long u] [(oc, .inr (0, [.ref ac, .ref orr, .int (nI pr)])), (ac, .inl (G.2.1 1, 8, .inl (fun j9 => nI (co j9)))), (orr, .inr (4, [.ref ar])), (ar, .inl (G.2.1 2, 64, .inr (.inl rg)))] (D1 none [(oc, .inr (0, [.ref ac, .ref orr, .int (nI (pr - 1))])), (ac, .inl (G.2.1 1, 8, .inl (fun j9 => nI (co j9)))), (orr, .inr (4, [.ref ar])), (ar, .inl (G.2.1 2, 64, .inr (.inl (vp_updL rg ((pr - 1) * 8 + 0) u))))]) := by
  refine Mt.of (by decide) (Nat.le_of_ble_eq_true rfl) ?_
  intro K hl9 hn9 hR
  show V K G cX1_goBack RX1 3 rm_X1_goBack 0 0 0 [(0, .ref oc), (1, .long u)] [] [(oc, .inr (0, [.ref ac, .ref orr, .int (nI pr)])), (ac, .inl (G.2.1 1, 8, .inl (fun j9 => nI (co j9)))), (orr, .inr (4, [.ref ar])), (ar, .inl (G.2.1 2, 64, .inr (.inl rg)))]
  refine v_aload_n dX1_goBack_0 rfl 0 rfl ?_
  refine v_get (ref := "Sealhouse$Calls") (C := RX1) (T := TX1) (N := 3) 0 2 dX1_goBack_1 rfl rfl gin_X1 (by decide) kw_90 rfl rfl ?_
  refine n_if_le (a := pr) (tgt := 23) dX1_goBack_4 (by decide) (by omega) (fun c4 => absurd c4 (by omega)) (fun c4 => ?_)
  refine v_aload_n dX1_goBack_7 rfl 0 rfl ?_
  refine v_dup dX1_goBack_8 rfl ?_
  refine v_get (ref := "Sealhouse$Calls") (C := RX1) (T := TX1) (N := 3) 0 2 dX1_goBack_9 rfl rfl gin_X1 (by decide) kw_90 rfl rfl ?_
  refine v_iconst (v := nI 1) dX1_goBack_12 (by decide) ?_
  refine n_isub (a := pr) (b := 1) (z := pr - 1) dX1_goBack_13 (by omega) ?_
  refine v_put (ref := "Sealhouse$Calls") (C := RX1) (T := TX1) (N := 3) (ty0 := tyX1) (t := tyX1 2) (ws' := [(oc, .inr (0, [.ref ac, .ref orr, .int (nI (pr - 1))])), (ac, .inl (G.2.1 1, 8, .inl (fun j9 => nI (co j9)))), (orr, .inr (4, [.ref ar])), (ar, .inl (G.2.1 2, 64, .inr (.inl rg)))]) 0 2 dX1_goBack_14 rfl rfl gin_X1 tyX1_ok nmX1 (by decide) kw_90 rfl rfl (by decide +kernel) rfl rfl (Nat.le_of_ble_eq_true rfl) rfl ?_
  refine v_aload_n dX1_goBack_17 rfl 0 rfl ?_
  refine v_iconst (v := nI 0) dX1_goBack_18 (by decide) ?_
  refine v_lload_n dX1_goBack_19 rfl 1 rfl ?_
  refine c_V1 (ci := 0) (T := TX1) (N := 3) (As := [.int (nI 0), .long u]) (rest := []) (wr := []) (k' := 0) (n' := 0) (st2 := []) (ws2 := [(oc, .inr (0, [.ref ac, .ref orr, .int (nI (pr - 1))])), (ac, .inl (G.2.1 1, 8, .inl (fun j9 => nI (co j9)))), (orr, .inr (4, [.ref ar])), (ar, .inl (G.2.1 2, 64, .inr (.inl (vp_updL rg ((pr - 1) * 8 + 0) u))))]) (c_X1_hold K.2.1 G oc ac orr ar (pr - 1) co rg 0 u (by omega) (by omega)) [0, 1, 2, 3] [] dX1_goBack_20 kw_223 kw_224 kw_40 kw_226 kw_225 hd_X1_hold ⟨Nat.le_of_ble_eq_true rfl, Nat.le_of_ble_eq_true rfl⟩ ⟨(by decide), (by decide)⟩ ⟨rfl, rfl⟩ (Nat.le_of_ble_eq_true rfl) rfl rfl rfl rfl rfl rfl (by decide) 0 rfl rfl [0, 1, 2, 3] rfl rfl rfl rfl ?_
  exact v_vret hR dX1_goBack_23 (by exact ⟨rfl, rfl⟩)
theorem dX1_dropRights_0 : decode cX1_dropRights 0 = .ok (.aload_n 0, 1) := by decide +kernel
theorem dX1_dropRights_1 : decode cX1_dropRights 1 = .ok (.getfield 20, 3) := by decide +kernel
theorem dX1_dropRights_4 : decode cX1_dropRights 4 = .ok (.aload_n 1, 1) := by decide +kernel
theorem dX1_dropRights_5 : decode cX1_dropRights 5 = .ok (.aload_n 0, 1) := by decide +kernel
theorem dX1_dropRights_6 : decode cX1_dropRights 6 = .ok (.getfield 24, 3) := by decide +kernel
theorem dX1_dropRights_9 : decode cX1_dropRights 9 = .ok (.iconst 1, 1) := by decide +kernel
theorem dX1_dropRights_10 : decode cX1_dropRights 10 = .ok (.iadd, 1) := by decide +kernel
theorem dX1_dropRights_11 : decode cX1_dropRights 11 = .ok (.bipush 8, 2) := by decide +kernel
theorem dX1_dropRights_13 : decode cX1_dropRights 13 = .ok (.imul, 1) := by decide +kernel
theorem dX1_dropRights_14 : decode cX1_dropRights 14 = .ok (.invokevirtual 68, 3) := by decide +kernel
theorem dX1_dropRights_17 : decode cX1_dropRights 17 = .ok (.ireturn, 1) := by decide +kernel
theorem hd_X1_dropRights : yX1_dropRights.cls ≠ "java/lang/invoke/MethodHandle" ∧ yX1_dropRights.cls ≠ "java/lang/invoke/VarHandle" ∧ (parseMethodDescriptor yX1_dropRights.desc).map (fun d => d.parameters.length) = some 1 := by decide +kernel
abbrev rm_X1_dropRights : Room := { frames := 2, cells := 0, slots := 0, locals := 47 }
set_option maxHeartbeats 4000000 in
set_option maxRecDepth 100000 in
theorem c_X1_dropRights (l : Launch) (G : Gx) (oc : Nat) (ac : Nat) (orr : Nat) (ar : Nat) (pr : Nat) (co : Nat → Nat) (rg : Nat → Int64) (q : Nat) (b : Nat) (y : Nat) (h : Nat → Int64) (hpr : pr < 8) (hy1 : 1 < y) (hy2 : y ≤ 2000) : Mt l G yX1_dropRights cX1_dropRights 2 (some .int) rm_X1_dropRights [.ref oc, .ref q] [(oc, .inr (0, [.ref ac, .ref orr, .int (nI pr)])), (ac, .inl (G.2.1 1, 8, .inl (fun j9 => nI (co j9)))), (orr, .inr (4, [.ref ar])), (ar, .inl (G.2.1 2, 64, .inr (.inl rg))), (q, .inr (1, [.ref b])), (b, .inl (G.2.1 2, y, .inr (.inl h)))] (D1 (some (.int (nI (cntF (dropP h rg) ((pr + 1) * 8))))) [(oc, .inr (0, [.ref ac, .ref orr, .int (nI pr)])), (ac, .inl (G.2.1 1, 8, .inl (fun j9 => nI (co j9)))), (orr, .inr (4, [.ref ar])), (ar, .inl (G.2.1 2, 64, .inr (.inl (dropA h rg ((pr + 1) * 8))))), (q, .inr (1, [.ref b])), (b, .inl (G.2.1 2, y, .inr (.inl h)))]) := by
  refine Mt.of (by decide) (Nat.le_of_ble_eq_true rfl) ?_
  intro K hl9 hn9 hR
  show V K G cX1_dropRights RX1 2 rm_X1_dropRights 0 0 0 [(0, .ref oc), (1, .ref q)] [] [(oc, .inr (0, [.ref ac, .ref orr, .int (nI pr)])), (ac, .inl (G.2.1 1, 8, .inl (fun j9 => nI (co j9)))), (orr, .inr (4, [.ref ar])), (ar, .inl (G.2.1 2, 64, .inr (.inl rg))), (q, .inr (1, [.ref b])), (b, .inl (G.2.1 2, y, .inr (.inl h)))]
  refine v_aload_n dX1_dropRights_0 rfl 0 rfl ?_
  refine v_get (ref := "Sealhouse$Calls") (C := RX1) (T := TX1) (N := 3) 0 1 dX1_dropRights_1 rfl rfl gin_X1 (by decide) kw_89 rfl rfl ?_
  refine v_aload_n dX1_dropRights_4 rfl 1 rfl ?_
  refine v_aload_n dX1_dropRights_5 rfl 0 rfl ?_
  refine v_get (ref := "Sealhouse$Calls") (C := RX1) (T := TX1) (N := 3) 0 2 dX1_dropRights_6 rfl rfl gin_X1 (by decide) kw_90 rfl rfl ?_
  refine v_iconst (v := nI 1) dX1_dropRights_9 (by decide) ?_
  refine n_iadd (a := pr) (b := 1) (z := pr + 1) dX1_dropRights_10 rfl ?_
  refine v_bipush (v := nI 8) dX1_dropRights_11 (by decide) ?_
  refine n_imul (a := pr + 1) (b := 8) (z := (pr + 1) * 8) dX1_dropRights_13 rfl ?_
  refine c_V1 (ci := 4) (T := TX5) (N := 1) (As := [.ref q, .int (nI ((pr + 1) * 8))]) (rest := []) (wr := [(oc, .inr (0, [.ref ac, .ref orr, .int (nI pr)])), (ac, .inl (G.2.1 1, 8, .inl (fun j9 => nI (co j9))))]) (k' := 0) (n' := 0) (st2 := [.int (nI (cntF (dropP h rg) ((pr + 1) * 8)))]) (ws2 := [(oc, .inr (0, [.ref ac, .ref orr, .int (nI pr)])), (ac, .inl (G.2.1 1, 8, .inl (fun j9 => nI (co j9)))), (orr, .inr (4, [.ref ar])), (ar, .inl (G.2.1 2, 64, .inr (.inl (dropA h rg ((pr + 1) * 8))))), (q, .inr (1, [.ref b])), (b, .inl (G.2.1 2, y, .inr (.inl h)))]) (c_X5_dropRights K.2.1 G orr ar 64 rg q b y h ((pr + 1) * 8) (by omega) (by omega) (by omega) (by omega)) [2, 3, 4, 5] [0, 1] dX1_dropRights_14 kw_297 kw_280 kw_39 kw_282 kw_281 hd_X5_dropRights ⟨Nat.le_of_ble_eq_true rfl, Nat.le_of_ble_eq_true rfl⟩ ⟨(by decide), (by decide)⟩ ⟨rfl, rfl⟩ (Nat.le_of_ble_eq_true rfl) rfl rfl rfl rfl rfl rfl (by decide) 2 rfl rfl [0, 1, 2, 3, 4, 5] rfl rfl rfl rfl ?_
  exact v_iret hR dX1_dropRights_17 (by exact ⟨rfl, rfl⟩)
theorem dX1_rightsAreSound_0 : decode cX1_rightsAreSound 0 = .ok (.aload_n 0, 1) := by decide +kernel
theorem dX1_rightsAreSound_1 : decode cX1_rightsAreSound 1 = .ok (.getfield 20, 3) := by decide +kernel
theorem dX1_rightsAreSound_4 : decode cX1_rightsAreSound 4 = .ok (.aload_n 0, 1) := by decide +kernel
theorem dX1_rightsAreSound_5 : decode cX1_rightsAreSound 5 = .ok (.getfield 24, 3) := by decide +kernel
theorem dX1_rightsAreSound_8 : decode cX1_rightsAreSound 8 = .ok (.iconst 1, 1) := by decide +kernel
theorem dX1_rightsAreSound_9 : decode cX1_rightsAreSound 9 = .ok (.iadd, 1) := by decide +kernel
theorem dX1_rightsAreSound_10 : decode cX1_rightsAreSound 10 = .ok (.bipush 8, 2) := by decide +kernel
theorem dX1_rightsAreSound_12 : decode cX1_rightsAreSound 12 = .ok (.imul, 1) := by decide +kernel
theorem dX1_rightsAreSound_13 : decode cX1_rightsAreSound 13 = .ok (.invokevirtual 72, 3) := by decide +kernel
theorem dX1_rightsAreSound_16 : decode cX1_rightsAreSound 16 = .ok (.ireturn, 1) := by decide +kernel
theorem hd_X1_rightsAreSound : yX1_rightsAreSound.cls ≠ "java/lang/invoke/MethodHandle" ∧ yX1_rightsAreSound.cls ≠ "java/lang/invoke/VarHandle" ∧ (parseMethodDescriptor yX1_rightsAreSound.desc).map (fun d => d.parameters.length) = some 0 := by decide +kernel
abbrev rm_X1_rightsAreSound : Room := { frames := 5, cells := 0, slots := 0, locals := 108 }
set_option maxHeartbeats 4000000 in
set_option maxRecDepth 100000 in
theorem c_X1_rightsAreSound (l : Launch) (G : Gx) (oc : Nat) (ac : Nat) (orr : Nat) (ar : Nat) (pr : Nat) (co : Nat → Nat) (rg : Nat → Int64) (hpr : pr < 8) : Mt l G yX1_rightsAreSound cX1_rightsAreSound 1 (some .boolean) rm_X1_rightsAreSound [.ref oc] [(oc, .inr (0, [.ref ac, .ref orr, .int (nI pr)])), (ac, .inl (G.2.1 1, 8, .inl (fun j9 => nI (co j9)))), (orr, .inr (4, [.ref ar])), (ar, .inl (G.2.1 2, 64, .inr (.inl rg)))] (D1 (some (.int (bI (allF (sndW rg) ((pr + 1) * 8))))) [(oc, .inr (0, [.ref ac, .ref orr, .int (nI pr)])), (ac, .inl (G.2.1 1, 8, .inl (fun j9 => nI (co j9)))), (orr, .inr (4, [.ref ar])), (ar, .inl (G.2.1 2, 64, .inr (.inl rg)))]) := by
  refine Mt.of (by decide) (Nat.le_of_ble_eq_true rfl) ?_
  intro K hl9 hn9 hR
  show V K G cX1_rightsAreSound RX1 1 rm_X1_rightsAreSound 0 0 0 [(0, .ref oc)] [] [(oc, .inr (0, [.ref ac, .ref orr, .int (nI pr)])), (ac, .inl (G.2.1 1, 8, .inl (fun j9 => nI (co j9)))), (orr, .inr (4, [.ref ar])), (ar, .inl (G.2.1 2, 64, .inr (.inl rg)))]
  refine v_aload_n dX1_rightsAreSound_0 rfl 0 rfl ?_
  refine v_get (ref := "Sealhouse$Calls") (C := RX1) (T := TX1) (N := 3) 0 1 dX1_rightsAreSound_1 rfl rfl gin_X1 (by decide) kw_89 rfl rfl ?_
  refine v_aload_n dX1_rightsAreSound_4 rfl 0 rfl ?_
  refine v_get (ref := "Sealhouse$Calls") (C := RX1) (T := TX1) (N := 3) 0 2 dX1_rightsAreSound_5 rfl rfl gin_X1 (by decide) kw_90 rfl rfl ?_
  refine v_iconst (v := nI 1) dX1_rightsAreSound_8 (by decide) ?_
  refine n_iadd (a := pr) (b := 1) (z := pr + 1) dX1_rightsAreSound_9 rfl ?_
  refine v_bipush (v := nI 8) dX1_rightsAreSound_10 (by decide) ?_
  refine n_imul (a := pr + 1) (b := 8) (z := (pr + 1) * 8) dX1_rightsAreSound_12 rfl ?_
  refine c_V1 (ci := 4) (T := TX5) (N := 1) (As := [.int (nI ((pr + 1) * 8))]) (rest := []) (wr := [(oc, .inr (0, [.ref ac, .ref orr, .int (nI pr)])), (ac, .inl (G.2.1 1, 8, .inl (fun j9 => nI (co j9))))]) (k' := 0) (n' := 0) (st2 := [.int (bI (allF (sndW rg) ((pr + 1) * 8)))]) (ws2 := [(oc, .inr (0, [.ref ac, .ref orr, .int (nI pr)])), (ac, .inl (G.2.1 1, 8, .inl (fun j9 => nI (co j9)))), (orr, .inr (4, [.ref ar])), (ar, .inl (G.2.1 2, 64, .inr (.inl rg)))]) (c_X5_rightsAreSound K.2.1 G orr ar 64 rg ((pr + 1) * 8) (by omega) (by omega)) [2, 3] [0, 1] dX1_rightsAreSound_13 kw_431 kw_408 kw_39 kw_410 kw_409 hd_X5_rightsAreSound ⟨Nat.le_of_ble_eq_true rfl, Nat.le_of_ble_eq_true rfl⟩ ⟨(by decide), (by decide)⟩ ⟨rfl, rfl⟩ (Nat.le_of_ble_eq_true rfl) rfl rfl rfl rfl rfl rfl (by decide) 2 rfl rfl [0, 1, 2, 3] rfl rfl rfl rfl ?_
  exact v_zret hR dX1_rightsAreSound_16 (bI_nar _) (by exact ⟨rfl, rfl⟩)
theorem dX3_init_0 : decode cX3_init 0 = .ok (.aload_n 0, 1) := by decide +kernel
theorem dX3_init_1 : decode cX3_init 1 = .ok (.invokespecial 3, 3) := by decide +kernel
theorem dX3_init_4 : decode cX3_init 4 = .ok (.aload_n 0, 1) := by decide +kernel
theorem dX3_init_5 : decode cX3_init 5 = .ok (.bipush 32, 2) := by decide +kernel
theorem dX3_init_7 : decode cX3_init 7 = .ok (.newarray .char, 2) := by decide +kernel
theorem dX3_init_9 : decode cX3_init 9 = .ok (.putfield 9, 3) := by decide +kernel
theorem dX3_init_12 : decode cX3_init 12 = .ok (.aload_n 0, 1) := by decide +kernel
theorem dX3_init_13 : decode cX3_init 13 = .ok (.bipush 32, 2) := by decide +kernel
theorem dX3_init_15 : decode cX3_init 15 = .ok (.newarray .int, 2) := by decide +kernel
theorem dX3_init_17 : decode cX3_init 17 = .ok (.putfield 15, 3) := by decide +kernel
theorem dX3_init_20 : decode cX3_init 20 = .ok (.aload_n 0, 1) := by decide +kernel
theorem dX3_init_21 : decode cX3_init 21 = .ok (.bipush 32, 2) := by decide +kernel
theorem dX3_init_23 : decode cX3_init 23 = .ok (.newarray .int, 2) := by decide +kernel
theorem dX3_init_25 : decode cX3_init 25 = .ok (.putfield 19, 3) := by decide +kernel
theorem dX3_init_28 : decode cX3_init 28 = .ok (.aload_n 0, 1) := by decide +kernel
theorem dX3_init_29 : decode cX3_init 29 = .ok (.iconst 4, 1) := by decide +kernel
theorem dX3_init_30 : decode cX3_init 30 = .ok (.newarray .int, 2) := by decide +kernel
theorem dX3_init_32 : decode cX3_init 32 = .ok (.putfield 22, 3) := by decide +kernel
theorem dX3_init_35 : decode cX3_init 35 = .ok (.aload_n 0, 1) := by decide +kernel
theorem dX3_init_36 : decode cX3_init 36 = .ok (.iconst 4, 1) := by decide +kernel
theorem dX3_init_37 : decode cX3_init 37 = .ok (.newarray .int, 2) := by decide +kernel
theorem dX3_init_39 : decode cX3_init 39 = .ok (.putfield 25, 3) := by decide +kernel
theorem dX3_init_42 : decode cX3_init 42 = .ok (.iconst 0, 1) := by decide +kernel
theorem dX3_init_43 : decode cX3_init 43 = .ok (.istore_n 1, 1) := by decide +kernel
theorem dX3_init_44 : decode cX3_init 44 = .ok (.iload_n 1, 1) := by decide +kernel
theorem dX3_init_45 : decode cX3_init 45 = .ok (.aload_n 0, 1) := by decide +kernel
theorem dX3_init_46 : decode cX3_init 46 = .ok (.getfield 9, 3) := by decide +kernel
theorem dX3_init_49 : decode cX3_init 49 = .ok (.arraylength, 1) := by decide +kernel
theorem dX3_init_50 : decode cX3_init 50 = .ok (.if_icmp .ge 17, 3) := by decide +kernel
theorem dX3_init_53 : decode cX3_init 53 = .ok (.aload_n 0, 1) := by decide +kernel
theorem dX3_init_54 : decode cX3_init 54 = .ok (.getfield 9, 3) := by decide +kernel
theorem dX3_init_57 : decode cX3_init 57 = .ok (.iload_n 1, 1) := by decide +kernel
theorem dX3_init_58 : decode cX3_init 58 = .ok (.bipush 102, 2) := by decide +kernel
theorem dX3_init_60 : decode cX3_init 60 = .ok (.castore, 1) := by decide +kernel
theorem dX3_init_61 : decode cX3_init 61 = .ok (.iinc 1 1, 3) := by decide +kernel
theorem dX3_init_64 : decode cX3_init 64 = .ok (.goto (-20), 3) := by decide +kernel
theorem dX3_init_67 : decode cX3_init 67 = .ok (.iconst 0, 1) := by decide +kernel
theorem dX3_init_68 : decode cX3_init 68 = .ok (.istore_n 1, 1) := by decide +kernel
theorem dX3_init_69 : decode cX3_init 69 = .ok (.iload_n 1, 1) := by decide +kernel
theorem dX3_init_70 : decode cX3_init 70 = .ok (.aload_n 0, 1) := by decide +kernel
theorem dX3_init_71 : decode cX3_init 71 = .ok (.getfield 22, 3) := by decide +kernel
theorem dX3_init_74 : decode cX3_init 74 = .ok (.arraylength, 1) := by decide +kernel
theorem dX3_init_75 : decode cX3_init 75 = .ok (.if_icmp .ge 17, 3) := by decide +kernel
theorem dX3_init_78 : decode cX3_init 78 = .ok (.aload_n 0, 1) := by decide +kernel
theorem dX3_init_79 : decode cX3_init 79 = .ok (.getfield 22, 3) := by decide +kernel
theorem dX3_init_82 : decode cX3_init 82 = .ok (.iload_n 1, 1) := by decide +kernel
theorem dX3_init_83 : decode cX3_init 83 = .ok (.bipush 16, 2) := by decide +kernel
theorem dX3_init_85 : decode cX3_init 85 = .ok (.iastore, 1) := by decide +kernel
theorem dX3_init_86 : decode cX3_init 86 = .ok (.iinc 1 1, 3) := by decide +kernel
theorem dX3_init_89 : decode cX3_init 89 = .ok (.goto (-20), 3) := by decide +kernel
theorem dX3_init_92 : decode cX3_init 92 = .ok (.return_, 1) := by decide +kernel
theorem hd_X3_init : yX3_init.cls ≠ "java/lang/invoke/MethodHandle" ∧ yX3_init.cls ≠ "java/lang/invoke/VarHandle" ∧ (parseMethodDescriptor yX3_init.desc).map (fun d => d.parameters.length) = some 0 := by decide +kernel
abbrev rm_X3_init : Room := { frames := 1, cells := 5, slots := 104, locals := 12 }
set_option maxHeartbeats 4000000 in
set_option maxRecDepth 100000 in
theorem c_X3_init (l : Launch) (G : Gx) (oh : Nat) : Mt l G yX3_init cX3_init 2 none rm_X3_init [.ref oh] [(oh, .inr (2, [.null, .null, .null, .null, .null]))] (E1 (α := (Nat) × (Nat) × (Nat) × (Nat) × (Nat)) (fun u9 => none) (fun u9 => [(oh, .inr (2, [.ref u9.1, .ref u9.2.1, .ref u9.2.2.1, .ref u9.2.2.2.1, .ref u9.2.2.2.2])), (u9.1, .inl (G.2.1 0, 32, .inl (fun j9 => nI ((filA (fun _ => 0) 102 0 32) j9)))), (u9.2.1, .inl (G.2.1 1, 32, .inl (fun j9 => nI ((fun _ => 0) j9)))), (u9.2.2.1, .inl (G.2.1 1, 32, .inl (fun j9 => nI ((fun _ => 0) j9)))), (u9.2.2.2.1, .inl (G.2.1 1, 4, .inl (fun j9 => nI ((filA (fun _ => 0) 16 0 4) j9)))), (u9.2.2.2.2, .inl (G.2.1 1, 4, .inl (fun _ => nI 0)))]) (fun u9 => True)) := by
  refine Mt.of (by decide) (Nat.le_of_ble_eq_true rfl) ?_
  intro K hl9 hn9 hR
  show V K G cX3_init RX3 2 rm_X3_init 0 0 0 [(0, .ref oh)] [] [(oh, .inr (2, [.null, .null, .null, .null, .null]))]
  refine v_aload_n dX3_init_0 rfl 0 rfl ?_
  refine v_objInit dX3_init_1 kw_104 kw_67 kw_68 (Nat.le_of_ble_eq_true rfl) (Nat.le_of_ble_eq_true rfl) ?_
  refine v_aload_n dX3_init_4 rfl 0 rfl ?_
  refine v_bipush (v := nI 32) dX3_init_5 (by decide) ?_
  refine v_newa (z := 32) (t := .char) (at0 := .char) (a0 := (32, .inl (fun j9 => nI ((fun _ => 0) j9)))) 0 dX3_init_7 rfl rfl (fun _ h => nomatch h) kw_ac_C (fun _ => rfl) (nI_pos (by omega)) (nI_clamp (by omega)) (by decide) (by decide) (by decide) (fun q1_7 => ?_)
  show V K G cX3_init RX3 2 rm_X3_init 1 32 9 [(0, .ref oh)] [.ref q1_7, .ref oh] [(oh, .inr (2, [.null, .null, .null, .null, .null])), (q1_7, .inl (G.2.1 0, 32, .inl (fun j9 => nI ((fun _ => 0) j9))))]
  refine v_putF (ref := "Sealhouse$Heap") (C := RX3) (T := TX3) (N := 5) (ty0 := tyX3) (t := tyX3 0) (ws' := [(oh, .inr (2, [.ref q1_7, .null, .null, .null, .null])), (q1_7, .inl (G.2.1 0, 32, .inl (fun j9 => nI ((fun _ => 0) j9))))]) 0 0 hn9 dX3_init_9 rfl rfl gin_X3 tyX3_ok nmX3 (by decide) kw_105 rfl rfl rfl (by decide +kernel) rfl rfl (Nat.le_of_ble_eq_true rfl) rfl ?_
  refine v_aload_n dX3_init_12 rfl 0 rfl ?_
  refine v_bipush (v := nI 32) dX3_init_13 (by decide) ?_
  refine v_newa (z := 32) (t := .int) (at0 := .int) (a0 := (32, .inl (fun j9 => nI ((fun _ => 0) j9)))) 1 dX3_init_15 rfl rfl (fun _ h => nomatch h) kw_ac_I (fun _ => rfl) (nI_pos (by omega)) (nI_clamp (by omega)) (by decide) (by decide) (by decide) (fun q2_15 => ?_)
  show V K G cX3_init RX3 2 rm_X3_init 2 64 17 [(0, .ref oh)] [.ref q2_15, .ref oh] [(oh, .inr (2, [.ref q1_7, .null, .null, .null, .null])), (q1_7, .inl (G.2.1 0, 32, .inl (fun j9 => nI ((fun _ => 0) j9)))), (q2_15, .inl (G.2.1 1, 32, .inl (fun j9 => nI ((fun _ => 0) j9))))]
  refine v_putF (ref := "Sealhouse$Heap") (C := RX3) (T := TX3) (N := 5) (ty0 := tyX3) (t := tyX3 1) (ws' := [(oh, .inr (2, [.ref q1_7, .ref q2_15, .null, .null, .null])), (q1_7, .inl (G.2.1 0, 32, .inl (fun j9 => nI ((fun _ => 0) j9)))), (q2_15, .inl (G.2.1 1, 32, .inl (fun j9 => nI ((fun _ => 0) j9))))]) 0 1 hn9 dX3_init_17 rfl rfl gin_X3 tyX3_ok nmX3 (by decide) kw_106 rfl rfl rfl (by decide +kernel) rfl rfl (Nat.le_of_ble_eq_true rfl) rfl ?_
  refine v_aload_n dX3_init_20 rfl 0 rfl ?_
  refine v_bipush (v := nI 32) dX3_init_21 (by decide) ?_
  refine v_newa (z := 32) (t := .int) (at0 := .int) (a0 := (32, .inl (fun j9 => nI ((fun _ => 0) j9)))) 1 dX3_init_23 rfl rfl (fun _ h => nomatch h) kw_ac_I (fun _ => rfl) (nI_pos (by omega)) (nI_clamp (by omega)) (by decide) (by decide) (by decide) (fun q3_23 => ?_)
  show V K G cX3_init RX3 2 rm_X3_init 3 96 25 [(0, .ref oh)] [.ref q3_23, .ref oh] [(oh, .inr (2, [.ref q1_7, .ref q2_15, .null, .null, .null])), (q1_7, .inl (G.2.1 0, 32, .inl (fun j9 => nI ((fun _ => 0) j9)))), (q2_15, .inl (G.2.1 1, 32, .inl (fun j9 => nI ((fun _ => 0) j9)))), (q3_23, .inl (G.2.1 1, 32, .inl (fun j9 => nI ((fun _ => 0) j9))))]
  refine v_putF (ref := "Sealhouse$Heap") (C := RX3) (T := TX3) (N := 5) (ty0 := tyX3) (t := tyX3 2) (ws' := [(oh, .inr (2, [.ref q1_7, .ref q2_15, .ref q3_23, .null, .null])), (q1_7, .inl (G.2.1 0, 32, .inl (fun j9 => nI ((fun _ => 0) j9)))), (q2_15, .inl (G.2.1 1, 32, .inl (fun j9 => nI ((fun _ => 0) j9)))), (q3_23, .inl (G.2.1 1, 32, .inl (fun j9 => nI ((fun _ => 0) j9))))]) 0 2 hn9 dX3_init_25 rfl rfl gin_X3 tyX3_ok nmX3 (by decide) kw_107 rfl rfl rfl (by decide +kernel) rfl rfl (Nat.le_of_ble_eq_true rfl) rfl ?_
  refine v_aload_n dX3_init_28 rfl 0 rfl ?_
  refine v_iconst (v := nI 4) dX3_init_29 (by decide) ?_
  refine v_newa (z := 4) (t := .int) (at0 := .int) (a0 := (4, .inl (fun j9 => nI ((fun _ => 0) j9)))) 1 dX3_init_30 rfl rfl (fun _ h => nomatch h) kw_ac_I (fun _ => rfl) (nI_pos (by omega)) (nI_clamp (by omega)) (by decide) (by decide) (by decide) (fun q4_30 => ?_)
  show V K G cX3_init RX3 2 rm_X3_init 4 100 32 [(0, .ref oh)] [.ref q4_30, .ref oh] [(oh, .inr (2, [.ref q1_7, .ref q2_15, .ref q3_23, .null, .null])), (q1_7, .inl (G.2.1 0, 32, .inl (fun j9 => nI ((fun _ => 0) j9)))), (q2_15, .inl (G.2.1 1, 32, .inl (fun j9 => nI ((fun _ => 0) j9)))), (q3_23, .inl (G.2.1 1, 32, .inl (fun j9 => nI ((fun _ => 0) j9)))), (q4_30, .inl (G.2.1 1, 4, .inl (fun j9 => nI ((fun _ => 0) j9))))]
  refine v_putF (ref := "Sealhouse$Heap") (C := RX3) (T := TX3) (N := 5) (ty0 := tyX3) (t := tyX3 3) (ws' := [(oh, .inr (2, [.ref q1_7, .ref q2_15, .ref q3_23, .ref q4_30, .null])), (q1_7, .inl (G.2.1 0, 32, .inl (fun j9 => nI ((fun _ => 0) j9)))), (q2_15, .inl (G.2.1 1, 32, .inl (fun j9 => nI ((fun _ => 0) j9)))), (q3_23, .inl (G.2.1 1, 32, .inl (fun j9 => nI ((fun _ => 0) j9)))), (q4_30, .inl (G.2.1 1, 4, .inl (fun j9 => nI ((fun _ => 0) j9))))]) 0 3 hn9 dX3_init_32 rfl rfl gin_X3 tyX3_ok nmX3 (by decide) kw_108 rfl rfl rfl (by decide +kernel) rfl rfl (Nat.le_of_ble_eq_true rfl) rfl ?_
  refine v_aload_n dX3_init_35 rfl 0 rfl ?_
  refine v_iconst (v := nI 4) dX3_init_36 (by decide) ?_
  refine v_newa (z := 4) (t := .int) (at0 := .int) (a0 := (4, .inl (fun j9 => nI ((fun _ => 0) j9)))) 1 dX3_init_37 rfl rfl (fun _ h => nomatch h) kw_ac_I (fun _ => rfl) (nI_pos (by omega)) (nI_clamp (by omega)) (by decide) (by decide) (by decide) (fun q5_37 => ?_)
  show V K G cX3_init RX3 2 rm_X3_init 5 104 39 [(0, .ref oh)] [.ref q5_37, .ref oh] [(oh, .inr (2, [.ref q1_7, .ref q2_15, .ref q3_23, .ref q4_30, .null])), (q1_7, .inl (G.2.1 0, 32, .inl (fun j9 => nI ((fun _ => 0) j9)))), (q2_15, .inl (G.2.1 1, 32, .inl (fun j9 => nI ((fun _ => 0) j9)))), (q3_23, .inl (G.2.1 1, 32, .inl (fun j9 => nI ((fun _ => 0) j9)))), (q4_30, .inl (G.2.1 1, 4, .inl (fun j9 => nI ((fun _ => 0) j9)))), (q5_37, .inl (G.2.1 1, 4, .inl (fun j9 => nI ((fun _ => 0) j9))))]
  refine v_putF (ref := "Sealhouse$Heap") (C := RX3) (T := TX3) (N := 5) (ty0 := tyX3) (t := tyX3 4) (ws' := [(oh, .inr (2, [.ref q1_7, .ref q2_15, .ref q3_23, .ref q4_30, .ref q5_37])), (q1_7, .inl (G.2.1 0, 32, .inl (fun j9 => nI ((fun _ => 0) j9)))), (q2_15, .inl (G.2.1 1, 32, .inl (fun j9 => nI ((fun _ => 0) j9)))), (q3_23, .inl (G.2.1 1, 32, .inl (fun j9 => nI ((fun _ => 0) j9)))), (q4_30, .inl (G.2.1 1, 4, .inl (fun j9 => nI ((fun _ => 0) j9)))), (q5_37, .inl (G.2.1 1, 4, .inl (fun j9 => nI ((fun _ => 0) j9))))]) 0 4 hn9 dX3_init_39 rfl rfl gin_X3 tyX3_ok nmX3 (by decide) kw_109 rfl rfl rfl (by decide +kernel) rfl rfl (Nat.le_of_ble_eq_true rfl) rfl ?_
  refine v_iconst (v := nI 0) dX3_init_42 (by decide) ?_
  refine v_istore_n (lv' := [(1, .int (nI 0)), (0, .ref oh)]) dX3_init_43 rfl (by decide) rfl ?_
  refine v_cong (lv' := [(1, .int (nI 0)), (0, .ref oh)]) (st' := []) (ws' := [(oh, .inr (2, [.ref q1_7, .ref q2_15, .ref q3_23, .ref q4_30, .ref q5_37])), (q1_7, .inl (G.2.1 0, 32, .inl (fun j9 => nI ((filA (fun _ => 0) 102 0 0) j9)))), (q2_15, .inl (G.2.1 1, 32, .inl (fun j9 => nI ((fun _ => 0) j9)))), (q3_23, .inl (G.2.1 1, 32, .inl (fun j9 => nI ((fun _ => 0) j9)))), (q4_30, .inl (G.2.1 1, 4, .inl (fun j9 => nI ((fun _ => 0) j9)))), (q5_37, .inl (G.2.1 1, 4, .inl (fun j9 => nI ((fun _ => 0) j9))))]) rfl rfl (by rw [filA_0]) ?_
  have L44 : ∀ (f9 : Nat) (i : Nat) (hi : i ≤ 32), 32 - i < f9 → V K G cX3_init RX3 2 rm_X3_init 5 104 44 [(1, .int (nI i)), (0, .ref oh)] [] [(oh, .inr (2, [.ref q1_7, .ref q2_15, .ref q3_23, .ref q4_30, .ref q5_37])), (q1_7, .inl (G.2.1 0, 32, .inl (fun j9 => nI ((filA (fun _ => 0) 102 0 i) j9)))), (q2_15, .inl (G.2.1 1, 32, .inl (fun j9 => nI ((fun _ => 0) j9)))), (q3_23, .inl (G.2.1 1, 32, .inl (fun j9 => nI ((fun _ => 0) j9)))), (q4_30, .inl (G.2.1 1, 4, .inl (fun j9 => nI ((fun _ => 0) j9)))), (q5_37, .inl (G.2.1 1, 4, .inl (fun j9 => nI ((fun _ => 0) j9))))] := by
    intro f9
    induction f9 with
    | zero => intro i hi hm; exact absurd hm (Nat.not_lt_zero _)
    | succ f9 ih44 =>
      intro i hi hm44
      refine v_iload_n dX3_init_44 rfl 0 rfl ?_
      refine v_aload_n dX3_init_45 rfl 1 rfl ?_
      refine v_get (ref := "Sealhouse$Heap") (C := RX3) (T := TX3) (N := 5) 0 0 dX3_init_46 rfl rfl gin_X3 (by decide) kw_105 rfl rfl ?_
      refine v_alen (v := nI 32) 1 0 dX3_init_49 rfl rfl rfl ?_
      refine n_icmp_ge (a := i) (b := 32) (tgt := 67) dX3_init_50 (by decide) (by omega) (by omega) (fun c50 => ?_) (fun c50 => ?_)
      ·
        refine v_iconst (v := nI 0) dX3_init_67 (by decide) ?_
        refine v_istore_n (lv' := [(1, .int (nI 0)), (0, .ref oh)]) dX3_init_68 rfl (by decide) rfl ?_
        refine v_cong (lv' := [(1, .int (nI 0)), (0, .ref oh)]) (st' := []) (ws' := [(oh, .inr (2, [.ref q1_7, .ref q2_15, .ref q3_23, .ref q4_30, .ref q5_37])), (q1_7, .inl (G.2.1 0, 32, .inl (fun j9 => nI ((filA (fun _ => 0) 102 0 i) j9)))), (q2_15, .inl (G.2.1 1, 32, .inl (fun j9 => nI ((fun _ => 0) j9)))), (q3_23, .inl (G.2.1 1, 32, .inl (fun j9 => nI ((fun _ => 0) j9)))), (q4_30, .inl (G.2.1 1, 4, .inl (fun j9 => nI ((filA (fun _ => 0) 16 0 0) j9)))), (q5_37, .inl (G.2.1 1, 4, .inl (fun j9 => nI ((fun _ => 0) j9))))]) rfl rfl (by rw [filA_0]) ?_
        have L69 : ∀ (f9 : Nat) (i2 : Nat) (hi2 : i2 ≤ 4), 4 - i2 < f9 → V K G cX3_init RX3 2 rm_X3_init 5 104 69 [(1, .int (nI i2)), (0, .ref oh)] [] [(oh, .inr (2, [.ref q1_7, .ref q2_15, .ref q3_23, .ref q4_30, .ref q5_37])), (q1_7, .inl (G.2.1 0, 32, .inl (fun j9 => nI ((filA (fun _ => 0) 102 0 i) j9)))), (q2_15, .inl (G.2.1 1, 32, .inl (fun j9 => nI ((fun _ => 0) j9)))), (q3_23, .inl (G.2.1 1, 32, .inl (fun j9 => nI ((fun _ => 0) j9)))), (q4_30, .inl (G.2.1 1, 4, .inl (fun j9 => nI ((filA (fun _ => 0) 16 0 i2) j9)))), (q5_37, .inl (G.2.1 1, 4, .inl (fun j9 => nI ((fun _ => 0) j9))))] := by
          intro f9
          induction f9 with
          | zero => intro i2 hi2 hm; exact absurd hm (Nat.not_lt_zero _)
          | succ f9 ih69 =>
            intro i2 hi2 hm69
            refine v_iload_n dX3_init_69 rfl 0 rfl ?_
            refine v_aload_n dX3_init_70 rfl 1 rfl ?_
            refine v_get (ref := "Sealhouse$Heap") (C := RX3) (T := TX3) (N := 5) 0 3 dX3_init_71 rfl rfl gin_X3 (by decide) kw_108 rfl rfl ?_
            refine v_alen (v := nI 4) 4 1 dX3_init_74 rfl rfl rfl ?_
            refine n_icmp_ge (a := i2) (b := 4) (tgt := 92) dX3_init_75 (by decide) (by omega) (by omega) (fun c75 => ?_) (fun c75 => ?_)
            ·
              exact v_vret hR dX3_init_92 ⟨(q1_7, q2_15, q3_23, q4_30, q5_37), rfl, by rw [show i = 32 by omega, show i2 = 4 by omega], trivial⟩
            ·
              refine v_aload_n dX3_init_78 rfl 1 rfl ?_
              refine v_get (ref := "Sealhouse$Heap") (C := RX3) (T := TX3) (N := 5) 0 3 dX3_init_79 rfl rfl gin_X3 (by decide) kw_108 rfl rfl ?_
              refine v_iload_n dX3_init_82 rfl 0 rfl ?_
              refine v_bipush (v := nI 16) dX3_init_83 (by decide) ?_
              refine n_iast (i := i2) (g := (fun j9 => nI ((va_up (filA (fun _ => 0) 16 0 i2) i2 16) j9))) (ws' := [(oh, .inr (2, [.ref q1_7, .ref q2_15, .ref q3_23, .ref q4_30, .ref q5_37])), (q1_7, .inl (G.2.1 0, 32, .inl (fun j9 => nI ((filA (fun _ => 0) 102 0 i) j9)))), (q2_15, .inl (G.2.1 1, 32, .inl (fun j9 => nI ((fun _ => 0) j9)))), (q3_23, .inl (G.2.1 1, 32, .inl (fun j9 => nI ((fun _ => 0) j9)))), (q4_30, .inl (G.2.1 1, 4, .inl (fun j9 => nI ((va_up (filA (fun _ => 0) 16 0 i2) i2 16) j9)))), (q5_37, .inl (G.2.1 1, 4, .inl (fun j9 => nI ((fun _ => 0) j9))))]) 4 dX3_init_85 rfl (by omega) (by decide) (upd_n _ _ _) rfl ?_
              refine n_iinc (a := i2) (y := i2 + 1) (lv' := [(1, .int (nI (i2 + 1))), (0, .ref oh)]) dX3_init_86 0 rfl (nI_inc _) (by decide) rfl ?_
              refine v_goto (tgt := 69) dX3_init_89 (by decide) ?_
              refine v_cong (lv' := [(1, .int (nI (i2 + 1))), (0, .ref oh)]) (st' := []) (ws' := [(oh, .inr (2, [.ref q1_7, .ref q2_15, .ref q3_23, .ref q4_30, .ref q5_37])), (q1_7, .inl (G.2.1 0, 32, .inl (fun j9 => nI ((filA (fun _ => 0) 102 0 i) j9)))), (q2_15, .inl (G.2.1 1, 32, .inl (fun j9 => nI ((fun _ => 0) j9)))), (q3_23, .inl (G.2.1 1, 32, .inl (fun j9 => nI ((fun _ => 0) j9)))), (q4_30, .inl (G.2.1 1, 4, .inl (fun j9 => nI ((filA (fun _ => 0) 16 0 (i2 + 1)) j9)))), (q5_37, .inl (G.2.1 1, 4, .inl (fun j9 => nI ((fun _ => 0) j9))))]) rfl rfl (by rw [filA_s _ _ (Nat.zero_le _)]) ?_
              exact ih69 (i2 + 1) (by omega) (by omega)
        exact L69 (4 - 0 + 1) 0 (by omega) (Nat.lt_succ_self _)
      ·
        refine v_aload_n dX3_init_53 rfl 1 rfl ?_
        refine v_get (ref := "Sealhouse$Heap") (C := RX3) (T := TX3) (N := 5) 0 0 dX3_init_54 rfl rfl gin_X3 (by decide) kw_105 rfl rfl ?_
        refine v_iload_n dX3_init_57 rfl 0 rfl ?_
        refine v_bipush (v := nI 102) dX3_init_58 (by decide) ?_
        refine n_cast (i := i) (g := (fun j9 => nI ((va_up (filA (fun _ => 0) 102 0 i) i 102) j9))) (ws' := [(oh, .inr (2, [.ref q1_7, .ref q2_15, .ref q3_23, .ref q4_30, .ref q5_37])), (q1_7, .inl (G.2.1 0, 32, .inl (fun j9 => nI ((va_up (filA (fun _ => 0) 102 0 i) i 102) j9)))), (q2_15, .inl (G.2.1 1, 32, .inl (fun j9 => nI ((fun _ => 0) j9)))), (q3_23, .inl (G.2.1 1, 32, .inl (fun j9 => nI ((fun _ => 0) j9)))), (q4_30, .inl (G.2.1 1, 4, .inl (fun j9 => nI ((fun _ => 0) j9)))), (q5_37, .inl (G.2.1 1, 4, .inl (fun j9 => nI ((fun _ => 0) j9))))]) 1 dX3_init_60 rfl (by omega) (by decide) (upd_c _ _ _ (by omega)) rfl ?_
        refine n_iinc (a := i) (y := i + 1) (lv' := [(1, .int (nI (i + 1))), (0, .ref oh)]) dX3_init_61 0 rfl (nI_inc _) (by decide) rfl ?_
        refine v_goto (tgt := 44) dX3_init_64 (by decide) ?_
        refine v_cong (lv' := [(1, .int (nI (i + 1))), (0, .ref oh)]) (st' := []) (ws' := [(oh, .inr (2, [.ref q1_7, .ref q2_15, .ref q3_23, .ref q4_30, .ref q5_37])), (q1_7, .inl (G.2.1 0, 32, .inl (fun j9 => nI ((filA (fun _ => 0) 102 0 (i + 1)) j9)))), (q2_15, .inl (G.2.1 1, 32, .inl (fun j9 => nI ((fun _ => 0) j9)))), (q3_23, .inl (G.2.1 1, 32, .inl (fun j9 => nI ((fun _ => 0) j9)))), (q4_30, .inl (G.2.1 1, 4, .inl (fun j9 => nI ((fun _ => 0) j9)))), (q5_37, .inl (G.2.1 1, 4, .inl (fun j9 => nI ((fun _ => 0) j9))))]) rfl rfl (by rw [filA_s _ _ (Nat.zero_le _)]) ?_
        exact ih44 (i + 1) (by omega) (by omega)
  exact L44 (32 - 0 + 1) 0 (by omega) (Nat.lt_succ_self _)
theorem dX3_madeUp_0 : decode cX3_madeUp 0 = .ok (.iload_n 0, 1) := by decide +kernel
theorem dX3_madeUp_1 : decode cX3_madeUp 1 = .ok (.bipush 16, 2) := by decide +kernel
theorem dX3_madeUp_3 : decode cX3_madeUp 3 = .ok (.if_icmp .le 9, 3) := by decide +kernel
theorem dX3_madeUp_6 : decode cX3_madeUp 6 = .ok (.iload_n 0, 1) := by decide +kernel
theorem dX3_madeUp_7 : decode cX3_madeUp 7 = .ok (.iconst 4, 1) := by decide +kernel
theorem dX3_madeUp_8 : decode cX3_madeUp 8 = .ok (.invokestatic 28, 3) := by decide +kernel
theorem dX3_madeUp_11 : decode cX3_madeUp 11 = .ok (.ireturn, 1) := by decide +kernel
theorem dX3_madeUp_12 : decode cX3_madeUp 12 = .ok (.iload_n 0, 1) := by decide +kernel
theorem dX3_madeUp_13 : decode cX3_madeUp 13 = .ok (.bipush 8, 2) := by decide +kernel
theorem dX3_madeUp_15 : decode cX3_madeUp 15 = .ok (.if_icmp .le 11, 3) := by decide +kernel
theorem dX3_madeUp_18 : decode cX3_madeUp 18 = .ok (.iload_n 0, 1) := by decide +kernel
theorem dX3_madeUp_19 : decode cX3_madeUp 19 = .ok (.iconst 2, 1) := by decide +kernel
theorem dX3_madeUp_20 : decode cX3_madeUp 20 = .ok (.invokestatic 28, 3) := by decide +kernel
theorem dX3_madeUp_23 : decode cX3_madeUp 23 = .ok (.goto 4, 3) := by decide +kernel
theorem dX3_madeUp_26 : decode cX3_madeUp 26 = .ok (.iload_n 0, 1) := by decide +kernel
theorem dX3_madeUp_27 : decode cX3_madeUp 27 = .ok (.ireturn, 1) := by decide +kernel
theorem hd_X3_madeUp : yX3_madeUp.cls ≠ "java/lang/invoke/MethodHandle" ∧ yX3_madeUp.cls ≠ "java/lang/invoke/VarHandle" ∧ (parseMethodDescriptor yX3_madeUp.desc).map (fun d => d.parameters.length) = some 1 := by decide +kernel
abbrev rm_X3_madeUp : Room := { frames := 1, cells := 0, slots := 0, locals := 21 }
set_option maxHeartbeats 4000000 in
set_option maxRecDepth 100000 in
theorem c_X3_madeUp (l : Launch) (G : Gx) (c : Nat) (hc : c ≤ 32) : Mt l G yX3_madeUp cX3_madeUp 1 (some .int) rm_X3_madeUp [.int (nI c)] [] (D1 (some (.int (nI (mdF c)))) []) := by
  refine Mt.of (by decide) (Nat.le_of_ble_eq_true rfl) ?_
  intro K hl9 hn9 hR
  show V K G cX3_madeUp RX3 1 rm_X3_madeUp 0 0 0 [(0, .int (nI c))] [] []
  refine v_iload_n dX3_madeUp_0 rfl 0 rfl ?_
  refine v_bipush (v := nI 16) dX3_madeUp_1 (by decide) ?_
  refine n_icmp_le (a := c) (b := 16) (tgt := 12) dX3_madeUp_3 (by decide) (by omega) (by omega) (fun c3 => ?_) (fun c3 => ?_)
  ·
    refine v_iload_n dX3_madeUp_12 rfl 0 rfl ?_
    refine v_bipush (v := nI 8) dX3_madeUp_13 (by decide) ?_
    refine n_icmp_le (a := c) (b := 8) (tgt := 26) dX3_madeUp_15 (by decide) (by omega) (by omega) (fun c15 => ?_) (fun c15 => ?_)
    ·
      refine v_iload_n dX3_madeUp_26 rfl 0 rfl ?_
      exact v_iret hR dX3_madeUp_27 (by refine ⟨?_, rfl⟩; unfold mdF; first | rw [if_pos (by omega)] | rw [if_neg (by omega), if_pos (by omega)] | rw [if_neg (by omega), if_neg (by omega)])
    ·
      refine v_iload_n dX3_madeUp_18 rfl 0 rfl ?_
      refine v_iconst (v := nI 2) dX3_madeUp_19 (by decide) ?_
      refine c_S1 (As := [.int (nI c), .int (nI 2)]) (rest := []) (wr := []) (k' := 0) (n' := 0) (st2 := [.int (nI (up c 2))]) (ws2 := []) (c_X0_up K.2.1 G c 2 (by omega) (by exact Or.inr (Or.inl rfl))) [] [] dX3_madeUp_20 kw_804 kw_422 kw_52 kw_423 hd_X0_up ⟨Nat.le_of_ble_eq_true rfl, Nat.le_of_ble_eq_true rfl⟩ ⟨(by decide), (by decide)⟩ ⟨rfl, rfl⟩ (Nat.le_of_ble_eq_true rfl) rfl rfl rfl rfl rfl rfl (by decide) [] rfl rfl rfl rfl ?_
      refine v_goto (tgt := 27) dX3_madeUp_23 (by decide) ?_
      exact v_iret hR dX3_madeUp_27 (by refine ⟨?_, rfl⟩; unfold mdF; first | rw [if_pos (by omega)] | rw [if_neg (by omega), if_pos (by omega)] | rw [if_neg (by omega), if_neg (by omega)])
  ·
    refine v_iload_n dX3_madeUp_6 rfl 0 rfl ?_
    refine v_iconst (v := nI 4) dX3_madeUp_7 (by decide) ?_
    refine c_S1 (As := [.int (nI c), .int (nI 4)]) (rest := []) (wr := []) (k' := 0) (n' := 0) (st2 := [.int (nI (up c 4))]) (ws2 := []) (c_X0_up K.2.1 G c 4 (by omega) (by exact Or.inr (Or.inr (Or.inl rfl)))) [] [] dX3_madeUp_8 kw_804 kw_422 kw_52 kw_423 hd_X0_up ⟨Nat.le_of_ble_eq_true rfl, Nat.le_of_ble_eq_true rfl⟩ ⟨(by decide), (by decide)⟩ ⟨rfl, rfl⟩ (Nat.le_of_ble_eq_true rfl) rfl rfl rfl rfl rfl rfl (by decide) [] rfl rfl rfl rfl ?_
    exact v_iret hR dX3_madeUp_11 (by refine ⟨?_, rfl⟩; unfold mdF; first | rw [if_pos (by omega)] | rw [if_neg (by omega), if_pos (by omega)] | rw [if_neg (by omega), if_neg (by omega)])
theorem dX3_stateAt_0 : decode cX3_stateAt 0 = .ok (.iload_n 1, 1) := by decide +kernel
theorem dX3_stateAt_1 : decode cX3_stateAt 1 = .ok (.bipush 64, 2) := by decide +kernel
theorem dX3_stateAt_3 : decode cX3_stateAt 3 = .ok (.isub, 1) := by decide +kernel
theorem dX3_stateAt_4 : decode cX3_stateAt 4 = .ok (.istore_n 2, 1) := by decide +kernel
theorem dX3_stateAt_5 : decode cX3_stateAt 5 = .ok (.iload_n 2, 1) := by decide +kernel
theorem dX3_stateAt_6 : decode cX3_stateAt 6 = .ok (.ifCond .lt 21, 3) := by decide +kernel
theorem dX3_stateAt_9 : decode cX3_stateAt 9 = .ok (.iload_n 2, 1) := by decide +kernel
theorem dX3_stateAt_10 : decode cX3_stateAt 10 = .ok (.aload_n 0, 1) := by decide +kernel
theorem dX3_stateAt_11 : decode cX3_stateAt 11 = .ok (.getfield 9, 3) := by decide +kernel
theorem dX3_stateAt_14 : decode cX3_stateAt 14 = .ok (.arraylength, 1) := by decide +kernel
theorem dX3_stateAt_15 : decode cX3_stateAt 15 = .ok (.if_icmp .ge 12, 3) := by decide +kernel
theorem dX3_stateAt_18 : decode cX3_stateAt 18 = .ok (.aload_n 0, 1) := by decide +kernel
theorem dX3_stateAt_19 : decode cX3_stateAt 19 = .ok (.getfield 9, 3) := by decide +kernel
theorem dX3_stateAt_22 : decode cX3_stateAt 22 = .ok (.iload_n 2, 1) := by decide +kernel
theorem dX3_stateAt_23 : decode cX3_stateAt 23 = .ok (.caload, 1) := by decide +kernel
theorem dX3_stateAt_24 : decode cX3_stateAt 24 = .ok (.goto 5, 3) := by decide +kernel
theorem dX3_stateAt_27 : decode cX3_stateAt 27 = .ok (.bipush 45, 2) := by decide +kernel
theorem dX3_stateAt_29 : decode cX3_stateAt 29 = .ok (.ireturn, 1) := by decide +kernel
theorem hd_X3_stateAt : yX3_stateAt.cls ≠ "java/lang/invoke/MethodHandle" ∧ yX3_stateAt.cls ≠ "java/lang/invoke/VarHandle" ∧ (parseMethodDescriptor yX3_stateAt.desc).map (fun d => d.parameters.length) = some 1 := by decide +kernel
abbrev rm_X3_stateAt : Room := { frames := 0, cells := 0, slots := 0, locals := 0 }
set_option maxHeartbeats 4000000 in
set_option maxRecDepth 100000 in
theorem c_X3_stateAt (l : Launch) (G : Gx) (oh : Nat) (as : Nat) (ao : Nat) (ab : Nat) (aq : Nat) (an : Nat) (st : Nat → Nat) (ow : Nat → Nat) (bk : Nat → Nat) (qu : Nat → Nat) (ct : Nat → Int32) (q : Nat) (hst : ∀ j, st j < 65536) (hq : q < 128) : Mt l G yX3_stateAt cX3_stateAt 3 (some .char) rm_X3_stateAt [.ref oh, .int (nI q)] [(oh, .inr (2, [.ref as, .ref ao, .ref ab, .ref aq, .ref an])), (as, .inl (G.2.1 0, 32, .inl (fun j9 => nI (st j9)))), (ao, .inl (G.2.1 1, 32, .inl (fun j9 => nI (ow j9)))), (ab, .inl (G.2.1 1, 32, .inl (fun j9 => nI (bk j9)))), (aq, .inl (G.2.1 1, 4, .inl (fun j9 => nI (qu j9)))), (an, .inl (G.2.1 1, 4, .inl ct))] (D1 (some (.int (nI (stA st q)))) [(oh, .inr (2, [.ref as, .ref ao, .ref ab, .ref aq, .ref an])), (as, .inl (G.2.1 0, 32, .inl (fun j9 => nI (st j9)))), (ao, .inl (G.2.1 1, 32, .inl (fun j9 => nI (ow j9)))), (ab, .inl (G.2.1 1, 32, .inl (fun j9 => nI (bk j9)))), (aq, .inl (G.2.1 1, 4, .inl (fun j9 => nI (qu j9)))), (an, .inl (G.2.1 1, 4, .inl ct))]) := by
  refine Mt.of (by decide) (Nat.le_of_ble_eq_true rfl) ?_
  intro K hl9 hn9 hR
  show V K G cX3_stateAt RX3 3 rm_X3_stateAt 0 0 0 [(0, .ref oh), (1, .int (nI q))] [] [(oh, .inr (2, [.ref as, .ref ao, .ref ab, .ref aq, .ref an])), (as, .inl (G.2.1 0, 32, .inl (fun j9 => nI (st j9)))), (ao, .inl (G.2.1 1, 32, .inl (fun j9 => nI (ow j9)))), (ab, .inl (G.2.1 1, 32, .inl (fun j9 => nI (bk j9)))), (aq, .inl (G.2.1 1, 4, .inl (fun j9 => nI (qu j9)))), (an, .inl (G.2.1 1, 4, .inl ct))]
  rcases Nat.lt_or_ge q 64 with h64 | h64
  ·
    refine v_iload_n dX3_stateAt_0 rfl 1 rfl ?_
    refine v_bipush (v := nI 64) dX3_stateAt_1 (by decide) ?_
    refine v_isub dX3_stateAt_3 ?_
    refine v_istore_n (lv' := [(2, .int ((nI q) - (nI 64))), (0, .ref oh), (1, .int (nI q))]) dX3_stateAt_4 rfl (by decide) rfl ?_
    refine v_iload_n dX3_stateAt_5 rfl 0 rfl ?_
    refine v_if_lt (tgt := 27) dX3_stateAt_6 (by decide) (fun c6 => ?_) (fun c6 => absurd c6 (by exact fun h => h (pk_sneg (by omega) h64)))
    refine v_bipush (v := nI 45) dX3_stateAt_27 (by decide) ?_
    exact v_zret hR dX3_stateAt_29 (by first | exact nI_narC (hst _) | exact nI_narC (by decide)) (by refine ⟨?_, rfl⟩; unfold stA; first | rw [if_pos (by omega)] | rw [if_neg (by omega)])
  ·
    refine v_iload_n dX3_stateAt_0 rfl 1 rfl ?_
    refine v_bipush (v := nI 64) dX3_stateAt_1 (by decide) ?_
    refine n_isub (a := q) (b := 64) (z := q - 64) dX3_stateAt_3 (by omega) ?_
    refine v_istore_n (lv' := [(2, .int (nI (q - 64))), (0, .ref oh), (1, .int (nI q))]) dX3_stateAt_4 rfl (by decide) rfl ?_
    refine v_iload_n dX3_stateAt_5 rfl 0 rfl ?_
    refine n_if_lt (a := q - 64) (tgt := 27) dX3_stateAt_6 (by decide) (by omega) ?_
    refine v_iload_n dX3_stateAt_9 rfl 0 rfl ?_
    refine v_aload_n dX3_stateAt_10 rfl 1 rfl ?_
    refine v_get (ref := "Sealhouse$Heap") (C := RX3) (T := TX3) (N := 5) 0 0 dX3_stateAt_11 rfl rfl gin_X3 (by decide) kw_105 rfl rfl ?_
    refine v_alen (v := nI 32) 1 0 dX3_stateAt_14 rfl rfl rfl ?_
    refine n_icmp_ge (a := q - 64) (b := 32) (tgt := 27) dX3_stateAt_15 (by decide) (by omega) (by omega) (fun c15 => ?_) (fun c15 => ?_)
    ·
      refine v_bipush (v := nI 45) dX3_stateAt_27 (by decide) ?_
      exact v_zret hR dX3_stateAt_29 (by first | exact nI_narC (hst _) | exact nI_narC (by decide)) (by refine ⟨?_, rfl⟩; unfold stA; first | rw [if_pos (by omega)] | rw [if_neg (by omega)])
    ·
      refine v_aload_n dX3_stateAt_18 rfl 1 rfl ?_
      refine v_get (ref := "Sealhouse$Heap") (C := RX3) (T := TX3) (N := 5) 0 0 dX3_stateAt_19 rfl rfl gin_X3 (by decide) kw_105 rfl rfl ?_
      refine v_iload_n dX3_stateAt_22 rfl 0 rfl ?_
      refine n_cald (i := q - 64) (x := nI (st (q - 64))) 1 dX3_stateAt_23 rfl (by omega) (by decide) rfl ?_
      refine v_goto (tgt := 29) dX3_stateAt_24 (by decide) ?_
      exact v_zret hR dX3_stateAt_29 (by first | exact nI_narC (hst _) | exact nI_narC (by decide)) (by refine ⟨?_, rfl⟩; unfold stA; first | rw [if_pos (by omega)] | rw [if_neg (by omega)])
theorem dX3_rests_0 : decode cX3_rests 0 = .ok (.aload_n 0, 1) := by decide +kernel
theorem dX3_rests_1 : decode cX3_rests 1 = .ok (.iload_n 1, 1) := by decide +kernel
theorem dX3_rests_2 : decode cX3_rests 2 = .ok (.invokevirtual 34, 3) := by decide +kernel
theorem dX3_rests_5 : decode cX3_rests 5 = .ok (.bipush 114, 2) := by decide +kernel
theorem dX3_rests_7 : decode cX3_rests 7 = .ok (.if_icmp .ne 7, 3) := by decide +kernel
theorem dX3_rests_10 : decode cX3_rests 10 = .ok (.iconst 1, 1) := by decide +kernel
theorem dX3_rests_11 : decode cX3_rests 11 = .ok (.goto 4, 3) := by decide +kernel
theorem dX3_rests_14 : decode cX3_rests 14 = .ok (.iconst 0, 1) := by decide +kernel
theorem dX3_rests_15 : decode cX3_rests 15 = .ok (.ireturn, 1) := by decide +kernel
theorem hd_X3_rests : yX3_rests.cls ≠ "java/lang/invoke/MethodHandle" ∧ yX3_rests.cls ≠ "java/lang/invoke/VarHandle" ∧ (parseMethodDescriptor yX3_rests.desc).map (fun d => d.parameters.length) = some 1 := by decide +kernel
abbrev rm_X3_rests : Room := { frames := 1, cells := 0, slots := 0, locals := 22 }
set_option maxHeartbeats 4000000 in
set_option maxRecDepth 100000 in
theorem c_X3_rests (l : Launch) (G : Gx) (oh : Nat) (as : Nat) (ao : Nat) (ab : Nat) (aq : Nat) (an : Nat) (st : Nat → Nat) (ow : Nat → Nat) (bk : Nat → Nat) (qu : Nat → Nat) (ct : Nat → Int32) (q : Nat) (hst : ∀ j, st j < 65536) (hq : q < 128) : Mt l G yX3_rests cX3_rests 2 (some .boolean) rm_X3_rests [.ref oh, .int (nI q)] [(oh, .inr (2, [.ref as, .ref ao, .ref ab, .ref aq, .ref an])), (as, .inl (G.2.1 0, 32, .inl (fun j9 => nI (st j9)))), (ao, .inl (G.2.1 1, 32, .inl (fun j9 => nI (ow j9)))), (ab, .inl (G.2.1 1, 32, .inl (fun j9 => nI (bk j9)))), (aq, .inl (G.2.1 1, 4, .inl (fun j9 => nI (qu j9)))), (an, .inl (G.2.1 1, 4, .inl ct))] (D1 (some (.int (bI (decide (stA st q = 114))))) [(oh, .inr (2, [.ref as, .ref ao, .ref ab, .ref aq, .ref an])), (as, .inl (G.2.1 0, 32, .inl (fun j9 => nI (st j9)))), (ao, .inl (G.2.1 1, 32, .inl (fun j9 => nI (ow j9)))), (ab, .inl (G.2.1 1, 32, .inl (fun j9 => nI (bk j9)))), (aq, .inl (G.2.1 1, 4, .inl (fun j9 => nI (qu j9)))), (an, .inl (G.2.1 1, 4, .inl ct))]) := by
  refine Mt.of (by decide) (Nat.le_of_ble_eq_true rfl) ?_
  intro K hl9 hn9 hR
  show V K G cX3_rests RX3 2 rm_X3_rests 0 0 0 [(0, .ref oh), (1, .int (nI q))] [] [(oh, .inr (2, [.ref as, .ref ao, .ref ab, .ref aq, .ref an])), (as, .inl (G.2.1 0, 32, .inl (fun j9 => nI (st j9)))), (ao, .inl (G.2.1 1, 32, .inl (fun j9 => nI (ow j9)))), (ab, .inl (G.2.1 1, 32, .inl (fun j9 => nI (bk j9)))), (aq, .inl (G.2.1 1, 4, .inl (fun j9 => nI (qu j9)))), (an, .inl (G.2.1 1, 4, .inl ct))]
  refine v_aload_n dX3_rests_0 rfl 0 rfl ?_
  refine v_iload_n dX3_rests_1 rfl 1 rfl ?_
  refine c_V1 (ci := 2) (T := TX3) (N := 5) (As := [.int (nI q)]) (rest := []) (wr := []) (k' := 0) (n' := 0) (st2 := [.int (nI (stA st q))]) (ws2 := [(oh, .inr (2, [.ref as, .ref ao, .ref ab, .ref aq, .ref an])), (as, .inl (G.2.1 0, 32, .inl (fun j9 => nI (st j9)))), (ao, .inl (G.2.1 1, 32, .inl (fun j9 => nI (ow j9)))), (ab, .inl (G.2.1 1, 32, .inl (fun j9 => nI (bk j9)))), (aq, .inl (G.2.1 1, 4, .inl (fun j9 => nI (qu j9)))), (an, .inl (G.2.1 1, 4, .inl ct))]) (c_X3_stateAt K.2.1 G oh as ao ab aq an st ow bk qu ct q (by exact hst) (by omega)) [0, 1, 2, 3, 4, 5] [] dX3_rests_2 kw_270 kw_271 kw_41 kw_273 kw_272 hd_X3_stateAt ⟨Nat.le_of_ble_eq_true rfl, Nat.le_of_ble_eq_true rfl⟩ ⟨(by decide), (by decide)⟩ ⟨rfl, rfl⟩ (Nat.le_of_ble_eq_true rfl) rfl rfl rfl rfl rfl rfl (by decide) 0 rfl rfl [0, 1, 2, 3, 4, 5] rfl rfl rfl rfl ?_
  refine v_bipush (v := nI 114) dX3_rests_5 (by decide) ?_
  refine n_icmp_ne (a := stA st q) (b := 114) (tgt := 14) dX3_rests_7 (by decide) (by first | decide | exact Nat.lt_of_lt_of_le (stA_lt hst q) (by decide)) (by first | decide | exact Nat.lt_of_lt_of_le (stA_lt hst q) (by decide)) (fun c7 => ?_) (fun c7 => ?_)
  ·
    refine v_iconst (v := nI 0) dX3_rests_14 (by decide) ?_
    refine v_eqi (y := bI false) (by decide) ?_
    exact v_zret hR dX3_rests_15 (bI_nar _) (by refine ⟨?_, rfl⟩; first | rw [decide_eq_true (by assumption)] | rw [decide_eq_false (by assumption)])
  ·
    refine v_iconst (v := nI 1) dX3_rests_10 (by decide) ?_
    refine v_goto (tgt := 15) dX3_rests_11 (by decide) ?_
    refine v_eqi (y := bI true) (by decide) ?_
    exact v_zret hR dX3_rests_15 (bI_nar _) (by refine ⟨?_, rfl⟩; first | rw [decide_eq_true (by assumption)] | rw [decide_eq_false (by assumption)])
theorem dX3_countFor_0 : decode cX3_countFor 0 = .ok (.iload_n 1, 1) := by decide +kernel
theorem dX3_countFor_1 : decode cX3_countFor 1 = .ok (.ifCond .lt 21, 3) := by decide +kernel
theorem dX3_countFor_4 : decode cX3_countFor 4 = .ok (.iload_n 1, 1) := by decide +kernel
theorem dX3_countFor_5 : decode cX3_countFor 5 = .ok (.aload_n 0, 1) := by decide +kernel
theorem dX3_countFor_6 : decode cX3_countFor 6 = .ok (.getfield 25, 3) := by decide +kernel
theorem dX3_countFor_9 : decode cX3_countFor 9 = .ok (.arraylength, 1) := by decide +kernel
theorem dX3_countFor_10 : decode cX3_countFor 10 = .ok (.if_icmp .ge 12, 3) := by decide +kernel
theorem dX3_countFor_13 : decode cX3_countFor 13 = .ok (.aload_n 0, 1) := by decide +kernel
theorem dX3_countFor_14 : decode cX3_countFor 14 = .ok (.getfield 25, 3) := by decide +kernel
theorem dX3_countFor_17 : decode cX3_countFor 17 = .ok (.iload_n 1, 1) := by decide +kernel
theorem dX3_countFor_18 : decode cX3_countFor 18 = .ok (.iaload, 1) := by decide +kernel
theorem dX3_countFor_19 : decode cX3_countFor 19 = .ok (.goto 4, 3) := by decide +kernel
theorem dX3_countFor_22 : decode cX3_countFor 22 = .ok (.iconst 0, 1) := by decide +kernel
theorem dX3_countFor_23 : decode cX3_countFor 23 = .ok (.ireturn, 1) := by decide +kernel
theorem hd_X3_countFor : yX3_countFor.cls ≠ "java/lang/invoke/MethodHandle" ∧ yX3_countFor.cls ≠ "java/lang/invoke/VarHandle" ∧ (parseMethodDescriptor yX3_countFor.desc).map (fun d => d.parameters.length) = some 1 := by decide +kernel
abbrev rm_X3_countFor : Room := { frames := 0, cells := 0, slots := 0, locals := 0 }
set_option maxHeartbeats 4000000 in
set_option maxRecDepth 100000 in
theorem c_X3_countFor (l : Launch) (G : Gx) (oh : Nat) (as : Nat) (ao : Nat) (ab : Nat) (aq : Nat) (an : Nat) (st : Nat → Nat) (ow : Nat → Nat) (bk : Nat → Nat) (qu : Nat → Nat) (ct : Nat → Int32) (c : Nat) (hc : c < 4) : Mt l G yX3_countFor cX3_countFor 2 (some .int) rm_X3_countFor [.ref oh, .int (nI c)] [(oh, .inr (2, [.ref as, .ref ao, .ref ab, .ref aq, .ref an])), (as, .inl (G.2.1 0, 32, .inl (fun j9 => nI (st j9)))), (ao, .inl (G.2.1 1, 32, .inl (fun j9 => nI (ow j9)))), (ab, .inl (G.2.1 1, 32, .inl (fun j9 => nI (bk j9)))), (aq, .inl (G.2.1 1, 4, .inl (fun j9 => nI (qu j9)))), (an, .inl (G.2.1 1, 4, .inl ct))] (D1 (some (.int (ct c))) [(oh, .inr (2, [.ref as, .ref ao, .ref ab, .ref aq, .ref an])), (as, .inl (G.2.1 0, 32, .inl (fun j9 => nI (st j9)))), (ao, .inl (G.2.1 1, 32, .inl (fun j9 => nI (ow j9)))), (ab, .inl (G.2.1 1, 32, .inl (fun j9 => nI (bk j9)))), (aq, .inl (G.2.1 1, 4, .inl (fun j9 => nI (qu j9)))), (an, .inl (G.2.1 1, 4, .inl ct))]) := by
  refine Mt.of (by decide) (Nat.le_of_ble_eq_true rfl) ?_
  intro K hl9 hn9 hR
  show V K G cX3_countFor RX3 2 rm_X3_countFor 0 0 0 [(0, .ref oh), (1, .int (nI c))] [] [(oh, .inr (2, [.ref as, .ref ao, .ref ab, .ref aq, .ref an])), (as, .inl (G.2.1 0, 32, .inl (fun j9 => nI (st j9)))), (ao, .inl (G.2.1 1, 32, .inl (fun j9 => nI (ow j9)))), (ab, .inl (G.2.1 1, 32, .inl (fun j9 => nI (bk j9)))), (aq, .inl (G.2.1 1, 4, .inl (fun j9 => nI (qu j9)))), (an, .inl (G.2.1 1, 4, .inl ct))]
  refine v_iload_n dX3_countFor_0 rfl 1 rfl ?_
  refine n_if_lt (a := c) (tgt := 22) dX3_countFor_1 (by decide) (by omega) ?_
  refine v_iload_n dX3_countFor_4 rfl 1 rfl ?_
  refine v_aload_n dX3_countFor_5 rfl 0 rfl ?_
  refine v_get (ref := "Sealhouse$Heap") (C := RX3) (T := TX3) (N := 5) 0 4 dX3_countFor_6 rfl rfl gin_X3 (by decide) kw_109 rfl rfl ?_
  refine v_alen (v := nI 4) 5 1 dX3_countFor_9 rfl rfl rfl ?_
  refine n_icmp_ge (a := c) (b := 4) (tgt := 22) dX3_countFor_10 (by decide) (by omega) (by omega) (fun c10 => absurd c10 (by omega)) (fun c10 => ?_)
  refine v_aload_n dX3_countFor_13 rfl 0 rfl ?_
  refine v_get (ref := "Sealhouse$Heap") (C := RX3) (T := TX3) (N := 5) 0 4 dX3_countFor_14 rfl rfl gin_X3 (by decide) kw_109 rfl rfl ?_
  refine v_iload_n dX3_countFor_17 rfl 1 rfl ?_
  refine n_iald (i := c) (x := ct c) 5 dX3_countFor_18 rfl (by omega) (by decide) rfl ?_
  refine v_goto (tgt := 23) dX3_countFor_19 (by decide) ?_
  exact v_iret hR dX3_countFor_23 (by exact ⟨rfl, rfl⟩)
theorem dX3_changeQuota_0 : decode cX3_changeQuota 0 = .ok (.iload_n 1, 1) := by decide +kernel
theorem dX3_changeQuota_1 : decode cX3_changeQuota 1 = .ok (.ifCond .lt 12, 3) := by decide +kernel
theorem dX3_changeQuota_4 : decode cX3_changeQuota 4 = .ok (.iload_n 1, 1) := by decide +kernel
theorem dX3_changeQuota_5 : decode cX3_changeQuota 5 = .ok (.aload_n 0, 1) := by decide +kernel
theorem dX3_changeQuota_6 : decode cX3_changeQuota 6 = .ok (.getfield 22, 3) := by decide +kernel
theorem dX3_changeQuota_9 : decode cX3_changeQuota 9 = .ok (.arraylength, 1) := by decide +kernel
theorem dX3_changeQuota_10 : decode cX3_changeQuota 10 = .ok (.if_icmp .lt 5, 3) := by decide +kernel
theorem dX3_changeQuota_13 : decode cX3_changeQuota 13 = .ok (.iconst 0, 1) := by decide +kernel
theorem dX3_changeQuota_14 : decode cX3_changeQuota 14 = .ok (.ireturn, 1) := by decide +kernel
theorem dX3_changeQuota_15 : decode cX3_changeQuota 15 = .ok (.aload_n 0, 1) := by decide +kernel
theorem dX3_changeQuota_16 : decode cX3_changeQuota 16 = .ok (.getfield 22, 3) := by decide +kernel
theorem dX3_changeQuota_19 : decode cX3_changeQuota 19 = .ok (.iload_n 1, 1) := by decide +kernel
theorem dX3_changeQuota_20 : decode cX3_changeQuota 20 = .ok (.iaload, 1) := by decide +kernel
theorem dX3_changeQuota_21 : decode cX3_changeQuota 21 = .ok (.istore_n 3, 1) := by decide +kernel
theorem dX3_changeQuota_22 : decode cX3_changeQuota 22 = .ok (.aload_n 0, 1) := by decide +kernel
theorem dX3_changeQuota_23 : decode cX3_changeQuota 23 = .ok (.getfield 22, 3) := by decide +kernel
theorem dX3_changeQuota_26 : decode cX3_changeQuota 26 = .ok (.iload_n 1, 1) := by decide +kernel
theorem dX3_changeQuota_27 : decode cX3_changeQuota 27 = .ok (.iload_n 2, 1) := by decide +kernel
theorem dX3_changeQuota_28 : decode cX3_changeQuota 28 = .ok (.iastore, 1) := by decide +kernel
theorem dX3_changeQuota_29 : decode cX3_changeQuota 29 = .ok (.iload_n 3, 1) := by decide +kernel
theorem dX3_changeQuota_30 : decode cX3_changeQuota 30 = .ok (.ireturn, 1) := by decide +kernel
theorem hd_X3_changeQuota : yX3_changeQuota.cls ≠ "java/lang/invoke/MethodHandle" ∧ yX3_changeQuota.cls ≠ "java/lang/invoke/VarHandle" ∧ (parseMethodDescriptor yX3_changeQuota.desc).map (fun d => d.parameters.length) = some 2 := by decide +kernel
abbrev rm_X3_changeQuota : Room := { frames := 0, cells := 0, slots := 0, locals := 0 }
set_option maxHeartbeats 4000000 in
set_option maxRecDepth 100000 in
theorem c_X3_changeQuota (l : Launch) (G : Gx) (oh : Nat) (as : Nat) (ao : Nat) (ab : Nat) (aq : Nat) (an : Nat) (st : Nat → Nat) (ow : Nat → Nat) (bk : Nat → Nat) (qu : Nat → Nat) (ct : Nat → Int32) (c : Nat) (x : Nat) (hc : c < 4) : Mt l G yX3_changeQuota cX3_changeQuota 4 (some .int) rm_X3_changeQuota [.ref oh, .int (nI c), .int (nI x)] [(oh, .inr (2, [.ref as, .ref ao, .ref ab, .ref aq, .ref an])), (as, .inl (G.2.1 0, 32, .inl (fun j9 => nI (st j9)))), (ao, .inl (G.2.1 1, 32, .inl (fun j9 => nI (ow j9)))), (ab, .inl (G.2.1 1, 32, .inl (fun j9 => nI (bk j9)))), (aq, .inl (G.2.1 1, 4, .inl (fun j9 => nI (qu j9)))), (an, .inl (G.2.1 1, 4, .inl ct))] (D1 (some (.int (nI (qu c)))) [(oh, .inr (2, [.ref as, .ref ao, .ref ab, .ref aq, .ref an])), (as, .inl (G.2.1 0, 32, .inl (fun j9 => nI (st j9)))), (ao, .inl (G.2.1 1, 32, .inl (fun j9 => nI (ow j9)))), (ab, .inl (G.2.1 1, 32, .inl (fun j9 => nI (bk j9)))), (aq, .inl (G.2.1 1, 4, .inl (fun j9 => nI ((va_up qu c x) j9)))), (an, .inl (G.2.1 1, 4, .inl ct))]) := by
  refine Mt.of (by decide) (Nat.le_of_ble_eq_true rfl) ?_
  intro K hl9 hn9 hR
  show V K G cX3_changeQuota RX3 4 rm_X3_changeQuota 0 0 0 [(0, .ref oh), (1, .int (nI c)), (2, .int (nI x))] [] [(oh, .inr (2, [.ref as, .ref ao, .ref ab, .ref aq, .ref an])), (as, .inl (G.2.1 0, 32, .inl (fun j9 => nI (st j9)))), (ao, .inl (G.2.1 1, 32, .inl (fun j9 => nI (ow j9)))), (ab, .inl (G.2.1 1, 32, .inl (fun j9 => nI (bk j9)))), (aq, .inl (G.2.1 1, 4, .inl (fun j9 => nI (qu j9)))), (an, .inl (G.2.1 1, 4, .inl ct))]
  refine v_iload_n dX3_changeQuota_0 rfl 1 rfl ?_
  refine n_if_lt (a := c) (tgt := 13) dX3_changeQuota_1 (by decide) (by omega) ?_
  refine v_iload_n dX3_changeQuota_4 rfl 1 rfl ?_
  refine v_aload_n dX3_changeQuota_5 rfl 0 rfl ?_
  refine v_get (ref := "Sealhouse$Heap") (C := RX3) (T := TX3) (N := 5) 0 3 dX3_changeQuota_6 rfl rfl gin_X3 (by decide) kw_108 rfl rfl ?_
  refine v_alen (v := nI 4) 4 1 dX3_changeQuota_9 rfl rfl rfl ?_
  refine n_icmp_lt (a := c) (b := 4) (tgt := 15) dX3_changeQuota_10 (by decide) (by omega) (by omega) (fun c10 => ?_) (fun c10 => absurd c10 (by omega))
  refine v_aload_n dX3_changeQuota_15 rfl 0 rfl ?_
  refine v_get (ref := "Sealhouse$Heap") (C := RX3) (T := TX3) (N := 5) 0 3 dX3_changeQuota_16 rfl rfl gin_X3 (by decide) kw_108 rfl rfl ?_
  refine v_iload_n dX3_changeQuota_19 rfl 1 rfl ?_
  refine n_iald (i := c) (x := nI (qu c)) 4 dX3_changeQuota_20 rfl (by omega) (by decide) rfl ?_
  refine v_istore_n (lv' := [(3, .int (nI (qu c))), (0, .ref oh), (1, .int (nI c)), (2, .int (nI x))]) dX3_changeQuota_21 rfl (by decide) rfl ?_
  refine v_aload_n dX3_changeQuota_22 rfl 1 rfl ?_
  refine v_get (ref := "Sealhouse$Heap") (C := RX3) (T := TX3) (N := 5) 0 3 dX3_changeQuota_23 rfl rfl gin_X3 (by decide) kw_108 rfl rfl ?_
  refine v_iload_n dX3_changeQuota_26 rfl 2 rfl ?_
  refine v_iload_n dX3_changeQuota_27 rfl 3 rfl ?_
  refine n_iast (i := c) (g := (fun j9 => nI ((va_up qu c x) j9))) (ws' := [(oh, .inr (2, [.ref as, .ref ao, .ref ab, .ref aq, .ref an])), (as, .inl (G.2.1 0, 32, .inl (fun j9 => nI (st j9)))), (ao, .inl (G.2.1 1, 32, .inl (fun j9 => nI (ow j9)))), (ab, .inl (G.2.1 1, 32, .inl (fun j9 => nI (bk j9)))), (aq, .inl (G.2.1 1, 4, .inl (fun j9 => nI ((va_up qu c x) j9)))), (an, .inl (G.2.1 1, 4, .inl ct))]) 4 dX3_changeQuota_28 rfl (by omega) (by decide) (upd_n _ _ _) rfl ?_
  refine v_iload_n dX3_changeQuota_29 rfl 0 rfl ?_
  exact v_iret hR dX3_changeQuota_30 (by exact ⟨rfl, rfl⟩)
theorem dX3_quotaAllows_0 : decode cX3_quotaAllows 0 = .ok (.iload_n 1, 1) := by decide +kernel
theorem dX3_quotaAllows_1 : decode cX3_quotaAllows 1 = .ok (.ifCond .lt 32, 3) := by decide +kernel
theorem dX3_quotaAllows_4 : decode cX3_quotaAllows 4 = .ok (.iload_n 1, 1) := by decide +kernel
theorem dX3_quotaAllows_5 : decode cX3_quotaAllows 5 = .ok (.aload_n 0, 1) := by decide +kernel
theorem dX3_quotaAllows_6 : decode cX3_quotaAllows 6 = .ok (.getfield 22, 3) := by decide +kernel
theorem dX3_quotaAllows_9 : decode cX3_quotaAllows 9 = .ok (.arraylength, 1) := by decide +kernel
theorem dX3_quotaAllows_10 : decode cX3_quotaAllows 10 = .ok (.if_icmp .ge 23, 3) := by decide +kernel
theorem dX3_quotaAllows_13 : decode cX3_quotaAllows 13 = .ok (.aload_n 0, 1) := by decide +kernel
theorem dX3_quotaAllows_14 : decode cX3_quotaAllows 14 = .ok (.iload_n 1, 1) := by decide +kernel
theorem dX3_quotaAllows_15 : decode cX3_quotaAllows 15 = .ok (.invokevirtual 38, 3) := by decide +kernel
theorem dX3_quotaAllows_18 : decode cX3_quotaAllows 18 = .ok (.iload_n 2, 1) := by decide +kernel
theorem dX3_quotaAllows_19 : decode cX3_quotaAllows 19 = .ok (.iadd, 1) := by decide +kernel
theorem dX3_quotaAllows_20 : decode cX3_quotaAllows 20 = .ok (.aload_n 0, 1) := by decide +kernel
theorem dX3_quotaAllows_21 : decode cX3_quotaAllows 21 = .ok (.getfield 22, 3) := by decide +kernel
theorem dX3_quotaAllows_24 : decode cX3_quotaAllows 24 = .ok (.iload_n 1, 1) := by decide +kernel
theorem dX3_quotaAllows_25 : decode cX3_quotaAllows 25 = .ok (.iaload, 1) := by decide +kernel
theorem dX3_quotaAllows_26 : decode cX3_quotaAllows 26 = .ok (.if_icmp .gt 7, 3) := by decide +kernel
theorem dX3_quotaAllows_29 : decode cX3_quotaAllows 29 = .ok (.iconst 1, 1) := by decide +kernel
theorem dX3_quotaAllows_30 : decode cX3_quotaAllows 30 = .ok (.goto 4, 3) := by decide +kernel
theorem dX3_quotaAllows_33 : decode cX3_quotaAllows 33 = .ok (.iconst 0, 1) := by decide +kernel
theorem dX3_quotaAllows_34 : decode cX3_quotaAllows 34 = .ok (.ireturn, 1) := by decide +kernel
theorem hd_X3_quotaAllows : yX3_quotaAllows.cls ≠ "java/lang/invoke/MethodHandle" ∧ yX3_quotaAllows.cls ≠ "java/lang/invoke/VarHandle" ∧ (parseMethodDescriptor yX3_quotaAllows.desc).map (fun d => d.parameters.length) = some 2 := by decide +kernel
abbrev rm_X3_quotaAllows : Room := { frames := 1, cells := 0, slots := 0, locals := 21 }
set_option maxHeartbeats 4000000 in
set_option maxRecDepth 100000 in
theorem c_X3_quotaAllows (l : Launch) (G : Gx) (oh : Nat) (as : Nat) (ao : Nat) (ab : Nat) (aq : Nat) (an : Nat) (st : Nat → Nat) (ow : Nat → Nat) (bk : Nat → Nat) (qu : Nat → Nat) (ct : Nat → Int32) (c : Nat) (x : Nat) (hc : c < 4) : Mt l G yX3_quotaAllows cX3_quotaAllows 3 (some .boolean) rm_X3_quotaAllows [.ref oh, .int (nI c), .int (nI x)] [(oh, .inr (2, [.ref as, .ref ao, .ref ab, .ref aq, .ref an])), (as, .inl (G.2.1 0, 32, .inl (fun j9 => nI (st j9)))), (ao, .inl (G.2.1 1, 32, .inl (fun j9 => nI (ow j9)))), (ab, .inl (G.2.1 1, 32, .inl (fun j9 => nI (bk j9)))), (aq, .inl (G.2.1 1, 4, .inl (fun j9 => nI (qu j9)))), (an, .inl (G.2.1 1, 4, .inl ct))] (D1 (some (.int (bI (decide (¬ nI (qu c) < ct c + nI x))))) [(oh, .inr (2, [.ref as, .ref ao, .ref ab, .ref aq, .ref an])), (as, .inl (G.2.1 0, 32, .inl (fun j9 => nI (st j9)))), (ao, .inl (G.2.1 1, 32, .inl (fun j9 => nI (ow j9)))), (ab, .inl (G.2.1 1, 32, .inl (fun j9 => nI (bk j9)))), (aq, .inl (G.2.1 1, 4, .inl (fun j9 => nI (qu j9)))), (an, .inl (G.2.1 1, 4, .inl ct))]) := by
  refine Mt.of (by decide) (Nat.le_of_ble_eq_true rfl) ?_
  intro K hl9 hn9 hR
  show V K G cX3_quotaAllows RX3 3 rm_X3_quotaAllows 0 0 0 [(0, .ref oh), (1, .int (nI c)), (2, .int (nI x))] [] [(oh, .inr (2, [.ref as, .ref ao, .ref ab, .ref aq, .ref an])), (as, .inl (G.2.1 0, 32, .inl (fun j9 => nI (st j9)))), (ao, .inl (G.2.1 1, 32, .inl (fun j9 => nI (ow j9)))), (ab, .inl (G.2.1 1, 32, .inl (fun j9 => nI (bk j9)))), (aq, .inl (G.2.1 1, 4, .inl (fun j9 => nI (qu j9)))), (an, .inl (G.2.1 1, 4, .inl ct))]
  refine v_iload_n dX3_quotaAllows_0 rfl 1 rfl ?_
  refine n_if_lt (a := c) (tgt := 33) dX3_quotaAllows_1 (by decide) (by omega) ?_
  refine v_iload_n dX3_quotaAllows_4 rfl 1 rfl ?_
  refine v_aload_n dX3_quotaAllows_5 rfl 0 rfl ?_
  refine v_get (ref := "Sealhouse$Heap") (C := RX3) (T := TX3) (N := 5) 0 3 dX3_quotaAllows_6 rfl rfl gin_X3 (by decide) kw_108 rfl rfl ?_
  refine v_alen (v := nI 4) 4 1 dX3_quotaAllows_9 rfl rfl rfl ?_
  refine n_icmp_ge (a := c) (b := 4) (tgt := 33) dX3_quotaAllows_10 (by decide) (by omega) (by omega) (fun c10 => absurd c10 (by omega)) (fun c10 => ?_)
  refine v_aload_n dX3_quotaAllows_13 rfl 0 rfl ?_
  refine v_iload_n dX3_quotaAllows_14 rfl 1 rfl ?_
  refine c_V1 (ci := 2) (T := TX3) (N := 5) (As := [.int (nI c)]) (rest := []) (wr := []) (k' := 0) (n' := 0) (st2 := [.int (ct c)]) (ws2 := [(oh, .inr (2, [.ref as, .ref ao, .ref ab, .ref aq, .ref an])), (as, .inl (G.2.1 0, 32, .inl (fun j9 => nI (st j9)))), (ao, .inl (G.2.1 1, 32, .inl (fun j9 => nI (ow j9)))), (ab, .inl (G.2.1 1, 32, .inl (fun j9 => nI (bk j9)))), (aq, .inl (G.2.1 1, 4, .inl (fun j9 => nI (qu j9)))), (an, .inl (G.2.1 1, 4, .inl ct))]) (c_X3_countFor K.2.1 G oh as ao ab aq an st ow bk qu ct c (by omega)) [0, 1, 2, 3, 4, 5] [] dX3_quotaAllows_15 kw_818 kw_819 kw_41 kw_821 kw_820 hd_X3_countFor ⟨Nat.le_of_ble_eq_true rfl, Nat.le_of_ble_eq_true rfl⟩ ⟨(by decide), (by decide)⟩ ⟨rfl, rfl⟩ (Nat.le_of_ble_eq_true rfl) rfl rfl rfl rfl rfl rfl (by decide) 0 rfl rfl [0, 1, 2, 3, 4, 5] rfl rfl rfl rfl ?_
  refine v_iload_n dX3_quotaAllows_18 rfl 2 rfl ?_
  refine v_iadd dX3_quotaAllows_19 ?_
  refine v_aload_n dX3_quotaAllows_20 rfl 0 rfl ?_
  refine v_get (ref := "Sealhouse$Heap") (C := RX3) (T := TX3) (N := 5) 0 3 dX3_quotaAllows_21 rfl rfl gin_X3 (by decide) kw_108 rfl rfl ?_
  refine v_iload_n dX3_quotaAllows_24 rfl 1 rfl ?_
  refine n_iald (i := c) (x := nI (qu c)) 4 dX3_quotaAllows_25 rfl (by omega) (by decide) rfl ?_
  refine v_icmp_gt (x := (ct c) + (nI x)) (y := nI (qu c)) (tgt := 33) dX3_quotaAllows_26 (by decide) (fun c26 => ?_) (fun c26 => ?_)
  ·
    refine v_iconst (v := nI 0) dX3_quotaAllows_33 (by decide) ?_
    refine v_eqi (y := bI false) (by decide) ?_
    exact v_zret hR dX3_quotaAllows_34 (bI_nar _) (by refine ⟨?_, rfl⟩; first | rw [decide_eq_true (by assumption)] | rw [decide_eq_false (fun h => h (by assumption))])
  ·
    refine v_iconst (v := nI 1) dX3_quotaAllows_29 (by decide) ?_
    refine v_goto (tgt := 34) dX3_quotaAllows_30 (by decide) ?_
    refine v_eqi (y := bI true) (by decide) ?_
    exact v_zret hR dX3_quotaAllows_34 (bI_nar _) (by refine ⟨?_, rfl⟩; first | rw [decide_eq_true (by assumption)] | rw [decide_eq_false (fun h => h (by assumption))])
theorem dX3_allFree_0 : decode cX3_allFree 0 = .ok (.iload_n 1, 1) := by decide +kernel
theorem dX3_allFree_1 : decode cX3_allFree 1 = .ok (.istore_n 3, 1) := by decide +kernel
theorem dX3_allFree_2 : decode cX3_allFree 2 = .ok (.iload_n 3, 1) := by decide +kernel
theorem dX3_allFree_3 : decode cX3_allFree 3 = .ok (.iload_n 2, 1) := by decide +kernel
theorem dX3_allFree_4 : decode cX3_allFree 4 = .ok (.if_icmp .ge 21, 3) := by decide +kernel
theorem dX3_allFree_7 : decode cX3_allFree 7 = .ok (.aload_n 0, 1) := by decide +kernel
theorem dX3_allFree_8 : decode cX3_allFree 8 = .ok (.iload_n 3, 1) := by decide +kernel
theorem dX3_allFree_9 : decode cX3_allFree 9 = .ok (.invokevirtual 34, 3) := by decide +kernel
theorem dX3_allFree_12 : decode cX3_allFree 12 = .ok (.bipush 102, 2) := by decide +kernel
theorem dX3_allFree_14 : decode cX3_allFree 14 = .ok (.if_icmp .eq 5, 3) := by decide +kernel
theorem dX3_allFree_17 : decode cX3_allFree 17 = .ok (.iconst 0, 1) := by decide +kernel
theorem dX3_allFree_18 : decode cX3_allFree 18 = .ok (.ireturn, 1) := by decide +kernel
theorem dX3_allFree_19 : decode cX3_allFree 19 = .ok (.iinc 3 1, 3) := by decide +kernel
theorem dX3_allFree_22 : decode cX3_allFree 22 = .ok (.goto (-20), 3) := by decide +kernel
theorem dX3_allFree_25 : decode cX3_allFree 25 = .ok (.iconst 1, 1) := by decide +kernel
theorem dX3_allFree_26 : decode cX3_allFree 26 = .ok (.ireturn, 1) := by decide +kernel
theorem hd_X3_allFree : yX3_allFree.cls ≠ "java/lang/invoke/MethodHandle" ∧ yX3_allFree.cls ≠ "java/lang/invoke/VarHandle" ∧ (parseMethodDescriptor yX3_allFree.desc).map (fun d => d.parameters.length) = some 2 := by decide +kernel
abbrev rm_X3_allFree : Room := { frames := 1, cells := 0, slots := 0, locals := 22 }
set_option maxHeartbeats 4000000 in
set_option maxRecDepth 100000 in
theorem c_X3_allFree (l : Launch) (G : Gx) (oh : Nat) (as : Nat) (ao : Nat) (ab : Nat) (aq : Nat) (an : Nat) (st : Nat → Nat) (ow : Nat → Nat) (bk : Nat → Nat) (qu : Nat → Nat) (ct : Nat → Int32) (b : Nat) (t : Nat) (hst : ∀ j, st j < 65536) (hbt : b ≤ t) (ht : t ≤ 96) : Mt l G yX3_allFree cX3_allFree 4 (some .boolean) rm_X3_allFree [.ref oh, .int (nI b), .int (nI t)] [(oh, .inr (2, [.ref as, .ref ao, .ref ab, .ref aq, .ref an])), (as, .inl (G.2.1 0, 32, .inl (fun j9 => nI (st j9)))), (ao, .inl (G.2.1 1, 32, .inl (fun j9 => nI (ow j9)))), (ab, .inl (G.2.1 1, 32, .inl (fun j9 => nI (bk j9)))), (aq, .inl (G.2.1 1, 4, .inl (fun j9 => nI (qu j9)))), (an, .inl (G.2.1 1, 4, .inl ct))] (D1 (some (.int (bI (freeR st b (t - b))))) [(oh, .inr (2, [.ref as, .ref ao, .ref ab, .ref aq, .ref an])), (as, .inl (G.2.1 0, 32, .inl (fun j9 => nI (st j9)))), (ao, .inl (G.2.1 1, 32, .inl (fun j9 => nI (ow j9)))), (ab, .inl (G.2.1 1, 32, .inl (fun j9 => nI (bk j9)))), (aq, .inl (G.2.1 1, 4, .inl (fun j9 => nI (qu j9)))), (an, .inl (G.2.1 1, 4, .inl ct))]) := by
  refine Mt.of (by decide) (Nat.le_of_ble_eq_true rfl) ?_
  intro K hl9 hn9 hR
  show V K G cX3_allFree RX3 4 rm_X3_allFree 0 0 0 [(0, .ref oh), (1, .int (nI b)), (2, .int (nI t))] [] [(oh, .inr (2, [.ref as, .ref ao, .ref ab, .ref aq, .ref an])), (as, .inl (G.2.1 0, 32, .inl (fun j9 => nI (st j9)))), (ao, .inl (G.2.1 1, 32, .inl (fun j9 => nI (ow j9)))), (ab, .inl (G.2.1 1, 32, .inl (fun j9 => nI (bk j9)))), (aq, .inl (G.2.1 1, 4, .inl (fun j9 => nI (qu j9)))), (an, .inl (G.2.1 1, 4, .inl ct))]
  refine v_iload_n dX3_allFree_0 rfl 1 rfl ?_
  refine v_istore_n (lv' := [(3, .int (nI b)), (0, .ref oh), (1, .int (nI b)), (2, .int (nI t))]) dX3_allFree_1 rfl (by decide) rfl ?_
  have L2 : ∀ (f9 : Nat) (i : Nat) (hi1 : b ≤ i) (hi2 : i ≤ t) (ha : freeR st b (i - b) = true), t - i < f9 → V K G cX3_allFree RX3 4 rm_X3_allFree 0 0 2 [(3, .int (nI i)), (0, .ref oh), (1, .int (nI b)), (2, .int (nI t))] [] [(oh, .inr (2, [.ref as, .ref ao, .ref ab, .ref aq, .ref an])), (as, .inl (G.2.1 0, 32, .inl (fun j9 => nI (st j9)))), (ao, .inl (G.2.1 1, 32, .inl (fun j9 => nI (ow j9)))), (ab, .inl (G.2.1 1, 32, .inl (fun j9 => nI (bk j9)))), (aq, .inl (G.2.1 1, 4, .inl (fun j9 => nI (qu j9)))), (an, .inl (G.2.1 1, 4, .inl ct))] := by
    intro f9
    induction f9 with
    | zero => intro i hi1 hi2 ha hm; exact absurd hm (Nat.not_lt_zero _)
    | succ f9 ih2 =>
      intro i hi1 hi2 ha hm2
      refine v_iload_n dX3_allFree_2 rfl 0 rfl ?_
      refine v_iload_n dX3_allFree_3 rfl 3 rfl ?_
      refine n_icmp_ge (a := i) (b := t) (tgt := 25) dX3_allFree_4 (by decide) (by omega) (by omega) (fun c4 => ?_) (fun c4 => ?_)
      ·
        refine v_iconst (v := nI 1) dX3_allFree_25 (by decide) ?_
        refine v_eqi (y := bI true) (by decide) ?_
        exact v_zret hR dX3_allFree_26 (bI_nar _) (by refine ⟨?_, rfl⟩; rw [← ha, show i = t by omega])
      ·
        refine v_aload_n dX3_allFree_7 rfl 1 rfl ?_
        refine v_iload_n dX3_allFree_8 rfl 0 rfl ?_
        refine c_V1 (ci := 2) (T := TX3) (N := 5) (As := [.int (nI i)]) (rest := []) (wr := []) (k' := 0) (n' := 0) (st2 := [.int (nI (stA st i))]) (ws2 := [(oh, .inr (2, [.ref as, .ref ao, .ref ab, .ref aq, .ref an])), (as, .inl (G.2.1 0, 32, .inl (fun j9 => nI (st j9)))), (ao, .inl (G.2.1 1, 32, .inl (fun j9 => nI (ow j9)))), (ab, .inl (G.2.1 1, 32, .inl (fun j9 => nI (bk j9)))), (aq, .inl (G.2.1 1, 4, .inl (fun j9 => nI (qu j9)))), (an, .inl (G.2.1 1, 4, .inl ct))]) (c_X3_stateAt K.2.1 G oh as ao ab aq an st ow bk qu ct i (by exact hst) (by omega)) [0, 1, 2, 3, 4, 5] [] dX3_allFree_9 kw_270 kw_271 kw_41 kw_273 kw_272 hd_X3_stateAt ⟨Nat.le_of_ble_eq_true rfl, Nat.le_of_ble_eq_true rfl⟩ ⟨(by decide), (by decide)⟩ ⟨rfl, rfl⟩ (Nat.le_of_ble_eq_true rfl) rfl rfl rfl rfl rfl rfl (by decide) 0 rfl rfl [0, 1, 2, 3, 4, 5] rfl rfl rfl rfl ?_
        refine v_bipush (v := nI 102) dX3_allFree_12 (by decide) ?_
        refine n_icmp_eq (a := stA st i) (b := 102) (tgt := 19) dX3_allFree_14 (by decide) (by first | decide | exact Nat.lt_of_lt_of_le (stA_lt hst i) (by decide)) (by first | decide | exact Nat.lt_of_lt_of_le (stA_lt hst i) (by decide)) (fun c14 => ?_) (fun c14 => ?_)
        ·
          refine n_iinc (a := i) (y := i + 1) (lv' := [(3, .int (nI (i + 1))), (0, .ref oh), (1, .int (nI b)), (2, .int (nI t))]) dX3_allFree_19 0 rfl (nI_inc _) (by decide) rfl ?_
          refine v_goto (tgt := 2) dX3_allFree_22 (by decide) ?_
          exact ih2 (i + 1) (by omega) (by omega) (by rw [show i + 1 - b = (i - b) + 1 by omega, freeR_s, ha, show b + (i - b) = i by omega]; simp [*]) (by omega)
        ·
          refine v_iconst (v := nI 0) dX3_allFree_17 (by decide) ?_
          refine v_eqi (y := bI false) (by decide) ?_
          exact v_zret hR dX3_allFree_18 (bI_nar _) (by refine ⟨?_, rfl⟩; rw [freeR_false (i := i - b) (by omega) (by rw [show b + (i - b) = i by omega]; assumption)])
  exact L2 (t - b + 1) b (by omega) (by omega) (by rw [Nat.sub_self]; rfl) (Nat.lt_succ_self _)
theorem dX3_lowestFree_0 : decode cX3_lowestFree 0 = .ok (.bipush 64, 2) := by decide +kernel
theorem dX3_lowestFree_2 : decode cX3_lowestFree 2 = .ok (.istore_n 2, 1) := by decide +kernel
theorem dX3_lowestFree_3 : decode cX3_lowestFree 3 = .ok (.iload_n 2, 1) := by decide +kernel
theorem dX3_lowestFree_4 : decode cX3_lowestFree 4 = .ok (.iload_n 1, 1) := by decide +kernel
theorem dX3_lowestFree_5 : decode cX3_lowestFree 5 = .ok (.iadd, 1) := by decide +kernel
theorem dX3_lowestFree_6 : decode cX3_lowestFree 6 = .ok (.bipush 96, 2) := by decide +kernel
theorem dX3_lowestFree_8 : decode cX3_lowestFree 8 = .ok (.if_icmp .gt 32, 3) := by decide +kernel
theorem dX3_lowestFree_11 : decode cX3_lowestFree 11 = .ok (.iload_n 2, 1) := by decide +kernel
theorem dX3_lowestFree_12 : decode cX3_lowestFree 12 = .ok (.iload_n 2, 1) := by decide +kernel
theorem dX3_lowestFree_13 : decode cX3_lowestFree 13 = .ok (.iload_n 1, 1) := by decide +kernel
theorem dX3_lowestFree_14 : decode cX3_lowestFree 14 = .ok (.iadd, 1) := by decide +kernel
theorem dX3_lowestFree_15 : decode cX3_lowestFree 15 = .ok (.invokestatic 42, 3) := by decide +kernel
theorem dX3_lowestFree_18 : decode cX3_lowestFree 18 = .ok (.ifCond .eq 16, 3) := by decide +kernel
theorem dX3_lowestFree_21 : decode cX3_lowestFree 21 = .ok (.aload_n 0, 1) := by decide +kernel
theorem dX3_lowestFree_22 : decode cX3_lowestFree 22 = .ok (.iload_n 2, 1) := by decide +kernel
theorem dX3_lowestFree_23 : decode cX3_lowestFree 23 = .ok (.iload_n 2, 1) := by decide +kernel
theorem dX3_lowestFree_24 : decode cX3_lowestFree 24 = .ok (.iload_n 1, 1) := by decide +kernel
theorem dX3_lowestFree_25 : decode cX3_lowestFree 25 = .ok (.iadd, 1) := by decide +kernel
theorem dX3_lowestFree_26 : decode cX3_lowestFree 26 = .ok (.invokevirtual 46, 3) := by decide +kernel
theorem dX3_lowestFree_29 : decode cX3_lowestFree 29 = .ok (.ifCond .eq 5, 3) := by decide +kernel
theorem dX3_lowestFree_32 : decode cX3_lowestFree 32 = .ok (.iload_n 2, 1) := by decide +kernel
theorem dX3_lowestFree_33 : decode cX3_lowestFree 33 = .ok (.ireturn, 1) := by decide +kernel
theorem dX3_lowestFree_34 : decode cX3_lowestFree 34 = .ok (.iinc 2 1, 3) := by decide +kernel
theorem dX3_lowestFree_37 : decode cX3_lowestFree 37 = .ok (.goto (-34), 3) := by decide +kernel
theorem dX3_lowestFree_40 : decode cX3_lowestFree 40 = .ok (.iconst (-1), 1) := by decide +kernel
theorem dX3_lowestFree_41 : decode cX3_lowestFree 41 = .ok (.ireturn, 1) := by decide +kernel
theorem hd_X3_lowestFree : yX3_lowestFree.cls ≠ "java/lang/invoke/MethodHandle" ∧ yX3_lowestFree.cls ≠ "java/lang/invoke/VarHandle" ∧ (parseMethodDescriptor yX3_lowestFree.desc).map (fun d => d.parameters.length) = some 1 := by decide +kernel
abbrev rm_X3_lowestFree : Room := { frames := 3, cells := 0, slots := 0, locals := 65 }
set_option maxHeartbeats 4000000 in
set_option maxRecDepth 100000 in
theorem c_X3_lowestFree (l : Launch) (G : Gx) (oh : Nat) (as : Nat) (ao : Nat) (ab : Nat) (aq : Nat) (an : Nat) (st : Nat → Nat) (ow : Nat → Nat) (bk : Nat → Nat) (qu : Nat → Nat) (ct : Nat → Int32) (n : Nat) (hst : ∀ j, st j < 65536) (hn : 1 ≤ n) (hn2 : n ≤ 64) : Mt l G yX3_lowestFree cX3_lowestFree 3 (some .int) rm_X3_lowestFree [.ref oh, .int (nI n)] [(oh, .inr (2, [.ref as, .ref ao, .ref ab, .ref aq, .ref an])), (as, .inl (G.2.1 0, 32, .inl (fun j9 => nI (st j9)))), (ao, .inl (G.2.1 1, 32, .inl (fun j9 => nI (ow j9)))), (ab, .inl (G.2.1 1, 32, .inl (fun j9 => nI (bk j9)))), (aq, .inl (G.2.1 1, 4, .inl (fun j9 => nI (qu j9)))), (an, .inl (G.2.1 1, 4, .inl ct))] (D1 (some (.int (lowR st n))) [(oh, .inr (2, [.ref as, .ref ao, .ref ab, .ref aq, .ref an])), (as, .inl (G.2.1 0, 32, .inl (fun j9 => nI (st j9)))), (ao, .inl (G.2.1 1, 32, .inl (fun j9 => nI (ow j9)))), (ab, .inl (G.2.1 1, 32, .inl (fun j9 => nI (bk j9)))), (aq, .inl (G.2.1 1, 4, .inl (fun j9 => nI (qu j9)))), (an, .inl (G.2.1 1, 4, .inl ct))]) := by
  refine Mt.of (by decide) (Nat.le_of_ble_eq_true rfl) ?_
  intro K hl9 hn9 hR
  show V K G cX3_lowestFree RX3 3 rm_X3_lowestFree 0 0 0 [(0, .ref oh), (1, .int (nI n))] [] [(oh, .inr (2, [.ref as, .ref ao, .ref ab, .ref aq, .ref an])), (as, .inl (G.2.1 0, 32, .inl (fun j9 => nI (st j9)))), (ao, .inl (G.2.1 1, 32, .inl (fun j9 => nI (ow j9)))), (ab, .inl (G.2.1 1, 32, .inl (fun j9 => nI (bk j9)))), (aq, .inl (G.2.1 1, 4, .inl (fun j9 => nI (qu j9)))), (an, .inl (G.2.1 1, 4, .inl ct))]
  refine v_bipush (v := nI 64) dX3_lowestFree_0 (by decide) ?_
  refine v_istore_n (lv' := [(2, .int (nI 64)), (0, .ref oh), (1, .int (nI n))]) dX3_lowestFree_2 rfl (by decide) rfl ?_
  have L3 : ∀ (f9 : Nat) (i : Nat) (hi : 64 ≤ i) (hi2 : i ≤ 96) (hno : ∀ x9, 64 ≤ x9 → x9 < i → okB st n x9 = false), 96 - i < f9 → V K G cX3_lowestFree RX3 3 rm_X3_lowestFree 0 0 3 [(2, .int (nI i)), (0, .ref oh), (1, .int (nI n))] [] [(oh, .inr (2, [.ref as, .ref ao, .ref ab, .ref aq, .ref an])), (as, .inl (G.2.1 0, 32, .inl (fun j9 => nI (st j9)))), (ao, .inl (G.2.1 1, 32, .inl (fun j9 => nI (ow j9)))), (ab, .inl (G.2.1 1, 32, .inl (fun j9 => nI (bk j9)))), (aq, .inl (G.2.1 1, 4, .inl (fun j9 => nI (qu j9)))), (an, .inl (G.2.1 1, 4, .inl ct))] := by
    intro f9
    induction f9 with
    | zero => intro i hi hi2 hno hm; exact absurd hm (Nat.not_lt_zero _)
    | succ f9 ih3 =>
      intro i hi hi2 hno hm3
      refine v_iload_n dX3_lowestFree_3 rfl 0 rfl ?_
      refine v_iload_n dX3_lowestFree_4 rfl 2 rfl ?_
      refine n_iadd (a := i) (b := n) (z := i + n) dX3_lowestFree_5 rfl ?_
      refine v_bipush (v := nI 96) dX3_lowestFree_6 (by decide) ?_
      refine n_icmp_gt (a := i + n) (b := 96) (tgt := 40) dX3_lowestFree_8 (by decide) (by omega) (by omega) (fun c8 => ?_) (fun c8 => ?_)
      ·
        refine v_iconst (v := (-1)) dX3_lowestFree_40 (by decide) ?_
        exact v_iret hR dX3_lowestFree_41 (by refine ⟨?_, rfl⟩; rw [lowR_no hn (fun x h1 h2 => hno x h1 (by omega))])
      ·
        refine v_iload_n dX3_lowestFree_11 rfl 0 rfl ?_
        refine v_iload_n dX3_lowestFree_12 rfl 0 rfl ?_
        refine v_iload_n dX3_lowestFree_13 rfl 2 rfl ?_
        refine n_iadd (a := i) (b := n) (z := i + n) dX3_lowestFree_14 rfl ?_
        refine c_S1 (As := [.int (nI i), .int (nI (i + n))]) (rest := []) (wr := [(oh, .inr (2, [.ref as, .ref ao, .ref ab, .ref aq, .ref an])), (as, .inl (G.2.1 0, 32, .inl (fun j9 => nI (st j9)))), (ao, .inl (G.2.1 1, 32, .inl (fun j9 => nI (ow j9)))), (ab, .inl (G.2.1 1, 32, .inl (fun j9 => nI (bk j9)))), (aq, .inl (G.2.1 1, 4, .inl (fun j9 => nI (qu j9)))), (an, .inl (G.2.1 1, 4, .inl ct))]) (k' := 0) (n' := 0) (st2 := [.int (bI (exactB i (i + n)))]) (ws2 := [(oh, .inr (2, [.ref as, .ref ao, .ref ab, .ref aq, .ref an])), (as, .inl (G.2.1 0, 32, .inl (fun j9 => nI (st j9)))), (ao, .inl (G.2.1 1, 32, .inl (fun j9 => nI (ow j9)))), (ab, .inl (G.2.1 1, 32, .inl (fun j9 => nI (bk j9)))), (aq, .inl (G.2.1 1, 4, .inl (fun j9 => nI (qu j9)))), (an, .inl (G.2.1 1, 4, .inl ct))]) (c_X0_needNoRounding K.2.1 G i (i + n) (by omega) (by omega)) [] [0, 1, 2, 3, 4, 5] dX3_lowestFree_15 kw_809 kw_416 kw_52 kw_417 hd_X0_needNoRounding ⟨Nat.le_of_ble_eq_true rfl, Nat.le_of_ble_eq_true rfl⟩ ⟨(by decide), (by decide)⟩ ⟨rfl, rfl⟩ (Nat.le_of_ble_eq_true rfl) rfl rfl rfl rfl rfl rfl (by decide) [0, 1, 2, 3, 4, 5] rfl rfl rfl rfl ?_
        refine b_if_eq (tgt := 34) dX3_lowestFree_18 (by decide) (fun c18 => ?_) (fun c18 => ?_)
        ·
          refine n_iinc (a := i) (y := i + 1) (lv' := [(2, .int (nI (i + 1))), (0, .ref oh), (1, .int (nI n))]) dX3_lowestFree_34 0 rfl (nI_inc _) (by decide) rfl ?_
          refine v_goto (tgt := 3) dX3_lowestFree_37 (by decide) ?_
          exact ih3 (i + 1) (by omega) (by omega) (by exact okB_step hno (by unfold okB; first | rw [c18, Bool.false_and] | (rw [Nat.add_sub_cancel_left] at c29; rw [c29, Bool.and_false]))) (by omega)
        ·
          refine v_aload_n dX3_lowestFree_21 rfl 1 rfl ?_
          refine v_iload_n dX3_lowestFree_22 rfl 0 rfl ?_
          refine v_iload_n dX3_lowestFree_23 rfl 0 rfl ?_
          refine v_iload_n dX3_lowestFree_24 rfl 2 rfl ?_
          refine n_iadd (a := i) (b := n) (z := i + n) dX3_lowestFree_25 rfl ?_
          refine c_V1 (ci := 2) (T := TX3) (N := 5) (As := [.int (nI i), .int (nI (i + n))]) (rest := []) (wr := []) (k' := 0) (n' := 0) (st2 := [.int (bI (freeR st i ((i + n) - i)))]) (ws2 := [(oh, .inr (2, [.ref as, .ref ao, .ref ab, .ref aq, .ref an])), (as, .inl (G.2.1 0, 32, .inl (fun j9 => nI (st j9)))), (ao, .inl (G.2.1 1, 32, .inl (fun j9 => nI (ow j9)))), (ab, .inl (G.2.1 1, 32, .inl (fun j9 => nI (bk j9)))), (aq, .inl (G.2.1 1, 4, .inl (fun j9 => nI (qu j9)))), (an, .inl (G.2.1 1, 4, .inl ct))]) (c_X3_allFree K.2.1 G oh as ao ab aq an st ow bk qu ct i (i + n) (by exact hst) (by omega) (by omega)) [0, 1, 2, 3, 4, 5] [] dX3_lowestFree_26 kw_810 kw_812 kw_41 kw_813 kw_16 hd_X3_allFree ⟨Nat.le_of_ble_eq_true rfl, Nat.le_of_ble_eq_true rfl⟩ ⟨(by decide), (by decide)⟩ ⟨rfl, rfl⟩ (Nat.le_of_ble_eq_true rfl) rfl rfl rfl rfl rfl rfl (by decide) 0 rfl rfl [0, 1, 2, 3, 4, 5] rfl rfl rfl rfl ?_
          refine b_if_eq (tgt := 34) dX3_lowestFree_29 (by decide) (fun c29 => ?_) (fun c29 => ?_)
          ·
            refine n_iinc (a := i) (y := i + 1) (lv' := [(2, .int (nI (i + 1))), (0, .ref oh), (1, .int (nI n))]) dX3_lowestFree_34 0 rfl (nI_inc _) (by decide) rfl ?_
            refine v_goto (tgt := 3) dX3_lowestFree_37 (by decide) ?_
            exact ih3 (i + 1) (by omega) (by omega) (by exact okB_step hno (by unfold okB; first | rw [c18, Bool.false_and] | (rw [Nat.add_sub_cancel_left] at c29; rw [c29, Bool.and_false]))) (by omega)
          ·
            refine v_iload_n dX3_lowestFree_32 rfl 0 rfl ?_
            exact v_iret hR dX3_lowestFree_33 (by refine ⟨?_, rfl⟩; rw [lowR_yes hi (by omega) hn (by unfold okB; rw [Nat.add_sub_cancel_left] at c29; rw [c18, c29]; rfl) hno])
  exact L3 (96 - 64 + 1) 64 (by omega) (by omega) (by intro x h1 h2; omega) (Nat.lt_succ_self _)
theorem dX3_take_0 : decode cX3_take 0 = .ok (.iload_n 1, 1) := by decide +kernel
theorem dX3_take_1 : decode cX3_take 1 = .ok (.bipush 64, 2) := by decide +kernel
theorem dX3_take_3 : decode cX3_take 3 = .ok (.isub, 1) := by decide +kernel
theorem dX3_take_4 : decode cX3_take 4 = .ok (.istore 4, 2) := by decide +kernel
theorem dX3_take_6 : decode cX3_take 6 = .ok (.iload 4, 2) := by decide +kernel
theorem dX3_take_8 : decode cX3_take 8 = .ok (.ifCond .lt 28, 3) := by decide +kernel
theorem dX3_take_11 : decode cX3_take 11 = .ok (.iload 4, 2) := by decide +kernel
theorem dX3_take_13 : decode cX3_take 13 = .ok (.iload_n 2, 1) := by decide +kernel
theorem dX3_take_14 : decode cX3_take 14 = .ok (.iadd, 1) := by decide +kernel
theorem dX3_take_15 : decode cX3_take 15 = .ok (.aload_n 0, 1) := by decide +kernel
theorem dX3_take_16 : decode cX3_take 16 = .ok (.getfield 9, 3) := by decide +kernel
theorem dX3_take_19 : decode cX3_take 19 = .ok (.arraylength, 1) := by decide +kernel
theorem dX3_take_20 : decode cX3_take 20 = .ok (.if_icmp .gt 16, 3) := by decide +kernel
theorem dX3_take_23 : decode cX3_take 23 = .ok (.iload_n 3, 1) := by decide +kernel
theorem dX3_take_24 : decode cX3_take 24 = .ok (.ifCond .lt 12, 3) := by decide +kernel
theorem dX3_take_27 : decode cX3_take 27 = .ok (.iload_n 3, 1) := by decide +kernel
theorem dX3_take_28 : decode cX3_take 28 = .ok (.aload_n 0, 1) := by decide +kernel
theorem dX3_take_29 : decode cX3_take 29 = .ok (.getfield 25, 3) := by decide +kernel
theorem dX3_take_32 : decode cX3_take 32 = .ok (.arraylength, 1) := by decide +kernel
theorem dX3_take_33 : decode cX3_take 33 = .ok (.if_icmp .lt 4, 3) := by decide +kernel
theorem dX3_take_36 : decode cX3_take 36 = .ok (.return_, 1) := by decide +kernel
theorem dX3_take_37 : decode cX3_take 37 = .ok (.iload 4, 2) := by decide +kernel
theorem dX3_take_39 : decode cX3_take 39 = .ok (.istore 5, 2) := by decide +kernel
theorem dX3_take_41 : decode cX3_take 41 = .ok (.iload 5, 2) := by decide +kernel
theorem dX3_take_43 : decode cX3_take 43 = .ok (.iload 4, 2) := by decide +kernel
theorem dX3_take_45 : decode cX3_take 45 = .ok (.iload_n 2, 1) := by decide +kernel
theorem dX3_take_46 : decode cX3_take 46 = .ok (.iadd, 1) := by decide +kernel
theorem dX3_take_47 : decode cX3_take 47 = .ok (.if_icmp .ge 46, 3) := by decide +kernel
theorem dX3_take_50 : decode cX3_take 50 = .ok (.iload 5, 2) := by decide +kernel
theorem dX3_take_52 : decode cX3_take 52 = .ok (.aload_n 0, 1) := by decide +kernel
theorem dX3_take_53 : decode cX3_take 53 = .ok (.getfield 9, 3) := by decide +kernel
theorem dX3_take_56 : decode cX3_take 56 = .ok (.arraylength, 1) := by decide +kernel
theorem dX3_take_57 : decode cX3_take 57 = .ok (.if_icmp .ge 36, 3) := by decide +kernel
theorem dX3_take_60 : decode cX3_take 60 = .ok (.iload 5, 2) := by decide +kernel
theorem dX3_take_62 : decode cX3_take 62 = .ok (.aload_n 0, 1) := by decide +kernel
theorem dX3_take_63 : decode cX3_take 63 = .ok (.getfield 15, 3) := by decide +kernel
theorem dX3_take_66 : decode cX3_take 66 = .ok (.arraylength, 1) := by decide +kernel
theorem dX3_take_67 : decode cX3_take 67 = .ok (.if_icmp .ge 26, 3) := by decide +kernel
theorem dX3_take_70 : decode cX3_take 70 = .ok (.aload_n 0, 1) := by decide +kernel
theorem dX3_take_71 : decode cX3_take 71 = .ok (.getfield 9, 3) := by decide +kernel
theorem dX3_take_74 : decode cX3_take 74 = .ok (.iload 5, 2) := by decide +kernel
theorem dX3_take_76 : decode cX3_take 76 = .ok (.bipush 103, 2) := by decide +kernel
theorem dX3_take_78 : decode cX3_take 78 = .ok (.castore, 1) := by decide +kernel
theorem dX3_take_79 : decode cX3_take 79 = .ok (.aload_n 0, 1) := by decide +kernel
theorem dX3_take_80 : decode cX3_take 80 = .ok (.getfield 15, 3) := by decide +kernel
theorem dX3_take_83 : decode cX3_take 83 = .ok (.iload 5, 2) := by decide +kernel
theorem dX3_take_85 : decode cX3_take 85 = .ok (.iload_n 3, 1) := by decide +kernel
theorem dX3_take_86 : decode cX3_take 86 = .ok (.iastore, 1) := by decide +kernel
theorem dX3_take_87 : decode cX3_take 87 = .ok (.iinc 5 1, 3) := by decide +kernel
theorem dX3_take_90 : decode cX3_take 90 = .ok (.goto (-49), 3) := by decide +kernel
theorem dX3_take_93 : decode cX3_take 93 = .ok (.iload 4, 2) := by decide +kernel
theorem dX3_take_95 : decode cX3_take 95 = .ok (.aload_n 0, 1) := by decide +kernel
theorem dX3_take_96 : decode cX3_take 96 = .ok (.getfield 19, 3) := by decide +kernel
theorem dX3_take_99 : decode cX3_take 99 = .ok (.arraylength, 1) := by decide +kernel
theorem dX3_take_100 : decode cX3_take 100 = .ok (.if_icmp .ge 13, 3) := by decide +kernel
theorem dX3_take_103 : decode cX3_take 103 = .ok (.aload_n 0, 1) := by decide +kernel
theorem dX3_take_104 : decode cX3_take 104 = .ok (.getfield 19, 3) := by decide +kernel
theorem dX3_take_107 : decode cX3_take 107 = .ok (.iload 4, 2) := by decide +kernel
theorem dX3_take_109 : decode cX3_take 109 = .ok (.iload_n 1, 1) := by decide +kernel
theorem dX3_take_110 : decode cX3_take 110 = .ok (.iload_n 2, 1) := by decide +kernel
theorem dX3_take_111 : decode cX3_take 111 = .ok (.iadd, 1) := by decide +kernel
theorem dX3_take_112 : decode cX3_take 112 = .ok (.iastore, 1) := by decide +kernel
theorem dX3_take_113 : decode cX3_take 113 = .ok (.aload_n 0, 1) := by decide +kernel
theorem dX3_take_114 : decode cX3_take 114 = .ok (.getfield 25, 3) := by decide +kernel
theorem dX3_take_117 : decode cX3_take 117 = .ok (.iload_n 3, 1) := by decide +kernel
theorem dX3_take_118 : decode cX3_take 118 = .ok (.dup2, 1) := by decide +kernel
theorem dX3_take_119 : decode cX3_take 119 = .ok (.iaload, 1) := by decide +kernel
theorem dX3_take_120 : decode cX3_take 120 = .ok (.iload_n 2, 1) := by decide +kernel
theorem dX3_take_121 : decode cX3_take 121 = .ok (.iadd, 1) := by decide +kernel
theorem dX3_take_122 : decode cX3_take 122 = .ok (.iastore, 1) := by decide +kernel
theorem dX3_take_123 : decode cX3_take 123 = .ok (.return_, 1) := by decide +kernel
theorem hd_X3_take : yX3_take.cls ≠ "java/lang/invoke/MethodHandle" ∧ yX3_take.cls ≠ "java/lang/invoke/VarHandle" ∧ (parseMethodDescriptor yX3_take.desc).map (fun d => d.parameters.length) = some 3 := by decide +kernel
abbrev rm_X3_take : Room := { frames := 0, cells := 0, slots := 0, locals := 0 }
set_option maxHeartbeats 4000000 in
set_option maxRecDepth 100000 in
theorem c_X3_take (l : Launch) (G : Gx) (oh : Nat) (as : Nat) (ao : Nat) (ab : Nat) (aq : Nat) (an : Nat) (st : Nat → Nat) (ow : Nat → Nat) (bk : Nat → Nat) (qu : Nat → Nat) (ct : Nat → Int32) (b : Nat) (n : Nat) (c : Nat) (hb : 64 ≤ b) (hbn : b + n ≤ 96) (hn : 1 ≤ n) (hc : c < 4) : Mt l G yX3_take cX3_take 6 none rm_X3_take [.ref oh, .int (nI b), .int (nI n), .int (nI c)] [(oh, .inr (2, [.ref as, .ref ao, .ref ab, .ref aq, .ref an])), (as, .inl (G.2.1 0, 32, .inl (fun j9 => nI (st j9)))), (ao, .inl (G.2.1 1, 32, .inl (fun j9 => nI (ow j9)))), (ab, .inl (G.2.1 1, 32, .inl (fun j9 => nI (bk j9)))), (aq, .inl (G.2.1 1, 4, .inl (fun j9 => nI (qu j9)))), (an, .inl (G.2.1 1, 4, .inl ct))] (D1 none [(oh, .inr (2, [.ref as, .ref ao, .ref ab, .ref aq, .ref an])), (as, .inl (G.2.1 0, 32, .inl (fun j9 => nI ((filA st 103 (b - 64) (b - 64 + n)) j9)))), (ao, .inl (G.2.1 1, 32, .inl (fun j9 => nI ((filA ow c (b - 64) (b - 64 + n)) j9)))), (ab, .inl (G.2.1 1, 32, .inl (fun j9 => nI ((va_up bk (b - 64) (b + n)) j9)))), (aq, .inl (G.2.1 1, 4, .inl (fun j9 => nI (qu j9)))), (an, .inl (G.2.1 1, 4, .inl (upd ct c (ct c + nI n))))]) := by
  refine Mt.of (by decide) (Nat.le_of_ble_eq_true rfl) ?_
  intro K hl9 hn9 hR
  show V K G cX3_take RX3 6 rm_X3_take 0 0 0 [(0, .ref oh), (1, .int (nI b)), (2, .int (nI n)), (3, .int (nI c))] [] [(oh, .inr (2, [.ref as, .ref ao, .ref ab, .ref aq, .ref an])), (as, .inl (G.2.1 0, 32, .inl (fun j9 => nI (st j9)))), (ao, .inl (G.2.1 1, 32, .inl (fun j9 => nI (ow j9)))), (ab, .inl (G.2.1 1, 32, .inl (fun j9 => nI (bk j9)))), (aq, .inl (G.2.1 1, 4, .inl (fun j9 => nI (qu j9)))), (an, .inl (G.2.1 1, 4, .inl ct))]
  refine v_iload_n dX3_take_0 rfl 1 rfl ?_
  refine v_bipush (v := nI 64) dX3_take_1 (by decide) ?_
  refine n_isub (a := b) (b := 64) (z := b - 64) dX3_take_3 (by omega) ?_
  refine v_istore (lv' := [(4, .int (nI (b - 64))), (0, .ref oh), (1, .int (nI b)), (2, .int (nI n)), (3, .int (nI c))]) dX3_take_4 (by decide) rfl ?_
  refine v_iload dX3_take_6 0 rfl ?_
  refine n_if_lt (a := b - 64) (tgt := 36) dX3_take_8 (by decide) (by omega) ?_
  refine v_iload dX3_take_11 0 rfl ?_
  refine v_iload_n dX3_take_13 rfl 3 rfl ?_
  refine n_iadd (a := b - 64) (b := n) (z := (b - 64) + n) dX3_take_14 rfl ?_
  refine v_aload_n dX3_take_15 rfl 1 rfl ?_
  refine v_get (ref := "Sealhouse$Heap") (C := RX3) (T := TX3) (N := 5) 0 0 dX3_take_16 rfl rfl gin_X3 (by decide) kw_105 rfl rfl ?_
  refine v_alen (v := nI 32) 1 0 dX3_take_19 rfl rfl rfl ?_
  refine n_icmp_gt (a := (b - 64) + n) (b := 32) (tgt := 36) dX3_take_20 (by decide) (by omega) (by omega) (fun c20 => absurd c20 (by omega)) (fun c20 => ?_)
  refine v_iload_n dX3_take_23 rfl 4 rfl ?_
  refine n_if_lt (a := c) (tgt := 36) dX3_take_24 (by decide) (by omega) ?_
  refine v_iload_n dX3_take_27 rfl 4 rfl ?_
  refine v_aload_n dX3_take_28 rfl 1 rfl ?_
  refine v_get (ref := "Sealhouse$Heap") (C := RX3) (T := TX3) (N := 5) 0 4 dX3_take_29 rfl rfl gin_X3 (by decide) kw_109 rfl rfl ?_
  refine v_alen (v := nI 4) 5 1 dX3_take_32 rfl rfl rfl ?_
  refine n_icmp_lt (a := c) (b := 4) (tgt := 37) dX3_take_33 (by decide) (by omega) (by omega) (fun c33 => ?_) (fun c33 => absurd c33 (by omega))
  refine v_iload dX3_take_37 0 rfl ?_
  refine v_istore (lv' := [(5, .int (nI (b - 64))), (4, .int (nI (b - 64))), (0, .ref oh), (1, .int (nI b)), (2, .int (nI n)), (3, .int (nI c))]) dX3_take_39 (by decide) rfl ?_
  refine v_cong (lv' := [(5, .int (nI (b - 64))), (4, .int (nI (b - 64))), (0, .ref oh), (1, .int (nI b)), (2, .int (nI n)), (3, .int (nI c))]) (st' := []) (ws' := [(oh, .inr (2, [.ref as, .ref ao, .ref ab, .ref aq, .ref an])), (as, .inl (G.2.1 0, 32, .inl (fun j9 => nI ((filA st 103 (b - 64) (b - 64)) j9)))), (ao, .inl (G.2.1 1, 32, .inl (fun j9 => nI ((filA ow c (b - 64) (b - 64)) j9)))), (ab, .inl (G.2.1 1, 32, .inl (fun j9 => nI (bk j9)))), (aq, .inl (G.2.1 1, 4, .inl (fun j9 => nI (qu j9)))), (an, .inl (G.2.1 1, 4, .inl ct))]) rfl rfl (by rw [filA_0, filA_0]) ?_
  have L41 : ∀ (f9 : Nat) (i : Nat) (hi1 : b - 64 ≤ i) (hi2 : i ≤ b - 64 + n), b - 64 + n - i < f9 → V K G cX3_take RX3 6 rm_X3_take 0 0 41 [(5, .int (nI i)), (4, .int (nI (b - 64))), (0, .ref oh), (1, .int (nI b)), (2, .int (nI n)), (3, .int (nI c))] [] [(oh, .inr (2, [.ref as, .ref ao, .ref ab, .ref aq, .ref an])), (as, .inl (G.2.1 0, 32, .inl (fun j9 => nI ((filA st 103 (b - 64) i) j9)))), (ao, .inl (G.2.1 1, 32, .inl (fun j9 => nI ((filA ow c (b - 64) i) j9)))), (ab, .inl (G.2.1 1, 32, .inl (fun j9 => nI (bk j9)))), (aq, .inl (G.2.1 1, 4, .inl (fun j9 => nI (qu j9)))), (an, .inl (G.2.1 1, 4, .inl ct))] := by
    intro f9
    induction f9 with
    | zero => intro i hi1 hi2 hm; exact absurd hm (Nat.not_lt_zero _)
    | succ f9 ih41 =>
      intro i hi1 hi2 hm41
      refine v_iload dX3_take_41 0 rfl ?_
      refine v_iload dX3_take_43 1 rfl ?_
      refine v_iload_n dX3_take_45 rfl 4 rfl ?_
      refine n_iadd (a := b - 64) (b := n) (z := (b - 64) + n) dX3_take_46 rfl ?_
      refine n_icmp_ge (a := i) (b := (b - 64) + n) (tgt := 93) dX3_take_47 (by decide) (by omega) (by omega) (fun c47 => ?_) (fun c47 => ?_)
      ·
        refine v_iload dX3_take_93 1 rfl ?_
        refine v_aload_n dX3_take_95 rfl 2 rfl ?_
        refine v_get (ref := "Sealhouse$Heap") (C := RX3) (T := TX3) (N := 5) 0 2 dX3_take_96 rfl rfl gin_X3 (by decide) kw_107 rfl rfl ?_
        refine v_alen (v := nI 32) 3 1 dX3_take_99 rfl rfl rfl ?_
        refine n_icmp_ge (a := b - 64) (b := 32) (tgt := 113) dX3_take_100 (by decide) (by omega) (by omega) (fun c100 => absurd c100 (by omega)) (fun c100 => ?_)
        refine v_aload_n dX3_take_103 rfl 2 rfl ?_
        refine v_get (ref := "Sealhouse$Heap") (C := RX3) (T := TX3) (N := 5) 0 2 dX3_take_104 rfl rfl gin_X3 (by decide) kw_107 rfl rfl ?_
        refine v_iload dX3_take_107 1 rfl ?_
        refine v_iload_n dX3_take_109 rfl 3 rfl ?_
        refine v_iload_n dX3_take_110 rfl 4 rfl ?_
        refine n_iadd (a := b) (b := n) (z := b + n) dX3_take_111 rfl ?_
        refine n_iast (i := b - 64) (g := (fun j9 => nI ((va_up bk (b - 64) (b + n)) j9))) (ws' := [(oh, .inr (2, [.ref as, .ref ao, .ref ab, .ref aq, .ref an])), (as, .inl (G.2.1 0, 32, .inl (fun j9 => nI ((filA st 103 (b - 64) i) j9)))), (ao, .inl (G.2.1 1, 32, .inl (fun j9 => nI ((filA ow c (b - 64) i) j9)))), (ab, .inl (G.2.1 1, 32, .inl (fun j9 => nI ((va_up bk (b - 64) (b + n)) j9)))), (aq, .inl (G.2.1 1, 4, .inl (fun j9 => nI (qu j9)))), (an, .inl (G.2.1 1, 4, .inl ct))]) 3 dX3_take_112 rfl (by omega) (by decide) (upd_n _ _ _) rfl ?_
        refine v_aload_n dX3_take_113 rfl 2 rfl ?_
        refine v_get (ref := "Sealhouse$Heap") (C := RX3) (T := TX3) (N := 5) 0 4 dX3_take_114 rfl rfl gin_X3 (by decide) kw_109 rfl rfl ?_
        refine v_iload_n dX3_take_117 rfl 5 rfl ?_
        refine v_dup2 dX3_take_118 rfl rfl ?_
        refine n_iald (i := c) (x := ct c) 5 dX3_take_119 rfl (by omega) (by decide) rfl ?_
        refine v_iload_n dX3_take_120 rfl 4 rfl ?_
        refine v_iadd dX3_take_121 ?_
        refine n_iast (i := c) (g := upd ct c ((ct c) + (nI n))) (ws' := [(oh, .inr (2, [.ref as, .ref ao, .ref ab, .ref aq, .ref an])), (as, .inl (G.2.1 0, 32, .inl (fun j9 => nI ((filA st 103 (b - 64) i) j9)))), (ao, .inl (G.2.1 1, 32, .inl (fun j9 => nI ((filA ow c (b - 64) i) j9)))), (ab, .inl (G.2.1 1, 32, .inl (fun j9 => nI ((va_up bk (b - 64) (b + n)) j9)))), (aq, .inl (G.2.1 1, 4, .inl (fun j9 => nI (qu j9)))), (an, .inl (G.2.1 1, 4, .inl (upd ct c ((ct c) + (nI n)))))]) 5 dX3_take_122 rfl (by omega) (by decide) rfl rfl ?_
        exact v_vret hR dX3_take_123 (by refine ⟨rfl, ?_⟩; rw [show i = b - 64 + n by omega])
      ·
        refine v_iload dX3_take_50 0 rfl ?_
        refine v_aload_n dX3_take_52 rfl 2 rfl ?_
        refine v_get (ref := "Sealhouse$Heap") (C := RX3) (T := TX3) (N := 5) 0 0 dX3_take_53 rfl rfl gin_X3 (by decide) kw_105 rfl rfl ?_
        refine v_alen (v := nI 32) 1 0 dX3_take_56 rfl rfl rfl ?_
        refine n_icmp_ge (a := i) (b := 32) (tgt := 93) dX3_take_57 (by decide) (by omega) (by omega) (fun c57 => absurd c57 (by omega)) (fun c57 => ?_)
        refine v_iload dX3_take_60 0 rfl ?_
        refine v_aload_n dX3_take_62 rfl 2 rfl ?_
        refine v_get (ref := "Sealhouse$Heap") (C := RX3) (T := TX3) (N := 5) 0 1 dX3_take_63 rfl rfl gin_X3 (by decide) kw_106 rfl rfl ?_
        refine v_alen (v := nI 32) 2 1 dX3_take_66 rfl rfl rfl ?_
        refine n_icmp_ge (a := i) (b := 32) (tgt := 93) dX3_take_67 (by decide) (by omega) (by omega) (fun c67 => absurd c67 (by omega)) (fun c67 => ?_)
        refine v_aload_n dX3_take_70 rfl 2 rfl ?_
        refine v_get (ref := "Sealhouse$Heap") (C := RX3) (T := TX3) (N := 5) 0 0 dX3_take_71 rfl rfl gin_X3 (by decide) kw_105 rfl rfl ?_
        refine v_iload dX3_take_74 0 rfl ?_
        refine v_bipush (v := nI 103) dX3_take_76 (by decide) ?_
        refine n_cast (i := i) (g := (fun j9 => nI ((va_up (filA st 103 (b - 64) i) i 103) j9))) (ws' := [(oh, .inr (2, [.ref as, .ref ao, .ref ab, .ref aq, .ref an])), (as, .inl (G.2.1 0, 32, .inl (fun j9 => nI ((va_up (filA st 103 (b - 64) i) i 103) j9)))), (ao, .inl (G.2.1 1, 32, .inl (fun j9 => nI ((filA ow c (b - 64) i) j9)))), (ab, .inl (G.2.1 1, 32, .inl (fun j9 => nI (bk j9)))), (aq, .inl (G.2.1 1, 4, .inl (fun j9 => nI (qu j9)))), (an, .inl (G.2.1 1, 4, .inl ct))]) 1 dX3_take_78 rfl (by omega) (by decide) (upd_c _ _ _ (by omega)) rfl ?_
        refine v_aload_n dX3_take_79 rfl 2 rfl ?_
        refine v_get (ref := "Sealhouse$Heap") (C := RX3) (T := TX3) (N := 5) 0 1 dX3_take_80 rfl rfl gin_X3 (by decide) kw_106 rfl rfl ?_
        refine v_iload dX3_take_83 0 rfl ?_
        refine v_iload_n dX3_take_85 rfl 5 rfl ?_
        refine n_iast (i := i) (g := (fun j9 => nI ((va_up (filA ow c (b - 64) i) i c) j9))) (ws' := [(oh, .inr (2, [.ref as, .ref ao, .ref ab, .ref aq, .ref an])), (as, .inl (G.2.1 0, 32, .inl (fun j9 => nI ((va_up (filA st 103 (b - 64) i) i 103) j9)))), (ao, .inl (G.2.1 1, 32, .inl (fun j9 => nI ((va_up (filA ow c (b - 64) i) i c) j9)))), (ab, .inl (G.2.1 1, 32, .inl (fun j9 => nI (bk j9)))), (aq, .inl (G.2.1 1, 4, .inl (fun j9 => nI (qu j9)))), (an, .inl (G.2.1 1, 4, .inl ct))]) 2 dX3_take_86 rfl (by omega) (by decide) (upd_n _ _ _) rfl ?_
        refine n_iinc (a := i) (y := i + 1) (lv' := [(5, .int (nI (i + 1))), (4, .int (nI (b - 64))), (0, .ref oh), (1, .int (nI b)), (2, .int (nI n)), (3, .int (nI c))]) dX3_take_87 0 rfl (nI_inc _) (by decide) rfl ?_
        refine v_goto (tgt := 41) dX3_take_90 (by decide) ?_
        refine v_cong (lv' := [(5, .int (nI (i + 1))), (4, .int (nI (b - 64))), (0, .ref oh), (1, .int (nI b)), (2, .int (nI n)), (3, .int (nI c))]) (st' := []) (ws' := [(oh, .inr (2, [.ref as, .ref ao, .ref ab, .ref aq, .ref an])), (as, .inl (G.2.1 0, 32, .inl (fun j9 => nI ((filA st 103 (b - 64) (i + 1)) j9)))), (ao, .inl (G.2.1 1, 32, .inl (fun j9 => nI ((filA ow c (b - 64) (i + 1)) j9)))), (ab, .inl (G.2.1 1, 32, .inl (fun j9 => nI (bk j9)))), (aq, .inl (G.2.1 1, 4, .inl (fun j9 => nI (qu j9)))), (an, .inl (G.2.1 1, 4, .inl ct))]) rfl rfl (by rw [filA_s _ _ hi1, filA_s _ _ hi1]) ?_
        exact ih41 (i + 1) (by omega) (by omega) (by omega)
  exact L41 (b - 64 + n - (b - 64) + 1) (b - 64) (by omega) (by omega) (Nat.lt_succ_self _)
theorem dX3_isBlock_0 : decode cX3_isBlock 0 = .ok (.iload_n 1, 1) := by decide +kernel
theorem dX3_isBlock_1 : decode cX3_isBlock 1 = .ok (.bipush 64, 2) := by decide +kernel
theorem dX3_isBlock_3 : decode cX3_isBlock 3 = .ok (.isub, 1) := by decide +kernel
theorem dX3_isBlock_4 : decode cX3_isBlock 4 = .ok (.istore_n 3, 1) := by decide +kernel
theorem dX3_isBlock_5 : decode cX3_isBlock 5 = .ok (.iload_n 3, 1) := by decide +kernel
theorem dX3_isBlock_6 : decode cX3_isBlock 6 = .ok (.ifCond .lt 46, 3) := by decide +kernel
theorem dX3_isBlock_9 : decode cX3_isBlock 9 = .ok (.iload_n 3, 1) := by decide +kernel
theorem dX3_isBlock_10 : decode cX3_isBlock 10 = .ok (.aload_n 0, 1) := by decide +kernel
theorem dX3_isBlock_11 : decode cX3_isBlock 11 = .ok (.getfield 9, 3) := by decide +kernel
theorem dX3_isBlock_14 : decode cX3_isBlock 14 = .ok (.arraylength, 1) := by decide +kernel
theorem dX3_isBlock_15 : decode cX3_isBlock 15 = .ok (.if_icmp .ge 37, 3) := by decide +kernel
theorem dX3_isBlock_18 : decode cX3_isBlock 18 = .ok (.iload_n 3, 1) := by decide +kernel
theorem dX3_isBlock_19 : decode cX3_isBlock 19 = .ok (.aload_n 0, 1) := by decide +kernel
theorem dX3_isBlock_20 : decode cX3_isBlock 20 = .ok (.getfield 19, 3) := by decide +kernel
theorem dX3_isBlock_23 : decode cX3_isBlock 23 = .ok (.arraylength, 1) := by decide +kernel
theorem dX3_isBlock_24 : decode cX3_isBlock 24 = .ok (.if_icmp .ge 28, 3) := by decide +kernel
theorem dX3_isBlock_27 : decode cX3_isBlock 27 = .ok (.aload_n 0, 1) := by decide +kernel
theorem dX3_isBlock_28 : decode cX3_isBlock 28 = .ok (.getfield 9, 3) := by decide +kernel
theorem dX3_isBlock_31 : decode cX3_isBlock 31 = .ok (.iload_n 3, 1) := by decide +kernel
theorem dX3_isBlock_32 : decode cX3_isBlock 32 = .ok (.caload, 1) := by decide +kernel
theorem dX3_isBlock_33 : decode cX3_isBlock 33 = .ok (.bipush 103, 2) := by decide +kernel
theorem dX3_isBlock_35 : decode cX3_isBlock 35 = .ok (.if_icmp .ne 17, 3) := by decide +kernel
theorem dX3_isBlock_38 : decode cX3_isBlock 38 = .ok (.aload_n 0, 1) := by decide +kernel
theorem dX3_isBlock_39 : decode cX3_isBlock 39 = .ok (.getfield 19, 3) := by decide +kernel
theorem dX3_isBlock_42 : decode cX3_isBlock 42 = .ok (.iload_n 3, 1) := by decide +kernel
theorem dX3_isBlock_43 : decode cX3_isBlock 43 = .ok (.iaload, 1) := by decide +kernel
theorem dX3_isBlock_44 : decode cX3_isBlock 44 = .ok (.iload_n 2, 1) := by decide +kernel
theorem dX3_isBlock_45 : decode cX3_isBlock 45 = .ok (.if_icmp .ne 7, 3) := by decide +kernel
theorem dX3_isBlock_48 : decode cX3_isBlock 48 = .ok (.iconst 1, 1) := by decide +kernel
theorem dX3_isBlock_49 : decode cX3_isBlock 49 = .ok (.goto 4, 3) := by decide +kernel
theorem dX3_isBlock_52 : decode cX3_isBlock 52 = .ok (.iconst 0, 1) := by decide +kernel
theorem dX3_isBlock_53 : decode cX3_isBlock 53 = .ok (.ireturn, 1) := by decide +kernel
theorem hd_X3_isBlock : yX3_isBlock.cls ≠ "java/lang/invoke/MethodHandle" ∧ yX3_isBlock.cls ≠ "java/lang/invoke/VarHandle" ∧ (parseMethodDescriptor yX3_isBlock.desc).map (fun d => d.parameters.length) = some 2 := by decide +kernel
abbrev rm_X3_isBlock : Room := { frames := 0, cells := 0, slots := 0, locals := 0 }
set_option maxHeartbeats 4000000 in
set_option maxRecDepth 100000 in
theorem c_X3_isBlock (l : Launch) (G : Gx) (oh : Nat) (as : Nat) (ao : Nat) (ab : Nat) (aq : Nat) (an : Nat) (st : Nat → Nat) (ow : Nat → Nat) (bk : Nat → Nat) (qu : Nat → Nat) (ct : Nat → Int32) (b : Nat) (t : Nat) (hst : ∀ j, st j < 65536) (hbk : ∀ j, bk j < 65536) (hb : b < 128) (ht : t < 128) : Mt l G yX3_isBlock cX3_isBlock 4 (some .boolean) rm_X3_isBlock [.ref oh, .int (nI b), .int (nI t)] [(oh, .inr (2, [.ref as, .ref ao, .ref ab, .ref aq, .ref an])), (as, .inl (G.2.1 0, 32, .inl (fun j9 => nI (st j9)))), (ao, .inl (G.2.1 1, 32, .inl (fun j9 => nI (ow j9)))), (ab, .inl (G.2.1 1, 32, .inl (fun j9 => nI (bk j9)))), (aq, .inl (G.2.1 1, 4, .inl (fun j9 => nI (qu j9)))), (an, .inl (G.2.1 1, 4, .inl ct))] (D1 (some (.int (bI (decide (64 ≤ b ∧ b < 96 ∧ st (b - 64) = 103 ∧ bk (b - 64) = t))))) [(oh, .inr (2, [.ref as, .ref ao, .ref ab, .ref aq, .ref an])), (as, .inl (G.2.1 0, 32, .inl (fun j9 => nI (st j9)))), (ao, .inl (G.2.1 1, 32, .inl (fun j9 => nI (ow j9)))), (ab, .inl (G.2.1 1, 32, .inl (fun j9 => nI (bk j9)))), (aq, .inl (G.2.1 1, 4, .inl (fun j9 => nI (qu j9)))), (an, .inl (G.2.1 1, 4, .inl ct))]) := by
  refine Mt.of (by decide) (Nat.le_of_ble_eq_true rfl) ?_
  intro K hl9 hn9 hR
  show V K G cX3_isBlock RX3 4 rm_X3_isBlock 0 0 0 [(0, .ref oh), (1, .int (nI b)), (2, .int (nI t))] [] [(oh, .inr (2, [.ref as, .ref ao, .ref ab, .ref aq, .ref an])), (as, .inl (G.2.1 0, 32, .inl (fun j9 => nI (st j9)))), (ao, .inl (G.2.1 1, 32, .inl (fun j9 => nI (ow j9)))), (ab, .inl (G.2.1 1, 32, .inl (fun j9 => nI (bk j9)))), (aq, .inl (G.2.1 1, 4, .inl (fun j9 => nI (qu j9)))), (an, .inl (G.2.1 1, 4, .inl ct))]
  rcases Nat.lt_or_ge b 64 with h64 | h64
  ·
    refine v_iload_n dX3_isBlock_0 rfl 1 rfl ?_
    refine v_bipush (v := nI 64) dX3_isBlock_1 (by decide) ?_
    refine v_isub dX3_isBlock_3 ?_
    refine v_istore_n (lv' := [(3, .int ((nI b) - (nI 64))), (0, .ref oh), (1, .int (nI b)), (2, .int (nI t))]) dX3_isBlock_4 rfl (by decide) rfl ?_
    refine v_iload_n dX3_isBlock_5 rfl 0 rfl ?_
    refine v_if_lt (tgt := 52) dX3_isBlock_6 (by decide) (fun c6 => ?_) (fun c6 => absurd c6 (by exact fun h => h (pk_sneg (by omega) h64)))
    refine v_iconst (v := nI 0) dX3_isBlock_52 (by decide) ?_
    refine v_eqi (y := bI false) (by decide) ?_
    exact v_zret hR dX3_isBlock_53 (bI_nar _) (by refine ⟨?_, rfl⟩; first | rw [decide_eq_true ⟨by omega, by omega, by assumption, by assumption⟩] | rw [decide_eq_false (by omega)] | rw [decide_eq_false (fun h => absurd h.2.2.1 (by assumption))] | rw [decide_eq_false (fun h => absurd h.2.2.2 (by assumption))])
  ·
    refine v_iload_n dX3_isBlock_0 rfl 1 rfl ?_
    refine v_bipush (v := nI 64) dX3_isBlock_1 (by decide) ?_
    refine n_isub (a := b) (b := 64) (z := b - 64) dX3_isBlock_3 (by omega) ?_
    refine v_istore_n (lv' := [(3, .int (nI (b - 64))), (0, .ref oh), (1, .int (nI b)), (2, .int (nI t))]) dX3_isBlock_4 rfl (by decide) rfl ?_
    refine v_iload_n dX3_isBlock_5 rfl 0 rfl ?_
    refine n_if_lt (a := b - 64) (tgt := 52) dX3_isBlock_6 (by decide) (by omega) ?_
    refine v_iload_n dX3_isBlock_9 rfl 0 rfl ?_
    refine v_aload_n dX3_isBlock_10 rfl 1 rfl ?_
    refine v_get (ref := "Sealhouse$Heap") (C := RX3) (T := TX3) (N := 5) 0 0 dX3_isBlock_11 rfl rfl gin_X3 (by decide) kw_105 rfl rfl ?_
    refine v_alen (v := nI 32) 1 0 dX3_isBlock_14 rfl rfl rfl ?_
    refine n_icmp_ge (a := b - 64) (b := 32) (tgt := 52) dX3_isBlock_15 (by decide) (by omega) (by omega) (fun c15 => ?_) (fun c15 => ?_)
    ·
      refine v_iconst (v := nI 0) dX3_isBlock_52 (by decide) ?_
      refine v_eqi (y := bI false) (by decide) ?_
      exact v_zret hR dX3_isBlock_53 (bI_nar _) (by refine ⟨?_, rfl⟩; first | rw [decide_eq_true ⟨by omega, by omega, by assumption, by assumption⟩] | rw [decide_eq_false (by omega)] | rw [decide_eq_false (fun h => absurd h.2.2.1 (by assumption))] | rw [decide_eq_false (fun h => absurd h.2.2.2 (by assumption))])
    ·
      refine v_iload_n dX3_isBlock_18 rfl 0 rfl ?_
      refine v_aload_n dX3_isBlock_19 rfl 1 rfl ?_
      refine v_get (ref := "Sealhouse$Heap") (C := RX3) (T := TX3) (N := 5) 0 2 dX3_isBlock_20 rfl rfl gin_X3 (by decide) kw_107 rfl rfl ?_
      refine v_alen (v := nI 32) 3 1 dX3_isBlock_23 rfl rfl rfl ?_
      refine n_icmp_ge (a := b - 64) (b := 32) (tgt := 52) dX3_isBlock_24 (by decide) (by omega) (by omega) (fun c24 => absurd c24 (by omega)) (fun c24 => ?_)
      refine v_aload_n dX3_isBlock_27 rfl 1 rfl ?_
      refine v_get (ref := "Sealhouse$Heap") (C := RX3) (T := TX3) (N := 5) 0 0 dX3_isBlock_28 rfl rfl gin_X3 (by decide) kw_105 rfl rfl ?_
      refine v_iload_n dX3_isBlock_31 rfl 0 rfl ?_
      refine n_cald (i := b - 64) (x := nI (st (b - 64))) 1 dX3_isBlock_32 rfl (by omega) (by decide) rfl ?_
      refine v_bipush (v := nI 103) dX3_isBlock_33 (by decide) ?_
      refine n_icmp_ne (a := st (b - 64)) (b := 103) (tgt := 52) dX3_isBlock_35 (by decide) (by first | decide | exact Nat.lt_trans (hst _) (by decide)) (by first | decide | exact Nat.lt_trans (hst _) (by decide)) (fun c35 => ?_) (fun c35 => ?_)
      ·
        refine v_iconst (v := nI 0) dX3_isBlock_52 (by decide) ?_
        refine v_eqi (y := bI false) (by decide) ?_
        exact v_zret hR dX3_isBlock_53 (bI_nar _) (by refine ⟨?_, rfl⟩; first | rw [decide_eq_true ⟨by omega, by omega, by assumption, by assumption⟩] | rw [decide_eq_false (by omega)] | rw [decide_eq_false (fun h => absurd h.2.2.1 (by assumption))] | rw [decide_eq_false (fun h => absurd h.2.2.2 (by assumption))])
      ·
        refine v_aload_n dX3_isBlock_38 rfl 1 rfl ?_
        refine v_get (ref := "Sealhouse$Heap") (C := RX3) (T := TX3) (N := 5) 0 2 dX3_isBlock_39 rfl rfl gin_X3 (by decide) kw_107 rfl rfl ?_
        refine v_iload_n dX3_isBlock_42 rfl 0 rfl ?_
        refine n_iald (i := b - 64) (x := nI (bk (b - 64))) 3 dX3_isBlock_43 rfl (by omega) (by decide) rfl ?_
        refine v_iload_n dX3_isBlock_44 rfl 3 rfl ?_
        refine n_icmp_ne (a := bk (b - 64)) (b := t) (tgt := 52) dX3_isBlock_45 (by decide) (by first | omega | exact Nat.lt_trans (hbk _) (by decide)) (by first | omega | exact Nat.lt_trans (hbk _) (by decide)) (fun c45 => ?_) (fun c45 => ?_)
        ·
          refine v_iconst (v := nI 0) dX3_isBlock_52 (by decide) ?_
          refine v_eqi (y := bI false) (by decide) ?_
          exact v_zret hR dX3_isBlock_53 (bI_nar _) (by refine ⟨?_, rfl⟩; first | rw [decide_eq_true ⟨by omega, by omega, by assumption, by assumption⟩] | rw [decide_eq_false (by omega)] | rw [decide_eq_false (fun h => absurd h.2.2.1 (by assumption))] | rw [decide_eq_false (fun h => absurd h.2.2.2 (by assumption))])
        ·
          refine v_iconst (v := nI 1) dX3_isBlock_48 (by decide) ?_
          refine v_goto (tgt := 53) dX3_isBlock_49 (by decide) ?_
          refine v_eqi (y := bI true) (by decide) ?_
          exact v_zret hR dX3_isBlock_53 (bI_nar _) (by refine ⟨?_, rfl⟩; first | rw [decide_eq_true ⟨by omega, by omega, by assumption, by assumption⟩] | rw [decide_eq_false (by omega)] | rw [decide_eq_false (fun h => absurd h.2.2.1 (by assumption))] | rw [decide_eq_false (fun h => absurd h.2.2.2 (by assumption))])
theorem dX3_layToRest_0 : decode cX3_layToRest 0 = .ok (.iload_n 1, 1) := by decide +kernel
theorem dX3_layToRest_1 : decode cX3_layToRest 1 = .ok (.bipush 64, 2) := by decide +kernel
theorem dX3_layToRest_3 : decode cX3_layToRest 3 = .ok (.isub, 1) := by decide +kernel
theorem dX3_layToRest_4 : decode cX3_layToRest 4 = .ok (.istore_n 3, 1) := by decide +kernel
theorem dX3_layToRest_5 : decode cX3_layToRest 5 = .ok (.iload_n 3, 1) := by decide +kernel
theorem dX3_layToRest_6 : decode cX3_layToRest 6 = .ok (.iload_n 2, 1) := by decide +kernel
theorem dX3_layToRest_7 : decode cX3_layToRest 7 = .ok (.bipush 64, 2) := by decide +kernel
theorem dX3_layToRest_9 : decode cX3_layToRest 9 = .ok (.isub, 1) := by decide +kernel
theorem dX3_layToRest_10 : decode cX3_layToRest 10 = .ok (.if_icmp .ge 46, 3) := by decide +kernel
theorem dX3_layToRest_13 : decode cX3_layToRest 13 = .ok (.iload_n 3, 1) := by decide +kernel
theorem dX3_layToRest_14 : decode cX3_layToRest 14 = .ok (.ifCond .lt 36, 3) := by decide +kernel
theorem dX3_layToRest_17 : decode cX3_layToRest 17 = .ok (.iload_n 3, 1) := by decide +kernel
theorem dX3_layToRest_18 : decode cX3_layToRest 18 = .ok (.aload_n 0, 1) := by decide +kernel
theorem dX3_layToRest_19 : decode cX3_layToRest 19 = .ok (.getfield 9, 3) := by decide +kernel
theorem dX3_layToRest_22 : decode cX3_layToRest 22 = .ok (.arraylength, 1) := by decide +kernel
theorem dX3_layToRest_23 : decode cX3_layToRest 23 = .ok (.if_icmp .ge 27, 3) := by decide +kernel
theorem dX3_layToRest_26 : decode cX3_layToRest 26 = .ok (.iload_n 3, 1) := by decide +kernel
theorem dX3_layToRest_27 : decode cX3_layToRest 27 = .ok (.aload_n 0, 1) := by decide +kernel
theorem dX3_layToRest_28 : decode cX3_layToRest 28 = .ok (.getfield 19, 3) := by decide +kernel
theorem dX3_layToRest_31 : decode cX3_layToRest 31 = .ok (.arraylength, 1) := by decide +kernel
theorem dX3_layToRest_32 : decode cX3_layToRest 32 = .ok (.if_icmp .ge 18, 3) := by decide +kernel
theorem dX3_layToRest_35 : decode cX3_layToRest 35 = .ok (.aload_n 0, 1) := by decide +kernel
theorem dX3_layToRest_36 : decode cX3_layToRest 36 = .ok (.getfield 9, 3) := by decide +kernel
theorem dX3_layToRest_39 : decode cX3_layToRest 39 = .ok (.iload_n 3, 1) := by decide +kernel
theorem dX3_layToRest_40 : decode cX3_layToRest 40 = .ok (.bipush 114, 2) := by decide +kernel
theorem dX3_layToRest_42 : decode cX3_layToRest 42 = .ok (.castore, 1) := by decide +kernel
theorem dX3_layToRest_43 : decode cX3_layToRest 43 = .ok (.aload_n 0, 1) := by decide +kernel
theorem dX3_layToRest_44 : decode cX3_layToRest 44 = .ok (.getfield 19, 3) := by decide +kernel
theorem dX3_layToRest_47 : decode cX3_layToRest 47 = .ok (.iload_n 3, 1) := by decide +kernel
theorem dX3_layToRest_48 : decode cX3_layToRest 48 = .ok (.iconst 0, 1) := by decide +kernel
theorem dX3_layToRest_49 : decode cX3_layToRest 49 = .ok (.iastore, 1) := by decide +kernel
theorem dX3_layToRest_50 : decode cX3_layToRest 50 = .ok (.iinc 3 1, 3) := by decide +kernel
theorem dX3_layToRest_53 : decode cX3_layToRest 53 = .ok (.goto (-48), 3) := by decide +kernel
theorem dX3_layToRest_56 : decode cX3_layToRest 56 = .ok (.return_, 1) := by decide +kernel
theorem hd_X3_layToRest : yX3_layToRest.cls ≠ "java/lang/invoke/MethodHandle" ∧ yX3_layToRest.cls ≠ "java/lang/invoke/VarHandle" ∧ (parseMethodDescriptor yX3_layToRest.desc).map (fun d => d.parameters.length) = some 2 := by decide +kernel
abbrev rm_X3_layToRest : Room := { frames := 0, cells := 0, slots := 0, locals := 0 }
set_option maxHeartbeats 4000000 in
set_option maxRecDepth 100000 in
theorem c_X3_layToRest (l : Launch) (G : Gx) (oh : Nat) (as : Nat) (ao : Nat) (ab : Nat) (aq : Nat) (an : Nat) (st : Nat → Nat) (ow : Nat → Nat) (bk : Nat → Nat) (qu : Nat → Nat) (ct : Nat → Int32) (b : Nat) (t : Nat) (hb : 64 ≤ b) (hbt : b ≤ t) (ht : t ≤ 96) : Mt l G yX3_layToRest cX3_layToRest 4 none rm_X3_layToRest [.ref oh, .int (nI b), .int (nI t)] [(oh, .inr (2, [.ref as, .ref ao, .ref ab, .ref aq, .ref an])), (as, .inl (G.2.1 0, 32, .inl (fun j9 => nI (st j9)))), (ao, .inl (G.2.1 1, 32, .inl (fun j9 => nI (ow j9)))), (ab, .inl (G.2.1 1, 32, .inl (fun j9 => nI (bk j9)))), (aq, .inl (G.2.1 1, 4, .inl (fun j9 => nI (qu j9)))), (an, .inl (G.2.1 1, 4, .inl ct))] (D1 none [(oh, .inr (2, [.ref as, .ref ao, .ref ab, .ref aq, .ref an])), (as, .inl (G.2.1 0, 32, .inl (fun j9 => nI ((filA st 114 (b - 64) (t - 64)) j9)))), (ao, .inl (G.2.1 1, 32, .inl (fun j9 => nI (ow j9)))), (ab, .inl (G.2.1 1, 32, .inl (fun j9 => nI ((filA bk 0 (b - 64) (t - 64)) j9)))), (aq, .inl (G.2.1 1, 4, .inl (fun j9 => nI (qu j9)))), (an, .inl (G.2.1 1, 4, .inl ct))]) := by
  refine Mt.of (by decide) (Nat.le_of_ble_eq_true rfl) ?_
  intro K hl9 hn9 hR
  show V K G cX3_layToRest RX3 4 rm_X3_layToRest 0 0 0 [(0, .ref oh), (1, .int (nI b)), (2, .int (nI t))] [] [(oh, .inr (2, [.ref as, .ref ao, .ref ab, .ref aq, .ref an])), (as, .inl (G.2.1 0, 32, .inl (fun j9 => nI (st j9)))), (ao, .inl (G.2.1 1, 32, .inl (fun j9 => nI (ow j9)))), (ab, .inl (G.2.1 1, 32, .inl (fun j9 => nI (bk j9)))), (aq, .inl (G.2.1 1, 4, .inl (fun j9 => nI (qu j9)))), (an, .inl (G.2.1 1, 4, .inl ct))]
  refine v_iload_n dX3_layToRest_0 rfl 1 rfl ?_
  refine v_bipush (v := nI 64) dX3_layToRest_1 (by decide) ?_
  refine n_isub (a := b) (b := 64) (z := b - 64) dX3_layToRest_3 (by omega) ?_
  refine v_istore_n (lv' := [(3, .int (nI (b - 64))), (0, .ref oh), (1, .int (nI b)), (2, .int (nI t))]) dX3_layToRest_4 rfl (by decide) rfl ?_
  refine v_cong (lv' := [(3, .int (nI (b - 64))), (0, .ref oh), (1, .int (nI b)), (2, .int (nI t))]) (st' := []) (ws' := [(oh, .inr (2, [.ref as, .ref ao, .ref ab, .ref aq, .ref an])), (as, .inl (G.2.1 0, 32, .inl (fun j9 => nI ((filA st 114 (b - 64) (b - 64)) j9)))), (ao, .inl (G.2.1 1, 32, .inl (fun j9 => nI (ow j9)))), (ab, .inl (G.2.1 1, 32, .inl (fun j9 => nI ((filA bk 0 (b - 64) (b - 64)) j9)))), (aq, .inl (G.2.1 1, 4, .inl (fun j9 => nI (qu j9)))), (an, .inl (G.2.1 1, 4, .inl ct))]) rfl rfl (by rw [filA_0, filA_0]) ?_
  have L5 : ∀ (f9 : Nat) (i : Nat) (hi1 : b - 64 ≤ i) (hi2 : i ≤ t - 64), t - 64 - i < f9 → V K G cX3_layToRest RX3 4 rm_X3_layToRest 0 0 5 [(3, .int (nI i)), (0, .ref oh), (1, .int (nI b)), (2, .int (nI t))] [] [(oh, .inr (2, [.ref as, .ref ao, .ref ab, .ref aq, .ref an])), (as, .inl (G.2.1 0, 32, .inl (fun j9 => nI ((filA st 114 (b - 64) i) j9)))), (ao, .inl (G.2.1 1, 32, .inl (fun j9 => nI (ow j9)))), (ab, .inl (G.2.1 1, 32, .inl (fun j9 => nI ((filA bk 0 (b - 64) i) j9)))), (aq, .inl (G.2.1 1, 4, .inl (fun j9 => nI (qu j9)))), (an, .inl (G.2.1 1, 4, .inl ct))] := by
    intro f9
    induction f9 with
    | zero => intro i hi1 hi2 hm; exact absurd hm (Nat.not_lt_zero _)
    | succ f9 ih5 =>
      intro i hi1 hi2 hm5
      refine v_iload_n dX3_layToRest_5 rfl 0 rfl ?_
      refine v_iload_n dX3_layToRest_6 rfl 3 rfl ?_
      refine v_bipush (v := nI 64) dX3_layToRest_7 (by decide) ?_
      refine n_isub (a := t) (b := 64) (z := t - 64) dX3_layToRest_9 (by omega) ?_
      refine n_icmp_ge (a := i) (b := t - 64) (tgt := 56) dX3_layToRest_10 (by decide) (by omega) (by omega) (fun c10 => ?_) (fun c10 => ?_)
      ·
        exact v_vret hR dX3_layToRest_56 (by refine ⟨rfl, ?_⟩; rw [show i = t - 64 by omega])
      ·
        refine v_iload_n dX3_layToRest_13 rfl 0 rfl ?_
        refine n_if_lt (a := i) (tgt := 50) dX3_layToRest_14 (by decide) (by omega) ?_
        refine v_iload_n dX3_layToRest_17 rfl 0 rfl ?_
        refine v_aload_n dX3_layToRest_18 rfl 1 rfl ?_
        refine v_get (ref := "Sealhouse$Heap") (C := RX3) (T := TX3) (N := 5) 0 0 dX3_layToRest_19 rfl rfl gin_X3 (by decide) kw_105 rfl rfl ?_
        refine v_alen (v := nI 32) 1 0 dX3_layToRest_22 rfl rfl rfl ?_
        refine n_icmp_ge (a := i) (b := 32) (tgt := 50) dX3_layToRest_23 (by decide) (by omega) (by omega) (fun c23 => absurd c23 (by omega)) (fun c23 => ?_)
        refine v_iload_n dX3_layToRest_26 rfl 0 rfl ?_
        refine v_aload_n dX3_layToRest_27 rfl 1 rfl ?_
        refine v_get (ref := "Sealhouse$Heap") (C := RX3) (T := TX3) (N := 5) 0 2 dX3_layToRest_28 rfl rfl gin_X3 (by decide) kw_107 rfl rfl ?_
        refine v_alen (v := nI 32) 3 1 dX3_layToRest_31 rfl rfl rfl ?_
        refine n_icmp_ge (a := i) (b := 32) (tgt := 50) dX3_layToRest_32 (by decide) (by omega) (by omega) (fun c32 => absurd c32 (by omega)) (fun c32 => ?_)
        refine v_aload_n dX3_layToRest_35 rfl 1 rfl ?_
        refine v_get (ref := "Sealhouse$Heap") (C := RX3) (T := TX3) (N := 5) 0 0 dX3_layToRest_36 rfl rfl gin_X3 (by decide) kw_105 rfl rfl ?_
        refine v_iload_n dX3_layToRest_39 rfl 0 rfl ?_
        refine v_bipush (v := nI 114) dX3_layToRest_40 (by decide) ?_
        refine n_cast (i := i) (g := (fun j9 => nI ((va_up (filA st 114 (b - 64) i) i 114) j9))) (ws' := [(oh, .inr (2, [.ref as, .ref ao, .ref ab, .ref aq, .ref an])), (as, .inl (G.2.1 0, 32, .inl (fun j9 => nI ((va_up (filA st 114 (b - 64) i) i 114) j9)))), (ao, .inl (G.2.1 1, 32, .inl (fun j9 => nI (ow j9)))), (ab, .inl (G.2.1 1, 32, .inl (fun j9 => nI ((filA bk 0 (b - 64) i) j9)))), (aq, .inl (G.2.1 1, 4, .inl (fun j9 => nI (qu j9)))), (an, .inl (G.2.1 1, 4, .inl ct))]) 1 dX3_layToRest_42 rfl (by omega) (by decide) (upd_c _ _ _ (by omega)) rfl ?_
        refine v_aload_n dX3_layToRest_43 rfl 1 rfl ?_
        refine v_get (ref := "Sealhouse$Heap") (C := RX3) (T := TX3) (N := 5) 0 2 dX3_layToRest_44 rfl rfl gin_X3 (by decide) kw_107 rfl rfl ?_
        refine v_iload_n dX3_layToRest_47 rfl 0 rfl ?_
        refine v_iconst (v := nI 0) dX3_layToRest_48 (by decide) ?_
        refine n_iast (i := i) (g := (fun j9 => nI ((va_up (filA bk 0 (b - 64) i) i 0) j9))) (ws' := [(oh, .inr (2, [.ref as, .ref ao, .ref ab, .ref aq, .ref an])), (as, .inl (G.2.1 0, 32, .inl (fun j9 => nI ((va_up (filA st 114 (b - 64) i) i 114) j9)))), (ao, .inl (G.2.1 1, 32, .inl (fun j9 => nI (ow j9)))), (ab, .inl (G.2.1 1, 32, .inl (fun j9 => nI ((va_up (filA bk 0 (b - 64) i) i 0) j9)))), (aq, .inl (G.2.1 1, 4, .inl (fun j9 => nI (qu j9)))), (an, .inl (G.2.1 1, 4, .inl ct))]) 3 dX3_layToRest_49 rfl (by omega) (by decide) (upd_n _ _ _) rfl ?_
        refine n_iinc (a := i) (y := i + 1) (lv' := [(3, .int (nI (i + 1))), (0, .ref oh), (1, .int (nI b)), (2, .int (nI t))]) dX3_layToRest_50 0 rfl (nI_inc _) (by decide) rfl ?_
        refine v_goto (tgt := 5) dX3_layToRest_53 (by decide) ?_
        refine v_cong (lv' := [(3, .int (nI (i + 1))), (0, .ref oh), (1, .int (nI b)), (2, .int (nI t))]) (st' := []) (ws' := [(oh, .inr (2, [.ref as, .ref ao, .ref ab, .ref aq, .ref an])), (as, .inl (G.2.1 0, 32, .inl (fun j9 => nI ((filA st 114 (b - 64) (i + 1)) j9)))), (ao, .inl (G.2.1 1, 32, .inl (fun j9 => nI (ow j9)))), (ab, .inl (G.2.1 1, 32, .inl (fun j9 => nI ((filA bk 0 (b - 64) (i + 1)) j9)))), (aq, .inl (G.2.1 1, 4, .inl (fun j9 => nI (qu j9)))), (an, .inl (G.2.1 1, 4, .inl ct))]) rfl rfl (by rw [filA_s _ _ hi1, filA_s _ _ hi1]) ?_
        exact ih5 (i + 1) (by omega) (by omega) (by omega)
  exact L5 (t - 64 - (b - 64) + 1) (b - 64) (by omega) (by omega) (Nat.lt_succ_self _)
theorem dX3_addResting_0 : decode cX3_addResting 0 = .ok (.bipush 64, 2) := by decide +kernel
theorem dX3_addResting_2 : decode cX3_addResting 2 = .ok (.istore_n 2, 1) := by decide +kernel
theorem dX3_addResting_3 : decode cX3_addResting 3 = .ok (.iload_n 2, 1) := by decide +kernel
theorem dX3_addResting_4 : decode cX3_addResting 4 = .ok (.bipush 96, 2) := by decide +kernel
theorem dX3_addResting_6 : decode cX3_addResting 6 = .ok (.if_icmp .ge 23, 3) := by decide +kernel
theorem dX3_addResting_9 : decode cX3_addResting 9 = .ok (.aload_n 0, 1) := by decide +kernel
theorem dX3_addResting_10 : decode cX3_addResting 10 = .ok (.iload_n 2, 1) := by decide +kernel
theorem dX3_addResting_11 : decode cX3_addResting 11 = .ok (.invokevirtual 49, 3) := by decide +kernel
theorem dX3_addResting_14 : decode cX3_addResting 14 = .ok (.ifCond .eq 9, 3) := by decide +kernel
theorem dX3_addResting_17 : decode cX3_addResting 17 = .ok (.aload_n 1, 1) := by decide +kernel
theorem dX3_addResting_18 : decode cX3_addResting 18 = .ok (.iconst 0, 1) := by decide +kernel
theorem dX3_addResting_19 : decode cX3_addResting 19 = .ok (.iload_n 2, 1) := by decide +kernel
theorem dX3_addResting_20 : decode cX3_addResting 20 = .ok (.invokevirtual 53, 3) := by decide +kernel
theorem dX3_addResting_23 : decode cX3_addResting 23 = .ok (.iinc 2 1, 3) := by decide +kernel
theorem dX3_addResting_26 : decode cX3_addResting 26 = .ok (.goto (-23), 3) := by decide +kernel
theorem dX3_addResting_29 : decode cX3_addResting 29 = .ok (.return_, 1) := by decide +kernel
theorem hd_X3_addResting : yX3_addResting.cls ≠ "java/lang/invoke/MethodHandle" ∧ yX3_addResting.cls ≠ "java/lang/invoke/VarHandle" ∧ (parseMethodDescriptor yX3_addResting.desc).map (fun d => d.parameters.length) = some 1 := by decide +kernel
abbrev rm_X3_addResting : Room := { frames := 2, cells := 0, slots := 0, locals := 43 }
set_option maxHeartbeats 4000000 in
set_option maxRecDepth 100000 in
theorem c_X3_addResting (l : Launch) (G : Gx) (oh : Nat) (as : Nat) (ao : Nat) (ab : Nat) (aq : Nat) (an : Nat) (st : Nat → Nat) (ow : Nat → Nat) (bk : Nat → Nat) (qu : Nat → Nat) (ct : Nat → Int32) (q : Nat) (b : Nat) (y : Nat) (h : Nat → Int64) (hst : ∀ j, st j < 65536) (hy1 : 1 < y) (hy2 : y ≤ 2000) : Mt l G yX3_addResting cX3_addResting 3 none rm_X3_addResting [.ref oh, .ref q] [(oh, .inr (2, [.ref as, .ref ao, .ref ab, .ref aq, .ref an])), (as, .inl (G.2.1 0, 32, .inl (fun j9 => nI (st j9)))), (ao, .inl (G.2.1 1, 32, .inl (fun j9 => nI (ow j9)))), (ab, .inl (G.2.1 1, 32, .inl (fun j9 => nI (bk j9)))), (aq, .inl (G.2.1 1, 4, .inl (fun j9 => nI (qu j9)))), (an, .inl (G.2.1 1, 4, .inl ct)), (q, .inr (1, [.ref b])), (b, .inl (G.2.1 2, y, .inr (.inl h)))] (D1 none [(oh, .inr (2, [.ref as, .ref ao, .ref ab, .ref aq, .ref an])), (as, .inl (G.2.1 0, 32, .inl (fun j9 => nI (st j9)))), (ao, .inl (G.2.1 1, 32, .inl (fun j9 => nI (ow j9)))), (ab, .inl (G.2.1 1, 32, .inl (fun j9 => nI (bk j9)))), (aq, .inl (G.2.1 1, 4, .inl (fun j9 => nI (qu j9)))), (an, .inl (G.2.1 1, 4, .inl ct)), (q, .inr (1, [.ref b])), (b, .inl (G.2.1 2, y, .inr (.inl (rsH st h 32))))]) := by
  refine Mt.of (by decide) (Nat.le_of_ble_eq_true rfl) ?_
  intro K hl9 hn9 hR
  show V K G cX3_addResting RX3 3 rm_X3_addResting 0 0 0 [(0, .ref oh), (1, .ref q)] [] [(oh, .inr (2, [.ref as, .ref ao, .ref ab, .ref aq, .ref an])), (as, .inl (G.2.1 0, 32, .inl (fun j9 => nI (st j9)))), (ao, .inl (G.2.1 1, 32, .inl (fun j9 => nI (ow j9)))), (ab, .inl (G.2.1 1, 32, .inl (fun j9 => nI (bk j9)))), (aq, .inl (G.2.1 1, 4, .inl (fun j9 => nI (qu j9)))), (an, .inl (G.2.1 1, 4, .inl ct)), (q, .inr (1, [.ref b])), (b, .inl (G.2.1 2, y, .inr (.inl h)))]
  refine v_bipush (v := nI 64) dX3_addResting_0 (by decide) ?_
  refine v_istore_n (lv' := [(2, .int (nI 64)), (0, .ref oh), (1, .ref q)]) dX3_addResting_2 rfl (by decide) rfl ?_
  refine v_cong (lv' := [(2, .int (nI (64 + 0))), (0, .ref oh), (1, .ref q)]) (st' := []) (ws' := [(oh, .inr (2, [.ref as, .ref ao, .ref ab, .ref aq, .ref an])), (as, .inl (G.2.1 0, 32, .inl (fun j9 => nI (st j9)))), (ao, .inl (G.2.1 1, 32, .inl (fun j9 => nI (ow j9)))), (ab, .inl (G.2.1 1, 32, .inl (fun j9 => nI (bk j9)))), (aq, .inl (G.2.1 1, 4, .inl (fun j9 => nI (qu j9)))), (an, .inl (G.2.1 1, 4, .inl ct)), (q, .inr (1, [.ref b])), (b, .inl (G.2.1 2, y, .inr (.inl (rsH st h 0))))]) (by rfl) rfl (by rfl) ?_
  have L3 : ∀ (f9 : Nat) (i : Nat) (hi : i ≤ 32), 32 - i < f9 → V K G cX3_addResting RX3 3 rm_X3_addResting 0 0 3 [(2, .int (nI (64 + i))), (0, .ref oh), (1, .ref q)] [] [(oh, .inr (2, [.ref as, .ref ao, .ref ab, .ref aq, .ref an])), (as, .inl (G.2.1 0, 32, .inl (fun j9 => nI (st j9)))), (ao, .inl (G.2.1 1, 32, .inl (fun j9 => nI (ow j9)))), (ab, .inl (G.2.1 1, 32, .inl (fun j9 => nI (bk j9)))), (aq, .inl (G.2.1 1, 4, .inl (fun j9 => nI (qu j9)))), (an, .inl (G.2.1 1, 4, .inl ct)), (q, .inr (1, [.ref b])), (b, .inl (G.2.1 2, y, .inr (.inl (rsH st h i))))] := by
    intro f9
    induction f9 with
    | zero => intro i hi hm; exact absurd hm (Nat.not_lt_zero _)
    | succ f9 ih3 =>
      intro i hi hm3
      refine v_iload_n dX3_addResting_3 rfl 0 rfl ?_
      refine v_bipush (v := nI 96) dX3_addResting_4 (by decide) ?_
      refine n_icmp_ge (a := 64 + i) (b := 96) (tgt := 29) dX3_addResting_6 (by decide) (by omega) (by omega) (fun c6 => ?_) (fun c6 => ?_)
      ·
        exact v_vret hR dX3_addResting_29 (by refine ⟨rfl, ?_⟩; rw [show i = 32 by omega])
      ·
        refine v_aload_n dX3_addResting_9 rfl 1 rfl ?_
        refine v_iload_n dX3_addResting_10 rfl 0 rfl ?_
        refine c_V1 (ci := 2) (T := TX3) (N := 5) (As := [.int (nI (64 + i))]) (rest := []) (wr := [(q, .inr (1, [.ref b])), (b, .inl (G.2.1 2, y, .inr (.inl (rsH st h i))))]) (k' := 0) (n' := 0) (st2 := [.int (bI (decide (stA st (64 + i) = 114)))]) (ws2 := [(oh, .inr (2, [.ref as, .ref ao, .ref ab, .ref aq, .ref an])), (as, .inl (G.2.1 0, 32, .inl (fun j9 => nI (st j9)))), (ao, .inl (G.2.1 1, 32, .inl (fun j9 => nI (ow j9)))), (ab, .inl (G.2.1 1, 32, .inl (fun j9 => nI (bk j9)))), (aq, .inl (G.2.1 1, 4, .inl (fun j9 => nI (qu j9)))), (an, .inl (G.2.1 1, 4, .inl ct)), (q, .inr (1, [.ref b])), (b, .inl (G.2.1 2, y, .inr (.inl (rsH st h i))))]) (c_X3_rests K.2.1 G oh as ao ab aq an st ow bk qu ct (64 + i) (by exact hst) (by omega)) [0, 1, 2, 3, 4, 5] [6, 7] dX3_addResting_11 kw_266 kw_267 kw_41 kw_269 kw_268 hd_X3_rests ⟨Nat.le_of_ble_eq_true rfl, Nat.le_of_ble_eq_true rfl⟩ ⟨(by decide), (by decide)⟩ ⟨rfl, rfl⟩ (Nat.le_of_ble_eq_true rfl) rfl rfl rfl rfl rfl rfl (by decide) 0 rfl rfl [2, 3, 4, 5, 6, 7, 0, 1] rfl rfl rfl rfl ?_
        refine b_if_eq (tgt := 23) dX3_addResting_14 (by decide) (fun c14 => ?_) (fun c14 => ?_)
        ·
          refine n_iinc (a := 64 + i) (y := 64 + i + 1) (lv' := [(2, .int (nI (64 + i + 1))), (0, .ref oh), (1, .ref q)]) dX3_addResting_23 0 rfl (nI_inc _) (by decide) rfl ?_
          refine v_goto (tgt := 3) dX3_addResting_26 (by decide) ?_
          refine v_cong (lv' := [(2, .int (nI (64 + (i + 1)))), (0, .ref oh), (1, .ref q)]) (st' := []) (ws' := [(oh, .inr (2, [.ref as, .ref ao, .ref ab, .ref aq, .ref an])), (as, .inl (G.2.1 0, 32, .inl (fun j9 => nI (st j9)))), (ao, .inl (G.2.1 1, 32, .inl (fun j9 => nI (ow j9)))), (ab, .inl (G.2.1 1, 32, .inl (fun j9 => nI (bk j9)))), (aq, .inl (G.2.1 1, 4, .inl (fun j9 => nI (qu j9)))), (an, .inl (G.2.1 1, 4, .inl ct)), (q, .inr (1, [.ref b])), (b, .inl (G.2.1 2, y, .inr (.inl (rsH st h (i + 1)))))]) (by rfl) rfl (by rw [rsH]; first | rw [if_pos (of_decide_eq_true c14)] | rw [if_neg (of_decide_eq_false c14)]) ?_
          exact ih3 (i + 1) (by omega) (by omega)
        ·
          refine v_aload_n dX3_addResting_17 rfl 2 rfl ?_
          refine v_iconst (v := nI 0) dX3_addResting_18 (by decide) ?_
          refine v_iload_n dX3_addResting_19 rfl 0 rfl ?_
          refine c_V1 (ci := 1) (T := TX2) (N := 1) (As := [.int (nI 0), .int (nI (64 + i))]) (rest := []) (wr := [(oh, .inr (2, [.ref as, .ref ao, .ref ab, .ref aq, .ref an])), (as, .inl (G.2.1 0, 32, .inl (fun j9 => nI (st j9)))), (ao, .inl (G.2.1 1, 32, .inl (fun j9 => nI (ow j9)))), (ab, .inl (G.2.1 1, 32, .inl (fun j9 => nI (bk j9)))), (aq, .inl (G.2.1 1, 4, .inl (fun j9 => nI (qu j9)))), (an, .inl (G.2.1 1, 4, .inl ct))]) (k' := 0) (n' := 0) (st2 := []) (ws2 := [(oh, .inr (2, [.ref as, .ref ao, .ref ab, .ref aq, .ref an])), (as, .inl (G.2.1 0, 32, .inl (fun j9 => nI (st j9)))), (ao, .inl (G.2.1 1, 32, .inl (fun j9 => nI (ow j9)))), (ab, .inl (G.2.1 1, 32, .inl (fun j9 => nI (bk j9)))), (aq, .inl (G.2.1 1, 4, .inl (fun j9 => nI (qu j9)))), (an, .inl (G.2.1 1, 4, .inl ct)), (q, .inr (1, [.ref b])), (b, .inl (G.2.1 2, y, .inr (.inl (addH (rsH st h i) 0 (64 + i)))))]) (c_X2_add K.2.1 G q b y (rsH st h i) 0 (64 + i) (by omega) (by omega) (by omega)) [6, 7] [0, 1, 2, 3, 4, 5] dX3_addResting_20 kw_274 kw_170 kw_43 kw_172 kw_171 hd_X2_add ⟨Nat.le_of_ble_eq_true rfl, Nat.le_of_ble_eq_true rfl⟩ ⟨(by decide), (by decide)⟩ ⟨rfl, rfl⟩ (Nat.le_of_ble_eq_true rfl) rfl rfl rfl rfl rfl rfl (by decide) 6 rfl rfl [0, 1, 2, 3, 4, 5, 6, 7] rfl rfl rfl rfl ?_
          refine n_iinc (a := 64 + i) (y := 64 + i + 1) (lv' := [(2, .int (nI (64 + i + 1))), (0, .ref oh), (1, .ref q)]) dX3_addResting_23 0 rfl (nI_inc _) (by decide) rfl ?_
          refine v_goto (tgt := 3) dX3_addResting_26 (by decide) ?_
          refine v_cong (lv' := [(2, .int (nI (64 + (i + 1)))), (0, .ref oh), (1, .ref q)]) (st' := []) (ws' := [(oh, .inr (2, [.ref as, .ref ao, .ref ab, .ref aq, .ref an])), (as, .inl (G.2.1 0, 32, .inl (fun j9 => nI (st j9)))), (ao, .inl (G.2.1 1, 32, .inl (fun j9 => nI (ow j9)))), (ab, .inl (G.2.1 1, 32, .inl (fun j9 => nI (bk j9)))), (aq, .inl (G.2.1 1, 4, .inl (fun j9 => nI (qu j9)))), (an, .inl (G.2.1 1, 4, .inl ct)), (q, .inr (1, [.ref b])), (b, .inl (G.2.1 2, y, .inr (.inl (rsH st h (i + 1)))))]) (by rfl) rfl (by rw [rsH]; first | rw [if_pos (of_decide_eq_true c14)] | rw [if_neg (of_decide_eq_false c14)]) ?_
          exact ih3 (i + 1) (by omega) (by omega)
  exact L3 (32 - 0 + 1) 0 (by omega) (Nat.lt_succ_self _)
theorem dX3_giveBack_0 : decode cX3_giveBack 0 = .ok (.iload_n 1, 1) := by decide +kernel
theorem dX3_giveBack_1 : decode cX3_giveBack 1 = .ok (.ifCond .lt 22, 3) := by decide +kernel
theorem dX3_giveBack_4 : decode cX3_giveBack 4 = .ok (.iload_n 1, 1) := by decide +kernel
theorem dX3_giveBack_5 : decode cX3_giveBack 5 = .ok (.aload_n 0, 1) := by decide +kernel
theorem dX3_giveBack_6 : decode cX3_giveBack 6 = .ok (.getfield 25, 3) := by decide +kernel
theorem dX3_giveBack_9 : decode cX3_giveBack 9 = .ok (.arraylength, 1) := by decide +kernel
theorem dX3_giveBack_10 : decode cX3_giveBack 10 = .ok (.if_icmp .ge 13, 3) := by decide +kernel
theorem dX3_giveBack_13 : decode cX3_giveBack 13 = .ok (.aload_n 0, 1) := by decide +kernel
theorem dX3_giveBack_14 : decode cX3_giveBack 14 = .ok (.getfield 25, 3) := by decide +kernel
theorem dX3_giveBack_17 : decode cX3_giveBack 17 = .ok (.iload_n 1, 1) := by decide +kernel
theorem dX3_giveBack_18 : decode cX3_giveBack 18 = .ok (.dup2, 1) := by decide +kernel
theorem dX3_giveBack_19 : decode cX3_giveBack 19 = .ok (.iaload, 1) := by decide +kernel
theorem dX3_giveBack_20 : decode cX3_giveBack 20 = .ok (.iconst 1, 1) := by decide +kernel
theorem dX3_giveBack_21 : decode cX3_giveBack 21 = .ok (.isub, 1) := by decide +kernel
theorem dX3_giveBack_22 : decode cX3_giveBack 22 = .ok (.iastore, 1) := by decide +kernel
theorem dX3_giveBack_23 : decode cX3_giveBack 23 = .ok (.return_, 1) := by decide +kernel
theorem hd_X3_giveBack : yX3_giveBack.cls ≠ "java/lang/invoke/MethodHandle" ∧ yX3_giveBack.cls ≠ "java/lang/invoke/VarHandle" ∧ (parseMethodDescriptor yX3_giveBack.desc).map (fun d => d.parameters.length) = some 1 := by decide +kernel
abbrev rm_X3_giveBack : Room := { frames := 0, cells := 0, slots := 0, locals := 0 }
set_option maxHeartbeats 4000000 in
set_option maxRecDepth 100000 in
theorem c_X3_giveBack (l : Launch) (G : Gx) (oh : Nat) (as : Nat) (ao : Nat) (ab : Nat) (aq : Nat) (an : Nat) (st : Nat → Nat) (ow : Nat → Nat) (bk : Nat → Nat) (qu : Nat → Nat) (ct : Nat → Int32) (c : Nat) (hc : c < 4) : Mt l G yX3_giveBack cX3_giveBack 2 none rm_X3_giveBack [.ref oh, .int (nI c)] [(oh, .inr (2, [.ref as, .ref ao, .ref ab, .ref aq, .ref an])), (as, .inl (G.2.1 0, 32, .inl (fun j9 => nI (st j9)))), (ao, .inl (G.2.1 1, 32, .inl (fun j9 => nI (ow j9)))), (ab, .inl (G.2.1 1, 32, .inl (fun j9 => nI (bk j9)))), (aq, .inl (G.2.1 1, 4, .inl (fun j9 => nI (qu j9)))), (an, .inl (G.2.1 1, 4, .inl ct))] (D1 none [(oh, .inr (2, [.ref as, .ref ao, .ref ab, .ref aq, .ref an])), (as, .inl (G.2.1 0, 32, .inl (fun j9 => nI (st j9)))), (ao, .inl (G.2.1 1, 32, .inl (fun j9 => nI (ow j9)))), (ab, .inl (G.2.1 1, 32, .inl (fun j9 => nI (bk j9)))), (aq, .inl (G.2.1 1, 4, .inl (fun j9 => nI (qu j9)))), (an, .inl (G.2.1 1, 4, .inl (upd ct c (ct c - nI 1))))]) := by
  refine Mt.of (by decide) (Nat.le_of_ble_eq_true rfl) ?_
  intro K hl9 hn9 hR
  show V K G cX3_giveBack RX3 2 rm_X3_giveBack 0 0 0 [(0, .ref oh), (1, .int (nI c))] [] [(oh, .inr (2, [.ref as, .ref ao, .ref ab, .ref aq, .ref an])), (as, .inl (G.2.1 0, 32, .inl (fun j9 => nI (st j9)))), (ao, .inl (G.2.1 1, 32, .inl (fun j9 => nI (ow j9)))), (ab, .inl (G.2.1 1, 32, .inl (fun j9 => nI (bk j9)))), (aq, .inl (G.2.1 1, 4, .inl (fun j9 => nI (qu j9)))), (an, .inl (G.2.1 1, 4, .inl ct))]
  refine v_iload_n dX3_giveBack_0 rfl 1 rfl ?_
  refine n_if_lt (a := c) (tgt := 23) dX3_giveBack_1 (by decide) (by omega) ?_
  refine v_iload_n dX3_giveBack_4 rfl 1 rfl ?_
  refine v_aload_n dX3_giveBack_5 rfl 0 rfl ?_
  refine v_get (ref := "Sealhouse$Heap") (C := RX3) (T := TX3) (N := 5) 0 4 dX3_giveBack_6 rfl rfl gin_X3 (by decide) kw_109 rfl rfl ?_
  refine v_alen (v := nI 4) 5 1 dX3_giveBack_9 rfl rfl rfl ?_
  refine n_icmp_ge (a := c) (b := 4) (tgt := 23) dX3_giveBack_10 (by decide) (by omega) (by omega) (fun c10 => absurd c10 (by omega)) (fun c10 => ?_)
  refine v_aload_n dX3_giveBack_13 rfl 0 rfl ?_
  refine v_get (ref := "Sealhouse$Heap") (C := RX3) (T := TX3) (N := 5) 0 4 dX3_giveBack_14 rfl rfl gin_X3 (by decide) kw_109 rfl rfl ?_
  refine v_iload_n dX3_giveBack_17 rfl 1 rfl ?_
  refine v_dup2 dX3_giveBack_18 rfl rfl ?_
  refine n_iald (i := c) (x := ct c) 5 dX3_giveBack_19 rfl (by omega) (by decide) rfl ?_
  refine v_iconst (v := nI 1) dX3_giveBack_20 (by decide) ?_
  refine v_isub dX3_giveBack_21 ?_
  refine n_iast (i := c) (g := upd ct c ((ct c) - (nI 1))) (ws' := [(oh, .inr (2, [.ref as, .ref ao, .ref ab, .ref aq, .ref an])), (as, .inl (G.2.1 0, 32, .inl (fun j9 => nI (st j9)))), (ao, .inl (G.2.1 1, 32, .inl (fun j9 => nI (ow j9)))), (ab, .inl (G.2.1 1, 32, .inl (fun j9 => nI (bk j9)))), (aq, .inl (G.2.1 1, 4, .inl (fun j9 => nI (qu j9)))), (an, .inl (G.2.1 1, 4, .inl (upd ct c ((ct c) - (nI 1)))))]) 5 dX3_giveBack_22 rfl (by omega) (by decide) rfl rfl ?_
  exact v_vret hR dX3_giveBack_23 (by exact ⟨rfl, rfl⟩)
theorem dX3_releaseResting_0 : decode cX3_releaseResting 0 = .ok (.iconst 0, 1) := by decide +kernel
theorem dX3_releaseResting_1 : decode cX3_releaseResting 1 = .ok (.istore_n 1, 1) := by decide +kernel
theorem dX3_releaseResting_2 : decode cX3_releaseResting 2 = .ok (.iload_n 1, 1) := by decide +kernel
theorem dX3_releaseResting_3 : decode cX3_releaseResting 3 = .ok (.aload_n 0, 1) := by decide +kernel
theorem dX3_releaseResting_4 : decode cX3_releaseResting 4 = .ok (.getfield 9, 3) := by decide +kernel
theorem dX3_releaseResting_7 : decode cX3_releaseResting 7 = .ok (.arraylength, 1) := by decide +kernel
theorem dX3_releaseResting_8 : decode cX3_releaseResting 8 = .ok (.if_icmp .ge 47, 3) := by decide +kernel
theorem dX3_releaseResting_11 : decode cX3_releaseResting 11 = .ok (.iload_n 1, 1) := by decide +kernel
theorem dX3_releaseResting_12 : decode cX3_releaseResting 12 = .ok (.aload_n 0, 1) := by decide +kernel
theorem dX3_releaseResting_13 : decode cX3_releaseResting 13 = .ok (.getfield 15, 3) := by decide +kernel
theorem dX3_releaseResting_16 : decode cX3_releaseResting 16 = .ok (.arraylength, 1) := by decide +kernel
theorem dX3_releaseResting_17 : decode cX3_releaseResting 17 = .ok (.if_icmp .ge 38, 3) := by decide +kernel
theorem dX3_releaseResting_20 : decode cX3_releaseResting 20 = .ok (.aload_n 0, 1) := by decide +kernel
theorem dX3_releaseResting_21 : decode cX3_releaseResting 21 = .ok (.getfield 9, 3) := by decide +kernel
theorem dX3_releaseResting_24 : decode cX3_releaseResting 24 = .ok (.iload_n 1, 1) := by decide +kernel
theorem dX3_releaseResting_25 : decode cX3_releaseResting 25 = .ok (.caload, 1) := by decide +kernel
theorem dX3_releaseResting_26 : decode cX3_releaseResting 26 = .ok (.bipush 114, 2) := by decide +kernel
theorem dX3_releaseResting_28 : decode cX3_releaseResting 28 = .ok (.if_icmp .ne 21, 3) := by decide +kernel
theorem dX3_releaseResting_31 : decode cX3_releaseResting 31 = .ok (.aload_n 0, 1) := by decide +kernel
theorem dX3_releaseResting_32 : decode cX3_releaseResting 32 = .ok (.getfield 9, 3) := by decide +kernel
theorem dX3_releaseResting_35 : decode cX3_releaseResting 35 = .ok (.iload_n 1, 1) := by decide +kernel
theorem dX3_releaseResting_36 : decode cX3_releaseResting 36 = .ok (.bipush 102, 2) := by decide +kernel
theorem dX3_releaseResting_38 : decode cX3_releaseResting 38 = .ok (.castore, 1) := by decide +kernel
theorem dX3_releaseResting_39 : decode cX3_releaseResting 39 = .ok (.aload_n 0, 1) := by decide +kernel
theorem dX3_releaseResting_40 : decode cX3_releaseResting 40 = .ok (.aload_n 0, 1) := by decide +kernel
theorem dX3_releaseResting_41 : decode cX3_releaseResting 41 = .ok (.getfield 15, 3) := by decide +kernel
theorem dX3_releaseResting_44 : decode cX3_releaseResting 44 = .ok (.iload_n 1, 1) := by decide +kernel
theorem dX3_releaseResting_45 : decode cX3_releaseResting 45 = .ok (.iaload, 1) := by decide +kernel
theorem dX3_releaseResting_46 : decode cX3_releaseResting 46 = .ok (.invokevirtual 59, 3) := by decide +kernel
theorem dX3_releaseResting_49 : decode cX3_releaseResting 49 = .ok (.iinc 1 1, 3) := by decide +kernel
theorem dX3_releaseResting_52 : decode cX3_releaseResting 52 = .ok (.goto (-50), 3) := by decide +kernel
theorem dX3_releaseResting_55 : decode cX3_releaseResting 55 = .ok (.return_, 1) := by decide +kernel
theorem hd_X3_releaseResting : yX3_releaseResting.cls ≠ "java/lang/invoke/MethodHandle" ∧ yX3_releaseResting.cls ≠ "java/lang/invoke/VarHandle" ∧ (parseMethodDescriptor yX3_releaseResting.desc).map (fun d => d.parameters.length) = some 0 := by decide +kernel
abbrev rm_X3_releaseResting : Room := { frames := 1, cells := 0, slots := 0, locals := 21 }
set_option maxHeartbeats 4000000 in
set_option maxRecDepth 100000 in
theorem c_X3_releaseResting (l : Launch) (G : Gx) (oh : Nat) (as : Nat) (ao : Nat) (ab : Nat) (aq : Nat) (an : Nat) (st : Nat → Nat) (ow : Nat → Nat) (bk : Nat → Nat) (qu : Nat → Nat) (ct : Nat → Int32) (hst : ∀ j, st j < 65536) (how : ∀ j, ow j < 4) : Mt l G yX3_releaseResting cX3_releaseResting 2 none rm_X3_releaseResting [.ref oh] [(oh, .inr (2, [.ref as, .ref ao, .ref ab, .ref aq, .ref an])), (as, .inl (G.2.1 0, 32, .inl (fun j9 => nI (st j9)))), (ao, .inl (G.2.1 1, 32, .inl (fun j9 => nI (ow j9)))), (ab, .inl (G.2.1 1, 32, .inl (fun j9 => nI (bk j9)))), (aq, .inl (G.2.1 1, 4, .inl (fun j9 => nI (qu j9)))), (an, .inl (G.2.1 1, 4, .inl ct))] (D1 none [(oh, .inr (2, [.ref as, .ref ao, .ref ab, .ref aq, .ref an])), (as, .inl (G.2.1 0, 32, .inl (fun j9 => nI ((relS st 32) j9)))), (ao, .inl (G.2.1 1, 32, .inl (fun j9 => nI (ow j9)))), (ab, .inl (G.2.1 1, 32, .inl (fun j9 => nI (bk j9)))), (aq, .inl (G.2.1 1, 4, .inl (fun j9 => nI (qu j9)))), (an, .inl (G.2.1 1, 4, .inl (relC st ow ct 32)))]) := by
  refine Mt.of (by decide) (Nat.le_of_ble_eq_true rfl) ?_
  intro K hl9 hn9 hR
  show V K G cX3_releaseResting RX3 2 rm_X3_releaseResting 0 0 0 [(0, .ref oh)] [] [(oh, .inr (2, [.ref as, .ref ao, .ref ab, .ref aq, .ref an])), (as, .inl (G.2.1 0, 32, .inl (fun j9 => nI (st j9)))), (ao, .inl (G.2.1 1, 32, .inl (fun j9 => nI (ow j9)))), (ab, .inl (G.2.1 1, 32, .inl (fun j9 => nI (bk j9)))), (aq, .inl (G.2.1 1, 4, .inl (fun j9 => nI (qu j9)))), (an, .inl (G.2.1 1, 4, .inl ct))]
  refine v_iconst (v := nI 0) dX3_releaseResting_0 (by decide) ?_
  refine v_istore_n (lv' := [(1, .int (nI 0)), (0, .ref oh)]) dX3_releaseResting_1 rfl (by decide) rfl ?_
  refine v_cong (lv' := [(1, .int (nI 0)), (0, .ref oh)]) (st' := []) (ws' := [(oh, .inr (2, [.ref as, .ref ao, .ref ab, .ref aq, .ref an])), (as, .inl (G.2.1 0, 32, .inl (fun j9 => nI ((relS st 0) j9)))), (ao, .inl (G.2.1 1, 32, .inl (fun j9 => nI (ow j9)))), (ab, .inl (G.2.1 1, 32, .inl (fun j9 => nI (bk j9)))), (aq, .inl (G.2.1 1, 4, .inl (fun j9 => nI (qu j9)))), (an, .inl (G.2.1 1, 4, .inl (relC st ow ct 0)))]) rfl rfl (by rw [relS_0]; rfl) ?_
  have L2 : ∀ (f9 : Nat) (i : Nat) (hi : i ≤ 32), 32 - i < f9 → V K G cX3_releaseResting RX3 2 rm_X3_releaseResting 0 0 2 [(1, .int (nI i)), (0, .ref oh)] [] [(oh, .inr (2, [.ref as, .ref ao, .ref ab, .ref aq, .ref an])), (as, .inl (G.2.1 0, 32, .inl (fun j9 => nI ((relS st i) j9)))), (ao, .inl (G.2.1 1, 32, .inl (fun j9 => nI (ow j9)))), (ab, .inl (G.2.1 1, 32, .inl (fun j9 => nI (bk j9)))), (aq, .inl (G.2.1 1, 4, .inl (fun j9 => nI (qu j9)))), (an, .inl (G.2.1 1, 4, .inl (relC st ow ct i)))] := by
    intro f9
    induction f9 with
    | zero => intro i hi hm; exact absurd hm (Nat.not_lt_zero _)
    | succ f9 ih2 =>
      intro i hi hm2
      refine v_iload_n dX3_releaseResting_2 rfl 0 rfl ?_
      refine v_aload_n dX3_releaseResting_3 rfl 1 rfl ?_
      refine v_get (ref := "Sealhouse$Heap") (C := RX3) (T := TX3) (N := 5) 0 0 dX3_releaseResting_4 rfl rfl gin_X3 (by decide) kw_105 rfl rfl ?_
      refine v_alen (v := nI 32) 1 0 dX3_releaseResting_7 rfl rfl rfl ?_
      refine n_icmp_ge (a := i) (b := 32) (tgt := 55) dX3_releaseResting_8 (by decide) (by omega) (by omega) (fun c8 => ?_) (fun c8 => ?_)
      ·
        exact v_vret hR dX3_releaseResting_55 (by refine ⟨rfl, ?_⟩; rw [show i = 32 by omega])
      ·
        refine v_iload_n dX3_releaseResting_11 rfl 0 rfl ?_
        refine v_aload_n dX3_releaseResting_12 rfl 1 rfl ?_
        refine v_get (ref := "Sealhouse$Heap") (C := RX3) (T := TX3) (N := 5) 0 1 dX3_releaseResting_13 rfl rfl gin_X3 (by decide) kw_106 rfl rfl ?_
        refine v_alen (v := nI 32) 2 1 dX3_releaseResting_16 rfl rfl rfl ?_
        refine n_icmp_ge (a := i) (b := 32) (tgt := 55) dX3_releaseResting_17 (by decide) (by omega) (by omega) (fun c17 => absurd c17 (by omega)) (fun c17 => ?_)
        refine v_aload_n dX3_releaseResting_20 rfl 1 rfl ?_
        refine v_get (ref := "Sealhouse$Heap") (C := RX3) (T := TX3) (N := 5) 0 0 dX3_releaseResting_21 rfl rfl gin_X3 (by decide) kw_105 rfl rfl ?_
        refine v_iload_n dX3_releaseResting_24 rfl 0 rfl ?_
        refine n_cald (i := i) (x := nI ((relS st i) i)) 1 dX3_releaseResting_25 rfl (by omega) (by decide) rfl ?_
        refine v_bipush (v := nI 114) dX3_releaseResting_26 (by decide) ?_
        refine n_icmp_ne (a := (relS st i) i) (b := 114) (tgt := 49) dX3_releaseResting_28 (by decide) (by first | decide | (rw [relS_i]; exact Nat.lt_trans (hst _) (by decide))) (by first | decide | (rw [relS_i]; exact Nat.lt_trans (hst _) (by decide))) (fun c28 => ?_) (fun c28 => ?_)
        ·
          refine n_iinc (a := i) (y := i + 1) (lv' := [(1, .int (nI (i + 1))), (0, .ref oh)]) dX3_releaseResting_49 0 rfl (nI_inc _) (by decide) rfl ?_
          refine v_goto (tgt := 2) dX3_releaseResting_52 (by decide) ?_
          refine v_cong (lv' := [(1, .int (nI (i + 1))), (0, .ref oh)]) (st' := []) (ws' := [(oh, .inr (2, [.ref as, .ref ao, .ref ab, .ref aq, .ref an])), (as, .inl (G.2.1 0, 32, .inl (fun j9 => nI ((relS st (i + 1)) j9)))), (ao, .inl (G.2.1 1, 32, .inl (fun j9 => nI (ow j9)))), (ab, .inl (G.2.1 1, 32, .inl (fun j9 => nI (bk j9)))), (aq, .inl (G.2.1 1, 4, .inl (fun j9 => nI (qu j9)))), (an, .inl (G.2.1 1, 4, .inl (relC st ow ct (i + 1))))]) rfl rfl (by first | rw [relS_y (by assumption), relC_y (by assumption)] | rw [relS_n (by assumption), relC_n (by assumption)]) ?_
          exact ih2 (i + 1) (by omega) (by omega)
        ·
          refine v_aload_n dX3_releaseResting_31 rfl 1 rfl ?_
          refine v_get (ref := "Sealhouse$Heap") (C := RX3) (T := TX3) (N := 5) 0 0 dX3_releaseResting_32 rfl rfl gin_X3 (by decide) kw_105 rfl rfl ?_
          refine v_iload_n dX3_releaseResting_35 rfl 0 rfl ?_
          refine v_bipush (v := nI 102) dX3_releaseResting_36 (by decide) ?_
          refine n_cast (i := i) (g := (fun j9 => nI ((va_up (relS st i) i 102) j9))) (ws' := [(oh, .inr (2, [.ref as, .ref ao, .ref ab, .ref aq, .ref an])), (as, .inl (G.2.1 0, 32, .inl (fun j9 => nI ((va_up (relS st i) i 102) j9)))), (ao, .inl (G.2.1 1, 32, .inl (fun j9 => nI (ow j9)))), (ab, .inl (G.2.1 1, 32, .inl (fun j9 => nI (bk j9)))), (aq, .inl (G.2.1 1, 4, .inl (fun j9 => nI (qu j9)))), (an, .inl (G.2.1 1, 4, .inl (relC st ow ct i)))]) 1 dX3_releaseResting_38 rfl (by omega) (by decide) (upd_c _ _ _ (by omega)) rfl ?_
          refine v_aload_n dX3_releaseResting_39 rfl 1 rfl ?_
          refine v_aload_n dX3_releaseResting_40 rfl 1 rfl ?_
          refine v_get (ref := "Sealhouse$Heap") (C := RX3) (T := TX3) (N := 5) 0 1 dX3_releaseResting_41 rfl rfl gin_X3 (by decide) kw_106 rfl rfl ?_
          refine v_iload_n dX3_releaseResting_44 rfl 0 rfl ?_
          refine n_iald (i := i) (x := nI (ow i)) 2 dX3_releaseResting_45 rfl (by omega) (by decide) rfl ?_
          refine c_V1 (ci := 2) (T := TX3) (N := 5) (As := [.int (nI (ow i))]) (rest := []) (wr := []) (k' := 0) (n' := 0) (st2 := []) (ws2 := [(oh, .inr (2, [.ref as, .ref ao, .ref ab, .ref aq, .ref an])), (as, .inl (G.2.1 0, 32, .inl (fun j9 => nI ((va_up (relS st i) i 102) j9)))), (ao, .inl (G.2.1 1, 32, .inl (fun j9 => nI (ow j9)))), (ab, .inl (G.2.1 1, 32, .inl (fun j9 => nI (bk j9)))), (aq, .inl (G.2.1 1, 4, .inl (fun j9 => nI (qu j9)))), (an, .inl (G.2.1 1, 4, .inl (upd (relC st ow ct i) (ow i) ((relC st ow ct i) (ow i) - nI 1))))]) (c_X3_giveBack K.2.1 G oh as ao ab aq an (va_up (relS st i) i 102) ow bk qu (relC st ow ct i) (ow i) (by exact how _)) [0, 1, 2, 3, 4, 5] [] dX3_releaseResting_46 kw_302 kw_304 kw_41 kw_305 kw_5 hd_X3_giveBack ⟨Nat.le_of_ble_eq_true rfl, Nat.le_of_ble_eq_true rfl⟩ ⟨(by decide), (by decide)⟩ ⟨rfl, rfl⟩ (Nat.le_of_ble_eq_true rfl) rfl rfl rfl rfl rfl rfl (by decide) 0 rfl rfl [0, 1, 2, 3, 4, 5] rfl rfl rfl rfl ?_
          refine n_iinc (a := i) (y := i + 1) (lv' := [(1, .int (nI (i + 1))), (0, .ref oh)]) dX3_releaseResting_49 0 rfl (nI_inc _) (by decide) rfl ?_
          refine v_goto (tgt := 2) dX3_releaseResting_52 (by decide) ?_
          refine v_cong (lv' := [(1, .int (nI (i + 1))), (0, .ref oh)]) (st' := []) (ws' := [(oh, .inr (2, [.ref as, .ref ao, .ref ab, .ref aq, .ref an])), (as, .inl (G.2.1 0, 32, .inl (fun j9 => nI ((relS st (i + 1)) j9)))), (ao, .inl (G.2.1 1, 32, .inl (fun j9 => nI (ow j9)))), (ab, .inl (G.2.1 1, 32, .inl (fun j9 => nI (bk j9)))), (aq, .inl (G.2.1 1, 4, .inl (fun j9 => nI (qu j9)))), (an, .inl (G.2.1 1, 4, .inl (relC st ow ct (i + 1))))]) rfl rfl (by first | rw [relS_y (by assumption), relC_y (by assumption)] | rw [relS_n (by assumption), relC_n (by assumption)]) ?_
          exact ih2 (i + 1) (by omega) (by omega)
  exact L2 (32 - 0 + 1) 0 (by omega) (Nat.lt_succ_self _)
theorem dX3_countsAreSound_0 : decode cX3_countsAreSound 0 = .ok (.iconst 0, 1) := by decide +kernel
theorem dX3_countsAreSound_1 : decode cX3_countsAreSound 1 = .ok (.istore_n 1, 1) := by decide +kernel
theorem dX3_countsAreSound_2 : decode cX3_countsAreSound 2 = .ok (.iload_n 1, 1) := by decide +kernel
theorem dX3_countsAreSound_3 : decode cX3_countsAreSound 3 = .ok (.aload_n 0, 1) := by decide +kernel
theorem dX3_countsAreSound_4 : decode cX3_countsAreSound 4 = .ok (.getfield 25, 3) := by decide +kernel
theorem dX3_countsAreSound_7 : decode cX3_countsAreSound 7 = .ok (.arraylength, 1) := by decide +kernel
theorem dX3_countsAreSound_8 : decode cX3_countsAreSound 8 = .ok (.if_icmp .ge 73, 3) := by decide +kernel
theorem dX3_countsAreSound_11 : decode cX3_countsAreSound 11 = .ok (.iconst 0, 1) := by decide +kernel
theorem dX3_countsAreSound_12 : decode cX3_countsAreSound 12 = .ok (.istore_n 2, 1) := by decide +kernel
theorem dX3_countsAreSound_13 : decode cX3_countsAreSound 13 = .ok (.iconst 0, 1) := by decide +kernel
theorem dX3_countsAreSound_14 : decode cX3_countsAreSound 14 = .ok (.istore_n 3, 1) := by decide +kernel
theorem dX3_countsAreSound_15 : decode cX3_countsAreSound 15 = .ok (.iload_n 3, 1) := by decide +kernel
theorem dX3_countsAreSound_16 : decode cX3_countsAreSound 16 = .ok (.aload_n 0, 1) := by decide +kernel
theorem dX3_countsAreSound_17 : decode cX3_countsAreSound 17 = .ok (.getfield 9, 3) := by decide +kernel
theorem dX3_countsAreSound_20 : decode cX3_countsAreSound 20 = .ok (.arraylength, 1) := by decide +kernel
theorem dX3_countsAreSound_21 : decode cX3_countsAreSound 21 = .ok (.if_icmp .ge 42, 3) := by decide +kernel
theorem dX3_countsAreSound_24 : decode cX3_countsAreSound 24 = .ok (.iload_n 3, 1) := by decide +kernel
theorem dX3_countsAreSound_25 : decode cX3_countsAreSound 25 = .ok (.aload_n 0, 1) := by decide +kernel
theorem dX3_countsAreSound_26 : decode cX3_countsAreSound 26 = .ok (.getfield 15, 3) := by decide +kernel
theorem dX3_countsAreSound_29 : decode cX3_countsAreSound 29 = .ok (.arraylength, 1) := by decide +kernel
theorem dX3_countsAreSound_30 : decode cX3_countsAreSound 30 = .ok (.if_icmp .ge 33, 3) := by decide +kernel
theorem dX3_countsAreSound_33 : decode cX3_countsAreSound 33 = .ok (.aload_n 0, 1) := by decide +kernel
theorem dX3_countsAreSound_34 : decode cX3_countsAreSound 34 = .ok (.getfield 9, 3) := by decide +kernel
theorem dX3_countsAreSound_37 : decode cX3_countsAreSound 37 = .ok (.iload_n 3, 1) := by decide +kernel
theorem dX3_countsAreSound_38 : decode cX3_countsAreSound 38 = .ok (.caload, 1) := by decide +kernel
theorem dX3_countsAreSound_39 : decode cX3_countsAreSound 39 = .ok (.bipush 102, 2) := by decide +kernel
theorem dX3_countsAreSound_41 : decode cX3_countsAreSound 41 = .ok (.if_icmp .eq 16, 3) := by decide +kernel
theorem dX3_countsAreSound_44 : decode cX3_countsAreSound 44 = .ok (.aload_n 0, 1) := by decide +kernel
theorem dX3_countsAreSound_45 : decode cX3_countsAreSound 45 = .ok (.getfield 15, 3) := by decide +kernel
theorem dX3_countsAreSound_48 : decode cX3_countsAreSound 48 = .ok (.iload_n 3, 1) := by decide +kernel
theorem dX3_countsAreSound_49 : decode cX3_countsAreSound 49 = .ok (.iaload, 1) := by decide +kernel
theorem dX3_countsAreSound_50 : decode cX3_countsAreSound 50 = .ok (.iload_n 1, 1) := by decide +kernel
theorem dX3_countsAreSound_51 : decode cX3_countsAreSound 51 = .ok (.if_icmp .ne 6, 3) := by decide +kernel
theorem dX3_countsAreSound_54 : decode cX3_countsAreSound 54 = .ok (.iinc 2 1, 3) := by decide +kernel
theorem dX3_countsAreSound_57 : decode cX3_countsAreSound 57 = .ok (.iinc 3 1, 3) := by decide +kernel
theorem dX3_countsAreSound_60 : decode cX3_countsAreSound 60 = .ok (.goto (-45), 3) := by decide +kernel
theorem dX3_countsAreSound_63 : decode cX3_countsAreSound 63 = .ok (.iload_n 2, 1) := by decide +kernel
theorem dX3_countsAreSound_64 : decode cX3_countsAreSound 64 = .ok (.aload_n 0, 1) := by decide +kernel
theorem dX3_countsAreSound_65 : decode cX3_countsAreSound 65 = .ok (.getfield 25, 3) := by decide +kernel
theorem dX3_countsAreSound_68 : decode cX3_countsAreSound 68 = .ok (.iload_n 1, 1) := by decide +kernel
theorem dX3_countsAreSound_69 : decode cX3_countsAreSound 69 = .ok (.iaload, 1) := by decide +kernel
theorem dX3_countsAreSound_70 : decode cX3_countsAreSound 70 = .ok (.if_icmp .eq 5, 3) := by decide +kernel
theorem dX3_countsAreSound_73 : decode cX3_countsAreSound 73 = .ok (.iconst 0, 1) := by decide +kernel
theorem dX3_countsAreSound_74 : decode cX3_countsAreSound 74 = .ok (.ireturn, 1) := by decide +kernel
theorem dX3_countsAreSound_75 : decode cX3_countsAreSound 75 = .ok (.iinc 1 1, 3) := by decide +kernel
theorem dX3_countsAreSound_78 : decode cX3_countsAreSound 78 = .ok (.goto (-76), 3) := by decide +kernel
theorem dX3_countsAreSound_81 : decode cX3_countsAreSound 81 = .ok (.iconst 1, 1) := by decide +kernel
theorem dX3_countsAreSound_82 : decode cX3_countsAreSound 82 = .ok (.ireturn, 1) := by decide +kernel
theorem hd_X3_countsAreSound : yX3_countsAreSound.cls ≠ "java/lang/invoke/MethodHandle" ∧ yX3_countsAreSound.cls ≠ "java/lang/invoke/VarHandle" ∧ (parseMethodDescriptor yX3_countsAreSound.desc).map (fun d => d.parameters.length) = some 0 := by decide +kernel
abbrev rm_X3_countsAreSound : Room := { frames := 0, cells := 0, slots := 0, locals := 0 }
set_option maxHeartbeats 4000000 in
set_option maxRecDepth 100000 in
theorem c_X3_countsAreSound (l : Launch) (G : Gx) (oh : Nat) (as : Nat) (ao : Nat) (ab : Nat) (aq : Nat) (an : Nat) (st : Nat → Nat) (ow : Nat → Nat) (bk : Nat → Nat) (qu : Nat → Nat) (ct : Nat → Int32) (hst : ∀ j, st j < 65536) (how : ∀ j, ow j < 4) : Mt l G yX3_countsAreSound cX3_countsAreSound 4 (some .boolean) rm_X3_countsAreSound [.ref oh] [(oh, .inr (2, [.ref as, .ref ao, .ref ab, .ref aq, .ref an])), (as, .inl (G.2.1 0, 32, .inl (fun j9 => nI (st j9)))), (ao, .inl (G.2.1 1, 32, .inl (fun j9 => nI (ow j9)))), (ab, .inl (G.2.1 1, 32, .inl (fun j9 => nI (bk j9)))), (aq, .inl (G.2.1 1, 4, .inl (fun j9 => nI (qu j9)))), (an, .inl (G.2.1 1, 4, .inl ct))] (D1 (some (.int (bI (allF (cntS st ow ct) 4)))) [(oh, .inr (2, [.ref as, .ref ao, .ref ab, .ref aq, .ref an])), (as, .inl (G.2.1 0, 32, .inl (fun j9 => nI (st j9)))), (ao, .inl (G.2.1 1, 32, .inl (fun j9 => nI (ow j9)))), (ab, .inl (G.2.1 1, 32, .inl (fun j9 => nI (bk j9)))), (aq, .inl (G.2.1 1, 4, .inl (fun j9 => nI (qu j9)))), (an, .inl (G.2.1 1, 4, .inl ct))]) := by
  refine Mt.of (by decide) (Nat.le_of_ble_eq_true rfl) ?_
  intro K hl9 hn9 hR
  show V K G cX3_countsAreSound RX3 4 rm_X3_countsAreSound 0 0 0 [(0, .ref oh)] [] [(oh, .inr (2, [.ref as, .ref ao, .ref ab, .ref aq, .ref an])), (as, .inl (G.2.1 0, 32, .inl (fun j9 => nI (st j9)))), (ao, .inl (G.2.1 1, 32, .inl (fun j9 => nI (ow j9)))), (ab, .inl (G.2.1 1, 32, .inl (fun j9 => nI (bk j9)))), (aq, .inl (G.2.1 1, 4, .inl (fun j9 => nI (qu j9)))), (an, .inl (G.2.1 1, 4, .inl ct))]
  refine v_iconst (v := nI 0) dX3_countsAreSound_0 (by decide) ?_
  refine v_istore_n (lv' := [(1, .int (nI 0)), (0, .ref oh)]) dX3_countsAreSound_1 rfl (by decide) rfl ?_
  have L2 : ∀ (f9 : Nat) (i : Nat) (hi : i ≤ 4) (ha : allF (cntS st ow ct) i = true), 4 - i < f9 → V K G cX3_countsAreSound RX3 4 rm_X3_countsAreSound 0 0 2 [(1, .int (nI i)), (0, .ref oh)] [] [(oh, .inr (2, [.ref as, .ref ao, .ref ab, .ref aq, .ref an])), (as, .inl (G.2.1 0, 32, .inl (fun j9 => nI (st j9)))), (ao, .inl (G.2.1 1, 32, .inl (fun j9 => nI (ow j9)))), (ab, .inl (G.2.1 1, 32, .inl (fun j9 => nI (bk j9)))), (aq, .inl (G.2.1 1, 4, .inl (fun j9 => nI (qu j9)))), (an, .inl (G.2.1 1, 4, .inl ct))] := by
    intro f9
    induction f9 with
    | zero => intro i hi ha hm; exact absurd hm (Nat.not_lt_zero _)
    | succ f9 ih2 =>
      intro i hi ha hm2
      refine v_iload_n dX3_countsAreSound_2 rfl 0 rfl ?_
      refine v_aload_n dX3_countsAreSound_3 rfl 1 rfl ?_
      refine v_get (ref := "Sealhouse$Heap") (C := RX3) (T := TX3) (N := 5) 0 4 dX3_countsAreSound_4 rfl rfl gin_X3 (by decide) kw_109 rfl rfl ?_
      refine v_alen (v := nI 4) 5 1 dX3_countsAreSound_7 rfl rfl rfl ?_
      refine n_icmp_ge (a := i) (b := 4) (tgt := 81) dX3_countsAreSound_8 (by decide) (by omega) (by omega) (fun c8 => ?_) (fun c8 => ?_)
      ·
        refine v_iconst (v := nI 1) dX3_countsAreSound_81 (by decide) ?_
        refine v_eqi (y := bI true) (by decide) ?_
        exact v_zret hR dX3_countsAreSound_82 (bI_nar _) (by refine ⟨?_, rfl⟩; rw [← ha, show i = 4 by omega])
      ·
        refine v_iconst (v := nI 0) dX3_countsAreSound_11 (by decide) ?_
        refine v_istore_n (lv' := [(2, .int (nI 0)), (1, .int (nI i)), (0, .ref oh)]) dX3_countsAreSound_12 rfl (by decide) rfl ?_
        refine v_iconst (v := nI 0) dX3_countsAreSound_13 (by decide) ?_
        refine v_istore_n (lv' := [(3, .int (nI 0)), (2, .int (nI 0)), (1, .int (nI i)), (0, .ref oh)]) dX3_countsAreSound_14 rfl (by decide) rfl ?_
        refine v_cong (lv' := [(3, .int (nI 0)), (2, .int (nI (cntF (ownP st ow i) 0))), (1, .int (nI i)), (0, .ref oh)]) (st' := []) (ws' := [(oh, .inr (2, [.ref as, .ref ao, .ref ab, .ref aq, .ref an])), (as, .inl (G.2.1 0, 32, .inl (fun j9 => nI (st j9)))), (ao, .inl (G.2.1 1, 32, .inl (fun j9 => nI (ow j9)))), (ab, .inl (G.2.1 1, 32, .inl (fun j9 => nI (bk j9)))), (aq, .inl (G.2.1 1, 4, .inl (fun j9 => nI (qu j9)))), (an, .inl (G.2.1 1, 4, .inl ct))]) (by rfl) rfl rfl ?_
        have L15 : ∀ (f9 : Nat) (j : Nat) (hj : j ≤ 32), 32 - j < f9 → V K G cX3_countsAreSound RX3 4 rm_X3_countsAreSound 0 0 15 [(3, .int (nI j)), (2, .int (nI (cntF (ownP st ow i) j))), (1, .int (nI i)), (0, .ref oh)] [] [(oh, .inr (2, [.ref as, .ref ao, .ref ab, .ref aq, .ref an])), (as, .inl (G.2.1 0, 32, .inl (fun j9 => nI (st j9)))), (ao, .inl (G.2.1 1, 32, .inl (fun j9 => nI (ow j9)))), (ab, .inl (G.2.1 1, 32, .inl (fun j9 => nI (bk j9)))), (aq, .inl (G.2.1 1, 4, .inl (fun j9 => nI (qu j9)))), (an, .inl (G.2.1 1, 4, .inl ct))] := by
          intro f9
          induction f9 with
          | zero => intro j hj hm; exact absurd hm (Nat.not_lt_zero _)
          | succ f9 ih15 =>
            intro j hj hm15
            have hcn := cntF_le (ownP st ow i) j
            refine v_iload_n dX3_countsAreSound_15 rfl 0 rfl ?_
            refine v_aload_n dX3_countsAreSound_16 rfl 3 rfl ?_
            refine v_get (ref := "Sealhouse$Heap") (C := RX3) (T := TX3) (N := 5) 0 0 dX3_countsAreSound_17 rfl rfl gin_X3 (by decide) kw_105 rfl rfl ?_
            refine v_alen (v := nI 32) 1 0 dX3_countsAreSound_20 rfl rfl rfl ?_
            refine n_icmp_ge (a := j) (b := 32) (tgt := 63) dX3_countsAreSound_21 (by decide) (by omega) (by omega) (fun c21 => ?_) (fun c21 => ?_)
            ·
              refine v_iload_n dX3_countsAreSound_63 rfl 1 rfl ?_
              refine v_aload_n dX3_countsAreSound_64 rfl 3 rfl ?_
              refine v_get (ref := "Sealhouse$Heap") (C := RX3) (T := TX3) (N := 5) 0 4 dX3_countsAreSound_65 rfl rfl gin_X3 (by decide) kw_109 rfl rfl ?_
              refine v_iload_n dX3_countsAreSound_68 rfl 2 rfl ?_
              refine n_iald (i := i) (x := ct i) 5 dX3_countsAreSound_69 rfl (by omega) (by decide) rfl ?_
              refine v_icmp_eq (x := nI (cntF (ownP st ow i) j)) (y := ct i) (tgt := 75) dX3_countsAreSound_70 (by decide) (fun c70 => ?_) (fun c70 => ?_)
              ·
                refine n_iinc (a := i) (y := i + 1) (lv' := [(1, .int (nI (i + 1))), (3, .int (nI j)), (2, .int (nI (cntF (ownP st ow i) j))), (0, .ref oh)]) dX3_countsAreSound_75 2 rfl (nI_inc _) (by decide) rfl ?_
                refine v_goto (tgt := 2) dX3_countsAreSound_78 (by decide) ?_
                refine v_lv (lv' := [(1, .int (nI (i + 1))), (0, .ref oh)]) [0, 3] rfl ?_
                exact ih2 (i + 1) (by omega) (by rw [allF, ha]; unfold cntS; rw [← show j = 32 by omega, decide_eq_true c70]; rfl) (by omega)
              ·
                refine v_iconst (v := nI 0) dX3_countsAreSound_73 (by decide) ?_
                refine v_eqi (y := bI false) (by decide) ?_
                exact v_zret hR dX3_countsAreSound_74 (bI_nar _) (by refine ⟨?_, rfl⟩; rw [allF_false (i := i) (by omega) (by unfold cntS; rw [← show j = 32 by omega]; exact decide_eq_false c70)])
            ·
              refine v_iload_n dX3_countsAreSound_24 rfl 0 rfl ?_
              refine v_aload_n dX3_countsAreSound_25 rfl 3 rfl ?_
              refine v_get (ref := "Sealhouse$Heap") (C := RX3) (T := TX3) (N := 5) 0 1 dX3_countsAreSound_26 rfl rfl gin_X3 (by decide) kw_106 rfl rfl ?_
              refine v_alen (v := nI 32) 2 1 dX3_countsAreSound_29 rfl rfl rfl ?_
              refine n_icmp_ge (a := j) (b := 32) (tgt := 63) dX3_countsAreSound_30 (by decide) (by omega) (by omega) (fun c30 => absurd c30 (by omega)) (fun c30 => ?_)
              refine v_aload_n dX3_countsAreSound_33 rfl 3 rfl ?_
              refine v_get (ref := "Sealhouse$Heap") (C := RX3) (T := TX3) (N := 5) 0 0 dX3_countsAreSound_34 rfl rfl gin_X3 (by decide) kw_105 rfl rfl ?_
              refine v_iload_n dX3_countsAreSound_37 rfl 0 rfl ?_
              refine n_cald (i := j) (x := nI (st j)) 1 dX3_countsAreSound_38 rfl (by omega) (by decide) rfl ?_
              refine v_bipush (v := nI 102) dX3_countsAreSound_39 (by decide) ?_
              refine n_icmp_eq (a := st j) (b := 102) (tgt := 57) dX3_countsAreSound_41 (by decide) (by first | decide | exact Nat.lt_trans (hst _) (by decide)) (by first | decide | exact Nat.lt_trans (hst _) (by decide)) (fun c41 => ?_) (fun c41 => ?_)
              ·
                refine n_iinc (a := j) (y := j + 1) (lv' := [(3, .int (nI (j + 1))), (2, .int (nI (cntF (ownP st ow i) j))), (1, .int (nI i)), (0, .ref oh)]) dX3_countsAreSound_57 0 rfl (nI_inc _) (by decide) rfl ?_
                refine v_goto (tgt := 15) dX3_countsAreSound_60 (by decide) ?_
                refine v_cong (lv' := [(3, .int (nI (j + 1))), (2, .int (nI (cntF (ownP st ow i) (j + 1)))), (1, .int (nI i)), (0, .ref oh)]) (st' := []) (ws' := [(oh, .inr (2, [.ref as, .ref ao, .ref ab, .ref aq, .ref an])), (as, .inl (G.2.1 0, 32, .inl (fun j9 => nI (st j9)))), (ao, .inl (G.2.1 1, 32, .inl (fun j9 => nI (ow j9)))), (ab, .inl (G.2.1 1, 32, .inl (fun j9 => nI (bk j9)))), (aq, .inl (G.2.1 1, 4, .inl (fun j9 => nI (qu j9)))), (an, .inl (G.2.1 1, 4, .inl ct))]) (by first | rw [cntF_y (p := ownP st ow i) (by unfold ownP; exact decide_eq_true ⟨by assumption, by assumption⟩)] | rw [cntF_n (p := ownP st ow i) (by unfold ownP; exact decide_eq_false (fun h => absurd h.1 (by simpa using (by assumption))))] | rw [cntF_n (p := ownP st ow i) (by unfold ownP; exact decide_eq_false (fun h => absurd h.2 (by assumption)))]) rfl rfl ?_
                exact ih15 (j + 1) (by omega) (by omega)
              ·
                refine v_aload_n dX3_countsAreSound_44 rfl 3 rfl ?_
                refine v_get (ref := "Sealhouse$Heap") (C := RX3) (T := TX3) (N := 5) 0 1 dX3_countsAreSound_45 rfl rfl gin_X3 (by decide) kw_106 rfl rfl ?_
                refine v_iload_n dX3_countsAreSound_48 rfl 0 rfl ?_
                refine n_iald (i := j) (x := nI (ow j)) 2 dX3_countsAreSound_49 rfl (by omega) (by decide) rfl ?_
                refine v_iload_n dX3_countsAreSound_50 rfl 2 rfl ?_
                refine n_icmp_ne (a := ow j) (b := i) (tgt := 57) dX3_countsAreSound_51 (by decide) (by first | omega | exact Nat.lt_trans (how _) (by decide)) (by first | omega | exact Nat.lt_trans (how _) (by decide)) (fun c51 => ?_) (fun c51 => ?_)
                ·
                  refine n_iinc (a := j) (y := j + 1) (lv' := [(3, .int (nI (j + 1))), (2, .int (nI (cntF (ownP st ow i) j))), (1, .int (nI i)), (0, .ref oh)]) dX3_countsAreSound_57 0 rfl (nI_inc _) (by decide) rfl ?_
                  refine v_goto (tgt := 15) dX3_countsAreSound_60 (by decide) ?_
                  refine v_cong (lv' := [(3, .int (nI (j + 1))), (2, .int (nI (cntF (ownP st ow i) (j + 1)))), (1, .int (nI i)), (0, .ref oh)]) (st' := []) (ws' := [(oh, .inr (2, [.ref as, .ref ao, .ref ab, .ref aq, .ref an])), (as, .inl (G.2.1 0, 32, .inl (fun j9 => nI (st j9)))), (ao, .inl (G.2.1 1, 32, .inl (fun j9 => nI (ow j9)))), (ab, .inl (G.2.1 1, 32, .inl (fun j9 => nI (bk j9)))), (aq, .inl (G.2.1 1, 4, .inl (fun j9 => nI (qu j9)))), (an, .inl (G.2.1 1, 4, .inl ct))]) (by first | rw [cntF_y (p := ownP st ow i) (by unfold ownP; exact decide_eq_true ⟨by assumption, by assumption⟩)] | rw [cntF_n (p := ownP st ow i) (by unfold ownP; exact decide_eq_false (fun h => absurd h.1 (by simpa using (by assumption))))] | rw [cntF_n (p := ownP st ow i) (by unfold ownP; exact decide_eq_false (fun h => absurd h.2 (by assumption)))]) rfl rfl ?_
                  exact ih15 (j + 1) (by omega) (by omega)
                ·
                  refine n_iinc (a := cntF (ownP st ow i) j) (y := cntF (ownP st ow i) j + 1) (lv' := [(2, .int (nI (cntF (ownP st ow i) j + 1))), (3, .int (nI j)), (1, .int (nI i)), (0, .ref oh)]) dX3_countsAreSound_54 1 rfl (nI_inc _) (by decide) rfl ?_
                  refine n_iinc (a := j) (y := j + 1) (lv' := [(3, .int (nI (j + 1))), (2, .int (nI (cntF (ownP st ow i) j + 1))), (1, .int (nI i)), (0, .ref oh)]) dX3_countsAreSound_57 1 rfl (nI_inc _) (by decide) rfl ?_
                  refine v_goto (tgt := 15) dX3_countsAreSound_60 (by decide) ?_
                  refine v_cong (lv' := [(3, .int (nI (j + 1))), (2, .int (nI (cntF (ownP st ow i) (j + 1)))), (1, .int (nI i)), (0, .ref oh)]) (st' := []) (ws' := [(oh, .inr (2, [.ref as, .ref ao, .ref ab, .ref aq, .ref an])), (as, .inl (G.2.1 0, 32, .inl (fun j9 => nI (st j9)))), (ao, .inl (G.2.1 1, 32, .inl (fun j9 => nI (ow j9)))), (ab, .inl (G.2.1 1, 32, .inl (fun j9 => nI (bk j9)))), (aq, .inl (G.2.1 1, 4, .inl (fun j9 => nI (qu j9)))), (an, .inl (G.2.1 1, 4, .inl ct))]) (by first | rw [cntF_y (p := ownP st ow i) (by unfold ownP; exact decide_eq_true ⟨by assumption, by assumption⟩)] | rw [cntF_n (p := ownP st ow i) (by unfold ownP; exact decide_eq_false (fun h => absurd h.1 (by simpa using (by assumption))))] | rw [cntF_n (p := ownP st ow i) (by unfold ownP; exact decide_eq_false (fun h => absurd h.2 (by assumption)))]) rfl rfl ?_
                  exact ih15 (j + 1) (by omega) (by omega)
        exact L15 (32 - 0 + 1) 0 (by omega) (Nat.lt_succ_self _)
  exact L2 (4 - 0 + 1) 0 (by omega) (by rfl) (Nat.lt_succ_self _)
