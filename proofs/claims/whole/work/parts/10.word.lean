theorem lN_and (a b : Nat) : lN a &&& lN b = lN (a &&& b) := by
  unfold lN
  apply Int64.toBitVec_inj.mp
  simp only [Int64.toBitVec_and, Int64.toBitVec_ofNat']
  apply BitVec.eq_of_toNat_eq
  simp [BitVec.toNat_and, Nat.and_mod_two_pow]
theorem permits_eq (w : Int64) {m : Nat} (hm : m < 128) : lg_cmp (w >>> ((nI 47).toInt64 &&& 63) &&& (nI m).toInt64) (nI m).toInt64 = 0 ↔ wP w &&& m = m := by
  rw [lg0, nI_l (n := m) (by omega)]
  have hx : uL (w >>> ((nI 47).toInt64 &&& 63) &&& lN m) = wP w &&& m := by
    rw [uL_and, uL_lN (by omega)]
    apply Nat.eq_of_testBit_eq
    intro i
    rw [Nat.testBit_and, Nat.testBit_and]
    by_cases h : i < 7
    · unfold wP
      rw [Nat.testBit_mod_two_pow, Nat.testBit_div_two_pow]
      have e : (uL (w >>> ((nI 47).toInt64 &&& 63))).testBit i = (uL w).testBit (i + 47) := by
        unfold uL
        rw [Int64.toBitVec_shiftRight, BitVec.sshiftRight_eq', show ((((nI 47).toInt64 &&& 63).toBitVec).smod 64).toNat = 47 by decide]
        show ((w.toBitVec).sshiftRight 47).getLsbD i = w.toBitVec.getLsbD (i + 47)
        rw [BitVec.getLsbD_sshiftRight]
        simp only [show ¬ 64 ≤ i by omega, decide_false, Bool.not_false, Bool.true_and, show 47 + i < 64 by omega, if_true]
        rw [Nat.add_comm]
      rw [e]
      simp [h]
    · have : m.testBit i = false := Nat.testBit_lt_two_pow (Nat.lt_of_lt_of_le hm (Nat.pow_le_pow_right (n := 2) (by decide) (by omega : 7 ≤ i)))
      rw [this]; simp
  have h2 : wP w &&& m < 2 ^ 64 := Nat.lt_of_le_of_lt Nat.and_le_right (by omega)
  constructor
  · intro h
    rw [h, uL_lN (by omega)] at hx
    exact hx.symm
  · intro h
    apply uL_inj
    rw [hx, h, uL_lN (by omega)]
theorem dX0_down_0 : decode cX0_down 0 = .ok (.iload_n 0, 1) := by decide +kernel
theorem dX0_down_1 : decode cX0_down 1 = .ok (.iload_n 1, 1) := by decide +kernel
theorem dX0_down_2 : decode cX0_down 2 = .ok (.ineg, 1) := by decide +kernel
theorem dX0_down_3 : decode cX0_down 3 = .ok (.iand, 1) := by decide +kernel
theorem dX0_down_4 : decode cX0_down 4 = .ok (.ireturn, 1) := by decide +kernel
theorem hd_X0_down : yX0_down.cls ≠ "java/lang/invoke/MethodHandle" ∧ yX0_down.cls ≠ "java/lang/invoke/VarHandle" ∧ (parseMethodDescriptor yX0_down.desc).map (fun d => d.parameters.length) = some 2 := by decide +kernel
abbrev rm_X0_down : Room := { frames := 0, cells := 0, slots := 0, locals := 0 }
set_option maxHeartbeats 4000000 in
set_option maxRecDepth 100000 in
theorem c_X0_down (l : Launch) (G : Gx) (n : Nat) (u : Nat) (hn : n < 2147483648) (hu : isU u) : Mt l G yX0_down cX0_down 2 (some .int) rm_X0_down [.int (nI n), .int (nI u)] [] (D1 (some (.int (nI (dn n u)))) []) := by
  refine Mt.of (by decide) (Nat.le_of_ble_eq_true rfl) ?_
  intro K hl9 hn9 hR
  show V K G cX0_down RX0 2 rm_X0_down 0 0 0 [(0, .int (nI n)), (1, .int (nI u))] [] []
  refine v_iload_n dX0_down_0 rfl 0 rfl ?_
  refine v_iload_n dX0_down_1 rfl 1 rfl ?_
  refine v_ineg dX0_down_2 ?_
  refine v_iand dX0_down_3 ?_
  refine v_eqi (y := nI (dn n u)) (by exact dn_eq hn hu) ?_
  exact v_iret hR dX0_down_4 (by exact ⟨rfl, rfl⟩)
theorem dX0_up_0 : decode cX0_up 0 = .ok (.iload_n 0, 1) := by decide +kernel
theorem dX0_up_1 : decode cX0_up 1 = .ok (.iload_n 1, 1) := by decide +kernel
theorem dX0_up_2 : decode cX0_up 2 = .ok (.iadd, 1) := by decide +kernel
theorem dX0_up_3 : decode cX0_up 3 = .ok (.iconst 1, 1) := by decide +kernel
theorem dX0_up_4 : decode cX0_up 4 = .ok (.isub, 1) := by decide +kernel
theorem dX0_up_5 : decode cX0_up 5 = .ok (.iload_n 1, 1) := by decide +kernel
theorem dX0_up_6 : decode cX0_up 6 = .ok (.ineg, 1) := by decide +kernel
theorem dX0_up_7 : decode cX0_up 7 = .ok (.iand, 1) := by decide +kernel
theorem dX0_up_8 : decode cX0_up 8 = .ok (.ireturn, 1) := by decide +kernel
theorem hd_X0_up : yX0_up.cls ≠ "java/lang/invoke/MethodHandle" ∧ yX0_up.cls ≠ "java/lang/invoke/VarHandle" ∧ (parseMethodDescriptor yX0_up.desc).map (fun d => d.parameters.length) = some 2 := by decide +kernel
abbrev rm_X0_up : Room := { frames := 0, cells := 0, slots := 0, locals := 0 }
set_option maxHeartbeats 4000000 in
set_option maxRecDepth 100000 in
theorem c_X0_up (l : Launch) (G : Gx) (n : Nat) (u : Nat) (hn : n < 2147483000) (hu : isU u) : Mt l G yX0_up cX0_up 2 (some .int) rm_X0_up [.int (nI n), .int (nI u)] [] (D1 (some (.int (nI (up n u)))) []) := by
  refine Mt.of (by decide) (Nat.le_of_ble_eq_true rfl) ?_
  intro K hl9 hn9 hR
  show V K G cX0_up RX0 2 rm_X0_up 0 0 0 [(0, .int (nI n)), (1, .int (nI u))] [] []
  refine v_iload_n dX0_up_0 rfl 0 rfl ?_
  refine v_iload_n dX0_up_1 rfl 1 rfl ?_
  refine n_iadd (a := n) (b := u) (z := n + u) dX0_up_2 rfl ?_
  refine v_iconst (v := nI 1) dX0_up_3 (by decide) ?_
  refine n_isub (a := n + u) (b := 1) (z := (n + u) - 1) dX0_up_4 (by rcases hu with h | h | h | h | h <;> omega) ?_
  refine v_iload_n dX0_up_5 rfl 1 rfl ?_
  refine v_ineg dX0_up_6 ?_
  refine v_iand dX0_up_7 ?_
  refine v_eqi (y := nI (up n u)) (by exact dn_eq (by rcases hu with h | h | h | h | h <;> omega) hu) ?_
  exact v_iret hR dX0_up_8 (by exact ⟨rfl, rfl⟩)
theorem dX0_unit_0 : decode cX0_unit 0 = .ok (.iconst 1, 1) := by decide +kernel
theorem dX0_unit_1 : decode cX0_unit 1 = .ok (.istore_n 2, 1) := by decide +kernel
theorem dX0_unit_2 : decode cX0_unit 2 = .ok (.iload_n 2, 1) := by decide +kernel
theorem dX0_unit_3 : decode cX0_unit 3 = .ok (.bipush 16, 2) := by decide +kernel
theorem dX0_unit_5 : decode cX0_unit 5 = .ok (.if_icmp .ge 30, 3) := by decide +kernel
theorem dX0_unit_8 : decode cX0_unit 8 = .ok (.iload_n 1, 1) := by decide +kernel
theorem dX0_unit_9 : decode cX0_unit 9 = .ok (.iload_n 2, 1) := by decide +kernel
theorem dX0_unit_10 : decode cX0_unit 10 = .ok (.invokestatic 9, 3) := by decide +kernel
theorem dX0_unit_13 : decode cX0_unit 13 = .ok (.iload_n 0, 1) := by decide +kernel
theorem dX0_unit_14 : decode cX0_unit 14 = .ok (.iload_n 2, 1) := by decide +kernel
theorem dX0_unit_15 : decode cX0_unit 15 = .ok (.invokestatic 13, 3) := by decide +kernel
theorem dX0_unit_18 : decode cX0_unit 18 = .ok (.isub, 1) := by decide +kernel
theorem dX0_unit_19 : decode cX0_unit 19 = .ok (.bipush 8, 2) := by decide +kernel
theorem dX0_unit_21 : decode cX0_unit 21 = .ok (.iload_n 2, 1) := by decide +kernel
theorem dX0_unit_22 : decode cX0_unit 22 = .ok (.imul, 1) := by decide +kernel
theorem dX0_unit_23 : decode cX0_unit 23 = .ok (.if_icmp .gt 5, 3) := by decide +kernel
theorem dX0_unit_26 : decode cX0_unit 26 = .ok (.iload_n 2, 1) := by decide +kernel
theorem dX0_unit_27 : decode cX0_unit 27 = .ok (.ireturn, 1) := by decide +kernel
theorem dX0_unit_28 : decode cX0_unit 28 = .ok (.iload_n 2, 1) := by decide +kernel
theorem dX0_unit_29 : decode cX0_unit 29 = .ok (.iconst 2, 1) := by decide +kernel
theorem dX0_unit_30 : decode cX0_unit 30 = .ok (.imul, 1) := by decide +kernel
theorem dX0_unit_31 : decode cX0_unit 31 = .ok (.istore_n 2, 1) := by decide +kernel
theorem dX0_unit_32 : decode cX0_unit 32 = .ok (.goto (-30), 3) := by decide +kernel
theorem dX0_unit_35 : decode cX0_unit 35 = .ok (.bipush 16, 2) := by decide +kernel
theorem dX0_unit_37 : decode cX0_unit 37 = .ok (.ireturn, 1) := by decide +kernel
theorem hd_X0_unit : yX0_unit.cls ≠ "java/lang/invoke/MethodHandle" ∧ yX0_unit.cls ≠ "java/lang/invoke/VarHandle" ∧ (parseMethodDescriptor yX0_unit.desc).map (fun d => d.parameters.length) = some 2 := by decide +kernel
abbrev rm_X0_unit : Room := { frames := 1, cells := 0, slots := 0, locals := 21 }
set_option maxHeartbeats 4000000 in
set_option maxRecDepth 100000 in
theorem c_X0_unit (l : Launch) (G : Gx) (b : Nat) (t : Nat) (hb : b ≤ t) (ht : t < 2147480000) : Mt l G yX0_unit cX0_unit 3 (some .int) rm_X0_unit [.int (nI b), .int (nI t)] [] (D1 (some (.int (nI (unitOf b t)))) []) := by
  refine Mt.of (by decide) (Nat.le_of_ble_eq_true rfl) ?_
  intro K hl9 hn9 hR
  show V K G cX0_unit RX0 3 rm_X0_unit 0 0 0 [(0, .int (nI b)), (1, .int (nI t))] [] []
  refine v_iconst (v := nI 1) dX0_unit_0 (by decide) ?_
  refine v_istore_n (lv' := [(2, .int (nI 1)), (0, .int (nI b)), (1, .int (nI t))]) dX0_unit_1 rfl (by decide) rfl ?_
  refine v_iload_n dX0_unit_2 rfl 0 rfl ?_
  refine v_bipush (v := nI 16) dX0_unit_3 (by decide) ?_
  refine n_icmp_ge (a := 1) (b := 16) (tgt := 35) dX0_unit_5 (by decide) (by decide) (by decide) (fun c => absurd c (by decide)) (fun _ => ?_)
  refine v_iload_n dX0_unit_8 rfl 2 rfl ?_
  refine v_iload_n dX0_unit_9 rfl 0 rfl ?_
  refine c_S1 (As := [.int (nI t), .int (nI 1)]) (rest := []) (wr := []) (k' := 0) (n' := 0) (st2 := [.int (nI (up t 1))]) (ws2 := []) (c_X0_up K.2.1 G t 1 (by omega) (by exact Or.inl rfl)) [] [] dX0_unit_10 kw_421 kw_422 kw_52 kw_423 hd_X0_up ⟨Nat.le_of_ble_eq_true rfl, Nat.le_of_ble_eq_true rfl⟩ ⟨(by decide), (by decide)⟩ ⟨rfl, rfl⟩ (Nat.le_of_ble_eq_true rfl) rfl rfl rfl rfl rfl rfl (by decide) [] rfl rfl rfl rfl ?_
  refine v_iload_n dX0_unit_13 rfl 1 rfl ?_
  refine v_iload_n dX0_unit_14 rfl 0 rfl ?_
  refine c_S1 (As := [.int (nI b), .int (nI 1)]) (rest := [.int (nI (up t 1))]) (wr := []) (k' := 0) (n' := 0) (st2 := [.int (nI (dn b 1)), .int (nI (up t 1))]) (ws2 := []) (c_X0_down K.2.1 G b 1 (by omega) (by exact Or.inl rfl)) [] [] dX0_unit_15 kw_424 kw_425 kw_52 kw_426 hd_X0_down ⟨Nat.le_of_ble_eq_true rfl, Nat.le_of_ble_eq_true rfl⟩ ⟨(by decide), (by decide)⟩ ⟨rfl, rfl⟩ (Nat.le_of_ble_eq_true rfl) rfl rfl rfl rfl rfl rfl (by decide) [] rfl rfl rfl rfl ?_
  refine n_isub (a := up t 1) (b := dn b 1) (z := (up t 1) - (dn b 1)) dX0_unit_18 (show up t 1 = dn b 1 + (up t 1 - dn b 1) from by have h1 := dn_le b 1; have h2 := le_up (n := t) (u := 1) (by decide); omega) ?_
  refine v_bipush (v := nI 8) dX0_unit_19 (by decide) ?_
  refine v_iload_n dX0_unit_21 rfl 0 rfl ?_
  refine n_imul (a := 8) (b := 1) (z := 8) dX0_unit_22 rfl ?_
  refine n_icmp_gt (a := (up t 1) - (dn b 1)) (b := 8) (tgt := 28) dX0_unit_23 (by decide) (by have h2 := up_lt t 1 (by decide); omega) (by have h2 := up_lt t 1 (by decide); omega) (fun c23_1 => ?_) (fun c23_1 => ?_)
  ·
    refine v_iload_n dX0_unit_28 rfl 0 rfl ?_
    refine v_iconst (v := nI 2) dX0_unit_29 (by decide) ?_
    refine n_imul (a := 1) (b := 2) (z := 2) dX0_unit_30 rfl ?_
    refine v_istore_n (lv' := [(2, .int (nI 2)), (0, .int (nI b)), (1, .int (nI t))]) dX0_unit_31 rfl (by decide) rfl ?_
    refine v_goto (tgt := 2) dX0_unit_32 (by decide) ?_
    refine v_iload_n dX0_unit_2 rfl 0 rfl ?_
    refine v_bipush (v := nI 16) dX0_unit_3 (by decide) ?_
    refine n_icmp_ge (a := 2) (b := 16) (tgt := 35) dX0_unit_5 (by decide) (by decide) (by decide) (fun c => absurd c (by decide)) (fun _ => ?_)
    refine v_iload_n dX0_unit_8 rfl 2 rfl ?_
    refine v_iload_n dX0_unit_9 rfl 0 rfl ?_
    refine c_S1 (As := [.int (nI t), .int (nI 2)]) (rest := []) (wr := []) (k' := 0) (n' := 0) (st2 := [.int (nI (up t 2))]) (ws2 := []) (c_X0_up K.2.1 G t 2 (by omega) (by exact Or.inr (Or.inl rfl))) [] [] dX0_unit_10 kw_421 kw_422 kw_52 kw_423 hd_X0_up ⟨Nat.le_of_ble_eq_true rfl, Nat.le_of_ble_eq_true rfl⟩ ⟨(by decide), (by decide)⟩ ⟨rfl, rfl⟩ (Nat.le_of_ble_eq_true rfl) rfl rfl rfl rfl rfl rfl (by decide) [] rfl rfl rfl rfl ?_
    refine v_iload_n dX0_unit_13 rfl 1 rfl ?_
    refine v_iload_n dX0_unit_14 rfl 0 rfl ?_
    refine c_S1 (As := [.int (nI b), .int (nI 2)]) (rest := [.int (nI (up t 2))]) (wr := []) (k' := 0) (n' := 0) (st2 := [.int (nI (dn b 2)), .int (nI (up t 2))]) (ws2 := []) (c_X0_down K.2.1 G b 2 (by omega) (by exact Or.inr (Or.inl rfl))) [] [] dX0_unit_15 kw_424 kw_425 kw_52 kw_426 hd_X0_down ⟨Nat.le_of_ble_eq_true rfl, Nat.le_of_ble_eq_true rfl⟩ ⟨(by decide), (by decide)⟩ ⟨rfl, rfl⟩ (Nat.le_of_ble_eq_true rfl) rfl rfl rfl rfl rfl rfl (by decide) [] rfl rfl rfl rfl ?_
    refine n_isub (a := up t 2) (b := dn b 2) (z := (up t 2) - (dn b 2)) dX0_unit_18 (show up t 2 = dn b 2 + (up t 2 - dn b 2) from by have h1 := dn_le b 2; have h2 := le_up (n := t) (u := 2) (by decide); omega) ?_
    refine v_bipush (v := nI 8) dX0_unit_19 (by decide) ?_
    refine v_iload_n dX0_unit_21 rfl 0 rfl ?_
    refine n_imul (a := 8) (b := 2) (z := 16) dX0_unit_22 rfl ?_
    refine n_icmp_gt (a := (up t 2) - (dn b 2)) (b := 16) (tgt := 28) dX0_unit_23 (by decide) (by have h2 := up_lt t 2 (by decide); omega) (by have h2 := up_lt t 2 (by decide); omega) (fun c23_2 => ?_) (fun c23_2 => ?_)
    ·
      refine v_iload_n dX0_unit_28 rfl 0 rfl ?_
      refine v_iconst (v := nI 2) dX0_unit_29 (by decide) ?_
      refine n_imul (a := 2) (b := 2) (z := 4) dX0_unit_30 rfl ?_
      refine v_istore_n (lv' := [(2, .int (nI 4)), (0, .int (nI b)), (1, .int (nI t))]) dX0_unit_31 rfl (by decide) rfl ?_
      refine v_goto (tgt := 2) dX0_unit_32 (by decide) ?_
      refine v_iload_n dX0_unit_2 rfl 0 rfl ?_
      refine v_bipush (v := nI 16) dX0_unit_3 (by decide) ?_
      refine n_icmp_ge (a := 4) (b := 16) (tgt := 35) dX0_unit_5 (by decide) (by decide) (by decide) (fun c => absurd c (by decide)) (fun _ => ?_)
      refine v_iload_n dX0_unit_8 rfl 2 rfl ?_
      refine v_iload_n dX0_unit_9 rfl 0 rfl ?_
      refine c_S1 (As := [.int (nI t), .int (nI 4)]) (rest := []) (wr := []) (k' := 0) (n' := 0) (st2 := [.int (nI (up t 4))]) (ws2 := []) (c_X0_up K.2.1 G t 4 (by omega) (by exact Or.inr (Or.inr (Or.inl rfl)))) [] [] dX0_unit_10 kw_421 kw_422 kw_52 kw_423 hd_X0_up ⟨Nat.le_of_ble_eq_true rfl, Nat.le_of_ble_eq_true rfl⟩ ⟨(by decide), (by decide)⟩ ⟨rfl, rfl⟩ (Nat.le_of_ble_eq_true rfl) rfl rfl rfl rfl rfl rfl (by decide) [] rfl rfl rfl rfl ?_
      refine v_iload_n dX0_unit_13 rfl 1 rfl ?_
      refine v_iload_n dX0_unit_14 rfl 0 rfl ?_
      refine c_S1 (As := [.int (nI b), .int (nI 4)]) (rest := [.int (nI (up t 4))]) (wr := []) (k' := 0) (n' := 0) (st2 := [.int (nI (dn b 4)), .int (nI (up t 4))]) (ws2 := []) (c_X0_down K.2.1 G b 4 (by omega) (by exact Or.inr (Or.inr (Or.inl rfl)))) [] [] dX0_unit_15 kw_424 kw_425 kw_52 kw_426 hd_X0_down ⟨Nat.le_of_ble_eq_true rfl, Nat.le_of_ble_eq_true rfl⟩ ⟨(by decide), (by decide)⟩ ⟨rfl, rfl⟩ (Nat.le_of_ble_eq_true rfl) rfl rfl rfl rfl rfl rfl (by decide) [] rfl rfl rfl rfl ?_
      refine n_isub (a := up t 4) (b := dn b 4) (z := (up t 4) - (dn b 4)) dX0_unit_18 (show up t 4 = dn b 4 + (up t 4 - dn b 4) from by have h1 := dn_le b 4; have h2 := le_up (n := t) (u := 4) (by decide); omega) ?_
      refine v_bipush (v := nI 8) dX0_unit_19 (by decide) ?_
      refine v_iload_n dX0_unit_21 rfl 0 rfl ?_
      refine n_imul (a := 8) (b := 4) (z := 32) dX0_unit_22 rfl ?_
      refine n_icmp_gt (a := (up t 4) - (dn b 4)) (b := 32) (tgt := 28) dX0_unit_23 (by decide) (by have h2 := up_lt t 4 (by decide); omega) (by have h2 := up_lt t 4 (by decide); omega) (fun c23_3 => ?_) (fun c23_3 => ?_)
      ·
        refine v_iload_n dX0_unit_28 rfl 0 rfl ?_
        refine v_iconst (v := nI 2) dX0_unit_29 (by decide) ?_
        refine n_imul (a := 4) (b := 2) (z := 8) dX0_unit_30 rfl ?_
        refine v_istore_n (lv' := [(2, .int (nI 8)), (0, .int (nI b)), (1, .int (nI t))]) dX0_unit_31 rfl (by decide) rfl ?_
        refine v_goto (tgt := 2) dX0_unit_32 (by decide) ?_
        refine v_iload_n dX0_unit_2 rfl 0 rfl ?_
        refine v_bipush (v := nI 16) dX0_unit_3 (by decide) ?_
        refine n_icmp_ge (a := 8) (b := 16) (tgt := 35) dX0_unit_5 (by decide) (by decide) (by decide) (fun c => absurd c (by decide)) (fun _ => ?_)
        refine v_iload_n dX0_unit_8 rfl 2 rfl ?_
        refine v_iload_n dX0_unit_9 rfl 0 rfl ?_
        refine c_S1 (As := [.int (nI t), .int (nI 8)]) (rest := []) (wr := []) (k' := 0) (n' := 0) (st2 := [.int (nI (up t 8))]) (ws2 := []) (c_X0_up K.2.1 G t 8 (by omega) (by exact Or.inr (Or.inr (Or.inr (Or.inl rfl))))) [] [] dX0_unit_10 kw_421 kw_422 kw_52 kw_423 hd_X0_up ⟨Nat.le_of_ble_eq_true rfl, Nat.le_of_ble_eq_true rfl⟩ ⟨(by decide), (by decide)⟩ ⟨rfl, rfl⟩ (Nat.le_of_ble_eq_true rfl) rfl rfl rfl rfl rfl rfl (by decide) [] rfl rfl rfl rfl ?_
        refine v_iload_n dX0_unit_13 rfl 1 rfl ?_
        refine v_iload_n dX0_unit_14 rfl 0 rfl ?_
        refine c_S1 (As := [.int (nI b), .int (nI 8)]) (rest := [.int (nI (up t 8))]) (wr := []) (k' := 0) (n' := 0) (st2 := [.int (nI (dn b 8)), .int (nI (up t 8))]) (ws2 := []) (c_X0_down K.2.1 G b 8 (by omega) (by exact Or.inr (Or.inr (Or.inr (Or.inl rfl))))) [] [] dX0_unit_15 kw_424 kw_425 kw_52 kw_426 hd_X0_down ⟨Nat.le_of_ble_eq_true rfl, Nat.le_of_ble_eq_true rfl⟩ ⟨(by decide), (by decide)⟩ ⟨rfl, rfl⟩ (Nat.le_of_ble_eq_true rfl) rfl rfl rfl rfl rfl rfl (by decide) [] rfl rfl rfl rfl ?_
        refine n_isub (a := up t 8) (b := dn b 8) (z := (up t 8) - (dn b 8)) dX0_unit_18 (show up t 8 = dn b 8 + (up t 8 - dn b 8) from by have h1 := dn_le b 8; have h2 := le_up (n := t) (u := 8) (by decide); omega) ?_
        refine v_bipush (v := nI 8) dX0_unit_19 (by decide) ?_
        refine v_iload_n dX0_unit_21 rfl 0 rfl ?_
        refine n_imul (a := 8) (b := 8) (z := 64) dX0_unit_22 rfl ?_
        refine n_icmp_gt (a := (up t 8) - (dn b 8)) (b := 64) (tgt := 28) dX0_unit_23 (by decide) (by have h2 := up_lt t 8 (by decide); omega) (by have h2 := up_lt t 8 (by decide); omega) (fun c23_4 => ?_) (fun c23_4 => ?_)
        ·
          refine v_iload_n dX0_unit_28 rfl 0 rfl ?_
          refine v_iconst (v := nI 2) dX0_unit_29 (by decide) ?_
          refine n_imul (a := 8) (b := 2) (z := 16) dX0_unit_30 rfl ?_
          refine v_istore_n (lv' := [(2, .int (nI 16)), (0, .int (nI b)), (1, .int (nI t))]) dX0_unit_31 rfl (by decide) rfl ?_
          refine v_goto (tgt := 2) dX0_unit_32 (by decide) ?_
          refine v_iload_n dX0_unit_2 rfl 0 rfl ?_
          refine v_bipush (v := nI 16) dX0_unit_3 (by decide) ?_
          refine n_icmp_ge (a := 16) (b := 16) (tgt := 35) dX0_unit_5 (by decide) (by decide) (by decide) (fun _ => ?_) (fun c => absurd c (by decide))
          refine v_bipush (v := nI 16) dX0_unit_35 (by decide) ?_
          exact v_iret hR dX0_unit_37 (by refine ⟨?_, rfl⟩; rw [unitOf, if_neg (by omega), if_neg (by omega), if_neg (by omega), if_neg (by omega)])
        ·
          refine v_iload_n dX0_unit_26 rfl 0 rfl ?_
          exact v_iret hR dX0_unit_27 (by refine ⟨?_, rfl⟩; rw [unitOf]; rw [if_neg (by omega)]; rw [if_neg (by omega)]; rw [if_neg (by omega)]; rw [if_pos (by omega)])
      ·
        refine v_iload_n dX0_unit_26 rfl 0 rfl ?_
        exact v_iret hR dX0_unit_27 (by refine ⟨?_, rfl⟩; rw [unitOf]; rw [if_neg (by omega)]; rw [if_neg (by omega)]; rw [if_pos (by omega)])
    ·
      refine v_iload_n dX0_unit_26 rfl 0 rfl ?_
      exact v_iret hR dX0_unit_27 (by refine ⟨?_, rfl⟩; rw [unitOf]; rw [if_neg (by omega)]; rw [if_pos (by omega)])
  ·
    refine v_iload_n dX0_unit_26 rfl 0 rfl ?_
    exact v_iret hR dX0_unit_27 (by refine ⟨?_, rfl⟩; rw [unitOf]; rw [if_pos (by omega)])
theorem dX0_needNoRounding_0 : decode cX0_needNoRounding 0 = .ok (.iload_n 0, 1) := by decide +kernel
theorem dX0_needNoRounding_1 : decode cX0_needNoRounding 1 = .ok (.iload_n 1, 1) := by decide +kernel
theorem dX0_needNoRounding_2 : decode cX0_needNoRounding 2 = .ok (.invokestatic 16, 3) := by decide +kernel
theorem dX0_needNoRounding_5 : decode cX0_needNoRounding 5 = .ok (.istore_n 2, 1) := by decide +kernel
theorem dX0_needNoRounding_6 : decode cX0_needNoRounding 6 = .ok (.iload_n 0, 1) := by decide +kernel
theorem dX0_needNoRounding_7 : decode cX0_needNoRounding 7 = .ok (.iload_n 2, 1) := by decide +kernel
theorem dX0_needNoRounding_8 : decode cX0_needNoRounding 8 = .ok (.invokestatic 13, 3) := by decide +kernel
theorem dX0_needNoRounding_11 : decode cX0_needNoRounding 11 = .ok (.iload_n 0, 1) := by decide +kernel
theorem dX0_needNoRounding_12 : decode cX0_needNoRounding 12 = .ok (.if_icmp .ne 16, 3) := by decide +kernel
theorem dX0_needNoRounding_15 : decode cX0_needNoRounding 15 = .ok (.iload_n 1, 1) := by decide +kernel
theorem dX0_needNoRounding_16 : decode cX0_needNoRounding 16 = .ok (.iload_n 2, 1) := by decide +kernel
theorem dX0_needNoRounding_17 : decode cX0_needNoRounding 17 = .ok (.invokestatic 9, 3) := by decide +kernel
theorem dX0_needNoRounding_20 : decode cX0_needNoRounding 20 = .ok (.iload_n 1, 1) := by decide +kernel
theorem dX0_needNoRounding_21 : decode cX0_needNoRounding 21 = .ok (.if_icmp .ne 7, 3) := by decide +kernel
theorem dX0_needNoRounding_24 : decode cX0_needNoRounding 24 = .ok (.iconst 1, 1) := by decide +kernel
theorem dX0_needNoRounding_25 : decode cX0_needNoRounding 25 = .ok (.goto 4, 3) := by decide +kernel
theorem dX0_needNoRounding_28 : decode cX0_needNoRounding 28 = .ok (.iconst 0, 1) := by decide +kernel
theorem dX0_needNoRounding_29 : decode cX0_needNoRounding 29 = .ok (.ireturn, 1) := by decide +kernel
theorem hd_X0_needNoRounding : yX0_needNoRounding.cls ≠ "java/lang/invoke/MethodHandle" ∧ yX0_needNoRounding.cls ≠ "java/lang/invoke/VarHandle" ∧ (parseMethodDescriptor yX0_needNoRounding.desc).map (fun d => d.parameters.length) = some 2 := by decide +kernel
abbrev rm_X0_needNoRounding : Room := { frames := 2, cells := 0, slots := 0, locals := 43 }
set_option maxHeartbeats 4000000 in
set_option maxRecDepth 100000 in
theorem c_X0_needNoRounding (l : Launch) (G : Gx) (b : Nat) (t : Nat) (hb : b ≤ t) (ht : t < 2147480000) : Mt l G yX0_needNoRounding cX0_needNoRounding 3 (some .boolean) rm_X0_needNoRounding [.int (nI b), .int (nI t)] [] (D1 (some (.int (bI (exactB b t)))) []) := by
  refine Mt.of (by decide) (Nat.le_of_ble_eq_true rfl) ?_
  intro K hl9 hn9 hR
  show V K G cX0_needNoRounding RX0 3 rm_X0_needNoRounding 0 0 0 [(0, .int (nI b)), (1, .int (nI t))] [] []
  refine v_iload_n dX0_needNoRounding_0 rfl 0 rfl ?_
  refine v_iload_n dX0_needNoRounding_1 rfl 1 rfl ?_
  refine c_S1 (As := [.int (nI b), .int (nI t)]) (rest := []) (wr := []) (k' := 0) (n' := 0) (st2 := [.int (nI (unitOf b t))]) (ws2 := []) (c_X0_unit K.2.1 G b t (by omega) (by omega)) [] [] dX0_needNoRounding_2 kw_418 kw_419 kw_52 kw_420 hd_X0_unit ⟨Nat.le_of_ble_eq_true rfl, Nat.le_of_ble_eq_true rfl⟩ ⟨(by decide), (by decide)⟩ ⟨rfl, rfl⟩ (Nat.le_of_ble_eq_true rfl) rfl rfl rfl rfl rfl rfl (by decide) [] rfl rfl rfl rfl ?_
  refine v_istore_n (lv' := [(2, .int (nI (unitOf b t))), (0, .int (nI b)), (1, .int (nI t))]) dX0_needNoRounding_5 rfl (by decide) rfl ?_
  refine v_iload_n dX0_needNoRounding_6 rfl 1 rfl ?_
  refine v_iload_n dX0_needNoRounding_7 rfl 0 rfl ?_
  refine c_S1 (As := [.int (nI b), .int (nI (unitOf b t))]) (rest := []) (wr := []) (k' := 0) (n' := 0) (st2 := [.int (nI (dn b (unitOf b t)))]) (ws2 := []) (c_X0_down K.2.1 G b (unitOf b t) (by omega) (by exact unitOf_isU b t)) [] [] dX0_needNoRounding_8 kw_424 kw_425 kw_52 kw_426 hd_X0_down ⟨Nat.le_of_ble_eq_true rfl, Nat.le_of_ble_eq_true rfl⟩ ⟨(by decide), (by decide)⟩ ⟨rfl, rfl⟩ (Nat.le_of_ble_eq_true rfl) rfl rfl rfl rfl rfl rfl (by decide) [] rfl rfl rfl rfl ?_
  refine v_iload_n dX0_needNoRounding_11 rfl 1 rfl ?_
  skip
  refine n_icmp_ne (a := dn b (unitOf b t)) (b := b) (tgt := 28) dX0_needNoRounding_12 (by decide) (by have := dn_le b (unitOf b t); omega) (by have := dn_le b (unitOf b t); omega) (fun c12 => ?_) (fun c12 => ?_)
  ·
    refine v_iconst (v := nI 0) dX0_needNoRounding_28 (by decide) ?_
    refine v_eqi (y := bI false) (by decide) ?_
    exact v_zret hR dX0_needNoRounding_29 (bI_nar _) (by refine ⟨?_, rfl⟩; unfold exactB; simp [*])
  ·
    refine v_iload_n dX0_needNoRounding_15 rfl 2 rfl ?_
    refine v_iload_n dX0_needNoRounding_16 rfl 0 rfl ?_
    refine c_S1 (As := [.int (nI t), .int (nI (unitOf b t))]) (rest := []) (wr := []) (k' := 0) (n' := 0) (st2 := [.int (nI (up t (unitOf b t)))]) (ws2 := []) (c_X0_up K.2.1 G t (unitOf b t) (by omega) (by exact unitOf_isU b t)) [] [] dX0_needNoRounding_17 kw_421 kw_422 kw_52 kw_423 hd_X0_up ⟨Nat.le_of_ble_eq_true rfl, Nat.le_of_ble_eq_true rfl⟩ ⟨(by decide), (by decide)⟩ ⟨rfl, rfl⟩ (Nat.le_of_ble_eq_true rfl) rfl rfl rfl rfl rfl rfl (by decide) [] rfl rfl rfl rfl ?_
    refine v_iload_n dX0_needNoRounding_20 rfl 2 rfl ?_
    refine n_icmp_ne (a := up t (unitOf b t)) (b := t) (tgt := 28) dX0_needNoRounding_21 (by decide) (by have h2 := up_lt t (unitOf b t) (by have := unitOf_isU b t; rcases this with h | h | h | h | h <;> omega); have := unitOf_isU b t; rcases this with h | h | h | h | h <;> omega) (by have h2 := up_lt t (unitOf b t) (by have := unitOf_isU b t; rcases this with h | h | h | h | h <;> omega); have := unitOf_isU b t; rcases this with h | h | h | h | h <;> omega) (fun c21 => ?_) (fun c21 => ?_)
    ·
      refine v_iconst (v := nI 0) dX0_needNoRounding_28 (by decide) ?_
      refine v_eqi (y := bI false) (by decide) ?_
      exact v_zret hR dX0_needNoRounding_29 (bI_nar _) (by refine ⟨?_, rfl⟩; unfold exactB; simp [*])
    ·
      refine v_iconst (v := nI 1) dX0_needNoRounding_24 (by decide) ?_
      refine v_goto (tgt := 29) dX0_needNoRounding_25 (by decide) ?_
      refine v_eqi (y := bI true) (by decide) ?_
      exact v_zret hR dX0_needNoRounding_29 (bI_nar _) (by refine ⟨?_, rfl⟩; unfold exactB; simp [*])
theorem dX6_number_0 : decode cX6_number 0 = .ok (.iload_n 0, 1) := by decide +kernel
theorem dX6_number_1 : decode cX6_number 1 = .ok (.i2l, 1) := by decide +kernel
theorem dX6_number_2 : decode cX6_number 2 = .ok (.ldc2_w 9, 3) := by decide +kernel
theorem dX6_number_5 : decode cX6_number 5 = .ok (.land, 1) := by decide +kernel
theorem dX6_number_6 : decode cX6_number 6 = .ok (.lreturn, 1) := by decide +kernel
theorem hd_X6_number : yX6_number.cls ≠ "java/lang/invoke/MethodHandle" ∧ yX6_number.cls ≠ "java/lang/invoke/VarHandle" ∧ (parseMethodDescriptor yX6_number.desc).map (fun d => d.parameters.length) = some 1 := by decide +kernel
abbrev rm_X6_number : Room := { frames := 0, cells := 0, slots := 0, locals := 0 }
set_option maxHeartbeats 4000000 in
set_option maxRecDepth 100000 in
theorem c_X6_number (l : Launch) (G : Gx) (n : Int32) : Mt l G yX6_number cX6_number 1 (some .long) rm_X6_number [.int n] [] (D1 (some (.long (mkN n))) []) := by
  refine Mt.of (by decide) (Nat.le_of_ble_eq_true rfl) ?_
  intro K hl9 hn9 hR
  show V K G cX6_number RX6 1 rm_X6_number 0 0 0 [(0, .int n)] [] []
  refine v_iload_n dX6_number_0 rfl 0 rfl ?_
  refine v_i2l dX6_number_1 ?_
  refine v_ldc2 (v := (4294967295)) dX6_number_2 kw_209 ?_
  refine v_land dX6_number_5 ?_
  refine v_eql (y := mkN n) (by exact mkN_eq n) ?_
  exact v_lret hR dX6_number_6 (by exact ⟨rfl, rfl⟩)
theorem dX6_right_0 : decode cX6_right 0 = .ok (.iload_n 2, 1) := by decide +kernel
theorem dX6_right_1 : decode cX6_right 1 = .ok (.iload_n 0, 1) := by decide +kernel
theorem dX6_right_2 : decode cX6_right 2 = .ok (.bipush 8, 2) := by decide +kernel
theorem dX6_right_4 : decode cX6_right 4 = .ok (.isub, 1) := by decide +kernel
theorem dX6_right_5 : decode cX6_right 5 = .ok (.if_icmp .lt 11, 3) := by decide +kernel
theorem dX6_right_8 : decode cX6_right 8 = .ok (.iload_n 2, 1) := by decide +kernel
theorem dX6_right_9 : decode cX6_right 9 = .ok (.iload_n 1, 1) := by decide +kernel
theorem dX6_right_10 : decode cX6_right 10 = .ok (.bipush 8, 2) := by decide +kernel
theorem dX6_right_12 : decode cX6_right 12 = .ok (.iadd, 1) := by decide +kernel
theorem dX6_right_13 : decode cX6_right 13 = .ok (.if_icmp .le 8, 3) := by decide +kernel
theorem dX6_right_16 : decode cX6_right 16 = .ok (.iload_n 2, 1) := by decide +kernel
theorem dX6_right_17 : decode cX6_right 17 = .ok (.invokestatic 11, 3) := by decide +kernel
theorem dX6_right_20 : decode cX6_right 20 = .ok (.lreturn, 1) := by decide +kernel
theorem dX6_right_21 : decode cX6_right 21 = .ok (.iload_n 2, 1) := by decide +kernel
theorem dX6_right_22 : decode cX6_right 22 = .ok (.invokestatic 11, 3) := by decide +kernel
theorem dX6_right_25 : decode cX6_right 25 = .ok (.ldc2_w 15, 3) := by decide +kernel
theorem dX6_right_28 : decode cX6_right 28 = .ok (.lor, 1) := by decide +kernel
theorem dX6_right_29 : decode cX6_right 29 = .ok (.iload_n 0, 1) := by decide +kernel
theorem dX6_right_30 : decode cX6_right 30 = .ok (.bipush 127, 2) := by decide +kernel
theorem dX6_right_32 : decode cX6_right 32 = .ok (.iand, 1) := by decide +kernel
theorem dX6_right_33 : decode cX6_right 33 = .ok (.i2l, 1) := by decide +kernel
theorem dX6_right_34 : decode cX6_right 34 = .ok (.bipush 33, 2) := by decide +kernel
theorem dX6_right_36 : decode cX6_right 36 = .ok (.lshl, 1) := by decide +kernel
theorem dX6_right_37 : decode cX6_right 37 = .ok (.lor, 1) := by decide +kernel
theorem dX6_right_38 : decode cX6_right 38 = .ok (.iload_n 1, 1) := by decide +kernel
theorem dX6_right_39 : decode cX6_right 39 = .ok (.bipush 127, 2) := by decide +kernel
theorem dX6_right_41 : decode cX6_right 41 = .ok (.iand, 1) := by decide +kernel
theorem dX6_right_42 : decode cX6_right 42 = .ok (.i2l, 1) := by decide +kernel
theorem dX6_right_43 : decode cX6_right 43 = .ok (.bipush 40, 2) := by decide +kernel
theorem dX6_right_45 : decode cX6_right 45 = .ok (.lshl, 1) := by decide +kernel
theorem dX6_right_46 : decode cX6_right 46 = .ok (.lor, 1) := by decide +kernel
theorem dX6_right_47 : decode cX6_right 47 = .ok (.iload_n 3, 1) := by decide +kernel
theorem dX6_right_48 : decode cX6_right 48 = .ok (.bipush 127, 2) := by decide +kernel
theorem dX6_right_50 : decode cX6_right 50 = .ok (.iand, 1) := by decide +kernel
theorem dX6_right_51 : decode cX6_right 51 = .ok (.i2l, 1) := by decide +kernel
theorem dX6_right_52 : decode cX6_right 52 = .ok (.bipush 47, 2) := by decide +kernel
theorem dX6_right_54 : decode cX6_right 54 = .ok (.lshl, 1) := by decide +kernel
theorem dX6_right_55 : decode cX6_right 55 = .ok (.lor, 1) := by decide +kernel
theorem dX6_right_56 : decode cX6_right 56 = .ok (.iload 4, 2) := by decide +kernel
theorem dX6_right_58 : decode cX6_right 58 = .ok (.bipush 7, 2) := by decide +kernel
theorem dX6_right_60 : decode cX6_right 60 = .ok (.iand, 1) := by decide +kernel
theorem dX6_right_61 : decode cX6_right 61 = .ok (.i2l, 1) := by decide +kernel
theorem dX6_right_62 : decode cX6_right 62 = .ok (.bipush 54, 2) := by decide +kernel
theorem dX6_right_64 : decode cX6_right 64 = .ok (.lshl, 1) := by decide +kernel
theorem dX6_right_65 : decode cX6_right 65 = .ok (.lor, 1) := by decide +kernel
theorem dX6_right_66 : decode cX6_right 66 = .ok (.lreturn, 1) := by decide +kernel
theorem hd_X6_right : yX6_right.cls ≠ "java/lang/invoke/MethodHandle" ∧ yX6_right.cls ≠ "java/lang/invoke/VarHandle" ∧ (parseMethodDescriptor yX6_right.desc).map (fun d => d.parameters.length) = some 5 := by decide +kernel
abbrev rm_X6_right : Room := { frames := 1, cells := 0, slots := 0, locals := 20 }
set_option maxHeartbeats 4000000 in
set_option maxRecDepth 100000 in
theorem c_X6_right (l : Launch) (G : Gx) (b : Nat) (t : Nat) (a : Int32) (p : Nat) (s : Nat) (hb : b < 128) (ht : t < 128) (hp : p < 128) (hs : s < 8) : Mt l G yX6_right cX6_right 5 (some .long) rm_X6_right [.int (nI b), .int (nI t), .int a, .int (nI p), .int (nI s)] [] (D1 (some (.long (wRt b t a p s))) []) := by
  refine Mt.of (by decide) (Nat.le_of_ble_eq_true rfl) ?_
  intro K hl9 hn9 hR
  show V K G cX6_right RX6 5 rm_X6_right 0 0 0 [(0, .int (nI b)), (1, .int (nI t)), (2, .int a), (3, .int (nI p)), (4, .int (nI s))] [] []
  refine v_iload_n dX6_right_0 rfl 2 rfl ?_
  refine v_iload_n dX6_right_1 rfl 0 rfl ?_
  refine v_bipush (v := nI 8) dX6_right_2 (by decide) ?_
  refine v_isub dX6_right_4 ?_
  refine v_icmp_lt (x := a) (y := (nI b) - (nI 8)) (tgt := 16) dX6_right_5 (by decide) (fun c5 => ?_) (fun c5 => ?_)
  ·
    refine v_iload_n dX6_right_16 rfl 2 rfl ?_
    have e17 : wRt b t a p s = mkN a := by
      unfold wRt
      simp only [Int32.lt_iff_toInt_lt, Int32.le_iff_toInt_le, pk_sub_toInt (by omega : b < 2 ^ 30) (by omega : 8 < 2 ^ 30), nI_toInt (by omega : t + 8 < 2 ^ 31)] at *
      exact if_pos (by omega)
    refine c_S1 (As := [.int a]) (rest := []) (wr := []) (k' := 0) (n' := 0) (st2 := [.long (mkN a)]) (ws2 := []) (c_X6_number K.2.1 G a ) [] [] dX6_right_17 kw_232 kw_207 kw_45 kw_208 hd_X6_number ⟨Nat.le_of_ble_eq_true rfl, Nat.le_of_ble_eq_true rfl⟩ ⟨(by decide), (by decide)⟩ ⟨rfl, rfl⟩ (Nat.le_of_ble_eq_true rfl) rfl rfl rfl rfl rfl rfl (by decide) [] rfl rfl rfl rfl ?_
    exact v_lret hR dX6_right_20 (by refine ⟨?_, rfl⟩; rw [e17])
  ·
    refine v_iload_n dX6_right_8 rfl 2 rfl ?_
    refine v_iload_n dX6_right_9 rfl 1 rfl ?_
    refine v_bipush (v := nI 8) dX6_right_10 (by decide) ?_
    refine n_iadd (a := t) (b := 8) (z := t + 8) dX6_right_12 rfl ?_
    refine v_icmp_le (x := a) (y := nI (t + 8)) (tgt := 21) dX6_right_13 (by decide) (fun c13 => ?_) (fun c13 => ?_)
    ·
      have e21 : wRt b t a p s = mkR b t a p s := by
        unfold wRt
        simp only [Int32.lt_iff_toInt_lt, Int32.le_iff_toInt_le, pk_sub_toInt (by omega : b < 2 ^ 30) (by omega : 8 < 2 ^ 30), nI_toInt (by omega : t + 8 < 2 ^ 31)] at *
        exact if_neg (by omega)
      refine v_iload_n dX6_right_21 rfl 2 rfl ?_
      refine c_S1 (As := [.int a]) (rest := []) (wr := []) (k' := 0) (n' := 0) (st2 := [.long (mkN a)]) (ws2 := []) (c_X6_number K.2.1 G a ) [] [] dX6_right_22 kw_232 kw_207 kw_45 kw_208 hd_X6_number ⟨Nat.le_of_ble_eq_true rfl, Nat.le_of_ble_eq_true rfl⟩ ⟨(by decide), (by decide)⟩ ⟨rfl, rfl⟩ (Nat.le_of_ble_eq_true rfl) rfl rfl rfl rfl rfl rfl (by decide) [] rfl rfl rfl rfl ?_
      refine v_ldc2 (v := (4294967296)) dX6_right_25 kw_233 ?_
      refine v_lor dX6_right_28 ?_
      refine v_iload_n dX6_right_29 rfl 0 rfl ?_
      refine v_bipush (v := nI 127) dX6_right_30 (by decide) ?_
      refine n_iand (a := b) (b := 127) (z := b) dX6_right_32 (by exact (Nat.and_two_pow_sub_one_eq_mod _ 7).trans (Nat.mod_eq_of_lt (by omega))) ?_
      refine v_i2l dX6_right_33 ?_
      refine v_bipush (v := nI 33) dX6_right_34 (by decide) ?_
      refine v_lshl dX6_right_36 ?_
      refine v_lor dX6_right_37 ?_
      refine v_iload_n dX6_right_38 rfl 1 rfl ?_
      refine v_bipush (v := nI 127) dX6_right_39 (by decide) ?_
      refine n_iand (a := t) (b := 127) (z := t) dX6_right_41 (by exact (Nat.and_two_pow_sub_one_eq_mod _ 7).trans (Nat.mod_eq_of_lt (by omega))) ?_
      refine v_i2l dX6_right_42 ?_
      refine v_bipush (v := nI 40) dX6_right_43 (by decide) ?_
      refine v_lshl dX6_right_45 ?_
      refine v_lor dX6_right_46 ?_
      refine v_iload_n dX6_right_47 rfl 3 rfl ?_
      refine v_bipush (v := nI 127) dX6_right_48 (by decide) ?_
      refine n_iand (a := p) (b := 127) (z := p) dX6_right_50 (by exact (Nat.and_two_pow_sub_one_eq_mod _ 7).trans (Nat.mod_eq_of_lt (by omega))) ?_
      refine v_i2l dX6_right_51 ?_
      refine v_bipush (v := nI 47) dX6_right_52 (by decide) ?_
      refine v_lshl dX6_right_54 ?_
      refine v_lor dX6_right_55 ?_
      refine v_iload dX6_right_56 4 rfl ?_
      refine v_bipush (v := nI 7) dX6_right_58 (by decide) ?_
      refine n_iand (a := s) (b := 7) (z := s) dX6_right_60 (by exact (Nat.and_two_pow_sub_one_eq_mod _ 3).trans (Nat.mod_eq_of_lt (by omega))) ?_
      refine v_i2l dX6_right_61 ?_
      refine v_bipush (v := nI 54) dX6_right_62 (by decide) ?_
      refine v_lshl dX6_right_64 ?_
      refine v_lor dX6_right_65 ?_
      refine v_eql (y := mkR b t a p s) (by exact mkR_eq hb ht hp hs a) ?_
      exact v_lret hR dX6_right_66 (by refine ⟨?_, rfl⟩; rw [e21])
    ·
      refine v_iload_n dX6_right_16 rfl 2 rfl ?_
      have e17 : wRt b t a p s = mkN a := by
        unfold wRt
        simp only [Int32.lt_iff_toInt_lt, Int32.le_iff_toInt_le, pk_sub_toInt (by omega : b < 2 ^ 30) (by omega : 8 < 2 ^ 30), nI_toInt (by omega : t + 8 < 2 ^ 31)] at *
        exact if_pos (by omega)
      refine c_S1 (As := [.int a]) (rest := []) (wr := []) (k' := 0) (n' := 0) (st2 := [.long (mkN a)]) (ws2 := []) (c_X6_number K.2.1 G a ) [] [] dX6_right_17 kw_232 kw_207 kw_45 kw_208 hd_X6_number ⟨Nat.le_of_ble_eq_true rfl, Nat.le_of_ble_eq_true rfl⟩ ⟨(by decide), (by decide)⟩ ⟨rfl, rfl⟩ (Nat.le_of_ble_eq_true rfl) rfl rfl rfl rfl rfl rfl (by decide) [] rfl rfl rfl rfl ?_
      exact v_lret hR dX6_right_20 (by refine ⟨?_, rfl⟩; rw [e17])
theorem dX6_holdsRight_0 : decode cX6_holdsRight 0 = .ok (.lload_n 0, 1) := by decide +kernel
theorem dX6_holdsRight_1 : decode cX6_holdsRight 1 = .ok (.ldc2_w 15, 3) := by decide +kernel
theorem dX6_holdsRight_4 : decode cX6_holdsRight 4 = .ok (.land, 1) := by decide +kernel
theorem dX6_holdsRight_5 : decode cX6_holdsRight 5 = .ok (.lconst 0, 1) := by decide +kernel
theorem dX6_holdsRight_6 : decode cX6_holdsRight 6 = .ok (.lcmp, 1) := by decide +kernel
theorem dX6_holdsRight_7 : decode cX6_holdsRight 7 = .ok (.ifCond .eq 7, 3) := by decide +kernel
theorem dX6_holdsRight_10 : decode cX6_holdsRight 10 = .ok (.iconst 1, 1) := by decide +kernel
theorem dX6_holdsRight_11 : decode cX6_holdsRight 11 = .ok (.goto 4, 3) := by decide +kernel
theorem dX6_holdsRight_14 : decode cX6_holdsRight 14 = .ok (.iconst 0, 1) := by decide +kernel
theorem dX6_holdsRight_15 : decode cX6_holdsRight 15 = .ok (.ireturn, 1) := by decide +kernel
theorem hd_X6_holdsRight : yX6_holdsRight.cls ≠ "java/lang/invoke/MethodHandle" ∧ yX6_holdsRight.cls ≠ "java/lang/invoke/VarHandle" ∧ (parseMethodDescriptor yX6_holdsRight.desc).map (fun d => d.parameters.length) = some 1 := by decide +kernel
abbrev rm_X6_holdsRight : Room := { frames := 0, cells := 0, slots := 0, locals := 0 }
set_option maxHeartbeats 4000000 in
set_option maxRecDepth 100000 in
theorem c_X6_holdsRight (l : Launch) (G : Gx) (w : Int64) : Mt l G yX6_holdsRight cX6_holdsRight 2 (some .boolean) rm_X6_holdsRight [.long w] [] (D1 (some (.int (bI (wM w)))) []) := by
  refine Mt.of (by decide) (Nat.le_of_ble_eq_true rfl) ?_
  intro K hl9 hn9 hR
  show V K G cX6_holdsRight RX6 2 rm_X6_holdsRight 0 0 0 [(0, .long w)] [] []
  refine v_lload_n dX6_holdsRight_0 rfl 0 rfl ?_
  refine v_ldc2 (v := (4294967296)) dX6_holdsRight_1 kw_233 ?_
  refine v_land dX6_holdsRight_4 ?_
  refine v_lconst (v := 0) dX6_holdsRight_5 (by decide) ?_
  refine v_lcmp dX6_holdsRight_6 ?_
  refine v_if_eq (tgt := 14) dX6_holdsRight_7 (by decide) (fun c7 => ?_) (fun c7 => ?_)
  ·
    refine v_iconst (v := nI 0) dX6_holdsRight_14 (by decide) ?_
    refine v_eqi (y := bI false) (by decide) ?_
    exact v_zret hR dX6_holdsRight_15 (bI_nar _) (by refine ⟨?_, rfl⟩; first | rw [(wM_eq w).mp c7] | (rw [show wM w = true from by cases h : wM w <;> first | rfl | exact absurd ((wM_eq w).mpr h) c7]))
  ·
    refine v_iconst (v := nI 1) dX6_holdsRight_10 (by decide) ?_
    refine v_goto (tgt := 15) dX6_holdsRight_11 (by decide) ?_
    refine v_eqi (y := bI true) (by decide) ?_
    exact v_zret hR dX6_holdsRight_15 (bI_nar _) (by refine ⟨?_, rfl⟩; first | rw [(wM_eq w).mp c7] | (rw [show wM w = true from by cases h : wM w <;> first | rfl | exact absurd ((wM_eq w).mpr h) c7]))
theorem dX6_asNumber_0 : decode cX6_asNumber 0 = .ok (.lload_n 0, 1) := by decide +kernel
theorem dX6_asNumber_1 : decode cX6_asNumber 1 = .ok (.l2i, 1) := by decide +kernel
theorem dX6_asNumber_2 : decode cX6_asNumber 2 = .ok (.ireturn, 1) := by decide +kernel
theorem hd_X6_asNumber : yX6_asNumber.cls ≠ "java/lang/invoke/MethodHandle" ∧ yX6_asNumber.cls ≠ "java/lang/invoke/VarHandle" ∧ (parseMethodDescriptor yX6_asNumber.desc).map (fun d => d.parameters.length) = some 1 := by decide +kernel
abbrev rm_X6_asNumber : Room := { frames := 0, cells := 0, slots := 0, locals := 0 }
set_option maxHeartbeats 4000000 in
set_option maxRecDepth 100000 in
theorem c_X6_asNumber (l : Launch) (G : Gx) (w : Int64) : Mt l G yX6_asNumber cX6_asNumber 2 (some .int) rm_X6_asNumber [.long w] [] (D1 (some (.int (wN w))) []) := by
  refine Mt.of (by decide) (Nat.le_of_ble_eq_true rfl) ?_
  intro K hl9 hn9 hR
  show V K G cX6_asNumber RX6 2 rm_X6_asNumber 0 0 0 [(0, .long w)] [] []
  refine v_lload_n dX6_asNumber_0 rfl 0 rfl ?_
  refine v_l2i dX6_asNumber_1 ?_
  refine v_eqi (y := wN w) (by rfl) ?_
  exact v_iret hR dX6_asNumber_2 (by exact ⟨rfl, rfl⟩)
theorem dX6_base_0 : decode cX6_base 0 = .ok (.lload_n 0, 1) := by decide +kernel
theorem dX6_base_1 : decode cX6_base 1 = .ok (.bipush 33, 2) := by decide +kernel
theorem dX6_base_3 : decode cX6_base 3 = .ok (.lshr, 1) := by decide +kernel
theorem dX6_base_4 : decode cX6_base 4 = .ok (.l2i, 1) := by decide +kernel
theorem dX6_base_5 : decode cX6_base 5 = .ok (.bipush 127, 2) := by decide +kernel
theorem dX6_base_7 : decode cX6_base 7 = .ok (.iand, 1) := by decide +kernel
theorem dX6_base_8 : decode cX6_base 8 = .ok (.ireturn, 1) := by decide +kernel
theorem hd_X6_base : yX6_base.cls ≠ "java/lang/invoke/MethodHandle" ∧ yX6_base.cls ≠ "java/lang/invoke/VarHandle" ∧ (parseMethodDescriptor yX6_base.desc).map (fun d => d.parameters.length) = some 1 := by decide +kernel
abbrev rm_X6_base : Room := { frames := 0, cells := 0, slots := 0, locals := 0 }
set_option maxHeartbeats 4000000 in
set_option maxRecDepth 100000 in
theorem c_X6_base (l : Launch) (G : Gx) (w : Int64) : Mt l G yX6_base cX6_base 2 (some .int) rm_X6_base [.long w] [] (D1 (some (.int (nI (wB w)))) []) := by
  refine Mt.of (by decide) (Nat.le_of_ble_eq_true rfl) ?_
  intro K hl9 hn9 hR
  show V K G cX6_base RX6 2 rm_X6_base 0 0 0 [(0, .long w)] [] []
  refine v_lload_n dX6_base_0 rfl 0 rfl ?_
  refine v_bipush (v := nI 33) dX6_base_1 (by decide) ?_
  refine v_lshr dX6_base_3 ?_
  refine v_l2i dX6_base_4 ?_
  refine v_bipush (v := nI 127) dX6_base_5 (by decide) ?_
  refine v_iand dX6_base_7 ?_
  refine v_eqi (y := nI (wB w)) (by exact shr_low w 33 7 (by decide) (by decide) (by decide)) ?_
  exact v_iret hR dX6_base_8 (by exact ⟨rfl, rfl⟩)
theorem dX6_top_0 : decode cX6_top 0 = .ok (.lload_n 0, 1) := by decide +kernel
theorem dX6_top_1 : decode cX6_top 1 = .ok (.bipush 40, 2) := by decide +kernel
theorem dX6_top_3 : decode cX6_top 3 = .ok (.lshr, 1) := by decide +kernel
theorem dX6_top_4 : decode cX6_top 4 = .ok (.l2i, 1) := by decide +kernel
theorem dX6_top_5 : decode cX6_top 5 = .ok (.bipush 127, 2) := by decide +kernel
theorem dX6_top_7 : decode cX6_top 7 = .ok (.iand, 1) := by decide +kernel
theorem dX6_top_8 : decode cX6_top 8 = .ok (.ireturn, 1) := by decide +kernel
theorem hd_X6_top : yX6_top.cls ≠ "java/lang/invoke/MethodHandle" ∧ yX6_top.cls ≠ "java/lang/invoke/VarHandle" ∧ (parseMethodDescriptor yX6_top.desc).map (fun d => d.parameters.length) = some 1 := by decide +kernel
abbrev rm_X6_top : Room := { frames := 0, cells := 0, slots := 0, locals := 0 }
set_option maxHeartbeats 4000000 in
set_option maxRecDepth 100000 in
theorem c_X6_top (l : Launch) (G : Gx) (w : Int64) : Mt l G yX6_top cX6_top 2 (some .int) rm_X6_top [.long w] [] (D1 (some (.int (nI (wT w)))) []) := by
  refine Mt.of (by decide) (Nat.le_of_ble_eq_true rfl) ?_
  intro K hl9 hn9 hR
  show V K G cX6_top RX6 2 rm_X6_top 0 0 0 [(0, .long w)] [] []
  refine v_lload_n dX6_top_0 rfl 0 rfl ?_
  refine v_bipush (v := nI 40) dX6_top_1 (by decide) ?_
  refine v_lshr dX6_top_3 ?_
  refine v_l2i dX6_top_4 ?_
  refine v_bipush (v := nI 127) dX6_top_5 (by decide) ?_
  refine v_iand dX6_top_7 ?_
  refine v_eqi (y := nI (wT w)) (by exact shr_low w 40 7 (by decide) (by decide) (by decide)) ?_
  exact v_iret hR dX6_top_8 (by exact ⟨rfl, rfl⟩)
theorem dX6_permissions_0 : decode cX6_permissions 0 = .ok (.lload_n 0, 1) := by decide +kernel
theorem dX6_permissions_1 : decode cX6_permissions 1 = .ok (.bipush 47, 2) := by decide +kernel
theorem dX6_permissions_3 : decode cX6_permissions 3 = .ok (.lshr, 1) := by decide +kernel
theorem dX6_permissions_4 : decode cX6_permissions 4 = .ok (.l2i, 1) := by decide +kernel
theorem dX6_permissions_5 : decode cX6_permissions 5 = .ok (.bipush 127, 2) := by decide +kernel
theorem dX6_permissions_7 : decode cX6_permissions 7 = .ok (.iand, 1) := by decide +kernel
theorem dX6_permissions_8 : decode cX6_permissions 8 = .ok (.ireturn, 1) := by decide +kernel
theorem hd_X6_permissions : yX6_permissions.cls ≠ "java/lang/invoke/MethodHandle" ∧ yX6_permissions.cls ≠ "java/lang/invoke/VarHandle" ∧ (parseMethodDescriptor yX6_permissions.desc).map (fun d => d.parameters.length) = some 1 := by decide +kernel
abbrev rm_X6_permissions : Room := { frames := 0, cells := 0, slots := 0, locals := 0 }
set_option maxHeartbeats 4000000 in
set_option maxRecDepth 100000 in
theorem c_X6_permissions (l : Launch) (G : Gx) (w : Int64) : Mt l G yX6_permissions cX6_permissions 2 (some .int) rm_X6_permissions [.long w] [] (D1 (some (.int (nI (wP w)))) []) := by
  refine Mt.of (by decide) (Nat.le_of_ble_eq_true rfl) ?_
  intro K hl9 hn9 hR
  show V K G cX6_permissions RX6 2 rm_X6_permissions 0 0 0 [(0, .long w)] [] []
  refine v_lload_n dX6_permissions_0 rfl 0 rfl ?_
  refine v_bipush (v := nI 47) dX6_permissions_1 (by decide) ?_
  refine v_lshr dX6_permissions_3 ?_
  refine v_l2i dX6_permissions_4 ?_
  refine v_bipush (v := nI 127) dX6_permissions_5 (by decide) ?_
  refine v_iand dX6_permissions_7 ?_
  refine v_eqi (y := nI (wP w)) (by exact shr_low w 47 7 (by decide) (by decide) (by decide)) ?_
  exact v_iret hR dX6_permissions_8 (by exact ⟨rfl, rfl⟩)
theorem dX6_sealNumber_0 : decode cX6_sealNumber 0 = .ok (.lload_n 0, 1) := by decide +kernel
theorem dX6_sealNumber_1 : decode cX6_sealNumber 1 = .ok (.bipush 54, 2) := by decide +kernel
theorem dX6_sealNumber_3 : decode cX6_sealNumber 3 = .ok (.lshr, 1) := by decide +kernel
theorem dX6_sealNumber_4 : decode cX6_sealNumber 4 = .ok (.l2i, 1) := by decide +kernel
theorem dX6_sealNumber_5 : decode cX6_sealNumber 5 = .ok (.bipush 7, 2) := by decide +kernel
theorem dX6_sealNumber_7 : decode cX6_sealNumber 7 = .ok (.iand, 1) := by decide +kernel
theorem dX6_sealNumber_8 : decode cX6_sealNumber 8 = .ok (.ireturn, 1) := by decide +kernel
theorem hd_X6_sealNumber : yX6_sealNumber.cls ≠ "java/lang/invoke/MethodHandle" ∧ yX6_sealNumber.cls ≠ "java/lang/invoke/VarHandle" ∧ (parseMethodDescriptor yX6_sealNumber.desc).map (fun d => d.parameters.length) = some 1 := by decide +kernel
abbrev rm_X6_sealNumber : Room := { frames := 0, cells := 0, slots := 0, locals := 0 }
set_option maxHeartbeats 4000000 in
set_option maxRecDepth 100000 in
theorem c_X6_sealNumber (l : Launch) (G : Gx) (w : Int64) : Mt l G yX6_sealNumber cX6_sealNumber 2 (some .int) rm_X6_sealNumber [.long w] [] (D1 (some (.int (nI (wS w)))) []) := by
  refine Mt.of (by decide) (Nat.le_of_ble_eq_true rfl) ?_
  intro K hl9 hn9 hR
  show V K G cX6_sealNumber RX6 2 rm_X6_sealNumber 0 0 0 [(0, .long w)] [] []
  refine v_lload_n dX6_sealNumber_0 rfl 0 rfl ?_
  refine v_bipush (v := nI 54) dX6_sealNumber_1 (by decide) ?_
  refine v_lshr dX6_sealNumber_3 ?_
  refine v_l2i dX6_sealNumber_4 ?_
  refine v_bipush (v := nI 7) dX6_sealNumber_5 (by decide) ?_
  refine v_iand dX6_sealNumber_7 ?_
  refine v_eqi (y := nI (wS w)) (by exact shr_low w 54 3 (by decide) (by decide) (by decide)) ?_
  exact v_iret hR dX6_sealNumber_8 (by exact ⟨rfl, rfl⟩)
theorem dX6_permits_0 : decode cX6_permits 0 = .ok (.lload_n 0, 1) := by decide +kernel
theorem dX6_permits_1 : decode cX6_permits 1 = .ok (.bipush 47, 2) := by decide +kernel
theorem dX6_permits_3 : decode cX6_permits 3 = .ok (.lshr, 1) := by decide +kernel
theorem dX6_permits_4 : decode cX6_permits 4 = .ok (.iload_n 2, 1) := by decide +kernel
theorem dX6_permits_5 : decode cX6_permits 5 = .ok (.i2l, 1) := by decide +kernel
theorem dX6_permits_6 : decode cX6_permits 6 = .ok (.land, 1) := by decide +kernel
theorem dX6_permits_7 : decode cX6_permits 7 = .ok (.iload_n 2, 1) := by decide +kernel
theorem dX6_permits_8 : decode cX6_permits 8 = .ok (.i2l, 1) := by decide +kernel
theorem dX6_permits_9 : decode cX6_permits 9 = .ok (.lcmp, 1) := by decide +kernel
theorem dX6_permits_10 : decode cX6_permits 10 = .ok (.ifCond .ne 7, 3) := by decide +kernel
theorem dX6_permits_13 : decode cX6_permits 13 = .ok (.iconst 1, 1) := by decide +kernel
theorem dX6_permits_14 : decode cX6_permits 14 = .ok (.goto 4, 3) := by decide +kernel
theorem dX6_permits_17 : decode cX6_permits 17 = .ok (.iconst 0, 1) := by decide +kernel
theorem dX6_permits_18 : decode cX6_permits 18 = .ok (.ireturn, 1) := by decide +kernel
theorem hd_X6_permits : yX6_permits.cls ≠ "java/lang/invoke/MethodHandle" ∧ yX6_permits.cls ≠ "java/lang/invoke/VarHandle" ∧ (parseMethodDescriptor yX6_permits.desc).map (fun d => d.parameters.length) = some 2 := by decide +kernel
abbrev rm_X6_permits : Room := { frames := 0, cells := 0, slots := 0, locals := 0 }
set_option maxHeartbeats 4000000 in
set_option maxRecDepth 100000 in
theorem c_X6_permits (l : Launch) (G : Gx) (w : Int64) (m : Nat) (hm : m < 128) : Mt l G yX6_permits cX6_permits 3 (some .boolean) rm_X6_permits [.long w, .int (nI m)] [] (D1 (some (.int (bI (decide (wP w &&& m = m))))) []) := by
  refine Mt.of (by decide) (Nat.le_of_ble_eq_true rfl) ?_
  intro K hl9 hn9 hR
  show V K G cX6_permits RX6 3 rm_X6_permits 0 0 0 [(0, .long w), (2, .int (nI m))] [] []
  refine v_lload_n dX6_permits_0 rfl 0 rfl ?_
  refine v_bipush (v := nI 47) dX6_permits_1 (by decide) ?_
  refine v_lshr dX6_permits_3 ?_
  refine v_iload_n dX6_permits_4 rfl 1 rfl ?_
  refine v_i2l dX6_permits_5 ?_
  refine v_land dX6_permits_6 ?_
  refine v_iload_n dX6_permits_7 rfl 1 rfl ?_
  refine v_i2l dX6_permits_8 ?_
  refine v_lcmp dX6_permits_9 ?_
  refine v_if_ne (tgt := 17) dX6_permits_10 (by decide) (fun c10 => ?_) (fun c10 => ?_)
  ·
    refine v_iconst (v := nI 0) dX6_permits_17 (by decide) ?_
    refine v_eqi (y := bI false) (by decide) ?_
    exact v_zret hR dX6_permits_18 (bI_nar _) (by refine ⟨?_, rfl⟩; first | rw [decide_eq_true ((permits_eq w hm).mp c10)] | rw [decide_eq_false (fun h => c10 ((permits_eq w hm).mpr h))])
  ·
    refine v_iconst (v := nI 1) dX6_permits_13 (by decide) ?_
    refine v_goto (tgt := 18) dX6_permits_14 (by decide) ?_
    refine v_eqi (y := bI true) (by decide) ?_
    exact v_zret hR dX6_permits_18 (bI_nar _) (by refine ⟨?_, rfl⟩; first | rw [decide_eq_true ((permits_eq w hm).mp c10)] | rw [decide_eq_false (fun h => c10 ((permits_eq w hm).mpr h))])
theorem dX6_withAddress_0 : decode cX6_withAddress 0 = .ok (.lload_n 0, 1) := by decide +kernel
theorem dX6_withAddress_1 : decode cX6_withAddress 1 = .ok (.invokestatic 17, 3) := by decide +kernel
theorem dX6_withAddress_4 : decode cX6_withAddress 4 = .ok (.lload_n 0, 1) := by decide +kernel
theorem dX6_withAddress_5 : decode cX6_withAddress 5 = .ok (.invokestatic 21, 3) := by decide +kernel
theorem dX6_withAddress_8 : decode cX6_withAddress 8 = .ok (.iload_n 2, 1) := by decide +kernel
theorem dX6_withAddress_9 : decode cX6_withAddress 9 = .ok (.lload_n 0, 1) := by decide +kernel
theorem dX6_withAddress_10 : decode cX6_withAddress 10 = .ok (.invokestatic 24, 3) := by decide +kernel
theorem dX6_withAddress_13 : decode cX6_withAddress 13 = .ok (.lload_n 0, 1) := by decide +kernel
theorem dX6_withAddress_14 : decode cX6_withAddress 14 = .ok (.invokestatic 27, 3) := by decide +kernel
theorem dX6_withAddress_17 : decode cX6_withAddress 17 = .ok (.invokestatic 30, 3) := by decide +kernel
theorem dX6_withAddress_20 : decode cX6_withAddress 20 = .ok (.lreturn, 1) := by decide +kernel
theorem hd_X6_withAddress : yX6_withAddress.cls ≠ "java/lang/invoke/MethodHandle" ∧ yX6_withAddress.cls ≠ "java/lang/invoke/VarHandle" ∧ (parseMethodDescriptor yX6_withAddress.desc).map (fun d => d.parameters.length) = some 2 := by decide +kernel
abbrev rm_X6_withAddress : Room := { frames := 2, cells := 0, slots := 0, locals := 44 }
set_option maxHeartbeats 4000000 in
set_option maxRecDepth 100000 in
theorem c_X6_withAddress (l : Launch) (G : Gx) (w : Int64) (a : Int32) : Mt l G yX6_withAddress cX6_withAddress 3 (some .long) rm_X6_withAddress [.long w, .int a] [] (D1 (some (.long (wRt (wB w) (wT w) a (wP w) (wS w)))) []) := by
  refine Mt.of (by decide) (Nat.le_of_ble_eq_true rfl) ?_
  intro K hl9 hn9 hR
  show V K G cX6_withAddress RX6 3 rm_X6_withAddress 0 0 0 [(0, .long w), (2, .int a)] [] []
  refine v_lload_n dX6_withAddress_0 rfl 0 rfl ?_
  refine c_S1 (As := [.long w]) (rest := []) (wr := []) (k' := 0) (n' := 0) (st2 := [.int (nI (wB w))]) (ws2 := []) (c_X6_base K.2.1 G w ) [] [] dX6_withAddress_1 kw_679 kw_287 kw_45 kw_288 hd_X6_base ⟨Nat.le_of_ble_eq_true rfl, Nat.le_of_ble_eq_true rfl⟩ ⟨(by decide), (by decide)⟩ ⟨rfl, rfl⟩ (Nat.le_of_ble_eq_true rfl) rfl rfl rfl rfl rfl rfl (by decide) [] rfl rfl rfl rfl ?_
  refine v_lload_n dX6_withAddress_4 rfl 0 rfl ?_
  refine c_S1 (As := [.long w]) (rest := [.int (nI (wB w))]) (wr := []) (k' := 0) (n' := 0) (st2 := [.int (nI (wT w)), .int (nI (wB w))]) (ws2 := []) (c_X6_top K.2.1 G w ) [] [] dX6_withAddress_5 kw_680 kw_348 kw_45 kw_349 hd_X6_top ⟨Nat.le_of_ble_eq_true rfl, Nat.le_of_ble_eq_true rfl⟩ ⟨(by decide), (by decide)⟩ ⟨rfl, rfl⟩ (Nat.le_of_ble_eq_true rfl) rfl rfl rfl rfl rfl rfl (by decide) [] rfl rfl rfl rfl ?_
  refine v_iload_n dX6_withAddress_8 rfl 1 rfl ?_
  refine v_lload_n dX6_withAddress_9 rfl 0 rfl ?_
  refine c_S1 (As := [.long w]) (rest := [.int a, .int (nI (wT w)), .int (nI (wB w))]) (wr := []) (k' := 0) (n' := 0) (st2 := [.int (nI (wP w)), .int a, .int (nI (wT w)), .int (nI (wB w))]) (ws2 := []) (c_X6_permissions K.2.1 G w ) [] [] dX6_withAddress_10 kw_694 kw_666 kw_45 kw_667 hd_X6_permissions ⟨Nat.le_of_ble_eq_true rfl, Nat.le_of_ble_eq_true rfl⟩ ⟨(by decide), (by decide)⟩ ⟨rfl, rfl⟩ (Nat.le_of_ble_eq_true rfl) rfl rfl rfl rfl rfl rfl (by decide) [] rfl rfl rfl rfl ?_
  refine v_lload_n dX6_withAddress_13 rfl 0 rfl ?_
  refine c_S1 (As := [.long w]) (rest := [.int (nI (wP w)), .int a, .int (nI (wT w)), .int (nI (wB w))]) (wr := []) (k' := 0) (n' := 0) (st2 := [.int (nI (wS w)), .int (nI (wP w)), .int a, .int (nI (wT w)), .int (nI (wB w))]) (ws2 := []) (c_X6_sealNumber K.2.1 G w ) [] [] dX6_withAddress_14 kw_682 kw_341 kw_45 kw_342 hd_X6_sealNumber ⟨Nat.le_of_ble_eq_true rfl, Nat.le_of_ble_eq_true rfl⟩ ⟨(by decide), (by decide)⟩ ⟨rfl, rfl⟩ (Nat.le_of_ble_eq_true rfl) rfl rfl rfl rfl rfl rfl (by decide) [] rfl rfl rfl rfl ?_
  refine c_S1 (As := [.int (nI (wB w)), .int (nI (wT w)), .int a, .int (nI (wP w)), .int (nI (wS w))]) (rest := []) (wr := []) (k' := 0) (n' := 0) (st2 := [.long (wRt (wB w) (wT w) a (wP w) (wS w))]) (ws2 := []) (c_X6_right K.2.1 G (wB w) (wT w) a (wP w) (wS w) (by exact wB_lt w) (by exact wT_lt w) (by exact wP_lt w) (by exact wS_lt w)) [] [] dX6_withAddress_17 kw_683 kw_230 kw_45 kw_231 hd_X6_right ⟨Nat.le_of_ble_eq_true rfl, Nat.le_of_ble_eq_true rfl⟩ ⟨(by decide), (by decide)⟩ ⟨rfl, rfl⟩ (Nat.le_of_ble_eq_true rfl) rfl rfl rfl rfl rfl rfl (by decide) [] rfl rfl rfl rfl ?_
  exact v_lret hR dX6_withAddress_20 (by exact ⟨rfl, rfl⟩)
theorem dX6_withPermissions_0 : decode cX6_withPermissions 0 = .ok (.lload_n 0, 1) := by decide +kernel
theorem dX6_withPermissions_1 : decode cX6_withPermissions 1 = .ok (.invokestatic 17, 3) := by decide +kernel
theorem dX6_withPermissions_4 : decode cX6_withPermissions 4 = .ok (.lload_n 0, 1) := by decide +kernel
theorem dX6_withPermissions_5 : decode cX6_withPermissions 5 = .ok (.invokestatic 21, 3) := by decide +kernel
theorem dX6_withPermissions_8 : decode cX6_withPermissions 8 = .ok (.lload_n 0, 1) := by decide +kernel
theorem dX6_withPermissions_9 : decode cX6_withPermissions 9 = .ok (.invokestatic 34, 3) := by decide +kernel
theorem dX6_withPermissions_12 : decode cX6_withPermissions 12 = .ok (.iload_n 2, 1) := by decide +kernel
theorem dX6_withPermissions_13 : decode cX6_withPermissions 13 = .ok (.lload_n 0, 1) := by decide +kernel
theorem dX6_withPermissions_14 : decode cX6_withPermissions 14 = .ok (.invokestatic 27, 3) := by decide +kernel
theorem dX6_withPermissions_17 : decode cX6_withPermissions 17 = .ok (.invokestatic 30, 3) := by decide +kernel
theorem dX6_withPermissions_20 : decode cX6_withPermissions 20 = .ok (.lreturn, 1) := by decide +kernel
theorem hd_X6_withPermissions : yX6_withPermissions.cls ≠ "java/lang/invoke/MethodHandle" ∧ yX6_withPermissions.cls ≠ "java/lang/invoke/VarHandle" ∧ (parseMethodDescriptor yX6_withPermissions.desc).map (fun d => d.parameters.length) = some 2 := by decide +kernel
abbrev rm_X6_withPermissions : Room := { frames := 2, cells := 0, slots := 0, locals := 44 }
set_option maxHeartbeats 4000000 in
set_option maxRecDepth 100000 in
theorem c_X6_withPermissions (l : Launch) (G : Gx) (w : Int64) (p : Nat) (hp : p < 128) : Mt l G yX6_withPermissions cX6_withPermissions 3 (some .long) rm_X6_withPermissions [.long w, .int (nI p)] [] (D1 (some (.long (wRt (wB w) (wT w) (wN w) p (wS w)))) []) := by
  refine Mt.of (by decide) (Nat.le_of_ble_eq_true rfl) ?_
  intro K hl9 hn9 hR
  show V K G cX6_withPermissions RX6 3 rm_X6_withPermissions 0 0 0 [(0, .long w), (2, .int (nI p))] [] []
  refine v_lload_n dX6_withPermissions_0 rfl 0 rfl ?_
  refine c_S1 (As := [.long w]) (rest := []) (wr := []) (k' := 0) (n' := 0) (st2 := [.int (nI (wB w))]) (ws2 := []) (c_X6_base K.2.1 G w ) [] [] dX6_withPermissions_1 kw_679 kw_287 kw_45 kw_288 hd_X6_base ⟨Nat.le_of_ble_eq_true rfl, Nat.le_of_ble_eq_true rfl⟩ ⟨(by decide), (by decide)⟩ ⟨rfl, rfl⟩ (Nat.le_of_ble_eq_true rfl) rfl rfl rfl rfl rfl rfl (by decide) [] rfl rfl rfl rfl ?_
  refine v_lload_n dX6_withPermissions_4 rfl 0 rfl ?_
  refine c_S1 (As := [.long w]) (rest := [.int (nI (wB w))]) (wr := []) (k' := 0) (n' := 0) (st2 := [.int (nI (wT w)), .int (nI (wB w))]) (ws2 := []) (c_X6_top K.2.1 G w ) [] [] dX6_withPermissions_5 kw_680 kw_348 kw_45 kw_349 hd_X6_top ⟨Nat.le_of_ble_eq_true rfl, Nat.le_of_ble_eq_true rfl⟩ ⟨(by decide), (by decide)⟩ ⟨rfl, rfl⟩ (Nat.le_of_ble_eq_true rfl) rfl rfl rfl rfl rfl rfl (by decide) [] rfl rfl rfl rfl ?_
  refine v_lload_n dX6_withPermissions_8 rfl 0 rfl ?_
  refine c_S1 (As := [.long w]) (rest := [.int (nI (wT w)), .int (nI (wB w))]) (wr := []) (k' := 0) (n' := 0) (st2 := [.int (wN w), .int (nI (wT w)), .int (nI (wB w))]) (ws2 := []) (c_X6_asNumber K.2.1 G w ) [] [] dX6_withPermissions_9 kw_681 kw_291 kw_45 kw_292 hd_X6_asNumber ⟨Nat.le_of_ble_eq_true rfl, Nat.le_of_ble_eq_true rfl⟩ ⟨(by decide), (by decide)⟩ ⟨rfl, rfl⟩ (Nat.le_of_ble_eq_true rfl) rfl rfl rfl rfl rfl rfl (by decide) [] rfl rfl rfl rfl ?_
  refine v_iload_n dX6_withPermissions_12 rfl 1 rfl ?_
  refine v_lload_n dX6_withPermissions_13 rfl 0 rfl ?_
  refine c_S1 (As := [.long w]) (rest := [.int (nI p), .int (wN w), .int (nI (wT w)), .int (nI (wB w))]) (wr := []) (k' := 0) (n' := 0) (st2 := [.int (nI (wS w)), .int (nI p), .int (wN w), .int (nI (wT w)), .int (nI (wB w))]) (ws2 := []) (c_X6_sealNumber K.2.1 G w ) [] [] dX6_withPermissions_14 kw_682 kw_341 kw_45 kw_342 hd_X6_sealNumber ⟨Nat.le_of_ble_eq_true rfl, Nat.le_of_ble_eq_true rfl⟩ ⟨(by decide), (by decide)⟩ ⟨rfl, rfl⟩ (Nat.le_of_ble_eq_true rfl) rfl rfl rfl rfl rfl rfl (by decide) [] rfl rfl rfl rfl ?_
  refine c_S1 (As := [.int (nI (wB w)), .int (nI (wT w)), .int (wN w), .int (nI p), .int (nI (wS w))]) (rest := []) (wr := []) (k' := 0) (n' := 0) (st2 := [.long (wRt (wB w) (wT w) (wN w) p (wS w))]) (ws2 := []) (c_X6_right K.2.1 G (wB w) (wT w) (wN w) p (wS w) (by exact wB_lt w) (by exact wT_lt w) (by exact hp) (by exact wS_lt w)) [] [] dX6_withPermissions_17 kw_683 kw_230 kw_45 kw_231 hd_X6_right ⟨Nat.le_of_ble_eq_true rfl, Nat.le_of_ble_eq_true rfl⟩ ⟨(by decide), (by decide)⟩ ⟨rfl, rfl⟩ (Nat.le_of_ble_eq_true rfl) rfl rfl rfl rfl rfl rfl (by decide) [] rfl rfl rfl rfl ?_
  exact v_lret hR dX6_withPermissions_20 (by exact ⟨rfl, rfl⟩)
theorem dX6_withSeal_0 : decode cX6_withSeal 0 = .ok (.lload_n 0, 1) := by decide +kernel
theorem dX6_withSeal_1 : decode cX6_withSeal 1 = .ok (.invokestatic 17, 3) := by decide +kernel
theorem dX6_withSeal_4 : decode cX6_withSeal 4 = .ok (.lload_n 0, 1) := by decide +kernel
theorem dX6_withSeal_5 : decode cX6_withSeal 5 = .ok (.invokestatic 21, 3) := by decide +kernel
theorem dX6_withSeal_8 : decode cX6_withSeal 8 = .ok (.lload_n 0, 1) := by decide +kernel
theorem dX6_withSeal_9 : decode cX6_withSeal 9 = .ok (.invokestatic 34, 3) := by decide +kernel
theorem dX6_withSeal_12 : decode cX6_withSeal 12 = .ok (.lload_n 0, 1) := by decide +kernel
theorem dX6_withSeal_13 : decode cX6_withSeal 13 = .ok (.invokestatic 24, 3) := by decide +kernel
theorem dX6_withSeal_16 : decode cX6_withSeal 16 = .ok (.iload_n 2, 1) := by decide +kernel
theorem dX6_withSeal_17 : decode cX6_withSeal 17 = .ok (.invokestatic 30, 3) := by decide +kernel
theorem dX6_withSeal_20 : decode cX6_withSeal 20 = .ok (.lreturn, 1) := by decide +kernel
theorem hd_X6_withSeal : yX6_withSeal.cls ≠ "java/lang/invoke/MethodHandle" ∧ yX6_withSeal.cls ≠ "java/lang/invoke/VarHandle" ∧ (parseMethodDescriptor yX6_withSeal.desc).map (fun d => d.parameters.length) = some 2 := by decide +kernel
abbrev rm_X6_withSeal : Room := { frames := 2, cells := 0, slots := 0, locals := 44 }
set_option maxHeartbeats 4000000 in
set_option maxRecDepth 100000 in
theorem c_X6_withSeal (l : Launch) (G : Gx) (w : Int64) (s : Nat) (hs : s < 8) : Mt l G yX6_withSeal cX6_withSeal 3 (some .long) rm_X6_withSeal [.long w, .int (nI s)] [] (D1 (some (.long (wRt (wB w) (wT w) (wN w) (wP w) s))) []) := by
  refine Mt.of (by decide) (Nat.le_of_ble_eq_true rfl) ?_
  intro K hl9 hn9 hR
  show V K G cX6_withSeal RX6 3 rm_X6_withSeal 0 0 0 [(0, .long w), (2, .int (nI s))] [] []
  refine v_lload_n dX6_withSeal_0 rfl 0 rfl ?_
  refine c_S1 (As := [.long w]) (rest := []) (wr := []) (k' := 0) (n' := 0) (st2 := [.int (nI (wB w))]) (ws2 := []) (c_X6_base K.2.1 G w ) [] [] dX6_withSeal_1 kw_679 kw_287 kw_45 kw_288 hd_X6_base ⟨Nat.le_of_ble_eq_true rfl, Nat.le_of_ble_eq_true rfl⟩ ⟨(by decide), (by decide)⟩ ⟨rfl, rfl⟩ (Nat.le_of_ble_eq_true rfl) rfl rfl rfl rfl rfl rfl (by decide) [] rfl rfl rfl rfl ?_
  refine v_lload_n dX6_withSeal_4 rfl 0 rfl ?_
  refine c_S1 (As := [.long w]) (rest := [.int (nI (wB w))]) (wr := []) (k' := 0) (n' := 0) (st2 := [.int (nI (wT w)), .int (nI (wB w))]) (ws2 := []) (c_X6_top K.2.1 G w ) [] [] dX6_withSeal_5 kw_680 kw_348 kw_45 kw_349 hd_X6_top ⟨Nat.le_of_ble_eq_true rfl, Nat.le_of_ble_eq_true rfl⟩ ⟨(by decide), (by decide)⟩ ⟨rfl, rfl⟩ (Nat.le_of_ble_eq_true rfl) rfl rfl rfl rfl rfl rfl (by decide) [] rfl rfl rfl rfl ?_
  refine v_lload_n dX6_withSeal_8 rfl 0 rfl ?_
  refine c_S1 (As := [.long w]) (rest := [.int (nI (wT w)), .int (nI (wB w))]) (wr := []) (k' := 0) (n' := 0) (st2 := [.int (wN w), .int (nI (wT w)), .int (nI (wB w))]) (ws2 := []) (c_X6_asNumber K.2.1 G w ) [] [] dX6_withSeal_9 kw_681 kw_291 kw_45 kw_292 hd_X6_asNumber ⟨Nat.le_of_ble_eq_true rfl, Nat.le_of_ble_eq_true rfl⟩ ⟨(by decide), (by decide)⟩ ⟨rfl, rfl⟩ (Nat.le_of_ble_eq_true rfl) rfl rfl rfl rfl rfl rfl (by decide) [] rfl rfl rfl rfl ?_
  refine v_lload_n dX6_withSeal_12 rfl 0 rfl ?_
  refine c_S1 (As := [.long w]) (rest := [.int (wN w), .int (nI (wT w)), .int (nI (wB w))]) (wr := []) (k' := 0) (n' := 0) (st2 := [.int (nI (wP w)), .int (wN w), .int (nI (wT w)), .int (nI (wB w))]) (ws2 := []) (c_X6_permissions K.2.1 G w ) [] [] dX6_withSeal_13 kw_694 kw_666 kw_45 kw_667 hd_X6_permissions ⟨Nat.le_of_ble_eq_true rfl, Nat.le_of_ble_eq_true rfl⟩ ⟨(by decide), (by decide)⟩ ⟨rfl, rfl⟩ (Nat.le_of_ble_eq_true rfl) rfl rfl rfl rfl rfl rfl (by decide) [] rfl rfl rfl rfl ?_
  refine v_iload_n dX6_withSeal_16 rfl 1 rfl ?_
  refine c_S1 (As := [.int (nI (wB w)), .int (nI (wT w)), .int (wN w), .int (nI (wP w)), .int (nI s)]) (rest := []) (wr := []) (k' := 0) (n' := 0) (st2 := [.long (wRt (wB w) (wT w) (wN w) (wP w) s)]) (ws2 := []) (c_X6_right K.2.1 G (wB w) (wT w) (wN w) (wP w) s (by exact wB_lt w) (by exact wT_lt w) (by exact wP_lt w) (by exact hs)) [] [] dX6_withSeal_17 kw_683 kw_230 kw_45 kw_231 hd_X6_right ⟨Nat.le_of_ble_eq_true rfl, Nat.le_of_ble_eq_true rfl⟩ ⟨(by decide), (by decide)⟩ ⟨rfl, rfl⟩ (Nat.le_of_ble_eq_true rfl) rfl rfl rfl rfl rfl rfl (by decide) [] rfl rfl rfl rfl ?_
  exact v_lret hR dX6_withSeal_20 (by exact ⟨rfl, rfl⟩)
