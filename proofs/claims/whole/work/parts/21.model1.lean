theorem dX8_thrown_0 : decode cX8_thrown 0 = .ok (.aload_n 0, 1) := by decide +kernel
theorem dX8_thrown_1 : decode cX8_thrown 1 = .ok (.getfield 67, 3) := by decide +kernel
theorem dX8_thrown_4 : decode cX8_thrown 4 = .ok (.ireturn, 1) := by decide +kernel
theorem hd_X8_thrown : yX8_thrown.cls ≠ "java/lang/invoke/MethodHandle" ∧ yX8_thrown.cls ≠ "java/lang/invoke/VarHandle" ∧ (parseMethodDescriptor yX8_thrown.desc).map (fun d => d.parameters.length) = some 0 := by decide +kernel
abbrev rm_X8_thrown : Room := { frames := 0, cells := 0, slots := 0, locals := 0 }
set_option maxHeartbeats 4000000 in
set_option maxRecDepth 100000 in
theorem c_X8_thrown (l : Launch) (G : Gx) (mo : Nat) (m1 : Nat) (m2 : Nat) (m3 : Nat) (m4 : Nat) (m5 : Nat) (m6 : Nat) (m8 : Nat) (m9 : Nat) (m10 : Nat) (m11 : Nat) (m12 : Nat) (m13 : Nat) (m14 : Nat) (m15 : Nat) (m16 : Nat) (m19 : Nat) (y : YS) : Mt l G yX8_thrown cX8_thrown 1 (some .int) rm_X8_thrown [.ref mo] [(mo, .inr (6, [.int (nI (zX y)), .ref m1, .ref m2, .ref m3, .ref m4, .ref m5, .ref m6, .int (nI (zD y)), .ref m8, .ref m9, .ref m10, .ref m11, .ref m12, .ref m13, .ref m14, .ref m15, .ref m16, .int (nI (zL y)), .int (nI (zH y)), .ref m19])), (m1, .inl (G.2.1 3, 160, .inl (fun j9 => bI ((zI y) j9)))), (m2, .inl (G.2.1 1, 160, .inl (zN y))), (m3, .inl (G.2.1 1, 160, .inl (fun j9 => nI ((zB y) j9)))), (m4, .inl (G.2.1 1, 160, .inl (fun j9 => nI ((zT y) j9)))), (m5, .inl (G.2.1 1, 160, .inl (fun j9 => nI ((zP y) j9)))), (m6, .inl (G.2.1 1, 160, .inl (fun j9 => nI ((zS y) j9)))), (m8, .inl (G.2.1 1, 8, .inl (fun j9 => nI ((zR y) j9)))), (m9, .inl (G.2.1 1, 4, .inl (fun j9 => nI ((zQ y) j9)))), (m10, .inl (G.2.1 0, 96, .inl (fun j9 => nI ((zA y) j9)))), (m11, .inl (G.2.1 1, 96, .inl (fun j9 => nI ((zO y) j9)))), (m12, .inl (G.2.1 1, 96, .inl (fun j9 => nI ((zF y) j9)))), (m13, .inl (G.2.1 1, 96, .inl (fun j9 => nI ((zM y) j9)))), (m14, .inl (G.2.1 3, 96, .inl (fun j9 => bI ((zE y) j9)))), (m15, .inl (G.2.1 3, 384, .inl (fun j9 => bI ((zV y) j9)))), (m16, .inl (G.2.1 1, 9, .inl (fun j9 => nI ((zK y) j9)))), (m19, .inl (G.2.1 3, 96, .inl (fun j9 => bI ((zG y) j9))))] (D1 (some (.int (nI (zX y)))) [(mo, .inr (6, [.int (nI (zX y)), .ref m1, .ref m2, .ref m3, .ref m4, .ref m5, .ref m6, .int (nI (zD y)), .ref m8, .ref m9, .ref m10, .ref m11, .ref m12, .ref m13, .ref m14, .ref m15, .ref m16, .int (nI (zL y)), .int (nI (zH y)), .ref m19])), (m1, .inl (G.2.1 3, 160, .inl (fun j9 => bI ((zI y) j9)))), (m2, .inl (G.2.1 1, 160, .inl (zN y))), (m3, .inl (G.2.1 1, 160, .inl (fun j9 => nI ((zB y) j9)))), (m4, .inl (G.2.1 1, 160, .inl (fun j9 => nI ((zT y) j9)))), (m5, .inl (G.2.1 1, 160, .inl (fun j9 => nI ((zP y) j9)))), (m6, .inl (G.2.1 1, 160, .inl (fun j9 => nI ((zS y) j9)))), (m8, .inl (G.2.1 1, 8, .inl (fun j9 => nI ((zR y) j9)))), (m9, .inl (G.2.1 1, 4, .inl (fun j9 => nI ((zQ y) j9)))), (m10, .inl (G.2.1 0, 96, .inl (fun j9 => nI ((zA y) j9)))), (m11, .inl (G.2.1 1, 96, .inl (fun j9 => nI ((zO y) j9)))), (m12, .inl (G.2.1 1, 96, .inl (fun j9 => nI ((zF y) j9)))), (m13, .inl (G.2.1 1, 96, .inl (fun j9 => nI ((zM y) j9)))), (m14, .inl (G.2.1 3, 96, .inl (fun j9 => bI ((zE y) j9)))), (m15, .inl (G.2.1 3, 384, .inl (fun j9 => bI ((zV y) j9)))), (m16, .inl (G.2.1 1, 9, .inl (fun j9 => nI ((zK y) j9)))), (m19, .inl (G.2.1 3, 96, .inl (fun j9 => bI ((zG y) j9))))]) := by
  refine Mt.of (by decide) (Nat.le_of_ble_eq_true rfl) ?_
  intro K hl9 hn9 hR
  show V K G cX8_thrown RX8 1 rm_X8_thrown 0 0 0 [(0, .ref mo)] [] [(mo, .inr (6, [.int (nI (zX y)), .ref m1, .ref m2, .ref m3, .ref m4, .ref m5, .ref m6, .int (nI (zD y)), .ref m8, .ref m9, .ref m10, .ref m11, .ref m12, .ref m13, .ref m14, .ref m15, .ref m16, .int (nI (zL y)), .int (nI (zH y)), .ref m19])), (m1, .inl (G.2.1 3, 160, .inl (fun j9 => bI ((zI y) j9)))), (m2, .inl (G.2.1 1, 160, .inl (zN y))), (m3, .inl (G.2.1 1, 160, .inl (fun j9 => nI ((zB y) j9)))), (m4, .inl (G.2.1 1, 160, .inl (fun j9 => nI ((zT y) j9)))), (m5, .inl (G.2.1 1, 160, .inl (fun j9 => nI ((zP y) j9)))), (m6, .inl (G.2.1 1, 160, .inl (fun j9 => nI ((zS y) j9)))), (m8, .inl (G.2.1 1, 8, .inl (fun j9 => nI ((zR y) j9)))), (m9, .inl (G.2.1 1, 4, .inl (fun j9 => nI ((zQ y) j9)))), (m10, .inl (G.2.1 0, 96, .inl (fun j9 => nI ((zA y) j9)))), (m11, .inl (G.2.1 1, 96, .inl (fun j9 => nI ((zO y) j9)))), (m12, .inl (G.2.1 1, 96, .inl (fun j9 => nI ((zF y) j9)))), (m13, .inl (G.2.1 1, 96, .inl (fun j9 => nI ((zM y) j9)))), (m14, .inl (G.2.1 3, 96, .inl (fun j9 => bI ((zE y) j9)))), (m15, .inl (G.2.1 3, 384, .inl (fun j9 => bI ((zV y) j9)))), (m16, .inl (G.2.1 1, 9, .inl (fun j9 => nI ((zK y) j9)))), (m19, .inl (G.2.1 3, 96, .inl (fun j9 => bI ((zG y) j9))))]
  refine v_aload_n dX8_thrown_0 rfl 0 rfl ?_
  refine v_get (ref := "SealhouseModel") (C := RX8) (T := TX8) (N := 20) 0 0 dX8_thrown_1 rfl rfl gin_X8 (by decide) kw_1004 rfl rfl ?_
  exact v_iret hR dX8_thrown_4 (by exact ⟨rfl, rfl⟩)
theorem dX8_in_0 : decode cX8_in 0 = .ok (.iload_n 0, 1) := by decide +kernel
theorem dX8_in_1 : decode cX8_in 1 = .ok (.iload_n 1, 1) := by decide +kernel
theorem dX8_in_2 : decode cX8_in 2 = .ok (.if_icmp .lt 12, 3) := by decide +kernel
theorem dX8_in_5 : decode cX8_in 5 = .ok (.iload_n 0, 1) := by decide +kernel
theorem dX8_in_6 : decode cX8_in 6 = .ok (.iload_n 2, 1) := by decide +kernel
theorem dX8_in_7 : decode cX8_in 7 = .ok (.if_icmp .gt 7, 3) := by decide +kernel
theorem dX8_in_10 : decode cX8_in 10 = .ok (.iconst 1, 1) := by decide +kernel
theorem dX8_in_11 : decode cX8_in 11 = .ok (.goto 4, 3) := by decide +kernel
theorem dX8_in_14 : decode cX8_in 14 = .ok (.iconst 0, 1) := by decide +kernel
theorem dX8_in_15 : decode cX8_in 15 = .ok (.ireturn, 1) := by decide +kernel
theorem hd_X8_in : yX8_in.cls ≠ "java/lang/invoke/MethodHandle" ∧ yX8_in.cls ≠ "java/lang/invoke/VarHandle" ∧ (parseMethodDescriptor yX8_in.desc).map (fun d => d.parameters.length) = some 3 := by decide +kernel
abbrev rm_X8_in : Room := { frames := 0, cells := 0, slots := 0, locals := 0 }
set_option maxHeartbeats 4000000 in
set_option maxRecDepth 100000 in
theorem c_X8_in (l : Launch) (G : Gx) (v : Int32) (a : Int32) (b : Int32) : Mt l G yX8_in cX8_in 3 (some .boolean) rm_X8_in [.int v, .int a, .int b] [] (D1 (some (.int (bI (inR v a b)))) []) := by
  refine Mt.of (by decide) (Nat.le_of_ble_eq_true rfl) ?_
  intro K hl9 hn9 hR
  show V K G cX8_in RX8 3 rm_X8_in 0 0 0 [(0, .int v), (1, .int a), (2, .int b)] [] []
  refine v_iload_n dX8_in_0 rfl 0 rfl ?_
  refine v_iload_n dX8_in_1 rfl 1 rfl ?_
  refine v_icmp_lt (x := v) (y := a) (tgt := 14) dX8_in_2 (by decide) (fun c2 => ?_) (fun c2 => ?_)
  ·
    refine v_iconst (v := nI 0) dX8_in_14 (by decide) ?_
    refine v_eqi (y := bI false) (by decide) ?_
    exact v_zret hR dX8_in_15 (bI_nar _) (by refine ⟨?_, rfl⟩; unfold inR; first | rw [decide_eq_true ⟨by assumption, Int32.not_lt.mp (by assumption)⟩] | rw [decide_eq_false (fun h => h.1 (by assumption))] | rw [decide_eq_false (fun h => Int32.not_le.mpr (by assumption) h.2)])
  ·
    refine v_iload_n dX8_in_5 rfl 0 rfl ?_
    refine v_iload_n dX8_in_6 rfl 2 rfl ?_
    refine v_icmp_gt (x := v) (y := b) (tgt := 14) dX8_in_7 (by decide) (fun c7 => ?_) (fun c7 => ?_)
    ·
      refine v_iconst (v := nI 0) dX8_in_14 (by decide) ?_
      refine v_eqi (y := bI false) (by decide) ?_
      exact v_zret hR dX8_in_15 (bI_nar _) (by refine ⟨?_, rfl⟩; unfold inR; first | rw [decide_eq_true ⟨by assumption, Int32.not_lt.mp (by assumption)⟩] | rw [decide_eq_false (fun h => h.1 (by assumption))] | rw [decide_eq_false (fun h => Int32.not_le.mpr (by assumption) h.2)])
    ·
      refine v_iconst (v := nI 1) dX8_in_10 (by decide) ?_
      refine v_goto (tgt := 15) dX8_in_11 (by decide) ?_
      refine v_eqi (y := bI true) (by decide) ?_
      exact v_zret hR dX8_in_15 (bI_nar _) (by refine ⟨?_, rfl⟩; unfold inR; first | rw [decide_eq_true ⟨by assumption, Int32.not_lt.mp (by assumption)⟩] | rw [decide_eq_false (fun h => h.1 (by assumption))] | rw [decide_eq_false (fun h => Int32.not_le.mpr (by assumption) h.2)])
theorem dX8_goesOn_0 : decode cX8_goesOn 0 = .ok (.aload_n 0, 1) := by decide +kernel
theorem dX8_goesOn_1 : decode cX8_goesOn 1 = .ok (.iload_n 1, 1) := by decide +kernel
theorem dX8_goesOn_2 : decode cX8_goesOn 2 = .ok (.putfield 67, 3) := by decide +kernel
theorem dX8_goesOn_5 : decode cX8_goesOn 5 = .ok (.iload_n 1, 1) := by decide +kernel
theorem dX8_goesOn_6 : decode cX8_goesOn 6 = .ok (.ifCond .ne 7, 3) := by decide +kernel
theorem dX8_goesOn_9 : decode cX8_goesOn 9 = .ok (.iconst 1, 1) := by decide +kernel
theorem dX8_goesOn_10 : decode cX8_goesOn 10 = .ok (.goto 4, 3) := by decide +kernel
theorem dX8_goesOn_13 : decode cX8_goesOn 13 = .ok (.iconst 0, 1) := by decide +kernel
theorem dX8_goesOn_14 : decode cX8_goesOn 14 = .ok (.ireturn, 1) := by decide +kernel
theorem hd_X8_goesOn : yX8_goesOn.cls ≠ "java/lang/invoke/MethodHandle" ∧ yX8_goesOn.cls ≠ "java/lang/invoke/VarHandle" ∧ (parseMethodDescriptor yX8_goesOn.desc).map (fun d => d.parameters.length) = some 1 := by decide +kernel
abbrev rm_X8_goesOn : Room := { frames := 0, cells := 0, slots := 0, locals := 0 }
set_option maxHeartbeats 4000000 in
set_option maxRecDepth 100000 in
theorem c_X8_goesOn (l : Launch) (G : Gx) (mo : Nat) (m1 : Nat) (m2 : Nat) (m3 : Nat) (m4 : Nat) (m5 : Nat) (m6 : Nat) (m8 : Nat) (m9 : Nat) (m10 : Nat) (m11 : Nat) (m12 : Nat) (m13 : Nat) (m14 : Nat) (m15 : Nat) (m16 : Nat) (m19 : Nat) (y : YS) : Mt l G yX8_goesOn cX8_goesOn 2 (some .boolean) rm_X8_goesOn [.ref mo, .int (nI 0)] [(mo, .inr (6, [.int (nI (zX y)), .ref m1, .ref m2, .ref m3, .ref m4, .ref m5, .ref m6, .int (nI (zD y)), .ref m8, .ref m9, .ref m10, .ref m11, .ref m12, .ref m13, .ref m14, .ref m15, .ref m16, .int (nI (zL y)), .int (nI (zH y)), .ref m19])), (m1, .inl (G.2.1 3, 160, .inl (fun j9 => bI ((zI y) j9)))), (m2, .inl (G.2.1 1, 160, .inl (zN y))), (m3, .inl (G.2.1 1, 160, .inl (fun j9 => nI ((zB y) j9)))), (m4, .inl (G.2.1 1, 160, .inl (fun j9 => nI ((zT y) j9)))), (m5, .inl (G.2.1 1, 160, .inl (fun j9 => nI ((zP y) j9)))), (m6, .inl (G.2.1 1, 160, .inl (fun j9 => nI ((zS y) j9)))), (m8, .inl (G.2.1 1, 8, .inl (fun j9 => nI ((zR y) j9)))), (m9, .inl (G.2.1 1, 4, .inl (fun j9 => nI ((zQ y) j9)))), (m10, .inl (G.2.1 0, 96, .inl (fun j9 => nI ((zA y) j9)))), (m11, .inl (G.2.1 1, 96, .inl (fun j9 => nI ((zO y) j9)))), (m12, .inl (G.2.1 1, 96, .inl (fun j9 => nI ((zF y) j9)))), (m13, .inl (G.2.1 1, 96, .inl (fun j9 => nI ((zM y) j9)))), (m14, .inl (G.2.1 3, 96, .inl (fun j9 => bI ((zE y) j9)))), (m15, .inl (G.2.1 3, 384, .inl (fun j9 => bI ((zV y) j9)))), (m16, .inl (G.2.1 1, 9, .inl (fun j9 => nI ((zK y) j9)))), (m19, .inl (G.2.1 3, 96, .inl (fun j9 => bI ((zG y) j9))))] (D1 (some (.int (bI true))) [(mo, .inr (6, [.int (nI (zX (thrY 0 y))), .ref m1, .ref m2, .ref m3, .ref m4, .ref m5, .ref m6, .int (nI (zD (thrY 0 y))), .ref m8, .ref m9, .ref m10, .ref m11, .ref m12, .ref m13, .ref m14, .ref m15, .ref m16, .int (nI (zL (thrY 0 y))), .int (nI (zH (thrY 0 y))), .ref m19])), (m1, .inl (G.2.1 3, 160, .inl (fun j9 => bI ((zI (thrY 0 y)) j9)))), (m2, .inl (G.2.1 1, 160, .inl (zN (thrY 0 y)))), (m3, .inl (G.2.1 1, 160, .inl (fun j9 => nI ((zB (thrY 0 y)) j9)))), (m4, .inl (G.2.1 1, 160, .inl (fun j9 => nI ((zT (thrY 0 y)) j9)))), (m5, .inl (G.2.1 1, 160, .inl (fun j9 => nI ((zP (thrY 0 y)) j9)))), (m6, .inl (G.2.1 1, 160, .inl (fun j9 => nI ((zS (thrY 0 y)) j9)))), (m8, .inl (G.2.1 1, 8, .inl (fun j9 => nI ((zR (thrY 0 y)) j9)))), (m9, .inl (G.2.1 1, 4, .inl (fun j9 => nI ((zQ (thrY 0 y)) j9)))), (m10, .inl (G.2.1 0, 96, .inl (fun j9 => nI ((zA (thrY 0 y)) j9)))), (m11, .inl (G.2.1 1, 96, .inl (fun j9 => nI ((zO (thrY 0 y)) j9)))), (m12, .inl (G.2.1 1, 96, .inl (fun j9 => nI ((zF (thrY 0 y)) j9)))), (m13, .inl (G.2.1 1, 96, .inl (fun j9 => nI ((zM (thrY 0 y)) j9)))), (m14, .inl (G.2.1 3, 96, .inl (fun j9 => bI ((zE (thrY 0 y)) j9)))), (m15, .inl (G.2.1 3, 384, .inl (fun j9 => bI ((zV (thrY 0 y)) j9)))), (m16, .inl (G.2.1 1, 9, .inl (fun j9 => nI ((zK (thrY 0 y)) j9)))), (m19, .inl (G.2.1 3, 96, .inl (fun j9 => bI ((zG (thrY 0 y)) j9))))]) := by
  refine Mt.of (by decide) (Nat.le_of_ble_eq_true rfl) ?_
  intro K hl9 hn9 hR
  show V K G cX8_goesOn RX8 2 rm_X8_goesOn 0 0 0 [(0, .ref mo), (1, .int (nI 0))] [] [(mo, .inr (6, [.int (nI (zX y)), .ref m1, .ref m2, .ref m3, .ref m4, .ref m5, .ref m6, .int (nI (zD y)), .ref m8, .ref m9, .ref m10, .ref m11, .ref m12, .ref m13, .ref m14, .ref m15, .ref m16, .int (nI (zL y)), .int (nI (zH y)), .ref m19])), (m1, .inl (G.2.1 3, 160, .inl (fun j9 => bI ((zI y) j9)))), (m2, .inl (G.2.1 1, 160, .inl (zN y))), (m3, .inl (G.2.1 1, 160, .inl (fun j9 => nI ((zB y) j9)))), (m4, .inl (G.2.1 1, 160, .inl (fun j9 => nI ((zT y) j9)))), (m5, .inl (G.2.1 1, 160, .inl (fun j9 => nI ((zP y) j9)))), (m6, .inl (G.2.1 1, 160, .inl (fun j9 => nI ((zS y) j9)))), (m8, .inl (G.2.1 1, 8, .inl (fun j9 => nI ((zR y) j9)))), (m9, .inl (G.2.1 1, 4, .inl (fun j9 => nI ((zQ y) j9)))), (m10, .inl (G.2.1 0, 96, .inl (fun j9 => nI ((zA y) j9)))), (m11, .inl (G.2.1 1, 96, .inl (fun j9 => nI ((zO y) j9)))), (m12, .inl (G.2.1 1, 96, .inl (fun j9 => nI ((zF y) j9)))), (m13, .inl (G.2.1 1, 96, .inl (fun j9 => nI ((zM y) j9)))), (m14, .inl (G.2.1 3, 96, .inl (fun j9 => bI ((zE y) j9)))), (m15, .inl (G.2.1 3, 384, .inl (fun j9 => bI ((zV y) j9)))), (m16, .inl (G.2.1 1, 9, .inl (fun j9 => nI ((zK y) j9)))), (m19, .inl (G.2.1 3, 96, .inl (fun j9 => bI ((zG y) j9))))]
  refine v_aload_n dX8_goesOn_0 rfl 0 rfl ?_
  refine v_iload_n dX8_goesOn_1 rfl 1 rfl ?_
  refine v_put (ref := "SealhouseModel") (C := RX8) (T := TX8) (N := 20) (ty0 := tyX8) (t := tyX8 0) (ws' := [(mo, .inr (6, [.int (nI 0), .ref m1, .ref m2, .ref m3, .ref m4, .ref m5, .ref m6, .int (nI (zD y)), .ref m8, .ref m9, .ref m10, .ref m11, .ref m12, .ref m13, .ref m14, .ref m15, .ref m16, .int (nI (zL y)), .int (nI (zH y)), .ref m19])), (m1, .inl (G.2.1 3, 160, .inl (fun j9 => bI ((zI y) j9)))), (m2, .inl (G.2.1 1, 160, .inl (zN y))), (m3, .inl (G.2.1 1, 160, .inl (fun j9 => nI ((zB y) j9)))), (m4, .inl (G.2.1 1, 160, .inl (fun j9 => nI ((zT y) j9)))), (m5, .inl (G.2.1 1, 160, .inl (fun j9 => nI ((zP y) j9)))), (m6, .inl (G.2.1 1, 160, .inl (fun j9 => nI ((zS y) j9)))), (m8, .inl (G.2.1 1, 8, .inl (fun j9 => nI ((zR y) j9)))), (m9, .inl (G.2.1 1, 4, .inl (fun j9 => nI ((zQ y) j9)))), (m10, .inl (G.2.1 0, 96, .inl (fun j9 => nI ((zA y) j9)))), (m11, .inl (G.2.1 1, 96, .inl (fun j9 => nI ((zO y) j9)))), (m12, .inl (G.2.1 1, 96, .inl (fun j9 => nI ((zF y) j9)))), (m13, .inl (G.2.1 1, 96, .inl (fun j9 => nI ((zM y) j9)))), (m14, .inl (G.2.1 3, 96, .inl (fun j9 => bI ((zE y) j9)))), (m15, .inl (G.2.1 3, 384, .inl (fun j9 => bI ((zV y) j9)))), (m16, .inl (G.2.1 1, 9, .inl (fun j9 => nI ((zK y) j9)))), (m19, .inl (G.2.1 3, 96, .inl (fun j9 => bI ((zG y) j9))))]) 0 0 dX8_goesOn_2 rfl rfl gin_X8 tyX8_ok nmX8 (by decide) kw_1004 rfl rfl (by decide +kernel) rfl rfl (Nat.le_of_ble_eq_true rfl) rfl ?_
  refine v_iload_n dX8_goesOn_5 rfl 1 rfl ?_
  refine n_if_ne (a := 0) (tgt := 13) dX8_goesOn_6 (by decide) (by decide) (fun c => absurd c (by decide)) (fun _ => ?_)
  refine v_iconst (v := nI 1) dX8_goesOn_9 (by decide) ?_
  refine v_goto (tgt := 14) dX8_goesOn_10 (by decide) ?_
  refine v_eqi (y := bI true) (by decide) ?_
  exact v_zret hR dX8_goesOn_14 (bI_nar _) (by exact ⟨rfl, rfl⟩)
abbrev rm_X8_goesOn_x : Room := { frames := 0, cells := 0, slots := 0, locals := 0 }
set_option maxHeartbeats 4000000 in
set_option maxRecDepth 100000 in
theorem c_X8_goesOn_x (l : Launch) (G : Gx) (mo : Nat) (m1 : Nat) (m2 : Nat) (m3 : Nat) (m4 : Nat) (m5 : Nat) (m6 : Nat) (m8 : Nat) (m9 : Nat) (m10 : Nat) (m11 : Nat) (m12 : Nat) (m13 : Nat) (m14 : Nat) (m15 : Nat) (m16 : Nat) (m19 : Nat) (y : YS) (k : Nat) (hk : k ≠ 0) (hk2 : k < 10) : Mt l G yX8_goesOn cX8_goesOn 2 (some .boolean) rm_X8_goesOn_x [.ref mo, .int (nI k)] [(mo, .inr (6, [.int (nI (zX y)), .ref m1, .ref m2, .ref m3, .ref m4, .ref m5, .ref m6, .int (nI (zD y)), .ref m8, .ref m9, .ref m10, .ref m11, .ref m12, .ref m13, .ref m14, .ref m15, .ref m16, .int (nI (zL y)), .int (nI (zH y)), .ref m19])), (m1, .inl (G.2.1 3, 160, .inl (fun j9 => bI ((zI y) j9)))), (m2, .inl (G.2.1 1, 160, .inl (zN y))), (m3, .inl (G.2.1 1, 160, .inl (fun j9 => nI ((zB y) j9)))), (m4, .inl (G.2.1 1, 160, .inl (fun j9 => nI ((zT y) j9)))), (m5, .inl (G.2.1 1, 160, .inl (fun j9 => nI ((zP y) j9)))), (m6, .inl (G.2.1 1, 160, .inl (fun j9 => nI ((zS y) j9)))), (m8, .inl (G.2.1 1, 8, .inl (fun j9 => nI ((zR y) j9)))), (m9, .inl (G.2.1 1, 4, .inl (fun j9 => nI ((zQ y) j9)))), (m10, .inl (G.2.1 0, 96, .inl (fun j9 => nI ((zA y) j9)))), (m11, .inl (G.2.1 1, 96, .inl (fun j9 => nI ((zO y) j9)))), (m12, .inl (G.2.1 1, 96, .inl (fun j9 => nI ((zF y) j9)))), (m13, .inl (G.2.1 1, 96, .inl (fun j9 => nI ((zM y) j9)))), (m14, .inl (G.2.1 3, 96, .inl (fun j9 => bI ((zE y) j9)))), (m15, .inl (G.2.1 3, 384, .inl (fun j9 => bI ((zV y) j9)))), (m16, .inl (G.2.1 1, 9, .inl (fun j9 => nI ((zK y) j9)))), (m19, .inl (G.2.1 3, 96, .inl (fun j9 => bI ((zG y) j9))))] (D1 (some (.int (bI false))) [(mo, .inr (6, [.int (nI (zX (thrY k y))), .ref m1, .ref m2, .ref m3, .ref m4, .ref m5, .ref m6, .int (nI (zD (thrY k y))), .ref m8, .ref m9, .ref m10, .ref m11, .ref m12, .ref m13, .ref m14, .ref m15, .ref m16, .int (nI (zL (thrY k y))), .int (nI (zH (thrY k y))), .ref m19])), (m1, .inl (G.2.1 3, 160, .inl (fun j9 => bI ((zI (thrY k y)) j9)))), (m2, .inl (G.2.1 1, 160, .inl (zN (thrY k y)))), (m3, .inl (G.2.1 1, 160, .inl (fun j9 => nI ((zB (thrY k y)) j9)))), (m4, .inl (G.2.1 1, 160, .inl (fun j9 => nI ((zT (thrY k y)) j9)))), (m5, .inl (G.2.1 1, 160, .inl (fun j9 => nI ((zP (thrY k y)) j9)))), (m6, .inl (G.2.1 1, 160, .inl (fun j9 => nI ((zS (thrY k y)) j9)))), (m8, .inl (G.2.1 1, 8, .inl (fun j9 => nI ((zR (thrY k y)) j9)))), (m9, .inl (G.2.1 1, 4, .inl (fun j9 => nI ((zQ (thrY k y)) j9)))), (m10, .inl (G.2.1 0, 96, .inl (fun j9 => nI ((zA (thrY k y)) j9)))), (m11, .inl (G.2.1 1, 96, .inl (fun j9 => nI ((zO (thrY k y)) j9)))), (m12, .inl (G.2.1 1, 96, .inl (fun j9 => nI ((zF (thrY k y)) j9)))), (m13, .inl (G.2.1 1, 96, .inl (fun j9 => nI ((zM (thrY k y)) j9)))), (m14, .inl (G.2.1 3, 96, .inl (fun j9 => bI ((zE (thrY k y)) j9)))), (m15, .inl (G.2.1 3, 384, .inl (fun j9 => bI ((zV (thrY k y)) j9)))), (m16, .inl (G.2.1 1, 9, .inl (fun j9 => nI ((zK (thrY k y)) j9)))), (m19, .inl (G.2.1 3, 96, .inl (fun j9 => bI ((zG (thrY k y)) j9))))]) := by
  refine Mt.of (by decide) (Nat.le_of_ble_eq_true rfl) ?_
  intro K hl9 hn9 hR
  show V K G cX8_goesOn RX8 2 rm_X8_goesOn_x 0 0 0 [(0, .ref mo), (1, .int (nI k))] [] [(mo, .inr (6, [.int (nI (zX y)), .ref m1, .ref m2, .ref m3, .ref m4, .ref m5, .ref m6, .int (nI (zD y)), .ref m8, .ref m9, .ref m10, .ref m11, .ref m12, .ref m13, .ref m14, .ref m15, .ref m16, .int (nI (zL y)), .int (nI (zH y)), .ref m19])), (m1, .inl (G.2.1 3, 160, .inl (fun j9 => bI ((zI y) j9)))), (m2, .inl (G.2.1 1, 160, .inl (zN y))), (m3, .inl (G.2.1 1, 160, .inl (fun j9 => nI ((zB y) j9)))), (m4, .inl (G.2.1 1, 160, .inl (fun j9 => nI ((zT y) j9)))), (m5, .inl (G.2.1 1, 160, .inl (fun j9 => nI ((zP y) j9)))), (m6, .inl (G.2.1 1, 160, .inl (fun j9 => nI ((zS y) j9)))), (m8, .inl (G.2.1 1, 8, .inl (fun j9 => nI ((zR y) j9)))), (m9, .inl (G.2.1 1, 4, .inl (fun j9 => nI ((zQ y) j9)))), (m10, .inl (G.2.1 0, 96, .inl (fun j9 => nI ((zA y) j9)))), (m11, .inl (G.2.1 1, 96, .inl (fun j9 => nI ((zO y) j9)))), (m12, .inl (G.2.1 1, 96, .inl (fun j9 => nI ((zF y) j9)))), (m13, .inl (G.2.1 1, 96, .inl (fun j9 => nI ((zM y) j9)))), (m14, .inl (G.2.1 3, 96, .inl (fun j9 => bI ((zE y) j9)))), (m15, .inl (G.2.1 3, 384, .inl (fun j9 => bI ((zV y) j9)))), (m16, .inl (G.2.1 1, 9, .inl (fun j9 => nI ((zK y) j9)))), (m19, .inl (G.2.1 3, 96, .inl (fun j9 => bI ((zG y) j9))))]
  refine v_aload_n dX8_goesOn_0 rfl 0 rfl ?_
  refine v_iload_n dX8_goesOn_1 rfl 1 rfl ?_
  refine v_put (ref := "SealhouseModel") (C := RX8) (T := TX8) (N := 20) (ty0 := tyX8) (t := tyX8 0) (ws' := [(mo, .inr (6, [.int (nI k), .ref m1, .ref m2, .ref m3, .ref m4, .ref m5, .ref m6, .int (nI (zD y)), .ref m8, .ref m9, .ref m10, .ref m11, .ref m12, .ref m13, .ref m14, .ref m15, .ref m16, .int (nI (zL y)), .int (nI (zH y)), .ref m19])), (m1, .inl (G.2.1 3, 160, .inl (fun j9 => bI ((zI y) j9)))), (m2, .inl (G.2.1 1, 160, .inl (zN y))), (m3, .inl (G.2.1 1, 160, .inl (fun j9 => nI ((zB y) j9)))), (m4, .inl (G.2.1 1, 160, .inl (fun j9 => nI ((zT y) j9)))), (m5, .inl (G.2.1 1, 160, .inl (fun j9 => nI ((zP y) j9)))), (m6, .inl (G.2.1 1, 160, .inl (fun j9 => nI ((zS y) j9)))), (m8, .inl (G.2.1 1, 8, .inl (fun j9 => nI ((zR y) j9)))), (m9, .inl (G.2.1 1, 4, .inl (fun j9 => nI ((zQ y) j9)))), (m10, .inl (G.2.1 0, 96, .inl (fun j9 => nI ((zA y) j9)))), (m11, .inl (G.2.1 1, 96, .inl (fun j9 => nI ((zO y) j9)))), (m12, .inl (G.2.1 1, 96, .inl (fun j9 => nI ((zF y) j9)))), (m13, .inl (G.2.1 1, 96, .inl (fun j9 => nI ((zM y) j9)))), (m14, .inl (G.2.1 3, 96, .inl (fun j9 => bI ((zE y) j9)))), (m15, .inl (G.2.1 3, 384, .inl (fun j9 => bI ((zV y) j9)))), (m16, .inl (G.2.1 1, 9, .inl (fun j9 => nI ((zK y) j9)))), (m19, .inl (G.2.1 3, 96, .inl (fun j9 => bI ((zG y) j9))))]) 0 0 dX8_goesOn_2 rfl rfl gin_X8 tyX8_ok nmX8 (by decide) kw_1004 rfl rfl (by decide +kernel) rfl rfl (Nat.le_of_ble_eq_true rfl) rfl ?_
  refine v_iload_n dX8_goesOn_5 rfl 1 rfl ?_
  refine n_if_ne (a := k) (tgt := 13) dX8_goesOn_6 (by decide) (by omega) (fun c6 => ?_) (fun c6 => absurd c6 (by exact hk))
  refine v_iconst (v := nI 0) dX8_goesOn_13 (by decide) ?_
  refine v_eqi (y := bI false) (by decide) ?_
  exact v_zret hR dX8_goesOn_14 (bI_nar _) (by exact ⟨rfl, rfl⟩)
theorem dX8_slotAt_0 : decode cX8_slotAt 0 = .ok (.bipush 96, 2) := by decide +kernel
theorem dX8_slotAt_2 : decode cX8_slotAt 2 = .ok (.bipush 8, 2) := by decide +kernel
theorem dX8_slotAt_4 : decode cX8_slotAt 4 = .ok (.iload_n 0, 1) := by decide +kernel
theorem dX8_slotAt_5 : decode cX8_slotAt 5 = .ok (.imul, 1) := by decide +kernel
theorem dX8_slotAt_6 : decode cX8_slotAt 6 = .ok (.iadd, 1) := by decide +kernel
theorem dX8_slotAt_7 : decode cX8_slotAt 7 = .ok (.iload_n 1, 1) := by decide +kernel
theorem dX8_slotAt_8 : decode cX8_slotAt 8 = .ok (.iadd, 1) := by decide +kernel
theorem dX8_slotAt_9 : decode cX8_slotAt 9 = .ok (.ireturn, 1) := by decide +kernel
theorem hd_X8_slotAt : yX8_slotAt.cls ≠ "java/lang/invoke/MethodHandle" ∧ yX8_slotAt.cls ≠ "java/lang/invoke/VarHandle" ∧ (parseMethodDescriptor yX8_slotAt.desc).map (fun d => d.parameters.length) = some 2 := by decide +kernel
abbrev rm_X8_slotAt : Room := { frames := 0, cells := 0, slots := 0, locals := 0 }
set_option maxHeartbeats 4000000 in
set_option maxRecDepth 100000 in
theorem c_X8_slotAt (l : Launch) (G : Gx) (d : Nat) (r : Nat) (hd : d < 100) (hr : r < 100) : Mt l G yX8_slotAt cX8_slotAt 2 (some .int) rm_X8_slotAt [.int (nI d), .int (nI r)] [] (D1 (some (.int (nI (96 + 8 * d + r)))) []) := by
  refine Mt.of (by decide) (Nat.le_of_ble_eq_true rfl) ?_
  intro K hl9 hn9 hR
  show V K G cX8_slotAt RX8 2 rm_X8_slotAt 0 0 0 [(0, .int (nI d)), (1, .int (nI r))] [] []
  refine v_bipush (v := nI 96) dX8_slotAt_0 (by decide) ?_
  refine v_bipush (v := nI 8) dX8_slotAt_2 (by decide) ?_
  refine v_iload_n dX8_slotAt_4 rfl 0 rfl ?_
  refine n_imul (a := 8) (b := d) (z := 8 * d) dX8_slotAt_5 rfl ?_
  refine n_iadd (a := 96) (b := 8 * d) (z := 96 + (8 * d)) dX8_slotAt_6 rfl ?_
  refine v_iload_n dX8_slotAt_7 rfl 1 rfl ?_
  refine n_iadd (a := 96 + (8 * d)) (b := r) (z := (96 + (8 * d)) + r) dX8_slotAt_8 rfl ?_
  exact v_iret hR dX8_slotAt_9 (by exact ⟨rfl, rfl⟩)
theorem dX8_slot_0 : decode cX8_slot 0 = .ok (.aload_n 0, 1) := by decide +kernel
theorem dX8_slot_1 : decode cX8_slot 1 = .ok (.getfield 71, 3) := by decide +kernel
theorem dX8_slot_4 : decode cX8_slot 4 = .ok (.iload_n 1, 1) := by decide +kernel
theorem dX8_slot_5 : decode cX8_slot 5 = .ok (.invokestatic 74, 3) := by decide +kernel
theorem dX8_slot_8 : decode cX8_slot 8 = .ok (.ireturn, 1) := by decide +kernel
theorem hd_X8_slot : yX8_slot.cls ≠ "java/lang/invoke/MethodHandle" ∧ yX8_slot.cls ≠ "java/lang/invoke/VarHandle" ∧ (parseMethodDescriptor yX8_slot.desc).map (fun d => d.parameters.length) = some 1 := by decide +kernel
abbrev rm_X8_slot : Room := { frames := 1, cells := 0, slots := 0, locals := 21 }
set_option maxHeartbeats 4000000 in
set_option maxRecDepth 100000 in
theorem c_X8_slot (l : Launch) (G : Gx) (mo : Nat) (m1 : Nat) (m2 : Nat) (m3 : Nat) (m4 : Nat) (m5 : Nat) (m6 : Nat) (m8 : Nat) (m9 : Nat) (m10 : Nat) (m11 : Nat) (m12 : Nat) (m13 : Nat) (m14 : Nat) (m15 : Nat) (m16 : Nat) (m19 : Nat) (y : YS) (r : Nat) (hd : zD y < 8) (hr8 : r < 9) : Mt l G yX8_slot cX8_slot 2 (some .int) rm_X8_slot [.ref mo, .int (nI r)] [(mo, .inr (6, [.int (nI (zX y)), .ref m1, .ref m2, .ref m3, .ref m4, .ref m5, .ref m6, .int (nI (zD y)), .ref m8, .ref m9, .ref m10, .ref m11, .ref m12, .ref m13, .ref m14, .ref m15, .ref m16, .int (nI (zL y)), .int (nI (zH y)), .ref m19])), (m1, .inl (G.2.1 3, 160, .inl (fun j9 => bI ((zI y) j9)))), (m2, .inl (G.2.1 1, 160, .inl (zN y))), (m3, .inl (G.2.1 1, 160, .inl (fun j9 => nI ((zB y) j9)))), (m4, .inl (G.2.1 1, 160, .inl (fun j9 => nI ((zT y) j9)))), (m5, .inl (G.2.1 1, 160, .inl (fun j9 => nI ((zP y) j9)))), (m6, .inl (G.2.1 1, 160, .inl (fun j9 => nI ((zS y) j9)))), (m8, .inl (G.2.1 1, 8, .inl (fun j9 => nI ((zR y) j9)))), (m9, .inl (G.2.1 1, 4, .inl (fun j9 => nI ((zQ y) j9)))), (m10, .inl (G.2.1 0, 96, .inl (fun j9 => nI ((zA y) j9)))), (m11, .inl (G.2.1 1, 96, .inl (fun j9 => nI ((zO y) j9)))), (m12, .inl (G.2.1 1, 96, .inl (fun j9 => nI ((zF y) j9)))), (m13, .inl (G.2.1 1, 96, .inl (fun j9 => nI ((zM y) j9)))), (m14, .inl (G.2.1 3, 96, .inl (fun j9 => bI ((zE y) j9)))), (m15, .inl (G.2.1 3, 384, .inl (fun j9 => bI ((zV y) j9)))), (m16, .inl (G.2.1 1, 9, .inl (fun j9 => nI ((zK y) j9)))), (m19, .inl (G.2.1 3, 96, .inl (fun j9 => bI ((zG y) j9))))] (D1 (some (.int (nI (slA y r)))) [(mo, .inr (6, [.int (nI (zX y)), .ref m1, .ref m2, .ref m3, .ref m4, .ref m5, .ref m6, .int (nI (zD y)), .ref m8, .ref m9, .ref m10, .ref m11, .ref m12, .ref m13, .ref m14, .ref m15, .ref m16, .int (nI (zL y)), .int (nI (zH y)), .ref m19])), (m1, .inl (G.2.1 3, 160, .inl (fun j9 => bI ((zI y) j9)))), (m2, .inl (G.2.1 1, 160, .inl (zN y))), (m3, .inl (G.2.1 1, 160, .inl (fun j9 => nI ((zB y) j9)))), (m4, .inl (G.2.1 1, 160, .inl (fun j9 => nI ((zT y) j9)))), (m5, .inl (G.2.1 1, 160, .inl (fun j9 => nI ((zP y) j9)))), (m6, .inl (G.2.1 1, 160, .inl (fun j9 => nI ((zS y) j9)))), (m8, .inl (G.2.1 1, 8, .inl (fun j9 => nI ((zR y) j9)))), (m9, .inl (G.2.1 1, 4, .inl (fun j9 => nI ((zQ y) j9)))), (m10, .inl (G.2.1 0, 96, .inl (fun j9 => nI ((zA y) j9)))), (m11, .inl (G.2.1 1, 96, .inl (fun j9 => nI ((zO y) j9)))), (m12, .inl (G.2.1 1, 96, .inl (fun j9 => nI ((zF y) j9)))), (m13, .inl (G.2.1 1, 96, .inl (fun j9 => nI ((zM y) j9)))), (m14, .inl (G.2.1 3, 96, .inl (fun j9 => bI ((zE y) j9)))), (m15, .inl (G.2.1 3, 384, .inl (fun j9 => bI ((zV y) j9)))), (m16, .inl (G.2.1 1, 9, .inl (fun j9 => nI ((zK y) j9)))), (m19, .inl (G.2.1 3, 96, .inl (fun j9 => bI ((zG y) j9))))]) := by
  refine Mt.of (by decide) (Nat.le_of_ble_eq_true rfl) ?_
  intro K hl9 hn9 hR
  show V K G cX8_slot RX8 2 rm_X8_slot 0 0 0 [(0, .ref mo), (1, .int (nI r))] [] [(mo, .inr (6, [.int (nI (zX y)), .ref m1, .ref m2, .ref m3, .ref m4, .ref m5, .ref m6, .int (nI (zD y)), .ref m8, .ref m9, .ref m10, .ref m11, .ref m12, .ref m13, .ref m14, .ref m15, .ref m16, .int (nI (zL y)), .int (nI (zH y)), .ref m19])), (m1, .inl (G.2.1 3, 160, .inl (fun j9 => bI ((zI y) j9)))), (m2, .inl (G.2.1 1, 160, .inl (zN y))), (m3, .inl (G.2.1 1, 160, .inl (fun j9 => nI ((zB y) j9)))), (m4, .inl (G.2.1 1, 160, .inl (fun j9 => nI ((zT y) j9)))), (m5, .inl (G.2.1 1, 160, .inl (fun j9 => nI ((zP y) j9)))), (m6, .inl (G.2.1 1, 160, .inl (fun j9 => nI ((zS y) j9)))), (m8, .inl (G.2.1 1, 8, .inl (fun j9 => nI ((zR y) j9)))), (m9, .inl (G.2.1 1, 4, .inl (fun j9 => nI ((zQ y) j9)))), (m10, .inl (G.2.1 0, 96, .inl (fun j9 => nI ((zA y) j9)))), (m11, .inl (G.2.1 1, 96, .inl (fun j9 => nI ((zO y) j9)))), (m12, .inl (G.2.1 1, 96, .inl (fun j9 => nI ((zF y) j9)))), (m13, .inl (G.2.1 1, 96, .inl (fun j9 => nI ((zM y) j9)))), (m14, .inl (G.2.1 3, 96, .inl (fun j9 => bI ((zE y) j9)))), (m15, .inl (G.2.1 3, 384, .inl (fun j9 => bI ((zV y) j9)))), (m16, .inl (G.2.1 1, 9, .inl (fun j9 => nI ((zK y) j9)))), (m19, .inl (G.2.1 3, 96, .inl (fun j9 => bI ((zG y) j9))))]
  refine v_aload_n dX8_slot_0 rfl 0 rfl ?_
  refine v_get (ref := "SealhouseModel") (C := RX8) (T := TX8) (N := 20) 0 7 dX8_slot_1 rfl rfl gin_X8 (by decide) kw_1011 rfl rfl ?_
  refine v_iload_n dX8_slot_4 rfl 1 rfl ?_
  refine c_S1 (As := [.int (nI (zD y)), .int (nI r)]) (rest := []) (wr := [(mo, .inr (6, [.int (nI (zX y)), .ref m1, .ref m2, .ref m3, .ref m4, .ref m5, .ref m6, .int (nI (zD y)), .ref m8, .ref m9, .ref m10, .ref m11, .ref m12, .ref m13, .ref m14, .ref m15, .ref m16, .int (nI (zL y)), .int (nI (zH y)), .ref m19])), (m1, .inl (G.2.1 3, 160, .inl (fun j9 => bI ((zI y) j9)))), (m2, .inl (G.2.1 1, 160, .inl (zN y))), (m3, .inl (G.2.1 1, 160, .inl (fun j9 => nI ((zB y) j9)))), (m4, .inl (G.2.1 1, 160, .inl (fun j9 => nI ((zT y) j9)))), (m5, .inl (G.2.1 1, 160, .inl (fun j9 => nI ((zP y) j9)))), (m6, .inl (G.2.1 1, 160, .inl (fun j9 => nI ((zS y) j9)))), (m8, .inl (G.2.1 1, 8, .inl (fun j9 => nI ((zR y) j9)))), (m9, .inl (G.2.1 1, 4, .inl (fun j9 => nI ((zQ y) j9)))), (m10, .inl (G.2.1 0, 96, .inl (fun j9 => nI ((zA y) j9)))), (m11, .inl (G.2.1 1, 96, .inl (fun j9 => nI ((zO y) j9)))), (m12, .inl (G.2.1 1, 96, .inl (fun j9 => nI ((zF y) j9)))), (m13, .inl (G.2.1 1, 96, .inl (fun j9 => nI ((zM y) j9)))), (m14, .inl (G.2.1 3, 96, .inl (fun j9 => bI ((zE y) j9)))), (m15, .inl (G.2.1 3, 384, .inl (fun j9 => bI ((zV y) j9)))), (m16, .inl (G.2.1 1, 9, .inl (fun j9 => nI ((zK y) j9)))), (m19, .inl (G.2.1 3, 96, .inl (fun j9 => bI ((zG y) j9))))]) (k' := 0) (n' := 0) (st2 := [.int (nI (96 + 8 * (zD y) + r))]) (ws2 := [(mo, .inr (6, [.int (nI (zX y)), .ref m1, .ref m2, .ref m3, .ref m4, .ref m5, .ref m6, .int (nI (zD y)), .ref m8, .ref m9, .ref m10, .ref m11, .ref m12, .ref m13, .ref m14, .ref m15, .ref m16, .int (nI (zL y)), .int (nI (zH y)), .ref m19])), (m1, .inl (G.2.1 3, 160, .inl (fun j9 => bI ((zI y) j9)))), (m2, .inl (G.2.1 1, 160, .inl (zN y))), (m3, .inl (G.2.1 1, 160, .inl (fun j9 => nI ((zB y) j9)))), (m4, .inl (G.2.1 1, 160, .inl (fun j9 => nI ((zT y) j9)))), (m5, .inl (G.2.1 1, 160, .inl (fun j9 => nI ((zP y) j9)))), (m6, .inl (G.2.1 1, 160, .inl (fun j9 => nI ((zS y) j9)))), (m8, .inl (G.2.1 1, 8, .inl (fun j9 => nI ((zR y) j9)))), (m9, .inl (G.2.1 1, 4, .inl (fun j9 => nI ((zQ y) j9)))), (m10, .inl (G.2.1 0, 96, .inl (fun j9 => nI ((zA y) j9)))), (m11, .inl (G.2.1 1, 96, .inl (fun j9 => nI ((zO y) j9)))), (m12, .inl (G.2.1 1, 96, .inl (fun j9 => nI ((zF y) j9)))), (m13, .inl (G.2.1 1, 96, .inl (fun j9 => nI ((zM y) j9)))), (m14, .inl (G.2.1 3, 96, .inl (fun j9 => bI ((zE y) j9)))), (m15, .inl (G.2.1 3, 384, .inl (fun j9 => bI ((zV y) j9)))), (m16, .inl (G.2.1 1, 9, .inl (fun j9 => nI ((zK y) j9)))), (m19, .inl (G.2.1 3, 96, .inl (fun j9 => bI ((zG y) j9))))]) (c_X8_slotAt K.2.1 G (zD y) r (by omega) (by omega)) [] [0, 1, 2, 3, 4, 5, 6, 7, 8, 9, 10, 11, 12, 13, 14, 15, 16] dX8_slot_5 kw_974 kw_975 kw_46 kw_976 hd_X8_slotAt ⟨Nat.le_of_ble_eq_true rfl, Nat.le_of_ble_eq_true rfl⟩ ⟨(by decide), (by decide)⟩ ⟨rfl, rfl⟩ (Nat.le_of_ble_eq_true rfl) rfl rfl rfl rfl rfl rfl (by decide) [0, 1, 2, 3, 4, 5, 6, 7, 8, 9, 10, 11, 12, 13, 14, 15, 16] rfl rfl rfl rfl ?_
  exact v_iret hR dX8_slot_8 (by exact ⟨rfl, rfl⟩)
theorem dX8_numbers_0 : decode cX8_numbers 0 = .ok (.aload_n 0, 1) := by decide +kernel
theorem dX8_numbers_1 : decode cX8_numbers 1 = .ok (.getfield 7, 3) := by decide +kernel
theorem dX8_numbers_4 : decode cX8_numbers 4 = .ok (.iload_n 1, 1) := by decide +kernel
theorem dX8_numbers_5 : decode cX8_numbers 5 = .ok (.iconst 0, 1) := by decide +kernel
theorem dX8_numbers_6 : decode cX8_numbers 6 = .ok (.bastore, 1) := by decide +kernel
theorem dX8_numbers_7 : decode cX8_numbers 7 = .ok (.aload_n 0, 1) := by decide +kernel
theorem dX8_numbers_8 : decode cX8_numbers 8 = .ok (.getfield 13, 3) := by decide +kernel
theorem dX8_numbers_11 : decode cX8_numbers 11 = .ok (.iload_n 1, 1) := by decide +kernel
theorem dX8_numbers_12 : decode cX8_numbers 12 = .ok (.iload_n 2, 1) := by decide +kernel
theorem dX8_numbers_13 : decode cX8_numbers 13 = .ok (.iastore, 1) := by decide +kernel
theorem dX8_numbers_14 : decode cX8_numbers 14 = .ok (.return_, 1) := by decide +kernel
theorem hd_X8_numbers : yX8_numbers.cls ≠ "java/lang/invoke/MethodHandle" ∧ yX8_numbers.cls ≠ "java/lang/invoke/VarHandle" ∧ (parseMethodDescriptor yX8_numbers.desc).map (fun d => d.parameters.length) = some 2 := by decide +kernel
abbrev rm_X8_numbers : Room := { frames := 0, cells := 0, slots := 0, locals := 0 }
set_option maxHeartbeats 4000000 in
set_option maxRecDepth 100000 in
theorem c_X8_numbers (l : Launch) (G : Gx) (mo : Nat) (m1 : Nat) (m2 : Nat) (m3 : Nat) (m4 : Nat) (m5 : Nat) (m6 : Nat) (m8 : Nat) (m9 : Nat) (m10 : Nat) (m11 : Nat) (m12 : Nat) (m13 : Nat) (m14 : Nat) (m15 : Nat) (m16 : Nat) (m19 : Nat) (y : YS) (s : Nat) (n : Int32) (hs : s < 160) : Mt l G yX8_numbers cX8_numbers 3 none rm_X8_numbers [.ref mo, .int (nI s), .int n] [(mo, .inr (6, [.int (nI (zX y)), .ref m1, .ref m2, .ref m3, .ref m4, .ref m5, .ref m6, .int (nI (zD y)), .ref m8, .ref m9, .ref m10, .ref m11, .ref m12, .ref m13, .ref m14, .ref m15, .ref m16, .int (nI (zL y)), .int (nI (zH y)), .ref m19])), (m1, .inl (G.2.1 3, 160, .inl (fun j9 => bI ((zI y) j9)))), (m2, .inl (G.2.1 1, 160, .inl (zN y))), (m3, .inl (G.2.1 1, 160, .inl (fun j9 => nI ((zB y) j9)))), (m4, .inl (G.2.1 1, 160, .inl (fun j9 => nI ((zT y) j9)))), (m5, .inl (G.2.1 1, 160, .inl (fun j9 => nI ((zP y) j9)))), (m6, .inl (G.2.1 1, 160, .inl (fun j9 => nI ((zS y) j9)))), (m8, .inl (G.2.1 1, 8, .inl (fun j9 => nI ((zR y) j9)))), (m9, .inl (G.2.1 1, 4, .inl (fun j9 => nI ((zQ y) j9)))), (m10, .inl (G.2.1 0, 96, .inl (fun j9 => nI ((zA y) j9)))), (m11, .inl (G.2.1 1, 96, .inl (fun j9 => nI ((zO y) j9)))), (m12, .inl (G.2.1 1, 96, .inl (fun j9 => nI ((zF y) j9)))), (m13, .inl (G.2.1 1, 96, .inl (fun j9 => nI ((zM y) j9)))), (m14, .inl (G.2.1 3, 96, .inl (fun j9 => bI ((zE y) j9)))), (m15, .inl (G.2.1 3, 384, .inl (fun j9 => bI ((zV y) j9)))), (m16, .inl (G.2.1 1, 9, .inl (fun j9 => nI ((zK y) j9)))), (m19, .inl (G.2.1 3, 96, .inl (fun j9 => bI ((zG y) j9))))] (D1 none [(mo, .inr (6, [.int (nI (zX (onW (numW s n) y))), .ref m1, .ref m2, .ref m3, .ref m4, .ref m5, .ref m6, .int (nI (zD (onW (numW s n) y))), .ref m8, .ref m9, .ref m10, .ref m11, .ref m12, .ref m13, .ref m14, .ref m15, .ref m16, .int (nI (zL (onW (numW s n) y))), .int (nI (zH (onW (numW s n) y))), .ref m19])), (m1, .inl (G.2.1 3, 160, .inl (fun j9 => bI ((zI (onW (numW s n) y)) j9)))), (m2, .inl (G.2.1 1, 160, .inl (zN (onW (numW s n) y)))), (m3, .inl (G.2.1 1, 160, .inl (fun j9 => nI ((zB (onW (numW s n) y)) j9)))), (m4, .inl (G.2.1 1, 160, .inl (fun j9 => nI ((zT (onW (numW s n) y)) j9)))), (m5, .inl (G.2.1 1, 160, .inl (fun j9 => nI ((zP (onW (numW s n) y)) j9)))), (m6, .inl (G.2.1 1, 160, .inl (fun j9 => nI ((zS (onW (numW s n) y)) j9)))), (m8, .inl (G.2.1 1, 8, .inl (fun j9 => nI ((zR (onW (numW s n) y)) j9)))), (m9, .inl (G.2.1 1, 4, .inl (fun j9 => nI ((zQ (onW (numW s n) y)) j9)))), (m10, .inl (G.2.1 0, 96, .inl (fun j9 => nI ((zA (onW (numW s n) y)) j9)))), (m11, .inl (G.2.1 1, 96, .inl (fun j9 => nI ((zO (onW (numW s n) y)) j9)))), (m12, .inl (G.2.1 1, 96, .inl (fun j9 => nI ((zF (onW (numW s n) y)) j9)))), (m13, .inl (G.2.1 1, 96, .inl (fun j9 => nI ((zM (onW (numW s n) y)) j9)))), (m14, .inl (G.2.1 3, 96, .inl (fun j9 => bI ((zE (onW (numW s n) y)) j9)))), (m15, .inl (G.2.1 3, 384, .inl (fun j9 => bI ((zV (onW (numW s n) y)) j9)))), (m16, .inl (G.2.1 1, 9, .inl (fun j9 => nI ((zK (onW (numW s n) y)) j9)))), (m19, .inl (G.2.1 3, 96, .inl (fun j9 => bI ((zG (onW (numW s n) y)) j9))))]) := by
  refine Mt.of (by decide) (Nat.le_of_ble_eq_true rfl) ?_
  intro K hl9 hn9 hR
  show V K G cX8_numbers RX8 3 rm_X8_numbers 0 0 0 [(0, .ref mo), (1, .int (nI s)), (2, .int n)] [] [(mo, .inr (6, [.int (nI (zX y)), .ref m1, .ref m2, .ref m3, .ref m4, .ref m5, .ref m6, .int (nI (zD y)), .ref m8, .ref m9, .ref m10, .ref m11, .ref m12, .ref m13, .ref m14, .ref m15, .ref m16, .int (nI (zL y)), .int (nI (zH y)), .ref m19])), (m1, .inl (G.2.1 3, 160, .inl (fun j9 => bI ((zI y) j9)))), (m2, .inl (G.2.1 1, 160, .inl (zN y))), (m3, .inl (G.2.1 1, 160, .inl (fun j9 => nI ((zB y) j9)))), (m4, .inl (G.2.1 1, 160, .inl (fun j9 => nI ((zT y) j9)))), (m5, .inl (G.2.1 1, 160, .inl (fun j9 => nI ((zP y) j9)))), (m6, .inl (G.2.1 1, 160, .inl (fun j9 => nI ((zS y) j9)))), (m8, .inl (G.2.1 1, 8, .inl (fun j9 => nI ((zR y) j9)))), (m9, .inl (G.2.1 1, 4, .inl (fun j9 => nI ((zQ y) j9)))), (m10, .inl (G.2.1 0, 96, .inl (fun j9 => nI ((zA y) j9)))), (m11, .inl (G.2.1 1, 96, .inl (fun j9 => nI ((zO y) j9)))), (m12, .inl (G.2.1 1, 96, .inl (fun j9 => nI ((zF y) j9)))), (m13, .inl (G.2.1 1, 96, .inl (fun j9 => nI ((zM y) j9)))), (m14, .inl (G.2.1 3, 96, .inl (fun j9 => bI ((zE y) j9)))), (m15, .inl (G.2.1 3, 384, .inl (fun j9 => bI ((zV y) j9)))), (m16, .inl (G.2.1 1, 9, .inl (fun j9 => nI ((zK y) j9)))), (m19, .inl (G.2.1 3, 96, .inl (fun j9 => bI ((zG y) j9))))]
  refine v_aload_n dX8_numbers_0 rfl 0 rfl ?_
  refine v_get (ref := "SealhouseModel") (C := RX8) (T := TX8) (N := 20) 0 1 dX8_numbers_1 rfl rfl gin_X8 (by decide) kw_1005 rfl rfl ?_
  refine v_iload_n dX8_numbers_4 rfl 1 rfl ?_
  refine v_iconst (v := nI 0) dX8_numbers_5 (by decide) ?_
  refine v_eqi (y := bI false) (by decide) ?_
  refine n_zast (i := s) (g := (fun j9 => bI ((va_up (zI y) s false) j9))) (ws' := [(mo, .inr (6, [.int (nI (zX y)), .ref m1, .ref m2, .ref m3, .ref m4, .ref m5, .ref m6, .int (nI (zD y)), .ref m8, .ref m9, .ref m10, .ref m11, .ref m12, .ref m13, .ref m14, .ref m15, .ref m16, .int (nI (zL y)), .int (nI (zH y)), .ref m19])), (m1, .inl (G.2.1 3, 160, .inl (fun j9 => bI ((va_up (zI y) s false) j9)))), (m2, .inl (G.2.1 1, 160, .inl (zN y))), (m3, .inl (G.2.1 1, 160, .inl (fun j9 => nI ((zB y) j9)))), (m4, .inl (G.2.1 1, 160, .inl (fun j9 => nI ((zT y) j9)))), (m5, .inl (G.2.1 1, 160, .inl (fun j9 => nI ((zP y) j9)))), (m6, .inl (G.2.1 1, 160, .inl (fun j9 => nI ((zS y) j9)))), (m8, .inl (G.2.1 1, 8, .inl (fun j9 => nI ((zR y) j9)))), (m9, .inl (G.2.1 1, 4, .inl (fun j9 => nI ((zQ y) j9)))), (m10, .inl (G.2.1 0, 96, .inl (fun j9 => nI ((zA y) j9)))), (m11, .inl (G.2.1 1, 96, .inl (fun j9 => nI ((zO y) j9)))), (m12, .inl (G.2.1 1, 96, .inl (fun j9 => nI ((zF y) j9)))), (m13, .inl (G.2.1 1, 96, .inl (fun j9 => nI ((zM y) j9)))), (m14, .inl (G.2.1 3, 96, .inl (fun j9 => bI ((zE y) j9)))), (m15, .inl (G.2.1 3, 384, .inl (fun j9 => bI ((zV y) j9)))), (m16, .inl (G.2.1 1, 9, .inl (fun j9 => nI ((zK y) j9)))), (m19, .inl (G.2.1 3, 96, .inl (fun j9 => bI ((zG y) j9))))]) 1 dX8_numbers_6 rfl (by omega) (by decide) (upd_b _ _ _) rfl ?_
  refine v_aload_n dX8_numbers_7 rfl 0 rfl ?_
  refine v_get (ref := "SealhouseModel") (C := RX8) (T := TX8) (N := 20) 0 2 dX8_numbers_8 rfl rfl gin_X8 (by decide) kw_1006 rfl rfl ?_
  refine v_iload_n dX8_numbers_11 rfl 1 rfl ?_
  refine v_iload_n dX8_numbers_12 rfl 2 rfl ?_
  refine n_iast (i := s) (g := upd (zN y) s n) (ws' := [(mo, .inr (6, [.int (nI (zX y)), .ref m1, .ref m2, .ref m3, .ref m4, .ref m5, .ref m6, .int (nI (zD y)), .ref m8, .ref m9, .ref m10, .ref m11, .ref m12, .ref m13, .ref m14, .ref m15, .ref m16, .int (nI (zL y)), .int (nI (zH y)), .ref m19])), (m1, .inl (G.2.1 3, 160, .inl (fun j9 => bI ((va_up (zI y) s false) j9)))), (m2, .inl (G.2.1 1, 160, .inl (upd (zN y) s n))), (m3, .inl (G.2.1 1, 160, .inl (fun j9 => nI ((zB y) j9)))), (m4, .inl (G.2.1 1, 160, .inl (fun j9 => nI ((zT y) j9)))), (m5, .inl (G.2.1 1, 160, .inl (fun j9 => nI ((zP y) j9)))), (m6, .inl (G.2.1 1, 160, .inl (fun j9 => nI ((zS y) j9)))), (m8, .inl (G.2.1 1, 8, .inl (fun j9 => nI ((zR y) j9)))), (m9, .inl (G.2.1 1, 4, .inl (fun j9 => nI ((zQ y) j9)))), (m10, .inl (G.2.1 0, 96, .inl (fun j9 => nI ((zA y) j9)))), (m11, .inl (G.2.1 1, 96, .inl (fun j9 => nI ((zO y) j9)))), (m12, .inl (G.2.1 1, 96, .inl (fun j9 => nI ((zF y) j9)))), (m13, .inl (G.2.1 1, 96, .inl (fun j9 => nI ((zM y) j9)))), (m14, .inl (G.2.1 3, 96, .inl (fun j9 => bI ((zE y) j9)))), (m15, .inl (G.2.1 3, 384, .inl (fun j9 => bI ((zV y) j9)))), (m16, .inl (G.2.1 1, 9, .inl (fun j9 => nI ((zK y) j9)))), (m19, .inl (G.2.1 3, 96, .inl (fun j9 => bI ((zG y) j9))))]) 2 dX8_numbers_13 rfl (by omega) (by decide) rfl rfl ?_
  exact v_vret hR dX8_numbers_14 (by exact ⟨rfl, rfl⟩)
theorem dX8_rights_0 : decode cX8_rights 0 = .ok (.aload_n 0, 1) := by decide +kernel
theorem dX8_rights_1 : decode cX8_rights 1 = .ok (.getfield 7, 3) := by decide +kernel
theorem dX8_rights_4 : decode cX8_rights 4 = .ok (.iload_n 1, 1) := by decide +kernel
theorem dX8_rights_5 : decode cX8_rights 5 = .ok (.iconst 1, 1) := by decide +kernel
theorem dX8_rights_6 : decode cX8_rights 6 = .ok (.bastore, 1) := by decide +kernel
theorem dX8_rights_7 : decode cX8_rights 7 = .ok (.aload_n 0, 1) := by decide +kernel
theorem dX8_rights_8 : decode cX8_rights 8 = .ok (.getfield 13, 3) := by decide +kernel
theorem dX8_rights_11 : decode cX8_rights 11 = .ok (.iload_n 1, 1) := by decide +kernel
theorem dX8_rights_12 : decode cX8_rights 12 = .ok (.iload_n 2, 1) := by decide +kernel
theorem dX8_rights_13 : decode cX8_rights 13 = .ok (.iastore, 1) := by decide +kernel
theorem dX8_rights_14 : decode cX8_rights 14 = .ok (.aload_n 0, 1) := by decide +kernel
theorem dX8_rights_15 : decode cX8_rights 15 = .ok (.getfield 17, 3) := by decide +kernel
theorem dX8_rights_18 : decode cX8_rights 18 = .ok (.iload_n 1, 1) := by decide +kernel
theorem dX8_rights_19 : decode cX8_rights 19 = .ok (.iload_n 2, 1) := by decide +kernel
theorem dX8_rights_20 : decode cX8_rights 20 = .ok (.iastore, 1) := by decide +kernel
theorem dX8_rights_21 : decode cX8_rights 21 = .ok (.aload_n 0, 1) := by decide +kernel
theorem dX8_rights_22 : decode cX8_rights 22 = .ok (.getfield 20, 3) := by decide +kernel
theorem dX8_rights_25 : decode cX8_rights 25 = .ok (.iload_n 1, 1) := by decide +kernel
theorem dX8_rights_26 : decode cX8_rights 26 = .ok (.iload_n 3, 1) := by decide +kernel
theorem dX8_rights_27 : decode cX8_rights 27 = .ok (.iastore, 1) := by decide +kernel
theorem dX8_rights_28 : decode cX8_rights 28 = .ok (.aload_n 0, 1) := by decide +kernel
theorem dX8_rights_29 : decode cX8_rights 29 = .ok (.getfield 23, 3) := by decide +kernel
theorem dX8_rights_32 : decode cX8_rights 32 = .ok (.iload_n 1, 1) := by decide +kernel
theorem dX8_rights_33 : decode cX8_rights 33 = .ok (.iload 4, 2) := by decide +kernel
theorem dX8_rights_35 : decode cX8_rights 35 = .ok (.iastore, 1) := by decide +kernel
theorem dX8_rights_36 : decode cX8_rights 36 = .ok (.aload_n 0, 1) := by decide +kernel
theorem dX8_rights_37 : decode cX8_rights 37 = .ok (.getfield 26, 3) := by decide +kernel
theorem dX8_rights_40 : decode cX8_rights 40 = .ok (.iload_n 1, 1) := by decide +kernel
theorem dX8_rights_41 : decode cX8_rights 41 = .ok (.iconst 0, 1) := by decide +kernel
theorem dX8_rights_42 : decode cX8_rights 42 = .ok (.iastore, 1) := by decide +kernel
theorem dX8_rights_43 : decode cX8_rights 43 = .ok (.return_, 1) := by decide +kernel
theorem hd_X8_rights : yX8_rights.cls ≠ "java/lang/invoke/MethodHandle" ∧ yX8_rights.cls ≠ "java/lang/invoke/VarHandle" ∧ (parseMethodDescriptor yX8_rights.desc).map (fun d => d.parameters.length) = some 4 := by decide +kernel
abbrev rm_X8_rights : Room := { frames := 0, cells := 0, slots := 0, locals := 0 }
set_option maxHeartbeats 4000000 in
set_option maxRecDepth 100000 in
theorem c_X8_rights (l : Launch) (G : Gx) (mo : Nat) (m1 : Nat) (m2 : Nat) (m3 : Nat) (m4 : Nat) (m5 : Nat) (m6 : Nat) (m8 : Nat) (m9 : Nat) (m10 : Nat) (m11 : Nat) (m12 : Nat) (m13 : Nat) (m14 : Nat) (m15 : Nat) (m16 : Nat) (m19 : Nat) (y : YS) (s : Nat) (b : Nat) (t : Nat) (p : Nat) (hs : s < 160) : Mt l G yX8_rights cX8_rights 5 none rm_X8_rights [.ref mo, .int (nI s), .int (nI b), .int (nI t), .int (nI p)] [(mo, .inr (6, [.int (nI (zX y)), .ref m1, .ref m2, .ref m3, .ref m4, .ref m5, .ref m6, .int (nI (zD y)), .ref m8, .ref m9, .ref m10, .ref m11, .ref m12, .ref m13, .ref m14, .ref m15, .ref m16, .int (nI (zL y)), .int (nI (zH y)), .ref m19])), (m1, .inl (G.2.1 3, 160, .inl (fun j9 => bI ((zI y) j9)))), (m2, .inl (G.2.1 1, 160, .inl (zN y))), (m3, .inl (G.2.1 1, 160, .inl (fun j9 => nI ((zB y) j9)))), (m4, .inl (G.2.1 1, 160, .inl (fun j9 => nI ((zT y) j9)))), (m5, .inl (G.2.1 1, 160, .inl (fun j9 => nI ((zP y) j9)))), (m6, .inl (G.2.1 1, 160, .inl (fun j9 => nI ((zS y) j9)))), (m8, .inl (G.2.1 1, 8, .inl (fun j9 => nI ((zR y) j9)))), (m9, .inl (G.2.1 1, 4, .inl (fun j9 => nI ((zQ y) j9)))), (m10, .inl (G.2.1 0, 96, .inl (fun j9 => nI ((zA y) j9)))), (m11, .inl (G.2.1 1, 96, .inl (fun j9 => nI ((zO y) j9)))), (m12, .inl (G.2.1 1, 96, .inl (fun j9 => nI ((zF y) j9)))), (m13, .inl (G.2.1 1, 96, .inl (fun j9 => nI ((zM y) j9)))), (m14, .inl (G.2.1 3, 96, .inl (fun j9 => bI ((zE y) j9)))), (m15, .inl (G.2.1 3, 384, .inl (fun j9 => bI ((zV y) j9)))), (m16, .inl (G.2.1 1, 9, .inl (fun j9 => nI ((zK y) j9)))), (m19, .inl (G.2.1 3, 96, .inl (fun j9 => bI ((zG y) j9))))] (D1 none [(mo, .inr (6, [.int (nI (zX (onW (rigW s b t p) y))), .ref m1, .ref m2, .ref m3, .ref m4, .ref m5, .ref m6, .int (nI (zD (onW (rigW s b t p) y))), .ref m8, .ref m9, .ref m10, .ref m11, .ref m12, .ref m13, .ref m14, .ref m15, .ref m16, .int (nI (zL (onW (rigW s b t p) y))), .int (nI (zH (onW (rigW s b t p) y))), .ref m19])), (m1, .inl (G.2.1 3, 160, .inl (fun j9 => bI ((zI (onW (rigW s b t p) y)) j9)))), (m2, .inl (G.2.1 1, 160, .inl (zN (onW (rigW s b t p) y)))), (m3, .inl (G.2.1 1, 160, .inl (fun j9 => nI ((zB (onW (rigW s b t p) y)) j9)))), (m4, .inl (G.2.1 1, 160, .inl (fun j9 => nI ((zT (onW (rigW s b t p) y)) j9)))), (m5, .inl (G.2.1 1, 160, .inl (fun j9 => nI ((zP (onW (rigW s b t p) y)) j9)))), (m6, .inl (G.2.1 1, 160, .inl (fun j9 => nI ((zS (onW (rigW s b t p) y)) j9)))), (m8, .inl (G.2.1 1, 8, .inl (fun j9 => nI ((zR (onW (rigW s b t p) y)) j9)))), (m9, .inl (G.2.1 1, 4, .inl (fun j9 => nI ((zQ (onW (rigW s b t p) y)) j9)))), (m10, .inl (G.2.1 0, 96, .inl (fun j9 => nI ((zA (onW (rigW s b t p) y)) j9)))), (m11, .inl (G.2.1 1, 96, .inl (fun j9 => nI ((zO (onW (rigW s b t p) y)) j9)))), (m12, .inl (G.2.1 1, 96, .inl (fun j9 => nI ((zF (onW (rigW s b t p) y)) j9)))), (m13, .inl (G.2.1 1, 96, .inl (fun j9 => nI ((zM (onW (rigW s b t p) y)) j9)))), (m14, .inl (G.2.1 3, 96, .inl (fun j9 => bI ((zE (onW (rigW s b t p) y)) j9)))), (m15, .inl (G.2.1 3, 384, .inl (fun j9 => bI ((zV (onW (rigW s b t p) y)) j9)))), (m16, .inl (G.2.1 1, 9, .inl (fun j9 => nI ((zK (onW (rigW s b t p) y)) j9)))), (m19, .inl (G.2.1 3, 96, .inl (fun j9 => bI ((zG (onW (rigW s b t p) y)) j9))))]) := by
  refine Mt.of (by decide) (Nat.le_of_ble_eq_true rfl) ?_
  intro K hl9 hn9 hR
  show V K G cX8_rights RX8 5 rm_X8_rights 0 0 0 [(0, .ref mo), (1, .int (nI s)), (2, .int (nI b)), (3, .int (nI t)), (4, .int (nI p))] [] [(mo, .inr (6, [.int (nI (zX y)), .ref m1, .ref m2, .ref m3, .ref m4, .ref m5, .ref m6, .int (nI (zD y)), .ref m8, .ref m9, .ref m10, .ref m11, .ref m12, .ref m13, .ref m14, .ref m15, .ref m16, .int (nI (zL y)), .int (nI (zH y)), .ref m19])), (m1, .inl (G.2.1 3, 160, .inl (fun j9 => bI ((zI y) j9)))), (m2, .inl (G.2.1 1, 160, .inl (zN y))), (m3, .inl (G.2.1 1, 160, .inl (fun j9 => nI ((zB y) j9)))), (m4, .inl (G.2.1 1, 160, .inl (fun j9 => nI ((zT y) j9)))), (m5, .inl (G.2.1 1, 160, .inl (fun j9 => nI ((zP y) j9)))), (m6, .inl (G.2.1 1, 160, .inl (fun j9 => nI ((zS y) j9)))), (m8, .inl (G.2.1 1, 8, .inl (fun j9 => nI ((zR y) j9)))), (m9, .inl (G.2.1 1, 4, .inl (fun j9 => nI ((zQ y) j9)))), (m10, .inl (G.2.1 0, 96, .inl (fun j9 => nI ((zA y) j9)))), (m11, .inl (G.2.1 1, 96, .inl (fun j9 => nI ((zO y) j9)))), (m12, .inl (G.2.1 1, 96, .inl (fun j9 => nI ((zF y) j9)))), (m13, .inl (G.2.1 1, 96, .inl (fun j9 => nI ((zM y) j9)))), (m14, .inl (G.2.1 3, 96, .inl (fun j9 => bI ((zE y) j9)))), (m15, .inl (G.2.1 3, 384, .inl (fun j9 => bI ((zV y) j9)))), (m16, .inl (G.2.1 1, 9, .inl (fun j9 => nI ((zK y) j9)))), (m19, .inl (G.2.1 3, 96, .inl (fun j9 => bI ((zG y) j9))))]
  refine v_aload_n dX8_rights_0 rfl 0 rfl ?_
  refine v_get (ref := "SealhouseModel") (C := RX8) (T := TX8) (N := 20) 0 1 dX8_rights_1 rfl rfl gin_X8 (by decide) kw_1005 rfl rfl ?_
  refine v_iload_n dX8_rights_4 rfl 1 rfl ?_
  refine v_iconst (v := nI 1) dX8_rights_5 (by decide) ?_
  refine v_eqi (y := bI true) (by decide) ?_
  refine n_zast (i := s) (g := (fun j9 => bI ((va_up (zI y) s true) j9))) (ws' := [(mo, .inr (6, [.int (nI (zX y)), .ref m1, .ref m2, .ref m3, .ref m4, .ref m5, .ref m6, .int (nI (zD y)), .ref m8, .ref m9, .ref m10, .ref m11, .ref m12, .ref m13, .ref m14, .ref m15, .ref m16, .int (nI (zL y)), .int (nI (zH y)), .ref m19])), (m1, .inl (G.2.1 3, 160, .inl (fun j9 => bI ((va_up (zI y) s true) j9)))), (m2, .inl (G.2.1 1, 160, .inl (zN y))), (m3, .inl (G.2.1 1, 160, .inl (fun j9 => nI ((zB y) j9)))), (m4, .inl (G.2.1 1, 160, .inl (fun j9 => nI ((zT y) j9)))), (m5, .inl (G.2.1 1, 160, .inl (fun j9 => nI ((zP y) j9)))), (m6, .inl (G.2.1 1, 160, .inl (fun j9 => nI ((zS y) j9)))), (m8, .inl (G.2.1 1, 8, .inl (fun j9 => nI ((zR y) j9)))), (m9, .inl (G.2.1 1, 4, .inl (fun j9 => nI ((zQ y) j9)))), (m10, .inl (G.2.1 0, 96, .inl (fun j9 => nI ((zA y) j9)))), (m11, .inl (G.2.1 1, 96, .inl (fun j9 => nI ((zO y) j9)))), (m12, .inl (G.2.1 1, 96, .inl (fun j9 => nI ((zF y) j9)))), (m13, .inl (G.2.1 1, 96, .inl (fun j9 => nI ((zM y) j9)))), (m14, .inl (G.2.1 3, 96, .inl (fun j9 => bI ((zE y) j9)))), (m15, .inl (G.2.1 3, 384, .inl (fun j9 => bI ((zV y) j9)))), (m16, .inl (G.2.1 1, 9, .inl (fun j9 => nI ((zK y) j9)))), (m19, .inl (G.2.1 3, 96, .inl (fun j9 => bI ((zG y) j9))))]) 1 dX8_rights_6 rfl (by omega) (by decide) (upd_b _ _ _) rfl ?_
  refine v_aload_n dX8_rights_7 rfl 0 rfl ?_
  refine v_get (ref := "SealhouseModel") (C := RX8) (T := TX8) (N := 20) 0 2 dX8_rights_8 rfl rfl gin_X8 (by decide) kw_1006 rfl rfl ?_
  refine v_iload_n dX8_rights_11 rfl 1 rfl ?_
  refine v_iload_n dX8_rights_12 rfl 2 rfl ?_
  refine n_iast (i := s) (g := upd (zN y) s (nI b)) (ws' := [(mo, .inr (6, [.int (nI (zX y)), .ref m1, .ref m2, .ref m3, .ref m4, .ref m5, .ref m6, .int (nI (zD y)), .ref m8, .ref m9, .ref m10, .ref m11, .ref m12, .ref m13, .ref m14, .ref m15, .ref m16, .int (nI (zL y)), .int (nI (zH y)), .ref m19])), (m1, .inl (G.2.1 3, 160, .inl (fun j9 => bI ((va_up (zI y) s true) j9)))), (m2, .inl (G.2.1 1, 160, .inl (upd (zN y) s (nI b)))), (m3, .inl (G.2.1 1, 160, .inl (fun j9 => nI ((zB y) j9)))), (m4, .inl (G.2.1 1, 160, .inl (fun j9 => nI ((zT y) j9)))), (m5, .inl (G.2.1 1, 160, .inl (fun j9 => nI ((zP y) j9)))), (m6, .inl (G.2.1 1, 160, .inl (fun j9 => nI ((zS y) j9)))), (m8, .inl (G.2.1 1, 8, .inl (fun j9 => nI ((zR y) j9)))), (m9, .inl (G.2.1 1, 4, .inl (fun j9 => nI ((zQ y) j9)))), (m10, .inl (G.2.1 0, 96, .inl (fun j9 => nI ((zA y) j9)))), (m11, .inl (G.2.1 1, 96, .inl (fun j9 => nI ((zO y) j9)))), (m12, .inl (G.2.1 1, 96, .inl (fun j9 => nI ((zF y) j9)))), (m13, .inl (G.2.1 1, 96, .inl (fun j9 => nI ((zM y) j9)))), (m14, .inl (G.2.1 3, 96, .inl (fun j9 => bI ((zE y) j9)))), (m15, .inl (G.2.1 3, 384, .inl (fun j9 => bI ((zV y) j9)))), (m16, .inl (G.2.1 1, 9, .inl (fun j9 => nI ((zK y) j9)))), (m19, .inl (G.2.1 3, 96, .inl (fun j9 => bI ((zG y) j9))))]) 2 dX8_rights_13 rfl (by omega) (by decide) rfl rfl ?_
  refine v_aload_n dX8_rights_14 rfl 0 rfl ?_
  refine v_get (ref := "SealhouseModel") (C := RX8) (T := TX8) (N := 20) 0 3 dX8_rights_15 rfl rfl gin_X8 (by decide) kw_1007 rfl rfl ?_
  refine v_iload_n dX8_rights_18 rfl 1 rfl ?_
  refine v_iload_n dX8_rights_19 rfl 2 rfl ?_
  refine n_iast (i := s) (g := (fun j9 => nI ((va_up (zB y) s b) j9))) (ws' := [(mo, .inr (6, [.int (nI (zX y)), .ref m1, .ref m2, .ref m3, .ref m4, .ref m5, .ref m6, .int (nI (zD y)), .ref m8, .ref m9, .ref m10, .ref m11, .ref m12, .ref m13, .ref m14, .ref m15, .ref m16, .int (nI (zL y)), .int (nI (zH y)), .ref m19])), (m1, .inl (G.2.1 3, 160, .inl (fun j9 => bI ((va_up (zI y) s true) j9)))), (m2, .inl (G.2.1 1, 160, .inl (upd (zN y) s (nI b)))), (m3, .inl (G.2.1 1, 160, .inl (fun j9 => nI ((va_up (zB y) s b) j9)))), (m4, .inl (G.2.1 1, 160, .inl (fun j9 => nI ((zT y) j9)))), (m5, .inl (G.2.1 1, 160, .inl (fun j9 => nI ((zP y) j9)))), (m6, .inl (G.2.1 1, 160, .inl (fun j9 => nI ((zS y) j9)))), (m8, .inl (G.2.1 1, 8, .inl (fun j9 => nI ((zR y) j9)))), (m9, .inl (G.2.1 1, 4, .inl (fun j9 => nI ((zQ y) j9)))), (m10, .inl (G.2.1 0, 96, .inl (fun j9 => nI ((zA y) j9)))), (m11, .inl (G.2.1 1, 96, .inl (fun j9 => nI ((zO y) j9)))), (m12, .inl (G.2.1 1, 96, .inl (fun j9 => nI ((zF y) j9)))), (m13, .inl (G.2.1 1, 96, .inl (fun j9 => nI ((zM y) j9)))), (m14, .inl (G.2.1 3, 96, .inl (fun j9 => bI ((zE y) j9)))), (m15, .inl (G.2.1 3, 384, .inl (fun j9 => bI ((zV y) j9)))), (m16, .inl (G.2.1 1, 9, .inl (fun j9 => nI ((zK y) j9)))), (m19, .inl (G.2.1 3, 96, .inl (fun j9 => bI ((zG y) j9))))]) 3 dX8_rights_20 rfl (by omega) (by decide) (upd_n _ _ _) rfl ?_
  refine v_aload_n dX8_rights_21 rfl 0 rfl ?_
  refine v_get (ref := "SealhouseModel") (C := RX8) (T := TX8) (N := 20) 0 4 dX8_rights_22 rfl rfl gin_X8 (by decide) kw_1008 rfl rfl ?_
  refine v_iload_n dX8_rights_25 rfl 1 rfl ?_
  refine v_iload_n dX8_rights_26 rfl 3 rfl ?_
  refine n_iast (i := s) (g := (fun j9 => nI ((va_up (zT y) s t) j9))) (ws' := [(mo, .inr (6, [.int (nI (zX y)), .ref m1, .ref m2, .ref m3, .ref m4, .ref m5, .ref m6, .int (nI (zD y)), .ref m8, .ref m9, .ref m10, .ref m11, .ref m12, .ref m13, .ref m14, .ref m15, .ref m16, .int (nI (zL y)), .int (nI (zH y)), .ref m19])), (m1, .inl (G.2.1 3, 160, .inl (fun j9 => bI ((va_up (zI y) s true) j9)))), (m2, .inl (G.2.1 1, 160, .inl (upd (zN y) s (nI b)))), (m3, .inl (G.2.1 1, 160, .inl (fun j9 => nI ((va_up (zB y) s b) j9)))), (m4, .inl (G.2.1 1, 160, .inl (fun j9 => nI ((va_up (zT y) s t) j9)))), (m5, .inl (G.2.1 1, 160, .inl (fun j9 => nI ((zP y) j9)))), (m6, .inl (G.2.1 1, 160, .inl (fun j9 => nI ((zS y) j9)))), (m8, .inl (G.2.1 1, 8, .inl (fun j9 => nI ((zR y) j9)))), (m9, .inl (G.2.1 1, 4, .inl (fun j9 => nI ((zQ y) j9)))), (m10, .inl (G.2.1 0, 96, .inl (fun j9 => nI ((zA y) j9)))), (m11, .inl (G.2.1 1, 96, .inl (fun j9 => nI ((zO y) j9)))), (m12, .inl (G.2.1 1, 96, .inl (fun j9 => nI ((zF y) j9)))), (m13, .inl (G.2.1 1, 96, .inl (fun j9 => nI ((zM y) j9)))), (m14, .inl (G.2.1 3, 96, .inl (fun j9 => bI ((zE y) j9)))), (m15, .inl (G.2.1 3, 384, .inl (fun j9 => bI ((zV y) j9)))), (m16, .inl (G.2.1 1, 9, .inl (fun j9 => nI ((zK y) j9)))), (m19, .inl (G.2.1 3, 96, .inl (fun j9 => bI ((zG y) j9))))]) 4 dX8_rights_27 rfl (by omega) (by decide) (upd_n _ _ _) rfl ?_
  refine v_aload_n dX8_rights_28 rfl 0 rfl ?_
  refine v_get (ref := "SealhouseModel") (C := RX8) (T := TX8) (N := 20) 0 5 dX8_rights_29 rfl rfl gin_X8 (by decide) kw_1009 rfl rfl ?_
  refine v_iload_n dX8_rights_32 rfl 1 rfl ?_
  refine v_iload dX8_rights_33 4 rfl ?_
  refine n_iast (i := s) (g := (fun j9 => nI ((va_up (zP y) s p) j9))) (ws' := [(mo, .inr (6, [.int (nI (zX y)), .ref m1, .ref m2, .ref m3, .ref m4, .ref m5, .ref m6, .int (nI (zD y)), .ref m8, .ref m9, .ref m10, .ref m11, .ref m12, .ref m13, .ref m14, .ref m15, .ref m16, .int (nI (zL y)), .int (nI (zH y)), .ref m19])), (m1, .inl (G.2.1 3, 160, .inl (fun j9 => bI ((va_up (zI y) s true) j9)))), (m2, .inl (G.2.1 1, 160, .inl (upd (zN y) s (nI b)))), (m3, .inl (G.2.1 1, 160, .inl (fun j9 => nI ((va_up (zB y) s b) j9)))), (m4, .inl (G.2.1 1, 160, .inl (fun j9 => nI ((va_up (zT y) s t) j9)))), (m5, .inl (G.2.1 1, 160, .inl (fun j9 => nI ((va_up (zP y) s p) j9)))), (m6, .inl (G.2.1 1, 160, .inl (fun j9 => nI ((zS y) j9)))), (m8, .inl (G.2.1 1, 8, .inl (fun j9 => nI ((zR y) j9)))), (m9, .inl (G.2.1 1, 4, .inl (fun j9 => nI ((zQ y) j9)))), (m10, .inl (G.2.1 0, 96, .inl (fun j9 => nI ((zA y) j9)))), (m11, .inl (G.2.1 1, 96, .inl (fun j9 => nI ((zO y) j9)))), (m12, .inl (G.2.1 1, 96, .inl (fun j9 => nI ((zF y) j9)))), (m13, .inl (G.2.1 1, 96, .inl (fun j9 => nI ((zM y) j9)))), (m14, .inl (G.2.1 3, 96, .inl (fun j9 => bI ((zE y) j9)))), (m15, .inl (G.2.1 3, 384, .inl (fun j9 => bI ((zV y) j9)))), (m16, .inl (G.2.1 1, 9, .inl (fun j9 => nI ((zK y) j9)))), (m19, .inl (G.2.1 3, 96, .inl (fun j9 => bI ((zG y) j9))))]) 5 dX8_rights_35 rfl (by omega) (by decide) (upd_n _ _ _) rfl ?_
  refine v_aload_n dX8_rights_36 rfl 0 rfl ?_
  refine v_get (ref := "SealhouseModel") (C := RX8) (T := TX8) (N := 20) 0 6 dX8_rights_37 rfl rfl gin_X8 (by decide) kw_1010 rfl rfl ?_
  refine v_iload_n dX8_rights_40 rfl 1 rfl ?_
  refine v_iconst (v := nI 0) dX8_rights_41 (by decide) ?_
  refine n_iast (i := s) (g := (fun j9 => nI ((va_up (zS y) s 0) j9))) (ws' := [(mo, .inr (6, [.int (nI (zX y)), .ref m1, .ref m2, .ref m3, .ref m4, .ref m5, .ref m6, .int (nI (zD y)), .ref m8, .ref m9, .ref m10, .ref m11, .ref m12, .ref m13, .ref m14, .ref m15, .ref m16, .int (nI (zL y)), .int (nI (zH y)), .ref m19])), (m1, .inl (G.2.1 3, 160, .inl (fun j9 => bI ((va_up (zI y) s true) j9)))), (m2, .inl (G.2.1 1, 160, .inl (upd (zN y) s (nI b)))), (m3, .inl (G.2.1 1, 160, .inl (fun j9 => nI ((va_up (zB y) s b) j9)))), (m4, .inl (G.2.1 1, 160, .inl (fun j9 => nI ((va_up (zT y) s t) j9)))), (m5, .inl (G.2.1 1, 160, .inl (fun j9 => nI ((va_up (zP y) s p) j9)))), (m6, .inl (G.2.1 1, 160, .inl (fun j9 => nI ((va_up (zS y) s 0) j9)))), (m8, .inl (G.2.1 1, 8, .inl (fun j9 => nI ((zR y) j9)))), (m9, .inl (G.2.1 1, 4, .inl (fun j9 => nI ((zQ y) j9)))), (m10, .inl (G.2.1 0, 96, .inl (fun j9 => nI ((zA y) j9)))), (m11, .inl (G.2.1 1, 96, .inl (fun j9 => nI ((zO y) j9)))), (m12, .inl (G.2.1 1, 96, .inl (fun j9 => nI ((zF y) j9)))), (m13, .inl (G.2.1 1, 96, .inl (fun j9 => nI ((zM y) j9)))), (m14, .inl (G.2.1 3, 96, .inl (fun j9 => bI ((zE y) j9)))), (m15, .inl (G.2.1 3, 384, .inl (fun j9 => bI ((zV y) j9)))), (m16, .inl (G.2.1 1, 9, .inl (fun j9 => nI ((zK y) j9)))), (m19, .inl (G.2.1 3, 96, .inl (fun j9 => bI ((zG y) j9))))]) 6 dX8_rights_42 rfl (by omega) (by decide) (upd_n _ _ _) rfl ?_
  exact v_vret hR dX8_rights_43 (by exact ⟨rfl, rfl⟩)
theorem dX8_copies_0 : decode cX8_copies 0 = .ok (.aload_n 0, 1) := by decide +kernel
theorem dX8_copies_1 : decode cX8_copies 1 = .ok (.getfield 7, 3) := by decide +kernel
theorem dX8_copies_4 : decode cX8_copies 4 = .ok (.iload_n 2, 1) := by decide +kernel
theorem dX8_copies_5 : decode cX8_copies 5 = .ok (.aload_n 0, 1) := by decide +kernel
theorem dX8_copies_6 : decode cX8_copies 6 = .ok (.getfield 7, 3) := by decide +kernel
theorem dX8_copies_9 : decode cX8_copies 9 = .ok (.iload_n 1, 1) := by decide +kernel
theorem dX8_copies_10 : decode cX8_copies 10 = .ok (.baload, 1) := by decide +kernel
theorem dX8_copies_11 : decode cX8_copies 11 = .ok (.bastore, 1) := by decide +kernel
theorem dX8_copies_12 : decode cX8_copies 12 = .ok (.aload_n 0, 1) := by decide +kernel
theorem dX8_copies_13 : decode cX8_copies 13 = .ok (.getfield 13, 3) := by decide +kernel
theorem dX8_copies_16 : decode cX8_copies 16 = .ok (.iload_n 2, 1) := by decide +kernel
theorem dX8_copies_17 : decode cX8_copies 17 = .ok (.aload_n 0, 1) := by decide +kernel
theorem dX8_copies_18 : decode cX8_copies 18 = .ok (.getfield 13, 3) := by decide +kernel
theorem dX8_copies_21 : decode cX8_copies 21 = .ok (.iload_n 1, 1) := by decide +kernel
theorem dX8_copies_22 : decode cX8_copies 22 = .ok (.iaload, 1) := by decide +kernel
theorem dX8_copies_23 : decode cX8_copies 23 = .ok (.iastore, 1) := by decide +kernel
theorem dX8_copies_24 : decode cX8_copies 24 = .ok (.aload_n 0, 1) := by decide +kernel
theorem dX8_copies_25 : decode cX8_copies 25 = .ok (.getfield 17, 3) := by decide +kernel
theorem dX8_copies_28 : decode cX8_copies 28 = .ok (.iload_n 2, 1) := by decide +kernel
theorem dX8_copies_29 : decode cX8_copies 29 = .ok (.aload_n 0, 1) := by decide +kernel
theorem dX8_copies_30 : decode cX8_copies 30 = .ok (.getfield 17, 3) := by decide +kernel
theorem dX8_copies_33 : decode cX8_copies 33 = .ok (.iload_n 1, 1) := by decide +kernel
theorem dX8_copies_34 : decode cX8_copies 34 = .ok (.iaload, 1) := by decide +kernel
theorem dX8_copies_35 : decode cX8_copies 35 = .ok (.iastore, 1) := by decide +kernel
theorem dX8_copies_36 : decode cX8_copies 36 = .ok (.aload_n 0, 1) := by decide +kernel
theorem dX8_copies_37 : decode cX8_copies 37 = .ok (.getfield 20, 3) := by decide +kernel
theorem dX8_copies_40 : decode cX8_copies 40 = .ok (.iload_n 2, 1) := by decide +kernel
theorem dX8_copies_41 : decode cX8_copies 41 = .ok (.aload_n 0, 1) := by decide +kernel
theorem dX8_copies_42 : decode cX8_copies 42 = .ok (.getfield 20, 3) := by decide +kernel
theorem dX8_copies_45 : decode cX8_copies 45 = .ok (.iload_n 1, 1) := by decide +kernel
theorem dX8_copies_46 : decode cX8_copies 46 = .ok (.iaload, 1) := by decide +kernel
theorem dX8_copies_47 : decode cX8_copies 47 = .ok (.iastore, 1) := by decide +kernel
theorem dX8_copies_48 : decode cX8_copies 48 = .ok (.aload_n 0, 1) := by decide +kernel
theorem dX8_copies_49 : decode cX8_copies 49 = .ok (.getfield 23, 3) := by decide +kernel
theorem dX8_copies_52 : decode cX8_copies 52 = .ok (.iload_n 2, 1) := by decide +kernel
theorem dX8_copies_53 : decode cX8_copies 53 = .ok (.aload_n 0, 1) := by decide +kernel
theorem dX8_copies_54 : decode cX8_copies 54 = .ok (.getfield 23, 3) := by decide +kernel
theorem dX8_copies_57 : decode cX8_copies 57 = .ok (.iload_n 1, 1) := by decide +kernel
theorem dX8_copies_58 : decode cX8_copies 58 = .ok (.iaload, 1) := by decide +kernel
theorem dX8_copies_59 : decode cX8_copies 59 = .ok (.iastore, 1) := by decide +kernel
theorem dX8_copies_60 : decode cX8_copies 60 = .ok (.aload_n 0, 1) := by decide +kernel
theorem dX8_copies_61 : decode cX8_copies 61 = .ok (.getfield 26, 3) := by decide +kernel
theorem dX8_copies_64 : decode cX8_copies 64 = .ok (.iload_n 2, 1) := by decide +kernel
theorem dX8_copies_65 : decode cX8_copies 65 = .ok (.aload_n 0, 1) := by decide +kernel
theorem dX8_copies_66 : decode cX8_copies 66 = .ok (.getfield 26, 3) := by decide +kernel
theorem dX8_copies_69 : decode cX8_copies 69 = .ok (.iload_n 1, 1) := by decide +kernel
theorem dX8_copies_70 : decode cX8_copies 70 = .ok (.iaload, 1) := by decide +kernel
theorem dX8_copies_71 : decode cX8_copies 71 = .ok (.iastore, 1) := by decide +kernel
theorem dX8_copies_72 : decode cX8_copies 72 = .ok (.return_, 1) := by decide +kernel
theorem hd_X8_copies : yX8_copies.cls ≠ "java/lang/invoke/MethodHandle" ∧ yX8_copies.cls ≠ "java/lang/invoke/VarHandle" ∧ (parseMethodDescriptor yX8_copies.desc).map (fun d => d.parameters.length) = some 2 := by decide +kernel
abbrev rm_X8_copies : Room := { frames := 0, cells := 0, slots := 0, locals := 0 }
set_option maxHeartbeats 4000000 in
set_option maxRecDepth 100000 in
theorem c_X8_copies (l : Launch) (G : Gx) (mo : Nat) (m1 : Nat) (m2 : Nat) (m3 : Nat) (m4 : Nat) (m5 : Nat) (m6 : Nat) (m8 : Nat) (m9 : Nat) (m10 : Nat) (m11 : Nat) (m12 : Nat) (m13 : Nat) (m14 : Nat) (m15 : Nat) (m16 : Nat) (m19 : Nat) (y : YS) (a : Nat) (b : Nat) (ha1 : a < 160) (hb1 : b < 160) : Mt l G yX8_copies cX8_copies 3 none rm_X8_copies [.ref mo, .int (nI a), .int (nI b)] [(mo, .inr (6, [.int (nI (zX y)), .ref m1, .ref m2, .ref m3, .ref m4, .ref m5, .ref m6, .int (nI (zD y)), .ref m8, .ref m9, .ref m10, .ref m11, .ref m12, .ref m13, .ref m14, .ref m15, .ref m16, .int (nI (zL y)), .int (nI (zH y)), .ref m19])), (m1, .inl (G.2.1 3, 160, .inl (fun j9 => bI ((zI y) j9)))), (m2, .inl (G.2.1 1, 160, .inl (zN y))), (m3, .inl (G.2.1 1, 160, .inl (fun j9 => nI ((zB y) j9)))), (m4, .inl (G.2.1 1, 160, .inl (fun j9 => nI ((zT y) j9)))), (m5, .inl (G.2.1 1, 160, .inl (fun j9 => nI ((zP y) j9)))), (m6, .inl (G.2.1 1, 160, .inl (fun j9 => nI ((zS y) j9)))), (m8, .inl (G.2.1 1, 8, .inl (fun j9 => nI ((zR y) j9)))), (m9, .inl (G.2.1 1, 4, .inl (fun j9 => nI ((zQ y) j9)))), (m10, .inl (G.2.1 0, 96, .inl (fun j9 => nI ((zA y) j9)))), (m11, .inl (G.2.1 1, 96, .inl (fun j9 => nI ((zO y) j9)))), (m12, .inl (G.2.1 1, 96, .inl (fun j9 => nI ((zF y) j9)))), (m13, .inl (G.2.1 1, 96, .inl (fun j9 => nI ((zM y) j9)))), (m14, .inl (G.2.1 3, 96, .inl (fun j9 => bI ((zE y) j9)))), (m15, .inl (G.2.1 3, 384, .inl (fun j9 => bI ((zV y) j9)))), (m16, .inl (G.2.1 1, 9, .inl (fun j9 => nI ((zK y) j9)))), (m19, .inl (G.2.1 3, 96, .inl (fun j9 => bI ((zG y) j9))))] (D1 none [(mo, .inr (6, [.int (nI (zX (onW (copW a b) y))), .ref m1, .ref m2, .ref m3, .ref m4, .ref m5, .ref m6, .int (nI (zD (onW (copW a b) y))), .ref m8, .ref m9, .ref m10, .ref m11, .ref m12, .ref m13, .ref m14, .ref m15, .ref m16, .int (nI (zL (onW (copW a b) y))), .int (nI (zH (onW (copW a b) y))), .ref m19])), (m1, .inl (G.2.1 3, 160, .inl (fun j9 => bI ((zI (onW (copW a b) y)) j9)))), (m2, .inl (G.2.1 1, 160, .inl (zN (onW (copW a b) y)))), (m3, .inl (G.2.1 1, 160, .inl (fun j9 => nI ((zB (onW (copW a b) y)) j9)))), (m4, .inl (G.2.1 1, 160, .inl (fun j9 => nI ((zT (onW (copW a b) y)) j9)))), (m5, .inl (G.2.1 1, 160, .inl (fun j9 => nI ((zP (onW (copW a b) y)) j9)))), (m6, .inl (G.2.1 1, 160, .inl (fun j9 => nI ((zS (onW (copW a b) y)) j9)))), (m8, .inl (G.2.1 1, 8, .inl (fun j9 => nI ((zR (onW (copW a b) y)) j9)))), (m9, .inl (G.2.1 1, 4, .inl (fun j9 => nI ((zQ (onW (copW a b) y)) j9)))), (m10, .inl (G.2.1 0, 96, .inl (fun j9 => nI ((zA (onW (copW a b) y)) j9)))), (m11, .inl (G.2.1 1, 96, .inl (fun j9 => nI ((zO (onW (copW a b) y)) j9)))), (m12, .inl (G.2.1 1, 96, .inl (fun j9 => nI ((zF (onW (copW a b) y)) j9)))), (m13, .inl (G.2.1 1, 96, .inl (fun j9 => nI ((zM (onW (copW a b) y)) j9)))), (m14, .inl (G.2.1 3, 96, .inl (fun j9 => bI ((zE (onW (copW a b) y)) j9)))), (m15, .inl (G.2.1 3, 384, .inl (fun j9 => bI ((zV (onW (copW a b) y)) j9)))), (m16, .inl (G.2.1 1, 9, .inl (fun j9 => nI ((zK (onW (copW a b) y)) j9)))), (m19, .inl (G.2.1 3, 96, .inl (fun j9 => bI ((zG (onW (copW a b) y)) j9))))]) := by
  refine Mt.of (by decide) (Nat.le_of_ble_eq_true rfl) ?_
  intro K hl9 hn9 hR
  show V K G cX8_copies RX8 3 rm_X8_copies 0 0 0 [(0, .ref mo), (1, .int (nI a)), (2, .int (nI b))] [] [(mo, .inr (6, [.int (nI (zX y)), .ref m1, .ref m2, .ref m3, .ref m4, .ref m5, .ref m6, .int (nI (zD y)), .ref m8, .ref m9, .ref m10, .ref m11, .ref m12, .ref m13, .ref m14, .ref m15, .ref m16, .int (nI (zL y)), .int (nI (zH y)), .ref m19])), (m1, .inl (G.2.1 3, 160, .inl (fun j9 => bI ((zI y) j9)))), (m2, .inl (G.2.1 1, 160, .inl (zN y))), (m3, .inl (G.2.1 1, 160, .inl (fun j9 => nI ((zB y) j9)))), (m4, .inl (G.2.1 1, 160, .inl (fun j9 => nI ((zT y) j9)))), (m5, .inl (G.2.1 1, 160, .inl (fun j9 => nI ((zP y) j9)))), (m6, .inl (G.2.1 1, 160, .inl (fun j9 => nI ((zS y) j9)))), (m8, .inl (G.2.1 1, 8, .inl (fun j9 => nI ((zR y) j9)))), (m9, .inl (G.2.1 1, 4, .inl (fun j9 => nI ((zQ y) j9)))), (m10, .inl (G.2.1 0, 96, .inl (fun j9 => nI ((zA y) j9)))), (m11, .inl (G.2.1 1, 96, .inl (fun j9 => nI ((zO y) j9)))), (m12, .inl (G.2.1 1, 96, .inl (fun j9 => nI ((zF y) j9)))), (m13, .inl (G.2.1 1, 96, .inl (fun j9 => nI ((zM y) j9)))), (m14, .inl (G.2.1 3, 96, .inl (fun j9 => bI ((zE y) j9)))), (m15, .inl (G.2.1 3, 384, .inl (fun j9 => bI ((zV y) j9)))), (m16, .inl (G.2.1 1, 9, .inl (fun j9 => nI ((zK y) j9)))), (m19, .inl (G.2.1 3, 96, .inl (fun j9 => bI ((zG y) j9))))]
  refine v_aload_n dX8_copies_0 rfl 0 rfl ?_
  refine v_get (ref := "SealhouseModel") (C := RX8) (T := TX8) (N := 20) 0 1 dX8_copies_1 rfl rfl gin_X8 (by decide) kw_1005 rfl rfl ?_
  refine v_iload_n dX8_copies_4 rfl 2 rfl ?_
  refine v_aload_n dX8_copies_5 rfl 0 rfl ?_
  refine v_get (ref := "SealhouseModel") (C := RX8) (T := TX8) (N := 20) 0 1 dX8_copies_6 rfl rfl gin_X8 (by decide) kw_1005 rfl rfl ?_
  refine v_iload_n dX8_copies_9 rfl 1 rfl ?_
  refine n_zald (i := a) (x := bI ((zI y) a)) 1 dX8_copies_10 rfl (by omega) (by decide) rfl ?_
  refine n_zast (i := b) (g := (fun j9 => bI ((va_up (zI y) b ((zI y) a)) j9))) (ws' := [(mo, .inr (6, [.int (nI (zX y)), .ref m1, .ref m2, .ref m3, .ref m4, .ref m5, .ref m6, .int (nI (zD y)), .ref m8, .ref m9, .ref m10, .ref m11, .ref m12, .ref m13, .ref m14, .ref m15, .ref m16, .int (nI (zL y)), .int (nI (zH y)), .ref m19])), (m1, .inl (G.2.1 3, 160, .inl (fun j9 => bI ((va_up (zI y) b ((zI y) a)) j9)))), (m2, .inl (G.2.1 1, 160, .inl (zN y))), (m3, .inl (G.2.1 1, 160, .inl (fun j9 => nI ((zB y) j9)))), (m4, .inl (G.2.1 1, 160, .inl (fun j9 => nI ((zT y) j9)))), (m5, .inl (G.2.1 1, 160, .inl (fun j9 => nI ((zP y) j9)))), (m6, .inl (G.2.1 1, 160, .inl (fun j9 => nI ((zS y) j9)))), (m8, .inl (G.2.1 1, 8, .inl (fun j9 => nI ((zR y) j9)))), (m9, .inl (G.2.1 1, 4, .inl (fun j9 => nI ((zQ y) j9)))), (m10, .inl (G.2.1 0, 96, .inl (fun j9 => nI ((zA y) j9)))), (m11, .inl (G.2.1 1, 96, .inl (fun j9 => nI ((zO y) j9)))), (m12, .inl (G.2.1 1, 96, .inl (fun j9 => nI ((zF y) j9)))), (m13, .inl (G.2.1 1, 96, .inl (fun j9 => nI ((zM y) j9)))), (m14, .inl (G.2.1 3, 96, .inl (fun j9 => bI ((zE y) j9)))), (m15, .inl (G.2.1 3, 384, .inl (fun j9 => bI ((zV y) j9)))), (m16, .inl (G.2.1 1, 9, .inl (fun j9 => nI ((zK y) j9)))), (m19, .inl (G.2.1 3, 96, .inl (fun j9 => bI ((zG y) j9))))]) 1 dX8_copies_11 rfl (by omega) (by decide) (upd_b _ _ _) rfl ?_
  refine v_aload_n dX8_copies_12 rfl 0 rfl ?_
  refine v_get (ref := "SealhouseModel") (C := RX8) (T := TX8) (N := 20) 0 2 dX8_copies_13 rfl rfl gin_X8 (by decide) kw_1006 rfl rfl ?_
  refine v_iload_n dX8_copies_16 rfl 2 rfl ?_
  refine v_aload_n dX8_copies_17 rfl 0 rfl ?_
  refine v_get (ref := "SealhouseModel") (C := RX8) (T := TX8) (N := 20) 0 2 dX8_copies_18 rfl rfl gin_X8 (by decide) kw_1006 rfl rfl ?_
  refine v_iload_n dX8_copies_21 rfl 1 rfl ?_
  refine n_iald (i := a) (x := (zN y) a) 2 dX8_copies_22 rfl (by omega) (by decide) rfl ?_
  refine n_iast (i := b) (g := upd (zN y) b ((zN y) a)) (ws' := [(mo, .inr (6, [.int (nI (zX y)), .ref m1, .ref m2, .ref m3, .ref m4, .ref m5, .ref m6, .int (nI (zD y)), .ref m8, .ref m9, .ref m10, .ref m11, .ref m12, .ref m13, .ref m14, .ref m15, .ref m16, .int (nI (zL y)), .int (nI (zH y)), .ref m19])), (m1, .inl (G.2.1 3, 160, .inl (fun j9 => bI ((va_up (zI y) b ((zI y) a)) j9)))), (m2, .inl (G.2.1 1, 160, .inl (upd (zN y) b ((zN y) a)))), (m3, .inl (G.2.1 1, 160, .inl (fun j9 => nI ((zB y) j9)))), (m4, .inl (G.2.1 1, 160, .inl (fun j9 => nI ((zT y) j9)))), (m5, .inl (G.2.1 1, 160, .inl (fun j9 => nI ((zP y) j9)))), (m6, .inl (G.2.1 1, 160, .inl (fun j9 => nI ((zS y) j9)))), (m8, .inl (G.2.1 1, 8, .inl (fun j9 => nI ((zR y) j9)))), (m9, .inl (G.2.1 1, 4, .inl (fun j9 => nI ((zQ y) j9)))), (m10, .inl (G.2.1 0, 96, .inl (fun j9 => nI ((zA y) j9)))), (m11, .inl (G.2.1 1, 96, .inl (fun j9 => nI ((zO y) j9)))), (m12, .inl (G.2.1 1, 96, .inl (fun j9 => nI ((zF y) j9)))), (m13, .inl (G.2.1 1, 96, .inl (fun j9 => nI ((zM y) j9)))), (m14, .inl (G.2.1 3, 96, .inl (fun j9 => bI ((zE y) j9)))), (m15, .inl (G.2.1 3, 384, .inl (fun j9 => bI ((zV y) j9)))), (m16, .inl (G.2.1 1, 9, .inl (fun j9 => nI ((zK y) j9)))), (m19, .inl (G.2.1 3, 96, .inl (fun j9 => bI ((zG y) j9))))]) 2 dX8_copies_23 rfl (by omega) (by decide) rfl rfl ?_
  refine v_aload_n dX8_copies_24 rfl 0 rfl ?_
  refine v_get (ref := "SealhouseModel") (C := RX8) (T := TX8) (N := 20) 0 3 dX8_copies_25 rfl rfl gin_X8 (by decide) kw_1007 rfl rfl ?_
  refine v_iload_n dX8_copies_28 rfl 2 rfl ?_
  refine v_aload_n dX8_copies_29 rfl 0 rfl ?_
  refine v_get (ref := "SealhouseModel") (C := RX8) (T := TX8) (N := 20) 0 3 dX8_copies_30 rfl rfl gin_X8 (by decide) kw_1007 rfl rfl ?_
  refine v_iload_n dX8_copies_33 rfl 1 rfl ?_
  refine n_iald (i := a) (x := nI ((zB y) a)) 3 dX8_copies_34 rfl (by omega) (by decide) rfl ?_
  refine n_iast (i := b) (g := (fun j9 => nI ((va_up (zB y) b ((zB y) a)) j9))) (ws' := [(mo, .inr (6, [.int (nI (zX y)), .ref m1, .ref m2, .ref m3, .ref m4, .ref m5, .ref m6, .int (nI (zD y)), .ref m8, .ref m9, .ref m10, .ref m11, .ref m12, .ref m13, .ref m14, .ref m15, .ref m16, .int (nI (zL y)), .int (nI (zH y)), .ref m19])), (m1, .inl (G.2.1 3, 160, .inl (fun j9 => bI ((va_up (zI y) b ((zI y) a)) j9)))), (m2, .inl (G.2.1 1, 160, .inl (upd (zN y) b ((zN y) a)))), (m3, .inl (G.2.1 1, 160, .inl (fun j9 => nI ((va_up (zB y) b ((zB y) a)) j9)))), (m4, .inl (G.2.1 1, 160, .inl (fun j9 => nI ((zT y) j9)))), (m5, .inl (G.2.1 1, 160, .inl (fun j9 => nI ((zP y) j9)))), (m6, .inl (G.2.1 1, 160, .inl (fun j9 => nI ((zS y) j9)))), (m8, .inl (G.2.1 1, 8, .inl (fun j9 => nI ((zR y) j9)))), (m9, .inl (G.2.1 1, 4, .inl (fun j9 => nI ((zQ y) j9)))), (m10, .inl (G.2.1 0, 96, .inl (fun j9 => nI ((zA y) j9)))), (m11, .inl (G.2.1 1, 96, .inl (fun j9 => nI ((zO y) j9)))), (m12, .inl (G.2.1 1, 96, .inl (fun j9 => nI ((zF y) j9)))), (m13, .inl (G.2.1 1, 96, .inl (fun j9 => nI ((zM y) j9)))), (m14, .inl (G.2.1 3, 96, .inl (fun j9 => bI ((zE y) j9)))), (m15, .inl (G.2.1 3, 384, .inl (fun j9 => bI ((zV y) j9)))), (m16, .inl (G.2.1 1, 9, .inl (fun j9 => nI ((zK y) j9)))), (m19, .inl (G.2.1 3, 96, .inl (fun j9 => bI ((zG y) j9))))]) 3 dX8_copies_35 rfl (by omega) (by decide) (upd_n _ _ _) rfl ?_
  refine v_aload_n dX8_copies_36 rfl 0 rfl ?_
  refine v_get (ref := "SealhouseModel") (C := RX8) (T := TX8) (N := 20) 0 4 dX8_copies_37 rfl rfl gin_X8 (by decide) kw_1008 rfl rfl ?_
  refine v_iload_n dX8_copies_40 rfl 2 rfl ?_
  refine v_aload_n dX8_copies_41 rfl 0 rfl ?_
  refine v_get (ref := "SealhouseModel") (C := RX8) (T := TX8) (N := 20) 0 4 dX8_copies_42 rfl rfl gin_X8 (by decide) kw_1008 rfl rfl ?_
  refine v_iload_n dX8_copies_45 rfl 1 rfl ?_
  refine n_iald (i := a) (x := nI ((zT y) a)) 4 dX8_copies_46 rfl (by omega) (by decide) rfl ?_
  refine n_iast (i := b) (g := (fun j9 => nI ((va_up (zT y) b ((zT y) a)) j9))) (ws' := [(mo, .inr (6, [.int (nI (zX y)), .ref m1, .ref m2, .ref m3, .ref m4, .ref m5, .ref m6, .int (nI (zD y)), .ref m8, .ref m9, .ref m10, .ref m11, .ref m12, .ref m13, .ref m14, .ref m15, .ref m16, .int (nI (zL y)), .int (nI (zH y)), .ref m19])), (m1, .inl (G.2.1 3, 160, .inl (fun j9 => bI ((va_up (zI y) b ((zI y) a)) j9)))), (m2, .inl (G.2.1 1, 160, .inl (upd (zN y) b ((zN y) a)))), (m3, .inl (G.2.1 1, 160, .inl (fun j9 => nI ((va_up (zB y) b ((zB y) a)) j9)))), (m4, .inl (G.2.1 1, 160, .inl (fun j9 => nI ((va_up (zT y) b ((zT y) a)) j9)))), (m5, .inl (G.2.1 1, 160, .inl (fun j9 => nI ((zP y) j9)))), (m6, .inl (G.2.1 1, 160, .inl (fun j9 => nI ((zS y) j9)))), (m8, .inl (G.2.1 1, 8, .inl (fun j9 => nI ((zR y) j9)))), (m9, .inl (G.2.1 1, 4, .inl (fun j9 => nI ((zQ y) j9)))), (m10, .inl (G.2.1 0, 96, .inl (fun j9 => nI ((zA y) j9)))), (m11, .inl (G.2.1 1, 96, .inl (fun j9 => nI ((zO y) j9)))), (m12, .inl (G.2.1 1, 96, .inl (fun j9 => nI ((zF y) j9)))), (m13, .inl (G.2.1 1, 96, .inl (fun j9 => nI ((zM y) j9)))), (m14, .inl (G.2.1 3, 96, .inl (fun j9 => bI ((zE y) j9)))), (m15, .inl (G.2.1 3, 384, .inl (fun j9 => bI ((zV y) j9)))), (m16, .inl (G.2.1 1, 9, .inl (fun j9 => nI ((zK y) j9)))), (m19, .inl (G.2.1 3, 96, .inl (fun j9 => bI ((zG y) j9))))]) 4 dX8_copies_47 rfl (by omega) (by decide) (upd_n _ _ _) rfl ?_
  refine v_aload_n dX8_copies_48 rfl 0 rfl ?_
  refine v_get (ref := "SealhouseModel") (C := RX8) (T := TX8) (N := 20) 0 5 dX8_copies_49 rfl rfl gin_X8 (by decide) kw_1009 rfl rfl ?_
  refine v_iload_n dX8_copies_52 rfl 2 rfl ?_
  refine v_aload_n dX8_copies_53 rfl 0 rfl ?_
  refine v_get (ref := "SealhouseModel") (C := RX8) (T := TX8) (N := 20) 0 5 dX8_copies_54 rfl rfl gin_X8 (by decide) kw_1009 rfl rfl ?_
  refine v_iload_n dX8_copies_57 rfl 1 rfl ?_
  refine n_iald (i := a) (x := nI ((zP y) a)) 5 dX8_copies_58 rfl (by omega) (by decide) rfl ?_
  refine n_iast (i := b) (g := (fun j9 => nI ((va_up (zP y) b ((zP y) a)) j9))) (ws' := [(mo, .inr (6, [.int (nI (zX y)), .ref m1, .ref m2, .ref m3, .ref m4, .ref m5, .ref m6, .int (nI (zD y)), .ref m8, .ref m9, .ref m10, .ref m11, .ref m12, .ref m13, .ref m14, .ref m15, .ref m16, .int (nI (zL y)), .int (nI (zH y)), .ref m19])), (m1, .inl (G.2.1 3, 160, .inl (fun j9 => bI ((va_up (zI y) b ((zI y) a)) j9)))), (m2, .inl (G.2.1 1, 160, .inl (upd (zN y) b ((zN y) a)))), (m3, .inl (G.2.1 1, 160, .inl (fun j9 => nI ((va_up (zB y) b ((zB y) a)) j9)))), (m4, .inl (G.2.1 1, 160, .inl (fun j9 => nI ((va_up (zT y) b ((zT y) a)) j9)))), (m5, .inl (G.2.1 1, 160, .inl (fun j9 => nI ((va_up (zP y) b ((zP y) a)) j9)))), (m6, .inl (G.2.1 1, 160, .inl (fun j9 => nI ((zS y) j9)))), (m8, .inl (G.2.1 1, 8, .inl (fun j9 => nI ((zR y) j9)))), (m9, .inl (G.2.1 1, 4, .inl (fun j9 => nI ((zQ y) j9)))), (m10, .inl (G.2.1 0, 96, .inl (fun j9 => nI ((zA y) j9)))), (m11, .inl (G.2.1 1, 96, .inl (fun j9 => nI ((zO y) j9)))), (m12, .inl (G.2.1 1, 96, .inl (fun j9 => nI ((zF y) j9)))), (m13, .inl (G.2.1 1, 96, .inl (fun j9 => nI ((zM y) j9)))), (m14, .inl (G.2.1 3, 96, .inl (fun j9 => bI ((zE y) j9)))), (m15, .inl (G.2.1 3, 384, .inl (fun j9 => bI ((zV y) j9)))), (m16, .inl (G.2.1 1, 9, .inl (fun j9 => nI ((zK y) j9)))), (m19, .inl (G.2.1 3, 96, .inl (fun j9 => bI ((zG y) j9))))]) 5 dX8_copies_59 rfl (by omega) (by decide) (upd_n _ _ _) rfl ?_
  refine v_aload_n dX8_copies_60 rfl 0 rfl ?_
  refine v_get (ref := "SealhouseModel") (C := RX8) (T := TX8) (N := 20) 0 6 dX8_copies_61 rfl rfl gin_X8 (by decide) kw_1010 rfl rfl ?_
  refine v_iload_n dX8_copies_64 rfl 2 rfl ?_
  refine v_aload_n dX8_copies_65 rfl 0 rfl ?_
  refine v_get (ref := "SealhouseModel") (C := RX8) (T := TX8) (N := 20) 0 6 dX8_copies_66 rfl rfl gin_X8 (by decide) kw_1010 rfl rfl ?_
  refine v_iload_n dX8_copies_69 rfl 1 rfl ?_
  refine n_iald (i := a) (x := nI ((zS y) a)) 6 dX8_copies_70 rfl (by omega) (by decide) rfl ?_
  refine n_iast (i := b) (g := (fun j9 => nI ((va_up (zS y) b ((zS y) a)) j9))) (ws' := [(mo, .inr (6, [.int (nI (zX y)), .ref m1, .ref m2, .ref m3, .ref m4, .ref m5, .ref m6, .int (nI (zD y)), .ref m8, .ref m9, .ref m10, .ref m11, .ref m12, .ref m13, .ref m14, .ref m15, .ref m16, .int (nI (zL y)), .int (nI (zH y)), .ref m19])), (m1, .inl (G.2.1 3, 160, .inl (fun j9 => bI ((va_up (zI y) b ((zI y) a)) j9)))), (m2, .inl (G.2.1 1, 160, .inl (upd (zN y) b ((zN y) a)))), (m3, .inl (G.2.1 1, 160, .inl (fun j9 => nI ((va_up (zB y) b ((zB y) a)) j9)))), (m4, .inl (G.2.1 1, 160, .inl (fun j9 => nI ((va_up (zT y) b ((zT y) a)) j9)))), (m5, .inl (G.2.1 1, 160, .inl (fun j9 => nI ((va_up (zP y) b ((zP y) a)) j9)))), (m6, .inl (G.2.1 1, 160, .inl (fun j9 => nI ((va_up (zS y) b ((zS y) a)) j9)))), (m8, .inl (G.2.1 1, 8, .inl (fun j9 => nI ((zR y) j9)))), (m9, .inl (G.2.1 1, 4, .inl (fun j9 => nI ((zQ y) j9)))), (m10, .inl (G.2.1 0, 96, .inl (fun j9 => nI ((zA y) j9)))), (m11, .inl (G.2.1 1, 96, .inl (fun j9 => nI ((zO y) j9)))), (m12, .inl (G.2.1 1, 96, .inl (fun j9 => nI ((zF y) j9)))), (m13, .inl (G.2.1 1, 96, .inl (fun j9 => nI ((zM y) j9)))), (m14, .inl (G.2.1 3, 96, .inl (fun j9 => bI ((zE y) j9)))), (m15, .inl (G.2.1 3, 384, .inl (fun j9 => bI ((zV y) j9)))), (m16, .inl (G.2.1 1, 9, .inl (fun j9 => nI ((zK y) j9)))), (m19, .inl (G.2.1 3, 96, .inl (fun j9 => bI ((zG y) j9))))]) 6 dX8_copies_71 rfl (by omega) (by decide) (upd_n _ _ _) rfl ?_
  exact v_vret hR dX8_copies_72 (by exact ⟨rfl, rfl⟩)
theorem dX8_rounds_0 : decode cX8_rounds 0 = .ok (.bipush 16, 2) := by decide +kernel
theorem dX8_rounds_2 : decode cX8_rounds 2 = .ok (.istore_n 3, 1) := by decide +kernel
theorem dX8_rounds_3 : decode cX8_rounds 3 = .ok (.iload_n 3, 1) := by decide +kernel
theorem dX8_rounds_4 : decode cX8_rounds 4 = .ok (.ifCond .le 83, 3) := by decide +kernel
theorem dX8_rounds_7 : decode cX8_rounds 7 = .ok (.iload_n 1, 1) := by decide +kernel
theorem dX8_rounds_8 : decode cX8_rounds 8 = .ok (.iload_n 3, 1) := by decide +kernel
theorem dX8_rounds_9 : decode cX8_rounds 9 = .ok (.idiv, 1) := by decide +kernel
theorem dX8_rounds_10 : decode cX8_rounds 10 = .ok (.iload_n 3, 1) := by decide +kernel
theorem dX8_rounds_11 : decode cX8_rounds 11 = .ok (.imul, 1) := by decide +kernel
theorem dX8_rounds_12 : decode cX8_rounds 12 = .ok (.istore 4, 2) := by decide +kernel
theorem dX8_rounds_14 : decode cX8_rounds 14 = .ok (.iload_n 2, 1) := by decide +kernel
theorem dX8_rounds_15 : decode cX8_rounds 15 = .ok (.iload_n 3, 1) := by decide +kernel
theorem dX8_rounds_16 : decode cX8_rounds 16 = .ok (.iadd, 1) := by decide +kernel
theorem dX8_rounds_17 : decode cX8_rounds 17 = .ok (.iconst 1, 1) := by decide +kernel
theorem dX8_rounds_18 : decode cX8_rounds 18 = .ok (.isub, 1) := by decide +kernel
theorem dX8_rounds_19 : decode cX8_rounds 19 = .ok (.iload_n 3, 1) := by decide +kernel
theorem dX8_rounds_20 : decode cX8_rounds 20 = .ok (.idiv, 1) := by decide +kernel
theorem dX8_rounds_21 : decode cX8_rounds 21 = .ok (.iload_n 3, 1) := by decide +kernel
theorem dX8_rounds_22 : decode cX8_rounds 22 = .ok (.imul, 1) := by decide +kernel
theorem dX8_rounds_23 : decode cX8_rounds 23 = .ok (.istore 5, 2) := by decide +kernel
theorem dX8_rounds_25 : decode cX8_rounds 25 = .ok (.iload 5, 2) := by decide +kernel
theorem dX8_rounds_27 : decode cX8_rounds 27 = .ok (.iload 4, 2) := by decide +kernel
theorem dX8_rounds_29 : decode cX8_rounds 29 = .ok (.isub, 1) := by decide +kernel
theorem dX8_rounds_30 : decode cX8_rounds 30 = .ok (.bipush 8, 2) := by decide +kernel
theorem dX8_rounds_32 : decode cX8_rounds 32 = .ok (.iload_n 3, 1) := by decide +kernel
theorem dX8_rounds_33 : decode cX8_rounds 33 = .ok (.imul, 1) := by decide +kernel
theorem dX8_rounds_34 : decode cX8_rounds 34 = .ok (.if_icmp .gt 7, 3) := by decide +kernel
theorem dX8_rounds_37 : decode cX8_rounds 37 = .ok (.iconst 1, 1) := by decide +kernel
theorem dX8_rounds_38 : decode cX8_rounds 38 = .ok (.goto 4, 3) := by decide +kernel
theorem dX8_rounds_41 : decode cX8_rounds 41 = .ok (.iconst 0, 1) := by decide +kernel
theorem dX8_rounds_42 : decode cX8_rounds 42 = .ok (.istore 6, 2) := by decide +kernel
theorem dX8_rounds_44 : decode cX8_rounds 44 = .ok (.aload_n 0, 1) := by decide +kernel
theorem dX8_rounds_45 : decode cX8_rounds 45 = .ok (.iload 6, 2) := by decide +kernel
theorem dX8_rounds_47 : decode cX8_rounds 47 = .ok (.ifCond .eq 8, 3) := by decide +kernel
theorem dX8_rounds_50 : decode cX8_rounds 50 = .ok (.iload 4, 2) := by decide +kernel
theorem dX8_rounds_52 : decode cX8_rounds 52 = .ok (.goto 7, 3) := by decide +kernel
theorem dX8_rounds_55 : decode cX8_rounds 55 = .ok (.aload_n 0, 1) := by decide +kernel
theorem dX8_rounds_56 : decode cX8_rounds 56 = .ok (.getfield 78, 3) := by decide +kernel
theorem dX8_rounds_59 : decode cX8_rounds 59 = .ok (.putfield 78, 3) := by decide +kernel
theorem dX8_rounds_62 : decode cX8_rounds 62 = .ok (.aload_n 0, 1) := by decide +kernel
theorem dX8_rounds_63 : decode cX8_rounds 63 = .ok (.iload 6, 2) := by decide +kernel
theorem dX8_rounds_65 : decode cX8_rounds 65 = .ok (.ifCond .eq 8, 3) := by decide +kernel
theorem dX8_rounds_68 : decode cX8_rounds 68 = .ok (.iload 5, 2) := by decide +kernel
theorem dX8_rounds_70 : decode cX8_rounds 70 = .ok (.goto 7, 3) := by decide +kernel
theorem dX8_rounds_73 : decode cX8_rounds 73 = .ok (.aload_n 0, 1) := by decide +kernel
theorem dX8_rounds_74 : decode cX8_rounds 74 = .ok (.getfield 81, 3) := by decide +kernel
theorem dX8_rounds_77 : decode cX8_rounds 77 = .ok (.putfield 81, 3) := by decide +kernel
theorem dX8_rounds_80 : decode cX8_rounds 80 = .ok (.iload_n 3, 1) := by decide +kernel
theorem dX8_rounds_81 : decode cX8_rounds 81 = .ok (.iconst 2, 1) := by decide +kernel
theorem dX8_rounds_82 : decode cX8_rounds 82 = .ok (.idiv, 1) := by decide +kernel
theorem dX8_rounds_83 : decode cX8_rounds 83 = .ok (.istore_n 3, 1) := by decide +kernel
theorem dX8_rounds_84 : decode cX8_rounds 84 = .ok (.goto (-81), 3) := by decide +kernel
theorem dX8_rounds_87 : decode cX8_rounds 87 = .ok (.return_, 1) := by decide +kernel
theorem hd_X8_rounds : yX8_rounds.cls ≠ "java/lang/invoke/MethodHandle" ∧ yX8_rounds.cls ≠ "java/lang/invoke/VarHandle" ∧ (parseMethodDescriptor yX8_rounds.desc).map (fun d => d.parameters.length) = some 2 := by decide +kernel
abbrev rm_X8_rounds : Room := { frames := 0, cells := 0, slots := 0, locals := 0 }
set_option maxHeartbeats 4000000 in
set_option maxRecDepth 100000 in
theorem c_X8_rounds (l : Launch) (G : Gx) (mo : Nat) (m1 : Nat) (m2 : Nat) (m3 : Nat) (m4 : Nat) (m5 : Nat) (m6 : Nat) (m8 : Nat) (m9 : Nat) (m10 : Nat) (m11 : Nat) (m12 : Nat) (m13 : Nat) (m14 : Nat) (m15 : Nat) (m16 : Nat) (m19 : Nat) (y : YS) (b : Nat) (t : Nat) (hbt : b ≤ t) (ht : t ≤ b + 96) (ht2 : t < 300) : Mt l G yX8_rounds cX8_rounds 7 none rm_X8_rounds [.ref mo, .int (nI b), .int (nI t)] [(mo, .inr (6, [.int (nI (zX y)), .ref m1, .ref m2, .ref m3, .ref m4, .ref m5, .ref m6, .int (nI (zD y)), .ref m8, .ref m9, .ref m10, .ref m11, .ref m12, .ref m13, .ref m14, .ref m15, .ref m16, .int (nI (zL y)), .int (nI (zH y)), .ref m19])), (m1, .inl (G.2.1 3, 160, .inl (fun j9 => bI ((zI y) j9)))), (m2, .inl (G.2.1 1, 160, .inl (zN y))), (m3, .inl (G.2.1 1, 160, .inl (fun j9 => nI ((zB y) j9)))), (m4, .inl (G.2.1 1, 160, .inl (fun j9 => nI ((zT y) j9)))), (m5, .inl (G.2.1 1, 160, .inl (fun j9 => nI ((zP y) j9)))), (m6, .inl (G.2.1 1, 160, .inl (fun j9 => nI ((zS y) j9)))), (m8, .inl (G.2.1 1, 8, .inl (fun j9 => nI ((zR y) j9)))), (m9, .inl (G.2.1 1, 4, .inl (fun j9 => nI ((zQ y) j9)))), (m10, .inl (G.2.1 0, 96, .inl (fun j9 => nI ((zA y) j9)))), (m11, .inl (G.2.1 1, 96, .inl (fun j9 => nI ((zO y) j9)))), (m12, .inl (G.2.1 1, 96, .inl (fun j9 => nI ((zF y) j9)))), (m13, .inl (G.2.1 1, 96, .inl (fun j9 => nI ((zM y) j9)))), (m14, .inl (G.2.1 3, 96, .inl (fun j9 => bI ((zE y) j9)))), (m15, .inl (G.2.1 3, 384, .inl (fun j9 => bI ((zV y) j9)))), (m16, .inl (G.2.1 1, 9, .inl (fun j9 => nI ((zK y) j9)))), (m19, .inl (G.2.1 3, 96, .inl (fun j9 => bI ((zG y) j9))))] (D1 none [(mo, .inr (6, [.int (nI (zX (rndY b t y))), .ref m1, .ref m2, .ref m3, .ref m4, .ref m5, .ref m6, .int (nI (zD (rndY b t y))), .ref m8, .ref m9, .ref m10, .ref m11, .ref m12, .ref m13, .ref m14, .ref m15, .ref m16, .int (nI (zL (rndY b t y))), .int (nI (zH (rndY b t y))), .ref m19])), (m1, .inl (G.2.1 3, 160, .inl (fun j9 => bI ((zI (rndY b t y)) j9)))), (m2, .inl (G.2.1 1, 160, .inl (zN (rndY b t y)))), (m3, .inl (G.2.1 1, 160, .inl (fun j9 => nI ((zB (rndY b t y)) j9)))), (m4, .inl (G.2.1 1, 160, .inl (fun j9 => nI ((zT (rndY b t y)) j9)))), (m5, .inl (G.2.1 1, 160, .inl (fun j9 => nI ((zP (rndY b t y)) j9)))), (m6, .inl (G.2.1 1, 160, .inl (fun j9 => nI ((zS (rndY b t y)) j9)))), (m8, .inl (G.2.1 1, 8, .inl (fun j9 => nI ((zR (rndY b t y)) j9)))), (m9, .inl (G.2.1 1, 4, .inl (fun j9 => nI ((zQ (rndY b t y)) j9)))), (m10, .inl (G.2.1 0, 96, .inl (fun j9 => nI ((zA (rndY b t y)) j9)))), (m11, .inl (G.2.1 1, 96, .inl (fun j9 => nI ((zO (rndY b t y)) j9)))), (m12, .inl (G.2.1 1, 96, .inl (fun j9 => nI ((zF (rndY b t y)) j9)))), (m13, .inl (G.2.1 1, 96, .inl (fun j9 => nI ((zM (rndY b t y)) j9)))), (m14, .inl (G.2.1 3, 96, .inl (fun j9 => bI ((zE (rndY b t y)) j9)))), (m15, .inl (G.2.1 3, 384, .inl (fun j9 => bI ((zV (rndY b t y)) j9)))), (m16, .inl (G.2.1 1, 9, .inl (fun j9 => nI ((zK (rndY b t y)) j9)))), (m19, .inl (G.2.1 3, 96, .inl (fun j9 => bI ((zG (rndY b t y)) j9))))]) := by
  refine Mt.of (by decide) (Nat.le_of_ble_eq_true rfl) ?_
  intro K hl9 hn9 hR
  show V K G cX8_rounds RX8 7 rm_X8_rounds 0 0 0 [(0, .ref mo), (1, .int (nI b)), (2, .int (nI t))] [] [(mo, .inr (6, [.int (nI (zX y)), .ref m1, .ref m2, .ref m3, .ref m4, .ref m5, .ref m6, .int (nI (zD y)), .ref m8, .ref m9, .ref m10, .ref m11, .ref m12, .ref m13, .ref m14, .ref m15, .ref m16, .int (nI (zL y)), .int (nI (zH y)), .ref m19])), (m1, .inl (G.2.1 3, 160, .inl (fun j9 => bI ((zI y) j9)))), (m2, .inl (G.2.1 1, 160, .inl (zN y))), (m3, .inl (G.2.1 1, 160, .inl (fun j9 => nI ((zB y) j9)))), (m4, .inl (G.2.1 1, 160, .inl (fun j9 => nI ((zT y) j9)))), (m5, .inl (G.2.1 1, 160, .inl (fun j9 => nI ((zP y) j9)))), (m6, .inl (G.2.1 1, 160, .inl (fun j9 => nI ((zS y) j9)))), (m8, .inl (G.2.1 1, 8, .inl (fun j9 => nI ((zR y) j9)))), (m9, .inl (G.2.1 1, 4, .inl (fun j9 => nI ((zQ y) j9)))), (m10, .inl (G.2.1 0, 96, .inl (fun j9 => nI ((zA y) j9)))), (m11, .inl (G.2.1 1, 96, .inl (fun j9 => nI ((zO y) j9)))), (m12, .inl (G.2.1 1, 96, .inl (fun j9 => nI ((zF y) j9)))), (m13, .inl (G.2.1 1, 96, .inl (fun j9 => nI ((zM y) j9)))), (m14, .inl (G.2.1 3, 96, .inl (fun j9 => bI ((zE y) j9)))), (m15, .inl (G.2.1 3, 384, .inl (fun j9 => bI ((zV y) j9)))), (m16, .inl (G.2.1 1, 9, .inl (fun j9 => nI ((zK y) j9)))), (m19, .inl (G.2.1 3, 96, .inl (fun j9 => bI ((zG y) j9))))]
  refine v_bipush (v := nI 16) dX8_rounds_0 (by decide) ?_
  refine v_istore_n (lv' := [(3, .int (nI 16)), (0, .ref mo), (1, .int (nI b)), (2, .int (nI t))]) dX8_rounds_2 rfl (by decide) rfl ?_
  refine v_iload_n dX8_rounds_3 rfl 0 rfl ?_
  refine n_if_le (a := 16) (tgt := 87) dX8_rounds_4 (by decide) (by decide) (fun c => absurd c (by decide)) (fun _ => ?_)
  refine v_iload_n dX8_rounds_7 rfl 2 rfl ?_
  refine v_iload_n dX8_rounds_8 rfl 0 rfl ?_
  refine n_idiv (a := b) (b := 16) (z := b / 16) dX8_rounds_9 (by decide) (by omega) (by decide) rfl ?_
  refine v_iload_n dX8_rounds_10 rfl 0 rfl ?_
  refine n_imul (a := b / 16) (b := 16) (z := (b / 16) * 16) dX8_rounds_11 rfl ?_
  refine v_istore (lv' := [(4, .int (nI ((b / 16) * 16))), (3, .int (nI 16)), (0, .ref mo), (1, .int (nI b)), (2, .int (nI t))]) dX8_rounds_12 (by decide) rfl ?_
  have hd16 : b / 16 * 16 ≤ b := Nat.div_mul_le_self b 16
  have hu16 : t ≤ (t + 16 - 1) / 16 * 16 := le_up (n := t) (u := 16) (by decide)
  have hv16 : (t + 16 - 1) / 16 * 16 < t + 16 := up_lt t 16 (by decide)
  refine v_iload_n dX8_rounds_14 rfl 4 rfl ?_
  refine v_iload_n dX8_rounds_15 rfl 1 rfl ?_
  refine n_iadd (a := t) (b := 16) (z := t + 16) dX8_rounds_16 rfl ?_
  refine v_iconst (v := nI 1) dX8_rounds_17 (by decide) ?_
  refine n_isub (a := t + 16) (b := 1) (z := (t + 16) - 1) dX8_rounds_18 (by omega) ?_
  refine v_iload_n dX8_rounds_19 rfl 1 rfl ?_
  refine n_idiv (a := (t + 16) - 1) (b := 16) (z := ((t + 16) - 1) / 16) dX8_rounds_20 (by decide) (by omega) (by decide) rfl ?_
  refine v_iload_n dX8_rounds_21 rfl 1 rfl ?_
  refine n_imul (a := ((t + 16) - 1) / 16) (b := 16) (z := (((t + 16) - 1) / 16) * 16) dX8_rounds_22 rfl ?_
  refine v_istore (lv' := [(5, .int (nI ((((t + 16) - 1) / 16) * 16))), (4, .int (nI ((b / 16) * 16))), (3, .int (nI 16)), (0, .ref mo), (1, .int (nI b)), (2, .int (nI t))]) dX8_rounds_23 (by decide) rfl ?_
  refine v_iload dX8_rounds_25 0 rfl ?_
  refine v_iload dX8_rounds_27 1 rfl ?_
  refine n_isub (a := (((t + 16) - 1) / 16) * 16) (b := (b / 16) * 16) (z := ((((t + 16) - 1) / 16) * 16) - ((b / 16) * 16)) dX8_rounds_29 (by omega) ?_
  refine v_bipush (v := nI 8) dX8_rounds_30 (by decide) ?_
  refine v_iload_n dX8_rounds_32 rfl 2 rfl ?_
  refine n_imul (a := 8) (b := 16) (z := 128) dX8_rounds_33 rfl ?_
  refine n_icmp_gt (a := ((((t + 16) - 1) / 16) * 16) - ((b / 16) * 16)) (b := 128) (tgt := 41) dX8_rounds_34 (by decide) (by omega) (by omega) (fun c34 => absurd c34 (by omega)) (fun c34 => ?_)
  refine v_iconst (v := nI 1) dX8_rounds_37 (by decide) ?_
  refine v_goto (tgt := 42) dX8_rounds_38 (by decide) ?_
  refine v_istore (lv' := [(6, .int (nI 1)), (5, .int (nI ((((t + 16) - 1) / 16) * 16))), (4, .int (nI ((b / 16) * 16))), (3, .int (nI 16)), (0, .ref mo), (1, .int (nI b)), (2, .int (nI t))]) dX8_rounds_42 (by decide) rfl ?_
  refine v_aload_n dX8_rounds_44 rfl 4 rfl ?_
  refine v_iload dX8_rounds_45 0 rfl ?_
  refine n_if_eq (a := 1) (tgt := 55) dX8_rounds_47 (by decide) (by decide) (fun c => absurd c (by decide)) (fun _ => ?_)
  refine v_iload dX8_rounds_50 2 rfl ?_
  refine v_goto (tgt := 59) dX8_rounds_52 (by decide) ?_
  refine v_put (ref := "SealhouseModel") (C := RX8) (T := TX8) (N := 20) (ty0 := tyX8) (t := tyX8 17) (ws' := [(mo, .inr (6, [.int (nI (zX y)), .ref m1, .ref m2, .ref m3, .ref m4, .ref m5, .ref m6, .int (nI (zD y)), .ref m8, .ref m9, .ref m10, .ref m11, .ref m12, .ref m13, .ref m14, .ref m15, .ref m16, .int (nI ((b / 16) * 16)), .int (nI (zH y)), .ref m19])), (m1, .inl (G.2.1 3, 160, .inl (fun j9 => bI ((zI y) j9)))), (m2, .inl (G.2.1 1, 160, .inl (zN y))), (m3, .inl (G.2.1 1, 160, .inl (fun j9 => nI ((zB y) j9)))), (m4, .inl (G.2.1 1, 160, .inl (fun j9 => nI ((zT y) j9)))), (m5, .inl (G.2.1 1, 160, .inl (fun j9 => nI ((zP y) j9)))), (m6, .inl (G.2.1 1, 160, .inl (fun j9 => nI ((zS y) j9)))), (m8, .inl (G.2.1 1, 8, .inl (fun j9 => nI ((zR y) j9)))), (m9, .inl (G.2.1 1, 4, .inl (fun j9 => nI ((zQ y) j9)))), (m10, .inl (G.2.1 0, 96, .inl (fun j9 => nI ((zA y) j9)))), (m11, .inl (G.2.1 1, 96, .inl (fun j9 => nI ((zO y) j9)))), (m12, .inl (G.2.1 1, 96, .inl (fun j9 => nI ((zF y) j9)))), (m13, .inl (G.2.1 1, 96, .inl (fun j9 => nI ((zM y) j9)))), (m14, .inl (G.2.1 3, 96, .inl (fun j9 => bI ((zE y) j9)))), (m15, .inl (G.2.1 3, 384, .inl (fun j9 => bI ((zV y) j9)))), (m16, .inl (G.2.1 1, 9, .inl (fun j9 => nI ((zK y) j9)))), (m19, .inl (G.2.1 3, 96, .inl (fun j9 => bI ((zG y) j9))))]) 0 17 dX8_rounds_59 rfl rfl gin_X8 tyX8_ok nmX8 (by decide) kw_1021 rfl rfl (by decide +kernel) rfl rfl (Nat.le_of_ble_eq_true rfl) rfl ?_
  refine v_aload_n dX8_rounds_62 rfl 4 rfl ?_
  refine v_iload dX8_rounds_63 0 rfl ?_
  refine n_if_eq (a := 1) (tgt := 73) dX8_rounds_65 (by decide) (by decide) (fun c => absurd c (by decide)) (fun _ => ?_)
  refine v_iload dX8_rounds_68 1 rfl ?_
  refine v_goto (tgt := 77) dX8_rounds_70 (by decide) ?_
  refine v_put (ref := "SealhouseModel") (C := RX8) (T := TX8) (N := 20) (ty0 := tyX8) (t := tyX8 18) (ws' := [(mo, .inr (6, [.int (nI (zX y)), .ref m1, .ref m2, .ref m3, .ref m4, .ref m5, .ref m6, .int (nI (zD y)), .ref m8, .ref m9, .ref m10, .ref m11, .ref m12, .ref m13, .ref m14, .ref m15, .ref m16, .int (nI ((b / 16) * 16)), .int (nI ((((t + 16) - 1) / 16) * 16)), .ref m19])), (m1, .inl (G.2.1 3, 160, .inl (fun j9 => bI ((zI y) j9)))), (m2, .inl (G.2.1 1, 160, .inl (zN y))), (m3, .inl (G.2.1 1, 160, .inl (fun j9 => nI ((zB y) j9)))), (m4, .inl (G.2.1 1, 160, .inl (fun j9 => nI ((zT y) j9)))), (m5, .inl (G.2.1 1, 160, .inl (fun j9 => nI ((zP y) j9)))), (m6, .inl (G.2.1 1, 160, .inl (fun j9 => nI ((zS y) j9)))), (m8, .inl (G.2.1 1, 8, .inl (fun j9 => nI ((zR y) j9)))), (m9, .inl (G.2.1 1, 4, .inl (fun j9 => nI ((zQ y) j9)))), (m10, .inl (G.2.1 0, 96, .inl (fun j9 => nI ((zA y) j9)))), (m11, .inl (G.2.1 1, 96, .inl (fun j9 => nI ((zO y) j9)))), (m12, .inl (G.2.1 1, 96, .inl (fun j9 => nI ((zF y) j9)))), (m13, .inl (G.2.1 1, 96, .inl (fun j9 => nI ((zM y) j9)))), (m14, .inl (G.2.1 3, 96, .inl (fun j9 => bI ((zE y) j9)))), (m15, .inl (G.2.1 3, 384, .inl (fun j9 => bI ((zV y) j9)))), (m16, .inl (G.2.1 1, 9, .inl (fun j9 => nI ((zK y) j9)))), (m19, .inl (G.2.1 3, 96, .inl (fun j9 => bI ((zG y) j9))))]) 0 18 dX8_rounds_77 rfl rfl gin_X8 tyX8_ok nmX8 (by decide) kw_1022 rfl rfl (by decide +kernel) rfl rfl (Nat.le_of_ble_eq_true rfl) rfl ?_
  refine v_iload_n dX8_rounds_80 rfl 3 rfl ?_
  refine v_iconst (v := nI 2) dX8_rounds_81 (by decide) ?_
  refine n_idiv (a := 16) (b := 2) (z := 8) dX8_rounds_82 (by decide) (by omega) (by decide) rfl ?_
  refine v_istore_n (lv' := [(3, .int (nI 8)), (6, .int (nI 1)), (5, .int (nI ((((t + 16) - 1) / 16) * 16))), (4, .int (nI ((b / 16) * 16))), (0, .ref mo), (1, .int (nI b)), (2, .int (nI t))]) dX8_rounds_83 rfl (by decide) rfl ?_
  refine v_goto (tgt := 3) dX8_rounds_84 (by decide) ?_
  refine v_iload_n dX8_rounds_3 rfl 0 rfl ?_
  refine n_if_le (a := 8) (tgt := 87) dX8_rounds_4 (by decide) (by decide) (fun c => absurd c (by decide)) (fun _ => ?_)
  refine v_iload_n dX8_rounds_7 rfl 5 rfl ?_
  refine v_iload_n dX8_rounds_8 rfl 0 rfl ?_
  refine n_idiv (a := b) (b := 8) (z := b / 8) dX8_rounds_9 (by decide) (by omega) (by decide) rfl ?_
  refine v_iload_n dX8_rounds_10 rfl 0 rfl ?_
  refine n_imul (a := b / 8) (b := 8) (z := (b / 8) * 8) dX8_rounds_11 rfl ?_
  refine v_istore (lv' := [(4, .int (nI ((b / 8) * 8))), (3, .int (nI 8)), (6, .int (nI 1)), (5, .int (nI ((((t + 16) - 1) / 16) * 16))), (0, .ref mo), (1, .int (nI b)), (2, .int (nI t))]) dX8_rounds_12 (by decide) rfl ?_
  have hd8 : b / 8 * 8 ≤ b := Nat.div_mul_le_self b 8
  have hu8 : t ≤ (t + 8 - 1) / 8 * 8 := le_up (n := t) (u := 8) (by decide)
  have hv8 : (t + 8 - 1) / 8 * 8 < t + 8 := up_lt t 8 (by decide)
  refine v_iload_n dX8_rounds_14 rfl 6 rfl ?_
  refine v_iload_n dX8_rounds_15 rfl 1 rfl ?_
  refine n_iadd (a := t) (b := 8) (z := t + 8) dX8_rounds_16 rfl ?_
  refine v_iconst (v := nI 1) dX8_rounds_17 (by decide) ?_
  refine n_isub (a := t + 8) (b := 1) (z := (t + 8) - 1) dX8_rounds_18 (by omega) ?_
  refine v_iload_n dX8_rounds_19 rfl 1 rfl ?_
  refine n_idiv (a := (t + 8) - 1) (b := 8) (z := ((t + 8) - 1) / 8) dX8_rounds_20 (by decide) (by omega) (by decide) rfl ?_
  refine v_iload_n dX8_rounds_21 rfl 1 rfl ?_
  refine n_imul (a := ((t + 8) - 1) / 8) (b := 8) (z := (((t + 8) - 1) / 8) * 8) dX8_rounds_22 rfl ?_
  refine v_istore (lv' := [(5, .int (nI ((((t + 8) - 1) / 8) * 8))), (4, .int (nI ((b / 8) * 8))), (3, .int (nI 8)), (6, .int (nI 1)), (0, .ref mo), (1, .int (nI b)), (2, .int (nI t))]) dX8_rounds_23 (by decide) rfl ?_
  refine v_iload dX8_rounds_25 0 rfl ?_
  refine v_iload dX8_rounds_27 1 rfl ?_
  refine n_isub (a := (((t + 8) - 1) / 8) * 8) (b := (b / 8) * 8) (z := ((((t + 8) - 1) / 8) * 8) - ((b / 8) * 8)) dX8_rounds_29 (by omega) ?_
  refine v_bipush (v := nI 8) dX8_rounds_30 (by decide) ?_
  refine v_iload_n dX8_rounds_32 rfl 2 rfl ?_
  refine n_imul (a := 8) (b := 8) (z := 64) dX8_rounds_33 rfl ?_
  refine n_icmp_gt (a := ((((t + 8) - 1) / 8) * 8) - ((b / 8) * 8)) (b := 64) (tgt := 41) dX8_rounds_34 (by decide) (by omega) (by omega) (fun c34 => ?_) (fun c34 => ?_)
  ·
    refine v_iconst (v := nI 0) dX8_rounds_41 (by decide) ?_
    refine v_istore (lv' := [(6, .int (nI 0)), (5, .int (nI ((((t + 8) - 1) / 8) * 8))), (4, .int (nI ((b / 8) * 8))), (3, .int (nI 8)), (0, .ref mo), (1, .int (nI b)), (2, .int (nI t))]) dX8_rounds_42 (by decide) rfl ?_
    refine v_aload_n dX8_rounds_44 rfl 4 rfl ?_
    refine v_iload dX8_rounds_45 0 rfl ?_
    refine n_if_eq (a := 0) (tgt := 55) dX8_rounds_47 (by decide) (by decide) (fun _ => ?_) (fun c => absurd c (by decide))
    refine v_aload_n dX8_rounds_55 rfl 4 rfl ?_
    refine v_get (ref := "SealhouseModel") (C := RX8) (T := TX8) (N := 20) 0 17 dX8_rounds_56 rfl rfl gin_X8 (by decide) kw_1021 rfl rfl ?_
    refine v_put (ref := "SealhouseModel") (C := RX8) (T := TX8) (N := 20) (ty0 := tyX8) (t := tyX8 17) (ws' := [(mo, .inr (6, [.int (nI (zX y)), .ref m1, .ref m2, .ref m3, .ref m4, .ref m5, .ref m6, .int (nI (zD y)), .ref m8, .ref m9, .ref m10, .ref m11, .ref m12, .ref m13, .ref m14, .ref m15, .ref m16, .int (nI ((b / 16) * 16)), .int (nI ((((t + 16) - 1) / 16) * 16)), .ref m19])), (m1, .inl (G.2.1 3, 160, .inl (fun j9 => bI ((zI y) j9)))), (m2, .inl (G.2.1 1, 160, .inl (zN y))), (m3, .inl (G.2.1 1, 160, .inl (fun j9 => nI ((zB y) j9)))), (m4, .inl (G.2.1 1, 160, .inl (fun j9 => nI ((zT y) j9)))), (m5, .inl (G.2.1 1, 160, .inl (fun j9 => nI ((zP y) j9)))), (m6, .inl (G.2.1 1, 160, .inl (fun j9 => nI ((zS y) j9)))), (m8, .inl (G.2.1 1, 8, .inl (fun j9 => nI ((zR y) j9)))), (m9, .inl (G.2.1 1, 4, .inl (fun j9 => nI ((zQ y) j9)))), (m10, .inl (G.2.1 0, 96, .inl (fun j9 => nI ((zA y) j9)))), (m11, .inl (G.2.1 1, 96, .inl (fun j9 => nI ((zO y) j9)))), (m12, .inl (G.2.1 1, 96, .inl (fun j9 => nI ((zF y) j9)))), (m13, .inl (G.2.1 1, 96, .inl (fun j9 => nI ((zM y) j9)))), (m14, .inl (G.2.1 3, 96, .inl (fun j9 => bI ((zE y) j9)))), (m15, .inl (G.2.1 3, 384, .inl (fun j9 => bI ((zV y) j9)))), (m16, .inl (G.2.1 1, 9, .inl (fun j9 => nI ((zK y) j9)))), (m19, .inl (G.2.1 3, 96, .inl (fun j9 => bI ((zG y) j9))))]) 0 17 dX8_rounds_59 rfl rfl gin_X8 tyX8_ok nmX8 (by decide) kw_1021 rfl rfl (by decide +kernel) rfl rfl (Nat.le_of_ble_eq_true rfl) rfl ?_
    refine v_aload_n dX8_rounds_62 rfl 4 rfl ?_
    refine v_iload dX8_rounds_63 0 rfl ?_
    refine n_if_eq (a := 0) (tgt := 73) dX8_rounds_65 (by decide) (by decide) (fun _ => ?_) (fun c => absurd c (by decide))
    refine v_aload_n dX8_rounds_73 rfl 4 rfl ?_
    refine v_get (ref := "SealhouseModel") (C := RX8) (T := TX8) (N := 20) 0 18 dX8_rounds_74 rfl rfl gin_X8 (by decide) kw_1022 rfl rfl ?_
    refine v_put (ref := "SealhouseModel") (C := RX8) (T := TX8) (N := 20) (ty0 := tyX8) (t := tyX8 18) (ws' := [(mo, .inr (6, [.int (nI (zX y)), .ref m1, .ref m2, .ref m3, .ref m4, .ref m5, .ref m6, .int (nI (zD y)), .ref m8, .ref m9, .ref m10, .ref m11, .ref m12, .ref m13, .ref m14, .ref m15, .ref m16, .int (nI ((b / 16) * 16)), .int (nI ((((t + 16) - 1) / 16) * 16)), .ref m19])), (m1, .inl (G.2.1 3, 160, .inl (fun j9 => bI ((zI y) j9)))), (m2, .inl (G.2.1 1, 160, .inl (zN y))), (m3, .inl (G.2.1 1, 160, .inl (fun j9 => nI ((zB y) j9)))), (m4, .inl (G.2.1 1, 160, .inl (fun j9 => nI ((zT y) j9)))), (m5, .inl (G.2.1 1, 160, .inl (fun j9 => nI ((zP y) j9)))), (m6, .inl (G.2.1 1, 160, .inl (fun j9 => nI ((zS y) j9)))), (m8, .inl (G.2.1 1, 8, .inl (fun j9 => nI ((zR y) j9)))), (m9, .inl (G.2.1 1, 4, .inl (fun j9 => nI ((zQ y) j9)))), (m10, .inl (G.2.1 0, 96, .inl (fun j9 => nI ((zA y) j9)))), (m11, .inl (G.2.1 1, 96, .inl (fun j9 => nI ((zO y) j9)))), (m12, .inl (G.2.1 1, 96, .inl (fun j9 => nI ((zF y) j9)))), (m13, .inl (G.2.1 1, 96, .inl (fun j9 => nI ((zM y) j9)))), (m14, .inl (G.2.1 3, 96, .inl (fun j9 => bI ((zE y) j9)))), (m15, .inl (G.2.1 3, 384, .inl (fun j9 => bI ((zV y) j9)))), (m16, .inl (G.2.1 1, 9, .inl (fun j9 => nI ((zK y) j9)))), (m19, .inl (G.2.1 3, 96, .inl (fun j9 => bI ((zG y) j9))))]) 0 18 dX8_rounds_77 rfl rfl gin_X8 tyX8_ok nmX8 (by decide) kw_1022 rfl rfl (by decide +kernel) rfl rfl (Nat.le_of_ble_eq_true rfl) rfl ?_
    refine v_iload_n dX8_rounds_80 rfl 3 rfl ?_
    refine v_iconst (v := nI 2) dX8_rounds_81 (by decide) ?_
    refine n_idiv (a := 8) (b := 2) (z := 4) dX8_rounds_82 (by decide) (by omega) (by decide) rfl ?_
    refine v_istore_n (lv' := [(3, .int (nI 4)), (6, .int (nI 0)), (5, .int (nI ((((t + 8) - 1) / 8) * 8))), (4, .int (nI ((b / 8) * 8))), (0, .ref mo), (1, .int (nI b)), (2, .int (nI t))]) dX8_rounds_83 rfl (by decide) rfl ?_
    refine v_goto (tgt := 3) dX8_rounds_84 (by decide) ?_
    refine v_iload_n dX8_rounds_3 rfl 0 rfl ?_
    refine n_if_le (a := 4) (tgt := 87) dX8_rounds_4 (by decide) (by decide) (fun c => absurd c (by decide)) (fun _ => ?_)
    refine v_iload_n dX8_rounds_7 rfl 5 rfl ?_
    refine v_iload_n dX8_rounds_8 rfl 0 rfl ?_
    refine n_idiv (a := b) (b := 4) (z := b / 4) dX8_rounds_9 (by decide) (by omega) (by decide) rfl ?_
    refine v_iload_n dX8_rounds_10 rfl 0 rfl ?_
    refine n_imul (a := b / 4) (b := 4) (z := (b / 4) * 4) dX8_rounds_11 rfl ?_
    refine v_istore (lv' := [(4, .int (nI ((b / 4) * 4))), (3, .int (nI 4)), (6, .int (nI 0)), (5, .int (nI ((((t + 8) - 1) / 8) * 8))), (0, .ref mo), (1, .int (nI b)), (2, .int (nI t))]) dX8_rounds_12 (by decide) rfl ?_
    have hd4 : b / 4 * 4 ≤ b := Nat.div_mul_le_self b 4
    have hu4 : t ≤ (t + 4 - 1) / 4 * 4 := le_up (n := t) (u := 4) (by decide)
    have hv4 : (t + 4 - 1) / 4 * 4 < t + 4 := up_lt t 4 (by decide)
    refine v_iload_n dX8_rounds_14 rfl 6 rfl ?_
    refine v_iload_n dX8_rounds_15 rfl 1 rfl ?_
    refine n_iadd (a := t) (b := 4) (z := t + 4) dX8_rounds_16 rfl ?_
    refine v_iconst (v := nI 1) dX8_rounds_17 (by decide) ?_
    refine n_isub (a := t + 4) (b := 1) (z := (t + 4) - 1) dX8_rounds_18 (by omega) ?_
    refine v_iload_n dX8_rounds_19 rfl 1 rfl ?_
    refine n_idiv (a := (t + 4) - 1) (b := 4) (z := ((t + 4) - 1) / 4) dX8_rounds_20 (by decide) (by omega) (by decide) rfl ?_
    refine v_iload_n dX8_rounds_21 rfl 1 rfl ?_
    refine n_imul (a := ((t + 4) - 1) / 4) (b := 4) (z := (((t + 4) - 1) / 4) * 4) dX8_rounds_22 rfl ?_
    refine v_istore (lv' := [(5, .int (nI ((((t + 4) - 1) / 4) * 4))), (4, .int (nI ((b / 4) * 4))), (3, .int (nI 4)), (6, .int (nI 0)), (0, .ref mo), (1, .int (nI b)), (2, .int (nI t))]) dX8_rounds_23 (by decide) rfl ?_
    refine v_iload dX8_rounds_25 0 rfl ?_
    refine v_iload dX8_rounds_27 1 rfl ?_
    refine n_isub (a := (((t + 4) - 1) / 4) * 4) (b := (b / 4) * 4) (z := ((((t + 4) - 1) / 4) * 4) - ((b / 4) * 4)) dX8_rounds_29 (by omega) ?_
    refine v_bipush (v := nI 8) dX8_rounds_30 (by decide) ?_
    refine v_iload_n dX8_rounds_32 rfl 2 rfl ?_
    refine n_imul (a := 8) (b := 4) (z := 32) dX8_rounds_33 rfl ?_
    refine n_icmp_gt (a := ((((t + 4) - 1) / 4) * 4) - ((b / 4) * 4)) (b := 32) (tgt := 41) dX8_rounds_34 (by decide) (by omega) (by omega) (fun c34 => ?_) (fun c34 => ?_)
    ·
      refine v_iconst (v := nI 0) dX8_rounds_41 (by decide) ?_
      refine v_istore (lv' := [(6, .int (nI 0)), (5, .int (nI ((((t + 4) - 1) / 4) * 4))), (4, .int (nI ((b / 4) * 4))), (3, .int (nI 4)), (0, .ref mo), (1, .int (nI b)), (2, .int (nI t))]) dX8_rounds_42 (by decide) rfl ?_
      refine v_aload_n dX8_rounds_44 rfl 4 rfl ?_
      refine v_iload dX8_rounds_45 0 rfl ?_
      refine n_if_eq (a := 0) (tgt := 55) dX8_rounds_47 (by decide) (by decide) (fun _ => ?_) (fun c => absurd c (by decide))
      refine v_aload_n dX8_rounds_55 rfl 4 rfl ?_
      refine v_get (ref := "SealhouseModel") (C := RX8) (T := TX8) (N := 20) 0 17 dX8_rounds_56 rfl rfl gin_X8 (by decide) kw_1021 rfl rfl ?_
      refine v_put (ref := "SealhouseModel") (C := RX8) (T := TX8) (N := 20) (ty0 := tyX8) (t := tyX8 17) (ws' := [(mo, .inr (6, [.int (nI (zX y)), .ref m1, .ref m2, .ref m3, .ref m4, .ref m5, .ref m6, .int (nI (zD y)), .ref m8, .ref m9, .ref m10, .ref m11, .ref m12, .ref m13, .ref m14, .ref m15, .ref m16, .int (nI ((b / 16) * 16)), .int (nI ((((t + 16) - 1) / 16) * 16)), .ref m19])), (m1, .inl (G.2.1 3, 160, .inl (fun j9 => bI ((zI y) j9)))), (m2, .inl (G.2.1 1, 160, .inl (zN y))), (m3, .inl (G.2.1 1, 160, .inl (fun j9 => nI ((zB y) j9)))), (m4, .inl (G.2.1 1, 160, .inl (fun j9 => nI ((zT y) j9)))), (m5, .inl (G.2.1 1, 160, .inl (fun j9 => nI ((zP y) j9)))), (m6, .inl (G.2.1 1, 160, .inl (fun j9 => nI ((zS y) j9)))), (m8, .inl (G.2.1 1, 8, .inl (fun j9 => nI ((zR y) j9)))), (m9, .inl (G.2.1 1, 4, .inl (fun j9 => nI ((zQ y) j9)))), (m10, .inl (G.2.1 0, 96, .inl (fun j9 => nI ((zA y) j9)))), (m11, .inl (G.2.1 1, 96, .inl (fun j9 => nI ((zO y) j9)))), (m12, .inl (G.2.1 1, 96, .inl (fun j9 => nI ((zF y) j9)))), (m13, .inl (G.2.1 1, 96, .inl (fun j9 => nI ((zM y) j9)))), (m14, .inl (G.2.1 3, 96, .inl (fun j9 => bI ((zE y) j9)))), (m15, .inl (G.2.1 3, 384, .inl (fun j9 => bI ((zV y) j9)))), (m16, .inl (G.2.1 1, 9, .inl (fun j9 => nI ((zK y) j9)))), (m19, .inl (G.2.1 3, 96, .inl (fun j9 => bI ((zG y) j9))))]) 0 17 dX8_rounds_59 rfl rfl gin_X8 tyX8_ok nmX8 (by decide) kw_1021 rfl rfl (by decide +kernel) rfl rfl (Nat.le_of_ble_eq_true rfl) rfl ?_
      refine v_aload_n dX8_rounds_62 rfl 4 rfl ?_
      refine v_iload dX8_rounds_63 0 rfl ?_
      refine n_if_eq (a := 0) (tgt := 73) dX8_rounds_65 (by decide) (by decide) (fun _ => ?_) (fun c => absurd c (by decide))
      refine v_aload_n dX8_rounds_73 rfl 4 rfl ?_
      refine v_get (ref := "SealhouseModel") (C := RX8) (T := TX8) (N := 20) 0 18 dX8_rounds_74 rfl rfl gin_X8 (by decide) kw_1022 rfl rfl ?_
      refine v_put (ref := "SealhouseModel") (C := RX8) (T := TX8) (N := 20) (ty0 := tyX8) (t := tyX8 18) (ws' := [(mo, .inr (6, [.int (nI (zX y)), .ref m1, .ref m2, .ref m3, .ref m4, .ref m5, .ref m6, .int (nI (zD y)), .ref m8, .ref m9, .ref m10, .ref m11, .ref m12, .ref m13, .ref m14, .ref m15, .ref m16, .int (nI ((b / 16) * 16)), .int (nI ((((t + 16) - 1) / 16) * 16)), .ref m19])), (m1, .inl (G.2.1 3, 160, .inl (fun j9 => bI ((zI y) j9)))), (m2, .inl (G.2.1 1, 160, .inl (zN y))), (m3, .inl (G.2.1 1, 160, .inl (fun j9 => nI ((zB y) j9)))), (m4, .inl (G.2.1 1, 160, .inl (fun j9 => nI ((zT y) j9)))), (m5, .inl (G.2.1 1, 160, .inl (fun j9 => nI ((zP y) j9)))), (m6, .inl (G.2.1 1, 160, .inl (fun j9 => nI ((zS y) j9)))), (m8, .inl (G.2.1 1, 8, .inl (fun j9 => nI ((zR y) j9)))), (m9, .inl (G.2.1 1, 4, .inl (fun j9 => nI ((zQ y) j9)))), (m10, .inl (G.2.1 0, 96, .inl (fun j9 => nI ((zA y) j9)))), (m11, .inl (G.2.1 1, 96, .inl (fun j9 => nI ((zO y) j9)))), (m12, .inl (G.2.1 1, 96, .inl (fun j9 => nI ((zF y) j9)))), (m13, .inl (G.2.1 1, 96, .inl (fun j9 => nI ((zM y) j9)))), (m14, .inl (G.2.1 3, 96, .inl (fun j9 => bI ((zE y) j9)))), (m15, .inl (G.2.1 3, 384, .inl (fun j9 => bI ((zV y) j9)))), (m16, .inl (G.2.1 1, 9, .inl (fun j9 => nI ((zK y) j9)))), (m19, .inl (G.2.1 3, 96, .inl (fun j9 => bI ((zG y) j9))))]) 0 18 dX8_rounds_77 rfl rfl gin_X8 tyX8_ok nmX8 (by decide) kw_1022 rfl rfl (by decide +kernel) rfl rfl (Nat.le_of_ble_eq_true rfl) rfl ?_
      refine v_iload_n dX8_rounds_80 rfl 3 rfl ?_
      refine v_iconst (v := nI 2) dX8_rounds_81 (by decide) ?_
      refine n_idiv (a := 4) (b := 2) (z := 2) dX8_rounds_82 (by decide) (by omega) (by decide) rfl ?_
      refine v_istore_n (lv' := [(3, .int (nI 2)), (6, .int (nI 0)), (5, .int (nI ((((t + 4) - 1) / 4) * 4))), (4, .int (nI ((b / 4) * 4))), (0, .ref mo), (1, .int (nI b)), (2, .int (nI t))]) dX8_rounds_83 rfl (by decide) rfl ?_
      refine v_goto (tgt := 3) dX8_rounds_84 (by decide) ?_
      refine v_iload_n dX8_rounds_3 rfl 0 rfl ?_
      refine n_if_le (a := 2) (tgt := 87) dX8_rounds_4 (by decide) (by decide) (fun c => absurd c (by decide)) (fun _ => ?_)
      refine v_iload_n dX8_rounds_7 rfl 5 rfl ?_
      refine v_iload_n dX8_rounds_8 rfl 0 rfl ?_
      refine n_idiv (a := b) (b := 2) (z := b / 2) dX8_rounds_9 (by decide) (by omega) (by decide) rfl ?_
      refine v_iload_n dX8_rounds_10 rfl 0 rfl ?_
      refine n_imul (a := b / 2) (b := 2) (z := (b / 2) * 2) dX8_rounds_11 rfl ?_
      refine v_istore (lv' := [(4, .int (nI ((b / 2) * 2))), (3, .int (nI 2)), (6, .int (nI 0)), (5, .int (nI ((((t + 4) - 1) / 4) * 4))), (0, .ref mo), (1, .int (nI b)), (2, .int (nI t))]) dX8_rounds_12 (by decide) rfl ?_
      have hd2 : b / 2 * 2 ≤ b := Nat.div_mul_le_self b 2
      have hu2 : t ≤ (t + 2 - 1) / 2 * 2 := le_up (n := t) (u := 2) (by decide)
      have hv2 : (t + 2 - 1) / 2 * 2 < t + 2 := up_lt t 2 (by decide)
      refine v_iload_n dX8_rounds_14 rfl 6 rfl ?_
      refine v_iload_n dX8_rounds_15 rfl 1 rfl ?_
      refine n_iadd (a := t) (b := 2) (z := t + 2) dX8_rounds_16 rfl ?_
      refine v_iconst (v := nI 1) dX8_rounds_17 (by decide) ?_
      refine n_isub (a := t + 2) (b := 1) (z := (t + 2) - 1) dX8_rounds_18 (by omega) ?_
      refine v_iload_n dX8_rounds_19 rfl 1 rfl ?_
      refine n_idiv (a := (t + 2) - 1) (b := 2) (z := ((t + 2) - 1) / 2) dX8_rounds_20 (by decide) (by omega) (by decide) rfl ?_
      refine v_iload_n dX8_rounds_21 rfl 1 rfl ?_
      refine n_imul (a := ((t + 2) - 1) / 2) (b := 2) (z := (((t + 2) - 1) / 2) * 2) dX8_rounds_22 rfl ?_
      refine v_istore (lv' := [(5, .int (nI ((((t + 2) - 1) / 2) * 2))), (4, .int (nI ((b / 2) * 2))), (3, .int (nI 2)), (6, .int (nI 0)), (0, .ref mo), (1, .int (nI b)), (2, .int (nI t))]) dX8_rounds_23 (by decide) rfl ?_
      refine v_iload dX8_rounds_25 0 rfl ?_
      refine v_iload dX8_rounds_27 1 rfl ?_
      refine n_isub (a := (((t + 2) - 1) / 2) * 2) (b := (b / 2) * 2) (z := ((((t + 2) - 1) / 2) * 2) - ((b / 2) * 2)) dX8_rounds_29 (by omega) ?_
      refine v_bipush (v := nI 8) dX8_rounds_30 (by decide) ?_
      refine v_iload_n dX8_rounds_32 rfl 2 rfl ?_
      refine n_imul (a := 8) (b := 2) (z := 16) dX8_rounds_33 rfl ?_
      refine n_icmp_gt (a := ((((t + 2) - 1) / 2) * 2) - ((b / 2) * 2)) (b := 16) (tgt := 41) dX8_rounds_34 (by decide) (by omega) (by omega) (fun c34 => ?_) (fun c34 => ?_)
      ·
        refine v_iconst (v := nI 0) dX8_rounds_41 (by decide) ?_
        refine v_istore (lv' := [(6, .int (nI 0)), (5, .int (nI ((((t + 2) - 1) / 2) * 2))), (4, .int (nI ((b / 2) * 2))), (3, .int (nI 2)), (0, .ref mo), (1, .int (nI b)), (2, .int (nI t))]) dX8_rounds_42 (by decide) rfl ?_
        refine v_aload_n dX8_rounds_44 rfl 4 rfl ?_
        refine v_iload dX8_rounds_45 0 rfl ?_
        refine n_if_eq (a := 0) (tgt := 55) dX8_rounds_47 (by decide) (by decide) (fun _ => ?_) (fun c => absurd c (by decide))
        refine v_aload_n dX8_rounds_55 rfl 4 rfl ?_
        refine v_get (ref := "SealhouseModel") (C := RX8) (T := TX8) (N := 20) 0 17 dX8_rounds_56 rfl rfl gin_X8 (by decide) kw_1021 rfl rfl ?_
        refine v_put (ref := "SealhouseModel") (C := RX8) (T := TX8) (N := 20) (ty0 := tyX8) (t := tyX8 17) (ws' := [(mo, .inr (6, [.int (nI (zX y)), .ref m1, .ref m2, .ref m3, .ref m4, .ref m5, .ref m6, .int (nI (zD y)), .ref m8, .ref m9, .ref m10, .ref m11, .ref m12, .ref m13, .ref m14, .ref m15, .ref m16, .int (nI ((b / 16) * 16)), .int (nI ((((t + 16) - 1) / 16) * 16)), .ref m19])), (m1, .inl (G.2.1 3, 160, .inl (fun j9 => bI ((zI y) j9)))), (m2, .inl (G.2.1 1, 160, .inl (zN y))), (m3, .inl (G.2.1 1, 160, .inl (fun j9 => nI ((zB y) j9)))), (m4, .inl (G.2.1 1, 160, .inl (fun j9 => nI ((zT y) j9)))), (m5, .inl (G.2.1 1, 160, .inl (fun j9 => nI ((zP y) j9)))), (m6, .inl (G.2.1 1, 160, .inl (fun j9 => nI ((zS y) j9)))), (m8, .inl (G.2.1 1, 8, .inl (fun j9 => nI ((zR y) j9)))), (m9, .inl (G.2.1 1, 4, .inl (fun j9 => nI ((zQ y) j9)))), (m10, .inl (G.2.1 0, 96, .inl (fun j9 => nI ((zA y) j9)))), (m11, .inl (G.2.1 1, 96, .inl (fun j9 => nI ((zO y) j9)))), (m12, .inl (G.2.1 1, 96, .inl (fun j9 => nI ((zF y) j9)))), (m13, .inl (G.2.1 1, 96, .inl (fun j9 => nI ((zM y) j9)))), (m14, .inl (G.2.1 3, 96, .inl (fun j9 => bI ((zE y) j9)))), (m15, .inl (G.2.1 3, 384, .inl (fun j9 => bI ((zV y) j9)))), (m16, .inl (G.2.1 1, 9, .inl (fun j9 => nI ((zK y) j9)))), (m19, .inl (G.2.1 3, 96, .inl (fun j9 => bI ((zG y) j9))))]) 0 17 dX8_rounds_59 rfl rfl gin_X8 tyX8_ok nmX8 (by decide) kw_1021 rfl rfl (by decide +kernel) rfl rfl (Nat.le_of_ble_eq_true rfl) rfl ?_
        refine v_aload_n dX8_rounds_62 rfl 4 rfl ?_
        refine v_iload dX8_rounds_63 0 rfl ?_
        refine n_if_eq (a := 0) (tgt := 73) dX8_rounds_65 (by decide) (by decide) (fun _ => ?_) (fun c => absurd c (by decide))
        refine v_aload_n dX8_rounds_73 rfl 4 rfl ?_
        refine v_get (ref := "SealhouseModel") (C := RX8) (T := TX8) (N := 20) 0 18 dX8_rounds_74 rfl rfl gin_X8 (by decide) kw_1022 rfl rfl ?_
        refine v_put (ref := "SealhouseModel") (C := RX8) (T := TX8) (N := 20) (ty0 := tyX8) (t := tyX8 18) (ws' := [(mo, .inr (6, [.int (nI (zX y)), .ref m1, .ref m2, .ref m3, .ref m4, .ref m5, .ref m6, .int (nI (zD y)), .ref m8, .ref m9, .ref m10, .ref m11, .ref m12, .ref m13, .ref m14, .ref m15, .ref m16, .int (nI ((b / 16) * 16)), .int (nI ((((t + 16) - 1) / 16) * 16)), .ref m19])), (m1, .inl (G.2.1 3, 160, .inl (fun j9 => bI ((zI y) j9)))), (m2, .inl (G.2.1 1, 160, .inl (zN y))), (m3, .inl (G.2.1 1, 160, .inl (fun j9 => nI ((zB y) j9)))), (m4, .inl (G.2.1 1, 160, .inl (fun j9 => nI ((zT y) j9)))), (m5, .inl (G.2.1 1, 160, .inl (fun j9 => nI ((zP y) j9)))), (m6, .inl (G.2.1 1, 160, .inl (fun j9 => nI ((zS y) j9)))), (m8, .inl (G.2.1 1, 8, .inl (fun j9 => nI ((zR y) j9)))), (m9, .inl (G.2.1 1, 4, .inl (fun j9 => nI ((zQ y) j9)))), (m10, .inl (G.2.1 0, 96, .inl (fun j9 => nI ((zA y) j9)))), (m11, .inl (G.2.1 1, 96, .inl (fun j9 => nI ((zO y) j9)))), (m12, .inl (G.2.1 1, 96, .inl (fun j9 => nI ((zF y) j9)))), (m13, .inl (G.2.1 1, 96, .inl (fun j9 => nI ((zM y) j9)))), (m14, .inl (G.2.1 3, 96, .inl (fun j9 => bI ((zE y) j9)))), (m15, .inl (G.2.1 3, 384, .inl (fun j9 => bI ((zV y) j9)))), (m16, .inl (G.2.1 1, 9, .inl (fun j9 => nI ((zK y) j9)))), (m19, .inl (G.2.1 3, 96, .inl (fun j9 => bI ((zG y) j9))))]) 0 18 dX8_rounds_77 rfl rfl gin_X8 tyX8_ok nmX8 (by decide) kw_1022 rfl rfl (by decide +kernel) rfl rfl (Nat.le_of_ble_eq_true rfl) rfl ?_
        refine v_iload_n dX8_rounds_80 rfl 3 rfl ?_
        refine v_iconst (v := nI 2) dX8_rounds_81 (by decide) ?_
        refine n_idiv (a := 2) (b := 2) (z := 1) dX8_rounds_82 (by decide) (by omega) (by decide) rfl ?_
        refine v_istore_n (lv' := [(3, .int (nI 1)), (6, .int (nI 0)), (5, .int (nI ((((t + 2) - 1) / 2) * 2))), (4, .int (nI ((b / 2) * 2))), (0, .ref mo), (1, .int (nI b)), (2, .int (nI t))]) dX8_rounds_83 rfl (by decide) rfl ?_
        refine v_goto (tgt := 3) dX8_rounds_84 (by decide) ?_
        refine v_iload_n dX8_rounds_3 rfl 0 rfl ?_
        refine n_if_le (a := 1) (tgt := 87) dX8_rounds_4 (by decide) (by decide) (fun c => absurd c (by decide)) (fun _ => ?_)
        refine v_iload_n dX8_rounds_7 rfl 5 rfl ?_
        refine v_iload_n dX8_rounds_8 rfl 0 rfl ?_
        refine n_idiv (a := b) (b := 1) (z := b / 1) dX8_rounds_9 (by decide) (by omega) (by decide) rfl ?_
        refine v_iload_n dX8_rounds_10 rfl 0 rfl ?_
        refine n_imul (a := b / 1) (b := 1) (z := (b / 1) * 1) dX8_rounds_11 rfl ?_
        refine v_istore (lv' := [(4, .int (nI ((b / 1) * 1))), (3, .int (nI 1)), (6, .int (nI 0)), (5, .int (nI ((((t + 2) - 1) / 2) * 2))), (0, .ref mo), (1, .int (nI b)), (2, .int (nI t))]) dX8_rounds_12 (by decide) rfl ?_
        have hd1 : b / 1 * 1 ≤ b := Nat.div_mul_le_self b 1
        have hu1 : t ≤ (t + 1 - 1) / 1 * 1 := le_up (n := t) (u := 1) (by decide)
        have hv1 : (t + 1 - 1) / 1 * 1 < t + 1 := up_lt t 1 (by decide)
        refine v_iload_n dX8_rounds_14 rfl 6 rfl ?_
        refine v_iload_n dX8_rounds_15 rfl 1 rfl ?_
        refine n_iadd (a := t) (b := 1) (z := t + 1) dX8_rounds_16 rfl ?_
        refine v_iconst (v := nI 1) dX8_rounds_17 (by decide) ?_
        refine n_isub (a := t + 1) (b := 1) (z := (t + 1) - 1) dX8_rounds_18 (by omega) ?_
        refine v_iload_n dX8_rounds_19 rfl 1 rfl ?_
        refine n_idiv (a := (t + 1) - 1) (b := 1) (z := ((t + 1) - 1) / 1) dX8_rounds_20 (by decide) (by omega) (by decide) rfl ?_
        refine v_iload_n dX8_rounds_21 rfl 1 rfl ?_
        refine n_imul (a := ((t + 1) - 1) / 1) (b := 1) (z := (((t + 1) - 1) / 1) * 1) dX8_rounds_22 rfl ?_
        refine v_istore (lv' := [(5, .int (nI ((((t + 1) - 1) / 1) * 1))), (4, .int (nI ((b / 1) * 1))), (3, .int (nI 1)), (6, .int (nI 0)), (0, .ref mo), (1, .int (nI b)), (2, .int (nI t))]) dX8_rounds_23 (by decide) rfl ?_
        refine v_iload dX8_rounds_25 0 rfl ?_
        refine v_iload dX8_rounds_27 1 rfl ?_
        refine n_isub (a := (((t + 1) - 1) / 1) * 1) (b := (b / 1) * 1) (z := ((((t + 1) - 1) / 1) * 1) - ((b / 1) * 1)) dX8_rounds_29 (by omega) ?_
        refine v_bipush (v := nI 8) dX8_rounds_30 (by decide) ?_
        refine v_iload_n dX8_rounds_32 rfl 2 rfl ?_
        refine n_imul (a := 8) (b := 1) (z := 8) dX8_rounds_33 rfl ?_
        refine n_icmp_gt (a := ((((t + 1) - 1) / 1) * 1) - ((b / 1) * 1)) (b := 8) (tgt := 41) dX8_rounds_34 (by decide) (by omega) (by omega) (fun c34 => ?_) (fun c34 => ?_)
        ·
          refine v_iconst (v := nI 0) dX8_rounds_41 (by decide) ?_
          refine v_istore (lv' := [(6, .int (nI 0)), (5, .int (nI ((((t + 1) - 1) / 1) * 1))), (4, .int (nI ((b / 1) * 1))), (3, .int (nI 1)), (0, .ref mo), (1, .int (nI b)), (2, .int (nI t))]) dX8_rounds_42 (by decide) rfl ?_
          refine v_aload_n dX8_rounds_44 rfl 4 rfl ?_
          refine v_iload dX8_rounds_45 0 rfl ?_
          refine n_if_eq (a := 0) (tgt := 55) dX8_rounds_47 (by decide) (by decide) (fun _ => ?_) (fun c => absurd c (by decide))
          refine v_aload_n dX8_rounds_55 rfl 4 rfl ?_
          refine v_get (ref := "SealhouseModel") (C := RX8) (T := TX8) (N := 20) 0 17 dX8_rounds_56 rfl rfl gin_X8 (by decide) kw_1021 rfl rfl ?_
          refine v_put (ref := "SealhouseModel") (C := RX8) (T := TX8) (N := 20) (ty0 := tyX8) (t := tyX8 17) (ws' := [(mo, .inr (6, [.int (nI (zX y)), .ref m1, .ref m2, .ref m3, .ref m4, .ref m5, .ref m6, .int (nI (zD y)), .ref m8, .ref m9, .ref m10, .ref m11, .ref m12, .ref m13, .ref m14, .ref m15, .ref m16, .int (nI ((b / 16) * 16)), .int (nI ((((t + 16) - 1) / 16) * 16)), .ref m19])), (m1, .inl (G.2.1 3, 160, .inl (fun j9 => bI ((zI y) j9)))), (m2, .inl (G.2.1 1, 160, .inl (zN y))), (m3, .inl (G.2.1 1, 160, .inl (fun j9 => nI ((zB y) j9)))), (m4, .inl (G.2.1 1, 160, .inl (fun j9 => nI ((zT y) j9)))), (m5, .inl (G.2.1 1, 160, .inl (fun j9 => nI ((zP y) j9)))), (m6, .inl (G.2.1 1, 160, .inl (fun j9 => nI ((zS y) j9)))), (m8, .inl (G.2.1 1, 8, .inl (fun j9 => nI ((zR y) j9)))), (m9, .inl (G.2.1 1, 4, .inl (fun j9 => nI ((zQ y) j9)))), (m10, .inl (G.2.1 0, 96, .inl (fun j9 => nI ((zA y) j9)))), (m11, .inl (G.2.1 1, 96, .inl (fun j9 => nI ((zO y) j9)))), (m12, .inl (G.2.1 1, 96, .inl (fun j9 => nI ((zF y) j9)))), (m13, .inl (G.2.1 1, 96, .inl (fun j9 => nI ((zM y) j9)))), (m14, .inl (G.2.1 3, 96, .inl (fun j9 => bI ((zE y) j9)))), (m15, .inl (G.2.1 3, 384, .inl (fun j9 => bI ((zV y) j9)))), (m16, .inl (G.2.1 1, 9, .inl (fun j9 => nI ((zK y) j9)))), (m19, .inl (G.2.1 3, 96, .inl (fun j9 => bI ((zG y) j9))))]) 0 17 dX8_rounds_59 rfl rfl gin_X8 tyX8_ok nmX8 (by decide) kw_1021 rfl rfl (by decide +kernel) rfl rfl (Nat.le_of_ble_eq_true rfl) rfl ?_
          refine v_aload_n dX8_rounds_62 rfl 4 rfl ?_
          refine v_iload dX8_rounds_63 0 rfl ?_
          refine n_if_eq (a := 0) (tgt := 73) dX8_rounds_65 (by decide) (by decide) (fun _ => ?_) (fun c => absurd c (by decide))
          refine v_aload_n dX8_rounds_73 rfl 4 rfl ?_
          refine v_get (ref := "SealhouseModel") (C := RX8) (T := TX8) (N := 20) 0 18 dX8_rounds_74 rfl rfl gin_X8 (by decide) kw_1022 rfl rfl ?_
          refine v_put (ref := "SealhouseModel") (C := RX8) (T := TX8) (N := 20) (ty0 := tyX8) (t := tyX8 18) (ws' := [(mo, .inr (6, [.int (nI (zX y)), .ref m1, .ref m2, .ref m3, .ref m4, .ref m5, .ref m6, .int (nI (zD y)), .ref m8, .ref m9, .ref m10, .ref m11, .ref m12, .ref m13, .ref m14, .ref m15, .ref m16, .int (nI ((b / 16) * 16)), .int (nI ((((t + 16) - 1) / 16) * 16)), .ref m19])), (m1, .inl (G.2.1 3, 160, .inl (fun j9 => bI ((zI y) j9)))), (m2, .inl (G.2.1 1, 160, .inl (zN y))), (m3, .inl (G.2.1 1, 160, .inl (fun j9 => nI ((zB y) j9)))), (m4, .inl (G.2.1 1, 160, .inl (fun j9 => nI ((zT y) j9)))), (m5, .inl (G.2.1 1, 160, .inl (fun j9 => nI ((zP y) j9)))), (m6, .inl (G.2.1 1, 160, .inl (fun j9 => nI ((zS y) j9)))), (m8, .inl (G.2.1 1, 8, .inl (fun j9 => nI ((zR y) j9)))), (m9, .inl (G.2.1 1, 4, .inl (fun j9 => nI ((zQ y) j9)))), (m10, .inl (G.2.1 0, 96, .inl (fun j9 => nI ((zA y) j9)))), (m11, .inl (G.2.1 1, 96, .inl (fun j9 => nI ((zO y) j9)))), (m12, .inl (G.2.1 1, 96, .inl (fun j9 => nI ((zF y) j9)))), (m13, .inl (G.2.1 1, 96, .inl (fun j9 => nI ((zM y) j9)))), (m14, .inl (G.2.1 3, 96, .inl (fun j9 => bI ((zE y) j9)))), (m15, .inl (G.2.1 3, 384, .inl (fun j9 => bI ((zV y) j9)))), (m16, .inl (G.2.1 1, 9, .inl (fun j9 => nI ((zK y) j9)))), (m19, .inl (G.2.1 3, 96, .inl (fun j9 => bI ((zG y) j9))))]) 0 18 dX8_rounds_77 rfl rfl gin_X8 tyX8_ok nmX8 (by decide) kw_1022 rfl rfl (by decide +kernel) rfl rfl (Nat.le_of_ble_eq_true rfl) rfl ?_
          refine v_iload_n dX8_rounds_80 rfl 3 rfl ?_
          refine v_iconst (v := nI 2) dX8_rounds_81 (by decide) ?_
          refine n_idiv (a := 1) (b := 2) (z := 0) dX8_rounds_82 (by decide) (by omega) (by decide) rfl ?_
          refine v_istore_n (lv' := [(3, .int (nI 0)), (6, .int (nI 0)), (5, .int (nI ((((t + 1) - 1) / 1) * 1))), (4, .int (nI ((b / 1) * 1))), (0, .ref mo), (1, .int (nI b)), (2, .int (nI t))]) dX8_rounds_83 rfl (by decide) rfl ?_
          refine v_goto (tgt := 3) dX8_rounds_84 (by decide) ?_
          refine v_iload_n dX8_rounds_3 rfl 0 rfl ?_
          refine n_if_le (a := 0) (tgt := 87) dX8_rounds_4 (by decide) (by decide) (fun _ => ?_) (fun c => absurd c (by decide))
          exact v_vret hR dX8_rounds_87 (by refine ⟨rfl, ?_⟩; unfold rndY; first | (rw [unit_1 (by unfold dn up; omega)]; rfl) | (rw [unit_2 (by unfold dn up; omega) (by unfold dn up; omega)]; rfl) | (rw [unit_4 (by unfold dn up; omega) (by unfold dn up; omega) (by unfold dn up; omega)]; rfl) | (rw [unit_8 (by unfold dn up; omega) (by unfold dn up; omega) (by unfold dn up; omega) (by unfold dn up; omega)]; rfl) | (rw [unit_16 (by unfold dn up; omega) (by unfold dn up; omega) (by unfold dn up; omega) (by unfold dn up; omega)]; rfl))
        ·
          refine v_iconst (v := nI 1) dX8_rounds_37 (by decide) ?_
          refine v_goto (tgt := 42) dX8_rounds_38 (by decide) ?_
          refine v_istore (lv' := [(6, .int (nI 1)), (5, .int (nI ((((t + 1) - 1) / 1) * 1))), (4, .int (nI ((b / 1) * 1))), (3, .int (nI 1)), (0, .ref mo), (1, .int (nI b)), (2, .int (nI t))]) dX8_rounds_42 (by decide) rfl ?_
          refine v_aload_n dX8_rounds_44 rfl 4 rfl ?_
          refine v_iload dX8_rounds_45 0 rfl ?_
          refine n_if_eq (a := 1) (tgt := 55) dX8_rounds_47 (by decide) (by decide) (fun c => absurd c (by decide)) (fun _ => ?_)
          refine v_iload dX8_rounds_50 2 rfl ?_
          refine v_goto (tgt := 59) dX8_rounds_52 (by decide) ?_
          refine v_put (ref := "SealhouseModel") (C := RX8) (T := TX8) (N := 20) (ty0 := tyX8) (t := tyX8 17) (ws' := [(mo, .inr (6, [.int (nI (zX y)), .ref m1, .ref m2, .ref m3, .ref m4, .ref m5, .ref m6, .int (nI (zD y)), .ref m8, .ref m9, .ref m10, .ref m11, .ref m12, .ref m13, .ref m14, .ref m15, .ref m16, .int (nI ((b / 1) * 1)), .int (nI ((((t + 16) - 1) / 16) * 16)), .ref m19])), (m1, .inl (G.2.1 3, 160, .inl (fun j9 => bI ((zI y) j9)))), (m2, .inl (G.2.1 1, 160, .inl (zN y))), (m3, .inl (G.2.1 1, 160, .inl (fun j9 => nI ((zB y) j9)))), (m4, .inl (G.2.1 1, 160, .inl (fun j9 => nI ((zT y) j9)))), (m5, .inl (G.2.1 1, 160, .inl (fun j9 => nI ((zP y) j9)))), (m6, .inl (G.2.1 1, 160, .inl (fun j9 => nI ((zS y) j9)))), (m8, .inl (G.2.1 1, 8, .inl (fun j9 => nI ((zR y) j9)))), (m9, .inl (G.2.1 1, 4, .inl (fun j9 => nI ((zQ y) j9)))), (m10, .inl (G.2.1 0, 96, .inl (fun j9 => nI ((zA y) j9)))), (m11, .inl (G.2.1 1, 96, .inl (fun j9 => nI ((zO y) j9)))), (m12, .inl (G.2.1 1, 96, .inl (fun j9 => nI ((zF y) j9)))), (m13, .inl (G.2.1 1, 96, .inl (fun j9 => nI ((zM y) j9)))), (m14, .inl (G.2.1 3, 96, .inl (fun j9 => bI ((zE y) j9)))), (m15, .inl (G.2.1 3, 384, .inl (fun j9 => bI ((zV y) j9)))), (m16, .inl (G.2.1 1, 9, .inl (fun j9 => nI ((zK y) j9)))), (m19, .inl (G.2.1 3, 96, .inl (fun j9 => bI ((zG y) j9))))]) 0 17 dX8_rounds_59 rfl rfl gin_X8 tyX8_ok nmX8 (by decide) kw_1021 rfl rfl (by decide +kernel) rfl rfl (Nat.le_of_ble_eq_true rfl) rfl ?_
          refine v_aload_n dX8_rounds_62 rfl 4 rfl ?_
          refine v_iload dX8_rounds_63 0 rfl ?_
          refine n_if_eq (a := 1) (tgt := 73) dX8_rounds_65 (by decide) (by decide) (fun c => absurd c (by decide)) (fun _ => ?_)
          refine v_iload dX8_rounds_68 1 rfl ?_
          refine v_goto (tgt := 77) dX8_rounds_70 (by decide) ?_
          refine v_put (ref := "SealhouseModel") (C := RX8) (T := TX8) (N := 20) (ty0 := tyX8) (t := tyX8 18) (ws' := [(mo, .inr (6, [.int (nI (zX y)), .ref m1, .ref m2, .ref m3, .ref m4, .ref m5, .ref m6, .int (nI (zD y)), .ref m8, .ref m9, .ref m10, .ref m11, .ref m12, .ref m13, .ref m14, .ref m15, .ref m16, .int (nI ((b / 1) * 1)), .int (nI ((((t + 1) - 1) / 1) * 1)), .ref m19])), (m1, .inl (G.2.1 3, 160, .inl (fun j9 => bI ((zI y) j9)))), (m2, .inl (G.2.1 1, 160, .inl (zN y))), (m3, .inl (G.2.1 1, 160, .inl (fun j9 => nI ((zB y) j9)))), (m4, .inl (G.2.1 1, 160, .inl (fun j9 => nI ((zT y) j9)))), (m5, .inl (G.2.1 1, 160, .inl (fun j9 => nI ((zP y) j9)))), (m6, .inl (G.2.1 1, 160, .inl (fun j9 => nI ((zS y) j9)))), (m8, .inl (G.2.1 1, 8, .inl (fun j9 => nI ((zR y) j9)))), (m9, .inl (G.2.1 1, 4, .inl (fun j9 => nI ((zQ y) j9)))), (m10, .inl (G.2.1 0, 96, .inl (fun j9 => nI ((zA y) j9)))), (m11, .inl (G.2.1 1, 96, .inl (fun j9 => nI ((zO y) j9)))), (m12, .inl (G.2.1 1, 96, .inl (fun j9 => nI ((zF y) j9)))), (m13, .inl (G.2.1 1, 96, .inl (fun j9 => nI ((zM y) j9)))), (m14, .inl (G.2.1 3, 96, .inl (fun j9 => bI ((zE y) j9)))), (m15, .inl (G.2.1 3, 384, .inl (fun j9 => bI ((zV y) j9)))), (m16, .inl (G.2.1 1, 9, .inl (fun j9 => nI ((zK y) j9)))), (m19, .inl (G.2.1 3, 96, .inl (fun j9 => bI ((zG y) j9))))]) 0 18 dX8_rounds_77 rfl rfl gin_X8 tyX8_ok nmX8 (by decide) kw_1022 rfl rfl (by decide +kernel) rfl rfl (Nat.le_of_ble_eq_true rfl) rfl ?_
          refine v_iload_n dX8_rounds_80 rfl 3 rfl ?_
          refine v_iconst (v := nI 2) dX8_rounds_81 (by decide) ?_
          refine n_idiv (a := 1) (b := 2) (z := 0) dX8_rounds_82 (by decide) (by omega) (by decide) rfl ?_
          refine v_istore_n (lv' := [(3, .int (nI 0)), (6, .int (nI 1)), (5, .int (nI ((((t + 1) - 1) / 1) * 1))), (4, .int (nI ((b / 1) * 1))), (0, .ref mo), (1, .int (nI b)), (2, .int (nI t))]) dX8_rounds_83 rfl (by decide) rfl ?_
          refine v_goto (tgt := 3) dX8_rounds_84 (by decide) ?_
          refine v_iload_n dX8_rounds_3 rfl 0 rfl ?_
          refine n_if_le (a := 0) (tgt := 87) dX8_rounds_4 (by decide) (by decide) (fun _ => ?_) (fun c => absurd c (by decide))
          exact v_vret hR dX8_rounds_87 (by refine ⟨rfl, ?_⟩; unfold rndY; first | (rw [unit_1 (by unfold dn up; omega)]; rfl) | (rw [unit_2 (by unfold dn up; omega) (by unfold dn up; omega)]; rfl) | (rw [unit_4 (by unfold dn up; omega) (by unfold dn up; omega) (by unfold dn up; omega)]; rfl) | (rw [unit_8 (by unfold dn up; omega) (by unfold dn up; omega) (by unfold dn up; omega) (by unfold dn up; omega)]; rfl) | (rw [unit_16 (by unfold dn up; omega) (by unfold dn up; omega) (by unfold dn up; omega) (by unfold dn up; omega)]; rfl))
      ·
        refine v_iconst (v := nI 1) dX8_rounds_37 (by decide) ?_
        refine v_goto (tgt := 42) dX8_rounds_38 (by decide) ?_
        refine v_istore (lv' := [(6, .int (nI 1)), (5, .int (nI ((((t + 2) - 1) / 2) * 2))), (4, .int (nI ((b / 2) * 2))), (3, .int (nI 2)), (0, .ref mo), (1, .int (nI b)), (2, .int (nI t))]) dX8_rounds_42 (by decide) rfl ?_
        refine v_aload_n dX8_rounds_44 rfl 4 rfl ?_
        refine v_iload dX8_rounds_45 0 rfl ?_
        refine n_if_eq (a := 1) (tgt := 55) dX8_rounds_47 (by decide) (by decide) (fun c => absurd c (by decide)) (fun _ => ?_)
        refine v_iload dX8_rounds_50 2 rfl ?_
        refine v_goto (tgt := 59) dX8_rounds_52 (by decide) ?_
        refine v_put (ref := "SealhouseModel") (C := RX8) (T := TX8) (N := 20) (ty0 := tyX8) (t := tyX8 17) (ws' := [(mo, .inr (6, [.int (nI (zX y)), .ref m1, .ref m2, .ref m3, .ref m4, .ref m5, .ref m6, .int (nI (zD y)), .ref m8, .ref m9, .ref m10, .ref m11, .ref m12, .ref m13, .ref m14, .ref m15, .ref m16, .int (nI ((b / 2) * 2)), .int (nI ((((t + 16) - 1) / 16) * 16)), .ref m19])), (m1, .inl (G.2.1 3, 160, .inl (fun j9 => bI ((zI y) j9)))), (m2, .inl (G.2.1 1, 160, .inl (zN y))), (m3, .inl (G.2.1 1, 160, .inl (fun j9 => nI ((zB y) j9)))), (m4, .inl (G.2.1 1, 160, .inl (fun j9 => nI ((zT y) j9)))), (m5, .inl (G.2.1 1, 160, .inl (fun j9 => nI ((zP y) j9)))), (m6, .inl (G.2.1 1, 160, .inl (fun j9 => nI ((zS y) j9)))), (m8, .inl (G.2.1 1, 8, .inl (fun j9 => nI ((zR y) j9)))), (m9, .inl (G.2.1 1, 4, .inl (fun j9 => nI ((zQ y) j9)))), (m10, .inl (G.2.1 0, 96, .inl (fun j9 => nI ((zA y) j9)))), (m11, .inl (G.2.1 1, 96, .inl (fun j9 => nI ((zO y) j9)))), (m12, .inl (G.2.1 1, 96, .inl (fun j9 => nI ((zF y) j9)))), (m13, .inl (G.2.1 1, 96, .inl (fun j9 => nI ((zM y) j9)))), (m14, .inl (G.2.1 3, 96, .inl (fun j9 => bI ((zE y) j9)))), (m15, .inl (G.2.1 3, 384, .inl (fun j9 => bI ((zV y) j9)))), (m16, .inl (G.2.1 1, 9, .inl (fun j9 => nI ((zK y) j9)))), (m19, .inl (G.2.1 3, 96, .inl (fun j9 => bI ((zG y) j9))))]) 0 17 dX8_rounds_59 rfl rfl gin_X8 tyX8_ok nmX8 (by decide) kw_1021 rfl rfl (by decide +kernel) rfl rfl (Nat.le_of_ble_eq_true rfl) rfl ?_
        refine v_aload_n dX8_rounds_62 rfl 4 rfl ?_
        refine v_iload dX8_rounds_63 0 rfl ?_
        refine n_if_eq (a := 1) (tgt := 73) dX8_rounds_65 (by decide) (by decide) (fun c => absurd c (by decide)) (fun _ => ?_)
        refine v_iload dX8_rounds_68 1 rfl ?_
        refine v_goto (tgt := 77) dX8_rounds_70 (by decide) ?_
        refine v_put (ref := "SealhouseModel") (C := RX8) (T := TX8) (N := 20) (ty0 := tyX8) (t := tyX8 18) (ws' := [(mo, .inr (6, [.int (nI (zX y)), .ref m1, .ref m2, .ref m3, .ref m4, .ref m5, .ref m6, .int (nI (zD y)), .ref m8, .ref m9, .ref m10, .ref m11, .ref m12, .ref m13, .ref m14, .ref m15, .ref m16, .int (nI ((b / 2) * 2)), .int (nI ((((t + 2) - 1) / 2) * 2)), .ref m19])), (m1, .inl (G.2.1 3, 160, .inl (fun j9 => bI ((zI y) j9)))), (m2, .inl (G.2.1 1, 160, .inl (zN y))), (m3, .inl (G.2.1 1, 160, .inl (fun j9 => nI ((zB y) j9)))), (m4, .inl (G.2.1 1, 160, .inl (fun j9 => nI ((zT y) j9)))), (m5, .inl (G.2.1 1, 160, .inl (fun j9 => nI ((zP y) j9)))), (m6, .inl (G.2.1 1, 160, .inl (fun j9 => nI ((zS y) j9)))), (m8, .inl (G.2.1 1, 8, .inl (fun j9 => nI ((zR y) j9)))), (m9, .inl (G.2.1 1, 4, .inl (fun j9 => nI ((zQ y) j9)))), (m10, .inl (G.2.1 0, 96, .inl (fun j9 => nI ((zA y) j9)))), (m11, .inl (G.2.1 1, 96, .inl (fun j9 => nI ((zO y) j9)))), (m12, .inl (G.2.1 1, 96, .inl (fun j9 => nI ((zF y) j9)))), (m13, .inl (G.2.1 1, 96, .inl (fun j9 => nI ((zM y) j9)))), (m14, .inl (G.2.1 3, 96, .inl (fun j9 => bI ((zE y) j9)))), (m15, .inl (G.2.1 3, 384, .inl (fun j9 => bI ((zV y) j9)))), (m16, .inl (G.2.1 1, 9, .inl (fun j9 => nI ((zK y) j9)))), (m19, .inl (G.2.1 3, 96, .inl (fun j9 => bI ((zG y) j9))))]) 0 18 dX8_rounds_77 rfl rfl gin_X8 tyX8_ok nmX8 (by decide) kw_1022 rfl rfl (by decide +kernel) rfl rfl (Nat.le_of_ble_eq_true rfl) rfl ?_
        refine v_iload_n dX8_rounds_80 rfl 3 rfl ?_
        refine v_iconst (v := nI 2) dX8_rounds_81 (by decide) ?_
        refine n_idiv (a := 2) (b := 2) (z := 1) dX8_rounds_82 (by decide) (by omega) (by decide) rfl ?_
        refine v_istore_n (lv' := [(3, .int (nI 1)), (6, .int (nI 1)), (5, .int (nI ((((t + 2) - 1) / 2) * 2))), (4, .int (nI ((b / 2) * 2))), (0, .ref mo), (1, .int (nI b)), (2, .int (nI t))]) dX8_rounds_83 rfl (by decide) rfl ?_
        refine v_goto (tgt := 3) dX8_rounds_84 (by decide) ?_
        refine v_iload_n dX8_rounds_3 rfl 0 rfl ?_
        refine n_if_le (a := 1) (tgt := 87) dX8_rounds_4 (by decide) (by decide) (fun c => absurd c (by decide)) (fun _ => ?_)
        refine v_iload_n dX8_rounds_7 rfl 5 rfl ?_
        refine v_iload_n dX8_rounds_8 rfl 0 rfl ?_
        refine n_idiv (a := b) (b := 1) (z := b / 1) dX8_rounds_9 (by decide) (by omega) (by decide) rfl ?_
        refine v_iload_n dX8_rounds_10 rfl 0 rfl ?_
        refine n_imul (a := b / 1) (b := 1) (z := (b / 1) * 1) dX8_rounds_11 rfl ?_
        refine v_istore (lv' := [(4, .int (nI ((b / 1) * 1))), (3, .int (nI 1)), (6, .int (nI 1)), (5, .int (nI ((((t + 2) - 1) / 2) * 2))), (0, .ref mo), (1, .int (nI b)), (2, .int (nI t))]) dX8_rounds_12 (by decide) rfl ?_
        have hd1 : b / 1 * 1 ≤ b := Nat.div_mul_le_self b 1
        have hu1 : t ≤ (t + 1 - 1) / 1 * 1 := le_up (n := t) (u := 1) (by decide)
        have hv1 : (t + 1 - 1) / 1 * 1 < t + 1 := up_lt t 1 (by decide)
        refine v_iload_n dX8_rounds_14 rfl 6 rfl ?_
        refine v_iload_n dX8_rounds_15 rfl 1 rfl ?_
        refine n_iadd (a := t) (b := 1) (z := t + 1) dX8_rounds_16 rfl ?_
        refine v_iconst (v := nI 1) dX8_rounds_17 (by decide) ?_
        refine n_isub (a := t + 1) (b := 1) (z := (t + 1) - 1) dX8_rounds_18 (by omega) ?_
        refine v_iload_n dX8_rounds_19 rfl 1 rfl ?_
        refine n_idiv (a := (t + 1) - 1) (b := 1) (z := ((t + 1) - 1) / 1) dX8_rounds_20 (by decide) (by omega) (by decide) rfl ?_
        refine v_iload_n dX8_rounds_21 rfl 1 rfl ?_
        refine n_imul (a := ((t + 1) - 1) / 1) (b := 1) (z := (((t + 1) - 1) / 1) * 1) dX8_rounds_22 rfl ?_
        refine v_istore (lv' := [(5, .int (nI ((((t + 1) - 1) / 1) * 1))), (4, .int (nI ((b / 1) * 1))), (3, .int (nI 1)), (6, .int (nI 1)), (0, .ref mo), (1, .int (nI b)), (2, .int (nI t))]) dX8_rounds_23 (by decide) rfl ?_
        refine v_iload dX8_rounds_25 0 rfl ?_
        refine v_iload dX8_rounds_27 1 rfl ?_
        refine n_isub (a := (((t + 1) - 1) / 1) * 1) (b := (b / 1) * 1) (z := ((((t + 1) - 1) / 1) * 1) - ((b / 1) * 1)) dX8_rounds_29 (by omega) ?_
        refine v_bipush (v := nI 8) dX8_rounds_30 (by decide) ?_
        refine v_iload_n dX8_rounds_32 rfl 2 rfl ?_
        refine n_imul (a := 8) (b := 1) (z := 8) dX8_rounds_33 rfl ?_
        refine n_icmp_gt (a := ((((t + 1) - 1) / 1) * 1) - ((b / 1) * 1)) (b := 8) (tgt := 41) dX8_rounds_34 (by decide) (by omega) (by omega) (fun c34 => ?_) (fun c34 => ?_)
        ·
          refine v_iconst (v := nI 0) dX8_rounds_41 (by decide) ?_
          refine v_istore (lv' := [(6, .int (nI 0)), (5, .int (nI ((((t + 1) - 1) / 1) * 1))), (4, .int (nI ((b / 1) * 1))), (3, .int (nI 1)), (0, .ref mo), (1, .int (nI b)), (2, .int (nI t))]) dX8_rounds_42 (by decide) rfl ?_
          refine v_aload_n dX8_rounds_44 rfl 4 rfl ?_
          refine v_iload dX8_rounds_45 0 rfl ?_
          refine n_if_eq (a := 0) (tgt := 55) dX8_rounds_47 (by decide) (by decide) (fun _ => ?_) (fun c => absurd c (by decide))
          refine v_aload_n dX8_rounds_55 rfl 4 rfl ?_
          refine v_get (ref := "SealhouseModel") (C := RX8) (T := TX8) (N := 20) 0 17 dX8_rounds_56 rfl rfl gin_X8 (by decide) kw_1021 rfl rfl ?_
          refine v_put (ref := "SealhouseModel") (C := RX8) (T := TX8) (N := 20) (ty0 := tyX8) (t := tyX8 17) (ws' := [(mo, .inr (6, [.int (nI (zX y)), .ref m1, .ref m2, .ref m3, .ref m4, .ref m5, .ref m6, .int (nI (zD y)), .ref m8, .ref m9, .ref m10, .ref m11, .ref m12, .ref m13, .ref m14, .ref m15, .ref m16, .int (nI ((b / 2) * 2)), .int (nI ((((t + 2) - 1) / 2) * 2)), .ref m19])), (m1, .inl (G.2.1 3, 160, .inl (fun j9 => bI ((zI y) j9)))), (m2, .inl (G.2.1 1, 160, .inl (zN y))), (m3, .inl (G.2.1 1, 160, .inl (fun j9 => nI ((zB y) j9)))), (m4, .inl (G.2.1 1, 160, .inl (fun j9 => nI ((zT y) j9)))), (m5, .inl (G.2.1 1, 160, .inl (fun j9 => nI ((zP y) j9)))), (m6, .inl (G.2.1 1, 160, .inl (fun j9 => nI ((zS y) j9)))), (m8, .inl (G.2.1 1, 8, .inl (fun j9 => nI ((zR y) j9)))), (m9, .inl (G.2.1 1, 4, .inl (fun j9 => nI ((zQ y) j9)))), (m10, .inl (G.2.1 0, 96, .inl (fun j9 => nI ((zA y) j9)))), (m11, .inl (G.2.1 1, 96, .inl (fun j9 => nI ((zO y) j9)))), (m12, .inl (G.2.1 1, 96, .inl (fun j9 => nI ((zF y) j9)))), (m13, .inl (G.2.1 1, 96, .inl (fun j9 => nI ((zM y) j9)))), (m14, .inl (G.2.1 3, 96, .inl (fun j9 => bI ((zE y) j9)))), (m15, .inl (G.2.1 3, 384, .inl (fun j9 => bI ((zV y) j9)))), (m16, .inl (G.2.1 1, 9, .inl (fun j9 => nI ((zK y) j9)))), (m19, .inl (G.2.1 3, 96, .inl (fun j9 => bI ((zG y) j9))))]) 0 17 dX8_rounds_59 rfl rfl gin_X8 tyX8_ok nmX8 (by decide) kw_1021 rfl rfl (by decide +kernel) rfl rfl (Nat.le_of_ble_eq_true rfl) rfl ?_
          refine v_aload_n dX8_rounds_62 rfl 4 rfl ?_
          refine v_iload dX8_rounds_63 0 rfl ?_
          refine n_if_eq (a := 0) (tgt := 73) dX8_rounds_65 (by decide) (by decide) (fun _ => ?_) (fun c => absurd c (by decide))
          refine v_aload_n dX8_rounds_73 rfl 4 rfl ?_
          refine v_get (ref := "SealhouseModel") (C := RX8) (T := TX8) (N := 20) 0 18 dX8_rounds_74 rfl rfl gin_X8 (by decide) kw_1022 rfl rfl ?_
          refine v_put (ref := "SealhouseModel") (C := RX8) (T := TX8) (N := 20) (ty0 := tyX8) (t := tyX8 18) (ws' := [(mo, .inr (6, [.int (nI (zX y)), .ref m1, .ref m2, .ref m3, .ref m4, .ref m5, .ref m6, .int (nI (zD y)), .ref m8, .ref m9, .ref m10, .ref m11, .ref m12, .ref m13, .ref m14, .ref m15, .ref m16, .int (nI ((b / 2) * 2)), .int (nI ((((t + 2) - 1) / 2) * 2)), .ref m19])), (m1, .inl (G.2.1 3, 160, .inl (fun j9 => bI ((zI y) j9)))), (m2, .inl (G.2.1 1, 160, .inl (zN y))), (m3, .inl (G.2.1 1, 160, .inl (fun j9 => nI ((zB y) j9)))), (m4, .inl (G.2.1 1, 160, .inl (fun j9 => nI ((zT y) j9)))), (m5, .inl (G.2.1 1, 160, .inl (fun j9 => nI ((zP y) j9)))), (m6, .inl (G.2.1 1, 160, .inl (fun j9 => nI ((zS y) j9)))), (m8, .inl (G.2.1 1, 8, .inl (fun j9 => nI ((zR y) j9)))), (m9, .inl (G.2.1 1, 4, .inl (fun j9 => nI ((zQ y) j9)))), (m10, .inl (G.2.1 0, 96, .inl (fun j9 => nI ((zA y) j9)))), (m11, .inl (G.2.1 1, 96, .inl (fun j9 => nI ((zO y) j9)))), (m12, .inl (G.2.1 1, 96, .inl (fun j9 => nI ((zF y) j9)))), (m13, .inl (G.2.1 1, 96, .inl (fun j9 => nI ((zM y) j9)))), (m14, .inl (G.2.1 3, 96, .inl (fun j9 => bI ((zE y) j9)))), (m15, .inl (G.2.1 3, 384, .inl (fun j9 => bI ((zV y) j9)))), (m16, .inl (G.2.1 1, 9, .inl (fun j9 => nI ((zK y) j9)))), (m19, .inl (G.2.1 3, 96, .inl (fun j9 => bI ((zG y) j9))))]) 0 18 dX8_rounds_77 rfl rfl gin_X8 tyX8_ok nmX8 (by decide) kw_1022 rfl rfl (by decide +kernel) rfl rfl (Nat.le_of_ble_eq_true rfl) rfl ?_
          refine v_iload_n dX8_rounds_80 rfl 3 rfl ?_
          refine v_iconst (v := nI 2) dX8_rounds_81 (by decide) ?_
          refine n_idiv (a := 1) (b := 2) (z := 0) dX8_rounds_82 (by decide) (by omega) (by decide) rfl ?_
          refine v_istore_n (lv' := [(3, .int (nI 0)), (6, .int (nI 0)), (5, .int (nI ((((t + 1) - 1) / 1) * 1))), (4, .int (nI ((b / 1) * 1))), (0, .ref mo), (1, .int (nI b)), (2, .int (nI t))]) dX8_rounds_83 rfl (by decide) rfl ?_
          refine v_goto (tgt := 3) dX8_rounds_84 (by decide) ?_
          refine v_iload_n dX8_rounds_3 rfl 0 rfl ?_
          refine n_if_le (a := 0) (tgt := 87) dX8_rounds_4 (by decide) (by decide) (fun _ => ?_) (fun c => absurd c (by decide))
          exact v_vret hR dX8_rounds_87 (by refine ⟨rfl, ?_⟩; unfold rndY; first | (rw [unit_1 (by unfold dn up; omega)]; rfl) | (rw [unit_2 (by unfold dn up; omega) (by unfold dn up; omega)]; rfl) | (rw [unit_4 (by unfold dn up; omega) (by unfold dn up; omega) (by unfold dn up; omega)]; rfl) | (rw [unit_8 (by unfold dn up; omega) (by unfold dn up; omega) (by unfold dn up; omega) (by unfold dn up; omega)]; rfl) | (rw [unit_16 (by unfold dn up; omega) (by unfold dn up; omega) (by unfold dn up; omega) (by unfold dn up; omega)]; rfl))
        ·
          refine v_iconst (v := nI 1) dX8_rounds_37 (by decide) ?_
          refine v_goto (tgt := 42) dX8_rounds_38 (by decide) ?_
          refine v_istore (lv' := [(6, .int (nI 1)), (5, .int (nI ((((t + 1) - 1) / 1) * 1))), (4, .int (nI ((b / 1) * 1))), (3, .int (nI 1)), (0, .ref mo), (1, .int (nI b)), (2, .int (nI t))]) dX8_rounds_42 (by decide) rfl ?_
          refine v_aload_n dX8_rounds_44 rfl 4 rfl ?_
          refine v_iload dX8_rounds_45 0 rfl ?_
          refine n_if_eq (a := 1) (tgt := 55) dX8_rounds_47 (by decide) (by decide) (fun c => absurd c (by decide)) (fun _ => ?_)
          refine v_iload dX8_rounds_50 2 rfl ?_
          refine v_goto (tgt := 59) dX8_rounds_52 (by decide) ?_
          refine v_put (ref := "SealhouseModel") (C := RX8) (T := TX8) (N := 20) (ty0 := tyX8) (t := tyX8 17) (ws' := [(mo, .inr (6, [.int (nI (zX y)), .ref m1, .ref m2, .ref m3, .ref m4, .ref m5, .ref m6, .int (nI (zD y)), .ref m8, .ref m9, .ref m10, .ref m11, .ref m12, .ref m13, .ref m14, .ref m15, .ref m16, .int (nI ((b / 1) * 1)), .int (nI ((((t + 2) - 1) / 2) * 2)), .ref m19])), (m1, .inl (G.2.1 3, 160, .inl (fun j9 => bI ((zI y) j9)))), (m2, .inl (G.2.1 1, 160, .inl (zN y))), (m3, .inl (G.2.1 1, 160, .inl (fun j9 => nI ((zB y) j9)))), (m4, .inl (G.2.1 1, 160, .inl (fun j9 => nI ((zT y) j9)))), (m5, .inl (G.2.1 1, 160, .inl (fun j9 => nI ((zP y) j9)))), (m6, .inl (G.2.1 1, 160, .inl (fun j9 => nI ((zS y) j9)))), (m8, .inl (G.2.1 1, 8, .inl (fun j9 => nI ((zR y) j9)))), (m9, .inl (G.2.1 1, 4, .inl (fun j9 => nI ((zQ y) j9)))), (m10, .inl (G.2.1 0, 96, .inl (fun j9 => nI ((zA y) j9)))), (m11, .inl (G.2.1 1, 96, .inl (fun j9 => nI ((zO y) j9)))), (m12, .inl (G.2.1 1, 96, .inl (fun j9 => nI ((zF y) j9)))), (m13, .inl (G.2.1 1, 96, .inl (fun j9 => nI ((zM y) j9)))), (m14, .inl (G.2.1 3, 96, .inl (fun j9 => bI ((zE y) j9)))), (m15, .inl (G.2.1 3, 384, .inl (fun j9 => bI ((zV y) j9)))), (m16, .inl (G.2.1 1, 9, .inl (fun j9 => nI ((zK y) j9)))), (m19, .inl (G.2.1 3, 96, .inl (fun j9 => bI ((zG y) j9))))]) 0 17 dX8_rounds_59 rfl rfl gin_X8 tyX8_ok nmX8 (by decide) kw_1021 rfl rfl (by decide +kernel) rfl rfl (Nat.le_of_ble_eq_true rfl) rfl ?_
          refine v_aload_n dX8_rounds_62 rfl 4 rfl ?_
          refine v_iload dX8_rounds_63 0 rfl ?_
          refine n_if_eq (a := 1) (tgt := 73) dX8_rounds_65 (by decide) (by decide) (fun c => absurd c (by decide)) (fun _ => ?_)
          refine v_iload dX8_rounds_68 1 rfl ?_
          refine v_goto (tgt := 77) dX8_rounds_70 (by decide) ?_
          refine v_put (ref := "SealhouseModel") (C := RX8) (T := TX8) (N := 20) (ty0 := tyX8) (t := tyX8 18) (ws' := [(mo, .inr (6, [.int (nI (zX y)), .ref m1, .ref m2, .ref m3, .ref m4, .ref m5, .ref m6, .int (nI (zD y)), .ref m8, .ref m9, .ref m10, .ref m11, .ref m12, .ref m13, .ref m14, .ref m15, .ref m16, .int (nI ((b / 1) * 1)), .int (nI ((((t + 1) - 1) / 1) * 1)), .ref m19])), (m1, .inl (G.2.1 3, 160, .inl (fun j9 => bI ((zI y) j9)))), (m2, .inl (G.2.1 1, 160, .inl (zN y))), (m3, .inl (G.2.1 1, 160, .inl (fun j9 => nI ((zB y) j9)))), (m4, .inl (G.2.1 1, 160, .inl (fun j9 => nI ((zT y) j9)))), (m5, .inl (G.2.1 1, 160, .inl (fun j9 => nI ((zP y) j9)))), (m6, .inl (G.2.1 1, 160, .inl (fun j9 => nI ((zS y) j9)))), (m8, .inl (G.2.1 1, 8, .inl (fun j9 => nI ((zR y) j9)))), (m9, .inl (G.2.1 1, 4, .inl (fun j9 => nI ((zQ y) j9)))), (m10, .inl (G.2.1 0, 96, .inl (fun j9 => nI ((zA y) j9)))), (m11, .inl (G.2.1 1, 96, .inl (fun j9 => nI ((zO y) j9)))), (m12, .inl (G.2.1 1, 96, .inl (fun j9 => nI ((zF y) j9)))), (m13, .inl (G.2.1 1, 96, .inl (fun j9 => nI ((zM y) j9)))), (m14, .inl (G.2.1 3, 96, .inl (fun j9 => bI ((zE y) j9)))), (m15, .inl (G.2.1 3, 384, .inl (fun j9 => bI ((zV y) j9)))), (m16, .inl (G.2.1 1, 9, .inl (fun j9 => nI ((zK y) j9)))), (m19, .inl (G.2.1 3, 96, .inl (fun j9 => bI ((zG y) j9))))]) 0 18 dX8_rounds_77 rfl rfl gin_X8 tyX8_ok nmX8 (by decide) kw_1022 rfl rfl (by decide +kernel) rfl rfl (Nat.le_of_ble_eq_true rfl) rfl ?_
          refine v_iload_n dX8_rounds_80 rfl 3 rfl ?_
          refine v_iconst (v := nI 2) dX8_rounds_81 (by decide) ?_
          refine n_idiv (a := 1) (b := 2) (z := 0) dX8_rounds_82 (by decide) (by omega) (by decide) rfl ?_
          refine v_istore_n (lv' := [(3, .int (nI 0)), (6, .int (nI 1)), (5, .int (nI ((((t + 1) - 1) / 1) * 1))), (4, .int (nI ((b / 1) * 1))), (0, .ref mo), (1, .int (nI b)), (2, .int (nI t))]) dX8_rounds_83 rfl (by decide) rfl ?_
          refine v_goto (tgt := 3) dX8_rounds_84 (by decide) ?_
          refine v_iload_n dX8_rounds_3 rfl 0 rfl ?_
          refine n_if_le (a := 0) (tgt := 87) dX8_rounds_4 (by decide) (by decide) (fun _ => ?_) (fun c => absurd c (by decide))
          exact v_vret hR dX8_rounds_87 (by refine ⟨rfl, ?_⟩; unfold rndY; first | (rw [unit_1 (by unfold dn up; omega)]; rfl) | (rw [unit_2 (by unfold dn up; omega) (by unfold dn up; omega)]; rfl) | (rw [unit_4 (by unfold dn up; omega) (by unfold dn up; omega) (by unfold dn up; omega)]; rfl) | (rw [unit_8 (by unfold dn up; omega) (by unfold dn up; omega) (by unfold dn up; omega) (by unfold dn up; omega)]; rfl) | (rw [unit_16 (by unfold dn up; omega) (by unfold dn up; omega) (by unfold dn up; omega) (by unfold dn up; omega)]; rfl))
    ·
      refine v_iconst (v := nI 1) dX8_rounds_37 (by decide) ?_
      refine v_goto (tgt := 42) dX8_rounds_38 (by decide) ?_
      refine v_istore (lv' := [(6, .int (nI 1)), (5, .int (nI ((((t + 4) - 1) / 4) * 4))), (4, .int (nI ((b / 4) * 4))), (3, .int (nI 4)), (0, .ref mo), (1, .int (nI b)), (2, .int (nI t))]) dX8_rounds_42 (by decide) rfl ?_
      refine v_aload_n dX8_rounds_44 rfl 4 rfl ?_
      refine v_iload dX8_rounds_45 0 rfl ?_
      refine n_if_eq (a := 1) (tgt := 55) dX8_rounds_47 (by decide) (by decide) (fun c => absurd c (by decide)) (fun _ => ?_)
      refine v_iload dX8_rounds_50 2 rfl ?_
      refine v_goto (tgt := 59) dX8_rounds_52 (by decide) ?_
      refine v_put (ref := "SealhouseModel") (C := RX8) (T := TX8) (N := 20) (ty0 := tyX8) (t := tyX8 17) (ws' := [(mo, .inr (6, [.int (nI (zX y)), .ref m1, .ref m2, .ref m3, .ref m4, .ref m5, .ref m6, .int (nI (zD y)), .ref m8, .ref m9, .ref m10, .ref m11, .ref m12, .ref m13, .ref m14, .ref m15, .ref m16, .int (nI ((b / 4) * 4)), .int (nI ((((t + 16) - 1) / 16) * 16)), .ref m19])), (m1, .inl (G.2.1 3, 160, .inl (fun j9 => bI ((zI y) j9)))), (m2, .inl (G.2.1 1, 160, .inl (zN y))), (m3, .inl (G.2.1 1, 160, .inl (fun j9 => nI ((zB y) j9)))), (m4, .inl (G.2.1 1, 160, .inl (fun j9 => nI ((zT y) j9)))), (m5, .inl (G.2.1 1, 160, .inl (fun j9 => nI ((zP y) j9)))), (m6, .inl (G.2.1 1, 160, .inl (fun j9 => nI ((zS y) j9)))), (m8, .inl (G.2.1 1, 8, .inl (fun j9 => nI ((zR y) j9)))), (m9, .inl (G.2.1 1, 4, .inl (fun j9 => nI ((zQ y) j9)))), (m10, .inl (G.2.1 0, 96, .inl (fun j9 => nI ((zA y) j9)))), (m11, .inl (G.2.1 1, 96, .inl (fun j9 => nI ((zO y) j9)))), (m12, .inl (G.2.1 1, 96, .inl (fun j9 => nI ((zF y) j9)))), (m13, .inl (G.2.1 1, 96, .inl (fun j9 => nI ((zM y) j9)))), (m14, .inl (G.2.1 3, 96, .inl (fun j9 => bI ((zE y) j9)))), (m15, .inl (G.2.1 3, 384, .inl (fun j9 => bI ((zV y) j9)))), (m16, .inl (G.2.1 1, 9, .inl (fun j9 => nI ((zK y) j9)))), (m19, .inl (G.2.1 3, 96, .inl (fun j9 => bI ((zG y) j9))))]) 0 17 dX8_rounds_59 rfl rfl gin_X8 tyX8_ok nmX8 (by decide) kw_1021 rfl rfl (by decide +kernel) rfl rfl (Nat.le_of_ble_eq_true rfl) rfl ?_
      refine v_aload_n dX8_rounds_62 rfl 4 rfl ?_
      refine v_iload dX8_rounds_63 0 rfl ?_
      refine n_if_eq (a := 1) (tgt := 73) dX8_rounds_65 (by decide) (by decide) (fun c => absurd c (by decide)) (fun _ => ?_)
      refine v_iload dX8_rounds_68 1 rfl ?_
      refine v_goto (tgt := 77) dX8_rounds_70 (by decide) ?_
      refine v_put (ref := "SealhouseModel") (C := RX8) (T := TX8) (N := 20) (ty0 := tyX8) (t := tyX8 18) (ws' := [(mo, .inr (6, [.int (nI (zX y)), .ref m1, .ref m2, .ref m3, .ref m4, .ref m5, .ref m6, .int (nI (zD y)), .ref m8, .ref m9, .ref m10, .ref m11, .ref m12, .ref m13, .ref m14, .ref m15, .ref m16, .int (nI ((b / 4) * 4)), .int (nI ((((t + 4) - 1) / 4) * 4)), .ref m19])), (m1, .inl (G.2.1 3, 160, .inl (fun j9 => bI ((zI y) j9)))), (m2, .inl (G.2.1 1, 160, .inl (zN y))), (m3, .inl (G.2.1 1, 160, .inl (fun j9 => nI ((zB y) j9)))), (m4, .inl (G.2.1 1, 160, .inl (fun j9 => nI ((zT y) j9)))), (m5, .inl (G.2.1 1, 160, .inl (fun j9 => nI ((zP y) j9)))), (m6, .inl (G.2.1 1, 160, .inl (fun j9 => nI ((zS y) j9)))), (m8, .inl (G.2.1 1, 8, .inl (fun j9 => nI ((zR y) j9)))), (m9, .inl (G.2.1 1, 4, .inl (fun j9 => nI ((zQ y) j9)))), (m10, .inl (G.2.1 0, 96, .inl (fun j9 => nI ((zA y) j9)))), (m11, .inl (G.2.1 1, 96, .inl (fun j9 => nI ((zO y) j9)))), (m12, .inl (G.2.1 1, 96, .inl (fun j9 => nI ((zF y) j9)))), (m13, .inl (G.2.1 1, 96, .inl (fun j9 => nI ((zM y) j9)))), (m14, .inl (G.2.1 3, 96, .inl (fun j9 => bI ((zE y) j9)))), (m15, .inl (G.2.1 3, 384, .inl (fun j9 => bI ((zV y) j9)))), (m16, .inl (G.2.1 1, 9, .inl (fun j9 => nI ((zK y) j9)))), (m19, .inl (G.2.1 3, 96, .inl (fun j9 => bI ((zG y) j9))))]) 0 18 dX8_rounds_77 rfl rfl gin_X8 tyX8_ok nmX8 (by decide) kw_1022 rfl rfl (by decide +kernel) rfl rfl (Nat.le_of_ble_eq_true rfl) rfl ?_
      refine v_iload_n dX8_rounds_80 rfl 3 rfl ?_
      refine v_iconst (v := nI 2) dX8_rounds_81 (by decide) ?_
      refine n_idiv (a := 4) (b := 2) (z := 2) dX8_rounds_82 (by decide) (by omega) (by decide) rfl ?_
      refine v_istore_n (lv' := [(3, .int (nI 2)), (6, .int (nI 1)), (5, .int (nI ((((t + 4) - 1) / 4) * 4))), (4, .int (nI ((b / 4) * 4))), (0, .ref mo), (1, .int (nI b)), (2, .int (nI t))]) dX8_rounds_83 rfl (by decide) rfl ?_
      refine v_goto (tgt := 3) dX8_rounds_84 (by decide) ?_
      refine v_iload_n dX8_rounds_3 rfl 0 rfl ?_
      refine n_if_le (a := 2) (tgt := 87) dX8_rounds_4 (by decide) (by decide) (fun c => absurd c (by decide)) (fun _ => ?_)
      refine v_iload_n dX8_rounds_7 rfl 5 rfl ?_
      refine v_iload_n dX8_rounds_8 rfl 0 rfl ?_
      refine n_idiv (a := b) (b := 2) (z := b / 2) dX8_rounds_9 (by decide) (by omega) (by decide) rfl ?_
      refine v_iload_n dX8_rounds_10 rfl 0 rfl ?_
      refine n_imul (a := b / 2) (b := 2) (z := (b / 2) * 2) dX8_rounds_11 rfl ?_
      refine v_istore (lv' := [(4, .int (nI ((b / 2) * 2))), (3, .int (nI 2)), (6, .int (nI 1)), (5, .int (nI ((((t + 4) - 1) / 4) * 4))), (0, .ref mo), (1, .int (nI b)), (2, .int (nI t))]) dX8_rounds_12 (by decide) rfl ?_
      have hd2 : b / 2 * 2 ≤ b := Nat.div_mul_le_self b 2
      have hu2 : t ≤ (t + 2 - 1) / 2 * 2 := le_up (n := t) (u := 2) (by decide)
      have hv2 : (t + 2 - 1) / 2 * 2 < t + 2 := up_lt t 2 (by decide)
      refine v_iload_n dX8_rounds_14 rfl 6 rfl ?_
      refine v_iload_n dX8_rounds_15 rfl 1 rfl ?_
      refine n_iadd (a := t) (b := 2) (z := t + 2) dX8_rounds_16 rfl ?_
      refine v_iconst (v := nI 1) dX8_rounds_17 (by decide) ?_
      refine n_isub (a := t + 2) (b := 1) (z := (t + 2) - 1) dX8_rounds_18 (by omega) ?_
      refine v_iload_n dX8_rounds_19 rfl 1 rfl ?_
      refine n_idiv (a := (t + 2) - 1) (b := 2) (z := ((t + 2) - 1) / 2) dX8_rounds_20 (by decide) (by omega) (by decide) rfl ?_
      refine v_iload_n dX8_rounds_21 rfl 1 rfl ?_
      refine n_imul (a := ((t + 2) - 1) / 2) (b := 2) (z := (((t + 2) - 1) / 2) * 2) dX8_rounds_22 rfl ?_
      refine v_istore (lv' := [(5, .int (nI ((((t + 2) - 1) / 2) * 2))), (4, .int (nI ((b / 2) * 2))), (3, .int (nI 2)), (6, .int (nI 1)), (0, .ref mo), (1, .int (nI b)), (2, .int (nI t))]) dX8_rounds_23 (by decide) rfl ?_
      refine v_iload dX8_rounds_25 0 rfl ?_
      refine v_iload dX8_rounds_27 1 rfl ?_
      refine n_isub (a := (((t + 2) - 1) / 2) * 2) (b := (b / 2) * 2) (z := ((((t + 2) - 1) / 2) * 2) - ((b / 2) * 2)) dX8_rounds_29 (by omega) ?_
      refine v_bipush (v := nI 8) dX8_rounds_30 (by decide) ?_
      refine v_iload_n dX8_rounds_32 rfl 2 rfl ?_
      refine n_imul (a := 8) (b := 2) (z := 16) dX8_rounds_33 rfl ?_
      refine n_icmp_gt (a := ((((t + 2) - 1) / 2) * 2) - ((b / 2) * 2)) (b := 16) (tgt := 41) dX8_rounds_34 (by decide) (by omega) (by omega) (fun c34 => ?_) (fun c34 => ?_)
      ·
        refine v_iconst (v := nI 0) dX8_rounds_41 (by decide) ?_
        refine v_istore (lv' := [(6, .int (nI 0)), (5, .int (nI ((((t + 2) - 1) / 2) * 2))), (4, .int (nI ((b / 2) * 2))), (3, .int (nI 2)), (0, .ref mo), (1, .int (nI b)), (2, .int (nI t))]) dX8_rounds_42 (by decide) rfl ?_
        refine v_aload_n dX8_rounds_44 rfl 4 rfl ?_
        refine v_iload dX8_rounds_45 0 rfl ?_
        refine n_if_eq (a := 0) (tgt := 55) dX8_rounds_47 (by decide) (by decide) (fun _ => ?_) (fun c => absurd c (by decide))
        refine v_aload_n dX8_rounds_55 rfl 4 rfl ?_
        refine v_get (ref := "SealhouseModel") (C := RX8) (T := TX8) (N := 20) 0 17 dX8_rounds_56 rfl rfl gin_X8 (by decide) kw_1021 rfl rfl ?_
        refine v_put (ref := "SealhouseModel") (C := RX8) (T := TX8) (N := 20) (ty0 := tyX8) (t := tyX8 17) (ws' := [(mo, .inr (6, [.int (nI (zX y)), .ref m1, .ref m2, .ref m3, .ref m4, .ref m5, .ref m6, .int (nI (zD y)), .ref m8, .ref m9, .ref m10, .ref m11, .ref m12, .ref m13, .ref m14, .ref m15, .ref m16, .int (nI ((b / 4) * 4)), .int (nI ((((t + 4) - 1) / 4) * 4)), .ref m19])), (m1, .inl (G.2.1 3, 160, .inl (fun j9 => bI ((zI y) j9)))), (m2, .inl (G.2.1 1, 160, .inl (zN y))), (m3, .inl (G.2.1 1, 160, .inl (fun j9 => nI ((zB y) j9)))), (m4, .inl (G.2.1 1, 160, .inl (fun j9 => nI ((zT y) j9)))), (m5, .inl (G.2.1 1, 160, .inl (fun j9 => nI ((zP y) j9)))), (m6, .inl (G.2.1 1, 160, .inl (fun j9 => nI ((zS y) j9)))), (m8, .inl (G.2.1 1, 8, .inl (fun j9 => nI ((zR y) j9)))), (m9, .inl (G.2.1 1, 4, .inl (fun j9 => nI ((zQ y) j9)))), (m10, .inl (G.2.1 0, 96, .inl (fun j9 => nI ((zA y) j9)))), (m11, .inl (G.2.1 1, 96, .inl (fun j9 => nI ((zO y) j9)))), (m12, .inl (G.2.1 1, 96, .inl (fun j9 => nI ((zF y) j9)))), (m13, .inl (G.2.1 1, 96, .inl (fun j9 => nI ((zM y) j9)))), (m14, .inl (G.2.1 3, 96, .inl (fun j9 => bI ((zE y) j9)))), (m15, .inl (G.2.1 3, 384, .inl (fun j9 => bI ((zV y) j9)))), (m16, .inl (G.2.1 1, 9, .inl (fun j9 => nI ((zK y) j9)))), (m19, .inl (G.2.1 3, 96, .inl (fun j9 => bI ((zG y) j9))))]) 0 17 dX8_rounds_59 rfl rfl gin_X8 tyX8_ok nmX8 (by decide) kw_1021 rfl rfl (by decide +kernel) rfl rfl (Nat.le_of_ble_eq_true rfl) rfl ?_
        refine v_aload_n dX8_rounds_62 rfl 4 rfl ?_
        refine v_iload dX8_rounds_63 0 rfl ?_
        refine n_if_eq (a := 0) (tgt := 73) dX8_rounds_65 (by decide) (by decide) (fun _ => ?_) (fun c => absurd c (by decide))
        refine v_aload_n dX8_rounds_73 rfl 4 rfl ?_
        refine v_get (ref := "SealhouseModel") (C := RX8) (T := TX8) (N := 20) 0 18 dX8_rounds_74 rfl rfl gin_X8 (by decide) kw_1022 rfl rfl ?_
        refine v_put (ref := "SealhouseModel") (C := RX8) (T := TX8) (N := 20) (ty0 := tyX8) (t := tyX8 18) (ws' := [(mo, .inr (6, [.int (nI (zX y)), .ref m1, .ref m2, .ref m3, .ref m4, .ref m5, .ref m6, .int (nI (zD y)), .ref m8, .ref m9, .ref m10, .ref m11, .ref m12, .ref m13, .ref m14, .ref m15, .ref m16, .int (nI ((b / 4) * 4)), .int (nI ((((t + 4) - 1) / 4) * 4)), .ref m19])), (m1, .inl (G.2.1 3, 160, .inl (fun j9 => bI ((zI y) j9)))), (m2, .inl (G.2.1 1, 160, .inl (zN y))), (m3, .inl (G.2.1 1, 160, .inl (fun j9 => nI ((zB y) j9)))), (m4, .inl (G.2.1 1, 160, .inl (fun j9 => nI ((zT y) j9)))), (m5, .inl (G.2.1 1, 160, .inl (fun j9 => nI ((zP y) j9)))), (m6, .inl (G.2.1 1, 160, .inl (fun j9 => nI ((zS y) j9)))), (m8, .inl (G.2.1 1, 8, .inl (fun j9 => nI ((zR y) j9)))), (m9, .inl (G.2.1 1, 4, .inl (fun j9 => nI ((zQ y) j9)))), (m10, .inl (G.2.1 0, 96, .inl (fun j9 => nI ((zA y) j9)))), (m11, .inl (G.2.1 1, 96, .inl (fun j9 => nI ((zO y) j9)))), (m12, .inl (G.2.1 1, 96, .inl (fun j9 => nI ((zF y) j9)))), (m13, .inl (G.2.1 1, 96, .inl (fun j9 => nI ((zM y) j9)))), (m14, .inl (G.2.1 3, 96, .inl (fun j9 => bI ((zE y) j9)))), (m15, .inl (G.2.1 3, 384, .inl (fun j9 => bI ((zV y) j9)))), (m16, .inl (G.2.1 1, 9, .inl (fun j9 => nI ((zK y) j9)))), (m19, .inl (G.2.1 3, 96, .inl (fun j9 => bI ((zG y) j9))))]) 0 18 dX8_rounds_77 rfl rfl gin_X8 tyX8_ok nmX8 (by decide) kw_1022 rfl rfl (by decide +kernel) rfl rfl (Nat.le_of_ble_eq_true rfl) rfl ?_
        refine v_iload_n dX8_rounds_80 rfl 3 rfl ?_
        refine v_iconst (v := nI 2) dX8_rounds_81 (by decide) ?_
        refine n_idiv (a := 2) (b := 2) (z := 1) dX8_rounds_82 (by decide) (by omega) (by decide) rfl ?_
        refine v_istore_n (lv' := [(3, .int (nI 1)), (6, .int (nI 0)), (5, .int (nI ((((t + 2) - 1) / 2) * 2))), (4, .int (nI ((b / 2) * 2))), (0, .ref mo), (1, .int (nI b)), (2, .int (nI t))]) dX8_rounds_83 rfl (by decide) rfl ?_
        refine v_goto (tgt := 3) dX8_rounds_84 (by decide) ?_
        refine v_iload_n dX8_rounds_3 rfl 0 rfl ?_
        refine n_if_le (a := 1) (tgt := 87) dX8_rounds_4 (by decide) (by decide) (fun c => absurd c (by decide)) (fun _ => ?_)
        refine v_iload_n dX8_rounds_7 rfl 5 rfl ?_
        refine v_iload_n dX8_rounds_8 rfl 0 rfl ?_
        refine n_idiv (a := b) (b := 1) (z := b / 1) dX8_rounds_9 (by decide) (by omega) (by decide) rfl ?_
        refine v_iload_n dX8_rounds_10 rfl 0 rfl ?_
        refine n_imul (a := b / 1) (b := 1) (z := (b / 1) * 1) dX8_rounds_11 rfl ?_
        refine v_istore (lv' := [(4, .int (nI ((b / 1) * 1))), (3, .int (nI 1)), (6, .int (nI 0)), (5, .int (nI ((((t + 2) - 1) / 2) * 2))), (0, .ref mo), (1, .int (nI b)), (2, .int (nI t))]) dX8_rounds_12 (by decide) rfl ?_
        have hd1 : b / 1 * 1 ≤ b := Nat.div_mul_le_self b 1
        have hu1 : t ≤ (t + 1 - 1) / 1 * 1 := le_up (n := t) (u := 1) (by decide)
        have hv1 : (t + 1 - 1) / 1 * 1 < t + 1 := up_lt t 1 (by decide)
        refine v_iload_n dX8_rounds_14 rfl 6 rfl ?_
        refine v_iload_n dX8_rounds_15 rfl 1 rfl ?_
        refine n_iadd (a := t) (b := 1) (z := t + 1) dX8_rounds_16 rfl ?_
        refine v_iconst (v := nI 1) dX8_rounds_17 (by decide) ?_
        refine n_isub (a := t + 1) (b := 1) (z := (t + 1) - 1) dX8_rounds_18 (by omega) ?_
        refine v_iload_n dX8_rounds_19 rfl 1 rfl ?_
        refine n_idiv (a := (t + 1) - 1) (b := 1) (z := ((t + 1) - 1) / 1) dX8_rounds_20 (by decide) (by omega) (by decide) rfl ?_
        refine v_iload_n dX8_rounds_21 rfl 1 rfl ?_
        refine n_imul (a := ((t + 1) - 1) / 1) (b := 1) (z := (((t + 1) - 1) / 1) * 1) dX8_rounds_22 rfl ?_
        refine v_istore (lv' := [(5, .int (nI ((((t + 1) - 1) / 1) * 1))), (4, .int (nI ((b / 1) * 1))), (3, .int (nI 1)), (6, .int (nI 0)), (0, .ref mo), (1, .int (nI b)), (2, .int (nI t))]) dX8_rounds_23 (by decide) rfl ?_
        refine v_iload dX8_rounds_25 0 rfl ?_
        refine v_iload dX8_rounds_27 1 rfl ?_
        refine n_isub (a := (((t + 1) - 1) / 1) * 1) (b := (b / 1) * 1) (z := ((((t + 1) - 1) / 1) * 1) - ((b / 1) * 1)) dX8_rounds_29 (by omega) ?_
        refine v_bipush (v := nI 8) dX8_rounds_30 (by decide) ?_
        refine v_iload_n dX8_rounds_32 rfl 2 rfl ?_
        refine n_imul (a := 8) (b := 1) (z := 8) dX8_rounds_33 rfl ?_
        refine n_icmp_gt (a := ((((t + 1) - 1) / 1) * 1) - ((b / 1) * 1)) (b := 8) (tgt := 41) dX8_rounds_34 (by decide) (by omega) (by omega) (fun c34 => ?_) (fun c34 => ?_)
        ·
          refine v_iconst (v := nI 0) dX8_rounds_41 (by decide) ?_
          refine v_istore (lv' := [(6, .int (nI 0)), (5, .int (nI ((((t + 1) - 1) / 1) * 1))), (4, .int (nI ((b / 1) * 1))), (3, .int (nI 1)), (0, .ref mo), (1, .int (nI b)), (2, .int (nI t))]) dX8_rounds_42 (by decide) rfl ?_
          refine v_aload_n dX8_rounds_44 rfl 4 rfl ?_
          refine v_iload dX8_rounds_45 0 rfl ?_
          refine n_if_eq (a := 0) (tgt := 55) dX8_rounds_47 (by decide) (by decide) (fun _ => ?_) (fun c => absurd c (by decide))
          refine v_aload_n dX8_rounds_55 rfl 4 rfl ?_
          refine v_get (ref := "SealhouseModel") (C := RX8) (T := TX8) (N := 20) 0 17 dX8_rounds_56 rfl rfl gin_X8 (by decide) kw_1021 rfl rfl ?_
          refine v_put (ref := "SealhouseModel") (C := RX8) (T := TX8) (N := 20) (ty0 := tyX8) (t := tyX8 17) (ws' := [(mo, .inr (6, [.int (nI (zX y)), .ref m1, .ref m2, .ref m3, .ref m4, .ref m5, .ref m6, .int (nI (zD y)), .ref m8, .ref m9, .ref m10, .ref m11, .ref m12, .ref m13, .ref m14, .ref m15, .ref m16, .int (nI ((b / 4) * 4)), .int (nI ((((t + 4) - 1) / 4) * 4)), .ref m19])), (m1, .inl (G.2.1 3, 160, .inl (fun j9 => bI ((zI y) j9)))), (m2, .inl (G.2.1 1, 160, .inl (zN y))), (m3, .inl (G.2.1 1, 160, .inl (fun j9 => nI ((zB y) j9)))), (m4, .inl (G.2.1 1, 160, .inl (fun j9 => nI ((zT y) j9)))), (m5, .inl (G.2.1 1, 160, .inl (fun j9 => nI ((zP y) j9)))), (m6, .inl (G.2.1 1, 160, .inl (fun j9 => nI ((zS y) j9)))), (m8, .inl (G.2.1 1, 8, .inl (fun j9 => nI ((zR y) j9)))), (m9, .inl (G.2.1 1, 4, .inl (fun j9 => nI ((zQ y) j9)))), (m10, .inl (G.2.1 0, 96, .inl (fun j9 => nI ((zA y) j9)))), (m11, .inl (G.2.1 1, 96, .inl (fun j9 => nI ((zO y) j9)))), (m12, .inl (G.2.1 1, 96, .inl (fun j9 => nI ((zF y) j9)))), (m13, .inl (G.2.1 1, 96, .inl (fun j9 => nI ((zM y) j9)))), (m14, .inl (G.2.1 3, 96, .inl (fun j9 => bI ((zE y) j9)))), (m15, .inl (G.2.1 3, 384, .inl (fun j9 => bI ((zV y) j9)))), (m16, .inl (G.2.1 1, 9, .inl (fun j9 => nI ((zK y) j9)))), (m19, .inl (G.2.1 3, 96, .inl (fun j9 => bI ((zG y) j9))))]) 0 17 dX8_rounds_59 rfl rfl gin_X8 tyX8_ok nmX8 (by decide) kw_1021 rfl rfl (by decide +kernel) rfl rfl (Nat.le_of_ble_eq_true rfl) rfl ?_
          refine v_aload_n dX8_rounds_62 rfl 4 rfl ?_
          refine v_iload dX8_rounds_63 0 rfl ?_
          refine n_if_eq (a := 0) (tgt := 73) dX8_rounds_65 (by decide) (by decide) (fun _ => ?_) (fun c => absurd c (by decide))
          refine v_aload_n dX8_rounds_73 rfl 4 rfl ?_
          refine v_get (ref := "SealhouseModel") (C := RX8) (T := TX8) (N := 20) 0 18 dX8_rounds_74 rfl rfl gin_X8 (by decide) kw_1022 rfl rfl ?_
          refine v_put (ref := "SealhouseModel") (C := RX8) (T := TX8) (N := 20) (ty0 := tyX8) (t := tyX8 18) (ws' := [(mo, .inr (6, [.int (nI (zX y)), .ref m1, .ref m2, .ref m3, .ref m4, .ref m5, .ref m6, .int (nI (zD y)), .ref m8, .ref m9, .ref m10, .ref m11, .ref m12, .ref m13, .ref m14, .ref m15, .ref m16, .int (nI ((b / 4) * 4)), .int (nI ((((t + 4) - 1) / 4) * 4)), .ref m19])), (m1, .inl (G.2.1 3, 160, .inl (fun j9 => bI ((zI y) j9)))), (m2, .inl (G.2.1 1, 160, .inl (zN y))), (m3, .inl (G.2.1 1, 160, .inl (fun j9 => nI ((zB y) j9)))), (m4, .inl (G.2.1 1, 160, .inl (fun j9 => nI ((zT y) j9)))), (m5, .inl (G.2.1 1, 160, .inl (fun j9 => nI ((zP y) j9)))), (m6, .inl (G.2.1 1, 160, .inl (fun j9 => nI ((zS y) j9)))), (m8, .inl (G.2.1 1, 8, .inl (fun j9 => nI ((zR y) j9)))), (m9, .inl (G.2.1 1, 4, .inl (fun j9 => nI ((zQ y) j9)))), (m10, .inl (G.2.1 0, 96, .inl (fun j9 => nI ((zA y) j9)))), (m11, .inl (G.2.1 1, 96, .inl (fun j9 => nI ((zO y) j9)))), (m12, .inl (G.2.1 1, 96, .inl (fun j9 => nI ((zF y) j9)))), (m13, .inl (G.2.1 1, 96, .inl (fun j9 => nI ((zM y) j9)))), (m14, .inl (G.2.1 3, 96, .inl (fun j9 => bI ((zE y) j9)))), (m15, .inl (G.2.1 3, 384, .inl (fun j9 => bI ((zV y) j9)))), (m16, .inl (G.2.1 1, 9, .inl (fun j9 => nI ((zK y) j9)))), (m19, .inl (G.2.1 3, 96, .inl (fun j9 => bI ((zG y) j9))))]) 0 18 dX8_rounds_77 rfl rfl gin_X8 tyX8_ok nmX8 (by decide) kw_1022 rfl rfl (by decide +kernel) rfl rfl (Nat.le_of_ble_eq_true rfl) rfl ?_
          refine v_iload_n dX8_rounds_80 rfl 3 rfl ?_
          refine v_iconst (v := nI 2) dX8_rounds_81 (by decide) ?_
          refine n_idiv (a := 1) (b := 2) (z := 0) dX8_rounds_82 (by decide) (by omega) (by decide) rfl ?_
          refine v_istore_n (lv' := [(3, .int (nI 0)), (6, .int (nI 0)), (5, .int (nI ((((t + 1) - 1) / 1) * 1))), (4, .int (nI ((b / 1) * 1))), (0, .ref mo), (1, .int (nI b)), (2, .int (nI t))]) dX8_rounds_83 rfl (by decide) rfl ?_
          refine v_goto (tgt := 3) dX8_rounds_84 (by decide) ?_
          refine v_iload_n dX8_rounds_3 rfl 0 rfl ?_
          refine n_if_le (a := 0) (tgt := 87) dX8_rounds_4 (by decide) (by decide) (fun _ => ?_) (fun c => absurd c (by decide))
          exact v_vret hR dX8_rounds_87 (by refine ⟨rfl, ?_⟩; unfold rndY; first | (rw [unit_1 (by unfold dn up; omega)]; rfl) | (rw [unit_2 (by unfold dn up; omega) (by unfold dn up; omega)]; rfl) | (rw [unit_4 (by unfold dn up; omega) (by unfold dn up; omega) (by unfold dn up; omega)]; rfl) | (rw [unit_8 (by unfold dn up; omega) (by unfold dn up; omega) (by unfold dn up; omega) (by unfold dn up; omega)]; rfl) | (rw [unit_16 (by unfold dn up; omega) (by unfold dn up; omega) (by unfold dn up; omega) (by unfold dn up; omega)]; rfl))
        ·
          refine v_iconst (v := nI 1) dX8_rounds_37 (by decide) ?_
          refine v_goto (tgt := 42) dX8_rounds_38 (by decide) ?_
          refine v_istore (lv' := [(6, .int (nI 1)), (5, .int (nI ((((t + 1) - 1) / 1) * 1))), (4, .int (nI ((b / 1) * 1))), (3, .int (nI 1)), (0, .ref mo), (1, .int (nI b)), (2, .int (nI t))]) dX8_rounds_42 (by decide) rfl ?_
          refine v_aload_n dX8_rounds_44 rfl 4 rfl ?_
          refine v_iload dX8_rounds_45 0 rfl ?_
          refine n_if_eq (a := 1) (tgt := 55) dX8_rounds_47 (by decide) (by decide) (fun c => absurd c (by decide)) (fun _ => ?_)
          refine v_iload dX8_rounds_50 2 rfl ?_
          refine v_goto (tgt := 59) dX8_rounds_52 (by decide) ?_
          refine v_put (ref := "SealhouseModel") (C := RX8) (T := TX8) (N := 20) (ty0 := tyX8) (t := tyX8 17) (ws' := [(mo, .inr (6, [.int (nI (zX y)), .ref m1, .ref m2, .ref m3, .ref m4, .ref m5, .ref m6, .int (nI (zD y)), .ref m8, .ref m9, .ref m10, .ref m11, .ref m12, .ref m13, .ref m14, .ref m15, .ref m16, .int (nI ((b / 1) * 1)), .int (nI ((((t + 4) - 1) / 4) * 4)), .ref m19])), (m1, .inl (G.2.1 3, 160, .inl (fun j9 => bI ((zI y) j9)))), (m2, .inl (G.2.1 1, 160, .inl (zN y))), (m3, .inl (G.2.1 1, 160, .inl (fun j9 => nI ((zB y) j9)))), (m4, .inl (G.2.1 1, 160, .inl (fun j9 => nI ((zT y) j9)))), (m5, .inl (G.2.1 1, 160, .inl (fun j9 => nI ((zP y) j9)))), (m6, .inl (G.2.1 1, 160, .inl (fun j9 => nI ((zS y) j9)))), (m8, .inl (G.2.1 1, 8, .inl (fun j9 => nI ((zR y) j9)))), (m9, .inl (G.2.1 1, 4, .inl (fun j9 => nI ((zQ y) j9)))), (m10, .inl (G.2.1 0, 96, .inl (fun j9 => nI ((zA y) j9)))), (m11, .inl (G.2.1 1, 96, .inl (fun j9 => nI ((zO y) j9)))), (m12, .inl (G.2.1 1, 96, .inl (fun j9 => nI ((zF y) j9)))), (m13, .inl (G.2.1 1, 96, .inl (fun j9 => nI ((zM y) j9)))), (m14, .inl (G.2.1 3, 96, .inl (fun j9 => bI ((zE y) j9)))), (m15, .inl (G.2.1 3, 384, .inl (fun j9 => bI ((zV y) j9)))), (m16, .inl (G.2.1 1, 9, .inl (fun j9 => nI ((zK y) j9)))), (m19, .inl (G.2.1 3, 96, .inl (fun j9 => bI ((zG y) j9))))]) 0 17 dX8_rounds_59 rfl rfl gin_X8 tyX8_ok nmX8 (by decide) kw_1021 rfl rfl (by decide +kernel) rfl rfl (Nat.le_of_ble_eq_true rfl) rfl ?_
          refine v_aload_n dX8_rounds_62 rfl 4 rfl ?_
          refine v_iload dX8_rounds_63 0 rfl ?_
          refine n_if_eq (a := 1) (tgt := 73) dX8_rounds_65 (by decide) (by decide) (fun c => absurd c (by decide)) (fun _ => ?_)
          refine v_iload dX8_rounds_68 1 rfl ?_
          refine v_goto (tgt := 77) dX8_rounds_70 (by decide) ?_
          refine v_put (ref := "SealhouseModel") (C := RX8) (T := TX8) (N := 20) (ty0 := tyX8) (t := tyX8 18) (ws' := [(mo, .inr (6, [.int (nI (zX y)), .ref m1, .ref m2, .ref m3, .ref m4, .ref m5, .ref m6, .int (nI (zD y)), .ref m8, .ref m9, .ref m10, .ref m11, .ref m12, .ref m13, .ref m14, .ref m15, .ref m16, .int (nI ((b / 1) * 1)), .int (nI ((((t + 1) - 1) / 1) * 1)), .ref m19])), (m1, .inl (G.2.1 3, 160, .inl (fun j9 => bI ((zI y) j9)))), (m2, .inl (G.2.1 1, 160, .inl (zN y))), (m3, .inl (G.2.1 1, 160, .inl (fun j9 => nI ((zB y) j9)))), (m4, .inl (G.2.1 1, 160, .inl (fun j9 => nI ((zT y) j9)))), (m5, .inl (G.2.1 1, 160, .inl (fun j9 => nI ((zP y) j9)))), (m6, .inl (G.2.1 1, 160, .inl (fun j9 => nI ((zS y) j9)))), (m8, .inl (G.2.1 1, 8, .inl (fun j9 => nI ((zR y) j9)))), (m9, .inl (G.2.1 1, 4, .inl (fun j9 => nI ((zQ y) j9)))), (m10, .inl (G.2.1 0, 96, .inl (fun j9 => nI ((zA y) j9)))), (m11, .inl (G.2.1 1, 96, .inl (fun j9 => nI ((zO y) j9)))), (m12, .inl (G.2.1 1, 96, .inl (fun j9 => nI ((zF y) j9)))), (m13, .inl (G.2.1 1, 96, .inl (fun j9 => nI ((zM y) j9)))), (m14, .inl (G.2.1 3, 96, .inl (fun j9 => bI ((zE y) j9)))), (m15, .inl (G.2.1 3, 384, .inl (fun j9 => bI ((zV y) j9)))), (m16, .inl (G.2.1 1, 9, .inl (fun j9 => nI ((zK y) j9)))), (m19, .inl (G.2.1 3, 96, .inl (fun j9 => bI ((zG y) j9))))]) 0 18 dX8_rounds_77 rfl rfl gin_X8 tyX8_ok nmX8 (by decide) kw_1022 rfl rfl (by decide +kernel) rfl rfl (Nat.le_of_ble_eq_true rfl) rfl ?_
          refine v_iload_n dX8_rounds_80 rfl 3 rfl ?_
          refine v_iconst (v := nI 2) dX8_rounds_81 (by decide) ?_
          refine n_idiv (a := 1) (b := 2) (z := 0) dX8_rounds_82 (by decide) (by omega) (by decide) rfl ?_
          refine v_istore_n (lv' := [(3, .int (nI 0)), (6, .int (nI 1)), (5, .int (nI ((((t + 1) - 1) / 1) * 1))), (4, .int (nI ((b / 1) * 1))), (0, .ref mo), (1, .int (nI b)), (2, .int (nI t))]) dX8_rounds_83 rfl (by decide) rfl ?_
          refine v_goto (tgt := 3) dX8_rounds_84 (by decide) ?_
          refine v_iload_n dX8_rounds_3 rfl 0 rfl ?_
          refine n_if_le (a := 0) (tgt := 87) dX8_rounds_4 (by decide) (by decide) (fun _ => ?_) (fun c => absurd c (by decide))
          exact v_vret hR dX8_rounds_87 (by refine ⟨rfl, ?_⟩; unfold rndY; first | (rw [unit_1 (by unfold dn up; omega)]; rfl) | (rw [unit_2 (by unfold dn up; omega) (by unfold dn up; omega)]; rfl) | (rw [unit_4 (by unfold dn up; omega) (by unfold dn up; omega) (by unfold dn up; omega)]; rfl) | (rw [unit_8 (by unfold dn up; omega) (by unfold dn up; omega) (by unfold dn up; omega) (by unfold dn up; omega)]; rfl) | (rw [unit_16 (by unfold dn up; omega) (by unfold dn up; omega) (by unfold dn up; omega) (by unfold dn up; omega)]; rfl))
      ·
        refine v_iconst (v := nI 1) dX8_rounds_37 (by decide) ?_
        refine v_goto (tgt := 42) dX8_rounds_38 (by decide) ?_
        refine v_istore (lv' := [(6, .int (nI 1)), (5, .int (nI ((((t + 2) - 1) / 2) * 2))), (4, .int (nI ((b / 2) * 2))), (3, .int (nI 2)), (0, .ref mo), (1, .int (nI b)), (2, .int (nI t))]) dX8_rounds_42 (by decide) rfl ?_
        refine v_aload_n dX8_rounds_44 rfl 4 rfl ?_
        refine v_iload dX8_rounds_45 0 rfl ?_
        refine n_if_eq (a := 1) (tgt := 55) dX8_rounds_47 (by decide) (by decide) (fun c => absurd c (by decide)) (fun _ => ?_)
        refine v_iload dX8_rounds_50 2 rfl ?_
        refine v_goto (tgt := 59) dX8_rounds_52 (by decide) ?_
        refine v_put (ref := "SealhouseModel") (C := RX8) (T := TX8) (N := 20) (ty0 := tyX8) (t := tyX8 17) (ws' := [(mo, .inr (6, [.int (nI (zX y)), .ref m1, .ref m2, .ref m3, .ref m4, .ref m5, .ref m6, .int (nI (zD y)), .ref m8, .ref m9, .ref m10, .ref m11, .ref m12, .ref m13, .ref m14, .ref m15, .ref m16, .int (nI ((b / 2) * 2)), .int (nI ((((t + 4) - 1) / 4) * 4)), .ref m19])), (m1, .inl (G.2.1 3, 160, .inl (fun j9 => bI ((zI y) j9)))), (m2, .inl (G.2.1 1, 160, .inl (zN y))), (m3, .inl (G.2.1 1, 160, .inl (fun j9 => nI ((zB y) j9)))), (m4, .inl (G.2.1 1, 160, .inl (fun j9 => nI ((zT y) j9)))), (m5, .inl (G.2.1 1, 160, .inl (fun j9 => nI ((zP y) j9)))), (m6, .inl (G.2.1 1, 160, .inl (fun j9 => nI ((zS y) j9)))), (m8, .inl (G.2.1 1, 8, .inl (fun j9 => nI ((zR y) j9)))), (m9, .inl (G.2.1 1, 4, .inl (fun j9 => nI ((zQ y) j9)))), (m10, .inl (G.2.1 0, 96, .inl (fun j9 => nI ((zA y) j9)))), (m11, .inl (G.2.1 1, 96, .inl (fun j9 => nI ((zO y) j9)))), (m12, .inl (G.2.1 1, 96, .inl (fun j9 => nI ((zF y) j9)))), (m13, .inl (G.2.1 1, 96, .inl (fun j9 => nI ((zM y) j9)))), (m14, .inl (G.2.1 3, 96, .inl (fun j9 => bI ((zE y) j9)))), (m15, .inl (G.2.1 3, 384, .inl (fun j9 => bI ((zV y) j9)))), (m16, .inl (G.2.1 1, 9, .inl (fun j9 => nI ((zK y) j9)))), (m19, .inl (G.2.1 3, 96, .inl (fun j9 => bI ((zG y) j9))))]) 0 17 dX8_rounds_59 rfl rfl gin_X8 tyX8_ok nmX8 (by decide) kw_1021 rfl rfl (by decide +kernel) rfl rfl (Nat.le_of_ble_eq_true rfl) rfl ?_
        refine v_aload_n dX8_rounds_62 rfl 4 rfl ?_
        refine v_iload dX8_rounds_63 0 rfl ?_
        refine n_if_eq (a := 1) (tgt := 73) dX8_rounds_65 (by decide) (by decide) (fun c => absurd c (by decide)) (fun _ => ?_)
        refine v_iload dX8_rounds_68 1 rfl ?_
        refine v_goto (tgt := 77) dX8_rounds_70 (by decide) ?_
        refine v_put (ref := "SealhouseModel") (C := RX8) (T := TX8) (N := 20) (ty0 := tyX8) (t := tyX8 18) (ws' := [(mo, .inr (6, [.int (nI (zX y)), .ref m1, .ref m2, .ref m3, .ref m4, .ref m5, .ref m6, .int (nI (zD y)), .ref m8, .ref m9, .ref m10, .ref m11, .ref m12, .ref m13, .ref m14, .ref m15, .ref m16, .int (nI ((b / 2) * 2)), .int (nI ((((t + 2) - 1) / 2) * 2)), .ref m19])), (m1, .inl (G.2.1 3, 160, .inl (fun j9 => bI ((zI y) j9)))), (m2, .inl (G.2.1 1, 160, .inl (zN y))), (m3, .inl (G.2.1 1, 160, .inl (fun j9 => nI ((zB y) j9)))), (m4, .inl (G.2.1 1, 160, .inl (fun j9 => nI ((zT y) j9)))), (m5, .inl (G.2.1 1, 160, .inl (fun j9 => nI ((zP y) j9)))), (m6, .inl (G.2.1 1, 160, .inl (fun j9 => nI ((zS y) j9)))), (m8, .inl (G.2.1 1, 8, .inl (fun j9 => nI ((zR y) j9)))), (m9, .inl (G.2.1 1, 4, .inl (fun j9 => nI ((zQ y) j9)))), (m10, .inl (G.2.1 0, 96, .inl (fun j9 => nI ((zA y) j9)))), (m11, .inl (G.2.1 1, 96, .inl (fun j9 => nI ((zO y) j9)))), (m12, .inl (G.2.1 1, 96, .inl (fun j9 => nI ((zF y) j9)))), (m13, .inl (G.2.1 1, 96, .inl (fun j9 => nI ((zM y) j9)))), (m14, .inl (G.2.1 3, 96, .inl (fun j9 => bI ((zE y) j9)))), (m15, .inl (G.2.1 3, 384, .inl (fun j9 => bI ((zV y) j9)))), (m16, .inl (G.2.1 1, 9, .inl (fun j9 => nI ((zK y) j9)))), (m19, .inl (G.2.1 3, 96, .inl (fun j9 => bI ((zG y) j9))))]) 0 18 dX8_rounds_77 rfl rfl gin_X8 tyX8_ok nmX8 (by decide) kw_1022 rfl rfl (by decide +kernel) rfl rfl (Nat.le_of_ble_eq_true rfl) rfl ?_
        refine v_iload_n dX8_rounds_80 rfl 3 rfl ?_
        refine v_iconst (v := nI 2) dX8_rounds_81 (by decide) ?_
        refine n_idiv (a := 2) (b := 2) (z := 1) dX8_rounds_82 (by decide) (by omega) (by decide) rfl ?_
        refine v_istore_n (lv' := [(3, .int (nI 1)), (6, .int (nI 1)), (5, .int (nI ((((t + 2) - 1) / 2) * 2))), (4, .int (nI ((b / 2) * 2))), (0, .ref mo), (1, .int (nI b)), (2, .int (nI t))]) dX8_rounds_83 rfl (by decide) rfl ?_
        refine v_goto (tgt := 3) dX8_rounds_84 (by decide) ?_
        refine v_iload_n dX8_rounds_3 rfl 0 rfl ?_
        refine n_if_le (a := 1) (tgt := 87) dX8_rounds_4 (by decide) (by decide) (fun c => absurd c (by decide)) (fun _ => ?_)
        refine v_iload_n dX8_rounds_7 rfl 5 rfl ?_
        refine v_iload_n dX8_rounds_8 rfl 0 rfl ?_
        refine n_idiv (a := b) (b := 1) (z := b / 1) dX8_rounds_9 (by decide) (by omega) (by decide) rfl ?_
        refine v_iload_n dX8_rounds_10 rfl 0 rfl ?_
        refine n_imul (a := b / 1) (b := 1) (z := (b / 1) * 1) dX8_rounds_11 rfl ?_
        refine v_istore (lv' := [(4, .int (nI ((b / 1) * 1))), (3, .int (nI 1)), (6, .int (nI 1)), (5, .int (nI ((((t + 2) - 1) / 2) * 2))), (0, .ref mo), (1, .int (nI b)), (2, .int (nI t))]) dX8_rounds_12 (by decide) rfl ?_
        have hd1 : b / 1 * 1 ≤ b := Nat.div_mul_le_self b 1
        have hu1 : t ≤ (t + 1 - 1) / 1 * 1 := le_up (n := t) (u := 1) (by decide)
        have hv1 : (t + 1 - 1) / 1 * 1 < t + 1 := up_lt t 1 (by decide)
        refine v_iload_n dX8_rounds_14 rfl 6 rfl ?_
        refine v_iload_n dX8_rounds_15 rfl 1 rfl ?_
        refine n_iadd (a := t) (b := 1) (z := t + 1) dX8_rounds_16 rfl ?_
        refine v_iconst (v := nI 1) dX8_rounds_17 (by decide) ?_
        refine n_isub (a := t + 1) (b := 1) (z := (t + 1) - 1) dX8_rounds_18 (by omega) ?_
        refine v_iload_n dX8_rounds_19 rfl 1 rfl ?_
        refine n_idiv (a := (t + 1) - 1) (b := 1) (z := ((t + 1) - 1) / 1) dX8_rounds_20 (by decide) (by omega) (by decide) rfl ?_
        refine v_iload_n dX8_rounds_21 rfl 1 rfl ?_
        refine n_imul (a := ((t + 1) - 1) / 1) (b := 1) (z := (((t + 1) - 1) / 1) * 1) dX8_rounds_22 rfl ?_
        refine v_istore (lv' := [(5, .int (nI ((((t + 1) - 1) / 1) * 1))), (4, .int (nI ((b / 1) * 1))), (3, .int (nI 1)), (6, .int (nI 1)), (0, .ref mo), (1, .int (nI b)), (2, .int (nI t))]) dX8_rounds_23 (by decide) rfl ?_
        refine v_iload dX8_rounds_25 0 rfl ?_
        refine v_iload dX8_rounds_27 1 rfl ?_
        refine n_isub (a := (((t + 1) - 1) / 1) * 1) (b := (b / 1) * 1) (z := ((((t + 1) - 1) / 1) * 1) - ((b / 1) * 1)) dX8_rounds_29 (by omega) ?_
        refine v_bipush (v := nI 8) dX8_rounds_30 (by decide) ?_
        refine v_iload_n dX8_rounds_32 rfl 2 rfl ?_
        refine n_imul (a := 8) (b := 1) (z := 8) dX8_rounds_33 rfl ?_
        refine n_icmp_gt (a := ((((t + 1) - 1) / 1) * 1) - ((b / 1) * 1)) (b := 8) (tgt := 41) dX8_rounds_34 (by decide) (by omega) (by omega) (fun c34 => ?_) (fun c34 => ?_)
        ·
          refine v_iconst (v := nI 0) dX8_rounds_41 (by decide) ?_
          refine v_istore (lv' := [(6, .int (nI 0)), (5, .int (nI ((((t + 1) - 1) / 1) * 1))), (4, .int (nI ((b / 1) * 1))), (3, .int (nI 1)), (0, .ref mo), (1, .int (nI b)), (2, .int (nI t))]) dX8_rounds_42 (by decide) rfl ?_
          refine v_aload_n dX8_rounds_44 rfl 4 rfl ?_
          refine v_iload dX8_rounds_45 0 rfl ?_
          refine n_if_eq (a := 0) (tgt := 55) dX8_rounds_47 (by decide) (by decide) (fun _ => ?_) (fun c => absurd c (by decide))
          refine v_aload_n dX8_rounds_55 rfl 4 rfl ?_
          refine v_get (ref := "SealhouseModel") (C := RX8) (T := TX8) (N := 20) 0 17 dX8_rounds_56 rfl rfl gin_X8 (by decide) kw_1021 rfl rfl ?_
          refine v_put (ref := "SealhouseModel") (C := RX8) (T := TX8) (N := 20) (ty0 := tyX8) (t := tyX8 17) (ws' := [(mo, .inr (6, [.int (nI (zX y)), .ref m1, .ref m2, .ref m3, .ref m4, .ref m5, .ref m6, .int (nI (zD y)), .ref m8, .ref m9, .ref m10, .ref m11, .ref m12, .ref m13, .ref m14, .ref m15, .ref m16, .int (nI ((b / 2) * 2)), .int (nI ((((t + 2) - 1) / 2) * 2)), .ref m19])), (m1, .inl (G.2.1 3, 160, .inl (fun j9 => bI ((zI y) j9)))), (m2, .inl (G.2.1 1, 160, .inl (zN y))), (m3, .inl (G.2.1 1, 160, .inl (fun j9 => nI ((zB y) j9)))), (m4, .inl (G.2.1 1, 160, .inl (fun j9 => nI ((zT y) j9)))), (m5, .inl (G.2.1 1, 160, .inl (fun j9 => nI ((zP y) j9)))), (m6, .inl (G.2.1 1, 160, .inl (fun j9 => nI ((zS y) j9)))), (m8, .inl (G.2.1 1, 8, .inl (fun j9 => nI ((zR y) j9)))), (m9, .inl (G.2.1 1, 4, .inl (fun j9 => nI ((zQ y) j9)))), (m10, .inl (G.2.1 0, 96, .inl (fun j9 => nI ((zA y) j9)))), (m11, .inl (G.2.1 1, 96, .inl (fun j9 => nI ((zO y) j9)))), (m12, .inl (G.2.1 1, 96, .inl (fun j9 => nI ((zF y) j9)))), (m13, .inl (G.2.1 1, 96, .inl (fun j9 => nI ((zM y) j9)))), (m14, .inl (G.2.1 3, 96, .inl (fun j9 => bI ((zE y) j9)))), (m15, .inl (G.2.1 3, 384, .inl (fun j9 => bI ((zV y) j9)))), (m16, .inl (G.2.1 1, 9, .inl (fun j9 => nI ((zK y) j9)))), (m19, .inl (G.2.1 3, 96, .inl (fun j9 => bI ((zG y) j9))))]) 0 17 dX8_rounds_59 rfl rfl gin_X8 tyX8_ok nmX8 (by decide) kw_1021 rfl rfl (by decide +kernel) rfl rfl (Nat.le_of_ble_eq_true rfl) rfl ?_
          refine v_aload_n dX8_rounds_62 rfl 4 rfl ?_
          refine v_iload dX8_rounds_63 0 rfl ?_
          refine n_if_eq (a := 0) (tgt := 73) dX8_rounds_65 (by decide) (by decide) (fun _ => ?_) (fun c => absurd c (by decide))
          refine v_aload_n dX8_rounds_73 rfl 4 rfl ?_
          refine v_get (ref := "SealhouseModel") (C := RX8) (T := TX8) (N := 20) 0 18 dX8_rounds_74 rfl rfl gin_X8 (by decide) kw_1022 rfl rfl ?_
          refine v_put (ref := "SealhouseModel") (C := RX8) (T := TX8) (N := 20) (ty0 := tyX8) (t := tyX8 18) (ws' := [(mo, .inr (6, [.int (nI (zX y)), .ref m1, .ref m2, .ref m3, .ref m4, .ref m5, .ref m6, .int (nI (zD y)), .ref m8, .ref m9, .ref m10, .ref m11, .ref m12, .ref m13, .ref m14, .ref m15, .ref m16, .int (nI ((b / 2) * 2)), .int (nI ((((t + 2) - 1) / 2) * 2)), .ref m19])), (m1, .inl (G.2.1 3, 160, .inl (fun j9 => bI ((zI y) j9)))), (m2, .inl (G.2.1 1, 160, .inl (zN y))), (m3, .inl (G.2.1 1, 160, .inl (fun j9 => nI ((zB y) j9)))), (m4, .inl (G.2.1 1, 160, .inl (fun j9 => nI ((zT y) j9)))), (m5, .inl (G.2.1 1, 160, .inl (fun j9 => nI ((zP y) j9)))), (m6, .inl (G.2.1 1, 160, .inl (fun j9 => nI ((zS y) j9)))), (m8, .inl (G.2.1 1, 8, .inl (fun j9 => nI ((zR y) j9)))), (m9, .inl (G.2.1 1, 4, .inl (fun j9 => nI ((zQ y) j9)))), (m10, .inl (G.2.1 0, 96, .inl (fun j9 => nI ((zA y) j9)))), (m11, .inl (G.2.1 1, 96, .inl (fun j9 => nI ((zO y) j9)))), (m12, .inl (G.2.1 1, 96, .inl (fun j9 => nI ((zF y) j9)))), (m13, .inl (G.2.1 1, 96, .inl (fun j9 => nI ((zM y) j9)))), (m14, .inl (G.2.1 3, 96, .inl (fun j9 => bI ((zE y) j9)))), (m15, .inl (G.2.1 3, 384, .inl (fun j9 => bI ((zV y) j9)))), (m16, .inl (G.2.1 1, 9, .inl (fun j9 => nI ((zK y) j9)))), (m19, .inl (G.2.1 3, 96, .inl (fun j9 => bI ((zG y) j9))))]) 0 18 dX8_rounds_77 rfl rfl gin_X8 tyX8_ok nmX8 (by decide) kw_1022 rfl rfl (by decide +kernel) rfl rfl (Nat.le_of_ble_eq_true rfl) rfl ?_
          refine v_iload_n dX8_rounds_80 rfl 3 rfl ?_
          refine v_iconst (v := nI 2) dX8_rounds_81 (by decide) ?_
          refine n_idiv (a := 1) (b := 2) (z := 0) dX8_rounds_82 (by decide) (by omega) (by decide) rfl ?_
          refine v_istore_n (lv' := [(3, .int (nI 0)), (6, .int (nI 0)), (5, .int (nI ((((t + 1) - 1) / 1) * 1))), (4, .int (nI ((b / 1) * 1))), (0, .ref mo), (1, .int (nI b)), (2, .int (nI t))]) dX8_rounds_83 rfl (by decide) rfl ?_
          refine v_goto (tgt := 3) dX8_rounds_84 (by decide) ?_
          refine v_iload_n dX8_rounds_3 rfl 0 rfl ?_
          refine n_if_le (a := 0) (tgt := 87) dX8_rounds_4 (by decide) (by decide) (fun _ => ?_) (fun c => absurd c (by decide))
          exact v_vret hR dX8_rounds_87 (by refine ⟨rfl, ?_⟩; unfold rndY; first | (rw [unit_1 (by unfold dn up; omega)]; rfl) | (rw [unit_2 (by unfold dn up; omega) (by unfold dn up; omega)]; rfl) | (rw [unit_4 (by unfold dn up; omega) (by unfold dn up; omega) (by unfold dn up; omega)]; rfl) | (rw [unit_8 (by unfold dn up; omega) (by unfold dn up; omega) (by unfold dn up; omega) (by unfold dn up; omega)]; rfl) | (rw [unit_16 (by unfold dn up; omega) (by unfold dn up; omega) (by unfold dn up; omega) (by unfold dn up; omega)]; rfl))
        ·
          refine v_iconst (v := nI 1) dX8_rounds_37 (by decide) ?_
          refine v_goto (tgt := 42) dX8_rounds_38 (by decide) ?_
          refine v_istore (lv' := [(6, .int (nI 1)), (5, .int (nI ((((t + 1) - 1) / 1) * 1))), (4, .int (nI ((b / 1) * 1))), (3, .int (nI 1)), (0, .ref mo), (1, .int (nI b)), (2, .int (nI t))]) dX8_rounds_42 (by decide) rfl ?_
          refine v_aload_n dX8_rounds_44 rfl 4 rfl ?_
          refine v_iload dX8_rounds_45 0 rfl ?_
          refine n_if_eq (a := 1) (tgt := 55) dX8_rounds_47 (by decide) (by decide) (fun c => absurd c (by decide)) (fun _ => ?_)
          refine v_iload dX8_rounds_50 2 rfl ?_
          refine v_goto (tgt := 59) dX8_rounds_52 (by decide) ?_
          refine v_put (ref := "SealhouseModel") (C := RX8) (T := TX8) (N := 20) (ty0 := tyX8) (t := tyX8 17) (ws' := [(mo, .inr (6, [.int (nI (zX y)), .ref m1, .ref m2, .ref m3, .ref m4, .ref m5, .ref m6, .int (nI (zD y)), .ref m8, .ref m9, .ref m10, .ref m11, .ref m12, .ref m13, .ref m14, .ref m15, .ref m16, .int (nI ((b / 1) * 1)), .int (nI ((((t + 2) - 1) / 2) * 2)), .ref m19])), (m1, .inl (G.2.1 3, 160, .inl (fun j9 => bI ((zI y) j9)))), (m2, .inl (G.2.1 1, 160, .inl (zN y))), (m3, .inl (G.2.1 1, 160, .inl (fun j9 => nI ((zB y) j9)))), (m4, .inl (G.2.1 1, 160, .inl (fun j9 => nI ((zT y) j9)))), (m5, .inl (G.2.1 1, 160, .inl (fun j9 => nI ((zP y) j9)))), (m6, .inl (G.2.1 1, 160, .inl (fun j9 => nI ((zS y) j9)))), (m8, .inl (G.2.1 1, 8, .inl (fun j9 => nI ((zR y) j9)))), (m9, .inl (G.2.1 1, 4, .inl (fun j9 => nI ((zQ y) j9)))), (m10, .inl (G.2.1 0, 96, .inl (fun j9 => nI ((zA y) j9)))), (m11, .inl (G.2.1 1, 96, .inl (fun j9 => nI ((zO y) j9)))), (m12, .inl (G.2.1 1, 96, .inl (fun j9 => nI ((zF y) j9)))), (m13, .inl (G.2.1 1, 96, .inl (fun j9 => nI ((zM y) j9)))), (m14, .inl (G.2.1 3, 96, .inl (fun j9 => bI ((zE y) j9)))), (m15, .inl (G.2.1 3, 384, .inl (fun j9 => bI ((zV y) j9)))), (m16, .inl (G.2.1 1, 9, .inl (fun j9 => nI ((zK y) j9)))), (m19, .inl (G.2.1 3, 96, .inl (fun j9 => bI ((zG y) j9))))]) 0 17 dX8_rounds_59 rfl rfl gin_X8 tyX8_ok nmX8 (by decide) kw_1021 rfl rfl (by decide +kernel) rfl rfl (Nat.le_of_ble_eq_true rfl) rfl ?_
          refine v_aload_n dX8_rounds_62 rfl 4 rfl ?_
          refine v_iload dX8_rounds_63 0 rfl ?_
          refine n_if_eq (a := 1) (tgt := 73) dX8_rounds_65 (by decide) (by decide) (fun c => absurd c (by decide)) (fun _ => ?_)
          refine v_iload dX8_rounds_68 1 rfl ?_
          refine v_goto (tgt := 77) dX8_rounds_70 (by decide) ?_
          refine v_put (ref := "SealhouseModel") (C := RX8) (T := TX8) (N := 20) (ty0 := tyX8) (t := tyX8 18) (ws' := [(mo, .inr (6, [.int (nI (zX y)), .ref m1, .ref m2, .ref m3, .ref m4, .ref m5, .ref m6, .int (nI (zD y)), .ref m8, .ref m9, .ref m10, .ref m11, .ref m12, .ref m13, .ref m14, .ref m15, .ref m16, .int (nI ((b / 1) * 1)), .int (nI ((((t + 1) - 1) / 1) * 1)), .ref m19])), (m1, .inl (G.2.1 3, 160, .inl (fun j9 => bI ((zI y) j9)))), (m2, .inl (G.2.1 1, 160, .inl (zN y))), (m3, .inl (G.2.1 1, 160, .inl (fun j9 => nI ((zB y) j9)))), (m4, .inl (G.2.1 1, 160, .inl (fun j9 => nI ((zT y) j9)))), (m5, .inl (G.2.1 1, 160, .inl (fun j9 => nI ((zP y) j9)))), (m6, .inl (G.2.1 1, 160, .inl (fun j9 => nI ((zS y) j9)))), (m8, .inl (G.2.1 1, 8, .inl (fun j9 => nI ((zR y) j9)))), (m9, .inl (G.2.1 1, 4, .inl (fun j9 => nI ((zQ y) j9)))), (m10, .inl (G.2.1 0, 96, .inl (fun j9 => nI ((zA y) j9)))), (m11, .inl (G.2.1 1, 96, .inl (fun j9 => nI ((zO y) j9)))), (m12, .inl (G.2.1 1, 96, .inl (fun j9 => nI ((zF y) j9)))), (m13, .inl (G.2.1 1, 96, .inl (fun j9 => nI ((zM y) j9)))), (m14, .inl (G.2.1 3, 96, .inl (fun j9 => bI ((zE y) j9)))), (m15, .inl (G.2.1 3, 384, .inl (fun j9 => bI ((zV y) j9)))), (m16, .inl (G.2.1 1, 9, .inl (fun j9 => nI ((zK y) j9)))), (m19, .inl (G.2.1 3, 96, .inl (fun j9 => bI ((zG y) j9))))]) 0 18 dX8_rounds_77 rfl rfl gin_X8 tyX8_ok nmX8 (by decide) kw_1022 rfl rfl (by decide +kernel) rfl rfl (Nat.le_of_ble_eq_true rfl) rfl ?_
          refine v_iload_n dX8_rounds_80 rfl 3 rfl ?_
          refine v_iconst (v := nI 2) dX8_rounds_81 (by decide) ?_
          refine n_idiv (a := 1) (b := 2) (z := 0) dX8_rounds_82 (by decide) (by omega) (by decide) rfl ?_
          refine v_istore_n (lv' := [(3, .int (nI 0)), (6, .int (nI 1)), (5, .int (nI ((((t + 1) - 1) / 1) * 1))), (4, .int (nI ((b / 1) * 1))), (0, .ref mo), (1, .int (nI b)), (2, .int (nI t))]) dX8_rounds_83 rfl (by decide) rfl ?_
          refine v_goto (tgt := 3) dX8_rounds_84 (by decide) ?_
          refine v_iload_n dX8_rounds_3 rfl 0 rfl ?_
          refine n_if_le (a := 0) (tgt := 87) dX8_rounds_4 (by decide) (by decide) (fun _ => ?_) (fun c => absurd c (by decide))
          exact v_vret hR dX8_rounds_87 (by refine ⟨rfl, ?_⟩; unfold rndY; first | (rw [unit_1 (by unfold dn up; omega)]; rfl) | (rw [unit_2 (by unfold dn up; omega) (by unfold dn up; omega)]; rfl) | (rw [unit_4 (by unfold dn up; omega) (by unfold dn up; omega) (by unfold dn up; omega)]; rfl) | (rw [unit_8 (by unfold dn up; omega) (by unfold dn up; omega) (by unfold dn up; omega) (by unfold dn up; omega)]; rfl) | (rw [unit_16 (by unfold dn up; omega) (by unfold dn up; omega) (by unfold dn up; omega) (by unfold dn up; omega)]; rfl))
  ·
    refine v_iconst (v := nI 1) dX8_rounds_37 (by decide) ?_
    refine v_goto (tgt := 42) dX8_rounds_38 (by decide) ?_
    refine v_istore (lv' := [(6, .int (nI 1)), (5, .int (nI ((((t + 8) - 1) / 8) * 8))), (4, .int (nI ((b / 8) * 8))), (3, .int (nI 8)), (0, .ref mo), (1, .int (nI b)), (2, .int (nI t))]) dX8_rounds_42 (by decide) rfl ?_
    refine v_aload_n dX8_rounds_44 rfl 4 rfl ?_
    refine v_iload dX8_rounds_45 0 rfl ?_
    refine n_if_eq (a := 1) (tgt := 55) dX8_rounds_47 (by decide) (by decide) (fun c => absurd c (by decide)) (fun _ => ?_)
    refine v_iload dX8_rounds_50 2 rfl ?_
    refine v_goto (tgt := 59) dX8_rounds_52 (by decide) ?_
    refine v_put (ref := "SealhouseModel") (C := RX8) (T := TX8) (N := 20) (ty0 := tyX8) (t := tyX8 17) (ws' := [(mo, .inr (6, [.int (nI (zX y)), .ref m1, .ref m2, .ref m3, .ref m4, .ref m5, .ref m6, .int (nI (zD y)), .ref m8, .ref m9, .ref m10, .ref m11, .ref m12, .ref m13, .ref m14, .ref m15, .ref m16, .int (nI ((b / 8) * 8)), .int (nI ((((t + 16) - 1) / 16) * 16)), .ref m19])), (m1, .inl (G.2.1 3, 160, .inl (fun j9 => bI ((zI y) j9)))), (m2, .inl (G.2.1 1, 160, .inl (zN y))), (m3, .inl (G.2.1 1, 160, .inl (fun j9 => nI ((zB y) j9)))), (m4, .inl (G.2.1 1, 160, .inl (fun j9 => nI ((zT y) j9)))), (m5, .inl (G.2.1 1, 160, .inl (fun j9 => nI ((zP y) j9)))), (m6, .inl (G.2.1 1, 160, .inl (fun j9 => nI ((zS y) j9)))), (m8, .inl (G.2.1 1, 8, .inl (fun j9 => nI ((zR y) j9)))), (m9, .inl (G.2.1 1, 4, .inl (fun j9 => nI ((zQ y) j9)))), (m10, .inl (G.2.1 0, 96, .inl (fun j9 => nI ((zA y) j9)))), (m11, .inl (G.2.1 1, 96, .inl (fun j9 => nI ((zO y) j9)))), (m12, .inl (G.2.1 1, 96, .inl (fun j9 => nI ((zF y) j9)))), (m13, .inl (G.2.1 1, 96, .inl (fun j9 => nI ((zM y) j9)))), (m14, .inl (G.2.1 3, 96, .inl (fun j9 => bI ((zE y) j9)))), (m15, .inl (G.2.1 3, 384, .inl (fun j9 => bI ((zV y) j9)))), (m16, .inl (G.2.1 1, 9, .inl (fun j9 => nI ((zK y) j9)))), (m19, .inl (G.2.1 3, 96, .inl (fun j9 => bI ((zG y) j9))))]) 0 17 dX8_rounds_59 rfl rfl gin_X8 tyX8_ok nmX8 (by decide) kw_1021 rfl rfl (by decide +kernel) rfl rfl (Nat.le_of_ble_eq_true rfl) rfl ?_
    refine v_aload_n dX8_rounds_62 rfl 4 rfl ?_
    refine v_iload dX8_rounds_63 0 rfl ?_
    refine n_if_eq (a := 1) (tgt := 73) dX8_rounds_65 (by decide) (by decide) (fun c => absurd c (by decide)) (fun _ => ?_)
    refine v_iload dX8_rounds_68 1 rfl ?_
    refine v_goto (tgt := 77) dX8_rounds_70 (by decide) ?_
    refine v_put (ref := "SealhouseModel") (C := RX8) (T := TX8) (N := 20) (ty0 := tyX8) (t := tyX8 18) (ws' := [(mo, .inr (6, [.int (nI (zX y)), .ref m1, .ref m2, .ref m3, .ref m4, .ref m5, .ref m6, .int (nI (zD y)), .ref m8, .ref m9, .ref m10, .ref m11, .ref m12, .ref m13, .ref m14, .ref m15, .ref m16, .int (nI ((b / 8) * 8)), .int (nI ((((t + 8) - 1) / 8) * 8)), .ref m19])), (m1, .inl (G.2.1 3, 160, .inl (fun j9 => bI ((zI y) j9)))), (m2, .inl (G.2.1 1, 160, .inl (zN y))), (m3, .inl (G.2.1 1, 160, .inl (fun j9 => nI ((zB y) j9)))), (m4, .inl (G.2.1 1, 160, .inl (fun j9 => nI ((zT y) j9)))), (m5, .inl (G.2.1 1, 160, .inl (fun j9 => nI ((zP y) j9)))), (m6, .inl (G.2.1 1, 160, .inl (fun j9 => nI ((zS y) j9)))), (m8, .inl (G.2.1 1, 8, .inl (fun j9 => nI ((zR y) j9)))), (m9, .inl (G.2.1 1, 4, .inl (fun j9 => nI ((zQ y) j9)))), (m10, .inl (G.2.1 0, 96, .inl (fun j9 => nI ((zA y) j9)))), (m11, .inl (G.2.1 1, 96, .inl (fun j9 => nI ((zO y) j9)))), (m12, .inl (G.2.1 1, 96, .inl (fun j9 => nI ((zF y) j9)))), (m13, .inl (G.2.1 1, 96, .inl (fun j9 => nI ((zM y) j9)))), (m14, .inl (G.2.1 3, 96, .inl (fun j9 => bI ((zE y) j9)))), (m15, .inl (G.2.1 3, 384, .inl (fun j9 => bI ((zV y) j9)))), (m16, .inl (G.2.1 1, 9, .inl (fun j9 => nI ((zK y) j9)))), (m19, .inl (G.2.1 3, 96, .inl (fun j9 => bI ((zG y) j9))))]) 0 18 dX8_rounds_77 rfl rfl gin_X8 tyX8_ok nmX8 (by decide) kw_1022 rfl rfl (by decide +kernel) rfl rfl (Nat.le_of_ble_eq_true rfl) rfl ?_
    refine v_iload_n dX8_rounds_80 rfl 3 rfl ?_
    refine v_iconst (v := nI 2) dX8_rounds_81 (by decide) ?_
    refine n_idiv (a := 8) (b := 2) (z := 4) dX8_rounds_82 (by decide) (by omega) (by decide) rfl ?_
    refine v_istore_n (lv' := [(3, .int (nI 4)), (6, .int (nI 1)), (5, .int (nI ((((t + 8) - 1) / 8) * 8))), (4, .int (nI ((b / 8) * 8))), (0, .ref mo), (1, .int (nI b)), (2, .int (nI t))]) dX8_rounds_83 rfl (by decide) rfl ?_
    refine v_goto (tgt := 3) dX8_rounds_84 (by decide) ?_
    refine v_iload_n dX8_rounds_3 rfl 0 rfl ?_
    refine n_if_le (a := 4) (tgt := 87) dX8_rounds_4 (by decide) (by decide) (fun c => absurd c (by decide)) (fun _ => ?_)
    refine v_iload_n dX8_rounds_7 rfl 5 rfl ?_
    refine v_iload_n dX8_rounds_8 rfl 0 rfl ?_
    refine n_idiv (a := b) (b := 4) (z := b / 4) dX8_rounds_9 (by decide) (by omega) (by decide) rfl ?_
    refine v_iload_n dX8_rounds_10 rfl 0 rfl ?_
    refine n_imul (a := b / 4) (b := 4) (z := (b / 4) * 4) dX8_rounds_11 rfl ?_
    refine v_istore (lv' := [(4, .int (nI ((b / 4) * 4))), (3, .int (nI 4)), (6, .int (nI 1)), (5, .int (nI ((((t + 8) - 1) / 8) * 8))), (0, .ref mo), (1, .int (nI b)), (2, .int (nI t))]) dX8_rounds_12 (by decide) rfl ?_
    have hd4 : b / 4 * 4 ≤ b := Nat.div_mul_le_self b 4
    have hu4 : t ≤ (t + 4 - 1) / 4 * 4 := le_up (n := t) (u := 4) (by decide)
    have hv4 : (t + 4 - 1) / 4 * 4 < t + 4 := up_lt t 4 (by decide)
    refine v_iload_n dX8_rounds_14 rfl 6 rfl ?_
    refine v_iload_n dX8_rounds_15 rfl 1 rfl ?_
    refine n_iadd (a := t) (b := 4) (z := t + 4) dX8_rounds_16 rfl ?_
    refine v_iconst (v := nI 1) dX8_rounds_17 (by decide) ?_
    refine n_isub (a := t + 4) (b := 1) (z := (t + 4) - 1) dX8_rounds_18 (by omega) ?_
    refine v_iload_n dX8_rounds_19 rfl 1 rfl ?_
    refine n_idiv (a := (t + 4) - 1) (b := 4) (z := ((t + 4) - 1) / 4) dX8_rounds_20 (by decide) (by omega) (by decide) rfl ?_
    refine v_iload_n dX8_rounds_21 rfl 1 rfl ?_
    refine n_imul (a := ((t + 4) - 1) / 4) (b := 4) (z := (((t + 4) - 1) / 4) * 4) dX8_rounds_22 rfl ?_
    refine v_istore (lv' := [(5, .int (nI ((((t + 4) - 1) / 4) * 4))), (4, .int (nI ((b / 4) * 4))), (3, .int (nI 4)), (6, .int (nI 1)), (0, .ref mo), (1, .int (nI b)), (2, .int (nI t))]) dX8_rounds_23 (by decide) rfl ?_
    refine v_iload dX8_rounds_25 0 rfl ?_
    refine v_iload dX8_rounds_27 1 rfl ?_
    refine n_isub (a := (((t + 4) - 1) / 4) * 4) (b := (b / 4) * 4) (z := ((((t + 4) - 1) / 4) * 4) - ((b / 4) * 4)) dX8_rounds_29 (by omega) ?_
    refine v_bipush (v := nI 8) dX8_rounds_30 (by decide) ?_
    refine v_iload_n dX8_rounds_32 rfl 2 rfl ?_
    refine n_imul (a := 8) (b := 4) (z := 32) dX8_rounds_33 rfl ?_
    refine n_icmp_gt (a := ((((t + 4) - 1) / 4) * 4) - ((b / 4) * 4)) (b := 32) (tgt := 41) dX8_rounds_34 (by decide) (by omega) (by omega) (fun c34 => ?_) (fun c34 => ?_)
    ·
      refine v_iconst (v := nI 0) dX8_rounds_41 (by decide) ?_
      refine v_istore (lv' := [(6, .int (nI 0)), (5, .int (nI ((((t + 4) - 1) / 4) * 4))), (4, .int (nI ((b / 4) * 4))), (3, .int (nI 4)), (0, .ref mo), (1, .int (nI b)), (2, .int (nI t))]) dX8_rounds_42 (by decide) rfl ?_
      refine v_aload_n dX8_rounds_44 rfl 4 rfl ?_
      refine v_iload dX8_rounds_45 0 rfl ?_
      refine n_if_eq (a := 0) (tgt := 55) dX8_rounds_47 (by decide) (by decide) (fun _ => ?_) (fun c => absurd c (by decide))
      refine v_aload_n dX8_rounds_55 rfl 4 rfl ?_
      refine v_get (ref := "SealhouseModel") (C := RX8) (T := TX8) (N := 20) 0 17 dX8_rounds_56 rfl rfl gin_X8 (by decide) kw_1021 rfl rfl ?_
      refine v_put (ref := "SealhouseModel") (C := RX8) (T := TX8) (N := 20) (ty0 := tyX8) (t := tyX8 17) (ws' := [(mo, .inr (6, [.int (nI (zX y)), .ref m1, .ref m2, .ref m3, .ref m4, .ref m5, .ref m6, .int (nI (zD y)), .ref m8, .ref m9, .ref m10, .ref m11, .ref m12, .ref m13, .ref m14, .ref m15, .ref m16, .int (nI ((b / 8) * 8)), .int (nI ((((t + 8) - 1) / 8) * 8)), .ref m19])), (m1, .inl (G.2.1 3, 160, .inl (fun j9 => bI ((zI y) j9)))), (m2, .inl (G.2.1 1, 160, .inl (zN y))), (m3, .inl (G.2.1 1, 160, .inl (fun j9 => nI ((zB y) j9)))), (m4, .inl (G.2.1 1, 160, .inl (fun j9 => nI ((zT y) j9)))), (m5, .inl (G.2.1 1, 160, .inl (fun j9 => nI ((zP y) j9)))), (m6, .inl (G.2.1 1, 160, .inl (fun j9 => nI ((zS y) j9)))), (m8, .inl (G.2.1 1, 8, .inl (fun j9 => nI ((zR y) j9)))), (m9, .inl (G.2.1 1, 4, .inl (fun j9 => nI ((zQ y) j9)))), (m10, .inl (G.2.1 0, 96, .inl (fun j9 => nI ((zA y) j9)))), (m11, .inl (G.2.1 1, 96, .inl (fun j9 => nI ((zO y) j9)))), (m12, .inl (G.2.1 1, 96, .inl (fun j9 => nI ((zF y) j9)))), (m13, .inl (G.2.1 1, 96, .inl (fun j9 => nI ((zM y) j9)))), (m14, .inl (G.2.1 3, 96, .inl (fun j9 => bI ((zE y) j9)))), (m15, .inl (G.2.1 3, 384, .inl (fun j9 => bI ((zV y) j9)))), (m16, .inl (G.2.1 1, 9, .inl (fun j9 => nI ((zK y) j9)))), (m19, .inl (G.2.1 3, 96, .inl (fun j9 => bI ((zG y) j9))))]) 0 17 dX8_rounds_59 rfl rfl gin_X8 tyX8_ok nmX8 (by decide) kw_1021 rfl rfl (by decide +kernel) rfl rfl (Nat.le_of_ble_eq_true rfl) rfl ?_
      refine v_aload_n dX8_rounds_62 rfl 4 rfl ?_
      refine v_iload dX8_rounds_63 0 rfl ?_
      refine n_if_eq (a := 0) (tgt := 73) dX8_rounds_65 (by decide) (by decide) (fun _ => ?_) (fun c => absurd c (by decide))
      refine v_aload_n dX8_rounds_73 rfl 4 rfl ?_
      refine v_get (ref := "SealhouseModel") (C := RX8) (T := TX8) (N := 20) 0 18 dX8_rounds_74 rfl rfl gin_X8 (by decide) kw_1022 rfl rfl ?_
      refine v_put (ref := "SealhouseModel") (C := RX8) (T := TX8) (N := 20) (ty0 := tyX8) (t := tyX8 18) (ws' := [(mo, .inr (6, [.int (nI (zX y)), .ref m1, .ref m2, .ref m3, .ref m4, .ref m5, .ref m6, .int (nI (zD y)), .ref m8, .ref m9, .ref m10, .ref m11, .ref m12, .ref m13, .ref m14, .ref m15, .ref m16, .int (nI ((b / 8) * 8)), .int (nI ((((t + 8) - 1) / 8) * 8)), .ref m19])), (m1, .inl (G.2.1 3, 160, .inl (fun j9 => bI ((zI y) j9)))), (m2, .inl (G.2.1 1, 160, .inl (zN y))), (m3, .inl (G.2.1 1, 160, .inl (fun j9 => nI ((zB y) j9)))), (m4, .inl (G.2.1 1, 160, .inl (fun j9 => nI ((zT y) j9)))), (m5, .inl (G.2.1 1, 160, .inl (fun j9 => nI ((zP y) j9)))), (m6, .inl (G.2.1 1, 160, .inl (fun j9 => nI ((zS y) j9)))), (m8, .inl (G.2.1 1, 8, .inl (fun j9 => nI ((zR y) j9)))), (m9, .inl (G.2.1 1, 4, .inl (fun j9 => nI ((zQ y) j9)))), (m10, .inl (G.2.1 0, 96, .inl (fun j9 => nI ((zA y) j9)))), (m11, .inl (G.2.1 1, 96, .inl (fun j9 => nI ((zO y) j9)))), (m12, .inl (G.2.1 1, 96, .inl (fun j9 => nI ((zF y) j9)))), (m13, .inl (G.2.1 1, 96, .inl (fun j9 => nI ((zM y) j9)))), (m14, .inl (G.2.1 3, 96, .inl (fun j9 => bI ((zE y) j9)))), (m15, .inl (G.2.1 3, 384, .inl (fun j9 => bI ((zV y) j9)))), (m16, .inl (G.2.1 1, 9, .inl (fun j9 => nI ((zK y) j9)))), (m19, .inl (G.2.1 3, 96, .inl (fun j9 => bI ((zG y) j9))))]) 0 18 dX8_rounds_77 rfl rfl gin_X8 tyX8_ok nmX8 (by decide) kw_1022 rfl rfl (by decide +kernel) rfl rfl (Nat.le_of_ble_eq_true rfl) rfl ?_
      refine v_iload_n dX8_rounds_80 rfl 3 rfl ?_
      refine v_iconst (v := nI 2) dX8_rounds_81 (by decide) ?_
      refine n_idiv (a := 4) (b := 2) (z := 2) dX8_rounds_82 (by decide) (by omega) (by decide) rfl ?_
      refine v_istore_n (lv' := [(3, .int (nI 2)), (6, .int (nI 0)), (5, .int (nI ((((t + 4) - 1) / 4) * 4))), (4, .int (nI ((b / 4) * 4))), (0, .ref mo), (1, .int (nI b)), (2, .int (nI t))]) dX8_rounds_83 rfl (by decide) rfl ?_
      refine v_goto (tgt := 3) dX8_rounds_84 (by decide) ?_
      refine v_iload_n dX8_rounds_3 rfl 0 rfl ?_
      refine n_if_le (a := 2) (tgt := 87) dX8_rounds_4 (by decide) (by decide) (fun c => absurd c (by decide)) (fun _ => ?_)
      refine v_iload_n dX8_rounds_7 rfl 5 rfl ?_
      refine v_iload_n dX8_rounds_8 rfl 0 rfl ?_
      refine n_idiv (a := b) (b := 2) (z := b / 2) dX8_rounds_9 (by decide) (by omega) (by decide) rfl ?_
      refine v_iload_n dX8_rounds_10 rfl 0 rfl ?_
      refine n_imul (a := b / 2) (b := 2) (z := (b / 2) * 2) dX8_rounds_11 rfl ?_
      refine v_istore (lv' := [(4, .int (nI ((b / 2) * 2))), (3, .int (nI 2)), (6, .int (nI 0)), (5, .int (nI ((((t + 4) - 1) / 4) * 4))), (0, .ref mo), (1, .int (nI b)), (2, .int (nI t))]) dX8_rounds_12 (by decide) rfl ?_
      have hd2 : b / 2 * 2 ≤ b := Nat.div_mul_le_self b 2
      have hu2 : t ≤ (t + 2 - 1) / 2 * 2 := le_up (n := t) (u := 2) (by decide)
      have hv2 : (t + 2 - 1) / 2 * 2 < t + 2 := up_lt t 2 (by decide)
      refine v_iload_n dX8_rounds_14 rfl 6 rfl ?_
      refine v_iload_n dX8_rounds_15 rfl 1 rfl ?_
      refine n_iadd (a := t) (b := 2) (z := t + 2) dX8_rounds_16 rfl ?_
      refine v_iconst (v := nI 1) dX8_rounds_17 (by decide) ?_
      refine n_isub (a := t + 2) (b := 1) (z := (t + 2) - 1) dX8_rounds_18 (by omega) ?_
      refine v_iload_n dX8_rounds_19 rfl 1 rfl ?_
      refine n_idiv (a := (t + 2) - 1) (b := 2) (z := ((t + 2) - 1) / 2) dX8_rounds_20 (by decide) (by omega) (by decide) rfl ?_
      refine v_iload_n dX8_rounds_21 rfl 1 rfl ?_
      refine n_imul (a := ((t + 2) - 1) / 2) (b := 2) (z := (((t + 2) - 1) / 2) * 2) dX8_rounds_22 rfl ?_
      refine v_istore (lv' := [(5, .int (nI ((((t + 2) - 1) / 2) * 2))), (4, .int (nI ((b / 2) * 2))), (3, .int (nI 2)), (6, .int (nI 0)), (0, .ref mo), (1, .int (nI b)), (2, .int (nI t))]) dX8_rounds_23 (by decide) rfl ?_
      refine v_iload dX8_rounds_25 0 rfl ?_
      refine v_iload dX8_rounds_27 1 rfl ?_
      refine n_isub (a := (((t + 2) - 1) / 2) * 2) (b := (b / 2) * 2) (z := ((((t + 2) - 1) / 2) * 2) - ((b / 2) * 2)) dX8_rounds_29 (by omega) ?_
      refine v_bipush (v := nI 8) dX8_rounds_30 (by decide) ?_
      refine v_iload_n dX8_rounds_32 rfl 2 rfl ?_
      refine n_imul (a := 8) (b := 2) (z := 16) dX8_rounds_33 rfl ?_
      refine n_icmp_gt (a := ((((t + 2) - 1) / 2) * 2) - ((b / 2) * 2)) (b := 16) (tgt := 41) dX8_rounds_34 (by decide) (by omega) (by omega) (fun c34 => ?_) (fun c34 => ?_)
      ·
        refine v_iconst (v := nI 0) dX8_rounds_41 (by decide) ?_
        refine v_istore (lv' := [(6, .int (nI 0)), (5, .int (nI ((((t + 2) - 1) / 2) * 2))), (4, .int (nI ((b / 2) * 2))), (3, .int (nI 2)), (0, .ref mo), (1, .int (nI b)), (2, .int (nI t))]) dX8_rounds_42 (by decide) rfl ?_
        refine v_aload_n dX8_rounds_44 rfl 4 rfl ?_
        refine v_iload dX8_rounds_45 0 rfl ?_
        refine n_if_eq (a := 0) (tgt := 55) dX8_rounds_47 (by decide) (by decide) (fun _ => ?_) (fun c => absurd c (by decide))
        refine v_aload_n dX8_rounds_55 rfl 4 rfl ?_
        refine v_get (ref := "SealhouseModel") (C := RX8) (T := TX8) (N := 20) 0 17 dX8_rounds_56 rfl rfl gin_X8 (by decide) kw_1021 rfl rfl ?_
        refine v_put (ref := "SealhouseModel") (C := RX8) (T := TX8) (N := 20) (ty0 := tyX8) (t := tyX8 17) (ws' := [(mo, .inr (6, [.int (nI (zX y)), .ref m1, .ref m2, .ref m3, .ref m4, .ref m5, .ref m6, .int (nI (zD y)), .ref m8, .ref m9, .ref m10, .ref m11, .ref m12, .ref m13, .ref m14, .ref m15, .ref m16, .int (nI ((b / 8) * 8)), .int (nI ((((t + 8) - 1) / 8) * 8)), .ref m19])), (m1, .inl (G.2.1 3, 160, .inl (fun j9 => bI ((zI y) j9)))), (m2, .inl (G.2.1 1, 160, .inl (zN y))), (m3, .inl (G.2.1 1, 160, .inl (fun j9 => nI ((zB y) j9)))), (m4, .inl (G.2.1 1, 160, .inl (fun j9 => nI ((zT y) j9)))), (m5, .inl (G.2.1 1, 160, .inl (fun j9 => nI ((zP y) j9)))), (m6, .inl (G.2.1 1, 160, .inl (fun j9 => nI ((zS y) j9)))), (m8, .inl (G.2.1 1, 8, .inl (fun j9 => nI ((zR y) j9)))), (m9, .inl (G.2.1 1, 4, .inl (fun j9 => nI ((zQ y) j9)))), (m10, .inl (G.2.1 0, 96, .inl (fun j9 => nI ((zA y) j9)))), (m11, .inl (G.2.1 1, 96, .inl (fun j9 => nI ((zO y) j9)))), (m12, .inl (G.2.1 1, 96, .inl (fun j9 => nI ((zF y) j9)))), (m13, .inl (G.2.1 1, 96, .inl (fun j9 => nI ((zM y) j9)))), (m14, .inl (G.2.1 3, 96, .inl (fun j9 => bI ((zE y) j9)))), (m15, .inl (G.2.1 3, 384, .inl (fun j9 => bI ((zV y) j9)))), (m16, .inl (G.2.1 1, 9, .inl (fun j9 => nI ((zK y) j9)))), (m19, .inl (G.2.1 3, 96, .inl (fun j9 => bI ((zG y) j9))))]) 0 17 dX8_rounds_59 rfl rfl gin_X8 tyX8_ok nmX8 (by decide) kw_1021 rfl rfl (by decide +kernel) rfl rfl (Nat.le_of_ble_eq_true rfl) rfl ?_
        refine v_aload_n dX8_rounds_62 rfl 4 rfl ?_
        refine v_iload dX8_rounds_63 0 rfl ?_
        refine n_if_eq (a := 0) (tgt := 73) dX8_rounds_65 (by decide) (by decide) (fun _ => ?_) (fun c => absurd c (by decide))
        refine v_aload_n dX8_rounds_73 rfl 4 rfl ?_
        refine v_get (ref := "SealhouseModel") (C := RX8) (T := TX8) (N := 20) 0 18 dX8_rounds_74 rfl rfl gin_X8 (by decide) kw_1022 rfl rfl ?_
        refine v_put (ref := "SealhouseModel") (C := RX8) (T := TX8) (N := 20) (ty0 := tyX8) (t := tyX8 18) (ws' := [(mo, .inr (6, [.int (nI (zX y)), .ref m1, .ref m2, .ref m3, .ref m4, .ref m5, .ref m6, .int (nI (zD y)), .ref m8, .ref m9, .ref m10, .ref m11, .ref m12, .ref m13, .ref m14, .ref m15, .ref m16, .int (nI ((b / 8) * 8)), .int (nI ((((t + 8) - 1) / 8) * 8)), .ref m19])), (m1, .inl (G.2.1 3, 160, .inl (fun j9 => bI ((zI y) j9)))), (m2, .inl (G.2.1 1, 160, .inl (zN y))), (m3, .inl (G.2.1 1, 160, .inl (fun j9 => nI ((zB y) j9)))), (m4, .inl (G.2.1 1, 160, .inl (fun j9 => nI ((zT y) j9)))), (m5, .inl (G.2.1 1, 160, .inl (fun j9 => nI ((zP y) j9)))), (m6, .inl (G.2.1 1, 160, .inl (fun j9 => nI ((zS y) j9)))), (m8, .inl (G.2.1 1, 8, .inl (fun j9 => nI ((zR y) j9)))), (m9, .inl (G.2.1 1, 4, .inl (fun j9 => nI ((zQ y) j9)))), (m10, .inl (G.2.1 0, 96, .inl (fun j9 => nI ((zA y) j9)))), (m11, .inl (G.2.1 1, 96, .inl (fun j9 => nI ((zO y) j9)))), (m12, .inl (G.2.1 1, 96, .inl (fun j9 => nI ((zF y) j9)))), (m13, .inl (G.2.1 1, 96, .inl (fun j9 => nI ((zM y) j9)))), (m14, .inl (G.2.1 3, 96, .inl (fun j9 => bI ((zE y) j9)))), (m15, .inl (G.2.1 3, 384, .inl (fun j9 => bI ((zV y) j9)))), (m16, .inl (G.2.1 1, 9, .inl (fun j9 => nI ((zK y) j9)))), (m19, .inl (G.2.1 3, 96, .inl (fun j9 => bI ((zG y) j9))))]) 0 18 dX8_rounds_77 rfl rfl gin_X8 tyX8_ok nmX8 (by decide) kw_1022 rfl rfl (by decide +kernel) rfl rfl (Nat.le_of_ble_eq_true rfl) rfl ?_
        refine v_iload_n dX8_rounds_80 rfl 3 rfl ?_
        refine v_iconst (v := nI 2) dX8_rounds_81 (by decide) ?_
        refine n_idiv (a := 2) (b := 2) (z := 1) dX8_rounds_82 (by decide) (by omega) (by decide) rfl ?_
        refine v_istore_n (lv' := [(3, .int (nI 1)), (6, .int (nI 0)), (5, .int (nI ((((t + 2) - 1) / 2) * 2))), (4, .int (nI ((b / 2) * 2))), (0, .ref mo), (1, .int (nI b)), (2, .int (nI t))]) dX8_rounds_83 rfl (by decide) rfl ?_
        refine v_goto (tgt := 3) dX8_rounds_84 (by decide) ?_
        refine v_iload_n dX8_rounds_3 rfl 0 rfl ?_
        refine n_if_le (a := 1) (tgt := 87) dX8_rounds_4 (by decide) (by decide) (fun c => absurd c (by decide)) (fun _ => ?_)
        refine v_iload_n dX8_rounds_7 rfl 5 rfl ?_
        refine v_iload_n dX8_rounds_8 rfl 0 rfl ?_
        refine n_idiv (a := b) (b := 1) (z := b / 1) dX8_rounds_9 (by decide) (by omega) (by decide) rfl ?_
        refine v_iload_n dX8_rounds_10 rfl 0 rfl ?_
        refine n_imul (a := b / 1) (b := 1) (z := (b / 1) * 1) dX8_rounds_11 rfl ?_
        refine v_istore (lv' := [(4, .int (nI ((b / 1) * 1))), (3, .int (nI 1)), (6, .int (nI 0)), (5, .int (nI ((((t + 2) - 1) / 2) * 2))), (0, .ref mo), (1, .int (nI b)), (2, .int (nI t))]) dX8_rounds_12 (by decide) rfl ?_
        have hd1 : b / 1 * 1 ≤ b := Nat.div_mul_le_self b 1
        have hu1 : t ≤ (t + 1 - 1) / 1 * 1 := le_up (n := t) (u := 1) (by decide)
        have hv1 : (t + 1 - 1) / 1 * 1 < t + 1 := up_lt t 1 (by decide)
        refine v_iload_n dX8_rounds_14 rfl 6 rfl ?_
        refine v_iload_n dX8_rounds_15 rfl 1 rfl ?_
        refine n_iadd (a := t) (b := 1) (z := t + 1) dX8_rounds_16 rfl ?_
        refine v_iconst (v := nI 1) dX8_rounds_17 (by decide) ?_
        refine n_isub (a := t + 1) (b := 1) (z := (t + 1) - 1) dX8_rounds_18 (by omega) ?_
        refine v_iload_n dX8_rounds_19 rfl 1 rfl ?_
        refine n_idiv (a := (t + 1) - 1) (b := 1) (z := ((t + 1) - 1) / 1) dX8_rounds_20 (by decide) (by omega) (by decide) rfl ?_
        refine v_iload_n dX8_rounds_21 rfl 1 rfl ?_
        refine n_imul (a := ((t + 1) - 1) / 1) (b := 1) (z := (((t + 1) - 1) / 1) * 1) dX8_rounds_22 rfl ?_
        refine v_istore (lv' := [(5, .int (nI ((((t + 1) - 1) / 1) * 1))), (4, .int (nI ((b / 1) * 1))), (3, .int (nI 1)), (6, .int (nI 0)), (0, .ref mo), (1, .int (nI b)), (2, .int (nI t))]) dX8_rounds_23 (by decide) rfl ?_
        refine v_iload dX8_rounds_25 0 rfl ?_
        refine v_iload dX8_rounds_27 1 rfl ?_
        refine n_isub (a := (((t + 1) - 1) / 1) * 1) (b := (b / 1) * 1) (z := ((((t + 1) - 1) / 1) * 1) - ((b / 1) * 1)) dX8_rounds_29 (by omega) ?_
        refine v_bipush (v := nI 8) dX8_rounds_30 (by decide) ?_
        refine v_iload_n dX8_rounds_32 rfl 2 rfl ?_
        refine n_imul (a := 8) (b := 1) (z := 8) dX8_rounds_33 rfl ?_
        refine n_icmp_gt (a := ((((t + 1) - 1) / 1) * 1) - ((b / 1) * 1)) (b := 8) (tgt := 41) dX8_rounds_34 (by decide) (by omega) (by omega) (fun c34 => ?_) (fun c34 => ?_)
        ·
          refine v_iconst (v := nI 0) dX8_rounds_41 (by decide) ?_
          refine v_istore (lv' := [(6, .int (nI 0)), (5, .int (nI ((((t + 1) - 1) / 1) * 1))), (4, .int (nI ((b / 1) * 1))), (3, .int (nI 1)), (0, .ref mo), (1, .int (nI b)), (2, .int (nI t))]) dX8_rounds_42 (by decide) rfl ?_
          refine v_aload_n dX8_rounds_44 rfl 4 rfl ?_
          refine v_iload dX8_rounds_45 0 rfl ?_
          refine n_if_eq (a := 0) (tgt := 55) dX8_rounds_47 (by decide) (by decide) (fun _ => ?_) (fun c => absurd c (by decide))
          refine v_aload_n dX8_rounds_55 rfl 4 rfl ?_
          refine v_get (ref := "SealhouseModel") (C := RX8) (T := TX8) (N := 20) 0 17 dX8_rounds_56 rfl rfl gin_X8 (by decide) kw_1021 rfl rfl ?_
          refine v_put (ref := "SealhouseModel") (C := RX8) (T := TX8) (N := 20) (ty0 := tyX8) (t := tyX8 17) (ws' := [(mo, .inr (6, [.int (nI (zX y)), .ref m1, .ref m2, .ref m3, .ref m4, .ref m5, .ref m6, .int (nI (zD y)), .ref m8, .ref m9, .ref m10, .ref m11, .ref m12, .ref m13, .ref m14, .ref m15, .ref m16, .int (nI ((b / 8) * 8)), .int (nI ((((t + 8) - 1) / 8) * 8)), .ref m19])), (m1, .inl (G.2.1 3, 160, .inl (fun j9 => bI ((zI y) j9)))), (m2, .inl (G.2.1 1, 160, .inl (zN y))), (m3, .inl (G.2.1 1, 160, .inl (fun j9 => nI ((zB y) j9)))), (m4, .inl (G.2.1 1, 160, .inl (fun j9 => nI ((zT y) j9)))), (m5, .inl (G.2.1 1, 160, .inl (fun j9 => nI ((zP y) j9)))), (m6, .inl (G.2.1 1, 160, .inl (fun j9 => nI ((zS y) j9)))), (m8, .inl (G.2.1 1, 8, .inl (fun j9 => nI ((zR y) j9)))), (m9, .inl (G.2.1 1, 4, .inl (fun j9 => nI ((zQ y) j9)))), (m10, .inl (G.2.1 0, 96, .inl (fun j9 => nI ((zA y) j9)))), (m11, .inl (G.2.1 1, 96, .inl (fun j9 => nI ((zO y) j9)))), (m12, .inl (G.2.1 1, 96, .inl (fun j9 => nI ((zF y) j9)))), (m13, .inl (G.2.1 1, 96, .inl (fun j9 => nI ((zM y) j9)))), (m14, .inl (G.2.1 3, 96, .inl (fun j9 => bI ((zE y) j9)))), (m15, .inl (G.2.1 3, 384, .inl (fun j9 => bI ((zV y) j9)))), (m16, .inl (G.2.1 1, 9, .inl (fun j9 => nI ((zK y) j9)))), (m19, .inl (G.2.1 3, 96, .inl (fun j9 => bI ((zG y) j9))))]) 0 17 dX8_rounds_59 rfl rfl gin_X8 tyX8_ok nmX8 (by decide) kw_1021 rfl rfl (by decide +kernel) rfl rfl (Nat.le_of_ble_eq_true rfl) rfl ?_
          refine v_aload_n dX8_rounds_62 rfl 4 rfl ?_
          refine v_iload dX8_rounds_63 0 rfl ?_
          refine n_if_eq (a := 0) (tgt := 73) dX8_rounds_65 (by decide) (by decide) (fun _ => ?_) (fun c => absurd c (by decide))
          refine v_aload_n dX8_rounds_73 rfl 4 rfl ?_
          refine v_get (ref := "SealhouseModel") (C := RX8) (T := TX8) (N := 20) 0 18 dX8_rounds_74 rfl rfl gin_X8 (by decide) kw_1022 rfl rfl ?_
          refine v_put (ref := "SealhouseModel") (C := RX8) (T := TX8) (N := 20) (ty0 := tyX8) (t := tyX8 18) (ws' := [(mo, .inr (6, [.int (nI (zX y)), .ref m1, .ref m2, .ref m3, .ref m4, .ref m5, .ref m6, .int (nI (zD y)), .ref m8, .ref m9, .ref m10, .ref m11, .ref m12, .ref m13, .ref m14, .ref m15, .ref m16, .int (nI ((b / 8) * 8)), .int (nI ((((t + 8) - 1) / 8) * 8)), .ref m19])), (m1, .inl (G.2.1 3, 160, .inl (fun j9 => bI ((zI y) j9)))), (m2, .inl (G.2.1 1, 160, .inl (zN y))), (m3, .inl (G.2.1 1, 160, .inl (fun j9 => nI ((zB y) j9)))), (m4, .inl (G.2.1 1, 160, .inl (fun j9 => nI ((zT y) j9)))), (m5, .inl (G.2.1 1, 160, .inl (fun j9 => nI ((zP y) j9)))), (m6, .inl (G.2.1 1, 160, .inl (fun j9 => nI ((zS y) j9)))), (m8, .inl (G.2.1 1, 8, .inl (fun j9 => nI ((zR y) j9)))), (m9, .inl (G.2.1 1, 4, .inl (fun j9 => nI ((zQ y) j9)))), (m10, .inl (G.2.1 0, 96, .inl (fun j9 => nI ((zA y) j9)))), (m11, .inl (G.2.1 1, 96, .inl (fun j9 => nI ((zO y) j9)))), (m12, .inl (G.2.1 1, 96, .inl (fun j9 => nI ((zF y) j9)))), (m13, .inl (G.2.1 1, 96, .inl (fun j9 => nI ((zM y) j9)))), (m14, .inl (G.2.1 3, 96, .inl (fun j9 => bI ((zE y) j9)))), (m15, .inl (G.2.1 3, 384, .inl (fun j9 => bI ((zV y) j9)))), (m16, .inl (G.2.1 1, 9, .inl (fun j9 => nI ((zK y) j9)))), (m19, .inl (G.2.1 3, 96, .inl (fun j9 => bI ((zG y) j9))))]) 0 18 dX8_rounds_77 rfl rfl gin_X8 tyX8_ok nmX8 (by decide) kw_1022 rfl rfl (by decide +kernel) rfl rfl (Nat.le_of_ble_eq_true rfl) rfl ?_
          refine v_iload_n dX8_rounds_80 rfl 3 rfl ?_
          refine v_iconst (v := nI 2) dX8_rounds_81 (by decide) ?_
          refine n_idiv (a := 1) (b := 2) (z := 0) dX8_rounds_82 (by decide) (by omega) (by decide) rfl ?_
          refine v_istore_n (lv' := [(3, .int (nI 0)), (6, .int (nI 0)), (5, .int (nI ((((t + 1) - 1) / 1) * 1))), (4, .int (nI ((b / 1) * 1))), (0, .ref mo), (1, .int (nI b)), (2, .int (nI t))]) dX8_rounds_83 rfl (by decide) rfl ?_
          refine v_goto (tgt := 3) dX8_rounds_84 (by decide) ?_
          refine v_iload_n dX8_rounds_3 rfl 0 rfl ?_
          refine n_if_le (a := 0) (tgt := 87) dX8_rounds_4 (by decide) (by decide) (fun _ => ?_) (fun c => absurd c (by decide))
          exact v_vret hR dX8_rounds_87 (by refine ⟨rfl, ?_⟩; unfold rndY; first | (rw [unit_1 (by unfold dn up; omega)]; rfl) | (rw [unit_2 (by unfold dn up; omega) (by unfold dn up; omega)]; rfl) | (rw [unit_4 (by unfold dn up; omega) (by unfold dn up; omega) (by unfold dn up; omega)]; rfl) | (rw [unit_8 (by unfold dn up; omega) (by unfold dn up; omega) (by unfold dn up; omega) (by unfold dn up; omega)]; rfl) | (rw [unit_16 (by unfold dn up; omega) (by unfold dn up; omega) (by unfold dn up; omega) (by unfold dn up; omega)]; rfl))
        ·
          refine v_iconst (v := nI 1) dX8_rounds_37 (by decide) ?_
          refine v_goto (tgt := 42) dX8_rounds_38 (by decide) ?_
          refine v_istore (lv' := [(6, .int (nI 1)), (5, .int (nI ((((t + 1) - 1) / 1) * 1))), (4, .int (nI ((b / 1) * 1))), (3, .int (nI 1)), (0, .ref mo), (1, .int (nI b)), (2, .int (nI t))]) dX8_rounds_42 (by decide) rfl ?_
          refine v_aload_n dX8_rounds_44 rfl 4 rfl ?_
          refine v_iload dX8_rounds_45 0 rfl ?_
          refine n_if_eq (a := 1) (tgt := 55) dX8_rounds_47 (by decide) (by decide) (fun c => absurd c (by decide)) (fun _ => ?_)
          refine v_iload dX8_rounds_50 2 rfl ?_
          refine v_goto (tgt := 59) dX8_rounds_52 (by decide) ?_
          refine v_put (ref := "SealhouseModel") (C := RX8) (T := TX8) (N := 20) (ty0 := tyX8) (t := tyX8 17) (ws' := [(mo, .inr (6, [.int (nI (zX y)), .ref m1, .ref m2, .ref m3, .ref m4, .ref m5, .ref m6, .int (nI (zD y)), .ref m8, .ref m9, .ref m10, .ref m11, .ref m12, .ref m13, .ref m14, .ref m15, .ref m16, .int (nI ((b / 1) * 1)), .int (nI ((((t + 8) - 1) / 8) * 8)), .ref m19])), (m1, .inl (G.2.1 3, 160, .inl (fun j9 => bI ((zI y) j9)))), (m2, .inl (G.2.1 1, 160, .inl (zN y))), (m3, .inl (G.2.1 1, 160, .inl (fun j9 => nI ((zB y) j9)))), (m4, .inl (G.2.1 1, 160, .inl (fun j9 => nI ((zT y) j9)))), (m5, .inl (G.2.1 1, 160, .inl (fun j9 => nI ((zP y) j9)))), (m6, .inl (G.2.1 1, 160, .inl (fun j9 => nI ((zS y) j9)))), (m8, .inl (G.2.1 1, 8, .inl (fun j9 => nI ((zR y) j9)))), (m9, .inl (G.2.1 1, 4, .inl (fun j9 => nI ((zQ y) j9)))), (m10, .inl (G.2.1 0, 96, .inl (fun j9 => nI ((zA y) j9)))), (m11, .inl (G.2.1 1, 96, .inl (fun j9 => nI ((zO y) j9)))), (m12, .inl (G.2.1 1, 96, .inl (fun j9 => nI ((zF y) j9)))), (m13, .inl (G.2.1 1, 96, .inl (fun j9 => nI ((zM y) j9)))), (m14, .inl (G.2.1 3, 96, .inl (fun j9 => bI ((zE y) j9)))), (m15, .inl (G.2.1 3, 384, .inl (fun j9 => bI ((zV y) j9)))), (m16, .inl (G.2.1 1, 9, .inl (fun j9 => nI ((zK y) j9)))), (m19, .inl (G.2.1 3, 96, .inl (fun j9 => bI ((zG y) j9))))]) 0 17 dX8_rounds_59 rfl rfl gin_X8 tyX8_ok nmX8 (by decide) kw_1021 rfl rfl (by decide +kernel) rfl rfl (Nat.le_of_ble_eq_true rfl) rfl ?_
          refine v_aload_n dX8_rounds_62 rfl 4 rfl ?_
          refine v_iload dX8_rounds_63 0 rfl ?_
          refine n_if_eq (a := 1) (tgt := 73) dX8_rounds_65 (by decide) (by decide) (fun c => absurd c (by decide)) (fun _ => ?_)
          refine v_iload dX8_rounds_68 1 rfl ?_
          refine v_goto (tgt := 77) dX8_rounds_70 (by decide) ?_
          refine v_put (ref := "SealhouseModel") (C := RX8) (T := TX8) (N := 20) (ty0 := tyX8) (t := tyX8 18) (ws' := [(mo, .inr (6, [.int (nI (zX y)), .ref m1, .ref m2, .ref m3, .ref m4, .ref m5, .ref m6, .int (nI (zD y)), .ref m8, .ref m9, .ref m10, .ref m11, .ref m12, .ref m13, .ref m14, .ref m15, .ref m16, .int (nI ((b / 1) * 1)), .int (nI ((((t + 1) - 1) / 1) * 1)), .ref m19])), (m1, .inl (G.2.1 3, 160, .inl (fun j9 => bI ((zI y) j9)))), (m2, .inl (G.2.1 1, 160, .inl (zN y))), (m3, .inl (G.2.1 1, 160, .inl (fun j9 => nI ((zB y) j9)))), (m4, .inl (G.2.1 1, 160, .inl (fun j9 => nI ((zT y) j9)))), (m5, .inl (G.2.1 1, 160, .inl (fun j9 => nI ((zP y) j9)))), (m6, .inl (G.2.1 1, 160, .inl (fun j9 => nI ((zS y) j9)))), (m8, .inl (G.2.1 1, 8, .inl (fun j9 => nI ((zR y) j9)))), (m9, .inl (G.2.1 1, 4, .inl (fun j9 => nI ((zQ y) j9)))), (m10, .inl (G.2.1 0, 96, .inl (fun j9 => nI ((zA y) j9)))), (m11, .inl (G.2.1 1, 96, .inl (fun j9 => nI ((zO y) j9)))), (m12, .inl (G.2.1 1, 96, .inl (fun j9 => nI ((zF y) j9)))), (m13, .inl (G.2.1 1, 96, .inl (fun j9 => nI ((zM y) j9)))), (m14, .inl (G.2.1 3, 96, .inl (fun j9 => bI ((zE y) j9)))), (m15, .inl (G.2.1 3, 384, .inl (fun j9 => bI ((zV y) j9)))), (m16, .inl (G.2.1 1, 9, .inl (fun j9 => nI ((zK y) j9)))), (m19, .inl (G.2.1 3, 96, .inl (fun j9 => bI ((zG y) j9))))]) 0 18 dX8_rounds_77 rfl rfl gin_X8 tyX8_ok nmX8 (by decide) kw_1022 rfl rfl (by decide +kernel) rfl rfl (Nat.le_of_ble_eq_true rfl) rfl ?_
          refine v_iload_n dX8_rounds_80 rfl 3 rfl ?_
          refine v_iconst (v := nI 2) dX8_rounds_81 (by decide) ?_
          refine n_idiv (a := 1) (b := 2) (z := 0) dX8_rounds_82 (by decide) (by omega) (by decide) rfl ?_
          refine v_istore_n (lv' := [(3, .int (nI 0)), (6, .int (nI 1)), (5, .int (nI ((((t + 1) - 1) / 1) * 1))), (4, .int (nI ((b / 1) * 1))), (0, .ref mo), (1, .int (nI b)), (2, .int (nI t))]) dX8_rounds_83 rfl (by decide) rfl ?_
          refine v_goto (tgt := 3) dX8_rounds_84 (by decide) ?_
          refine v_iload_n dX8_rounds_3 rfl 0 rfl ?_
          refine n_if_le (a := 0) (tgt := 87) dX8_rounds_4 (by decide) (by decide) (fun _ => ?_) (fun c => absurd c (by decide))
          exact v_vret hR dX8_rounds_87 (by refine ⟨rfl, ?_⟩; unfold rndY; first | (rw [unit_1 (by unfold dn up; omega)]; rfl) | (rw [unit_2 (by unfold dn up; omega) (by unfold dn up; omega)]; rfl) | (rw [unit_4 (by unfold dn up; omega) (by unfold dn up; omega) (by unfold dn up; omega)]; rfl) | (rw [unit_8 (by unfold dn up; omega) (by unfold dn up; omega) (by unfold dn up; omega) (by unfold dn up; omega)]; rfl) | (rw [unit_16 (by unfold dn up; omega) (by unfold dn up; omega) (by unfold dn up; omega) (by unfold dn up; omega)]; rfl))
      ·
        refine v_iconst (v := nI 1) dX8_rounds_37 (by decide) ?_
        refine v_goto (tgt := 42) dX8_rounds_38 (by decide) ?_
        refine v_istore (lv' := [(6, .int (nI 1)), (5, .int (nI ((((t + 2) - 1) / 2) * 2))), (4, .int (nI ((b / 2) * 2))), (3, .int (nI 2)), (0, .ref mo), (1, .int (nI b)), (2, .int (nI t))]) dX8_rounds_42 (by decide) rfl ?_
        refine v_aload_n dX8_rounds_44 rfl 4 rfl ?_
        refine v_iload dX8_rounds_45 0 rfl ?_
        refine n_if_eq (a := 1) (tgt := 55) dX8_rounds_47 (by decide) (by decide) (fun c => absurd c (by decide)) (fun _ => ?_)
        refine v_iload dX8_rounds_50 2 rfl ?_
        refine v_goto (tgt := 59) dX8_rounds_52 (by decide) ?_
        refine v_put (ref := "SealhouseModel") (C := RX8) (T := TX8) (N := 20) (ty0 := tyX8) (t := tyX8 17) (ws' := [(mo, .inr (6, [.int (nI (zX y)), .ref m1, .ref m2, .ref m3, .ref m4, .ref m5, .ref m6, .int (nI (zD y)), .ref m8, .ref m9, .ref m10, .ref m11, .ref m12, .ref m13, .ref m14, .ref m15, .ref m16, .int (nI ((b / 2) * 2)), .int (nI ((((t + 8) - 1) / 8) * 8)), .ref m19])), (m1, .inl (G.2.1 3, 160, .inl (fun j9 => bI ((zI y) j9)))), (m2, .inl (G.2.1 1, 160, .inl (zN y))), (m3, .inl (G.2.1 1, 160, .inl (fun j9 => nI ((zB y) j9)))), (m4, .inl (G.2.1 1, 160, .inl (fun j9 => nI ((zT y) j9)))), (m5, .inl (G.2.1 1, 160, .inl (fun j9 => nI ((zP y) j9)))), (m6, .inl (G.2.1 1, 160, .inl (fun j9 => nI ((zS y) j9)))), (m8, .inl (G.2.1 1, 8, .inl (fun j9 => nI ((zR y) j9)))), (m9, .inl (G.2.1 1, 4, .inl (fun j9 => nI ((zQ y) j9)))), (m10, .inl (G.2.1 0, 96, .inl (fun j9 => nI ((zA y) j9)))), (m11, .inl (G.2.1 1, 96, .inl (fun j9 => nI ((zO y) j9)))), (m12, .inl (G.2.1 1, 96, .inl (fun j9 => nI ((zF y) j9)))), (m13, .inl (G.2.1 1, 96, .inl (fun j9 => nI ((zM y) j9)))), (m14, .inl (G.2.1 3, 96, .inl (fun j9 => bI ((zE y) j9)))), (m15, .inl (G.2.1 3, 384, .inl (fun j9 => bI ((zV y) j9)))), (m16, .inl (G.2.1 1, 9, .inl (fun j9 => nI ((zK y) j9)))), (m19, .inl (G.2.1 3, 96, .inl (fun j9 => bI ((zG y) j9))))]) 0 17 dX8_rounds_59 rfl rfl gin_X8 tyX8_ok nmX8 (by decide) kw_1021 rfl rfl (by decide +kernel) rfl rfl (Nat.le_of_ble_eq_true rfl) rfl ?_
        refine v_aload_n dX8_rounds_62 rfl 4 rfl ?_
        refine v_iload dX8_rounds_63 0 rfl ?_
        refine n_if_eq (a := 1) (tgt := 73) dX8_rounds_65 (by decide) (by decide) (fun c => absurd c (by decide)) (fun _ => ?_)
        refine v_iload dX8_rounds_68 1 rfl ?_
        refine v_goto (tgt := 77) dX8_rounds_70 (by decide) ?_
        refine v_put (ref := "SealhouseModel") (C := RX8) (T := TX8) (N := 20) (ty0 := tyX8) (t := tyX8 18) (ws' := [(mo, .inr (6, [.int (nI (zX y)), .ref m1, .ref m2, .ref m3, .ref m4, .ref m5, .ref m6, .int (nI (zD y)), .ref m8, .ref m9, .ref m10, .ref m11, .ref m12, .ref m13, .ref m14, .ref m15, .ref m16, .int (nI ((b / 2) * 2)), .int (nI ((((t + 2) - 1) / 2) * 2)), .ref m19])), (m1, .inl (G.2.1 3, 160, .inl (fun j9 => bI ((zI y) j9)))), (m2, .inl (G.2.1 1, 160, .inl (zN y))), (m3, .inl (G.2.1 1, 160, .inl (fun j9 => nI ((zB y) j9)))), (m4, .inl (G.2.1 1, 160, .inl (fun j9 => nI ((zT y) j9)))), (m5, .inl (G.2.1 1, 160, .inl (fun j9 => nI ((zP y) j9)))), (m6, .inl (G.2.1 1, 160, .inl (fun j9 => nI ((zS y) j9)))), (m8, .inl (G.2.1 1, 8, .inl (fun j9 => nI ((zR y) j9)))), (m9, .inl (G.2.1 1, 4, .inl (fun j9 => nI ((zQ y) j9)))), (m10, .inl (G.2.1 0, 96, .inl (fun j9 => nI ((zA y) j9)))), (m11, .inl (G.2.1 1, 96, .inl (fun j9 => nI ((zO y) j9)))), (m12, .inl (G.2.1 1, 96, .inl (fun j9 => nI ((zF y) j9)))), (m13, .inl (G.2.1 1, 96, .inl (fun j9 => nI ((zM y) j9)))), (m14, .inl (G.2.1 3, 96, .inl (fun j9 => bI ((zE y) j9)))), (m15, .inl (G.2.1 3, 384, .inl (fun j9 => bI ((zV y) j9)))), (m16, .inl (G.2.1 1, 9, .inl (fun j9 => nI ((zK y) j9)))), (m19, .inl (G.2.1 3, 96, .inl (fun j9 => bI ((zG y) j9))))]) 0 18 dX8_rounds_77 rfl rfl gin_X8 tyX8_ok nmX8 (by decide) kw_1022 rfl rfl (by decide +kernel) rfl rfl (Nat.le_of_ble_eq_true rfl) rfl ?_
        refine v_iload_n dX8_rounds_80 rfl 3 rfl ?_
        refine v_iconst (v := nI 2) dX8_rounds_81 (by decide) ?_
        refine n_idiv (a := 2) (b := 2) (z := 1) dX8_rounds_82 (by decide) (by omega) (by decide) rfl ?_
        refine v_istore_n (lv' := [(3, .int (nI 1)), (6, .int (nI 1)), (5, .int (nI ((((t + 2) - 1) / 2) * 2))), (4, .int (nI ((b / 2) * 2))), (0, .ref mo), (1, .int (nI b)), (2, .int (nI t))]) dX8_rounds_83 rfl (by decide) rfl ?_
        refine v_goto (tgt := 3) dX8_rounds_84 (by decide) ?_
        refine v_iload_n dX8_rounds_3 rfl 0 rfl ?_
        refine n_if_le (a := 1) (tgt := 87) dX8_rounds_4 (by decide) (by decide) (fun c => absurd c (by decide)) (fun _ => ?_)
        refine v_iload_n dX8_rounds_7 rfl 5 rfl ?_
        refine v_iload_n dX8_rounds_8 rfl 0 rfl ?_
        refine n_idiv (a := b) (b := 1) (z := b / 1) dX8_rounds_9 (by decide) (by omega) (by decide) rfl ?_
        refine v_iload_n dX8_rounds_10 rfl 0 rfl ?_
        refine n_imul (a := b / 1) (b := 1) (z := (b / 1) * 1) dX8_rounds_11 rfl ?_
        refine v_istore (lv' := [(4, .int (nI ((b / 1) * 1))), (3, .int (nI 1)), (6, .int (nI 1)), (5, .int (nI ((((t + 2) - 1) / 2) * 2))), (0, .ref mo), (1, .int (nI b)), (2, .int (nI t))]) dX8_rounds_12 (by decide) rfl ?_
        have hd1 : b / 1 * 1 ≤ b := Nat.div_mul_le_self b 1
        have hu1 : t ≤ (t + 1 - 1) / 1 * 1 := le_up (n := t) (u := 1) (by decide)
        have hv1 : (t + 1 - 1) / 1 * 1 < t + 1 := up_lt t 1 (by decide)
        refine v_iload_n dX8_rounds_14 rfl 6 rfl ?_
        refine v_iload_n dX8_rounds_15 rfl 1 rfl ?_
        refine n_iadd (a := t) (b := 1) (z := t + 1) dX8_rounds_16 rfl ?_
        refine v_iconst (v := nI 1) dX8_rounds_17 (by decide) ?_
        refine n_isub (a := t + 1) (b := 1) (z := (t + 1) - 1) dX8_rounds_18 (by omega) ?_
        refine v_iload_n dX8_rounds_19 rfl 1 rfl ?_
        refine n_idiv (a := (t + 1) - 1) (b := 1) (z := ((t + 1) - 1) / 1) dX8_rounds_20 (by decide) (by omega) (by decide) rfl ?_
        refine v_iload_n dX8_rounds_21 rfl 1 rfl ?_
        refine n_imul (a := ((t + 1) - 1) / 1) (b := 1) (z := (((t + 1) - 1) / 1) * 1) dX8_rounds_22 rfl ?_
        refine v_istore (lv' := [(5, .int (nI ((((t + 1) - 1) / 1) * 1))), (4, .int (nI ((b / 1) * 1))), (3, .int (nI 1)), (6, .int (nI 1)), (0, .ref mo), (1, .int (nI b)), (2, .int (nI t))]) dX8_rounds_23 (by decide) rfl ?_
        refine v_iload dX8_rounds_25 0 rfl ?_
        refine v_iload dX8_rounds_27 1 rfl ?_
        refine n_isub (a := (((t + 1) - 1) / 1) * 1) (b := (b / 1) * 1) (z := ((((t + 1) - 1) / 1) * 1) - ((b / 1) * 1)) dX8_rounds_29 (by omega) ?_
        refine v_bipush (v := nI 8) dX8_rounds_30 (by decide) ?_
        refine v_iload_n dX8_rounds_32 rfl 2 rfl ?_
        refine n_imul (a := 8) (b := 1) (z := 8) dX8_rounds_33 rfl ?_
        refine n_icmp_gt (a := ((((t + 1) - 1) / 1) * 1) - ((b / 1) * 1)) (b := 8) (tgt := 41) dX8_rounds_34 (by decide) (by omega) (by omega) (fun c34 => ?_) (fun c34 => ?_)
        ·
          refine v_iconst (v := nI 0) dX8_rounds_41 (by decide) ?_
          refine v_istore (lv' := [(6, .int (nI 0)), (5, .int (nI ((((t + 1) - 1) / 1) * 1))), (4, .int (nI ((b / 1) * 1))), (3, .int (nI 1)), (0, .ref mo), (1, .int (nI b)), (2, .int (nI t))]) dX8_rounds_42 (by decide) rfl ?_
          refine v_aload_n dX8_rounds_44 rfl 4 rfl ?_
          refine v_iload dX8_rounds_45 0 rfl ?_
          refine n_if_eq (a := 0) (tgt := 55) dX8_rounds_47 (by decide) (by decide) (fun _ => ?_) (fun c => absurd c (by decide))
          refine v_aload_n dX8_rounds_55 rfl 4 rfl ?_
          refine v_get (ref := "SealhouseModel") (C := RX8) (T := TX8) (N := 20) 0 17 dX8_rounds_56 rfl rfl gin_X8 (by decide) kw_1021 rfl rfl ?_
          refine v_put (ref := "SealhouseModel") (C := RX8) (T := TX8) (N := 20) (ty0 := tyX8) (t := tyX8 17) (ws' := [(mo, .inr (6, [.int (nI (zX y)), .ref m1, .ref m2, .ref m3, .ref m4, .ref m5, .ref m6, .int (nI (zD y)), .ref m8, .ref m9, .ref m10, .ref m11, .ref m12, .ref m13, .ref m14, .ref m15, .ref m16, .int (nI ((b / 2) * 2)), .int (nI ((((t + 2) - 1) / 2) * 2)), .ref m19])), (m1, .inl (G.2.1 3, 160, .inl (fun j9 => bI ((zI y) j9)))), (m2, .inl (G.2.1 1, 160, .inl (zN y))), (m3, .inl (G.2.1 1, 160, .inl (fun j9 => nI ((zB y) j9)))), (m4, .inl (G.2.1 1, 160, .inl (fun j9 => nI ((zT y) j9)))), (m5, .inl (G.2.1 1, 160, .inl (fun j9 => nI ((zP y) j9)))), (m6, .inl (G.2.1 1, 160, .inl (fun j9 => nI ((zS y) j9)))), (m8, .inl (G.2.1 1, 8, .inl (fun j9 => nI ((zR y) j9)))), (m9, .inl (G.2.1 1, 4, .inl (fun j9 => nI ((zQ y) j9)))), (m10, .inl (G.2.1 0, 96, .inl (fun j9 => nI ((zA y) j9)))), (m11, .inl (G.2.1 1, 96, .inl (fun j9 => nI ((zO y) j9)))), (m12, .inl (G.2.1 1, 96, .inl (fun j9 => nI ((zF y) j9)))), (m13, .inl (G.2.1 1, 96, .inl (fun j9 => nI ((zM y) j9)))), (m14, .inl (G.2.1 3, 96, .inl (fun j9 => bI ((zE y) j9)))), (m15, .inl (G.2.1 3, 384, .inl (fun j9 => bI ((zV y) j9)))), (m16, .inl (G.2.1 1, 9, .inl (fun j9 => nI ((zK y) j9)))), (m19, .inl (G.2.1 3, 96, .inl (fun j9 => bI ((zG y) j9))))]) 0 17 dX8_rounds_59 rfl rfl gin_X8 tyX8_ok nmX8 (by decide) kw_1021 rfl rfl (by decide +kernel) rfl rfl (Nat.le_of_ble_eq_true rfl) rfl ?_
          refine v_aload_n dX8_rounds_62 rfl 4 rfl ?_
          refine v_iload dX8_rounds_63 0 rfl ?_
          refine n_if_eq (a := 0) (tgt := 73) dX8_rounds_65 (by decide) (by decide) (fun _ => ?_) (fun c => absurd c (by decide))
          refine v_aload_n dX8_rounds_73 rfl 4 rfl ?_
          refine v_get (ref := "SealhouseModel") (C := RX8) (T := TX8) (N := 20) 0 18 dX8_rounds_74 rfl rfl gin_X8 (by decide) kw_1022 rfl rfl ?_
          refine v_put (ref := "SealhouseModel") (C := RX8) (T := TX8) (N := 20) (ty0 := tyX8) (t := tyX8 18) (ws' := [(mo, .inr (6, [.int (nI (zX y)), .ref m1, .ref m2, .ref m3, .ref m4, .ref m5, .ref m6, .int (nI (zD y)), .ref m8, .ref m9, .ref m10, .ref m11, .ref m12, .ref m13, .ref m14, .ref m15, .ref m16, .int (nI ((b / 2) * 2)), .int (nI ((((t + 2) - 1) / 2) * 2)), .ref m19])), (m1, .inl (G.2.1 3, 160, .inl (fun j9 => bI ((zI y) j9)))), (m2, .inl (G.2.1 1, 160, .inl (zN y))), (m3, .inl (G.2.1 1, 160, .inl (fun j9 => nI ((zB y) j9)))), (m4, .inl (G.2.1 1, 160, .inl (fun j9 => nI ((zT y) j9)))), (m5, .inl (G.2.1 1, 160, .inl (fun j9 => nI ((zP y) j9)))), (m6, .inl (G.2.1 1, 160, .inl (fun j9 => nI ((zS y) j9)))), (m8, .inl (G.2.1 1, 8, .inl (fun j9 => nI ((zR y) j9)))), (m9, .inl (G.2.1 1, 4, .inl (fun j9 => nI ((zQ y) j9)))), (m10, .inl (G.2.1 0, 96, .inl (fun j9 => nI ((zA y) j9)))), (m11, .inl (G.2.1 1, 96, .inl (fun j9 => nI ((zO y) j9)))), (m12, .inl (G.2.1 1, 96, .inl (fun j9 => nI ((zF y) j9)))), (m13, .inl (G.2.1 1, 96, .inl (fun j9 => nI ((zM y) j9)))), (m14, .inl (G.2.1 3, 96, .inl (fun j9 => bI ((zE y) j9)))), (m15, .inl (G.2.1 3, 384, .inl (fun j9 => bI ((zV y) j9)))), (m16, .inl (G.2.1 1, 9, .inl (fun j9 => nI ((zK y) j9)))), (m19, .inl (G.2.1 3, 96, .inl (fun j9 => bI ((zG y) j9))))]) 0 18 dX8_rounds_77 rfl rfl gin_X8 tyX8_ok nmX8 (by decide) kw_1022 rfl rfl (by decide +kernel) rfl rfl (Nat.le_of_ble_eq_true rfl) rfl ?_
          refine v_iload_n dX8_rounds_80 rfl 3 rfl ?_
          refine v_iconst (v := nI 2) dX8_rounds_81 (by decide) ?_
          refine n_idiv (a := 1) (b := 2) (z := 0) dX8_rounds_82 (by decide) (by omega) (by decide) rfl ?_
          refine v_istore_n (lv' := [(3, .int (nI 0)), (6, .int (nI 0)), (5, .int (nI ((((t + 1) - 1) / 1) * 1))), (4, .int (nI ((b / 1) * 1))), (0, .ref mo), (1, .int (nI b)), (2, .int (nI t))]) dX8_rounds_83 rfl (by decide) rfl ?_
          refine v_goto (tgt := 3) dX8_rounds_84 (by decide) ?_
          refine v_iload_n dX8_rounds_3 rfl 0 rfl ?_
          refine n_if_le (a := 0) (tgt := 87) dX8_rounds_4 (by decide) (by decide) (fun _ => ?_) (fun c => absurd c (by decide))
          exact v_vret hR dX8_rounds_87 (by refine ⟨rfl, ?_⟩; unfold rndY; first | (rw [unit_1 (by unfold dn up; omega)]; rfl) | (rw [unit_2 (by unfold dn up; omega) (by unfold dn up; omega)]; rfl) | (rw [unit_4 (by unfold dn up; omega) (by unfold dn up; omega) (by unfold dn up; omega)]; rfl) | (rw [unit_8 (by unfold dn up; omega) (by unfold dn up; omega) (by unfold dn up; omega) (by unfold dn up; omega)]; rfl) | (rw [unit_16 (by unfold dn up; omega) (by unfold dn up; omega) (by unfold dn up; omega) (by unfold dn up; omega)]; rfl))
        ·
          refine v_iconst (v := nI 1) dX8_rounds_37 (by decide) ?_
          refine v_goto (tgt := 42) dX8_rounds_38 (by decide) ?_
          refine v_istore (lv' := [(6, .int (nI 1)), (5, .int (nI ((((t + 1) - 1) / 1) * 1))), (4, .int (nI ((b / 1) * 1))), (3, .int (nI 1)), (0, .ref mo), (1, .int (nI b)), (2, .int (nI t))]) dX8_rounds_42 (by decide) rfl ?_
          refine v_aload_n dX8_rounds_44 rfl 4 rfl ?_
          refine v_iload dX8_rounds_45 0 rfl ?_
          refine n_if_eq (a := 1) (tgt := 55) dX8_rounds_47 (by decide) (by decide) (fun c => absurd c (by decide)) (fun _ => ?_)
          refine v_iload dX8_rounds_50 2 rfl ?_
          refine v_goto (tgt := 59) dX8_rounds_52 (by decide) ?_
          refine v_put (ref := "SealhouseModel") (C := RX8) (T := TX8) (N := 20) (ty0 := tyX8) (t := tyX8 17) (ws' := [(mo, .inr (6, [.int (nI (zX y)), .ref m1, .ref m2, .ref m3, .ref m4, .ref m5, .ref m6, .int (nI (zD y)), .ref m8, .ref m9, .ref m10, .ref m11, .ref m12, .ref m13, .ref m14, .ref m15, .ref m16, .int (nI ((b / 1) * 1)), .int (nI ((((t + 2) - 1) / 2) * 2)), .ref m19])), (m1, .inl (G.2.1 3, 160, .inl (fun j9 => bI ((zI y) j9)))), (m2, .inl (G.2.1 1, 160, .inl (zN y))), (m3, .inl (G.2.1 1, 160, .inl (fun j9 => nI ((zB y) j9)))), (m4, .inl (G.2.1 1, 160, .inl (fun j9 => nI ((zT y) j9)))), (m5, .inl (G.2.1 1, 160, .inl (fun j9 => nI ((zP y) j9)))), (m6, .inl (G.2.1 1, 160, .inl (fun j9 => nI ((zS y) j9)))), (m8, .inl (G.2.1 1, 8, .inl (fun j9 => nI ((zR y) j9)))), (m9, .inl (G.2.1 1, 4, .inl (fun j9 => nI ((zQ y) j9)))), (m10, .inl (G.2.1 0, 96, .inl (fun j9 => nI ((zA y) j9)))), (m11, .inl (G.2.1 1, 96, .inl (fun j9 => nI ((zO y) j9)))), (m12, .inl (G.2.1 1, 96, .inl (fun j9 => nI ((zF y) j9)))), (m13, .inl (G.2.1 1, 96, .inl (fun j9 => nI ((zM y) j9)))), (m14, .inl (G.2.1 3, 96, .inl (fun j9 => bI ((zE y) j9)))), (m15, .inl (G.2.1 3, 384, .inl (fun j9 => bI ((zV y) j9)))), (m16, .inl (G.2.1 1, 9, .inl (fun j9 => nI ((zK y) j9)))), (m19, .inl (G.2.1 3, 96, .inl (fun j9 => bI ((zG y) j9))))]) 0 17 dX8_rounds_59 rfl rfl gin_X8 tyX8_ok nmX8 (by decide) kw_1021 rfl rfl (by decide +kernel) rfl rfl (Nat.le_of_ble_eq_true rfl) rfl ?_
          refine v_aload_n dX8_rounds_62 rfl 4 rfl ?_
          refine v_iload dX8_rounds_63 0 rfl ?_
          refine n_if_eq (a := 1) (tgt := 73) dX8_rounds_65 (by decide) (by decide) (fun c => absurd c (by decide)) (fun _ => ?_)
          refine v_iload dX8_rounds_68 1 rfl ?_
          refine v_goto (tgt := 77) dX8_rounds_70 (by decide) ?_
          refine v_put (ref := "SealhouseModel") (C := RX8) (T := TX8) (N := 20) (ty0 := tyX8) (t := tyX8 18) (ws' := [(mo, .inr (6, [.int (nI (zX y)), .ref m1, .ref m2, .ref m3, .ref m4, .ref m5, .ref m6, .int (nI (zD y)), .ref m8, .ref m9, .ref m10, .ref m11, .ref m12, .ref m13, .ref m14, .ref m15, .ref m16, .int (nI ((b / 1) * 1)), .int (nI ((((t + 1) - 1) / 1) * 1)), .ref m19])), (m1, .inl (G.2.1 3, 160, .inl (fun j9 => bI ((zI y) j9)))), (m2, .inl (G.2.1 1, 160, .inl (zN y))), (m3, .inl (G.2.1 1, 160, .inl (fun j9 => nI ((zB y) j9)))), (m4, .inl (G.2.1 1, 160, .inl (fun j9 => nI ((zT y) j9)))), (m5, .inl (G.2.1 1, 160, .inl (fun j9 => nI ((zP y) j9)))), (m6, .inl (G.2.1 1, 160, .inl (fun j9 => nI ((zS y) j9)))), (m8, .inl (G.2.1 1, 8, .inl (fun j9 => nI ((zR y) j9)))), (m9, .inl (G.2.1 1, 4, .inl (fun j9 => nI ((zQ y) j9)))), (m10, .inl (G.2.1 0, 96, .inl (fun j9 => nI ((zA y) j9)))), (m11, .inl (G.2.1 1, 96, .inl (fun j9 => nI ((zO y) j9)))), (m12, .inl (G.2.1 1, 96, .inl (fun j9 => nI ((zF y) j9)))), (m13, .inl (G.2.1 1, 96, .inl (fun j9 => nI ((zM y) j9)))), (m14, .inl (G.2.1 3, 96, .inl (fun j9 => bI ((zE y) j9)))), (m15, .inl (G.2.1 3, 384, .inl (fun j9 => bI ((zV y) j9)))), (m16, .inl (G.2.1 1, 9, .inl (fun j9 => nI ((zK y) j9)))), (m19, .inl (G.2.1 3, 96, .inl (fun j9 => bI ((zG y) j9))))]) 0 18 dX8_rounds_77 rfl rfl gin_X8 tyX8_ok nmX8 (by decide) kw_1022 rfl rfl (by decide +kernel) rfl rfl (Nat.le_of_ble_eq_true rfl) rfl ?_
          refine v_iload_n dX8_rounds_80 rfl 3 rfl ?_
          refine v_iconst (v := nI 2) dX8_rounds_81 (by decide) ?_
          refine n_idiv (a := 1) (b := 2) (z := 0) dX8_rounds_82 (by decide) (by omega) (by decide) rfl ?_
          refine v_istore_n (lv' := [(3, .int (nI 0)), (6, .int (nI 1)), (5, .int (nI ((((t + 1) - 1) / 1) * 1))), (4, .int (nI ((b / 1) * 1))), (0, .ref mo), (1, .int (nI b)), (2, .int (nI t))]) dX8_rounds_83 rfl (by decide) rfl ?_
          refine v_goto (tgt := 3) dX8_rounds_84 (by decide) ?_
          refine v_iload_n dX8_rounds_3 rfl 0 rfl ?_
          refine n_if_le (a := 0) (tgt := 87) dX8_rounds_4 (by decide) (by decide) (fun _ => ?_) (fun c => absurd c (by decide))
          exact v_vret hR dX8_rounds_87 (by refine ⟨rfl, ?_⟩; unfold rndY; first | (rw [unit_1 (by unfold dn up; omega)]; rfl) | (rw [unit_2 (by unfold dn up; omega) (by unfold dn up; omega)]; rfl) | (rw [unit_4 (by unfold dn up; omega) (by unfold dn up; omega) (by unfold dn up; omega)]; rfl) | (rw [unit_8 (by unfold dn up; omega) (by unfold dn up; omega) (by unfold dn up; omega) (by unfold dn up; omega)]; rfl) | (rw [unit_16 (by unfold dn up; omega) (by unfold dn up; omega) (by unfold dn up; omega) (by unfold dn up; omega)]; rfl))
    ·
      refine v_iconst (v := nI 1) dX8_rounds_37 (by decide) ?_
      refine v_goto (tgt := 42) dX8_rounds_38 (by decide) ?_
      refine v_istore (lv' := [(6, .int (nI 1)), (5, .int (nI ((((t + 4) - 1) / 4) * 4))), (4, .int (nI ((b / 4) * 4))), (3, .int (nI 4)), (0, .ref mo), (1, .int (nI b)), (2, .int (nI t))]) dX8_rounds_42 (by decide) rfl ?_
      refine v_aload_n dX8_rounds_44 rfl 4 rfl ?_
      refine v_iload dX8_rounds_45 0 rfl ?_
      refine n_if_eq (a := 1) (tgt := 55) dX8_rounds_47 (by decide) (by decide) (fun c => absurd c (by decide)) (fun _ => ?_)
      refine v_iload dX8_rounds_50 2 rfl ?_
      refine v_goto (tgt := 59) dX8_rounds_52 (by decide) ?_
      refine v_put (ref := "SealhouseModel") (C := RX8) (T := TX8) (N := 20) (ty0 := tyX8) (t := tyX8 17) (ws' := [(mo, .inr (6, [.int (nI (zX y)), .ref m1, .ref m2, .ref m3, .ref m4, .ref m5, .ref m6, .int (nI (zD y)), .ref m8, .ref m9, .ref m10, .ref m11, .ref m12, .ref m13, .ref m14, .ref m15, .ref m16, .int (nI ((b / 4) * 4)), .int (nI ((((t + 8) - 1) / 8) * 8)), .ref m19])), (m1, .inl (G.2.1 3, 160, .inl (fun j9 => bI ((zI y) j9)))), (m2, .inl (G.2.1 1, 160, .inl (zN y))), (m3, .inl (G.2.1 1, 160, .inl (fun j9 => nI ((zB y) j9)))), (m4, .inl (G.2.1 1, 160, .inl (fun j9 => nI ((zT y) j9)))), (m5, .inl (G.2.1 1, 160, .inl (fun j9 => nI ((zP y) j9)))), (m6, .inl (G.2.1 1, 160, .inl (fun j9 => nI ((zS y) j9)))), (m8, .inl (G.2.1 1, 8, .inl (fun j9 => nI ((zR y) j9)))), (m9, .inl (G.2.1 1, 4, .inl (fun j9 => nI ((zQ y) j9)))), (m10, .inl (G.2.1 0, 96, .inl (fun j9 => nI ((zA y) j9)))), (m11, .inl (G.2.1 1, 96, .inl (fun j9 => nI ((zO y) j9)))), (m12, .inl (G.2.1 1, 96, .inl (fun j9 => nI ((zF y) j9)))), (m13, .inl (G.2.1 1, 96, .inl (fun j9 => nI ((zM y) j9)))), (m14, .inl (G.2.1 3, 96, .inl (fun j9 => bI ((zE y) j9)))), (m15, .inl (G.2.1 3, 384, .inl (fun j9 => bI ((zV y) j9)))), (m16, .inl (G.2.1 1, 9, .inl (fun j9 => nI ((zK y) j9)))), (m19, .inl (G.2.1 3, 96, .inl (fun j9 => bI ((zG y) j9))))]) 0 17 dX8_rounds_59 rfl rfl gin_X8 tyX8_ok nmX8 (by decide) kw_1021 rfl rfl (by decide +kernel) rfl rfl (Nat.le_of_ble_eq_true rfl) rfl ?_
      refine v_aload_n dX8_rounds_62 rfl 4 rfl ?_
      refine v_iload dX8_rounds_63 0 rfl ?_
      refine n_if_eq (a := 1) (tgt := 73) dX8_rounds_65 (by decide) (by decide) (fun c => absurd c (by decide)) (fun _ => ?_)
      refine v_iload dX8_rounds_68 1 rfl ?_
      refine v_goto (tgt := 77) dX8_rounds_70 (by decide) ?_
      refine v_put (ref := "SealhouseModel") (C := RX8) (T := TX8) (N := 20) (ty0 := tyX8) (t := tyX8 18) (ws' := [(mo, .inr (6, [.int (nI (zX y)), .ref m1, .ref m2, .ref m3, .ref m4, .ref m5, .ref m6, .int (nI (zD y)), .ref m8, .ref m9, .ref m10, .ref m11, .ref m12, .ref m13, .ref m14, .ref m15, .ref m16, .int (nI ((b / 4) * 4)), .int (nI ((((t + 4) - 1) / 4) * 4)), .ref m19])), (m1, .inl (G.2.1 3, 160, .inl (fun j9 => bI ((zI y) j9)))), (m2, .inl (G.2.1 1, 160, .inl (zN y))), (m3, .inl (G.2.1 1, 160, .inl (fun j9 => nI ((zB y) j9)))), (m4, .inl (G.2.1 1, 160, .inl (fun j9 => nI ((zT y) j9)))), (m5, .inl (G.2.1 1, 160, .inl (fun j9 => nI ((zP y) j9)))), (m6, .inl (G.2.1 1, 160, .inl (fun j9 => nI ((zS y) j9)))), (m8, .inl (G.2.1 1, 8, .inl (fun j9 => nI ((zR y) j9)))), (m9, .inl (G.2.1 1, 4, .inl (fun j9 => nI ((zQ y) j9)))), (m10, .inl (G.2.1 0, 96, .inl (fun j9 => nI ((zA y) j9)))), (m11, .inl (G.2.1 1, 96, .inl (fun j9 => nI ((zO y) j9)))), (m12, .inl (G.2.1 1, 96, .inl (fun j9 => nI ((zF y) j9)))), (m13, .inl (G.2.1 1, 96, .inl (fun j9 => nI ((zM y) j9)))), (m14, .inl (G.2.1 3, 96, .inl (fun j9 => bI ((zE y) j9)))), (m15, .inl (G.2.1 3, 384, .inl (fun j9 => bI ((zV y) j9)))), (m16, .inl (G.2.1 1, 9, .inl (fun j9 => nI ((zK y) j9)))), (m19, .inl (G.2.1 3, 96, .inl (fun j9 => bI ((zG y) j9))))]) 0 18 dX8_rounds_77 rfl rfl gin_X8 tyX8_ok nmX8 (by decide) kw_1022 rfl rfl (by decide +kernel) rfl rfl (Nat.le_of_ble_eq_true rfl) rfl ?_
      refine v_iload_n dX8_rounds_80 rfl 3 rfl ?_
      refine v_iconst (v := nI 2) dX8_rounds_81 (by decide) ?_
      refine n_idiv (a := 4) (b := 2) (z := 2) dX8_rounds_82 (by decide) (by omega) (by decide) rfl ?_
      refine v_istore_n (lv' := [(3, .int (nI 2)), (6, .int (nI 1)), (5, .int (nI ((((t + 4) - 1) / 4) * 4))), (4, .int (nI ((b / 4) * 4))), (0, .ref mo), (1, .int (nI b)), (2, .int (nI t))]) dX8_rounds_83 rfl (by decide) rfl ?_
      refine v_goto (tgt := 3) dX8_rounds_84 (by decide) ?_
      refine v_iload_n dX8_rounds_3 rfl 0 rfl ?_
      refine n_if_le (a := 2) (tgt := 87) dX8_rounds_4 (by decide) (by decide) (fun c => absurd c (by decide)) (fun _ => ?_)
      refine v_iload_n dX8_rounds_7 rfl 5 rfl ?_
      refine v_iload_n dX8_rounds_8 rfl 0 rfl ?_
      refine n_idiv (a := b) (b := 2) (z := b / 2) dX8_rounds_9 (by decide) (by omega) (by decide) rfl ?_
      refine v_iload_n dX8_rounds_10 rfl 0 rfl ?_
      refine n_imul (a := b / 2) (b := 2) (z := (b / 2) * 2) dX8_rounds_11 rfl ?_
      refine v_istore (lv' := [(4, .int (nI ((b / 2) * 2))), (3, .int (nI 2)), (6, .int (nI 1)), (5, .int (nI ((((t + 4) - 1) / 4) * 4))), (0, .ref mo), (1, .int (nI b)), (2, .int (nI t))]) dX8_rounds_12 (by decide) rfl ?_
      have hd2 : b / 2 * 2 ≤ b := Nat.div_mul_le_self b 2
      have hu2 : t ≤ (t + 2 - 1) / 2 * 2 := le_up (n := t) (u := 2) (by decide)
      have hv2 : (t + 2 - 1) / 2 * 2 < t + 2 := up_lt t 2 (by decide)
      refine v_iload_n dX8_rounds_14 rfl 6 rfl ?_
      refine v_iload_n dX8_rounds_15 rfl 1 rfl ?_
      refine n_iadd (a := t) (b := 2) (z := t + 2) dX8_rounds_16 rfl ?_
      refine v_iconst (v := nI 1) dX8_rounds_17 (by decide) ?_
      refine n_isub (a := t + 2) (b := 1) (z := (t + 2) - 1) dX8_rounds_18 (by omega) ?_
      refine v_iload_n dX8_rounds_19 rfl 1 rfl ?_
      refine n_idiv (a := (t + 2) - 1) (b := 2) (z := ((t + 2) - 1) / 2) dX8_rounds_20 (by decide) (by omega) (by decide) rfl ?_
      refine v_iload_n dX8_rounds_21 rfl 1 rfl ?_
      refine n_imul (a := ((t + 2) - 1) / 2) (b := 2) (z := (((t + 2) - 1) / 2) * 2) dX8_rounds_22 rfl ?_
      refine v_istore (lv' := [(5, .int (nI ((((t + 2) - 1) / 2) * 2))), (4, .int (nI ((b / 2) * 2))), (3, .int (nI 2)), (6, .int (nI 1)), (0, .ref mo), (1, .int (nI b)), (2, .int (nI t))]) dX8_rounds_23 (by decide) rfl ?_
      refine v_iload dX8_rounds_25 0 rfl ?_
      refine v_iload dX8_rounds_27 1 rfl ?_
      refine n_isub (a := (((t + 2) - 1) / 2) * 2) (b := (b / 2) * 2) (z := ((((t + 2) - 1) / 2) * 2) - ((b / 2) * 2)) dX8_rounds_29 (by omega) ?_
      refine v_bipush (v := nI 8) dX8_rounds_30 (by decide) ?_
      refine v_iload_n dX8_rounds_32 rfl 2 rfl ?_
      refine n_imul (a := 8) (b := 2) (z := 16) dX8_rounds_33 rfl ?_
      refine n_icmp_gt (a := ((((t + 2) - 1) / 2) * 2) - ((b / 2) * 2)) (b := 16) (tgt := 41) dX8_rounds_34 (by decide) (by omega) (by omega) (fun c34 => ?_) (fun c34 => ?_)
      ·
        refine v_iconst (v := nI 0) dX8_rounds_41 (by decide) ?_
        refine v_istore (lv' := [(6, .int (nI 0)), (5, .int (nI ((((t + 2) - 1) / 2) * 2))), (4, .int (nI ((b / 2) * 2))), (3, .int (nI 2)), (0, .ref mo), (1, .int (nI b)), (2, .int (nI t))]) dX8_rounds_42 (by decide) rfl ?_
        refine v_aload_n dX8_rounds_44 rfl 4 rfl ?_
        refine v_iload dX8_rounds_45 0 rfl ?_
        refine n_if_eq (a := 0) (tgt := 55) dX8_rounds_47 (by decide) (by decide) (fun _ => ?_) (fun c => absurd c (by decide))
        refine v_aload_n dX8_rounds_55 rfl 4 rfl ?_
        refine v_get (ref := "SealhouseModel") (C := RX8) (T := TX8) (N := 20) 0 17 dX8_rounds_56 rfl rfl gin_X8 (by decide) kw_1021 rfl rfl ?_
        refine v_put (ref := "SealhouseModel") (C := RX8) (T := TX8) (N := 20) (ty0 := tyX8) (t := tyX8 17) (ws' := [(mo, .inr (6, [.int (nI (zX y)), .ref m1, .ref m2, .ref m3, .ref m4, .ref m5, .ref m6, .int (nI (zD y)), .ref m8, .ref m9, .ref m10, .ref m11, .ref m12, .ref m13, .ref m14, .ref m15, .ref m16, .int (nI ((b / 4) * 4)), .int (nI ((((t + 4) - 1) / 4) * 4)), .ref m19])), (m1, .inl (G.2.1 3, 160, .inl (fun j9 => bI ((zI y) j9)))), (m2, .inl (G.2.1 1, 160, .inl (zN y))), (m3, .inl (G.2.1 1, 160, .inl (fun j9 => nI ((zB y) j9)))), (m4, .inl (G.2.1 1, 160, .inl (fun j9 => nI ((zT y) j9)))), (m5, .inl (G.2.1 1, 160, .inl (fun j9 => nI ((zP y) j9)))), (m6, .inl (G.2.1 1, 160, .inl (fun j9 => nI ((zS y) j9)))), (m8, .inl (G.2.1 1, 8, .inl (fun j9 => nI ((zR y) j9)))), (m9, .inl (G.2.1 1, 4, .inl (fun j9 => nI ((zQ y) j9)))), (m10, .inl (G.2.1 0, 96, .inl (fun j9 => nI ((zA y) j9)))), (m11, .inl (G.2.1 1, 96, .inl (fun j9 => nI ((zO y) j9)))), (m12, .inl (G.2.1 1, 96, .inl (fun j9 => nI ((zF y) j9)))), (m13, .inl (G.2.1 1, 96, .inl (fun j9 => nI ((zM y) j9)))), (m14, .inl (G.2.1 3, 96, .inl (fun j9 => bI ((zE y) j9)))), (m15, .inl (G.2.1 3, 384, .inl (fun j9 => bI ((zV y) j9)))), (m16, .inl (G.2.1 1, 9, .inl (fun j9 => nI ((zK y) j9)))), (m19, .inl (G.2.1 3, 96, .inl (fun j9 => bI ((zG y) j9))))]) 0 17 dX8_rounds_59 rfl rfl gin_X8 tyX8_ok nmX8 (by decide) kw_1021 rfl rfl (by decide +kernel) rfl rfl (Nat.le_of_ble_eq_true rfl) rfl ?_
        refine v_aload_n dX8_rounds_62 rfl 4 rfl ?_
        refine v_iload dX8_rounds_63 0 rfl ?_
        refine n_if_eq (a := 0) (tgt := 73) dX8_rounds_65 (by decide) (by decide) (fun _ => ?_) (fun c => absurd c (by decide))
        refine v_aload_n dX8_rounds_73 rfl 4 rfl ?_
        refine v_get (ref := "SealhouseModel") (C := RX8) (T := TX8) (N := 20) 0 18 dX8_rounds_74 rfl rfl gin_X8 (by decide) kw_1022 rfl rfl ?_
        refine v_put (ref := "SealhouseModel") (C := RX8) (T := TX8) (N := 20) (ty0 := tyX8) (t := tyX8 18) (ws' := [(mo, .inr (6, [.int (nI (zX y)), .ref m1, .ref m2, .ref m3, .ref m4, .ref m5, .ref m6, .int (nI (zD y)), .ref m8, .ref m9, .ref m10, .ref m11, .ref m12, .ref m13, .ref m14, .ref m15, .ref m16, .int (nI ((b / 4) * 4)), .int (nI ((((t + 4) - 1) / 4) * 4)), .ref m19])), (m1, .inl (G.2.1 3, 160, .inl (fun j9 => bI ((zI y) j9)))), (m2, .inl (G.2.1 1, 160, .inl (zN y))), (m3, .inl (G.2.1 1, 160, .inl (fun j9 => nI ((zB y) j9)))), (m4, .inl (G.2.1 1, 160, .inl (fun j9 => nI ((zT y) j9)))), (m5, .inl (G.2.1 1, 160, .inl (fun j9 => nI ((zP y) j9)))), (m6, .inl (G.2.1 1, 160, .inl (fun j9 => nI ((zS y) j9)))), (m8, .inl (G.2.1 1, 8, .inl (fun j9 => nI ((zR y) j9)))), (m9, .inl (G.2.1 1, 4, .inl (fun j9 => nI ((zQ y) j9)))), (m10, .inl (G.2.1 0, 96, .inl (fun j9 => nI ((zA y) j9)))), (m11, .inl (G.2.1 1, 96, .inl (fun j9 => nI ((zO y) j9)))), (m12, .inl (G.2.1 1, 96, .inl (fun j9 => nI ((zF y) j9)))), (m13, .inl (G.2.1 1, 96, .inl (fun j9 => nI ((zM y) j9)))), (m14, .inl (G.2.1 3, 96, .inl (fun j9 => bI ((zE y) j9)))), (m15, .inl (G.2.1 3, 384, .inl (fun j9 => bI ((zV y) j9)))), (m16, .inl (G.2.1 1, 9, .inl (fun j9 => nI ((zK y) j9)))), (m19, .inl (G.2.1 3, 96, .inl (fun j9 => bI ((zG y) j9))))]) 0 18 dX8_rounds_77 rfl rfl gin_X8 tyX8_ok nmX8 (by decide) kw_1022 rfl rfl (by decide +kernel) rfl rfl (Nat.le_of_ble_eq_true rfl) rfl ?_
        refine v_iload_n dX8_rounds_80 rfl 3 rfl ?_
        refine v_iconst (v := nI 2) dX8_rounds_81 (by decide) ?_
        refine n_idiv (a := 2) (b := 2) (z := 1) dX8_rounds_82 (by decide) (by omega) (by decide) rfl ?_
        refine v_istore_n (lv' := [(3, .int (nI 1)), (6, .int (nI 0)), (5, .int (nI ((((t + 2) - 1) / 2) * 2))), (4, .int (nI ((b / 2) * 2))), (0, .ref mo), (1, .int (nI b)), (2, .int (nI t))]) dX8_rounds_83 rfl (by decide) rfl ?_
        refine v_goto (tgt := 3) dX8_rounds_84 (by decide) ?_
        refine v_iload_n dX8_rounds_3 rfl 0 rfl ?_
        refine n_if_le (a := 1) (tgt := 87) dX8_rounds_4 (by decide) (by decide) (fun c => absurd c (by decide)) (fun _ => ?_)
        refine v_iload_n dX8_rounds_7 rfl 5 rfl ?_
        refine v_iload_n dX8_rounds_8 rfl 0 rfl ?_
        refine n_idiv (a := b) (b := 1) (z := b / 1) dX8_rounds_9 (by decide) (by omega) (by decide) rfl ?_
        refine v_iload_n dX8_rounds_10 rfl 0 rfl ?_
        refine n_imul (a := b / 1) (b := 1) (z := (b / 1) * 1) dX8_rounds_11 rfl ?_
        refine v_istore (lv' := [(4, .int (nI ((b / 1) * 1))), (3, .int (nI 1)), (6, .int (nI 0)), (5, .int (nI ((((t + 2) - 1) / 2) * 2))), (0, .ref mo), (1, .int (nI b)), (2, .int (nI t))]) dX8_rounds_12 (by decide) rfl ?_
        have hd1 : b / 1 * 1 ≤ b := Nat.div_mul_le_self b 1
        have hu1 : t ≤ (t + 1 - 1) / 1 * 1 := le_up (n := t) (u := 1) (by decide)
        have hv1 : (t + 1 - 1) / 1 * 1 < t + 1 := up_lt t 1 (by decide)
        refine v_iload_n dX8_rounds_14 rfl 6 rfl ?_
        refine v_iload_n dX8_rounds_15 rfl 1 rfl ?_
        refine n_iadd (a := t) (b := 1) (z := t + 1) dX8_rounds_16 rfl ?_
        refine v_iconst (v := nI 1) dX8_rounds_17 (by decide) ?_
        refine n_isub (a := t + 1) (b := 1) (z := (t + 1) - 1) dX8_rounds_18 (by omega) ?_
        refine v_iload_n dX8_rounds_19 rfl 1 rfl ?_
        refine n_idiv (a := (t + 1) - 1) (b := 1) (z := ((t + 1) - 1) / 1) dX8_rounds_20 (by decide) (by omega) (by decide) rfl ?_
        refine v_iload_n dX8_rounds_21 rfl 1 rfl ?_
        refine n_imul (a := ((t + 1) - 1) / 1) (b := 1) (z := (((t + 1) - 1) / 1) * 1) dX8_rounds_22 rfl ?_
        refine v_istore (lv' := [(5, .int (nI ((((t + 1) - 1) / 1) * 1))), (4, .int (nI ((b / 1) * 1))), (3, .int (nI 1)), (6, .int (nI 0)), (0, .ref mo), (1, .int (nI b)), (2, .int (nI t))]) dX8_rounds_23 (by decide) rfl ?_
        refine v_iload dX8_rounds_25 0 rfl ?_
        refine v_iload dX8_rounds_27 1 rfl ?_
        refine n_isub (a := (((t + 1) - 1) / 1) * 1) (b := (b / 1) * 1) (z := ((((t + 1) - 1) / 1) * 1) - ((b / 1) * 1)) dX8_rounds_29 (by omega) ?_
        refine v_bipush (v := nI 8) dX8_rounds_30 (by decide) ?_
        refine v_iload_n dX8_rounds_32 rfl 2 rfl ?_
        refine n_imul (a := 8) (b := 1) (z := 8) dX8_rounds_33 rfl ?_
        refine n_icmp_gt (a := ((((t + 1) - 1) / 1) * 1) - ((b / 1) * 1)) (b := 8) (tgt := 41) dX8_rounds_34 (by decide) (by omega) (by omega) (fun c34 => ?_) (fun c34 => ?_)
        ·
          refine v_iconst (v := nI 0) dX8_rounds_41 (by decide) ?_
          refine v_istore (lv' := [(6, .int (nI 0)), (5, .int (nI ((((t + 1) - 1) / 1) * 1))), (4, .int (nI ((b / 1) * 1))), (3, .int (nI 1)), (0, .ref mo), (1, .int (nI b)), (2, .int (nI t))]) dX8_rounds_42 (by decide) rfl ?_
          refine v_aload_n dX8_rounds_44 rfl 4 rfl ?_
          refine v_iload dX8_rounds_45 0 rfl ?_
          refine n_if_eq (a := 0) (tgt := 55) dX8_rounds_47 (by decide) (by decide) (fun _ => ?_) (fun c => absurd c (by decide))
          refine v_aload_n dX8_rounds_55 rfl 4 rfl ?_
          refine v_get (ref := "SealhouseModel") (C := RX8) (T := TX8) (N := 20) 0 17 dX8_rounds_56 rfl rfl gin_X8 (by decide) kw_1021 rfl rfl ?_
          refine v_put (ref := "SealhouseModel") (C := RX8) (T := TX8) (N := 20) (ty0 := tyX8) (t := tyX8 17) (ws' := [(mo, .inr (6, [.int (nI (zX y)), .ref m1, .ref m2, .ref m3, .ref m4, .ref m5, .ref m6, .int (nI (zD y)), .ref m8, .ref m9, .ref m10, .ref m11, .ref m12, .ref m13, .ref m14, .ref m15, .ref m16, .int (nI ((b / 4) * 4)), .int (nI ((((t + 4) - 1) / 4) * 4)), .ref m19])), (m1, .inl (G.2.1 3, 160, .inl (fun j9 => bI ((zI y) j9)))), (m2, .inl (G.2.1 1, 160, .inl (zN y))), (m3, .inl (G.2.1 1, 160, .inl (fun j9 => nI ((zB y) j9)))), (m4, .inl (G.2.1 1, 160, .inl (fun j9 => nI ((zT y) j9)))), (m5, .inl (G.2.1 1, 160, .inl (fun j9 => nI ((zP y) j9)))), (m6, .inl (G.2.1 1, 160, .inl (fun j9 => nI ((zS y) j9)))), (m8, .inl (G.2.1 1, 8, .inl (fun j9 => nI ((zR y) j9)))), (m9, .inl (G.2.1 1, 4, .inl (fun j9 => nI ((zQ y) j9)))), (m10, .inl (G.2.1 0, 96, .inl (fun j9 => nI ((zA y) j9)))), (m11, .inl (G.2.1 1, 96, .inl (fun j9 => nI ((zO y) j9)))), (m12, .inl (G.2.1 1, 96, .inl (fun j9 => nI ((zF y) j9)))), (m13, .inl (G.2.1 1, 96, .inl (fun j9 => nI ((zM y) j9)))), (m14, .inl (G.2.1 3, 96, .inl (fun j9 => bI ((zE y) j9)))), (m15, .inl (G.2.1 3, 384, .inl (fun j9 => bI ((zV y) j9)))), (m16, .inl (G.2.1 1, 9, .inl (fun j9 => nI ((zK y) j9)))), (m19, .inl (G.2.1 3, 96, .inl (fun j9 => bI ((zG y) j9))))]) 0 17 dX8_rounds_59 rfl rfl gin_X8 tyX8_ok nmX8 (by decide) kw_1021 rfl rfl (by decide +kernel) rfl rfl (Nat.le_of_ble_eq_true rfl) rfl ?_
          refine v_aload_n dX8_rounds_62 rfl 4 rfl ?_
          refine v_iload dX8_rounds_63 0 rfl ?_
          refine n_if_eq (a := 0) (tgt := 73) dX8_rounds_65 (by decide) (by decide) (fun _ => ?_) (fun c => absurd c (by decide))
          refine v_aload_n dX8_rounds_73 rfl 4 rfl ?_
          refine v_get (ref := "SealhouseModel") (C := RX8) (T := TX8) (N := 20) 0 18 dX8_rounds_74 rfl rfl gin_X8 (by decide) kw_1022 rfl rfl ?_
          refine v_put (ref := "SealhouseModel") (C := RX8) (T := TX8) (N := 20) (ty0 := tyX8) (t := tyX8 18) (ws' := [(mo, .inr (6, [.int (nI (zX y)), .ref m1, .ref m2, .ref m3, .ref m4, .ref m5, .ref m6, .int (nI (zD y)), .ref m8, .ref m9, .ref m10, .ref m11, .ref m12, .ref m13, .ref m14, .ref m15, .ref m16, .int (nI ((b / 4) * 4)), .int (nI ((((t + 4) - 1) / 4) * 4)), .ref m19])), (m1, .inl (G.2.1 3, 160, .inl (fun j9 => bI ((zI y) j9)))), (m2, .inl (G.2.1 1, 160, .inl (zN y))), (m3, .inl (G.2.1 1, 160, .inl (fun j9 => nI ((zB y) j9)))), (m4, .inl (G.2.1 1, 160, .inl (fun j9 => nI ((zT y) j9)))), (m5, .inl (G.2.1 1, 160, .inl (fun j9 => nI ((zP y) j9)))), (m6, .inl (G.2.1 1, 160, .inl (fun j9 => nI ((zS y) j9)))), (m8, .inl (G.2.1 1, 8, .inl (fun j9 => nI ((zR y) j9)))), (m9, .inl (G.2.1 1, 4, .inl (fun j9 => nI ((zQ y) j9)))), (m10, .inl (G.2.1 0, 96, .inl (fun j9 => nI ((zA y) j9)))), (m11, .inl (G.2.1 1, 96, .inl (fun j9 => nI ((zO y) j9)))), (m12, .inl (G.2.1 1, 96, .inl (fun j9 => nI ((zF y) j9)))), (m13, .inl (G.2.1 1, 96, .inl (fun j9 => nI ((zM y) j9)))), (m14, .inl (G.2.1 3, 96, .inl (fun j9 => bI ((zE y) j9)))), (m15, .inl (G.2.1 3, 384, .inl (fun j9 => bI ((zV y) j9)))), (m16, .inl (G.2.1 1, 9, .inl (fun j9 => nI ((zK y) j9)))), (m19, .inl (G.2.1 3, 96, .inl (fun j9 => bI ((zG y) j9))))]) 0 18 dX8_rounds_77 rfl rfl gin_X8 tyX8_ok nmX8 (by decide) kw_1022 rfl rfl (by decide +kernel) rfl rfl (Nat.le_of_ble_eq_true rfl) rfl ?_
          refine v_iload_n dX8_rounds_80 rfl 3 rfl ?_
          refine v_iconst (v := nI 2) dX8_rounds_81 (by decide) ?_
          refine n_idiv (a := 1) (b := 2) (z := 0) dX8_rounds_82 (by decide) (by omega) (by decide) rfl ?_
          refine v_istore_n (lv' := [(3, .int (nI 0)), (6, .int (nI 0)), (5, .int (nI ((((t + 1) - 1) / 1) * 1))), (4, .int (nI ((b / 1) * 1))), (0, .ref mo), (1, .int (nI b)), (2, .int (nI t))]) dX8_rounds_83 rfl (by decide) rfl ?_
          refine v_goto (tgt := 3) dX8_rounds_84 (by decide) ?_
          refine v_iload_n dX8_rounds_3 rfl 0 rfl ?_
          refine n_if_le (a := 0) (tgt := 87) dX8_rounds_4 (by decide) (by decide) (fun _ => ?_) (fun c => absurd c (by decide))
          exact v_vret hR dX8_rounds_87 (by refine ⟨rfl, ?_⟩; unfold rndY; first | (rw [unit_1 (by unfold dn up; omega)]; rfl) | (rw [unit_2 (by unfold dn up; omega) (by unfold dn up; omega)]; rfl) | (rw [unit_4 (by unfold dn up; omega) (by unfold dn up; omega) (by unfold dn up; omega)]; rfl) | (rw [unit_8 (by unfold dn up; omega) (by unfold dn up; omega) (by unfold dn up; omega) (by unfold dn up; omega)]; rfl) | (rw [unit_16 (by unfold dn up; omega) (by unfold dn up; omega) (by unfold dn up; omega) (by unfold dn up; omega)]; rfl))
        ·
          refine v_iconst (v := nI 1) dX8_rounds_37 (by decide) ?_
          refine v_goto (tgt := 42) dX8_rounds_38 (by decide) ?_
          refine v_istore (lv' := [(6, .int (nI 1)), (5, .int (nI ((((t + 1) - 1) / 1) * 1))), (4, .int (nI ((b / 1) * 1))), (3, .int (nI 1)), (0, .ref mo), (1, .int (nI b)), (2, .int (nI t))]) dX8_rounds_42 (by decide) rfl ?_
          refine v_aload_n dX8_rounds_44 rfl 4 rfl ?_
          refine v_iload dX8_rounds_45 0 rfl ?_
          refine n_if_eq (a := 1) (tgt := 55) dX8_rounds_47 (by decide) (by decide) (fun c => absurd c (by decide)) (fun _ => ?_)
          refine v_iload dX8_rounds_50 2 rfl ?_
          refine v_goto (tgt := 59) dX8_rounds_52 (by decide) ?_
          refine v_put (ref := "SealhouseModel") (C := RX8) (T := TX8) (N := 20) (ty0 := tyX8) (t := tyX8 17) (ws' := [(mo, .inr (6, [.int (nI (zX y)), .ref m1, .ref m2, .ref m3, .ref m4, .ref m5, .ref m6, .int (nI (zD y)), .ref m8, .ref m9, .ref m10, .ref m11, .ref m12, .ref m13, .ref m14, .ref m15, .ref m16, .int (nI ((b / 1) * 1)), .int (nI ((((t + 4) - 1) / 4) * 4)), .ref m19])), (m1, .inl (G.2.1 3, 160, .inl (fun j9 => bI ((zI y) j9)))), (m2, .inl (G.2.1 1, 160, .inl (zN y))), (m3, .inl (G.2.1 1, 160, .inl (fun j9 => nI ((zB y) j9)))), (m4, .inl (G.2.1 1, 160, .inl (fun j9 => nI ((zT y) j9)))), (m5, .inl (G.2.1 1, 160, .inl (fun j9 => nI ((zP y) j9)))), (m6, .inl (G.2.1 1, 160, .inl (fun j9 => nI ((zS y) j9)))), (m8, .inl (G.2.1 1, 8, .inl (fun j9 => nI ((zR y) j9)))), (m9, .inl (G.2.1 1, 4, .inl (fun j9 => nI ((zQ y) j9)))), (m10, .inl (G.2.1 0, 96, .inl (fun j9 => nI ((zA y) j9)))), (m11, .inl (G.2.1 1, 96, .inl (fun j9 => nI ((zO y) j9)))), (m12, .inl (G.2.1 1, 96, .inl (fun j9 => nI ((zF y) j9)))), (m13, .inl (G.2.1 1, 96, .inl (fun j9 => nI ((zM y) j9)))), (m14, .inl (G.2.1 3, 96, .inl (fun j9 => bI ((zE y) j9)))), (m15, .inl (G.2.1 3, 384, .inl (fun j9 => bI ((zV y) j9)))), (m16, .inl (G.2.1 1, 9, .inl (fun j9 => nI ((zK y) j9)))), (m19, .inl (G.2.1 3, 96, .inl (fun j9 => bI ((zG y) j9))))]) 0 17 dX8_rounds_59 rfl rfl gin_X8 tyX8_ok nmX8 (by decide) kw_1021 rfl rfl (by decide +kernel) rfl rfl (Nat.le_of_ble_eq_true rfl) rfl ?_
          refine v_aload_n dX8_rounds_62 rfl 4 rfl ?_
          refine v_iload dX8_rounds_63 0 rfl ?_
          refine n_if_eq (a := 1) (tgt := 73) dX8_rounds_65 (by decide) (by decide) (fun c => absurd c (by decide)) (fun _ => ?_)
          refine v_iload dX8_rounds_68 1 rfl ?_
          refine v_goto (tgt := 77) dX8_rounds_70 (by decide) ?_
          refine v_put (ref := "SealhouseModel") (C := RX8) (T := TX8) (N := 20) (ty0 := tyX8) (t := tyX8 18) (ws' := [(mo, .inr (6, [.int (nI (zX y)), .ref m1, .ref m2, .ref m3, .ref m4, .ref m5, .ref m6, .int (nI (zD y)), .ref m8, .ref m9, .ref m10, .ref m11, .ref m12, .ref m13, .ref m14, .ref m15, .ref m16, .int (nI ((b / 1) * 1)), .int (nI ((((t + 1) - 1) / 1) * 1)), .ref m19])), (m1, .inl (G.2.1 3, 160, .inl (fun j9 => bI ((zI y) j9)))), (m2, .inl (G.2.1 1, 160, .inl (zN y))), (m3, .inl (G.2.1 1, 160, .inl (fun j9 => nI ((zB y) j9)))), (m4, .inl (G.2.1 1, 160, .inl (fun j9 => nI ((zT y) j9)))), (m5, .inl (G.2.1 1, 160, .inl (fun j9 => nI ((zP y) j9)))), (m6, .inl (G.2.1 1, 160, .inl (fun j9 => nI ((zS y) j9)))), (m8, .inl (G.2.1 1, 8, .inl (fun j9 => nI ((zR y) j9)))), (m9, .inl (G.2.1 1, 4, .inl (fun j9 => nI ((zQ y) j9)))), (m10, .inl (G.2.1 0, 96, .inl (fun j9 => nI ((zA y) j9)))), (m11, .inl (G.2.1 1, 96, .inl (fun j9 => nI ((zO y) j9)))), (m12, .inl (G.2.1 1, 96, .inl (fun j9 => nI ((zF y) j9)))), (m13, .inl (G.2.1 1, 96, .inl (fun j9 => nI ((zM y) j9)))), (m14, .inl (G.2.1 3, 96, .inl (fun j9 => bI ((zE y) j9)))), (m15, .inl (G.2.1 3, 384, .inl (fun j9 => bI ((zV y) j9)))), (m16, .inl (G.2.1 1, 9, .inl (fun j9 => nI ((zK y) j9)))), (m19, .inl (G.2.1 3, 96, .inl (fun j9 => bI ((zG y) j9))))]) 0 18 dX8_rounds_77 rfl rfl gin_X8 tyX8_ok nmX8 (by decide) kw_1022 rfl rfl (by decide +kernel) rfl rfl (Nat.le_of_ble_eq_true rfl) rfl ?_
          refine v_iload_n dX8_rounds_80 rfl 3 rfl ?_
          refine v_iconst (v := nI 2) dX8_rounds_81 (by decide) ?_
          refine n_idiv (a := 1) (b := 2) (z := 0) dX8_rounds_82 (by decide) (by omega) (by decide) rfl ?_
          refine v_istore_n (lv' := [(3, .int (nI 0)), (6, .int (nI 1)), (5, .int (nI ((((t + 1) - 1) / 1) * 1))), (4, .int (nI ((b / 1) * 1))), (0, .ref mo), (1, .int (nI b)), (2, .int (nI t))]) dX8_rounds_83 rfl (by decide) rfl ?_
          refine v_goto (tgt := 3) dX8_rounds_84 (by decide) ?_
          refine v_iload_n dX8_rounds_3 rfl 0 rfl ?_
          refine n_if_le (a := 0) (tgt := 87) dX8_rounds_4 (by decide) (by decide) (fun _ => ?_) (fun c => absurd c (by decide))
          exact v_vret hR dX8_rounds_87 (by refine ⟨rfl, ?_⟩; unfold rndY; first | (rw [unit_1 (by unfold dn up; omega)]; rfl) | (rw [unit_2 (by unfold dn up; omega) (by unfold dn up; omega)]; rfl) | (rw [unit_4 (by unfold dn up; omega) (by unfold dn up; omega) (by unfold dn up; omega)]; rfl) | (rw [unit_8 (by unfold dn up; omega) (by unfold dn up; omega) (by unfold dn up; omega) (by unfold dn up; omega)]; rfl) | (rw [unit_16 (by unfold dn up; omega) (by unfold dn up; omega) (by unfold dn up; omega) (by unfold dn up; omega)]; rfl))
      ·
        refine v_iconst (v := nI 1) dX8_rounds_37 (by decide) ?_
        refine v_goto (tgt := 42) dX8_rounds_38 (by decide) ?_
        refine v_istore (lv' := [(6, .int (nI 1)), (5, .int (nI ((((t + 2) - 1) / 2) * 2))), (4, .int (nI ((b / 2) * 2))), (3, .int (nI 2)), (0, .ref mo), (1, .int (nI b)), (2, .int (nI t))]) dX8_rounds_42 (by decide) rfl ?_
        refine v_aload_n dX8_rounds_44 rfl 4 rfl ?_
        refine v_iload dX8_rounds_45 0 rfl ?_
        refine n_if_eq (a := 1) (tgt := 55) dX8_rounds_47 (by decide) (by decide) (fun c => absurd c (by decide)) (fun _ => ?_)
        refine v_iload dX8_rounds_50 2 rfl ?_
        refine v_goto (tgt := 59) dX8_rounds_52 (by decide) ?_
        refine v_put (ref := "SealhouseModel") (C := RX8) (T := TX8) (N := 20) (ty0 := tyX8) (t := tyX8 17) (ws' := [(mo, .inr (6, [.int (nI (zX y)), .ref m1, .ref m2, .ref m3, .ref m4, .ref m5, .ref m6, .int (nI (zD y)), .ref m8, .ref m9, .ref m10, .ref m11, .ref m12, .ref m13, .ref m14, .ref m15, .ref m16, .int (nI ((b / 2) * 2)), .int (nI ((((t + 4) - 1) / 4) * 4)), .ref m19])), (m1, .inl (G.2.1 3, 160, .inl (fun j9 => bI ((zI y) j9)))), (m2, .inl (G.2.1 1, 160, .inl (zN y))), (m3, .inl (G.2.1 1, 160, .inl (fun j9 => nI ((zB y) j9)))), (m4, .inl (G.2.1 1, 160, .inl (fun j9 => nI ((zT y) j9)))), (m5, .inl (G.2.1 1, 160, .inl (fun j9 => nI ((zP y) j9)))), (m6, .inl (G.2.1 1, 160, .inl (fun j9 => nI ((zS y) j9)))), (m8, .inl (G.2.1 1, 8, .inl (fun j9 => nI ((zR y) j9)))), (m9, .inl (G.2.1 1, 4, .inl (fun j9 => nI ((zQ y) j9)))), (m10, .inl (G.2.1 0, 96, .inl (fun j9 => nI ((zA y) j9)))), (m11, .inl (G.2.1 1, 96, .inl (fun j9 => nI ((zO y) j9)))), (m12, .inl (G.2.1 1, 96, .inl (fun j9 => nI ((zF y) j9)))), (m13, .inl (G.2.1 1, 96, .inl (fun j9 => nI ((zM y) j9)))), (m14, .inl (G.2.1 3, 96, .inl (fun j9 => bI ((zE y) j9)))), (m15, .inl (G.2.1 3, 384, .inl (fun j9 => bI ((zV y) j9)))), (m16, .inl (G.2.1 1, 9, .inl (fun j9 => nI ((zK y) j9)))), (m19, .inl (G.2.1 3, 96, .inl (fun j9 => bI ((zG y) j9))))]) 0 17 dX8_rounds_59 rfl rfl gin_X8 tyX8_ok nmX8 (by decide) kw_1021 rfl rfl (by decide +kernel) rfl rfl (Nat.le_of_ble_eq_true rfl) rfl ?_
        refine v_aload_n dX8_rounds_62 rfl 4 rfl ?_
        refine v_iload dX8_rounds_63 0 rfl ?_
        refine n_if_eq (a := 1) (tgt := 73) dX8_rounds_65 (by decide) (by decide) (fun c => absurd c (by decide)) (fun _ => ?_)
        refine v_iload dX8_rounds_68 1 rfl ?_
        refine v_goto (tgt := 77) dX8_rounds_70 (by decide) ?_
        refine v_put (ref := "SealhouseModel") (C := RX8) (T := TX8) (N := 20) (ty0 := tyX8) (t := tyX8 18) (ws' := [(mo, .inr (6, [.int (nI (zX y)), .ref m1, .ref m2, .ref m3, .ref m4, .ref m5, .ref m6, .int (nI (zD y)), .ref m8, .ref m9, .ref m10, .ref m11, .ref m12, .ref m13, .ref m14, .ref m15, .ref m16, .int (nI ((b / 2) * 2)), .int (nI ((((t + 2) - 1) / 2) * 2)), .ref m19])), (m1, .inl (G.2.1 3, 160, .inl (fun j9 => bI ((zI y) j9)))), (m2, .inl (G.2.1 1, 160, .inl (zN y))), (m3, .inl (G.2.1 1, 160, .inl (fun j9 => nI ((zB y) j9)))), (m4, .inl (G.2.1 1, 160, .inl (fun j9 => nI ((zT y) j9)))), (m5, .inl (G.2.1 1, 160, .inl (fun j9 => nI ((zP y) j9)))), (m6, .inl (G.2.1 1, 160, .inl (fun j9 => nI ((zS y) j9)))), (m8, .inl (G.2.1 1, 8, .inl (fun j9 => nI ((zR y) j9)))), (m9, .inl (G.2.1 1, 4, .inl (fun j9 => nI ((zQ y) j9)))), (m10, .inl (G.2.1 0, 96, .inl (fun j9 => nI ((zA y) j9)))), (m11, .inl (G.2.1 1, 96, .inl (fun j9 => nI ((zO y) j9)))), (m12, .inl (G.2.1 1, 96, .inl (fun j9 => nI ((zF y) j9)))), (m13, .inl (G.2.1 1, 96, .inl (fun j9 => nI ((zM y) j9)))), (m14, .inl (G.2.1 3, 96, .inl (fun j9 => bI ((zE y) j9)))), (m15, .inl (G.2.1 3, 384, .inl (fun j9 => bI ((zV y) j9)))), (m16, .inl (G.2.1 1, 9, .inl (fun j9 => nI ((zK y) j9)))), (m19, .inl (G.2.1 3, 96, .inl (fun j9 => bI ((zG y) j9))))]) 0 18 dX8_rounds_77 rfl rfl gin_X8 tyX8_ok nmX8 (by decide) kw_1022 rfl rfl (by decide +kernel) rfl rfl (Nat.le_of_ble_eq_true rfl) rfl ?_
        refine v_iload_n dX8_rounds_80 rfl 3 rfl ?_
        refine v_iconst (v := nI 2) dX8_rounds_81 (by decide) ?_
        refine n_idiv (a := 2) (b := 2) (z := 1) dX8_rounds_82 (by decide) (by omega) (by decide) rfl ?_
        refine v_istore_n (lv' := [(3, .int (nI 1)), (6, .int (nI 1)), (5, .int (nI ((((t + 2) - 1) / 2) * 2))), (4, .int (nI ((b / 2) * 2))), (0, .ref mo), (1, .int (nI b)), (2, .int (nI t))]) dX8_rounds_83 rfl (by decide) rfl ?_
        refine v_goto (tgt := 3) dX8_rounds_84 (by decide) ?_
        refine v_iload_n dX8_rounds_3 rfl 0 rfl ?_
        refine n_if_le (a := 1) (tgt := 87) dX8_rounds_4 (by decide) (by decide) (fun c => absurd c (by decide)) (fun _ => ?_)
        refine v_iload_n dX8_rounds_7 rfl 5 rfl ?_
        refine v_iload_n dX8_rounds_8 rfl 0 rfl ?_
        refine n_idiv (a := b) (b := 1) (z := b / 1) dX8_rounds_9 (by decide) (by omega) (by decide) rfl ?_
        refine v_iload_n dX8_rounds_10 rfl 0 rfl ?_
        refine n_imul (a := b / 1) (b := 1) (z := (b / 1) * 1) dX8_rounds_11 rfl ?_
        refine v_istore (lv' := [(4, .int (nI ((b / 1) * 1))), (3, .int (nI 1)), (6, .int (nI 1)), (5, .int (nI ((((t + 2) - 1) / 2) * 2))), (0, .ref mo), (1, .int (nI b)), (2, .int (nI t))]) dX8_rounds_12 (by decide) rfl ?_
        have hd1 : b / 1 * 1 ≤ b := Nat.div_mul_le_self b 1
        have hu1 : t ≤ (t + 1 - 1) / 1 * 1 := le_up (n := t) (u := 1) (by decide)
        have hv1 : (t + 1 - 1) / 1 * 1 < t + 1 := up_lt t 1 (by decide)
        refine v_iload_n dX8_rounds_14 rfl 6 rfl ?_
        refine v_iload_n dX8_rounds_15 rfl 1 rfl ?_
        refine n_iadd (a := t) (b := 1) (z := t + 1) dX8_rounds_16 rfl ?_
        refine v_iconst (v := nI 1) dX8_rounds_17 (by decide) ?_
        refine n_isub (a := t + 1) (b := 1) (z := (t + 1) - 1) dX8_rounds_18 (by omega) ?_
        refine v_iload_n dX8_rounds_19 rfl 1 rfl ?_
        refine n_idiv (a := (t + 1) - 1) (b := 1) (z := ((t + 1) - 1) / 1) dX8_rounds_20 (by decide) (by omega) (by decide) rfl ?_
        refine v_iload_n dX8_rounds_21 rfl 1 rfl ?_
        refine n_imul (a := ((t + 1) - 1) / 1) (b := 1) (z := (((t + 1) - 1) / 1) * 1) dX8_rounds_22 rfl ?_
        refine v_istore (lv' := [(5, .int (nI ((((t + 1) - 1) / 1) * 1))), (4, .int (nI ((b / 1) * 1))), (3, .int (nI 1)), (6, .int (nI 1)), (0, .ref mo), (1, .int (nI b)), (2, .int (nI t))]) dX8_rounds_23 (by decide) rfl ?_
        refine v_iload dX8_rounds_25 0 rfl ?_
        refine v_iload dX8_rounds_27 1 rfl ?_
        refine n_isub (a := (((t + 1) - 1) / 1) * 1) (b := (b / 1) * 1) (z := ((((t + 1) - 1) / 1) * 1) - ((b / 1) * 1)) dX8_rounds_29 (by omega) ?_
        refine v_bipush (v := nI 8) dX8_rounds_30 (by decide) ?_
        refine v_iload_n dX8_rounds_32 rfl 2 rfl ?_
        refine n_imul (a := 8) (b := 1) (z := 8) dX8_rounds_33 rfl ?_
        refine n_icmp_gt (a := ((((t + 1) - 1) / 1) * 1) - ((b / 1) * 1)) (b := 8) (tgt := 41) dX8_rounds_34 (by decide) (by omega) (by omega) (fun c34 => ?_) (fun c34 => ?_)
        ·
          refine v_iconst (v := nI 0) dX8_rounds_41 (by decide) ?_
          refine v_istore (lv' := [(6, .int (nI 0)), (5, .int (nI ((((t + 1) - 1) / 1) * 1))), (4, .int (nI ((b / 1) * 1))), (3, .int (nI 1)), (0, .ref mo), (1, .int (nI b)), (2, .int (nI t))]) dX8_rounds_42 (by decide) rfl ?_
          refine v_aload_n dX8_rounds_44 rfl 4 rfl ?_
          refine v_iload dX8_rounds_45 0 rfl ?_
          refine n_if_eq (a := 0) (tgt := 55) dX8_rounds_47 (by decide) (by decide) (fun _ => ?_) (fun c => absurd c (by decide))
          refine v_aload_n dX8_rounds_55 rfl 4 rfl ?_
          refine v_get (ref := "SealhouseModel") (C := RX8) (T := TX8) (N := 20) 0 17 dX8_rounds_56 rfl rfl gin_X8 (by decide) kw_1021 rfl rfl ?_
          refine v_put (ref := "SealhouseModel") (C := RX8) (T := TX8) (N := 20) (ty0 := tyX8) (t := tyX8 17) (ws' := [(mo, .inr (6, [.int (nI (zX y)), .ref m1, .ref m2, .ref m3, .ref m4, .ref m5, .ref m6, .int (nI (zD y)), .ref m8, .ref m9, .ref m10, .ref m11, .ref m12, .ref m13, .ref m14, .ref m15, .ref m16, .int (nI ((b / 2) * 2)), .int (nI ((((t + 2) - 1) / 2) * 2)), .ref m19])), (m1, .inl (G.2.1 3, 160, .inl (fun j9 => bI ((zI y) j9)))), (m2, .inl (G.2.1 1, 160, .inl (zN y))), (m3, .inl (G.2.1 1, 160, .inl (fun j9 => nI ((zB y) j9)))), (m4, .inl (G.2.1 1, 160, .inl (fun j9 => nI ((zT y) j9)))), (m5, .inl (G.2.1 1, 160, .inl (fun j9 => nI ((zP y) j9)))), (m6, .inl (G.2.1 1, 160, .inl (fun j9 => nI ((zS y) j9)))), (m8, .inl (G.2.1 1, 8, .inl (fun j9 => nI ((zR y) j9)))), (m9, .inl (G.2.1 1, 4, .inl (fun j9 => nI ((zQ y) j9)))), (m10, .inl (G.2.1 0, 96, .inl (fun j9 => nI ((zA y) j9)))), (m11, .inl (G.2.1 1, 96, .inl (fun j9 => nI ((zO y) j9)))), (m12, .inl (G.2.1 1, 96, .inl (fun j9 => nI ((zF y) j9)))), (m13, .inl (G.2.1 1, 96, .inl (fun j9 => nI ((zM y) j9)))), (m14, .inl (G.2.1 3, 96, .inl (fun j9 => bI ((zE y) j9)))), (m15, .inl (G.2.1 3, 384, .inl (fun j9 => bI ((zV y) j9)))), (m16, .inl (G.2.1 1, 9, .inl (fun j9 => nI ((zK y) j9)))), (m19, .inl (G.2.1 3, 96, .inl (fun j9 => bI ((zG y) j9))))]) 0 17 dX8_rounds_59 rfl rfl gin_X8 tyX8_ok nmX8 (by decide) kw_1021 rfl rfl (by decide +kernel) rfl rfl (Nat.le_of_ble_eq_true rfl) rfl ?_
          refine v_aload_n dX8_rounds_62 rfl 4 rfl ?_
          refine v_iload dX8_rounds_63 0 rfl ?_
          refine n_if_eq (a := 0) (tgt := 73) dX8_rounds_65 (by decide) (by decide) (fun _ => ?_) (fun c => absurd c (by decide))
          refine v_aload_n dX8_rounds_73 rfl 4 rfl ?_
          refine v_get (ref := "SealhouseModel") (C := RX8) (T := TX8) (N := 20) 0 18 dX8_rounds_74 rfl rfl gin_X8 (by decide) kw_1022 rfl rfl ?_
          refine v_put (ref := "SealhouseModel") (C := RX8) (T := TX8) (N := 20) (ty0 := tyX8) (t := tyX8 18) (ws' := [(mo, .inr (6, [.int (nI (zX y)), .ref m1, .ref m2, .ref m3, .ref m4, .ref m5, .ref m6, .int (nI (zD y)), .ref m8, .ref m9, .ref m10, .ref m11, .ref m12, .ref m13, .ref m14, .ref m15, .ref m16, .int (nI ((b / 2) * 2)), .int (nI ((((t + 2) - 1) / 2) * 2)), .ref m19])), (m1, .inl (G.2.1 3, 160, .inl (fun j9 => bI ((zI y) j9)))), (m2, .inl (G.2.1 1, 160, .inl (zN y))), (m3, .inl (G.2.1 1, 160, .inl (fun j9 => nI ((zB y) j9)))), (m4, .inl (G.2.1 1, 160, .inl (fun j9 => nI ((zT y) j9)))), (m5, .inl (G.2.1 1, 160, .inl (fun j9 => nI ((zP y) j9)))), (m6, .inl (G.2.1 1, 160, .inl (fun j9 => nI ((zS y) j9)))), (m8, .inl (G.2.1 1, 8, .inl (fun j9 => nI ((zR y) j9)))), (m9, .inl (G.2.1 1, 4, .inl (fun j9 => nI ((zQ y) j9)))), (m10, .inl (G.2.1 0, 96, .inl (fun j9 => nI ((zA y) j9)))), (m11, .inl (G.2.1 1, 96, .inl (fun j9 => nI ((zO y) j9)))), (m12, .inl (G.2.1 1, 96, .inl (fun j9 => nI ((zF y) j9)))), (m13, .inl (G.2.1 1, 96, .inl (fun j9 => nI ((zM y) j9)))), (m14, .inl (G.2.1 3, 96, .inl (fun j9 => bI ((zE y) j9)))), (m15, .inl (G.2.1 3, 384, .inl (fun j9 => bI ((zV y) j9)))), (m16, .inl (G.2.1 1, 9, .inl (fun j9 => nI ((zK y) j9)))), (m19, .inl (G.2.1 3, 96, .inl (fun j9 => bI ((zG y) j9))))]) 0 18 dX8_rounds_77 rfl rfl gin_X8 tyX8_ok nmX8 (by decide) kw_1022 rfl rfl (by decide +kernel) rfl rfl (Nat.le_of_ble_eq_true rfl) rfl ?_
          refine v_iload_n dX8_rounds_80 rfl 3 rfl ?_
          refine v_iconst (v := nI 2) dX8_rounds_81 (by decide) ?_
          refine n_idiv (a := 1) (b := 2) (z := 0) dX8_rounds_82 (by decide) (by omega) (by decide) rfl ?_
          refine v_istore_n (lv' := [(3, .int (nI 0)), (6, .int (nI 0)), (5, .int (nI ((((t + 1) - 1) / 1) * 1))), (4, .int (nI ((b / 1) * 1))), (0, .ref mo), (1, .int (nI b)), (2, .int (nI t))]) dX8_rounds_83 rfl (by decide) rfl ?_
          refine v_goto (tgt := 3) dX8_rounds_84 (by decide) ?_
          refine v_iload_n dX8_rounds_3 rfl 0 rfl ?_
          refine n_if_le (a := 0) (tgt := 87) dX8_rounds_4 (by decide) (by decide) (fun _ => ?_) (fun c => absurd c (by decide))
          exact v_vret hR dX8_rounds_87 (by refine ⟨rfl, ?_⟩; unfold rndY; first | (rw [unit_1 (by unfold dn up; omega)]; rfl) | (rw [unit_2 (by unfold dn up; omega) (by unfold dn up; omega)]; rfl) | (rw [unit_4 (by unfold dn up; omega) (by unfold dn up; omega) (by unfold dn up; omega)]; rfl) | (rw [unit_8 (by unfold dn up; omega) (by unfold dn up; omega) (by unfold dn up; omega) (by unfold dn up; omega)]; rfl) | (rw [unit_16 (by unfold dn up; omega) (by unfold dn up; omega) (by unfold dn up; omega) (by unfold dn up; omega)]; rfl))
        ·
          refine v_iconst (v := nI 1) dX8_rounds_37 (by decide) ?_
          refine v_goto (tgt := 42) dX8_rounds_38 (by decide) ?_
          refine v_istore (lv' := [(6, .int (nI 1)), (5, .int (nI ((((t + 1) - 1) / 1) * 1))), (4, .int (nI ((b / 1) * 1))), (3, .int (nI 1)), (0, .ref mo), (1, .int (nI b)), (2, .int (nI t))]) dX8_rounds_42 (by decide) rfl ?_
          refine v_aload_n dX8_rounds_44 rfl 4 rfl ?_
          refine v_iload dX8_rounds_45 0 rfl ?_
          refine n_if_eq (a := 1) (tgt := 55) dX8_rounds_47 (by decide) (by decide) (fun c => absurd c (by decide)) (fun _ => ?_)
          refine v_iload dX8_rounds_50 2 rfl ?_
          refine v_goto (tgt := 59) dX8_rounds_52 (by decide) ?_
          refine v_put (ref := "SealhouseModel") (C := RX8) (T := TX8) (N := 20) (ty0 := tyX8) (t := tyX8 17) (ws' := [(mo, .inr (6, [.int (nI (zX y)), .ref m1, .ref m2, .ref m3, .ref m4, .ref m5, .ref m6, .int (nI (zD y)), .ref m8, .ref m9, .ref m10, .ref m11, .ref m12, .ref m13, .ref m14, .ref m15, .ref m16, .int (nI ((b / 1) * 1)), .int (nI ((((t + 2) - 1) / 2) * 2)), .ref m19])), (m1, .inl (G.2.1 3, 160, .inl (fun j9 => bI ((zI y) j9)))), (m2, .inl (G.2.1 1, 160, .inl (zN y))), (m3, .inl (G.2.1 1, 160, .inl (fun j9 => nI ((zB y) j9)))), (m4, .inl (G.2.1 1, 160, .inl (fun j9 => nI ((zT y) j9)))), (m5, .inl (G.2.1 1, 160, .inl (fun j9 => nI ((zP y) j9)))), (m6, .inl (G.2.1 1, 160, .inl (fun j9 => nI ((zS y) j9)))), (m8, .inl (G.2.1 1, 8, .inl (fun j9 => nI ((zR y) j9)))), (m9, .inl (G.2.1 1, 4, .inl (fun j9 => nI ((zQ y) j9)))), (m10, .inl (G.2.1 0, 96, .inl (fun j9 => nI ((zA y) j9)))), (m11, .inl (G.2.1 1, 96, .inl (fun j9 => nI ((zO y) j9)))), (m12, .inl (G.2.1 1, 96, .inl (fun j9 => nI ((zF y) j9)))), (m13, .inl (G.2.1 1, 96, .inl (fun j9 => nI ((zM y) j9)))), (m14, .inl (G.2.1 3, 96, .inl (fun j9 => bI ((zE y) j9)))), (m15, .inl (G.2.1 3, 384, .inl (fun j9 => bI ((zV y) j9)))), (m16, .inl (G.2.1 1, 9, .inl (fun j9 => nI ((zK y) j9)))), (m19, .inl (G.2.1 3, 96, .inl (fun j9 => bI ((zG y) j9))))]) 0 17 dX8_rounds_59 rfl rfl gin_X8 tyX8_ok nmX8 (by decide) kw_1021 rfl rfl (by decide +kernel) rfl rfl (Nat.le_of_ble_eq_true rfl) rfl ?_
          refine v_aload_n dX8_rounds_62 rfl 4 rfl ?_
          refine v_iload dX8_rounds_63 0 rfl ?_
          refine n_if_eq (a := 1) (tgt := 73) dX8_rounds_65 (by decide) (by decide) (fun c => absurd c (by decide)) (fun _ => ?_)
          refine v_iload dX8_rounds_68 1 rfl ?_
          refine v_goto (tgt := 77) dX8_rounds_70 (by decide) ?_
          refine v_put (ref := "SealhouseModel") (C := RX8) (T := TX8) (N := 20) (ty0 := tyX8) (t := tyX8 18) (ws' := [(mo, .inr (6, [.int (nI (zX y)), .ref m1, .ref m2, .ref m3, .ref m4, .ref m5, .ref m6, .int (nI (zD y)), .ref m8, .ref m9, .ref m10, .ref m11, .ref m12, .ref m13, .ref m14, .ref m15, .ref m16, .int (nI ((b / 1) * 1)), .int (nI ((((t + 1) - 1) / 1) * 1)), .ref m19])), (m1, .inl (G.2.1 3, 160, .inl (fun j9 => bI ((zI y) j9)))), (m2, .inl (G.2.1 1, 160, .inl (zN y))), (m3, .inl (G.2.1 1, 160, .inl (fun j9 => nI ((zB y) j9)))), (m4, .inl (G.2.1 1, 160, .inl (fun j9 => nI ((zT y) j9)))), (m5, .inl (G.2.1 1, 160, .inl (fun j9 => nI ((zP y) j9)))), (m6, .inl (G.2.1 1, 160, .inl (fun j9 => nI ((zS y) j9)))), (m8, .inl (G.2.1 1, 8, .inl (fun j9 => nI ((zR y) j9)))), (m9, .inl (G.2.1 1, 4, .inl (fun j9 => nI ((zQ y) j9)))), (m10, .inl (G.2.1 0, 96, .inl (fun j9 => nI ((zA y) j9)))), (m11, .inl (G.2.1 1, 96, .inl (fun j9 => nI ((zO y) j9)))), (m12, .inl (G.2.1 1, 96, .inl (fun j9 => nI ((zF y) j9)))), (m13, .inl (G.2.1 1, 96, .inl (fun j9 => nI ((zM y) j9)))), (m14, .inl (G.2.1 3, 96, .inl (fun j9 => bI ((zE y) j9)))), (m15, .inl (G.2.1 3, 384, .inl (fun j9 => bI ((zV y) j9)))), (m16, .inl (G.2.1 1, 9, .inl (fun j9 => nI ((zK y) j9)))), (m19, .inl (G.2.1 3, 96, .inl (fun j9 => bI ((zG y) j9))))]) 0 18 dX8_rounds_77 rfl rfl gin_X8 tyX8_ok nmX8 (by decide) kw_1022 rfl rfl (by decide +kernel) rfl rfl (Nat.le_of_ble_eq_true rfl) rfl ?_
          refine v_iload_n dX8_rounds_80 rfl 3 rfl ?_
          refine v_iconst (v := nI 2) dX8_rounds_81 (by decide) ?_
          refine n_idiv (a := 1) (b := 2) (z := 0) dX8_rounds_82 (by decide) (by omega) (by decide) rfl ?_
          refine v_istore_n (lv' := [(3, .int (nI 0)), (6, .int (nI 1)), (5, .int (nI ((((t + 1) - 1) / 1) * 1))), (4, .int (nI ((b / 1) * 1))), (0, .ref mo), (1, .int (nI b)), (2, .int (nI t))]) dX8_rounds_83 rfl (by decide) rfl ?_
          refine v_goto (tgt := 3) dX8_rounds_84 (by decide) ?_
          refine v_iload_n dX8_rounds_3 rfl 0 rfl ?_
          refine n_if_le (a := 0) (tgt := 87) dX8_rounds_4 (by decide) (by decide) (fun _ => ?_) (fun c => absurd c (by decide))
          exact v_vret hR dX8_rounds_87 (by refine ⟨rfl, ?_⟩; unfold rndY; first | (rw [unit_1 (by unfold dn up; omega)]; rfl) | (rw [unit_2 (by unfold dn up; omega) (by unfold dn up; omega)]; rfl) | (rw [unit_4 (by unfold dn up; omega) (by unfold dn up; omega) (by unfold dn up; omega)]; rfl) | (rw [unit_8 (by unfold dn up; omega) (by unfold dn up; omega) (by unfold dn up; omega) (by unfold dn up; omega)]; rfl) | (rw [unit_16 (by unfold dn up; omega) (by unfold dn up; omega) (by unfold dn up; omega) (by unfold dn up; omega)]; rfl))
theorem dX8_isExact_0 : decode cX8_isExact 0 = .ok (.aload_n 0, 1) := by decide +kernel
theorem dX8_isExact_1 : decode cX8_isExact 1 = .ok (.iload_n 1, 1) := by decide +kernel
theorem dX8_isExact_2 : decode cX8_isExact 2 = .ok (.iload_n 2, 1) := by decide +kernel
theorem dX8_isExact_3 : decode cX8_isExact 3 = .ok (.invokevirtual 84, 3) := by decide +kernel
theorem dX8_isExact_6 : decode cX8_isExact 6 = .ok (.aload_n 0, 1) := by decide +kernel
theorem dX8_isExact_7 : decode cX8_isExact 7 = .ok (.getfield 78, 3) := by decide +kernel
theorem dX8_isExact_10 : decode cX8_isExact 10 = .ok (.iload_n 1, 1) := by decide +kernel
theorem dX8_isExact_11 : decode cX8_isExact 11 = .ok (.if_icmp .ne 15, 3) := by decide +kernel
theorem dX8_isExact_14 : decode cX8_isExact 14 = .ok (.aload_n 0, 1) := by decide +kernel
theorem dX8_isExact_15 : decode cX8_isExact 15 = .ok (.getfield 81, 3) := by decide +kernel
theorem dX8_isExact_18 : decode cX8_isExact 18 = .ok (.iload_n 2, 1) := by decide +kernel
theorem dX8_isExact_19 : decode cX8_isExact 19 = .ok (.if_icmp .ne 7, 3) := by decide +kernel
theorem dX8_isExact_22 : decode cX8_isExact 22 = .ok (.iconst 1, 1) := by decide +kernel
theorem dX8_isExact_23 : decode cX8_isExact 23 = .ok (.goto 4, 3) := by decide +kernel
theorem dX8_isExact_26 : decode cX8_isExact 26 = .ok (.iconst 0, 1) := by decide +kernel
theorem dX8_isExact_27 : decode cX8_isExact 27 = .ok (.ireturn, 1) := by decide +kernel
theorem hd_X8_isExact : yX8_isExact.cls ≠ "java/lang/invoke/MethodHandle" ∧ yX8_isExact.cls ≠ "java/lang/invoke/VarHandle" ∧ (parseMethodDescriptor yX8_isExact.desc).map (fun d => d.parameters.length) = some 2 := by decide +kernel
abbrev rm_X8_isExact : Room := { frames := 1, cells := 0, slots := 0, locals := 26 }
set_option maxHeartbeats 4000000 in
set_option maxRecDepth 100000 in
theorem c_X8_isExact (l : Launch) (G : Gx) (mo : Nat) (m1 : Nat) (m2 : Nat) (m3 : Nat) (m4 : Nat) (m5 : Nat) (m6 : Nat) (m8 : Nat) (m9 : Nat) (m10 : Nat) (m11 : Nat) (m12 : Nat) (m13 : Nat) (m14 : Nat) (m15 : Nat) (m16 : Nat) (m19 : Nat) (y : YS) (b : Nat) (t : Nat) (hbt : b ≤ t) (ht : t ≤ b + 96) (ht2 : t < 300) : Mt l G yX8_isExact cX8_isExact 3 (some .boolean) rm_X8_isExact [.ref mo, .int (nI b), .int (nI t)] [(mo, .inr (6, [.int (nI (zX y)), .ref m1, .ref m2, .ref m3, .ref m4, .ref m5, .ref m6, .int (nI (zD y)), .ref m8, .ref m9, .ref m10, .ref m11, .ref m12, .ref m13, .ref m14, .ref m15, .ref m16, .int (nI (zL y)), .int (nI (zH y)), .ref m19])), (m1, .inl (G.2.1 3, 160, .inl (fun j9 => bI ((zI y) j9)))), (m2, .inl (G.2.1 1, 160, .inl (zN y))), (m3, .inl (G.2.1 1, 160, .inl (fun j9 => nI ((zB y) j9)))), (m4, .inl (G.2.1 1, 160, .inl (fun j9 => nI ((zT y) j9)))), (m5, .inl (G.2.1 1, 160, .inl (fun j9 => nI ((zP y) j9)))), (m6, .inl (G.2.1 1, 160, .inl (fun j9 => nI ((zS y) j9)))), (m8, .inl (G.2.1 1, 8, .inl (fun j9 => nI ((zR y) j9)))), (m9, .inl (G.2.1 1, 4, .inl (fun j9 => nI ((zQ y) j9)))), (m10, .inl (G.2.1 0, 96, .inl (fun j9 => nI ((zA y) j9)))), (m11, .inl (G.2.1 1, 96, .inl (fun j9 => nI ((zO y) j9)))), (m12, .inl (G.2.1 1, 96, .inl (fun j9 => nI ((zF y) j9)))), (m13, .inl (G.2.1 1, 96, .inl (fun j9 => nI ((zM y) j9)))), (m14, .inl (G.2.1 3, 96, .inl (fun j9 => bI ((zE y) j9)))), (m15, .inl (G.2.1 3, 384, .inl (fun j9 => bI ((zV y) j9)))), (m16, .inl (G.2.1 1, 9, .inl (fun j9 => nI ((zK y) j9)))), (m19, .inl (G.2.1 3, 96, .inl (fun j9 => bI ((zG y) j9))))] (D1 (some (.int (bI (exactB b t)))) [(mo, .inr (6, [.int (nI (zX (rndY b t y))), .ref m1, .ref m2, .ref m3, .ref m4, .ref m5, .ref m6, .int (nI (zD (rndY b t y))), .ref m8, .ref m9, .ref m10, .ref m11, .ref m12, .ref m13, .ref m14, .ref m15, .ref m16, .int (nI (zL (rndY b t y))), .int (nI (zH (rndY b t y))), .ref m19])), (m1, .inl (G.2.1 3, 160, .inl (fun j9 => bI ((zI (rndY b t y)) j9)))), (m2, .inl (G.2.1 1, 160, .inl (zN (rndY b t y)))), (m3, .inl (G.2.1 1, 160, .inl (fun j9 => nI ((zB (rndY b t y)) j9)))), (m4, .inl (G.2.1 1, 160, .inl (fun j9 => nI ((zT (rndY b t y)) j9)))), (m5, .inl (G.2.1 1, 160, .inl (fun j9 => nI ((zP (rndY b t y)) j9)))), (m6, .inl (G.2.1 1, 160, .inl (fun j9 => nI ((zS (rndY b t y)) j9)))), (m8, .inl (G.2.1 1, 8, .inl (fun j9 => nI ((zR (rndY b t y)) j9)))), (m9, .inl (G.2.1 1, 4, .inl (fun j9 => nI ((zQ (rndY b t y)) j9)))), (m10, .inl (G.2.1 0, 96, .inl (fun j9 => nI ((zA (rndY b t y)) j9)))), (m11, .inl (G.2.1 1, 96, .inl (fun j9 => nI ((zO (rndY b t y)) j9)))), (m12, .inl (G.2.1 1, 96, .inl (fun j9 => nI ((zF (rndY b t y)) j9)))), (m13, .inl (G.2.1 1, 96, .inl (fun j9 => nI ((zM (rndY b t y)) j9)))), (m14, .inl (G.2.1 3, 96, .inl (fun j9 => bI ((zE (rndY b t y)) j9)))), (m15, .inl (G.2.1 3, 384, .inl (fun j9 => bI ((zV (rndY b t y)) j9)))), (m16, .inl (G.2.1 1, 9, .inl (fun j9 => nI ((zK (rndY b t y)) j9)))), (m19, .inl (G.2.1 3, 96, .inl (fun j9 => bI ((zG (rndY b t y)) j9))))]) := by
  refine Mt.of (by decide) (Nat.le_of_ble_eq_true rfl) ?_
  intro K hl9 hn9 hR
  show V K G cX8_isExact RX8 3 rm_X8_isExact 0 0 0 [(0, .ref mo), (1, .int (nI b)), (2, .int (nI t))] [] [(mo, .inr (6, [.int (nI (zX y)), .ref m1, .ref m2, .ref m3, .ref m4, .ref m5, .ref m6, .int (nI (zD y)), .ref m8, .ref m9, .ref m10, .ref m11, .ref m12, .ref m13, .ref m14, .ref m15, .ref m16, .int (nI (zL y)), .int (nI (zH y)), .ref m19])), (m1, .inl (G.2.1 3, 160, .inl (fun j9 => bI ((zI y) j9)))), (m2, .inl (G.2.1 1, 160, .inl (zN y))), (m3, .inl (G.2.1 1, 160, .inl (fun j9 => nI ((zB y) j9)))), (m4, .inl (G.2.1 1, 160, .inl (fun j9 => nI ((zT y) j9)))), (m5, .inl (G.2.1 1, 160, .inl (fun j9 => nI ((zP y) j9)))), (m6, .inl (G.2.1 1, 160, .inl (fun j9 => nI ((zS y) j9)))), (m8, .inl (G.2.1 1, 8, .inl (fun j9 => nI ((zR y) j9)))), (m9, .inl (G.2.1 1, 4, .inl (fun j9 => nI ((zQ y) j9)))), (m10, .inl (G.2.1 0, 96, .inl (fun j9 => nI ((zA y) j9)))), (m11, .inl (G.2.1 1, 96, .inl (fun j9 => nI ((zO y) j9)))), (m12, .inl (G.2.1 1, 96, .inl (fun j9 => nI ((zF y) j9)))), (m13, .inl (G.2.1 1, 96, .inl (fun j9 => nI ((zM y) j9)))), (m14, .inl (G.2.1 3, 96, .inl (fun j9 => bI ((zE y) j9)))), (m15, .inl (G.2.1 3, 384, .inl (fun j9 => bI ((zV y) j9)))), (m16, .inl (G.2.1 1, 9, .inl (fun j9 => nI ((zK y) j9)))), (m19, .inl (G.2.1 3, 96, .inl (fun j9 => bI ((zG y) j9))))]
  refine v_aload_n dX8_isExact_0 rfl 0 rfl ?_
  refine v_iload_n dX8_isExact_1 rfl 1 rfl ?_
  refine v_iload_n dX8_isExact_2 rfl 2 rfl ?_
  refine c_V1 (ci := 6) (T := TX8) (N := 20) (As := [.int (nI b), .int (nI t)]) (rest := []) (wr := []) (k' := 0) (n' := 0) (st2 := []) (ws2 := [(mo, .inr (6, [.int (nI (zX (rndY b t y))), .ref m1, .ref m2, .ref m3, .ref m4, .ref m5, .ref m6, .int (nI (zD (rndY b t y))), .ref m8, .ref m9, .ref m10, .ref m11, .ref m12, .ref m13, .ref m14, .ref m15, .ref m16, .int (nI (zL (rndY b t y))), .int (nI (zH (rndY b t y))), .ref m19])), (m1, .inl (G.2.1 3, 160, .inl (fun j9 => bI ((zI (rndY b t y)) j9)))), (m2, .inl (G.2.1 1, 160, .inl (zN (rndY b t y)))), (m3, .inl (G.2.1 1, 160, .inl (fun j9 => nI ((zB (rndY b t y)) j9)))), (m4, .inl (G.2.1 1, 160, .inl (fun j9 => nI ((zT (rndY b t y)) j9)))), (m5, .inl (G.2.1 1, 160, .inl (fun j9 => nI ((zP (rndY b t y)) j9)))), (m6, .inl (G.2.1 1, 160, .inl (fun j9 => nI ((zS (rndY b t y)) j9)))), (m8, .inl (G.2.1 1, 8, .inl (fun j9 => nI ((zR (rndY b t y)) j9)))), (m9, .inl (G.2.1 1, 4, .inl (fun j9 => nI ((zQ (rndY b t y)) j9)))), (m10, .inl (G.2.1 0, 96, .inl (fun j9 => nI ((zA (rndY b t y)) j9)))), (m11, .inl (G.2.1 1, 96, .inl (fun j9 => nI ((zO (rndY b t y)) j9)))), (m12, .inl (G.2.1 1, 96, .inl (fun j9 => nI ((zF (rndY b t y)) j9)))), (m13, .inl (G.2.1 1, 96, .inl (fun j9 => nI ((zM (rndY b t y)) j9)))), (m14, .inl (G.2.1 3, 96, .inl (fun j9 => bI ((zE (rndY b t y)) j9)))), (m15, .inl (G.2.1 3, 384, .inl (fun j9 => bI ((zV (rndY b t y)) j9)))), (m16, .inl (G.2.1 1, 9, .inl (fun j9 => nI ((zK (rndY b t y)) j9)))), (m19, .inl (G.2.1 3, 96, .inl (fun j9 => bI ((zG (rndY b t y)) j9))))]) (c_X8_rounds K.2.1 G mo m1 m2 m3 m4 m5 m6 m8 m9 m10 m11 m12 m13 m14 m15 m16 m19 y b t (by omega) (by omega) (by omega)) [0, 1, 2, 3, 4, 5, 6, 7, 8, 9, 10, 11, 12, 13, 14, 15, 16] [] dX8_isExact_3 kw_1134 kw_1136 kw_46 kw_1137 kw_31 hd_X8_rounds ⟨Nat.le_of_ble_eq_true rfl, Nat.le_of_ble_eq_true rfl⟩ ⟨(by decide), (by decide)⟩ ⟨rfl, rfl⟩ (Nat.le_of_ble_eq_true rfl) rfl rfl rfl rfl rfl rfl (by decide) 0 rfl rfl [0, 1, 2, 3, 4, 5, 6, 7, 8, 9, 10, 11, 12, 13, 14, 15, 16] rfl rfl rfl rfl ?_
  refine v_aload_n dX8_isExact_6 rfl 0 rfl ?_
  refine v_get (ref := "SealhouseModel") (C := RX8) (T := TX8) (N := 20) 0 17 dX8_isExact_7 rfl rfl gin_X8 (by decide) kw_1021 rfl rfl ?_
  refine v_iload_n dX8_isExact_10 rfl 1 rfl ?_
  refine n_icmp_ne (a := zL (rndY b t y)) (b := b) (tgt := 26) dX8_isExact_11 (by decide) (by first | omega | (show dn b (unitOf b t) < 2147483648; have := dn_le b (unitOf b t); omega)) (by first | omega | (show dn b (unitOf b t) < 2147483648; have := dn_le b (unitOf b t); omega)) (fun c11 => ?_) (fun c11 => ?_)
  ·
    refine v_iconst (v := nI 0) dX8_isExact_26 (by decide) ?_
    refine v_eqi (y := bI false) (by decide) ?_
    exact v_zret hR dX8_isExact_27 (bI_nar _) (by refine ⟨?_, rfl⟩; unfold exactB; first | rw [decide_eq_true ⟨by assumption, by assumption⟩] | rw [decide_eq_false (fun h => absurd h.1 (by assumption))] | rw [decide_eq_false (fun h => absurd h.2 (by assumption))])
  ·
    refine v_aload_n dX8_isExact_14 rfl 0 rfl ?_
    refine v_get (ref := "SealhouseModel") (C := RX8) (T := TX8) (N := 20) 0 18 dX8_isExact_15 rfl rfl gin_X8 (by decide) kw_1022 rfl rfl ?_
    refine v_iload_n dX8_isExact_18 rfl 2 rfl ?_
    refine n_icmp_ne (a := zH (rndY b t y)) (b := t) (tgt := 26) dX8_isExact_19 (by decide) (by first | omega | (show up t (unitOf b t) < 2147483648; have hU := unitOf_isU b t; have h2 := up_lt t (unitOf b t) (by rcases hU with h | h | h | h | h <;> omega); rcases hU with h | h | h | h | h <;> omega)) (by first | omega | (show up t (unitOf b t) < 2147483648; have hU := unitOf_isU b t; have h2 := up_lt t (unitOf b t) (by rcases hU with h | h | h | h | h <;> omega); rcases hU with h | h | h | h | h <;> omega)) (fun c19 => ?_) (fun c19 => ?_)
    ·
      refine v_iconst (v := nI 0) dX8_isExact_26 (by decide) ?_
      refine v_eqi (y := bI false) (by decide) ?_
      exact v_zret hR dX8_isExact_27 (bI_nar _) (by refine ⟨?_, rfl⟩; unfold exactB; first | rw [decide_eq_true ⟨by assumption, by assumption⟩] | rw [decide_eq_false (fun h => absurd h.1 (by assumption))] | rw [decide_eq_false (fun h => absurd h.2 (by assumption))])
    ·
      refine v_iconst (v := nI 1) dX8_isExact_22 (by decide) ?_
      refine v_goto (tgt := 27) dX8_isExact_23 (by decide) ?_
      refine v_eqi (y := bI true) (by decide) ?_
      exact v_zret hR dX8_isExact_27 (bI_nar _) (by refine ⟨?_, rfl⟩; unfold exactB; first | rw [decide_eq_true ⟨by assumption, by assumption⟩] | rw [decide_eq_false (fun h => absurd h.1 (by assumption))] | rw [decide_eq_false (fun h => absurd h.2 (by assumption))])
