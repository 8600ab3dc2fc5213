def ixF : List Int32 → Int32 → Nat → Int32
  | [], _, _ => -1
  | b :: l, x, k => if b = x then nI k else ixF l x (k + 1)
theorem ixF_s {l : List Int32} {x : Int32} {k : Nat} (h : k < l.length) : ixF (l.drop k) x k = if l.getD k 0 = x then nI k else ixF (l.drop (k + 1)) x (k + 1) := by
  rw [List.drop_eq_getElem_cons h, ixF, List.getD_eq_getElem?_getD, List.getElem?_eq_getElem h]; rfl
theorem lenJ_eq {j : Nat} (hj : j < 3) : (bytJ.getD j []).length = lenJ.getD j 0 := by
  match j, hj with
  | 0, _ => rfl
  | 1, _ => rfl
  | 2, _ => rfl
  | j + 3, h => omega
theorem lenJ_pos {j : Nat} (hj : j < 3) : 0 < lenJ.getD j 0 := by
  match j, hj with
  | 0, _ => decide
  | 1, _ => decide
  | 2, _ => decide
  | j + 3, h => omega
def ixJ (j c : Nat) : Int32 := if c ≤ 255 then ixF (bytJ.getD j []) (nI c).toInt8.toInt32 0 else -1
def chJ (j i : Nat) : Nat := ((bytJ.getD j []).getD i 0).toNatClampNeg
theorem chJ_eq : ∀ j, j < 3 → ∀ i, i < lenJ.getD j 0 → (((bytJ.getD j []).getD i 0 &&& nI 255).toUInt32 % 65536).toInt32 = nI (chJ j i) := by decide +kernel
theorem chJ_lt {j : Nat} (hj : j < 3) (i : Nat) : chJ j i < 65536 := by
  have h : ∀ j, j < 3 → ∀ i, i < 10 → chJ j i < 65536 := by decide +kernel
  rcases Nat.lt_or_ge i 10 with q | q
  · exact h j hj i q
  · unfold chJ
    rw [List.getD_eq_getElem?_getD, List.getElem?_eq_none (by rw [lenJ_eq hj]; have := lenJ_le j; omega)]
    decide
theorem dJ1_canEncode_9a6ad_0 : decode cJ1_canEncode_9a6ad 0 = .ok (.iload_n 0, 1) := by decide +kernel
theorem dJ1_canEncode_9a6ad_1 : decode cJ1_canEncode_9a6ad 1 = .ok (.ifCond .lt 14, 3) := by decide +kernel
theorem dJ1_canEncode_9a6ad_4 : decode cJ1_canEncode_9a6ad 4 = .ok (.iload_n 0, 1) := by decide +kernel
theorem dJ1_canEncode_9a6ad_5 : decode cJ1_canEncode_9a6ad 5 = .ok (.sipush 255, 3) := by decide +kernel
theorem dJ1_canEncode_9a6ad_8 : decode cJ1_canEncode_9a6ad 8 = .ok (.if_icmp .gt 7, 3) := by decide +kernel
theorem dJ1_canEncode_9a6ad_11 : decode cJ1_canEncode_9a6ad 11 = .ok (.iconst 1, 1) := by decide +kernel
theorem dJ1_canEncode_9a6ad_12 : decode cJ1_canEncode_9a6ad 12 = .ok (.goto 4, 3) := by decide +kernel
theorem dJ1_canEncode_9a6ad_15 : decode cJ1_canEncode_9a6ad 15 = .ok (.iconst 0, 1) := by decide +kernel
theorem dJ1_canEncode_9a6ad_16 : decode cJ1_canEncode_9a6ad 16 = .ok (.ireturn, 1) := by decide +kernel
theorem hd_J1_canEncode_9a6ad : yJ1_canEncode_9a6ad.cls ≠ "java/lang/invoke/MethodHandle" ∧ yJ1_canEncode_9a6ad.cls ≠ "java/lang/invoke/VarHandle" ∧ (parseMethodDescriptor yJ1_canEncode_9a6ad.desc).map (fun d => d.parameters.length) = some 1 := by decide +kernel
abbrev rm_J1_canEncode_9a6ad : Room := { frames := 0, cells := 0, slots := 0, locals := 0 }
set_option maxHeartbeats 4000000 in
set_option maxRecDepth 100000 in
theorem c_J1_canEncode_9a6ad (l : Launch) (G : Gx) (c : Nat) (hc : c < 65536) : Mt l G yJ1_canEncode_9a6ad cJ1_canEncode_9a6ad 1 (some .boolean) rm_J1_canEncode_9a6ad [.int (nI c)] [] (D1 (some (.int (bI (decide (c ≤ 255))))) []) := by
  refine Mt.of (by decide) (Nat.le_of_ble_eq_true rfl) ?_
  intro K hl9 hn9 hR
  show V K G cJ1_canEncode_9a6ad RJ1 1 rm_J1_canEncode_9a6ad 0 0 0 [(0, .int (nI c))] [] []
  refine v_iload_n dJ1_canEncode_9a6ad_0 rfl 0 rfl ?_
  refine n_if_lt (a := c) (tgt := 15) dJ1_canEncode_9a6ad_1 (by decide) (by omega) ?_
  refine v_iload_n dJ1_canEncode_9a6ad_4 rfl 0 rfl ?_
  refine v_sipush (v := nI 255) dJ1_canEncode_9a6ad_5 (by decide) ?_
  refine n_icmp_gt (a := c) (b := 255) (tgt := 15) dJ1_canEncode_9a6ad_8 (by decide) (by omega) (by omega) (fun c8 => ?_) (fun c8 => ?_)
  ·
    refine v_iconst (v := nI 0) dJ1_canEncode_9a6ad_15 (by decide) ?_
    refine v_eqi (y := bI false) (by decide) ?_
    exact v_zret hR dJ1_canEncode_9a6ad_16 (bI_nar _) (by refine ⟨?_, rfl⟩; first | rw [decide_eq_true (by omega)] | rw [decide_eq_false (by omega)])
  ·
    refine v_iconst (v := nI 1) dJ1_canEncode_9a6ad_11 (by decide) ?_
    refine v_goto (tgt := 16) dJ1_canEncode_9a6ad_12 (by decide) ?_
    refine v_eqi (y := bI true) (by decide) ?_
    exact v_zret hR dJ1_canEncode_9a6ad_16 (bI_nar _) (by refine ⟨?_, rfl⟩; first | rw [decide_eq_true (by omega)] | rw [decide_eq_false (by omega)])
theorem dJ1_indexOfChar_4cfef_0 : decode cJ1_indexOfChar_4cfef 0 = .ok (.iload_n 1, 1) := by decide +kernel
theorem dJ1_indexOfChar_4cfef_1 : decode cJ1_indexOfChar_4cfef 1 = .ok (.i2b, 1) := by decide +kernel
theorem dJ1_indexOfChar_4cfef_2 : decode cJ1_indexOfChar_4cfef 2 = .ok (.istore 4, 2) := by decide +kernel
theorem dJ1_indexOfChar_4cfef_4 : decode cJ1_indexOfChar_4cfef 4 = .ok (.iload_n 2, 1) := by decide +kernel
theorem dJ1_indexOfChar_4cfef_5 : decode cJ1_indexOfChar_4cfef 5 = .ok (.istore 5, 2) := by decide +kernel
theorem dJ1_indexOfChar_4cfef_7 : decode cJ1_indexOfChar_4cfef 7 = .ok (.iload 5, 2) := by decide +kernel
theorem dJ1_indexOfChar_4cfef_9 : decode cJ1_indexOfChar_4cfef 9 = .ok (.iload_n 3, 1) := by decide +kernel
theorem dJ1_indexOfChar_4cfef_10 : decode cJ1_indexOfChar_4cfef 10 = .ok (.if_icmp .ge 21, 3) := by decide +kernel
theorem dJ1_indexOfChar_4cfef_13 : decode cJ1_indexOfChar_4cfef 13 = .ok (.aload_n 0, 1) := by decide +kernel
theorem dJ1_indexOfChar_4cfef_14 : decode cJ1_indexOfChar_4cfef 14 = .ok (.iload 5, 2) := by decide +kernel
theorem dJ1_indexOfChar_4cfef_16 : decode cJ1_indexOfChar_4cfef 16 = .ok (.baload, 1) := by decide +kernel
theorem dJ1_indexOfChar_4cfef_17 : decode cJ1_indexOfChar_4cfef 17 = .ok (.iload 4, 2) := by decide +kernel
theorem dJ1_indexOfChar_4cfef_19 : decode cJ1_indexOfChar_4cfef 19 = .ok (.if_icmp .ne 6, 3) := by decide +kernel
theorem dJ1_indexOfChar_4cfef_22 : decode cJ1_indexOfChar_4cfef 22 = .ok (.iload 5, 2) := by decide +kernel
theorem dJ1_indexOfChar_4cfef_24 : decode cJ1_indexOfChar_4cfef 24 = .ok (.ireturn, 1) := by decide +kernel
theorem dJ1_indexOfChar_4cfef_25 : decode cJ1_indexOfChar_4cfef 25 = .ok (.iinc 5 1, 3) := by decide +kernel
theorem dJ1_indexOfChar_4cfef_28 : decode cJ1_indexOfChar_4cfef 28 = .ok (.goto (-21), 3) := by decide +kernel
theorem dJ1_indexOfChar_4cfef_31 : decode cJ1_indexOfChar_4cfef 31 = .ok (.iconst (-1), 1) := by decide +kernel
theorem dJ1_indexOfChar_4cfef_32 : decode cJ1_indexOfChar_4cfef 32 = .ok (.ireturn, 1) := by decide +kernel
theorem hd_J1_indexOfChar_4cfef : yJ1_indexOfChar_4cfef.cls ≠ "java/lang/invoke/MethodHandle" ∧ yJ1_indexOfChar_4cfef.cls ≠ "java/lang/invoke/VarHandle" ∧ (parseMethodDescriptor yJ1_indexOfChar_4cfef.desc).map (fun d => d.parameters.length) = some 4 := by decide +kernel
abbrev rm_J1_indexOfChar_4cfef : Room := { frames := 0, cells := 0, slots := 0, locals := 0 }
set_option maxHeartbeats 4000000 in
set_option maxRecDepth 100000 in
theorem c_J1_indexOfChar_4cfef (l : Launch) (G : Gx) (j : Nat) (c : Nat) (hj : j < 3) (hc : c < 65536) : Mt l G yJ1_indexOfChar_4cfef cJ1_indexOfChar_4cfef 6 (some .int) rm_J1_indexOfChar_4cfef [.ref (G.2.2.2 j), .int (nI c), .int (nI 0), .int (nI (lenJ.getD j 0))] [] (D1 (some (.int (ixF (bytJ.getD j []) (nI c).toInt8.toInt32 0))) []) := by
  refine Mt.of (by decide) (Nat.le_of_ble_eq_true rfl) ?_
  intro K hl9 hn9 hR
  show V K G cJ1_indexOfChar_4cfef RJ1 6 rm_J1_indexOfChar_4cfef 0 0 0 [(0, .ref (G.2.2.2 j)), (1, .int (nI c)), (2, .int (nI 0)), (3, .int (nI (lenJ.getD j 0)))] [] []
  refine v_iload_n dJ1_indexOfChar_4cfef_0 rfl 1 rfl ?_
  refine v_i2b dJ1_indexOfChar_4cfef_1 ?_
  refine v_istore (lv' := [(4, .int ((nI c).toInt8.toInt32)), (0, .ref (G.2.2.2 j)), (1, .int (nI c)), (2, .int (nI 0)), (3, .int (nI (lenJ.getD j 0)))]) dJ1_indexOfChar_4cfef_2 (by decide) rfl ?_
  refine v_iload_n dJ1_indexOfChar_4cfef_4 rfl 3 rfl ?_
  refine v_istore (lv' := [(5, .int (nI 0)), (4, .int ((nI c).toInt8.toInt32)), (0, .ref (G.2.2.2 j)), (1, .int (nI c)), (2, .int (nI 0)), (3, .int (nI (lenJ.getD j 0)))]) dJ1_indexOfChar_4cfef_5 (by decide) rfl ?_
  have L7 : ∀ (f9 : Nat) (k : Nat) (hk : k ≤ lenJ.getD j 0) (hi : ixF (bytJ.getD j []) (nI c).toInt8.toInt32 0 = ixF ((bytJ.getD j []).drop k) (nI c).toInt8.toInt32 k), lenJ.getD j 0 - k < f9 → V K G cJ1_indexOfChar_4cfef RJ1 6 rm_J1_indexOfChar_4cfef 0 0 7 [(5, .int (nI k)), (4, .int ((nI c).toInt8.toInt32)), (0, .ref (G.2.2.2 j)), (1, .int (nI c)), (2, .int (nI 0)), (3, .int (nI (lenJ.getD j 0)))] [] [] := by
    intro f9
    induction f9 with
    | zero => intro k hk hi hm; exact absurd hm (Nat.not_lt_zero _)
    | succ f9 ih7 =>
      intro k hk hi hm7
      have hl9 := lenJ_le j
      refine v_iload dJ1_indexOfChar_4cfef_7 0 rfl ?_
      refine v_iload_n dJ1_indexOfChar_4cfef_9 rfl 5 rfl ?_
      refine n_icmp_ge (a := k) (b := lenJ.getD j 0) (tgt := 31) dJ1_indexOfChar_4cfef_10 (by decide) (by omega) (by omega) (fun c10 => ?_) (fun c10 => ?_)
      ·
        refine v_iconst (v := (-1)) dJ1_indexOfChar_4cfef_31 (by decide) ?_
        exact v_iret hR dJ1_indexOfChar_4cfef_32 (by refine ⟨?_, rfl⟩; rw [hi, List.drop_eq_nil_iff.mpr (by rw [lenJ_eq hj]; omega)]; rfl)
      ·
        refine v_aload_n dJ1_indexOfChar_4cfef_13 rfl 2 rfl ?_
        refine v_iload dJ1_indexOfChar_4cfef_14 0 rfl ?_
        refine v_sbald (z := k) hj (by omega) (by omega) dJ1_indexOfChar_4cfef_16 ?_
        refine v_iload dJ1_indexOfChar_4cfef_17 1 rfl ?_
        refine v_icmp_ne (x := (bytJ.getD j []).getD k 0) (y := (nI c).toInt8.toInt32) (tgt := 25) dJ1_indexOfChar_4cfef_19 (by decide) (fun c19 => ?_) (fun c19 => ?_)
        ·
          refine n_iinc (a := k) (y := k + 1) (lv' := [(5, .int (nI (k + 1))), (4, .int ((nI c).toInt8.toInt32)), (0, .ref (G.2.2.2 j)), (1, .int (nI c)), (2, .int (nI 0)), (3, .int (nI (lenJ.getD j 0)))]) dJ1_indexOfChar_4cfef_25 0 rfl (nI_inc _) (by decide) rfl ?_
          refine v_goto (tgt := 7) dJ1_indexOfChar_4cfef_28 (by decide) ?_
          exact ih7 (k + 1) (by omega) (by rw [hi, ixF_s (by rw [lenJ_eq hj]; omega), if_neg (by assumption)]) (by omega)
        ·
          refine v_iload dJ1_indexOfChar_4cfef_22 0 rfl ?_
          exact v_iret hR dJ1_indexOfChar_4cfef_24 (by refine ⟨?_, rfl⟩; rw [hi, ixF_s (by rw [lenJ_eq hj]; omega), if_pos (by assumption)])
  exact L7 (lenJ.getD j 0 - 0 + 1) 0 (by omega) (by rfl) (Nat.lt_succ_self _)
theorem dJ1_indexOf_4cfef_0 : decode cJ1_indexOf_4cfef 0 = .ok (.iload_n 1, 1) := by decide +kernel
theorem dJ1_indexOf_4cfef_1 : decode cJ1_indexOf_4cfef 1 = .ok (.invokestatic 88, 3) := by decide +kernel
theorem dJ1_indexOf_4cfef_4 : decode cJ1_indexOf_4cfef 4 = .ok (.ifCond .ne 5, 3) := by decide +kernel
theorem dJ1_indexOf_4cfef_7 : decode cJ1_indexOf_4cfef 7 = .ok (.iconst (-1), 1) := by decide +kernel
theorem dJ1_indexOf_4cfef_8 : decode cJ1_indexOf_4cfef 8 = .ok (.ireturn, 1) := by decide +kernel
theorem dJ1_indexOf_4cfef_9 : decode cJ1_indexOf_4cfef 9 = .ok (.iload_n 2, 1) := by decide +kernel
theorem dJ1_indexOf_4cfef_10 : decode cJ1_indexOf_4cfef 10 = .ok (.iconst 0, 1) := by decide +kernel
theorem dJ1_indexOf_4cfef_11 : decode cJ1_indexOf_4cfef 11 = .ok (.invokestatic 92, 3) := by decide +kernel
theorem dJ1_indexOf_4cfef_14 : decode cJ1_indexOf_4cfef 14 = .ok (.istore_n 2, 1) := by decide +kernel
theorem dJ1_indexOf_4cfef_15 : decode cJ1_indexOf_4cfef 15 = .ok (.iload_n 3, 1) := by decide +kernel
theorem dJ1_indexOf_4cfef_16 : decode cJ1_indexOf_4cfef 16 = .ok (.aload_n 0, 1) := by decide +kernel
theorem dJ1_indexOf_4cfef_17 : decode cJ1_indexOf_4cfef 17 = .ok (.arraylength, 1) := by decide +kernel
theorem dJ1_indexOf_4cfef_18 : decode cJ1_indexOf_4cfef 18 = .ok (.invokestatic 38, 3) := by decide +kernel
theorem dJ1_indexOf_4cfef_21 : decode cJ1_indexOf_4cfef 21 = .ok (.istore_n 3, 1) := by decide +kernel
theorem dJ1_indexOf_4cfef_22 : decode cJ1_indexOf_4cfef 22 = .ok (.iload_n 2, 1) := by decide +kernel
theorem dJ1_indexOf_4cfef_23 : decode cJ1_indexOf_4cfef 23 = .ok (.iload_n 3, 1) := by decide +kernel
theorem dJ1_indexOf_4cfef_24 : decode cJ1_indexOf_4cfef 24 = .ok (.if_icmp .lt 5, 3) := by decide +kernel
theorem dJ1_indexOf_4cfef_27 : decode cJ1_indexOf_4cfef 27 = .ok (.iconst (-1), 1) := by decide +kernel
theorem dJ1_indexOf_4cfef_28 : decode cJ1_indexOf_4cfef 28 = .ok (.ireturn, 1) := by decide +kernel
theorem dJ1_indexOf_4cfef_29 : decode cJ1_indexOf_4cfef 29 = .ok (.aload_n 0, 1) := by decide +kernel
theorem dJ1_indexOf_4cfef_30 : decode cJ1_indexOf_4cfef 30 = .ok (.iload_n 1, 1) := by decide +kernel
theorem dJ1_indexOf_4cfef_31 : decode cJ1_indexOf_4cfef 31 = .ok (.iload_n 2, 1) := by decide +kernel
theorem dJ1_indexOf_4cfef_32 : decode cJ1_indexOf_4cfef 32 = .ok (.iload_n 3, 1) := by decide +kernel
theorem dJ1_indexOf_4cfef_33 : decode cJ1_indexOf_4cfef 33 = .ok (.invokestatic 95, 3) := by decide +kernel
theorem dJ1_indexOf_4cfef_36 : decode cJ1_indexOf_4cfef 36 = .ok (.ireturn, 1) := by decide +kernel
theorem hd_J1_indexOf_4cfef : yJ1_indexOf_4cfef.cls ≠ "java/lang/invoke/MethodHandle" ∧ yJ1_indexOf_4cfef.cls ≠ "java/lang/invoke/VarHandle" ∧ (parseMethodDescriptor yJ1_indexOf_4cfef.desc).map (fun d => d.parameters.length) = some 4 := by decide +kernel
abbrev rm_J1_indexOf_4cfef : Room := { frames := 1, cells := 0, slots := 0, locals := 25 }
set_option maxHeartbeats 4000000 in
set_option maxRecDepth 100000 in
theorem c_J1_indexOf_4cfef (l : Launch) (G : Gx) (j : Nat) (c : Nat) (hj : j < 3) (hc : c < 65536) : Mt l G yJ1_indexOf_4cfef cJ1_indexOf_4cfef 4 (some .int) rm_J1_indexOf_4cfef [.ref (G.2.2.2 j), .int (nI c), .int (nI 0), .int (nI (lenJ.getD j 0))] [] (D1 (some (.int (ixJ j c))) []) := by
  refine Mt.of (by decide) (Nat.le_of_ble_eq_true rfl) ?_
  intro K hl9 hn9 hR
  show V K G cJ1_indexOf_4cfef RJ1 4 rm_J1_indexOf_4cfef 0 0 0 [(0, .ref (G.2.2.2 j)), (1, .int (nI c)), (2, .int (nI 0)), (3, .int (nI (lenJ.getD j 0)))] [] []
  have hl8 := lenJ_le j
  have hl7 := lenJ_pos hj
  refine v_iload_n dJ1_indexOf_4cfef_0 rfl 1 rfl ?_
  refine c_S1 (As := [.int (nI c)]) (rest := []) (wr := []) (k' := 0) (n' := 0) (st2 := [.int (bI (decide (c ≤ 255)))]) (ws2 := []) (c_J1_canEncode_9a6ad K.2.1 G c (by omega)) [] [] dJ1_indexOf_4cfef_1 kw_589 kw_590 kw_53 kw_591 hd_J1_canEncode_9a6ad ⟨Nat.le_of_ble_eq_true rfl, Nat.le_of_ble_eq_true rfl⟩ ⟨(by decide), (by decide)⟩ ⟨rfl, rfl⟩ (Nat.le_of_ble_eq_true rfl) rfl rfl rfl rfl rfl rfl (by decide) [] rfl rfl rfl rfl ?_
  refine b_if_ne (tgt := 9) dJ1_indexOf_4cfef_4 (by decide) (fun c4 => ?_) (fun c4 => ?_)
  ·
    refine v_iload_n dJ1_indexOf_4cfef_9 rfl 2 rfl ?_
    refine v_iconst (v := nI 0) dJ1_indexOf_4cfef_10 (by decide) ?_
    refine n_mmax (a := 0) (b := 0) dJ1_indexOf_4cfef_11 kw_592 kw_593 kw_54 kw_max (Nat.le_of_ble_eq_true rfl) (Nat.le_of_ble_eq_true rfl) (by decide) (by decide) (by omega) (by omega) ?_
    refine v_istore_n (lv' := [(2, .int (nI 0)), (0, .ref (G.2.2.2 j)), (1, .int (nI c)), (3, .int (nI (lenJ.getD j 0)))]) dJ1_indexOf_4cfef_14 rfl (by decide) rfl ?_
    refine v_iload_n dJ1_indexOf_4cfef_15 rfl 3 rfl ?_
    refine v_aload_n dJ1_indexOf_4cfef_16 rfl 1 rfl ?_
    refine v_slen hj dJ1_indexOf_4cfef_17 ?_
    refine n_mmin (a := lenJ.getD j 0) (b := lenJ.getD j 0) dJ1_indexOf_4cfef_18 kw_595 kw_596 kw_54 kw_min (Nat.le_of_ble_eq_true rfl) (Nat.le_of_ble_eq_true rfl) (by decide) (by decide) (by omega) (by omega) ?_
    refine v_istore_n (lv' := [(3, .int (nI (lenJ.getD j 0))), (2, .int (nI 0)), (0, .ref (G.2.2.2 j)), (1, .int (nI c))]) dJ1_indexOf_4cfef_21 rfl (by decide) rfl ?_
    refine v_iload_n dJ1_indexOf_4cfef_22 rfl 1 rfl ?_
    refine v_iload_n dJ1_indexOf_4cfef_23 rfl 0 rfl ?_
    refine n_icmp_lt (a := 0) (b := lenJ.getD j 0) (tgt := 29) dJ1_indexOf_4cfef_24 (by decide) (by omega) (by omega) (fun c24 => ?_) (fun c24 => absurd c24 (by omega))
    refine v_aload_n dJ1_indexOf_4cfef_29 rfl 2 rfl ?_
    refine v_iload_n dJ1_indexOf_4cfef_30 rfl 3 rfl ?_
    refine v_iload_n dJ1_indexOf_4cfef_31 rfl 1 rfl ?_
    refine v_iload_n dJ1_indexOf_4cfef_32 rfl 0 rfl ?_
    refine c_S1 (As := [.ref (G.2.2.2 j), .int (nI c), .int (nI 0), .int (nI (lenJ.getD j 0))]) (rest := []) (wr := []) (k' := 0) (n' := 0) (st2 := [.int (ixF (bytJ.getD j []) (nI c).toInt8.toInt32 0)]) (ws2 := []) (c_J1_indexOfChar_4cfef K.2.1 G j c (by omega) (by omega)) [] [] dJ1_indexOf_4cfef_33 kw_598 kw_599 kw_53 kw_600 hd_J1_indexOfChar_4cfef ⟨Nat.le_of_ble_eq_true rfl, Nat.le_of_ble_eq_true rfl⟩ ⟨(by decide), (by decide)⟩ ⟨rfl, rfl⟩ (Nat.le_of_ble_eq_true rfl) rfl rfl rfl rfl rfl rfl (by decide) [] rfl rfl rfl rfl ?_
    exact v_iret hR dJ1_indexOf_4cfef_36 (by refine ⟨?_, rfl⟩; unfold ixJ; rw [if_pos (of_decide_eq_true c4)])
  ·
    refine v_iconst (v := (-1)) dJ1_indexOf_4cfef_7 (by decide) ?_
    exact v_iret hR dJ1_indexOf_4cfef_8 (by refine ⟨?_, rfl⟩; unfold ixJ; rw [if_neg (of_decide_eq_false c4)])
theorem dJ0_isLatin1_aae02_0 : decode cJ0_isLatin1_aae02 0 = .ok (.getstatic 38, 3) := by decide +kernel
theorem dJ0_isLatin1_aae02_3 : decode cJ0_isLatin1_aae02 3 = .ok (.ifCond .eq 14, 3) := by decide +kernel
theorem dJ0_isLatin1_aae02_6 : decode cJ0_isLatin1_aae02 6 = .ok (.aload_n 0, 1) := by decide +kernel
theorem dJ0_isLatin1_aae02_7 : decode cJ0_isLatin1_aae02 7 = .ok (.getfield 15, 3) := by decide +kernel
theorem dJ0_isLatin1_aae02_10 : decode cJ0_isLatin1_aae02 10 = .ok (.ifCond .ne 7, 3) := by decide +kernel
theorem dJ0_isLatin1_aae02_13 : decode cJ0_isLatin1_aae02 13 = .ok (.iconst 1, 1) := by decide +kernel
theorem dJ0_isLatin1_aae02_14 : decode cJ0_isLatin1_aae02 14 = .ok (.goto 4, 3) := by decide +kernel
theorem dJ0_isLatin1_aae02_17 : decode cJ0_isLatin1_aae02 17 = .ok (.iconst 0, 1) := by decide +kernel
theorem dJ0_isLatin1_aae02_18 : decode cJ0_isLatin1_aae02 18 = .ok (.ireturn, 1) := by decide +kernel
theorem hd_J0_isLatin1_aae02 : yJ0_isLatin1_aae02.cls ≠ "java/lang/invoke/MethodHandle" ∧ yJ0_isLatin1_aae02.cls ≠ "java/lang/invoke/VarHandle" ∧ (parseMethodDescriptor yJ0_isLatin1_aae02.desc).map (fun d => d.parameters.length) = some 0 := by decide +kernel
abbrev rm_J0_isLatin1_aae02 : Room := { frames := 0, cells := 0, slots := 0, locals := 0 }
set_option maxHeartbeats 4000000 in
set_option maxRecDepth 100000 in
theorem c_J0_isLatin1_aae02 (l : Launch) (G : Gx) (j : Nat) (hj : j < 3) : Mt l G yJ0_isLatin1_aae02 cJ0_isLatin1_aae02 1 (some .boolean) rm_J0_isLatin1_aae02 [.ref (G.2.2.1 j)] [] (D1 (some (.int (bI true))) []) := by
  refine Mt.of (by decide) (Nat.le_of_ble_eq_true rfl) ?_
  intro K hl9 hn9 hR
  show V K G cJ0_isLatin1_aae02 RJ0 1 rm_J0_isLatin1_aae02 0 0 0 [(0, .ref (G.2.2.1 j))] [] []
  refine v_compact dJ0_isLatin1_aae02_0 kw_202 ?_
  refine n_if_eq (a := 1) (tgt := 17) dJ0_isLatin1_aae02_3 (by decide) (by decide) (fun c => absurd c (by decide)) (fun _ => ?_)
  refine v_aload_n dJ0_isLatin1_aae02_6 rfl 0 rfl ?_
  refine v_scoder hj dJ0_isLatin1_aae02_7 kw_1299 ?_
  refine n_if_ne (a := 0) (tgt := 17) dJ0_isLatin1_aae02_10 (by decide) (by decide) (fun c => absurd c (by decide)) (fun _ => ?_)
  refine v_iconst (v := nI 1) dJ0_isLatin1_aae02_13 (by decide) ?_
  refine v_goto (tgt := 18) dJ0_isLatin1_aae02_14 (by decide) ?_
  refine v_eqi (y := bI true) (by decide) ?_
  exact v_zret hR dJ0_isLatin1_aae02_18 (bI_nar _) (by exact ⟨rfl, rfl⟩)
theorem dJ0_coder_7d493_0 : decode cJ0_coder_7d493 0 = .ok (.getstatic 38, 3) := by decide +kernel
theorem dJ0_coder_7d493_3 : decode cJ0_coder_7d493 3 = .ok (.ifCond .eq 10, 3) := by decide +kernel
theorem dJ0_coder_7d493_6 : decode cJ0_coder_7d493 6 = .ok (.aload_n 0, 1) := by decide +kernel
theorem dJ0_coder_7d493_7 : decode cJ0_coder_7d493 7 = .ok (.getfield 15, 3) := by decide +kernel
theorem dJ0_coder_7d493_10 : decode cJ0_coder_7d493 10 = .ok (.goto 4, 3) := by decide +kernel
theorem dJ0_coder_7d493_13 : decode cJ0_coder_7d493 13 = .ok (.iconst 1, 1) := by decide +kernel
theorem dJ0_coder_7d493_14 : decode cJ0_coder_7d493 14 = .ok (.ireturn, 1) := by decide +kernel
theorem hd_J0_coder_7d493 : yJ0_coder_7d493.cls ≠ "java/lang/invoke/MethodHandle" ∧ yJ0_coder_7d493.cls ≠ "java/lang/invoke/VarHandle" ∧ (parseMethodDescriptor yJ0_coder_7d493.desc).map (fun d => d.parameters.length) = some 0 := by decide +kernel
abbrev rm_J0_coder_7d493 : Room := { frames := 0, cells := 0, slots := 0, locals := 0 }
set_option maxHeartbeats 4000000 in
set_option maxRecDepth 100000 in
theorem c_J0_coder_7d493 (l : Launch) (G : Gx) (j : Nat) (hj : j < 3) : Mt l G yJ0_coder_7d493 cJ0_coder_7d493 1 (some .byte) rm_J0_coder_7d493 [.ref (G.2.2.1 j)] [] (D1 (some (.int (nI 0))) []) := by
  refine Mt.of (by decide) (Nat.le_of_ble_eq_true rfl) ?_
  intro K hl9 hn9 hR
  show V K G cJ0_coder_7d493 RJ0 1 rm_J0_coder_7d493 0 0 0 [(0, .ref (G.2.2.1 j))] [] []
  refine v_compact dJ0_coder_7d493_0 kw_202 ?_
  refine n_if_eq (a := 1) (tgt := 13) dJ0_coder_7d493_3 (by decide) (by decide) (fun c => absurd c (by decide)) (fun _ => ?_)
  refine v_aload_n dJ0_coder_7d493_6 rfl 0 rfl ?_
  refine v_scoder hj dJ0_coder_7d493_7 kw_1299 ?_
  refine v_goto (tgt := 14) dJ0_coder_7d493_10 (by decide) ?_
  exact v_zret hR dJ0_coder_7d493_14 (by decide) (by exact ⟨rfl, rfl⟩)
theorem dJ0_length_8abf5_0 : decode cJ0_length_8abf5 0 = .ok (.aload_n 0, 1) := by decide +kernel
theorem dJ0_length_8abf5_1 : decode cJ0_length_8abf5 1 = .ok (.getfield 9, 3) := by decide +kernel
theorem dJ0_length_8abf5_4 : decode cJ0_length_8abf5 4 = .ok (.arraylength, 1) := by decide +kernel
theorem dJ0_length_8abf5_5 : decode cJ0_length_8abf5 5 = .ok (.aload_n 0, 1) := by decide +kernel
theorem dJ0_length_8abf5_6 : decode cJ0_length_8abf5 6 = .ok (.invokevirtual 335, 3) := by decide +kernel
theorem dJ0_length_8abf5_9 : decode cJ0_length_8abf5 9 = .ok (.ishr, 1) := by decide +kernel
theorem dJ0_length_8abf5_10 : decode cJ0_length_8abf5 10 = .ok (.ireturn, 1) := by decide +kernel
theorem hd_J0_length_8abf5 : yJ0_length_8abf5.cls ≠ "java/lang/invoke/MethodHandle" ∧ yJ0_length_8abf5.cls ≠ "java/lang/invoke/VarHandle" ∧ (parseMethodDescriptor yJ0_length_8abf5.desc).map (fun d => d.parameters.length) = some 0 := by decide +kernel
abbrev rm_J0_length_8abf5 : Room := { frames := 1, cells := 0, slots := 0, locals := 20 }
set_option maxHeartbeats 4000000 in
set_option maxRecDepth 100000 in
theorem c_J0_length_8abf5 (l : Launch) (G : Gx) (j : Nat) (hj : j < 3) : Mt l G yJ0_length_8abf5 cJ0_length_8abf5 1 (some .int) rm_J0_length_8abf5 [.ref (G.2.2.1 j)] [] (D1 (some (.int (nI (lenJ.getD j 0)))) []) := by
  refine Mt.of (by decide) (Nat.le_of_ble_eq_true rfl) ?_
  intro K hl9 hn9 hR
  show V K G cJ0_length_8abf5 RJ0 1 rm_J0_length_8abf5 0 0 0 [(0, .ref (G.2.2.1 j))] [] []
  refine v_aload_n dJ0_length_8abf5_0 rfl 0 rfl ?_
  refine v_svalue hj dJ0_length_8abf5_1 kw_1298 ?_
  refine v_slen hj dJ0_length_8abf5_4 ?_
  refine v_aload_n dJ0_length_8abf5_5 rfl 0 rfl ?_
  refine c_T1 (As := []) (rest := [.int (nI (lenJ.getD j 0))]) (st2 := [.int (nI 0), .int (nI (lenJ.getD j 0))]) hj (c_J0_coder_7d493 K.2.1 G j (by omega)) dJ0_length_8abf5_6 kw_198 kw_199 kw_44 kw_201 kw_200 rfl hd_J0_coder_7d493 ⟨Nat.le_of_ble_eq_true rfl, Nat.le_of_ble_eq_true rfl⟩ ⟨(by decide), (by decide)⟩ ⟨rfl, rfl⟩ (Nat.le_of_ble_eq_true rfl) rfl rfl ?_
  refine v_ishr dJ0_length_8abf5_9 ?_
  refine v_eqi (y := nI (lenJ.getD j 0)) (by rw [pk_shrN (by have := lenJ_le j; omega) _ 0 (by decide)]; congr 1; omega) ?_
  exact v_iret hR dJ0_length_8abf5_10 (by exact ⟨rfl, rfl⟩)
theorem dJ0_indexOf_7cf53_0 : decode cJ0_indexOf_7cf53 0 = .ok (.aload_n 0, 1) := by decide +kernel
theorem dJ0_indexOf_7cf53_1 : decode cJ0_indexOf_7cf53 1 = .ok (.invokevirtual 492, 3) := by decide +kernel
theorem dJ0_indexOf_7cf53_4 : decode cJ0_indexOf_7cf53 4 = .ok (.ifCond .eq 19, 3) := by decide +kernel
theorem dJ0_indexOf_7cf53_7 : decode cJ0_indexOf_7cf53 7 = .ok (.aload_n 0, 1) := by decide +kernel
theorem dJ0_indexOf_7cf53_8 : decode cJ0_indexOf_7cf53 8 = .ok (.getfield 9, 3) := by decide +kernel
theorem dJ0_indexOf_7cf53_11 : decode cJ0_indexOf_7cf53 11 = .ok (.iload_n 1, 1) := by decide +kernel
theorem dJ0_indexOf_7cf53_12 : decode cJ0_indexOf_7cf53 12 = .ok (.iload_n 2, 1) := by decide +kernel
theorem dJ0_indexOf_7cf53_13 : decode cJ0_indexOf_7cf53 13 = .ok (.aload_n 0, 1) := by decide +kernel
theorem dJ0_indexOf_7cf53_14 : decode cJ0_indexOf_7cf53 14 = .ok (.invokevirtual 505, 3) := by decide +kernel
theorem dJ0_indexOf_7cf53_17 : decode cJ0_indexOf_7cf53 17 = .ok (.invokestatic 637, 3) := by decide +kernel
theorem dJ0_indexOf_7cf53_20 : decode cJ0_indexOf_7cf53 20 = .ok (.goto 16, 3) := by decide +kernel
theorem dJ0_indexOf_7cf53_23 : decode cJ0_indexOf_7cf53 23 = .ok (.aload_n 0, 1) := by decide +kernel
theorem dJ0_indexOf_7cf53_24 : decode cJ0_indexOf_7cf53 24 = .ok (.getfield 9, 3) := by decide +kernel
theorem dJ0_indexOf_7cf53_27 : decode cJ0_indexOf_7cf53 27 = .ok (.iload_n 1, 1) := by decide +kernel
theorem dJ0_indexOf_7cf53_28 : decode cJ0_indexOf_7cf53 28 = .ok (.iload_n 2, 1) := by decide +kernel
theorem dJ0_indexOf_7cf53_29 : decode cJ0_indexOf_7cf53 29 = .ok (.aload_n 0, 1) := by decide +kernel
theorem dJ0_indexOf_7cf53_30 : decode cJ0_indexOf_7cf53 30 = .ok (.invokevirtual 505, 3) := by decide +kernel
theorem dJ0_indexOf_7cf53_33 : decode cJ0_indexOf_7cf53 33 = .ok (.invokestatic 640, 3) := by decide +kernel
theorem dJ0_indexOf_7cf53_36 : decode cJ0_indexOf_7cf53 36 = .ok (.ireturn, 1) := by decide +kernel
theorem hd_J0_indexOf_7cf53 : yJ0_indexOf_7cf53.cls ≠ "java/lang/invoke/MethodHandle" ∧ yJ0_indexOf_7cf53.cls ≠ "java/lang/invoke/VarHandle" ∧ (parseMethodDescriptor yJ0_indexOf_7cf53.desc).map (fun d => d.parameters.length) = some 2 := by decide +kernel
abbrev rm_J0_indexOf_7cf53 : Room := { frames := 2, cells := 0, slots := 0, locals := 48 }
set_option maxHeartbeats 4000000 in
set_option maxRecDepth 100000 in
theorem c_J0_indexOf_7cf53 (l : Launch) (G : Gx) (j : Nat) (c : Nat) (hj : j < 3) (hc : c < 65536) : Mt l G yJ0_indexOf_7cf53 cJ0_indexOf_7cf53 3 (some .int) rm_J0_indexOf_7cf53 [.ref (G.2.2.1 j), .int (nI c), .int (nI 0)] [] (D1 (some (.int (ixJ j c))) []) := by
  refine Mt.of (by decide) (Nat.le_of_ble_eq_true rfl) ?_
  intro K hl9 hn9 hR
  show V K G cJ0_indexOf_7cf53 RJ0 3 rm_J0_indexOf_7cf53 0 0 0 [(0, .ref (G.2.2.1 j)), (1, .int (nI c)), (2, .int (nI 0))] [] []
  refine v_aload_n dJ0_indexOf_7cf53_0 rfl 0 rfl ?_
  refine c_T1 (As := []) (rest := []) (st2 := [.int (bI true)]) hj (c_J0_isLatin1_aae02 K.2.1 G j (by omega)) dJ0_indexOf_7cf53_1 kw_581 kw_582 kw_44 kw_584 kw_583 rfl hd_J0_isLatin1_aae02 ⟨Nat.le_of_ble_eq_true rfl, Nat.le_of_ble_eq_true rfl⟩ ⟨(by decide), (by decide)⟩ ⟨rfl, rfl⟩ (Nat.le_of_ble_eq_true rfl) rfl rfl ?_
  refine b_if_eq (tgt := 23) dJ0_indexOf_7cf53_4 (by decide) (fun c => absurd c (by decide)) (fun _ => ?_)
  refine v_aload_n dJ0_indexOf_7cf53_7 rfl 0 rfl ?_
  refine v_svalue hj dJ0_indexOf_7cf53_8 kw_1298 ?_
  refine v_iload_n dJ0_indexOf_7cf53_11 rfl 1 rfl ?_
  refine v_iload_n dJ0_indexOf_7cf53_12 rfl 2 rfl ?_
  refine v_aload_n dJ0_indexOf_7cf53_13 rfl 0 rfl ?_
  refine c_T1 (As := []) (rest := [.int (nI 0), .int (nI c), .ref (G.2.2.2 j)]) (st2 := [.int (nI (lenJ.getD j 0)), .int (nI 0), .int (nI c), .ref (G.2.2.2 j)]) hj (c_J0_length_8abf5 K.2.1 G j (by omega)) dJ0_indexOf_7cf53_14 kw_585 kw_195 kw_44 kw_197 kw_196 rfl hd_J0_length_8abf5 ⟨Nat.le_of_ble_eq_true rfl, Nat.le_of_ble_eq_true rfl⟩ ⟨(by decide), (by decide)⟩ ⟨rfl, rfl⟩ (Nat.le_of_ble_eq_true rfl) rfl rfl ?_
  refine c_S1 (As := [.ref (G.2.2.2 j), .int (nI c), .int (nI 0), .int (nI (lenJ.getD j 0))]) (rest := []) (wr := []) (k' := 0) (n' := 0) (st2 := [.int (ixJ j c)]) (ws2 := []) (c_J1_indexOf_4cfef K.2.1 G j c (by omega) (by omega)) [] [] dJ0_indexOf_7cf53_17 kw_586 kw_587 kw_53 kw_588 hd_J1_indexOf_4cfef ⟨Nat.le_of_ble_eq_true rfl, Nat.le_of_ble_eq_true rfl⟩ ⟨(by decide), (by decide)⟩ ⟨rfl, rfl⟩ (Nat.le_of_ble_eq_true rfl) rfl rfl rfl rfl rfl rfl (by decide) [] rfl rfl rfl rfl ?_
  refine v_goto (tgt := 36) dJ0_indexOf_7cf53_20 (by decide) ?_
  exact v_iret hR dJ0_indexOf_7cf53_36 (by exact ⟨rfl, rfl⟩)
theorem dJ0_indexOf_0f7a4_0 : decode cJ0_indexOf_0f7a4 0 = .ok (.aload_n 0, 1) := by decide +kernel
theorem dJ0_indexOf_0f7a4_1 : decode cJ0_indexOf_0f7a4 1 = .ok (.iload_n 1, 1) := by decide +kernel
theorem dJ0_indexOf_0f7a4_2 : decode cJ0_indexOf_0f7a4 2 = .ok (.iconst 0, 1) := by decide +kernel
theorem dJ0_indexOf_0f7a4_3 : decode cJ0_indexOf_0f7a4 3 = .ok (.invokevirtual 633, 3) := by decide +kernel
theorem dJ0_indexOf_0f7a4_6 : decode cJ0_indexOf_0f7a4 6 = .ok (.ireturn, 1) := by decide +kernel
theorem hd_J0_indexOf_0f7a4 : yJ0_indexOf_0f7a4.cls ≠ "java/lang/invoke/MethodHandle" ∧ yJ0_indexOf_0f7a4.cls ≠ "java/lang/invoke/VarHandle" ∧ (parseMethodDescriptor yJ0_indexOf_0f7a4.desc).map (fun d => d.parameters.length) = some 1 := by decide +kernel
abbrev rm_J0_indexOf_0f7a4 : Room := { frames := 3, cells := 0, slots := 0, locals := 70 }
set_option maxHeartbeats 4000000 in
set_option maxRecDepth 100000 in
theorem c_J0_indexOf_0f7a4 (l : Launch) (G : Gx) (j : Nat) (c : Nat) (hj : j < 3) (hc : c < 65536) : Mt l G yJ0_indexOf_0f7a4 cJ0_indexOf_0f7a4 2 (some .int) rm_J0_indexOf_0f7a4 [.ref (G.2.2.1 j), .int (nI c)] [] (D1 (some (.int (ixJ j c))) []) := by
  refine Mt.of (by decide) (Nat.le_of_ble_eq_true rfl) ?_
  intro K hl9 hn9 hR
  show V K G cJ0_indexOf_0f7a4 RJ0 2 rm_J0_indexOf_0f7a4 0 0 0 [(0, .ref (G.2.2.1 j)), (1, .int (nI c))] [] []
  refine v_aload_n dJ0_indexOf_0f7a4_0 rfl 0 rfl ?_
  refine v_iload_n dJ0_indexOf_0f7a4_1 rfl 1 rfl ?_
  refine v_iconst (v := nI 0) dJ0_indexOf_0f7a4_2 (by decide) ?_
  refine c_T1 (As := [.int (nI c), .int (nI 0)]) (rest := []) (st2 := [.int (ixJ j c)]) hj (c_J0_indexOf_7cf53 K.2.1 G j c (by omega) (by omega)) dJ0_indexOf_0f7a4_3 kw_577 kw_578 kw_44 kw_580 kw_579 rfl hd_J0_indexOf_7cf53 ⟨Nat.le_of_ble_eq_true rfl, Nat.le_of_ble_eq_true rfl⟩ ⟨(by decide), (by decide)⟩ ⟨rfl, rfl⟩ (Nat.le_of_ble_eq_true rfl) rfl rfl ?_
  exact v_iret hR dJ0_indexOf_0f7a4_6 (by exact ⟨rfl, rfl⟩)
theorem dJ3_checkIndex_8e157_0 : decode cJ3_checkIndex_8e157 0 = .ok (.iload_n 0, 1) := by decide +kernel
theorem dJ3_checkIndex_8e157_1 : decode cJ3_checkIndex_8e157 1 = .ok (.ifCond .lt 8, 3) := by decide +kernel
theorem dJ3_checkIndex_8e157_4 : decode cJ3_checkIndex_8e157 4 = .ok (.iload_n 0, 1) := by decide +kernel
theorem dJ3_checkIndex_8e157_5 : decode cJ3_checkIndex_8e157 5 = .ok (.iload_n 1, 1) := by decide +kernel
theorem dJ3_checkIndex_8e157_6 : decode cJ3_checkIndex_8e157 6 = .ok (.if_icmp .lt 10, 3) := by decide +kernel
theorem dJ3_checkIndex_8e157_9 : decode cJ3_checkIndex_8e157 9 = .ok (.aload_n 2, 1) := by decide +kernel
theorem dJ3_checkIndex_8e157_10 : decode cJ3_checkIndex_8e157 10 = .ok (.iload_n 0, 1) := by decide +kernel
theorem dJ3_checkIndex_8e157_11 : decode cJ3_checkIndex_8e157 11 = .ok (.iload_n 1, 1) := by decide +kernel
theorem dJ3_checkIndex_8e157_12 : decode cJ3_checkIndex_8e157 12 = .ok (.invokestatic 95, 3) := by decide +kernel
theorem dJ3_checkIndex_8e157_15 : decode cJ3_checkIndex_8e157 15 = .ok (.athrow, 1) := by decide +kernel
theorem dJ3_checkIndex_8e157_16 : decode cJ3_checkIndex_8e157 16 = .ok (.iload_n 0, 1) := by decide +kernel
theorem dJ3_checkIndex_8e157_17 : decode cJ3_checkIndex_8e157 17 = .ok (.ireturn, 1) := by decide +kernel
theorem hd_J3_checkIndex_8e157 : yJ3_checkIndex_8e157.cls ≠ "java/lang/invoke/MethodHandle" ∧ yJ3_checkIndex_8e157.cls ≠ "java/lang/invoke/VarHandle" ∧ (parseMethodDescriptor yJ3_checkIndex_8e157.desc).map (fun d => d.parameters.length) = some 3 := by decide +kernel
abbrev rm_J3_checkIndex_8e157_n : Room := { frames := 0, cells := 0, slots := 0, locals := 0 }
set_option maxHeartbeats 4000000 in
set_option maxRecDepth 100000 in
theorem c_J3_checkIndex_8e157_n (l : Launch) (G : Gx) (i : Nat) (n : Nat) (hi : i < n) (hn : n < 2147483648) : Mt l G yJ3_checkIndex_8e157 cJ3_checkIndex_8e157 3 (some .int) rm_J3_checkIndex_8e157_n [.int (nI i), .int (nI n), .null] [] (D1 (some (.int (nI i))) []) := by
  refine Mt.of (by decide) (Nat.le_of_ble_eq_true rfl) ?_
  intro K hl9 hn9 hR
  show V K G cJ3_checkIndex_8e157 RJ3 3 rm_J3_checkIndex_8e157_n 0 0 0 [(0, .int (nI i)), (1, .int (nI n)), (2, .null)] [] []
  refine v_iload_n dJ3_checkIndex_8e157_0 rfl 0 rfl ?_
  refine n_if_lt (a := i) (tgt := 9) dJ3_checkIndex_8e157_1 (by decide) (by omega) ?_
  refine v_iload_n dJ3_checkIndex_8e157_4 rfl 0 rfl ?_
  refine v_iload_n dJ3_checkIndex_8e157_5 rfl 1 rfl ?_
  refine n_icmp_lt (a := i) (b := n) (tgt := 16) dJ3_checkIndex_8e157_6 (by decide) (by omega) (by omega) (fun c6 => ?_) (fun c6 => absurd c6 (by omega))
  refine v_iload_n dJ3_checkIndex_8e157_16 rfl 0 rfl ?_
  exact v_iret hR dJ3_checkIndex_8e157_17 (by exact ⟨rfl, rfl⟩)
abbrev rm_J3_checkIndex_8e157_r : Room := { frames := 0, cells := 0, slots := 0, locals := 0 }
set_option maxHeartbeats 4000000 in
set_option maxRecDepth 100000 in
theorem c_J3_checkIndex_8e157_r (l : Launch) (G : Gx) (i : Nat) (n : Nat) (t : Nat) (hi : i < n) (hn : n < 2147483648) : Mt l G yJ3_checkIndex_8e157 cJ3_checkIndex_8e157 3 (some .int) rm_J3_checkIndex_8e157_r [.int (nI i), .int (nI n), .ref t] [] (D1 (some (.int (nI i))) []) := by
  refine Mt.of (by decide) (Nat.le_of_ble_eq_true rfl) ?_
  intro K hl9 hn9 hR
  show V K G cJ3_checkIndex_8e157 RJ3 3 rm_J3_checkIndex_8e157_r 0 0 0 [(0, .int (nI i)), (1, .int (nI n)), (2, .ref t)] [] []
  refine v_iload_n dJ3_checkIndex_8e157_0 rfl 0 rfl ?_
  refine n_if_lt (a := i) (tgt := 9) dJ3_checkIndex_8e157_1 (by decide) (by omega) ?_
  refine v_iload_n dJ3_checkIndex_8e157_4 rfl 0 rfl ?_
  refine v_iload_n dJ3_checkIndex_8e157_5 rfl 1 rfl ?_
  refine n_icmp_lt (a := i) (b := n) (tgt := 16) dJ3_checkIndex_8e157_6 (by decide) (by omega) (by omega) (fun c6 => ?_) (fun c6 => absurd c6 (by omega))
  refine v_iload_n dJ3_checkIndex_8e157_16 rfl 0 rfl ?_
  exact v_iret hR dJ3_checkIndex_8e157_17 (by exact ⟨rfl, rfl⟩)
theorem dJ0_checkIndex_df160_0 : decode cJ0_checkIndex_df160 0 = .ok (.iload_n 0, 1) := by decide +kernel
theorem dJ0_checkIndex_df160_1 : decode cJ0_checkIndex_df160 1 = .ok (.iload_n 1, 1) := by decide +kernel
theorem dJ0_checkIndex_df160_2 : decode cJ0_checkIndex_df160 2 = .ok (.getstatic 1053, 3) := by decide +kernel
theorem dJ0_checkIndex_df160_5 : decode cJ0_checkIndex_df160 5 = .ok (.invokestatic 1059, 3) := by decide +kernel
theorem dJ0_checkIndex_df160_8 : decode cJ0_checkIndex_df160 8 = .ok (.pop, 1) := by decide +kernel
theorem dJ0_checkIndex_df160_9 : decode cJ0_checkIndex_df160 9 = .ok (.return_, 1) := by decide +kernel
theorem hd_J0_checkIndex_df160 : yJ0_checkIndex_df160.cls ≠ "java/lang/invoke/MethodHandle" ∧ yJ0_checkIndex_df160.cls ≠ "java/lang/invoke/VarHandle" ∧ (parseMethodDescriptor yJ0_checkIndex_df160.desc).map (fun d => d.parameters.length) = some 2 := by decide +kernel
abbrev rm_J0_checkIndex_df160 : Room := { frames := 1, cells := 0, slots := 0, locals := 22 }
set_option maxHeartbeats 4000000 in
set_option maxRecDepth 100000 in
theorem c_J0_checkIndex_df160 (l : Launch) (G : Gx) (i : Nat) (n : Nat) (hi : i < n) (hn : n < 2147483648) : Mt l G yJ0_checkIndex_df160 cJ0_checkIndex_df160 2 none rm_J0_checkIndex_df160 [.int (nI i), .int (nI n)] [] (D1 none []) := by
  refine Mt.of (by decide) (Nat.le_of_ble_eq_true rfl) ?_
  intro K hl9 hn9 hR
  show V K G cJ0_checkIndex_df160 RJ0 2 rm_J0_checkIndex_df160 0 0 0 [(0, .int (nI i)), (1, .int (nI n))] [] []
  refine v_iload_n dJ0_checkIndex_df160_0 rfl 0 rfl ?_
  refine v_iload_n dJ0_checkIndex_df160_1 rfl 1 rfl ?_
  refine v_fmt dJ0_checkIndex_df160_2 kw_619 ?_ (fun t2 => ?_)
  ·
    refine c_S1 (As := [.int (nI i), .int (nI n), .null]) (rest := []) (wr := []) (k' := 0) (n' := 0) (st2 := [.int (nI i)]) (ws2 := []) (c_J3_checkIndex_8e157_n K.2.1 G i n (by omega) (by omega)) [] [] dJ0_checkIndex_df160_5 kw_1120 kw_1121 kw_56 kw_1122 hd_J3_checkIndex_8e157 ⟨Nat.le_of_ble_eq_true rfl, Nat.le_of_ble_eq_true rfl⟩ ⟨(by decide), (by decide)⟩ ⟨rfl, rfl⟩ (Nat.le_of_ble_eq_true rfl) rfl rfl rfl rfl rfl rfl (by decide) [] rfl rfl rfl rfl ?_
    refine v_pop dJ0_checkIndex_df160_8 rfl ?_
    exact v_vret hR dJ0_checkIndex_df160_9 (by exact ⟨rfl, rfl⟩)
  ·
    refine c_S1 (As := [.int (nI i), .int (nI n), .ref t2]) (rest := []) (wr := []) (k' := 0) (n' := 0) (st2 := [.int (nI i)]) (ws2 := []) (c_J3_checkIndex_8e157_r K.2.1 G i n t2 (by omega) (by omega)) [] [] dJ0_checkIndex_df160_5 kw_1120 kw_1121 kw_56 kw_1122 hd_J3_checkIndex_8e157 ⟨Nat.le_of_ble_eq_true rfl, Nat.le_of_ble_eq_true rfl⟩ ⟨(by decide), (by decide)⟩ ⟨rfl, rfl⟩ (Nat.le_of_ble_eq_true rfl) rfl rfl rfl rfl rfl rfl (by decide) [] rfl rfl rfl rfl ?_
    refine v_pop dJ0_checkIndex_df160_8 rfl ?_
    exact v_vret hR dJ0_checkIndex_df160_9 (by exact ⟨rfl, rfl⟩)
theorem dJ1_charAt_3b067_0 : decode cJ1_charAt_3b067 0 = .ok (.iload_n 1, 1) := by decide +kernel
theorem dJ1_charAt_3b067_1 : decode cJ1_charAt_3b067 1 = .ok (.aload_n 0, 1) := by decide +kernel
theorem dJ1_charAt_3b067_2 : decode cJ1_charAt_3b067 2 = .ok (.arraylength, 1) := by decide +kernel
theorem dJ1_charAt_3b067_3 : decode cJ1_charAt_3b067 3 = .ok (.invokestatic 9, 3) := by decide +kernel
theorem dJ1_charAt_3b067_6 : decode cJ1_charAt_3b067 6 = .ok (.aload_n 0, 1) := by decide +kernel
theorem dJ1_charAt_3b067_7 : decode cJ1_charAt_3b067 7 = .ok (.iload_n 1, 1) := by decide +kernel
theorem dJ1_charAt_3b067_8 : decode cJ1_charAt_3b067 8 = .ok (.baload, 1) := by decide +kernel
theorem dJ1_charAt_3b067_9 : decode cJ1_charAt_3b067 9 = .ok (.sipush 255, 3) := by decide +kernel
theorem dJ1_charAt_3b067_12 : decode cJ1_charAt_3b067 12 = .ok (.iand, 1) := by decide +kernel
theorem dJ1_charAt_3b067_13 : decode cJ1_charAt_3b067 13 = .ok (.i2c, 1) := by decide +kernel
theorem dJ1_charAt_3b067_14 : decode cJ1_charAt_3b067 14 = .ok (.ireturn, 1) := by decide +kernel
theorem hd_J1_charAt_3b067 : yJ1_charAt_3b067.cls ≠ "java/lang/invoke/MethodHandle" ∧ yJ1_charAt_3b067.cls ≠ "java/lang/invoke/VarHandle" ∧ (parseMethodDescriptor yJ1_charAt_3b067.desc).map (fun d => d.parameters.length) = some 2 := by decide +kernel
abbrev rm_J1_charAt_3b067 : Room := { frames := 2, cells := 0, slots := 0, locals := 43 }
set_option maxHeartbeats 4000000 in
set_option maxRecDepth 100000 in
theorem c_J1_charAt_3b067 (l : Launch) (G : Gx) (j : Nat) (i : Nat) (hj : j < 3) (hi : i < lenJ.getD j 0) : Mt l G yJ1_charAt_3b067 cJ1_charAt_3b067 2 (some .char) rm_J1_charAt_3b067 [.ref (G.2.2.2 j), .int (nI i)] [] (D1 (some (.int (nI (chJ j i)))) []) := by
  refine Mt.of (by decide) (Nat.le_of_ble_eq_true rfl) ?_
  intro K hl9 hn9 hR
  show V K G cJ1_charAt_3b067 RJ1 2 rm_J1_charAt_3b067 0 0 0 [(0, .ref (G.2.2.2 j)), (1, .int (nI i))] [] []
  have hl8 := lenJ_le j
  refine v_iload_n dJ1_charAt_3b067_0 rfl 1 rfl ?_
  refine v_aload_n dJ1_charAt_3b067_1 rfl 0 rfl ?_
  refine v_slen hj dJ1_charAt_3b067_2 ?_
  refine c_S1 (As := [.int (nI i), .int (nI (lenJ.getD j 0))]) (rest := []) (wr := []) (k' := 0) (n' := 0) (st2 := []) (ws2 := []) (c_J0_checkIndex_df160 K.2.1 G i (lenJ.getD j 0) (by omega) (by omega)) [] [] dJ1_charAt_3b067_3 kw_1117 kw_1118 kw_44 kw_1119 hd_J0_checkIndex_df160 ⟨Nat.le_of_ble_eq_true rfl, Nat.le_of_ble_eq_true rfl⟩ ⟨(by decide), (by decide)⟩ ⟨rfl, rfl⟩ (Nat.le_of_ble_eq_true rfl) rfl rfl rfl rfl rfl rfl (by decide) [] rfl rfl rfl rfl ?_
  refine v_aload_n dJ1_charAt_3b067_6 rfl 0 rfl ?_
  refine v_iload_n dJ1_charAt_3b067_7 rfl 1 rfl ?_
  refine v_sbald (z := i) hj (by omega) (by omega) dJ1_charAt_3b067_8 ?_
  refine v_sipush (v := nI 255) dJ1_charAt_3b067_9 (by decide) ?_
  refine v_iand dJ1_charAt_3b067_12 ?_
  refine v_i2c dJ1_charAt_3b067_13 ?_
  refine v_eqi (y := nI (chJ j i)) (by exact chJ_eq j hj i hi) ?_
  exact v_zret hR dJ1_charAt_3b067_14 (nI_narC (chJ_lt hj i)) (by exact ⟨rfl, rfl⟩)
theorem dJ0_charAt_5068e_0 : decode cJ0_charAt_5068e 0 = .ok (.aload_n 0, 1) := by decide +kernel
theorem dJ0_charAt_5068e_1 : decode cJ0_charAt_5068e 1 = .ok (.invokevirtual 492, 3) := by decide +kernel
theorem dJ0_charAt_5068e_4 : decode cJ0_charAt_5068e 4 = .ok (.ifCond .eq 12, 3) := by decide +kernel
theorem dJ0_charAt_5068e_7 : decode cJ0_charAt_5068e 7 = .ok (.aload_n 0, 1) := by decide +kernel
theorem dJ0_charAt_5068e_8 : decode cJ0_charAt_5068e 8 = .ok (.getfield 9, 3) := by decide +kernel
theorem dJ0_charAt_5068e_11 : decode cJ0_charAt_5068e 11 = .ok (.iload_n 1, 1) := by decide +kernel
theorem dJ0_charAt_5068e_12 : decode cJ0_charAt_5068e 12 = .ok (.invokestatic 495, 3) := by decide +kernel
theorem dJ0_charAt_5068e_15 : decode cJ0_charAt_5068e 15 = .ok (.ireturn, 1) := by decide +kernel
theorem dJ0_charAt_5068e_16 : decode cJ0_charAt_5068e 16 = .ok (.aload_n 0, 1) := by decide +kernel
theorem dJ0_charAt_5068e_17 : decode cJ0_charAt_5068e 17 = .ok (.getfield 9, 3) := by decide +kernel
theorem dJ0_charAt_5068e_20 : decode cJ0_charAt_5068e 20 = .ok (.iload_n 1, 1) := by decide +kernel
theorem dJ0_charAt_5068e_21 : decode cJ0_charAt_5068e 21 = .ok (.invokestatic 498, 3) := by decide +kernel
theorem dJ0_charAt_5068e_24 : decode cJ0_charAt_5068e 24 = .ok (.ireturn, 1) := by decide +kernel
theorem hd_J0_charAt_5068e : yJ0_charAt_5068e.cls ≠ "java/lang/invoke/MethodHandle" ∧ yJ0_charAt_5068e.cls ≠ "java/lang/invoke/VarHandle" ∧ (parseMethodDescriptor yJ0_charAt_5068e.desc).map (fun d => d.parameters.length) = some 1 := by decide +kernel
abbrev rm_J0_charAt_5068e : Room := { frames := 3, cells := 0, slots := 0, locals := 64 }
set_option maxHeartbeats 4000000 in
set_option maxRecDepth 100000 in
theorem c_J0_charAt_5068e (l : Launch) (G : Gx) (j : Nat) (i : Nat) (hj : j < 3) (hi : i < lenJ.getD j 0) : Mt l G yJ0_charAt_5068e cJ0_charAt_5068e 2 (some .char) rm_J0_charAt_5068e [.ref (G.2.2.1 j), .int (nI i)] [] (D1 (some (.int (nI (chJ j i)))) []) := by
  refine Mt.of (by decide) (Nat.le_of_ble_eq_true rfl) ?_
  intro K hl9 hn9 hR
  show V K G cJ0_charAt_5068e RJ0 2 rm_J0_charAt_5068e 0 0 0 [(0, .ref (G.2.2.1 j)), (1, .int (nI i))] [] []
  refine v_aload_n dJ0_charAt_5068e_0 rfl 0 rfl ?_
  refine c_T1 (As := []) (rest := []) (st2 := [.int (bI true)]) hj (c_J0_isLatin1_aae02 K.2.1 G j (by omega)) dJ0_charAt_5068e_1 kw_581 kw_582 kw_44 kw_584 kw_583 rfl hd_J0_isLatin1_aae02 ⟨Nat.le_of_ble_eq_true rfl, Nat.le_of_ble_eq_true rfl⟩ ⟨(by decide), (by decide)⟩ ⟨rfl, rfl⟩ (Nat.le_of_ble_eq_true rfl) rfl rfl ?_
  refine b_if_eq (tgt := 16) dJ0_charAt_5068e_4 (by decide) (fun c => absurd c (by decide)) (fun _ => ?_)
  refine v_aload_n dJ0_charAt_5068e_7 rfl 0 rfl ?_
  refine v_svalue hj dJ0_charAt_5068e_8 kw_1298 ?_
  refine v_iload_n dJ0_charAt_5068e_11 rfl 1 rfl ?_
  refine c_S1 (As := [.ref (G.2.2.2 j), .int (nI i)]) (rest := []) (wr := []) (k' := 0) (n' := 0) (st2 := [.int (nI (chJ j i))]) (ws2 := []) (c_J1_charAt_3b067 K.2.1 G j i (by omega) (by omega)) [] [] dJ0_charAt_5068e_12 kw_1114 kw_1115 kw_53 kw_1116 hd_J1_charAt_3b067 ⟨Nat.le_of_ble_eq_true rfl, Nat.le_of_ble_eq_true rfl⟩ ⟨(by decide), (by decide)⟩ ⟨rfl, rfl⟩ (Nat.le_of_ble_eq_true rfl) rfl rfl rfl rfl rfl rfl (by decide) [] rfl rfl rfl rfl ?_
  exact v_zret hR dJ0_charAt_5068e_15 (nI_narC (chJ_lt hj i)) (by exact ⟨rfl, rfl⟩)
