/-! fields' words, and stores' laws -/
abbrev kw_ac_J := kw_79
abbrev kw_ac_I := kw_98
abbrev kw_ac_C := kw_121
abbrev kw_ac_Z := kw_1065
theorem gin_X1 : ∀ x ∈ u_ws RX1 TX1 3, x ∈ GT := by decide +kernel
theorem gin_X2 : ∀ x ∈ u_ws RX2 TX2 1, x ∈ GT := by decide +kernel
theorem gin_X3 : ∀ x ∈ u_ws RX3 TX3 5, x ∈ GT := by decide +kernel
theorem gin_X4 : ∀ x ∈ u_ws RX4 TX4 5, x ∈ GT := by decide +kernel
theorem gin_X5 : ∀ x ∈ u_ws RX5 TX5 1, x ∈ GT := by decide +kernel
theorem gin_X7 : ∀ x ∈ u_ws RX7 TX7 6, x ∈ GT := by decide +kernel
theorem gin_X8 : ∀ x ∈ u_ws RX8 TX8 20, x ∈ GT := by decide +kernel
theorem upd_n (g : Nat → Nat) (i x : Nat) : upd (fun j9 => nI (g j9)) i (nI x) = fun j9 => nI (va_up g i x j9) := by
  funext j; unfold upd va_up; split <;> rfl
theorem upd_c (g : Nat → Nat) (i x : Nat) (h : x < 65536) : upd (fun j9 => nI (g j9)) i (vp_nar .char (nI x)) = fun j9 => nI (va_up g i x j9) := by
  rw [nI_vpC h]; exact upd_n g i x
theorem upd_b (g : Nat → Bool) (i : Nat) (x : Bool) : upd (fun j9 => bI (g j9)) i (vp_nar .boolean (bI x)) = fun j9 => bI (va_up g i x j9) := by
  rw [bI_vp]; funext j; unfold upd va_up; split <;> rfl
/-! words of 64 bits as numbers -/
def uL (x : Int64) : Nat := x.toBitVec.toNat
theorem uL_lt (x : Int64) : uL x < 2 ^ 64 := x.toBitVec.isLt
theorem uL_lN {n : Nat} (h : n < 2 ^ 64) : uL (lN n) = n := by
  unfold uL lN
  show (BitVec.ofNat 64 n).toNat = n
  rw [BitVec.toNat_ofNat, Nat.mod_eq_of_lt h]
theorem uL_inj {x y : Int64} (h : uL x = uL y) : x = y := Int64.toBitVec_inj.mp (BitVec.eq_of_toNat_eq h)
theorem lN_uL (x : Int64) : lN (uL x) = x := uL_inj (uL_lN (uL_lt x))
theorem uL_or (x y : Int64) : uL (x ||| y) = uL x ||| uL y := by unfold uL; rw [Int64.toBitVec_or, BitVec.toNat_or]
theorem uL_and (x y : Int64) : uL (x &&& y) = uL x &&& uL y := by unfold uL; rw [Int64.toBitVec_and, BitVec.toNat_and]
theorem lN_or {k a b : Nat} (ha : a < 2 ^ k) (h : a + b * 2 ^ k < 2 ^ 64) : lN a ||| lN (b * 2 ^ k) = lN (a + b * 2 ^ k) := by
  apply uL_inj
  rw [uL_or, uL_lN (by omega), uL_lN (by omega), uL_lN h, Nat.or_comm, ← Nat.shiftLeft_eq, ← Nat.shiftLeft_add_eq_or_of_lt ha, Nat.add_comm]
theorem lN_shl (a k : Nat) {y : Int64} (hy : (y.toBitVec.smod 64).toNat = k) (ha : a * 2 ^ k < 2 ^ 64) : lN a <<< y = lN (a * 2 ^ k) := by
  apply uL_inj
  have hk : a < 2 ^ 64 := Nat.lt_of_le_of_lt (Nat.le_mul_of_pos_right a (Nat.two_pow_pos k)) ha
  rw [uL_lN ha]
  unfold uL
  rw [Int64.toBitVec_shiftLeft, BitVec.shiftLeft_eq', BitVec.toNat_shiftLeft, hy, Nat.shiftLeft_eq]
  have e := uL_lN hk
  unfold uL at e
  rw [e, Nat.mod_eq_of_lt ha]
theorem shr_low (w : Int64) (k b : Nat) {y : Int64} (hy : (y.toBitVec.smod 64).toNat = k) (hkb : k + b ≤ 64) (hb : b ≤ 31) : (w >>> y).toInt32 &&& nI (2 ^ b - 1) = nI (uL w / 2 ^ k % 2 ^ b) := by
  apply Int32.toBitVec_inj.mp
  unfold nI uL
  rw [Int32.toBitVec_and, Int64.toBitVec_toInt32, Int64.toBitVec_shiftRight]
  simp only [Int32.toBitVec_ofNat']
  apply BitVec.eq_of_getLsbD_eq
  intro i hi
  rw [BitVec.signExtend_eq_setWidth_of_le _ (by decide), BitVec.getLsbD_and, BitVec.getLsbD_setWidth, BitVec.sshiftRight_eq', hy, BitVec.getLsbD_sshiftRight, BitVec.getLsbD_ofNat, BitVec.getLsbD_ofNat, Nat.testBit_two_pow_sub_one, Nat.testBit_mod_two_pow, Nat.testBit_div_two_pow]
  by_cases h : i < b
  · simp only [h, decide_true, Bool.and_true, Bool.true_and, show i < 32 from hi, show ¬ 64 ≤ i by omega, decide_false, Bool.not_false, show k + i < 64 by omega, if_true, BitVec.getLsbD]
    rw [Nat.add_comm]
  · simp [h]
def mkN (n : Int32) : Int64 := lN n.toBitVec.toNat
def mkR (b t : Nat) (a : Int32) (p s : Nat) : Int64 := lN (a.toBitVec.toNat + (1 + 2 * (b + 128 * (t + 128 * (p + 128 * s)))) * 2 ^ 32)
def wM (w : Int64) : Bool := decide (uL w / 2 ^ 32 % 2 = 1)
def wN (w : Int64) : Int32 := w.toInt32
def wB (w : Int64) : Nat := uL w / 2 ^ 33 % 2 ^ 7
def wT (w : Int64) : Nat := uL w / 2 ^ 40 % 2 ^ 7
def wP (w : Int64) : Nat := uL w / 2 ^ 47 % 2 ^ 7
def wS (w : Int64) : Nat := uL w / 2 ^ 54 % 2 ^ 3
def wRt (b t : Nat) (a : Int32) (p s : Nat) : Int64 := if a.toInt < (b : Int) - 8 ∨ (t : Int) + 8 < a.toInt then mkN a else mkR b t a p s
theorem mkN_eq (n : Int32) : n.toInt64 &&& (4294967295 : Int64) = mkN n := by
  apply uL_inj
  unfold mkN
  rw [uL_and, uL_lN (Nat.lt_of_lt_of_le n.toBitVec.isLt (by decide))]
  have e : uL (4294967295 : Int64) = 2 ^ 32 - 1 := by decide
  rw [e, Nat.and_two_pow_sub_one_eq_mod]
  unfold uL
  rw [Int32.toBitVec_toInt64, BitVec.signExtend, BitVec.toNat_ofInt, BitVec.toInt_eq_toNat_cond]
  have h := n.toBitVec.isLt
  split <;> omega
theorem mkR_eq {b t p s : Nat} (hb : b < 128) (ht : t < 128) (hp : p < 128) (hs : s < 8) (a : Int32) : mkN a ||| (4294967296 : Int64) ||| (nI b).toInt64 <<< ((nI 33).toInt64 &&& 63) ||| (nI t).toInt64 <<< ((nI 40).toInt64 &&& 63) ||| (nI p).toInt64 <<< ((nI 47).toInt64 &&& 63) ||| (nI s).toInt64 <<< ((nI 54).toInt64 &&& 63) = mkR b t a p s := by
  have ha := a.toBitVec.isLt
  rw [nI_l (n := b) (by omega), nI_l (n := t) (by omega), nI_l (n := p) (by omega), nI_l (n := s) (by omega), lN_shl b 33 (by decide) (by omega), lN_shl t 40 (by decide) (by omega), lN_shl p 47 (by decide) (by omega), lN_shl s 54 (by decide) (by omega)]
  have e : (4294967296 : Int64) = lN (1 * 2 ^ 32) := by decide
  unfold mkN mkR
  rw [e, lN_or (by omega) (by omega), lN_or (by omega) (by omega), lN_or (by omega) (by omega), lN_or (by omega) (by omega), lN_or (by omega) (by omega)]
  congr 1
  omega
theorem uL_mkN (n : Int32) : uL (mkN n) = n.toBitVec.toNat := uL_lN (Nat.lt_of_lt_of_le n.toBitVec.isLt (by decide))
theorem wM_mkN (n : Int32) : wM (mkN n) = false := by
  unfold wM; rw [uL_mkN]; have h := n.toBitVec.isLt; simp only [decide_eq_false_iff_not]; omega
theorem wN_of {w : Int64} {n : Int32} (h : uL w % 2 ^ 32 = n.toBitVec.toNat) : wN w = n := by
  unfold wN
  apply Int32.toBitVec_inj.mp
  rw [Int64.toBitVec_toInt32, BitVec.signExtend_eq_setWidth_of_le _ (by decide)]
  apply BitVec.eq_of_toNat_eq
  rw [BitVec.toNat_setWidth]
  exact h
theorem wN_mkN (n : Int32) : wN (mkN n) = n := wN_of (by rw [uL_mkN]; exact Nat.mod_eq_of_lt n.toBitVec.isLt)
section MR
variable {b t p s : Nat} (hb : b < 128) (ht : t < 128) (hp : p < 128) (hs : s < 8) (a : Int32)
theorem uL_mkR (hb : b < 128) (ht : t < 128) (hp : p < 128) (hs : s < 8) (a : Int32) : uL (mkR b t a p s) = a.toBitVec.toNat + (1 + 2 * (b + 128 * (t + 128 * (p + 128 * s)))) * 2 ^ 32 := uL_lN (by have h := a.toBitVec.isLt; omega)
theorem wM_mkR (hb : b < 128) (ht : t < 128) (hp : p < 128) (hs : s < 8) (a : Int32) : wM (mkR b t a p s) = true := by
  unfold wM; rw [uL_mkR hb ht hp hs]; have h := a.toBitVec.isLt; simp only [decide_eq_true_eq]; omega
theorem wN_mkR (hb : b < 128) (ht : t < 128) (hp : p < 128) (hs : s < 8) (a : Int32) : wN (mkR b t a p s) = a := wN_of (by rw [uL_mkR hb ht hp hs]; have h := a.toBitVec.isLt; omega)
theorem wB_mkR (hb : b < 128) (ht : t < 128) (hp : p < 128) (hs : s < 8) (a : Int32) : wB (mkR b t a p s) = b := by
  unfold wB; rw [uL_mkR hb ht hp hs]; have h := a.toBitVec.isLt; omega
theorem wT_mkR (hb : b < 128) (ht : t < 128) (hp : p < 128) (hs : s < 8) (a : Int32) : wT (mkR b t a p s) = t := by
  unfold wT; rw [uL_mkR hb ht hp hs]; have h := a.toBitVec.isLt; omega
theorem wP_mkR (hb : b < 128) (ht : t < 128) (hp : p < 128) (hs : s < 8) (a : Int32) : wP (mkR b t a p s) = p := by
  unfold wP; rw [uL_mkR hb ht hp hs]; have h := a.toBitVec.isLt; omega
theorem wS_mkR (hb : b < 128) (ht : t < 128) (hp : p < 128) (hs : s < 8) (a : Int32) : wS (mkR b t a p s) = s := by
  unfold wS; rw [uL_mkR hb ht hp hs]; have h := a.toBitVec.isLt; omega
end MR
theorem wB_lt (w : Int64) : wB w < 128 := Nat.mod_lt _ (by decide)
theorem wT_lt (w : Int64) : wT w < 128 := Nat.mod_lt _ (by decide)
theorem wP_lt (w : Int64) : wP w < 128 := Nat.mod_lt _ (by decide)
theorem wS_lt (w : Int64) : wS w < 8 := Nat.mod_lt _ (by decide)
theorem and_p2 (a k : Nat) : a &&& 2 ^ k = 2 ^ k * (a / 2 ^ k % 2) := by
  apply Nat.eq_of_testBit_eq
  intro i
  rw [Nat.testBit_and, Nat.testBit_two_pow, Nat.testBit_two_pow_mul, show (2 : Nat) = 2 ^ 1 from rfl, Nat.testBit_mod_two_pow, ← show (2 : Nat) = 2 ^ 1 from rfl, Nat.testBit_div_two_pow]
  by_cases h : k = i
  · subst h; simp
  · by_cases h2 : k ≤ i
    · simp [h, h2, show ¬ i - k < 1 by omega]
    · simp [h, h2]
theorem lg0 (x y : Int64) : lg_cmp x y = 0 ↔ x = y := by
  unfold lg_cmp
  simp only [gt_iff_lt, Int64.lt_iff_toInt_lt, ← Int64.toInt_inj]
  repeat' split
  · constructor
    · intro h; exact absurd h (by decide)
    · intro h; omega
  · constructor
    · intro h; assumption
    · intro h; rfl
  · constructor
    · intro h; exact absurd h (by decide)
    · intro h; contradiction
theorem wM_eq (w : Int64) : (lg_cmp (w &&& (4294967296 : Int64)) (0 : Int64) = 0) ↔ wM w = false := by
  have e : uL (4294967296 : Int64) = 2 ^ 32 := by decide
  have h1 : uL (w &&& (4294967296 : Int64)) = 2 ^ 32 * (uL w / 2 ^ 32 % 2) := by
    rw [uL_and, e, and_p2]
  have h2 : lg_cmp (w &&& (4294967296 : Int64)) (0 : Int64) = 0 ↔ (w &&& (4294967296 : Int64)) = 0 := lg0 _ _
  rw [h2]
  unfold wM
  constructor
  · intro h
    rw [h] at h1
    have : uL (0 : Int64) = 0 := by decide
    simp only [decide_eq_false_iff_not]; omega
  · intro h
    simp only [decide_eq_false_iff_not] at h
    apply uL_inj
    have : uL (0 : Int64) = 0 := by decide
    rcases Nat.mod_two_eq_zero_or_one (uL w / 2 ^ 32) with h3 | h3 <;> omega
/-! rounding -/
theorem and_hi {n k : Nat} (hn : n < 2 ^ 32) (hk : k ≤ 32) : n &&& (2 ^ 32 - 2 ^ k) = n / 2 ^ k * 2 ^ k := by
  apply Nat.eq_of_testBit_eq
  intro i
  have hp : 0 < 2 ^ k := Nat.two_pow_pos k
  have e : 2 ^ 32 - 2 ^ k = 2 ^ 32 - (2 ^ k - 1 + 1) := by omega
  rw [Nat.testBit_and, e, Nat.testBit_two_pow_sub_succ (by have := Nat.pow_le_pow_right (n := 2) (by decide) hk; omega), Nat.testBit_two_pow_sub_one, ← Nat.shiftLeft_eq, Nat.testBit_shiftLeft, Nat.testBit_div_two_pow]
  by_cases h : k ≤ i
  · simp only [h, decide_true, Bool.true_and, show ¬ i < k by omega, decide_false, Bool.not_false, Bool.and_true, show i - k + k = i by omega]
    by_cases h2 : i < 32
    · simp [h2]
    · simp only [h2, decide_false, Bool.and_false]
      exact (Nat.testBit_lt_two_pow (Nat.lt_of_lt_of_le hn (Nat.pow_le_pow_right (by decide) (by omega)))).symm
  · simp [h, show i < k by omega]
def isU (u : Nat) : Prop := u = 1 ∨ u = 2 ∨ u = 4 ∨ u = 8 ∨ u = 16
theorem dn_eq {n u : Nat} (hn : n < 2 ^ 31) (hu : isU u) : nI n &&& -(nI u) = nI (n / u * u) := by
  rcases hu with rfl | rfl | rfl | rfl | rfl
  · rw [show -(nI 1) = nI (2 ^ 32 - 2 ^ 0) by decide, nI_and, and_hi (by omega) (by decide)]
  · rw [show -(nI 2) = nI (2 ^ 32 - 2 ^ 1) by decide, nI_and, and_hi (by omega) (by decide)]
  · rw [show -(nI 4) = nI (2 ^ 32 - 2 ^ 2) by decide, nI_and, and_hi (by omega) (by decide)]
  · rw [show -(nI 8) = nI (2 ^ 32 - 2 ^ 3) by decide, nI_and, and_hi (by omega) (by decide)]
  · rw [show -(nI 16) = nI (2 ^ 32 - 2 ^ 4) by decide, nI_and, and_hi (by omega) (by decide)]
def dn (n u : Nat) : Nat := n / u * u
def up (n u : Nat) : Nat := (n + u - 1) / u * u
def fitU (b t u : Nat) : Prop := up t u ≤ 8 * u + dn b u
def unitOf (b t : Nat) : Nat := if up t 1 - dn b 1 ≤ 8 then 1 else if up t 2 - dn b 2 ≤ 16 then 2 else if up t 4 - dn b 4 ≤ 32 then 4 else if up t 8 - dn b 8 ≤ 64 then 8 else 16
theorem dn_le (n u : Nat) : dn n u ≤ n := Nat.div_mul_le_self n u
theorem le_up {n u : Nat} (h : 0 < u) : n ≤ up n u := by
  unfold up
  have h1 := Nat.div_add_mod (n + u - 1) u
  have h2 := Nat.mod_lt (n + u - 1) h
  rw [Nat.mul_comm] at h1
  omega
theorem up_lt (n u : Nat) (h : 0 < u) : up n u < n + u := by
  unfold up
  have := Nat.div_mul_le_self (n + u - 1) u
  omega
theorem unitOf_isU (b t : Nat) : isU (unitOf b t) := by
  unfold unitOf isU
  split
  · exact Or.inl rfl
  · split
    · exact Or.inr (Or.inl rfl)
    · split
      · exact Or.inr (Or.inr (Or.inl rfl))
      · split
        · exact Or.inr (Or.inr (Or.inr (Or.inl rfl)))
        · exact Or.inr (Or.inr (Or.inr (Or.inr rfl)))
def exactB (b t : Nat) : Bool := decide (dn b (unitOf b t) = b ∧ up t (unitOf b t) = t)
