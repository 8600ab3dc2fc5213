def popF (i : Int64) : Int32 := (((((((((i - (((i.toUInt64 >>> ((nI 1).toInt64.toUInt64 &&& Int64.toUInt64 63)).toInt64) &&& (6148914691236517205 : Int64))) &&& (3689348814741910323 : Int64)) + ((((i - (((i.toUInt64 >>> ((nI 1).toInt64.toUInt64 &&& Int64.toUInt64 63)).toInt64) &&& (6148914691236517205 : Int64))).toUInt64 >>> ((nI 2).toInt64.toUInt64 &&& Int64.toUInt64 63)).toInt64) &&& (3689348814741910323 : Int64))) + (((((i - (((i.toUInt64 >>> ((nI 1).toInt64.toUInt64 &&& Int64.toUInt64 63)).toInt64) &&& (6148914691236517205 : Int64))) &&& (3689348814741910323 : Int64)) + ((((i - (((i.toUInt64 >>> ((nI 1).toInt64.toUInt64 &&& Int64.toUInt64 63)).toInt64) &&& (6148914691236517205 : Int64))).toUInt64 >>> ((nI 2).toInt64.toUInt64 &&& Int64.toUInt64 63)).toInt64) &&& (3689348814741910323 : Int64))).toUInt64 >>> ((nI 4).toInt64.toUInt64 &&& Int64.toUInt64 63)).toInt64)) &&& (1085102592571150095 : Int64)) + (((((((i - (((i.toUInt64 >>> ((nI 1).toInt64.toUInt64 &&& Int64.toUInt64 63)).toInt64) &&& (6148914691236517205 : Int64))) &&& (3689348814741910323 : Int64)) + ((((i - (((i.toUInt64 >>> ((nI 1).toInt64.toUInt64 &&& Int64.toUInt64 63)).toInt64) &&& (6148914691236517205 : Int64))).toUInt64 >>> ((nI 2).toInt64.toUInt64 &&& Int64.toUInt64 63)).toInt64) &&& (3689348814741910323 : Int64))) + (((((i - (((i.toUInt64 >>> ((nI 1).toInt64.toUInt64 &&& Int64.toUInt64 63)).toInt64) &&& (6148914691236517205 : Int64))) &&& (3689348814741910323 : Int64)) + ((((i - (((i.toUInt64 >>> ((nI 1).toInt64.toUInt64 &&& Int64.toUInt64 63)).toInt64) &&& (6148914691236517205 : Int64))).toUInt64 >>> ((nI 2).toInt64.toUInt64 &&& Int64.toUInt64 63)).toInt64) &&& (3689348814741910323 : Int64))).toUInt64 >>> ((nI 4).toInt64.toUInt64 &&& Int64.toUInt64 63)).toInt64)) &&& (1085102592571150095 : Int64)).toUInt64 >>> ((nI 8).toInt64.toUInt64 &&& Int64.toUInt64 63)).toInt64)) + ((((((((i - (((i.toUInt64 >>> ((nI 1).toInt64.toUInt64 &&& Int64.toUInt64 63)).toInt64) &&& (6148914691236517205 : Int64))) &&& (3689348814741910323 : Int64)) + ((((i - (((i.toUInt64 >>> ((nI 1).toInt64.toUInt64 &&& Int64.toUInt64 63)).toInt64) &&& (6148914691236517205 : Int64))).toUInt64 >>> ((nI 2).toInt64.toUInt64 &&& Int64.toUInt64 63)).toInt64) &&& (3689348814741910323 : Int64))) + (((((i - (((i.toUInt64 >>> ((nI 1).toInt64.toUInt64 &&& Int64.toUInt64 63)).toInt64) &&& (6148914691236517205 : Int64))) &&& (3689348814741910323 : Int64)) + ((((i - (((i.toUInt64 >>> ((nI 1).toInt64.toUInt64 &&& Int64.toUInt64 63)).toInt64) &&& (6148914691236517205 : Int64))).toUInt64 >>> ((nI 2).toInt64.toUInt64 &&& Int64.toUInt64 63)).toInt64) &&& (3689348814741910323 : Int64))).toUInt64 >>> ((nI 4).toInt64.toUInt64 &&& Int64.toUInt64 63)).toInt64)) &&& (1085102592571150095 : Int64)) + (((((((i - (((i.toUInt64 >>> ((nI 1).toInt64.toUInt64 &&& Int64.toUInt64 63)).toInt64) &&& (6148914691236517205 : Int64))) &&& (3689348814741910323 : Int64)) + ((((i - (((i.toUInt64 >>> ((nI 1).toInt64.toUInt64 &&& Int64.toUInt64 63)).toInt64) &&& (6148914691236517205 : Int64))).toUInt64 >>> ((nI 2).toInt64.toUInt64 &&& Int64.toUInt64 63)).toInt64) &&& (3689348814741910323 : Int64))) + (((((i - (((i.toUInt64 >>> ((nI 1).toInt64.toUInt64 &&& Int64.toUInt64 63)).toInt64) &&& (6148914691236517205 : Int64))) &&& (3689348814741910323 : Int64)) + ((((i - (((i.toUInt64 >>> ((nI 1).toInt64.toUInt64 &&& Int64.toUInt64 63)).toInt64) &&& (6148914691236517205 : Int64))).toUInt64 >>> ((nI 2).toInt64.toUInt64 &&& Int64.toUInt64 63)).toInt64) &&& (3689348814741910323 : Int64))).toUInt64 >>> ((nI 4).toInt64.toUInt64 &&& Int64.toUInt64 63)).toInt64)) &&& (1085102592571150095 : Int64)).toUInt64 >>> ((nI 8).toInt64.toUInt64 &&& Int64.toUInt64 63)).toInt64)).toUInt64 >>> ((nI 16).toInt64.toUInt64 &&& Int64.toUInt64 63)).toInt64)) + (((((((((i - (((i.toUInt64 >>> ((nI 1).toInt64.toUInt64 &&& Int64.toUInt64 63)).toInt64) &&& (6148914691236517205 : Int64))) &&& (3689348814741910323 : Int64)) + ((((i - (((i.toUInt64 >>> ((nI 1).toInt64.toUInt64 &&& Int64.toUInt64 63)).toInt64) &&& (6148914691236517205 : Int64))).toUInt64 >>> ((nI 2).toInt64.toUInt64 &&& Int64.toUInt64 63)).toInt64) &&& (3689348814741910323 : Int64))) + (((((i - (((i.toUInt64 >>> ((nI 1).toInt64.toUInt64 &&& Int64.toUInt64 63)).toInt64) &&& (6148914691236517205 : Int64))) &&& (3689348814741910323 : Int64)) + ((((i - (((i.toUInt64 >>> ((nI 1).toInt64.toUInt64 &&& Int64.toUInt64 63)).toInt64) &&& (6148914691236517205 : Int64))).toUInt64 >>> ((nI 2).toInt64.toUInt64 &&& Int64.toUInt64 63)).toInt64) &&& (3689348814741910323 : Int64))).toUInt64 >>> ((nI 4).toInt64.toUInt64 &&& Int64.toUInt64 63)).toInt64)) &&& (1085102592571150095 : Int64)) + (((((((i - (((i.toUInt64 >>> ((nI 1).toInt64.toUInt64 &&& Int64.toUInt64 63)).toInt64) &&& (6148914691236517205 : Int64))) &&& (3689348814741910323 : Int64)) + ((((i - (((i.toUInt64 >>> ((nI 1).toInt64.toUInt64 &&& Int64.toUInt64 63)).toInt64) &&& (6148914691236517205 : Int64))).toUInt64 >>> ((nI 2).toInt64.toUInt64 &&& Int64.toUInt64 63)).toInt64) &&& (3689348814741910323 : Int64))) + (((((i - (((i.toUInt64 >>> ((nI 1).toInt64.toUInt64 &&& Int64.toUInt64 63)).toInt64) &&& (6148914691236517205 : Int64))) &&& (3689348814741910323 : Int64)) + ((((i - (((i.toUInt64 >>> ((nI 1).toInt64.toUInt64 &&& Int64.toUInt64 63)).toInt64) &&& (6148914691236517205 : Int64))).toUInt64 >>> ((nI 2).toInt64.toUInt64 &&& Int64.toUInt64 63)).toInt64) &&& (3689348814741910323 : Int64))).toUInt64 >>> ((nI 4).toInt64.toUInt64 &&& Int64.toUInt64 63)).toInt64)) &&& (1085102592571150095 : Int64)).toUInt64 >>> ((nI 8).toInt64.toUInt64 &&& Int64.toUInt64 63)).toInt64)) + ((((((((i - (((i.toUInt64 >>> ((nI 1).toInt64.toUInt64 &&& Int64.toUInt64 63)).toInt64) &&& (6148914691236517205 : Int64))) &&& (3689348814741910323 : Int64)) + ((((i - (((i.toUInt64 >>> ((nI 1).toInt64.toUInt64 &&& Int64.toUInt64 63)).toInt64) &&& (6148914691236517205 : Int64))).toUInt64 >>> ((nI 2).toInt64.toUInt64 &&& Int64.toUInt64 63)).toInt64) &&& (3689348814741910323 : Int64))) + (((((i - (((i.toUInt64 >>> ((nI 1).toInt64.toUInt64 &&& Int64.toUInt64 63)).toInt64) &&& (6148914691236517205 : Int64))) &&& (3689348814741910323 : Int64)) + ((((i - (((i.toUInt64 >>> ((nI 1).toInt64.toUInt64 &&& Int64.toUInt64 63)).toInt64) &&& (6148914691236517205 : Int64))).toUInt64 >>> ((nI 2).toInt64.toUInt64 &&& Int64.toUInt64 63)).toInt64) &&& (3689348814741910323 : Int64))).toUInt64 >>> ((nI 4).toInt64.toUInt64 &&& Int64.toUInt64 63)).toInt64)) &&& (1085102592571150095 : Int64)) + (((((((i - (((i.toUInt64 >>> ((nI 1).toInt64.toUInt64 &&& Int64.toUInt64 63)).toInt64) &&& (6148914691236517205 : Int64))) &&& (3689348814741910323 : Int64)) + ((((i - (((i.toUInt64 >>> ((nI 1).toInt64.toUInt64 &&& Int64.toUInt64 63)).toInt64) &&& (6148914691236517205 : Int64))).toUInt64 >>> ((nI 2).toInt64.toUInt64 &&& Int64.toUInt64 63)).toInt64) &&& (3689348814741910323 : Int64))) + (((((i - (((i.toUInt64 >>> ((nI 1).toInt64.toUInt64 &&& Int64.toUInt64 63)).toInt64) &&& (6148914691236517205 : Int64))) &&& (3689348814741910323 : Int64)) + ((((i - (((i.toUInt64 >>> ((nI 1).toInt64.toUInt64 &&& Int64.toUInt64 63)).toInt64) &&& (6148914691236517205 : Int64))).toUInt64 >>> ((nI 2).toInt64.toUInt64 &&& Int64.toUInt64 63)).toInt64) &&& (3689348814741910323 : Int64))).toUInt64 >>> ((nI 4).toInt64.toUInt64 &&& Int64.toUInt64 63)).toInt64)) &&& (1085102592571150095 : Int64)).toUInt64 >>> ((nI 8).toInt64.toUInt64 &&& Int64.toUInt64 63)).toInt64)).toUInt64 >>> ((nI 16).toInt64.toUInt64 &&& Int64.toUInt64 63)).toInt64)).toUInt64 >>> ((nI 32).toInt64.toUInt64 &&& Int64.toUInt64 63)).toInt64)).toInt32) &&& (nI 127)
def clrH (h : Nat → Int64) (s : Nat) : Nat → Int64 := vp_updL (vp_updL h (2 * s) (0 : Int64)) (2 * s + 1) (0 : Int64)
def addH (h : Nat → Int64) (s q : Nat) : Nat → Int64 := vp_updL h (2 * s + q / 64) (h (2 * s + q / 64) ||| (1 : Int64) <<< ((nI q).toInt64 &&& 63))
def bitsF (x y : Int32) : Int64 := if (if y ≤ nI 64 then y else nI 64) ≤ (if 0 ≤ x then x else nI 0) then (0 : Int64) else ((-1 : Int64).toUInt64 >>> ((nI 64 - ((if y ≤ nI 64 then y else nI 64) - (if 0 ≤ x then x else nI 0))).toInt64.toUInt64 &&& Int64.toUInt64 63)).toInt64 <<< ((if 0 ≤ x then x else nI 0).toInt64 &&& 63)
def rngH (h : Nat → Int64) (s : Nat) (x y : Int32) : Nat → Int64 := vp_updL (vp_updL h (2 * s) (h (2 * s) ||| bitsF x y)) (2 * s + 1) (vp_updL h (2 * s) (h (2 * s) ||| bitsF x y) (2 * s + 1) ||| bitsF (x - nI 64) (y - nI 64))
def allH (h g : Nat → Int64) (s : Nat) : Nat → Int64 := vp_updL (vp_updL h (2 * s) (h (2 * s) ||| g (2 * s))) (2 * s + 1) (vp_updL h (2 * s) (h (2 * s) ||| g (2 * s)) (2 * s + 1) ||| g (2 * s + 1))
def hasR (h : Nat → Int64) (s : Nat) (x y : Int32) : Bool := decide (bitsF x y &&& (h (2 * s) ^^^ (-1 : Int64)) = 0) && decide (bitsF (x - nI 64) (y - nI 64) &&& (h (2 * s + 1) ^^^ (-1 : Int64)) = 0)
def bt (h : Nat → Int64) (s q : Nat) : Bool := (uL (h (2 * s + q / 64))).testBit (q % 64)
theorem ushr_uL (x : Int64) {k : Nat} (hk : k < 64) {y : UInt64} (hy : y.toNat % 64 = k) : uL (x.toUInt64 >>> y).toInt64 = uL x / 2 ^ k := by
  unfold uL
  show (x.toUInt64 >>> y).toBitVec.toNat = _
  rw [UInt64.toBitVec_shiftRight]
  show (x.toBitVec >>> (y.toBitVec % 64)).toNat = _
  rw [BitVec.ushiftRight_eq', BitVec.toNat_ushiftRight, Nat.shiftRight_eq_div_pow]
  congr 2
theorem sh_amt {q : Nat} (hq : q < 2 ^ 31) : ((nI q).toInt64.toUInt64 &&& Int64.toUInt64 63).toNat % 64 = q % 64 := by
  have e : ((nI q).toInt64.toUInt64 &&& Int64.toUInt64 63) = ((lN q) &&& 63 : Int64).toUInt64 := by rw [nI_l hq]; rfl
  have e2 : ((lN q) &&& 63 : Int64).toUInt64.toNat = uL (lN q &&& 63) := rfl
  rw [e, e2, uL_and, uL_lN (by omega), show uL 63 = 2 ^ 6 - 1 by decide, Nat.and_two_pow_sub_one_eq_mod]
  omega
theorem bt_eq (h : Nat → Int64) (s : Nat) {q : Nat} (hq : q < 128) : lg_cmp (((h (2 * s + q / 64)).toUInt64 >>> ((nI q).toInt64.toUInt64 &&& Int64.toUInt64 63)).toInt64 &&& (1 : Int64)) (0 : Int64) = 0 ↔ bt h s q = false := by
  rw [lg0]
  have h1 : uL (((h (2 * s + q / 64)).toUInt64 >>> ((nI q).toInt64.toUInt64 &&& Int64.toUInt64 63)).toInt64 &&& (1 : Int64)) = uL (h (2 * s + q / 64)) / 2 ^ (q % 64) % 2 := by
    rw [uL_and, ushr_uL _ (Nat.mod_lt q (by decide)) (sh_amt (by omega)), show uL 1 = 2 ^ 1 - 1 by decide, Nat.and_two_pow_sub_one_eq_mod]
  unfold bt
  rw [Nat.testBit_eq_decide_div_mod_eq]
  simp only [decide_eq_false_iff_not]
  constructor
  · intro h2
    rw [h2] at h1
    have : uL (0 : Int64) = 0 := by decide
    omega
  · intro h2
    apply uL_inj
    have : uL (0 : Int64) = 0 := by decide
    omega
/-! rows -/
def clrA (f : Nat → Int64) (u v : Nat) : Nat → Int64 := fun j => if u ≤ j ∧ j < v then mkN (nI 0) else f j
theorem clrA_0 (f : Nat → Int64) (u : Nat) : clrA f u u = f := by
  funext j; unfold clrA; rw [if_neg (by omega)]
theorem clrA_s (f : Nat → Int64) {u i : Nat} (h : u ≤ i) : vp_updL (clrA f u i) i (mkN (nI 0)) = clrA f u (i + 1) := by
  funext j; unfold clrA vp_updL
  by_cases e : j = i
  · subst e; rw [if_pos rfl, if_pos (by omega)]
  · rw [if_neg e]; dsimp only
    by_cases e2 : u ≤ j ∧ j < i
    · rw [if_pos e2, if_pos (by omega)]
    · rw [if_neg e2, if_neg (by omega)]
def cntF (p : Nat → Bool) : Nat → Nat
  | 0 => 0
  | n + 1 => cntF p n + (if p n then 1 else 0)
theorem cntF_le (p : Nat → Bool) : ∀ n, cntF p n ≤ n
  | 0 => Nat.le_refl _
  | n + 1 => by
    have := cntF_le p n
    rw [cntF]; split <;> omega
def allF (p : Nat → Bool) : Nat → Bool
  | 0 => true
  | n + 1 => allF p n && p n
theorem allF_iff (p : Nat → Bool) : ∀ n, allF p n = true ↔ ∀ i, i < n → p i = true
  | 0 => by simp [allF]
  | n + 1 => by
    rw [allF, Bool.and_eq_true, allF_iff p n]
    constructor
    · rintro ⟨h1, h2⟩ i hi
      rcases Nat.lt_or_ge i n with h | h
      · exact h1 i h
      · rw [show i = n by omega]; exact h2
    · intro h
      exact ⟨fun i hi => h i (by omega), h n (by omega)⟩
theorem allF_false {p : Nat → Bool} {n i : Nat} (hi : i < n) (h : p i = false) : allF p n = false := by
  cases e : allF p n
  · rfl
  · rw [(allF_iff p n).mp e i hi] at h; exact absurd h (by decide)
def dropP (h f : Nat → Int64) : Nat → Bool := fun j => wM (f j) && bt h 0 (wB (f j))
def dropA (h f : Nat → Int64) (n : Nat) : Nat → Int64 := fun j => if j < n ∧ dropP h f j = true then mkN (wN (f j)) else f j
theorem dropA_0 (h f : Nat → Int64) : dropA h f 0 = f := by
  funext j; unfold dropA; rw [if_neg (by omega)]
theorem dropA_i (h f : Nat → Int64) (i : Nat) : dropA h f i i = f i := by
  unfold dropA; rw [if_neg (by omega)]
theorem dropA_p {h f : Nat → Int64} {i : Nat} (e : dropP h f i = true) : vp_updL (dropA h f i) i (mkN (wN (f i))) = dropA h f (i + 1) := by
  funext j; unfold dropA vp_updL
  by_cases e1 : j = i
  · subst e1; rw [if_pos rfl, if_pos ⟨by omega, e⟩]
  · rw [if_neg e1]; dsimp only
    by_cases e2 : j < i ∧ dropP h f j = true
    · rw [if_pos e2, if_pos ⟨by omega, e2.2⟩]
    · rw [if_neg e2, if_neg (fun z => e2 ⟨by omega, z.2⟩)]
theorem dropA_q {h f : Nat → Int64} {i : Nat} (e : dropP h f i = false) : dropA h f i = dropA h f (i + 1) := by
  funext j; unfold dropA
  by_cases e2 : j < i ∧ dropP h f j = true
  · rw [if_pos e2, if_pos ⟨by omega, e2.2⟩]
  · rw [if_neg e2, if_neg (fun z => e2 ⟨by
      rcases Nat.lt_or_ge j i with q | q
      · exact q
      · have := z.2; rw [show j = i by omega, e] at this; exact absurd this (by decide), z.2⟩)]
theorem dropC_p {h f : Nat → Int64} {i : Nat} (e : dropP h f i = true) : cntF (dropP h f) i + 1 = cntF (dropP h f) (i + 1) := by rw [cntF, e]; rfl
theorem dropC_q {h f : Nat → Int64} {i : Nat} (e : dropP h f i = false) : cntF (dropP h f) i = cntF (dropP h f) (i + 1) := by rw [cntF, e]; rfl
theorem dropA_y {h f : Nat → Int64} {i : Nat} (e1 : wM (dropA h f i i) = true) (e2 : bt h 0 (wB (dropA h f i i)) = true) : vp_updL (dropA h f i) i (mkN (wN (dropA h f i i))) = dropA h f (i + 1) := by
  rw [dropA_i] at *; exact dropA_p (by unfold dropP; rw [e1, e2]; rfl)
theorem dropA_n1 {h f : Nat → Int64} {i : Nat} (e1 : wM (dropA h f i i) = false) : dropA h f i = dropA h f (i + 1) := by
  rw [dropA_i] at *; exact dropA_q (by unfold dropP; rw [e1]; rfl)
theorem dropA_n2 {h f : Nat → Int64} {i : Nat} (e2 : bt h 0 (wB (dropA h f i i)) = false) : dropA h f i = dropA h f (i + 1) := by
  rw [dropA_i] at *; exact dropA_q (by unfold dropP; rw [e2]; exact Bool.and_false _)
theorem dropC_y {h f : Nat → Int64} {i : Nat} (e1 : wM (dropA h f i i) = true) (e2 : bt h 0 (wB (dropA h f i i)) = true) : cntF (dropP h f) i + 1 = cntF (dropP h f) (i + 1) := by
  rw [dropA_i] at *; exact dropC_p (by unfold dropP; rw [e1, e2]; rfl)
theorem dropC_n1 {h f : Nat → Int64} {i : Nat} (e1 : wM (dropA h f i i) = false) : cntF (dropP h f) i = cntF (dropP h f) (i + 1) := by
  rw [dropA_i] at *; exact dropC_q (by unfold dropP; rw [e1]; rfl)
theorem dropC_n2 {h f : Nat → Int64} {i : Nat} (e2 : bt h 0 (wB (dropA h f i i)) = false) : cntF (dropP h f) i = cntF (dropP h f) (i + 1) := by
  rw [dropA_i] at *; exact dropC_q (by unfold dropP; rw [e2]; exact Bool.and_false _)
def sndB (b t : Nat) : Bool := decide (b < t ∧ t ≤ 96) && exactB b t
def sndW (f : Nat → Int64) : Nat → Bool := fun j => !wM (f j) || sndB (wB (f j)) (wT (f j))

theorem dJ13_bitCount_95d88_0 : decode cJ13_bitCount_95d88 0 = .ok (.lload_n 0, 1) := by decide +kernel
theorem dJ13_bitCount_95d88_1 : decode cJ13_bitCount_95d88 1 = .ok (.lload_n 0, 1) := by decide +kernel
theorem dJ13_bitCount_95d88_2 : decode cJ13_bitCount_95d88 2 = .ok (.iconst 1, 1) := by decide +kernel
theorem dJ13_bitCount_95d88_3 : decode cJ13_bitCount_95d88 3 = .ok (.lushr, 1) := by decide +kernel
theorem dJ13_bitCount_95d88_4 : decode cJ13_bitCount_95d88 4 = .ok (.ldc2_w 314, 3) := by decide +kernel
theorem dJ13_bitCount_95d88_7 : decode cJ13_bitCount_95d88 7 = .ok (.land, 1) := by decide +kernel
theorem dJ13_bitCount_95d88_8 : decode cJ13_bitCount_95d88 8 = .ok (.lsub, 1) := by decide +kernel
theorem dJ13_bitCount_95d88_9 : decode cJ13_bitCount_95d88 9 = .ok (.lstore_n 0, 1) := by decide +kernel
theorem dJ13_bitCount_95d88_10 : decode cJ13_bitCount_95d88 10 = .ok (.lload_n 0, 1) := by decide +kernel
theorem dJ13_bitCount_95d88_11 : decode cJ13_bitCount_95d88 11 = .ok (.ldc2_w 316, 3) := by decide +kernel
theorem dJ13_bitCount_95d88_14 : decode cJ13_bitCount_95d88 14 = .ok (.land, 1) := by decide +kernel
theorem dJ13_bitCount_95d88_15 : decode cJ13_bitCount_95d88 15 = .ok (.lload_n 0, 1) := by decide +kernel
theorem dJ13_bitCount_95d88_16 : decode cJ13_bitCount_95d88 16 = .ok (.iconst 2, 1) := by decide +kernel
theorem dJ13_bitCount_95d88_17 : decode cJ13_bitCount_95d88 17 = .ok (.lushr, 1) := by decide +kernel
theorem dJ13_bitCount_95d88_18 : decode cJ13_bitCount_95d88 18 = .ok (.ldc2_w 316, 3) := by decide +kernel
theorem dJ13_bitCount_95d88_21 : decode cJ13_bitCount_95d88 21 = .ok (.land, 1) := by decide +kernel
theorem dJ13_bitCount_95d88_22 : decode cJ13_bitCount_95d88 22 = .ok (.ladd, 1) := by decide +kernel
theorem dJ13_bitCount_95d88_23 : decode cJ13_bitCount_95d88 23 = .ok (.lstore_n 0, 1) := by decide +kernel
theorem dJ13_bitCount_95d88_24 : decode cJ13_bitCount_95d88 24 = .ok (.lload_n 0, 1) := by decide +kernel
theorem dJ13_bitCount_95d88_25 : decode cJ13_bitCount_95d88 25 = .ok (.lload_n 0, 1) := by decide +kernel
theorem dJ13_bitCount_95d88_26 : decode cJ13_bitCount_95d88 26 = .ok (.iconst 4, 1) := by decide +kernel
theorem dJ13_bitCount_95d88_27 : decode cJ13_bitCount_95d88 27 = .ok (.lushr, 1) := by decide +kernel
theorem dJ13_bitCount_95d88_28 : decode cJ13_bitCount_95d88 28 = .ok (.ladd, 1) := by decide +kernel
theorem dJ13_bitCount_95d88_29 : decode cJ13_bitCount_95d88 29 = .ok (.ldc2_w 318, 3) := by decide +kernel
theorem dJ13_bitCount_95d88_32 : decode cJ13_bitCount_95d88 32 = .ok (.land, 1) := by decide +kernel
theorem dJ13_bitCount_95d88_33 : decode cJ13_bitCount_95d88 33 = .ok (.lstore_n 0, 1) := by decide +kernel
theorem dJ13_bitCount_95d88_34 : decode cJ13_bitCount_95d88 34 = .ok (.lload_n 0, 1) := by decide +kernel
theorem dJ13_bitCount_95d88_35 : decode cJ13_bitCount_95d88 35 = .ok (.lload_n 0, 1) := by decide +kernel
theorem dJ13_bitCount_95d88_36 : decode cJ13_bitCount_95d88 36 = .ok (.bipush 8, 2) := by decide +kernel
theorem dJ13_bitCount_95d88_38 : decode cJ13_bitCount_95d88 38 = .ok (.lushr, 1) := by decide +kernel
theorem dJ13_bitCount_95d88_39 : decode cJ13_bitCount_95d88 39 = .ok (.ladd, 1) := by decide +kernel
theorem dJ13_bitCount_95d88_40 : decode cJ13_bitCount_95d88 40 = .ok (.lstore_n 0, 1) := by decide +kernel
theorem dJ13_bitCount_95d88_41 : decode cJ13_bitCount_95d88 41 = .ok (.lload_n 0, 1) := by decide +kernel
theorem dJ13_bitCount_95d88_42 : decode cJ13_bitCount_95d88 42 = .ok (.lload_n 0, 1) := by decide +kernel
theorem dJ13_bitCount_95d88_43 : decode cJ13_bitCount_95d88 43 = .ok (.bipush 16, 2) := by decide +kernel
theorem dJ13_bitCount_95d88_45 : decode cJ13_bitCount_95d88 45 = .ok (.lushr, 1) := by decide +kernel
theorem dJ13_bitCount_95d88_46 : decode cJ13_bitCount_95d88 46 = .ok (.ladd, 1) := by decide +kernel
theorem dJ13_bitCount_95d88_47 : decode cJ13_bitCount_95d88 47 = .ok (.lstore_n 0, 1) := by decide +kernel
theorem dJ13_bitCount_95d88_48 : decode cJ13_bitCount_95d88 48 = .ok (.lload_n 0, 1) := by decide +kernel
theorem dJ13_bitCount_95d88_49 : decode cJ13_bitCount_95d88 49 = .ok (.lload_n 0, 1) := by decide +kernel
theorem dJ13_bitCount_95d88_50 : decode cJ13_bitCount_95d88 50 = .ok (.bipush 32, 2) := by decide +kernel
theorem dJ13_bitCount_95d88_52 : decode cJ13_bitCount_95d88 52 = .ok (.lushr, 1) := by decide +kernel
theorem dJ13_bitCount_95d88_53 : decode cJ13_bitCount_95d88 53 = .ok (.ladd, 1) := by decide +kernel
theorem dJ13_bitCount_95d88_54 : decode cJ13_bitCount_95d88 54 = .ok (.lstore_n 0, 1) := by decide +kernel
theorem dJ13_bitCount_95d88_55 : decode cJ13_bitCount_95d88 55 = .ok (.lload_n 0, 1) := by decide +kernel
theorem dJ13_bitCount_95d88_56 : decode cJ13_bitCount_95d88 56 = .ok (.l2i, 1) := by decide +kernel
theorem dJ13_bitCount_95d88_57 : decode cJ13_bitCount_95d88 57 = .ok (.bipush 127, 2) := by decide +kernel
theorem dJ13_bitCount_95d88_59 : decode cJ13_bitCount_95d88 59 = .ok (.iand, 1) := by decide +kernel
theorem dJ13_bitCount_95d88_60 : decode cJ13_bitCount_95d88 60 = .ok (.ireturn, 1) := by decide +kernel
theorem hd_J13_bitCount_95d88 : yJ13_bitCount_95d88.cls ≠ "java/lang/invoke/MethodHandle" ∧ yJ13_bitCount_95d88.cls ≠ "java/lang/invoke/VarHandle" ∧ (parseMethodDescriptor yJ13_bitCount_95d88.desc).map (fun d => d.parameters.length) = some 1 := by decide +kernel
abbrev rm_J13_bitCount_95d88 : Room := { frames := 0, cells := 0, slots := 0, locals := 0 }
set_option maxHeartbeats 4000000 in
set_option maxRecDepth 100000 in
theorem c_J13_bitCount_95d88 (l : Launch) (G : Gx) (i : Int64) : Mt l G yJ13_bitCount_95d88 cJ13_bitCount_95d88 2 (some .int) rm_J13_bitCount_95d88 [.long i] [] (D1 (some (.int (popF i))) []) := by
  refine Mt.of (by decide) (Nat.le_of_ble_eq_true rfl) ?_
  intro K hl9 hn9 hR
  show V K G cJ13_bitCount_95d88 RJ13 2 rm_J13_bitCount_95d88 0 0 0 [(0, .long i)] [] []
  refine v_lload_n dJ13_bitCount_95d88_0 rfl 0 rfl ?_
  refine v_lload_n dJ13_bitCount_95d88_1 rfl 0 rfl ?_
  refine v_iconst (v := nI 1) dJ13_bitCount_95d88_2 (by decide) ?_
  refine v_lushr dJ13_bitCount_95d88_3 ?_
  refine v_ldc2 (v := (6148914691236517205)) dJ13_bitCount_95d88_4 kw_389 ?_
  refine v_land dJ13_bitCount_95d88_7 ?_
  refine v_lsub dJ13_bitCount_95d88_8 ?_
  refine v_lstore_n (lv' := [(0, .long (i - (((i.toUInt64 >>> ((nI 1).toInt64.toUInt64 &&& Int64.toUInt64 63)).toInt64) &&& (6148914691236517205 : Int64))))]) dJ13_bitCount_95d88_9 rfl (by decide) rfl ?_
  refine v_lload_n dJ13_bitCount_95d88_10 rfl 0 rfl ?_
  refine v_ldc2 (v := (3689348814741910323)) dJ13_bitCount_95d88_11 kw_390 ?_
  refine v_land dJ13_bitCount_95d88_14 ?_
  refine v_lload_n dJ13_bitCount_95d88_15 rfl 0 rfl ?_
  refine v_iconst (v := nI 2) dJ13_bitCount_95d88_16 (by decide) ?_
  refine v_lushr dJ13_bitCount_95d88_17 ?_
  refine v_ldc2 (v := (3689348814741910323)) dJ13_bitCount_95d88_18 kw_390 ?_
  refine v_land dJ13_bitCount_95d88_21 ?_
  refine v_ladd dJ13_bitCount_95d88_22 ?_
  refine v_lstore_n (lv' := [(0, .long (((i - (((i.toUInt64 >>> ((nI 1).toInt64.toUInt64 &&& Int64.toUInt64 63)).toInt64) &&& (6148914691236517205 : Int64))) &&& (3689348814741910323 : Int64)) + ((((i - (((i.toUInt64 >>> ((nI 1).toInt64.toUInt64 &&& Int64.toUInt64 63)).toInt64) &&& (6148914691236517205 : Int64))).toUInt64 >>> ((nI 2).toInt64.toUInt64 &&& Int64.toUInt64 63)).toInt64) &&& (3689348814741910323 : Int64))))]) dJ13_bitCount_95d88_23 rfl (by decide) rfl ?_
  refine v_lload_n dJ13_bitCount_95d88_24 rfl 0 rfl ?_
  refine v_lload_n dJ13_bitCount_95d88_25 rfl 0 rfl ?_
  refine v_iconst (v := nI 4) dJ13_bitCount_95d88_26 (by decide) ?_
  refine v_lushr dJ13_bitCount_95d88_27 ?_
  refine v_ladd dJ13_bitCount_95d88_28 ?_
  refine v_ldc2 (v := (1085102592571150095)) dJ13_bitCount_95d88_29 kw_391 ?_
  refine v_land dJ13_bitCount_95d88_32 ?_
  refine v_lstore_n (lv' := [(0, .long (((((i - (((i.toUInt64 >>> ((nI 1).toInt64.toUInt64 &&& Int64.toUInt64 63)).toInt64) &&& (6148914691236517205 : Int64))) &&& (3689348814741910323 : Int64)) + ((((i - (((i.toUInt64 >>> ((nI 1).toInt64.toUInt64 &&& Int64.toUInt64 63)).toInt64) &&& (6148914691236517205 : Int64))).toUInt64 >>> ((nI 2).toInt64.toUInt64 &&& Int64.toUInt64 63)).toInt64) &&& (3689348814741910323 : Int64))) + (((((i - (((i.toUInt64 >>> ((nI 1).toInt64.toUInt64 &&& Int64.toUInt64 63)).toInt64) &&& (6148914691236517205 : Int64))) &&& (3689348814741910323 : Int64)) + ((((i - (((i.toUInt64 >>> ((nI 1).toInt64.toUInt64 &&& Int64.toUInt64 63)).toInt64) &&& (6148914691236517205 : Int64))).toUInt64 >>> ((nI 2).toInt64.toUInt64 &&& Int64.toUInt64 63)).toInt64) &&& (3689348814741910323 : Int64))).toUInt64 >>> ((nI 4).toInt64.toUInt64 &&& Int64.toUInt64 63)).toInt64)) &&& (1085102592571150095 : Int64)))]) dJ13_bitCount_95d88_33 rfl (by decide) rfl ?_
  refine v_lload_n dJ13_bitCount_95d88_34 rfl 0 rfl ?_
  refine v_lload_n dJ13_bitCount_95d88_35 rfl 0 rfl ?_
  refine v_bipush (v := nI 8) dJ13_bitCount_95d88_36 (by decide) ?_
  refine v_lushr dJ13_bitCount_95d88_38 ?_
  refine v_ladd dJ13_bitCount_95d88_39 ?_
  refine v_lstore_n (lv' := [(0, .long ((((((i - (((i.toUInt64 >>> ((nI 1).toInt64.toUInt64 &&& Int64.toUInt64 63)).toInt64) &&& (6148914691236517205 : Int64))) &&& (3689348814741910323 : Int64)) + ((((i - (((i.toUInt64 >>> ((nI 1).toInt64.toUInt64 &&& Int64.toUInt64 63)).toInt64) &&& (6148914691236517205 : Int64))).toUInt64 >>> ((nI 2).toInt64.toUInt64 &&& Int64.toUInt64 63)).toInt64) &&& (3689348814741910323 : Int64))) + (((((i - (((i.toUInt64 >>> ((nI 1).toInt64.toUInt64 &&& Int64.toUInt64 63)).toInt64) &&& (6148914691236517205 : Int64))) &&& (3689348814741910323 : Int64)) + ((((i - (((i.toUInt64 >>> ((nI 1).toInt64.toUInt64 &&& Int64.toUInt64 63)).toInt64) &&& (6148914691236517205 : Int64))).toUInt64 >>> ((nI 2).toInt64.toUInt64 &&& Int64.toUInt64 63)).toInt64) &&& (3689348814741910323 : Int64))).toUInt64 >>> ((nI 4).toInt64.toUInt64 &&& Int64.toUInt64 63)).toInt64)) &&& (1085102592571150095 : Int64)) + (((((((i - (((i.toUInt64 >>> ((nI 1).toInt64.toUInt64 &&& Int64.toUInt64 63)).toInt64) &&& (6148914691236517205 : Int64))) &&& (3689348814741910323 : Int64)) + ((((i - (((i.toUInt64 >>> ((nI 1).toInt64.toUInt64 &&& Int64.toUInt64 63)).toInt64) &&& (6148914691236517205 : Int64))).toUInt64 >>> ((nI 2).toInt64.toUInt64 &&& Int64.toUInt64 63)).toInt64) &&& (3689348814741910323 : Int64))) + (((((i - (((i.toUInt64 >>> ((nI 1).toInt64.toUInt64 &&& Int64.toUInt64 63)).toInt64) &&& (6148914691236517205 : Int64))) &&& (3689348814741910323 : Int64)) + ((((i - (((i.toUInt64 >>> ((nI 1).toInt64.toUInt64 &&& Int64.toUInt64 63)).toInt64) &&& (6148914691236517205 : Int64))).toUInt64 >>> ((nI 2).toInt64.toUInt64 &&& Int64.toUInt64 63)).toInt64) &&& (3689348814741910323 : Int64))).toUInt64 >>> ((nI 4).toInt64.toUInt64 &&& Int64.toUInt64 63)).toInt64)) &&& (1085102592571150095 : Int64)).toUInt64 >>> ((nI 8).toInt64.toUInt64 &&& Int64.toUInt64 63)).toInt64)))]) dJ13_bitCount_95d88_40 rfl (by decide) rfl ?_
  refine v_lload_n dJ13_bitCount_95d88_41 rfl 0 rfl ?_
  refine v_lload_n dJ13_bitCount_95d88_42 rfl 0 rfl ?_
  refine v_bipush (v := nI 16) dJ13_bitCount_95d88_43 (by decide) ?_
  refine v_lushr dJ13_bitCount_95d88_45 ?_
  refine v_ladd dJ13_bitCount_95d88_46 ?_
  refine v_lstore_n (lv' := [(0, .long (((((((i - (((i.toUInt64 >>> ((nI 1).toInt64.toUInt64 &&& Int64.toUInt64 63)).toInt64) &&& (6148914691236517205 : Int64))) &&& (3689348814741910323 : Int64)) + ((((i - (((i.toUInt64 >>> ((nI 1).toInt64.toUInt64 &&& Int64.toUInt64 63)).toInt64) &&& (6148914691236517205 : Int64))).toUInt64 >>> ((nI 2).toInt64.toUInt64 &&& Int64.toUInt64 63)).toInt64) &&& (3689348814741910323 : Int64))) + (((((i - (((i.toUInt64 >>> ((nI 1).toInt64.toUInt64 &&& Int64.toUInt64 63)).toInt64) &&& (6148914691236517205 : Int64))) &&& (3689348814741910323 : Int64)) + ((((i - (((i.toUInt64 >>> ((nI 1).toInt64.toUInt64 &&& Int64.toUInt64 63)).toInt64) &&& (6148914691236517205 : Int64))).toUInt64 >>> ((nI 2).toInt64.toUInt64 &&& Int64.toUInt64 63)).toInt64) &&& (3689348814741910323 : Int64))).toUInt64 >>> ((nI 4).toInt64.toUInt64 &&& Int64.toUInt64 63)).toInt64)) &&& (1085102592571150095 : Int64)) + (((((((i - (((i.toUInt64 >>> ((nI 1).toInt64.toUInt64 &&& Int64.toUInt64 63)).toInt64) &&& (6148914691236517205 : Int64))) &&& (3689348814741910323 : Int64)) + ((((i - (((i.toUInt64 >>> ((nI 1).toInt64.toUInt64 &&& Int64.toUInt64 63)).toInt64) &&& (6148914691236517205 : Int64))).toUInt64 >>> ((nI 2).toInt64.toUInt64 &&& Int64.toUInt64 63)).toInt64) &&& (3689348814741910323 : Int64))) + (((((i - (((i.toUInt64 >>> ((nI 1).toInt64.toUInt64 &&& Int64.toUInt64 63)).toInt64) &&& (6148914691236517205 : Int64))) &&& (3689348814741910323 : Int64)) + ((((i - (((i.toUInt64 >>> ((nI 1).toInt64.toUInt64 &&& Int64.toUInt64 63)).toInt64) &&& (6148914691236517205 : Int64))).toUInt64 >>> ((nI 2).toInt64.toUInt64 &&& Int64.toUInt64 63)).toInt64) &&& (3689348814741910323 : Int64))).toUInt64 >>> ((nI 4).toInt64.toUInt64 &&& Int64.toUInt64 63)).toInt64)) &&& (1085102592571150095 : Int64)).toUInt64 >>> ((nI 8).toInt64.toUInt64 &&& Int64.toUInt64 63)).toInt64)) + ((((((((i - (((i.toUInt64 >>> ((nI 1).toInt64.toUInt64 &&& Int64.toUInt64 63)).toInt64) &&& (6148914691236517205 : Int64))) &&& (3689348814741910323 : Int64)) + ((((i - (((i.toUInt64 >>> ((nI 1).toInt64.toUInt64 &&& Int64.toUInt64 63)).toInt64) &&& (6148914691236517205 : Int64))).toUInt64 >>> ((nI 2).toInt64.toUInt64 &&& Int64.toUInt64 63)).toInt64) &&& (3689348814741910323 : Int64))) + (((((i - (((i.toUInt64 >>> ((nI 1).toInt64.toUInt64 &&& Int64.toUInt64 63)).toInt64) &&& (6148914691236517205 : Int64))) &&& (3689348814741910323 : Int64)) + ((((i - (((i.toUInt64 >>> ((nI 1).toInt64.toUInt64 &&& Int64.toUInt64 63)).toInt64) &&& (6148914691236517205 : Int64))).toUInt64 >>> ((nI 2).toInt64.toUInt64 &&& Int64.toUInt64 63)).toInt64) &&& (3689348814741910323 : Int64))).toUInt64 >>> ((nI 4).toInt64.toUInt64 &&& Int64.toUInt64 63)).toInt64)) &&& (1085102592571150095 : Int64)) + (((((((i - (((i.toUInt64 >>> ((nI 1).toInt64.toUInt64 &&& Int64.toUInt64 63)).toInt64) &&& (6148914691236517205 : Int64))) &&& (3689348814741910323 : Int64)) + ((((i - (((i.toUInt64 >>> ((nI 1).toInt64.toUInt64 &&& Int64.toUInt64 63)).toInt64) &&& (6148914691236517205 : Int64))).toUInt64 >>> ((nI 2).toInt64.toUInt64 &&& Int64.toUInt64 63)).toInt64) &&& (3689348814741910323 : Int64))) + (((((i - (((i.toUInt64 >>> ((nI 1).toInt64.toUInt64 &&& Int64.toUInt64 63)).toInt64) &&& (6148914691236517205 : Int64))) &&& (3689348814741910323 : Int64)) + ((((i - (((i.toUInt64 >>> ((nI 1).toInt64.toUInt64 &&& Int64.toUInt64 63)).toInt64) &&& (6148914691236517205 : Int64))).toUInt64 >>> ((nI 2).toInt64.toUInt64 &&& Int64.toUInt64 63)).toInt64) &&& (3689348814741910323 : Int64))).toUInt64 >>> ((nI 4).toInt64.toUInt64 &&& Int64.toUInt64 63)).toInt64)) &&& (1085102592571150095 : Int64)).toUInt64 >>> ((nI 8).toInt64.toUInt64 &&& Int64.toUInt64 63)).toInt64)).toUInt64 >>> ((nI 16).toInt64.toUInt64 &&& Int64.toUInt64 63)).toInt64)))]) dJ13_bitCount_95d88_47 rfl (by decide) rfl ?_
  refine v_lload_n dJ13_bitCount_95d88_48 rfl 0 rfl ?_
  refine v_lload_n dJ13_bitCount_95d88_49 rfl 0 rfl ?_
  refine v_bipush (v := nI 32) dJ13_bitCount_95d88_50 (by decide) ?_
  refine v_lushr dJ13_bitCount_95d88_52 ?_
  refine v_ladd dJ13_bitCount_95d88_53 ?_
  refine v_lstore_n (lv' := [(0, .long ((((((((i - (((i.toUInt64 >>> ((nI 1).toInt64.toUInt64 &&& Int64.toUInt64 63)).toInt64) &&& (6148914691236517205 : Int64))) &&& (3689348814741910323 : Int64)) + ((((i - (((i.toUInt64 >>> ((nI 1).toInt64.toUInt64 &&& Int64.toUInt64 63)).toInt64) &&& (6148914691236517205 : Int64))).toUInt64 >>> ((nI 2).toInt64.toUInt64 &&& Int64.toUInt64 63)).toInt64) &&& (3689348814741910323 : Int64))) + (((((i - (((i.toUInt64 >>> ((nI 1).toInt64.toUInt64 &&& Int64.toUInt64 63)).toInt64) &&& (6148914691236517205 : Int64))) &&& (3689348814741910323 : Int64)) + ((((i - (((i.toUInt64 >>> ((nI 1).toInt64.toUInt64 &&& Int64.toUInt64 63)).toInt64) &&& (6148914691236517205 : Int64))).toUInt64 >>> ((nI 2).toInt64.toUInt64 &&& Int64.toUInt64 63)).toInt64) &&& (3689348814741910323 : Int64))).toUInt64 >>> ((nI 4).toInt64.toUInt64 &&& Int64.toUInt64 63)).toInt64)) &&& (1085102592571150095 : Int64)) + (((((((i - (((i.toUInt64 >>> ((nI 1).toInt64.toUInt64 &&& Int64.toUInt64 63)).toInt64) &&& (6148914691236517205 : Int64))) &&& (3689348814741910323 : Int64)) + ((((i - (((i.toUInt64 >>> ((nI 1).toInt64.toUInt64 &&& Int64.toUInt64 63)).toInt64) &&& (6148914691236517205 : Int64))).toUInt64 >>> ((nI 2).toInt64.toUInt64 &&& Int64.toUInt64 63)).toInt64) &&& (3689348814741910323 : Int64))) + (((((i - (((i.toUInt64 >>> ((nI 1).toInt64.toUInt64 &&& Int64.toUInt64 63)).toInt64) &&& (6148914691236517205 : Int64))) &&& (3689348814741910323 : Int64)) + ((((i - (((i.toUInt64 >>> ((nI 1).toInt64.toUInt64 &&& Int64.toUInt64 63)).toInt64) &&& (6148914691236517205 : Int64))).toUInt64 >>> ((nI 2).toInt64.toUInt64 &&& Int64.toUInt64 63)).toInt64) &&& (3689348814741910323 : Int64))).toUInt64 >>> ((nI 4).toInt64.toUInt64 &&& Int64.toUInt64 63)).toInt64)) &&& (1085102592571150095 : Int64)).toUInt64 >>> ((nI 8).toInt64.toUInt64 &&& Int64.toUInt64 63)).toInt64)) + ((((((((i - (((i.toUInt64 >>> ((nI 1).toInt64.toUInt64 &&& Int64.toUInt64 63)).toInt64) &&& (6148914691236517205 : Int64))) &&& (3689348814741910323 : Int64)) + ((((i - (((i.toUInt64 >>> ((nI 1).toInt64.toUInt64 &&& Int64.toUInt64 63)).toInt64) &&& (6148914691236517205 : Int64))).toUInt64 >>> ((nI 2).toInt64.toUInt64 &&& Int64.toUInt64 63)).toInt64) &&& (3689348814741910323 : Int64))) + (((((i - (((i.toUInt64 >>> ((nI 1).toInt64.toUInt64 &&& Int64.toUInt64 63)).toInt64) &&& (6148914691236517205 : Int64))) &&& (3689348814741910323 : Int64)) + ((((i - (((i.toUInt64 >>> ((nI 1).toInt64.toUInt64 &&& Int64.toUInt64 63)).toInt64) &&& (6148914691236517205 : Int64))).toUInt64 >>> ((nI 2).toInt64.toUInt64 &&& Int64.toUInt64 63)).toInt64) &&& (3689348814741910323 : Int64))).toUInt64 >>> ((nI 4).toInt64.toUInt64 &&& Int64.toUInt64 63)).toInt64)) &&& (1085102592571150095 : Int64)) + (((((((i - (((i.toUInt64 >>> ((nI 1).toInt64.toUInt64 &&& Int64.toUInt64 63)).toInt64) &&& (6148914691236517205 : Int64))) &&& (3689348814741910323 : Int64)) + ((((i - (((i.toUInt64 >>> ((nI 1).toInt64.toUInt64 &&& Int64.toUInt64 63)).toInt64) &&& (6148914691236517205 : Int64))).toUInt64 >>> ((nI 2).toInt64.toUInt64 &&& Int64.toUInt64 63)).toInt64) &&& (3689348814741910323 : Int64))) + (((((i - (((i.toUInt64 >>> ((nI 1).toInt64.toUInt64 &&& Int64.toUInt64 63)).toInt64) &&& (6148914691236517205 : Int64))) &&& (3689348814741910323 : Int64)) + ((((i - (((i.toUInt64 >>> ((nI 1).toInt64.toUInt64 &&& Int64.toUInt64 63)).toInt64) &&& (6148914691236517205 : Int64))).toUInt64 >>> ((nI 2).toInt64.toUInt64 &&& Int64.toUInt64 63)).toInt64) &&& (3689348814741910323 : Int64))).toUInt64 >>> ((nI 4).toInt64.toUInt64 &&& Int64.toUInt64 63)).toInt64)) &&& (1085102592571150095 : Int64)).toUInt64 >>> ((nI 8).toInt64.toUInt64 &&& Int64.toUInt64 63)).toInt64)).toUInt64 >>> ((nI 16).toInt64.toUInt64 &&& Int64.toUInt64 63)).toInt64)) + (((((((((i - (((i.toUInt64 >>> ((nI 1).toInt64.toUInt64 &&& Int64.toUInt64 63)).toInt64) &&& (6148914691236517205 : Int64))) &&& (3689348814741910323 : Int64)) + ((((i - (((i.toUInt64 >>> ((nI 1).toInt64.toUInt64 &&& Int64.toUInt64 63)).toInt64) &&& (6148914691236517205 : Int64))).toUInt64 >>> ((nI 2).toInt64.toUInt64 &&& Int64.toUInt64 63)).toInt64) &&& (3689348814741910323 : Int64))) + (((((i - (((i.toUInt64 >>> ((nI 1).toInt64.toUInt64 &&& Int64.toUInt64 63)).toInt64) &&& (6148914691236517205 : Int64))) &&& (3689348814741910323 : Int64)) + ((((i - (((i.toUInt64 >>> ((nI 1).toInt64.toUInt64 &&& Int64.toUInt64 63)).toInt64) &&& (6148914691236517205 : Int64))).toUInt64 >>> ((nI 2).toInt64.toUInt64 &&& Int64.toUInt64 63)).toInt64) &&& (3689348814741910323 : Int64))).toUInt64 >>> ((nI 4).toInt64.toUInt64 &&& Int64.toUInt64 63)).toInt64)) &&& (1085102592571150095 : Int64)) + (((((((i - (((i.toUInt64 >>> ((nI 1).toInt64.toUInt64 &&& Int64.toUInt64 63)).toInt64) &&& (6148914691236517205 : Int64))) &&& (3689348814741910323 : Int64)) + ((((i - (((i.toUInt64 >>> ((nI 1).toInt64.toUInt64 &&& Int64.toUInt64 63)).toInt64) &&& (6148914691236517205 : Int64))).toUInt64 >>> ((nI 2).toInt64.toUInt64 &&& Int64.toUInt64 63)).toInt64) &&& (3689348814741910323 : Int64))) + (((((i - (((i.toUInt64 >>> ((nI 1).toInt64.toUInt64 &&& Int64.toUInt64 63)).toInt64) &&& (6148914691236517205 : Int64))) &&& (3689348814741910323 : Int64)) + ((((i - (((i.toUInt64 >>> ((nI 1).toInt64.toUInt64 &&& Int64.toUInt64 63)).toInt64) &&& (6148914691236517205 : Int64))).toUInt64 >>> ((nI 2).toInt64.toUInt64 &&& Int64.toUInt64 63)).toInt64) &&& (3689348814741910323 : Int64))).toUInt64 >>> ((nI 4).toInt64.toUInt64 &&& Int64.toUInt64 63)).toInt64)) &&& (1085102592571150095 : Int64)).toUInt64 >>> ((nI 8).toInt64.toUInt64 &&& Int64.toUInt64 63)).toInt64)) + ((((((((i - (((i.toUInt64 >>> ((nI 1).toInt64.toUInt64 &&& Int64.toUInt64 63)).toInt64) &&& (6148914691236517205 : Int64))) &&& (3689348814741910323 : Int64)) + ((((i - (((i.toUInt64 >>> ((nI 1).toInt64.toUInt64 &&& Int64.toUInt64 63)).toInt64) &&& (6148914691236517205 : Int64))).toUInt64 >>> ((nI 2).toInt64.toUInt64 &&& Int64.toUInt64 63)).toInt64) &&& (3689348814741910323 : Int64))) + (((((i - (((i.toUInt64 >>> ((nI 1).toInt64.toUInt64 &&& Int64.toUInt64 63)).toInt64) &&& (6148914691236517205 : Int64))) &&& (3689348814741910323 : Int64)) + ((((i - (((i.toUInt64 >>> ((nI 1).toInt64.toUInt64 &&& Int64.toUInt64 63)).toInt64) &&& (6148914691236517205 : Int64))).toUInt64 >>> ((nI 2).toInt64.toUInt64 &&& Int64.toUInt64 63)).toInt64) &&& (3689348814741910323 : Int64))).toUInt64 >>> ((nI 4).toInt64.toUInt64 &&& Int64.toUInt64 63)).toInt64)) &&& (1085102592571150095 : Int64)) + (((((((i - (((i.toUInt64 >>> ((nI 1).toInt64.toUInt64 &&& Int64.toUInt64 63)).toInt64) &&& (6148914691236517205 : Int64))) &&& (3689348814741910323 : Int64)) + ((((i - (((i.toUInt64 >>> ((nI 1).toInt64.toUInt64 &&& Int64.toUInt64 63)).toInt64) &&& (6148914691236517205 : Int64))).toUInt64 >>> ((nI 2).toInt64.toUInt64 &&& Int64.toUInt64 63)).toInt64) &&& (3689348814741910323 : Int64))) + (((((i - (((i.toUInt64 >>> ((nI 1).toInt64.toUInt64 &&& Int64.toUInt64 63)).toInt64) &&& (6148914691236517205 : Int64))) &&& (3689348814741910323 : Int64)) + ((((i - (((i.toUInt64 >>> ((nI 1).toInt64.toUInt64 &&& Int64.toUInt64 63)).toInt64) &&& (6148914691236517205 : Int64))).toUInt64 >>> ((nI 2).toInt64.toUInt64 &&& Int64.toUInt64 63)).toInt64) &&& (3689348814741910323 : Int64))).toUInt64 >>> ((nI 4).toInt64.toUInt64 &&& Int64.toUInt64 63)).toInt64)) &&& (1085102592571150095 : Int64)).toUInt64 >>> ((nI 8).toInt64.toUInt64 &&& Int64.toUInt64 63)).toInt64)).toUInt64 >>> ((nI 16).toInt64.toUInt64 &&& Int64.toUInt64 63)).toInt64)).toUInt64 >>> ((nI 32).toInt64.toUInt64 &&& Int64.toUInt64 63)).toInt64)))]) dJ13_bitCount_95d88_54 rfl (by decide) rfl ?_
  refine v_lload_n dJ13_bitCount_95d88_55 rfl 0 rfl ?_
  refine v_l2i dJ13_bitCount_95d88_56 ?_
  refine v_bipush (v := nI 127) dJ13_bitCount_95d88_57 (by decide) ?_
  refine v_iand dJ13_bitCount_95d88_59 ?_
  exact v_iret hR dJ13_bitCount_95d88_60 (by exact ⟨rfl, rfl⟩)
theorem dX2_init_0 : decode cX2_init 0 = .ok (.aload_n 0, 1) := by decide +kernel
theorem dX2_init_1 : decode cX2_init 1 = .ok (.invokespecial 1, 3) := by decide +kernel
theorem dX2_init_4 : decode cX2_init 4 = .ok (.aload_n 0, 1) := by decide +kernel
theorem dX2_init_5 : decode cX2_init 5 = .ok (.iload_n 1, 1) := by decide +kernel
theorem dX2_init_6 : decode cX2_init 6 = .ok (.ifCond .le 9, 3) := by decide +kernel
theorem dX2_init_9 : decode cX2_init 9 = .ok (.iconst 2, 1) := by decide +kernel
theorem dX2_init_10 : decode cX2_init 10 = .ok (.iload_n 1, 1) := by decide +kernel
theorem dX2_init_11 : decode cX2_init 11 = .ok (.imul, 1) := by decide +kernel
theorem dX2_init_12 : decode cX2_init 12 = .ok (.goto 4, 3) := by decide +kernel
theorem dX2_init_15 : decode cX2_init 15 = .ok (.iconst 0, 1) := by decide +kernel
theorem dX2_init_16 : decode cX2_init 16 = .ok (.newarray .long, 2) := by decide +kernel
theorem dX2_init_18 : decode cX2_init 18 = .ok (.putfield 7, 3) := by decide +kernel
theorem dX2_init_21 : decode cX2_init 21 = .ok (.return_, 1) := by decide +kernel
theorem hd_X2_init : yX2_init.cls ≠ "java/lang/invoke/MethodHandle" ∧ yX2_init.cls ≠ "java/lang/invoke/VarHandle" ∧ (parseMethodDescriptor yX2_init.desc).map (fun d => d.parameters.length) = some 1 := by decide +kernel
abbrev rm_X2_init_4 : Room := { frames := 1, cells := 1, slots := 8, locals := 12 }
set_option maxHeartbeats 4000000 in
set_option maxRecDepth 100000 in
theorem c_X2_init_4 (l : Launch) (G : Gx) (o : Nat) : Mt l G yX2_init cX2_init 2 none rm_X2_init_4 [.ref o, .int (nI 4)] [(o, .inr (1, [.null]))] (E1 (α := (Nat)) (fun u9 => none) (fun u9 => [(o, .inr (1, [.ref u9])), (u9, .inl (G.2.1 2, 8, .inr (.inl (fun _ => 0))))]) (fun u9 => True)) := by
  refine Mt.of (by decide) (Nat.le_of_ble_eq_true rfl) ?_
  intro K hl9 hn9 hR
  show V K G cX2_init RX2 2 rm_X2_init_4 0 0 0 [(0, .ref o), (1, .int (nI 4))] [] [(o, .inr (1, [.null]))]
  refine v_aload_n dX2_init_0 rfl 0 rfl ?_
  refine v_objInit dX2_init_1 kw_133 kw_67 kw_68 (Nat.le_of_ble_eq_true rfl) (Nat.le_of_ble_eq_true rfl) ?_
  refine v_aload_n dX2_init_4 rfl 0 rfl ?_
  refine v_iload_n dX2_init_5 rfl 1 rfl ?_
  refine n_if_le (a := 4) (tgt := 15) dX2_init_6 (by decide) (by decide) (fun c => absurd c (by decide)) (fun _ => ?_)
  refine v_iconst (v := nI 2) dX2_init_9 (by decide) ?_
  refine v_iload_n dX2_init_10 rfl 1 rfl ?_
  refine n_imul (a := 2) (b := 4) (z := 8) dX2_init_11 rfl ?_
  refine v_goto (tgt := 16) dX2_init_12 (by decide) ?_
  refine v_newa (z := 8) (t := .long) (at0 := .long) (a0 := (8, .inr (.inl (fun _ => 0)))) 2 dX2_init_16 rfl rfl (fun _ h => nomatch h) kw_ac_J (fun _ => rfl) (nI_pos (by omega)) (nI_clamp (by omega)) (by decide) (by decide) (by decide) (fun q1_16 => ?_)
  show V K G cX2_init RX2 2 rm_X2_init_4 1 8 18 [(0, .ref o), (1, .int (nI 4))] [.ref q1_16, .ref o] [(o, .inr (1, [.null])), (q1_16, .inl (G.2.1 2, 8, .inr (.inl (fun _ => 0))))]
  refine v_putF (ref := "Sealhouse$CellSets") (C := RX2) (T := TX2) (N := 1) (ty0 := tyX2) (t := tyX2 0) (ws' := [(o, .inr (1, [.ref q1_16])), (q1_16, .inl (G.2.1 2, 8, .inr (.inl (fun _ => 0))))]) 0 0 hn9 dX2_init_18 rfl rfl gin_X2 tyX2_ok nmX2 (by decide) kw_134 rfl rfl rfl (by decide +kernel) rfl rfl (Nat.le_of_ble_eq_true rfl) rfl ?_
  exact v_vret hR dX2_init_21 ⟨(q1_16), rfl, rfl, by trivial⟩
abbrev rm_X2_init_1 : Room := { frames := 1, cells := 1, slots := 2, locals := 12 }
set_option maxHeartbeats 4000000 in
set_option maxRecDepth 100000 in
theorem c_X2_init_1 (l : Launch) (G : Gx) (o : Nat) : Mt l G yX2_init cX2_init 2 none rm_X2_init_1 [.ref o, .int (nI 1)] [(o, .inr (1, [.null]))] (E1 (α := (Nat)) (fun u9 => none) (fun u9 => [(o, .inr (1, [.ref u9])), (u9, .inl (G.2.1 2, 2, .inr (.inl (fun _ => 0))))]) (fun u9 => True)) := by
  refine Mt.of (by decide) (Nat.le_of_ble_eq_true rfl) ?_
  intro K hl9 hn9 hR
  show V K G cX2_init RX2 2 rm_X2_init_1 0 0 0 [(0, .ref o), (1, .int (nI 1))] [] [(o, .inr (1, [.null]))]
  refine v_aload_n dX2_init_0 rfl 0 rfl ?_
  refine v_objInit dX2_init_1 kw_133 kw_67 kw_68 (Nat.le_of_ble_eq_true rfl) (Nat.le_of_ble_eq_true rfl) ?_
  refine v_aload_n dX2_init_4 rfl 0 rfl ?_
  refine v_iload_n dX2_init_5 rfl 1 rfl ?_
  refine n_if_le (a := 1) (tgt := 15) dX2_init_6 (by decide) (by decide) (fun c => absurd c (by decide)) (fun _ => ?_)
  refine v_iconst (v := nI 2) dX2_init_9 (by decide) ?_
  refine v_iload_n dX2_init_10 rfl 1 rfl ?_
  refine n_imul (a := 2) (b := 1) (z := 2) dX2_init_11 rfl ?_
  refine v_goto (tgt := 16) dX2_init_12 (by decide) ?_
  refine v_newa (z := 2) (t := .long) (at0 := .long) (a0 := (2, .inr (.inl (fun _ => 0)))) 2 dX2_init_16 rfl rfl (fun _ h => nomatch h) kw_ac_J (fun _ => rfl) (nI_pos (by omega)) (nI_clamp (by omega)) (by decide) (by decide) (by decide) (fun q1_16 => ?_)
  show V K G cX2_init RX2 2 rm_X2_init_1 1 2 18 [(0, .ref o), (1, .int (nI 1))] [.ref q1_16, .ref o] [(o, .inr (1, [.null])), (q1_16, .inl (G.2.1 2, 2, .inr (.inl (fun _ => 0))))]
  refine v_putF (ref := "Sealhouse$CellSets") (C := RX2) (T := TX2) (N := 1) (ty0 := tyX2) (t := tyX2 0) (ws' := [(o, .inr (1, [.ref q1_16])), (q1_16, .inl (G.2.1 2, 2, .inr (.inl (fun _ => 0))))]) 0 0 hn9 dX2_init_18 rfl rfl gin_X2 tyX2_ok nmX2 (by decide) kw_134 rfl rfl rfl (by decide +kernel) rfl rfl (Nat.le_of_ble_eq_true rfl) rfl ?_
  exact v_vret hR dX2_init_21 ⟨(q1_16), rfl, rfl, by trivial⟩
theorem dX2_half_0 : decode cX2_half 0 = .ok (.iload_n 1, 1) := by decide +kernel
theorem dX2_half_1 : decode cX2_half 1 = .ok (.ifCond .lt 21, 3) := by decide +kernel
theorem dX2_half_4 : decode cX2_half 4 = .ok (.iload_n 1, 1) := by decide +kernel
theorem dX2_half_5 : decode cX2_half 5 = .ok (.aload_n 0, 1) := by decide +kernel
theorem dX2_half_6 : decode cX2_half 6 = .ok (.getfield 7, 3) := by decide +kernel
theorem dX2_half_9 : decode cX2_half 9 = .ok (.arraylength, 1) := by decide +kernel
theorem dX2_half_10 : decode cX2_half 10 = .ok (.if_icmp .ge 12, 3) := by decide +kernel
theorem dX2_half_13 : decode cX2_half 13 = .ok (.aload_n 0, 1) := by decide +kernel
theorem dX2_half_14 : decode cX2_half 14 = .ok (.getfield 7, 3) := by decide +kernel
theorem dX2_half_17 : decode cX2_half 17 = .ok (.iload_n 1, 1) := by decide +kernel
theorem dX2_half_18 : decode cX2_half 18 = .ok (.laload, 1) := by decide +kernel
theorem dX2_half_19 : decode cX2_half 19 = .ok (.goto 4, 3) := by decide +kernel
theorem dX2_half_22 : decode cX2_half 22 = .ok (.lconst 0, 1) := by decide +kernel
theorem dX2_half_23 : decode cX2_half 23 = .ok (.lreturn, 1) := by decide +kernel
theorem hd_X2_half : yX2_half.cls ≠ "java/lang/invoke/MethodHandle" ∧ yX2_half.cls ≠ "java/lang/invoke/VarHandle" ∧ (parseMethodDescriptor yX2_half.desc).map (fun d => d.parameters.length) = some 1 := by decide +kernel
abbrev rm_X2_half : Room := { frames := 0, cells := 0, slots := 0, locals := 0 }
set_option maxHeartbeats 4000000 in
set_option maxRecDepth 100000 in
theorem c_X2_half (l : Launch) (G : Gx) (o : Nat) (a : Nat) (z : Nat) (h : Nat → Int64) (i : Nat) (hz : z ≤ 2000) (hi : i < z) : Mt l G yX2_half cX2_half 2 (some .long) rm_X2_half [.ref o, .int (nI i)] [(o, .inr (1, [.ref a])), (a, .inl (G.2.1 2, z, .inr (.inl h)))] (D1 (some (.long (h i))) [(o, .inr (1, [.ref a])), (a, .inl (G.2.1 2, z, .inr (.inl h)))]) := by
  refine Mt.of (by decide) (Nat.le_of_ble_eq_true rfl) ?_
  intro K hl9 hn9 hR
  show V K G cX2_half RX2 2 rm_X2_half 0 0 0 [(0, .ref o), (1, .int (nI i))] [] [(o, .inr (1, [.ref a])), (a, .inl (G.2.1 2, z, .inr (.inl h)))]
  refine v_iload_n dX2_half_0 rfl 1 rfl ?_
  refine n_if_lt (a := i) (tgt := 22) dX2_half_1 (by decide) (by omega) ?_
  refine v_iload_n dX2_half_4 rfl 1 rfl ?_
  refine v_aload_n dX2_half_5 rfl 0 rfl ?_
  refine v_get (ref := "Sealhouse$CellSets") (C := RX2) (T := TX2) (N := 1) 0 0 dX2_half_6 rfl rfl gin_X2 (by decide) kw_134 rfl rfl ?_
  refine v_alen (v := nI z) 1 2 dX2_half_9 rfl rfl rfl ?_
  refine n_icmp_ge (a := i) (b := z) (tgt := 22) dX2_half_10 (by decide) (by omega) (by omega) (fun c10 => absurd c10 (by omega)) (fun c10 => ?_)
  refine v_aload_n dX2_half_13 rfl 0 rfl ?_
  refine v_get (ref := "Sealhouse$CellSets") (C := RX2) (T := TX2) (N := 1) 0 0 dX2_half_14 rfl rfl gin_X2 (by decide) kw_134 rfl rfl ?_
  refine v_iload_n dX2_half_17 rfl 1 rfl ?_
  refine n_lald (i := i) (x := h i) 1 dX2_half_18 rfl (by omega) (by omega) rfl ?_
  refine v_goto (tgt := 23) dX2_half_19 (by decide) ?_
  exact v_lret hR dX2_half_23 (by exact ⟨rfl, rfl⟩)
theorem dX2_putHalf_0 : decode cX2_putHalf 0 = .ok (.iload_n 1, 1) := by decide +kernel
theorem dX2_putHalf_1 : decode cX2_putHalf 1 = .ok (.ifCond .lt 19, 3) := by decide +kernel
theorem dX2_putHalf_4 : decode cX2_putHalf 4 = .ok (.iload_n 1, 1) := by decide +kernel
theorem dX2_putHalf_5 : decode cX2_putHalf 5 = .ok (.aload_n 0, 1) := by decide +kernel
theorem dX2_putHalf_6 : decode cX2_putHalf 6 = .ok (.getfield 7, 3) := by decide +kernel
theorem dX2_putHalf_9 : decode cX2_putHalf 9 = .ok (.arraylength, 1) := by decide +kernel
theorem dX2_putHalf_10 : decode cX2_putHalf 10 = .ok (.if_icmp .ge 10, 3) := by decide +kernel
theorem dX2_putHalf_13 : decode cX2_putHalf 13 = .ok (.aload_n 0, 1) := by decide +kernel
theorem dX2_putHalf_14 : decode cX2_putHalf 14 = .ok (.getfield 7, 3) := by decide +kernel
theorem dX2_putHalf_17 : decode cX2_putHalf 17 = .ok (.iload_n 1, 1) := by decide +kernel
theorem dX2_putHalf_18 : decode cX2_putHalf 18 = .ok (.lload_n 2, 1) := by decide +kernel
theorem dX2_putHalf_19 : decode cX2_putHalf 19 = .ok (.lastore, 1) := by decide +kernel
theorem dX2_putHalf_20 : decode cX2_putHalf 20 = .ok (.return_, 1) := by decide +kernel
theorem hd_X2_putHalf : yX2_putHalf.cls ≠ "java/lang/invoke/MethodHandle" ∧ yX2_putHalf.cls ≠ "java/lang/invoke/VarHandle" ∧ (parseMethodDescriptor yX2_putHalf.desc).map (fun d => d.parameters.length) = some 2 := by decide +kernel
abbrev rm_X2_putHalf : Room := { frames := 0, cells := 0, slots := 0, locals := 0 }
set_option maxHeartbeats 4000000 in
set_option maxRecDepth 100000 in
theorem c_X2_putHalf (l : Launch) (G : Gx) (o : Nat) (a : Nat) (z : Nat) (h : Nat → Int64) (i : Nat) (x : Int64) (hz : z ≤ 2000) (hi : i < z) : Mt l G yX2_putHalf cX2_putHalf 4 none rm_X2_putHalf [.ref o, .int (nI i), .long x] [(o, .inr (1, [.ref a])), (a, .inl (G.2.1 2, z, .inr (.inl h)))] (D1 none [(o, .inr (1, [.ref a])), (a, .inl (G.2.1 2, z, .inr (.inl (vp_updL h i x))))]) := by
  refine Mt.of (by decide) (Nat.le_of_ble_eq_true rfl) ?_
  intro K hl9 hn9 hR
  show V K G cX2_putHalf RX2 4 rm_X2_putHalf 0 0 0 [(0, .ref o), (1, .int (nI i)), (2, .long x)] [] [(o, .inr (1, [.ref a])), (a, .inl (G.2.1 2, z, .inr (.inl h)))]
  refine v_iload_n dX2_putHalf_0 rfl 1 rfl ?_
  refine n_if_lt (a := i) (tgt := 20) dX2_putHalf_1 (by decide) (by omega) ?_
  refine v_iload_n dX2_putHalf_4 rfl 1 rfl ?_
  refine v_aload_n dX2_putHalf_5 rfl 0 rfl ?_
  refine v_get (ref := "Sealhouse$CellSets") (C := RX2) (T := TX2) (N := 1) 0 0 dX2_putHalf_6 rfl rfl gin_X2 (by decide) kw_134 rfl rfl ?_
  refine v_alen (v := nI z) 1 2 dX2_putHalf_9 rfl rfl rfl ?_
  refine n_icmp_ge (a := i) (b := z) (tgt := 20) dX2_putHalf_10 (by decide) (by omega) (by omega) (fun c10 => absurd c10 (by omega)) (fun c10 => ?_)
  refine v_aload_n dX2_putHalf_13 rfl 0 rfl ?_
  refine v_get (ref := "Sealhouse$CellSets") (C := RX2) (T := TX2) (N := 1) 0 0 dX2_putHalf_14 rfl rfl gin_X2 (by decide) kw_134 rfl rfl ?_
  refine v_iload_n dX2_putHalf_17 rfl 1 rfl ?_
  refine v_lload_n dX2_putHalf_18 rfl 2 rfl ?_
  refine n_last (i := i) (g := vp_updL h i x) (ws' := [(o, .inr (1, [.ref a])), (a, .inl (G.2.1 2, z, .inr (.inl (vp_updL h i x))))]) 1 dX2_putHalf_19 rfl (by omega) (by omega) rfl rfl ?_
  exact v_vret hR dX2_putHalf_20 (by exact ⟨rfl, rfl⟩)
theorem dX2_clear_0 : decode cX2_clear 0 = .ok (.aload_n 0, 1) := by decide +kernel
theorem dX2_clear_1 : decode cX2_clear 1 = .ok (.iconst 2, 1) := by decide +kernel
theorem dX2_clear_2 : decode cX2_clear 2 = .ok (.iload_n 1, 1) := by decide +kernel
theorem dX2_clear_3 : decode cX2_clear 3 = .ok (.imul, 1) := by decide +kernel
theorem dX2_clear_4 : decode cX2_clear 4 = .ok (.lconst 0, 1) := by decide +kernel
theorem dX2_clear_5 : decode cX2_clear 5 = .ok (.invokevirtual 13, 3) := by decide +kernel
theorem dX2_clear_8 : decode cX2_clear 8 = .ok (.aload_n 0, 1) := by decide +kernel
theorem dX2_clear_9 : decode cX2_clear 9 = .ok (.iconst 2, 1) := by decide +kernel
theorem dX2_clear_10 : decode cX2_clear 10 = .ok (.iload_n 1, 1) := by decide +kernel
theorem dX2_clear_11 : decode cX2_clear 11 = .ok (.imul, 1) := by decide +kernel
theorem dX2_clear_12 : decode cX2_clear 12 = .ok (.iconst 1, 1) := by decide +kernel
theorem dX2_clear_13 : decode cX2_clear 13 = .ok (.iadd, 1) := by decide +kernel
theorem dX2_clear_14 : decode cX2_clear 14 = .ok (.lconst 0, 1) := by decide +kernel
theorem dX2_clear_15 : decode cX2_clear 15 = .ok (.invokevirtual 13, 3) := by decide +kernel
theorem dX2_clear_18 : decode cX2_clear 18 = .ok (.return_, 1) := by decide +kernel
theorem hd_X2_clear : yX2_clear.cls ≠ "java/lang/invoke/MethodHandle" ∧ yX2_clear.cls ≠ "java/lang/invoke/VarHandle" ∧ (parseMethodDescriptor yX2_clear.desc).map (fun d => d.parameters.length) = some 1 := by decide +kernel
abbrev rm_X2_clear : Room := { frames := 1, cells := 0, slots := 0, locals := 23 }
set_option maxHeartbeats 4000000 in
set_option maxRecDepth 100000 in
theorem c_X2_clear (l : Launch) (G : Gx) (o : Nat) (a : Nat) (z : Nat) (h : Nat → Int64) (s : Nat) (hz : z ≤ 2000) (hs : 2 * s + 1 < z) : Mt l G yX2_clear cX2_clear 2 none rm_X2_clear [.ref o, .int (nI s)] [(o, .inr (1, [.ref a])), (a, .inl (G.2.1 2, z, .inr (.inl h)))] (D1 none [(o, .inr (1, [.ref a])), (a, .inl (G.2.1 2, z, .inr (.inl (clrH h s))))]) := by
  refine Mt.of (by decide) (Nat.le_of_ble_eq_true rfl) ?_
  intro K hl9 hn9 hR
  show V K G cX2_clear RX2 2 rm_X2_clear 0 0 0 [(0, .ref o), (1, .int (nI s))] [] [(o, .inr (1, [.ref a])), (a, .inl (G.2.1 2, z, .inr (.inl h)))]
  refine v_aload_n dX2_clear_0 rfl 0 rfl ?_
  refine v_iconst (v := nI 2) dX2_clear_1 (by decide) ?_
  refine v_iload_n dX2_clear_2 rfl 1 rfl ?_
  refine n_imul (a := 2) (b := s) (z := 2 * s) dX2_clear_3 rfl ?_
  refine v_lconst (v := 0) dX2_clear_4 (by decide) ?_
  refine c_V1 (ci := 1) (T := TX2) (N := 1) (As := [.int (nI (2 * s)), .long (0 : Int64)]) (rest := []) (wr := []) (k' := 0) (n' := 0) (st2 := []) (ws2 := [(o, .inr (1, [.ref a])), (a, .inl (G.2.1 2, z, .inr (.inl (vp_updL h (2 * s) (0 : Int64)))))]) (c_X2_putHalf K.2.1 G o a z h (2 * s) (0 : Int64) (by omega) (by omega)) [0, 1] [] dX2_clear_5 kw_157 kw_159 kw_43 kw_160 kw_2 hd_X2_putHalf ⟨Nat.le_of_ble_eq_true rfl, Nat.le_of_ble_eq_true rfl⟩ ⟨(by decide), (by decide)⟩ ⟨rfl, rfl⟩ (Nat.le_of_ble_eq_true rfl) rfl rfl rfl rfl rfl rfl (by decide) 0 rfl rfl [0, 1] rfl rfl rfl rfl ?_
  refine v_aload_n dX2_clear_8 rfl 0 rfl ?_
  refine v_iconst (v := nI 2) dX2_clear_9 (by decide) ?_
  refine v_iload_n dX2_clear_10 rfl 1 rfl ?_
  refine n_imul (a := 2) (b := s) (z := 2 * s) dX2_clear_11 rfl ?_
  refine v_iconst (v := nI 1) dX2_clear_12 (by decide) ?_
  refine n_iadd (a := 2 * s) (b := 1) (z := (2 * s) + 1) dX2_clear_13 rfl ?_
  refine v_lconst (v := 0) dX2_clear_14 (by decide) ?_
  refine c_V1 (ci := 1) (T := TX2) (N := 1) (As := [.int (nI ((2 * s) + 1)), .long (0 : Int64)]) (rest := []) (wr := []) (k' := 0) (n' := 0) (st2 := []) (ws2 := [(o, .inr (1, [.ref a])), (a, .inl (G.2.1 2, z, .inr (.inl (vp_updL (vp_updL h (2 * s) (0 : Int64)) ((2 * s) + 1) (0 : Int64)))))]) (c_X2_putHalf K.2.1 G o a z (vp_updL h (2 * s) (0 : Int64)) ((2 * s) + 1) (0 : Int64) (by omega) (by omega)) [0, 1] [] dX2_clear_15 kw_157 kw_159 kw_43 kw_160 kw_2 hd_X2_putHalf ⟨Nat.le_of_ble_eq_true rfl, Nat.le_of_ble_eq_true rfl⟩ ⟨(by decide), (by decide)⟩ ⟨rfl, rfl⟩ (Nat.le_of_ble_eq_true rfl) rfl rfl rfl rfl rfl rfl (by decide) 0 rfl rfl [0, 1] rfl rfl rfl rfl ?_
  exact v_vret hR dX2_clear_18 (by exact ⟨rfl, rfl⟩)
theorem dX2_add_0 : decode cX2_add 0 = .ok (.iconst 2, 1) := by decide +kernel
theorem dX2_add_1 : decode cX2_add 1 = .ok (.iload_n 1, 1) := by decide +kernel
theorem dX2_add_2 : decode cX2_add 2 = .ok (.imul, 1) := by decide +kernel
theorem dX2_add_3 : decode cX2_add 3 = .ok (.iload_n 2, 1) := by decide +kernel
theorem dX2_add_4 : decode cX2_add 4 = .ok (.bipush 6, 2) := by decide +kernel
theorem dX2_add_6 : decode cX2_add 6 = .ok (.ishr, 1) := by decide +kernel
theorem dX2_add_7 : decode cX2_add 7 = .ok (.iadd, 1) := by decide +kernel
theorem dX2_add_8 : decode cX2_add 8 = .ok (.istore_n 3, 1) := by decide +kernel
theorem dX2_add_9 : decode cX2_add 9 = .ok (.iload_n 3, 1) := by decide +kernel
theorem dX2_add_10 : decode cX2_add 10 = .ok (.ifCond .lt 24, 3) := by decide +kernel
theorem dX2_add_13 : decode cX2_add 13 = .ok (.iload_n 3, 1) := by decide +kernel
theorem dX2_add_14 : decode cX2_add 14 = .ok (.aload_n 0, 1) := by decide +kernel
theorem dX2_add_15 : decode cX2_add 15 = .ok (.getfield 7, 3) := by decide +kernel
theorem dX2_add_18 : decode cX2_add 18 = .ok (.arraylength, 1) := by decide +kernel
theorem dX2_add_19 : decode cX2_add 19 = .ok (.if_icmp .ge 15, 3) := by decide +kernel
theorem dX2_add_22 : decode cX2_add 22 = .ok (.aload_n 0, 1) := by decide +kernel
theorem dX2_add_23 : decode cX2_add 23 = .ok (.getfield 7, 3) := by decide +kernel
theorem dX2_add_26 : decode cX2_add 26 = .ok (.iload_n 3, 1) := by decide +kernel
theorem dX2_add_27 : decode cX2_add 27 = .ok (.dup2, 1) := by decide +kernel
theorem dX2_add_28 : decode cX2_add 28 = .ok (.laload, 1) := by decide +kernel
theorem dX2_add_29 : decode cX2_add 29 = .ok (.lconst 1, 1) := by decide +kernel
theorem dX2_add_30 : decode cX2_add 30 = .ok (.iload_n 2, 1) := by decide +kernel
theorem dX2_add_31 : decode cX2_add 31 = .ok (.lshl, 1) := by decide +kernel
theorem dX2_add_32 : decode cX2_add 32 = .ok (.lor, 1) := by decide +kernel
theorem dX2_add_33 : decode cX2_add 33 = .ok (.lastore, 1) := by decide +kernel
theorem dX2_add_34 : decode cX2_add 34 = .ok (.return_, 1) := by decide +kernel
theorem hd_X2_add : yX2_add.cls ≠ "java/lang/invoke/MethodHandle" ∧ yX2_add.cls ≠ "java/lang/invoke/VarHandle" ∧ (parseMethodDescriptor yX2_add.desc).map (fun d => d.parameters.length) = some 2 := by decide +kernel
abbrev rm_X2_add : Room := { frames := 0, cells := 0, slots := 0, locals := 0 }
set_option maxHeartbeats 4000000 in
set_option maxRecDepth 100000 in
theorem c_X2_add (l : Launch) (G : Gx) (o : Nat) (a : Nat) (z : Nat) (h : Nat → Int64) (s : Nat) (q : Nat) (hz : z ≤ 2000) (hs : 2 * s + 1 < z) (hq : q < 128) : Mt l G yX2_add cX2_add 4 none rm_X2_add [.ref o, .int (nI s), .int (nI q)] [(o, .inr (1, [.ref a])), (a, .inl (G.2.1 2, z, .inr (.inl h)))] (D1 none [(o, .inr (1, [.ref a])), (a, .inl (G.2.1 2, z, .inr (.inl (addH h s q))))]) := by
  refine Mt.of (by decide) (Nat.le_of_ble_eq_true rfl) ?_
  intro K hl9 hn9 hR
  show V K G cX2_add RX2 4 rm_X2_add 0 0 0 [(0, .ref o), (1, .int (nI s)), (2, .int (nI q))] [] [(o, .inr (1, [.ref a])), (a, .inl (G.2.1 2, z, .inr (.inl h)))]
  refine v_iconst (v := nI 2) dX2_add_0 (by decide) ?_
  refine v_iload_n dX2_add_1 rfl 1 rfl ?_
  refine n_imul (a := 2) (b := s) (z := 2 * s) dX2_add_2 rfl ?_
  refine v_iload_n dX2_add_3 rfl 2 rfl ?_
  refine v_bipush (v := nI 6) dX2_add_4 (by decide) ?_
  refine v_ishr dX2_add_6 ?_
  refine v_eqi (y := nI (q / 64)) (by rw [pk_shrN (by omega) _ 6 (by decide)]) ?_
  refine n_iadd (a := 2 * s) (b := q / 64) (z := (2 * s) + (q / 64)) dX2_add_7 rfl ?_
  refine v_istore_n (lv' := [(3, .int (nI ((2 * s) + (q / 64)))), (0, .ref o), (1, .int (nI s)), (2, .int (nI q))]) dX2_add_8 rfl (by decide) rfl ?_
  refine v_iload_n dX2_add_9 rfl 0 rfl ?_
  refine n_if_lt (a := (2 * s) + (q / 64)) (tgt := 34) dX2_add_10 (by decide) (by omega) ?_
  refine v_iload_n dX2_add_13 rfl 0 rfl ?_
  refine v_aload_n dX2_add_14 rfl 1 rfl ?_
  refine v_get (ref := "Sealhouse$CellSets") (C := RX2) (T := TX2) (N := 1) 0 0 dX2_add_15 rfl rfl gin_X2 (by decide) kw_134 rfl rfl ?_
  refine v_alen (v := nI z) 1 2 dX2_add_18 rfl rfl rfl ?_
  refine n_icmp_ge (a := (2 * s) + (q / 64)) (b := z) (tgt := 34) dX2_add_19 (by decide) (by omega) (by omega) (fun c19 => absurd c19 (by omega)) (fun c19 => ?_)
  refine v_aload_n dX2_add_22 rfl 1 rfl ?_
  refine v_get (ref := "Sealhouse$CellSets") (C := RX2) (T := TX2) (N := 1) 0 0 dX2_add_23 rfl rfl gin_X2 (by decide) kw_134 rfl rfl ?_
  refine v_iload_n dX2_add_26 rfl 0 rfl ?_
  refine v_dup2 dX2_add_27 rfl rfl ?_
  refine n_lald (i := (2 * s) + (q / 64)) (x := h ((2 * s) + (q / 64))) 1 dX2_add_28 rfl (by omega) (by omega) rfl ?_
  refine v_lconst (v := 1) dX2_add_29 (by decide) ?_
  refine v_iload_n dX2_add_30 rfl 3 rfl ?_
  refine v_lshl dX2_add_31 ?_
  refine v_lor dX2_add_32 ?_
  refine n_last (i := (2 * s) + (q / 64)) (g := vp_updL h ((2 * s) + (q / 64)) ((h ((2 * s) + (q / 64))) ||| ((1 : Int64) <<< ((nI q).toInt64 &&& 63)))) (ws' := [(o, .inr (1, [.ref a])), (a, .inl (G.2.1 2, z, .inr (.inl (vp_updL h ((2 * s) + (q / 64)) ((h ((2 * s) + (q / 64))) ||| ((1 : Int64) <<< ((nI q).toInt64 &&& 63)))))))]) 1 dX2_add_33 rfl (by omega) (by omega) rfl rfl ?_
  exact v_vret hR dX2_add_34 (by exact ⟨rfl, rfl⟩)
theorem dX2_has_0 : decode cX2_has 0 = .ok (.iconst 2, 1) := by decide +kernel
theorem dX2_has_1 : decode cX2_has 1 = .ok (.iload_n 1, 1) := by decide +kernel
theorem dX2_has_2 : decode cX2_has 2 = .ok (.imul, 1) := by decide +kernel
theorem dX2_has_3 : decode cX2_has 3 = .ok (.iload_n 2, 1) := by decide +kernel
theorem dX2_has_4 : decode cX2_has 4 = .ok (.bipush 6, 2) := by decide +kernel
theorem dX2_has_6 : decode cX2_has 6 = .ok (.ishr, 1) := by decide +kernel
theorem dX2_has_7 : decode cX2_has 7 = .ok (.iadd, 1) := by decide +kernel
theorem dX2_has_8 : decode cX2_has 8 = .ok (.istore_n 3, 1) := by decide +kernel
theorem dX2_has_9 : decode cX2_has 9 = .ok (.iload_n 3, 1) := by decide +kernel
theorem dX2_has_10 : decode cX2_has 10 = .ok (.ifCond .lt 31, 3) := by decide +kernel
theorem dX2_has_13 : decode cX2_has 13 = .ok (.iload_n 3, 1) := by decide +kernel
theorem dX2_has_14 : decode cX2_has 14 = .ok (.aload_n 0, 1) := by decide +kernel
theorem dX2_has_15 : decode cX2_has 15 = .ok (.getfield 7, 3) := by decide +kernel
theorem dX2_has_18 : decode cX2_has 18 = .ok (.arraylength, 1) := by decide +kernel
theorem dX2_has_19 : decode cX2_has 19 = .ok (.if_icmp .ge 22, 3) := by decide +kernel
theorem dX2_has_22 : decode cX2_has 22 = .ok (.aload_n 0, 1) := by decide +kernel
theorem dX2_has_23 : decode cX2_has 23 = .ok (.getfield 7, 3) := by decide +kernel
theorem dX2_has_26 : decode cX2_has 26 = .ok (.iload_n 3, 1) := by decide +kernel
theorem dX2_has_27 : decode cX2_has 27 = .ok (.laload, 1) := by decide +kernel
theorem dX2_has_28 : decode cX2_has 28 = .ok (.iload_n 2, 1) := by decide +kernel
theorem dX2_has_29 : decode cX2_has 29 = .ok (.lushr, 1) := by decide +kernel
theorem dX2_has_30 : decode cX2_has 30 = .ok (.lconst 1, 1) := by decide +kernel
theorem dX2_has_31 : decode cX2_has 31 = .ok (.land, 1) := by decide +kernel
theorem dX2_has_32 : decode cX2_has 32 = .ok (.lconst 0, 1) := by decide +kernel
theorem dX2_has_33 : decode cX2_has 33 = .ok (.lcmp, 1) := by decide +kernel
theorem dX2_has_34 : decode cX2_has 34 = .ok (.ifCond .eq 7, 3) := by decide +kernel
theorem dX2_has_37 : decode cX2_has 37 = .ok (.iconst 1, 1) := by decide +kernel
theorem dX2_has_38 : decode cX2_has 38 = .ok (.goto 4, 3) := by decide +kernel
theorem dX2_has_41 : decode cX2_has 41 = .ok (.iconst 0, 1) := by decide +kernel
theorem dX2_has_42 : decode cX2_has 42 = .ok (.ireturn, 1) := by decide +kernel
theorem hd_X2_has : yX2_has.cls ≠ "java/lang/invoke/MethodHandle" ∧ yX2_has.cls ≠ "java/lang/invoke/VarHandle" ∧ (parseMethodDescriptor yX2_has.desc).map (fun d => d.parameters.length) = some 2 := by decide +kernel
abbrev rm_X2_has : Room := { frames := 0, cells := 0, slots := 0, locals := 0 }
set_option maxHeartbeats 4000000 in
set_option maxRecDepth 100000 in
theorem c_X2_has (l : Launch) (G : Gx) (o : Nat) (a : Nat) (z : Nat) (h : Nat → Int64) (s : Nat) (q : Nat) (hz : z ≤ 2000) (hs : 2 * s + 1 < z) (hq : q < 128) : Mt l G yX2_has cX2_has 4 (some .boolean) rm_X2_has [.ref o, .int (nI s), .int (nI q)] [(o, .inr (1, [.ref a])), (a, .inl (G.2.1 2, z, .inr (.inl h)))] (D1 (some (.int (bI (bt h s q)))) [(o, .inr (1, [.ref a])), (a, .inl (G.2.1 2, z, .inr (.inl h)))]) := by
  refine Mt.of (by decide) (Nat.le_of_ble_eq_true rfl) ?_
  intro K hl9 hn9 hR
  show V K G cX2_has RX2 4 rm_X2_has 0 0 0 [(0, .ref o), (1, .int (nI s)), (2, .int (nI q))] [] [(o, .inr (1, [.ref a])), (a, .inl (G.2.1 2, z, .inr (.inl h)))]
  refine v_iconst (v := nI 2) dX2_has_0 (by decide) ?_
  refine v_iload_n dX2_has_1 rfl 1 rfl ?_
  refine n_imul (a := 2) (b := s) (z := 2 * s) dX2_has_2 rfl ?_
  refine v_iload_n dX2_has_3 rfl 2 rfl ?_
  refine v_bipush (v := nI 6) dX2_has_4 (by decide) ?_
  refine v_ishr dX2_has_6 ?_
  refine v_eqi (y := nI (q / 64)) (by rw [pk_shrN (by omega) _ 6 (by decide)]) ?_
  refine n_iadd (a := 2 * s) (b := q / 64) (z := (2 * s) + (q / 64)) dX2_has_7 rfl ?_
  refine v_istore_n (lv' := [(3, .int (nI ((2 * s) + (q / 64)))), (0, .ref o), (1, .int (nI s)), (2, .int (nI q))]) dX2_has_8 rfl (by decide) rfl ?_
  refine v_iload_n dX2_has_9 rfl 0 rfl ?_
  refine n_if_lt (a := (2 * s) + (q / 64)) (tgt := 41) dX2_has_10 (by decide) (by omega) ?_
  refine v_iload_n dX2_has_13 rfl 0 rfl ?_
  refine v_aload_n dX2_has_14 rfl 1 rfl ?_
  refine v_get (ref := "Sealhouse$CellSets") (C := RX2) (T := TX2) (N := 1) 0 0 dX2_has_15 rfl rfl gin_X2 (by decide) kw_134 rfl rfl ?_
  refine v_alen (v := nI z) 1 2 dX2_has_18 rfl rfl rfl ?_
  refine n_icmp_ge (a := (2 * s) + (q / 64)) (b := z) (tgt := 41) dX2_has_19 (by decide) (by omega) (by omega) (fun c19 => absurd c19 (by omega)) (fun c19 => ?_)
  refine v_aload_n dX2_has_22 rfl 1 rfl ?_
  refine v_get (ref := "Sealhouse$CellSets") (C := RX2) (T := TX2) (N := 1) 0 0 dX2_has_23 rfl rfl gin_X2 (by decide) kw_134 rfl rfl ?_
  refine v_iload_n dX2_has_26 rfl 0 rfl ?_
  refine n_lald (i := (2 * s) + (q / 64)) (x := h ((2 * s) + (q / 64))) 1 dX2_has_27 rfl (by omega) (by omega) rfl ?_
  refine v_iload_n dX2_has_28 rfl 3 rfl ?_
  refine v_lushr dX2_has_29 ?_
  refine v_lconst (v := 1) dX2_has_30 (by decide) ?_
  refine v_land dX2_has_31 ?_
  refine v_lconst (v := 0) dX2_has_32 (by decide) ?_
  refine v_lcmp dX2_has_33 ?_
  refine v_if_eq (tgt := 41) dX2_has_34 (by decide) (fun c34 => ?_) (fun c34 => ?_)
  ·
    refine v_iconst (v := nI 0) dX2_has_41 (by decide) ?_
    refine v_eqi (y := bI false) (by decide) ?_
    exact v_zret hR dX2_has_42 (bI_nar _) (by refine ⟨?_, rfl⟩; first | rw [(bt_eq h s hq).mp c34] | (rw [show bt h s q = true from by cases h9 : bt h s q <;> first | rfl | exact absurd ((bt_eq h s hq).mpr h9) c34]))
  ·
    refine v_iconst (v := nI 1) dX2_has_37 (by decide) ?_
    refine v_goto (tgt := 42) dX2_has_38 (by decide) ?_
    refine v_eqi (y := bI true) (by decide) ?_
    exact v_zret hR dX2_has_42 (bI_nar _) (by refine ⟨?_, rfl⟩; first | rw [(bt_eq h s hq).mp c34] | (rw [show bt h s q = true from by cases h9 : bt h s q <;> first | rfl | exact absurd ((bt_eq h s hq).mpr h9) c34]))
theorem dX2_bits_0 : decode cX2_bits 0 = .ok (.iload_n 0, 1) := by decide +kernel
theorem dX2_bits_1 : decode cX2_bits 1 = .ok (.ifCond .ge 7, 3) := by decide +kernel
theorem dX2_bits_4 : decode cX2_bits 4 = .ok (.iconst 0, 1) := by decide +kernel
theorem dX2_bits_5 : decode cX2_bits 5 = .ok (.goto 4, 3) := by decide +kernel
theorem dX2_bits_8 : decode cX2_bits 8 = .ok (.iload_n 0, 1) := by decide +kernel
theorem dX2_bits_9 : decode cX2_bits 9 = .ok (.istore_n 2, 1) := by decide +kernel
theorem dX2_bits_10 : decode cX2_bits 10 = .ok (.iload_n 1, 1) := by decide +kernel
theorem dX2_bits_11 : decode cX2_bits 11 = .ok (.bipush 64, 2) := by decide +kernel
theorem dX2_bits_13 : decode cX2_bits 13 = .ok (.if_icmp .le 8, 3) := by decide +kernel
theorem dX2_bits_16 : decode cX2_bits 16 = .ok (.bipush 64, 2) := by decide +kernel
theorem dX2_bits_18 : decode cX2_bits 18 = .ok (.goto 4, 3) := by decide +kernel
theorem dX2_bits_21 : decode cX2_bits 21 = .ok (.iload_n 1, 1) := by decide +kernel
theorem dX2_bits_22 : decode cX2_bits 22 = .ok (.istore_n 3, 1) := by decide +kernel
theorem dX2_bits_23 : decode cX2_bits 23 = .ok (.iload_n 2, 1) := by decide +kernel
theorem dX2_bits_24 : decode cX2_bits 24 = .ok (.iload_n 3, 1) := by decide +kernel
theorem dX2_bits_25 : decode cX2_bits 25 = .ok (.if_icmp .ge 18, 3) := by decide +kernel
theorem dX2_bits_28 : decode cX2_bits 28 = .ok (.ldc2_w 25, 3) := by decide +kernel
theorem dX2_bits_31 : decode cX2_bits 31 = .ok (.bipush 64, 2) := by decide +kernel
theorem dX2_bits_33 : decode cX2_bits 33 = .ok (.iload_n 3, 1) := by decide +kernel
theorem dX2_bits_34 : decode cX2_bits 34 = .ok (.iload_n 2, 1) := by decide +kernel
theorem dX2_bits_35 : decode cX2_bits 35 = .ok (.isub, 1) := by decide +kernel
theorem dX2_bits_36 : decode cX2_bits 36 = .ok (.isub, 1) := by decide +kernel
theorem dX2_bits_37 : decode cX2_bits 37 = .ok (.lushr, 1) := by decide +kernel
theorem dX2_bits_38 : decode cX2_bits 38 = .ok (.iload_n 2, 1) := by decide +kernel
theorem dX2_bits_39 : decode cX2_bits 39 = .ok (.lshl, 1) := by decide +kernel
theorem dX2_bits_40 : decode cX2_bits 40 = .ok (.goto 4, 3) := by decide +kernel
theorem dX2_bits_43 : decode cX2_bits 43 = .ok (.lconst 0, 1) := by decide +kernel
theorem dX2_bits_44 : decode cX2_bits 44 = .ok (.lreturn, 1) := by decide +kernel
theorem hd_X2_bits : yX2_bits.cls ≠ "java/lang/invoke/MethodHandle" ∧ yX2_bits.cls ≠ "java/lang/invoke/VarHandle" ∧ (parseMethodDescriptor yX2_bits.desc).map (fun d => d.parameters.length) = some 2 := by decide +kernel
abbrev rm_X2_bits : Room := { frames := 0, cells := 0, slots := 0, locals := 0 }
set_option maxHeartbeats 4000000 in
set_option maxRecDepth 100000 in
theorem c_X2_bits (l : Launch) (G : Gx) (x : Int32) (y : Int32) : Mt l G yX2_bits cX2_bits 4 (some .long) rm_X2_bits [.int x, .int y] [] (D1 (some (.long (bitsF x y))) []) := by
  refine Mt.of (by decide) (Nat.le_of_ble_eq_true rfl) ?_
  intro K hl9 hn9 hR
  show V K G cX2_bits RX2 4 rm_X2_bits 0 0 0 [(0, .int x), (1, .int y)] [] []
  refine v_iload_n dX2_bits_0 rfl 0 rfl ?_
  refine v_if_ge (tgt := 8) dX2_bits_1 (by decide) (fun c1 => ?_) (fun c1 => ?_)
  ·
    refine v_iload_n dX2_bits_8 rfl 0 rfl ?_
    refine v_istore_n (lv' := [(2, .int x), (0, .int x), (1, .int y)]) dX2_bits_9 rfl (by decide) rfl ?_
    refine v_iload_n dX2_bits_10 rfl 2 rfl ?_
    refine v_bipush (v := nI 64) dX2_bits_11 (by decide) ?_
    refine v_icmp_le (x := y) (y := nI 64) (tgt := 21) dX2_bits_13 (by decide) (fun c13 => ?_) (fun c13 => ?_)
    ·
      refine v_iload_n dX2_bits_21 rfl 2 rfl ?_
      refine v_istore_n (lv' := [(3, .int y), (2, .int x), (0, .int x), (1, .int y)]) dX2_bits_22 rfl (by decide) rfl ?_
      refine v_iload_n dX2_bits_23 rfl 1 rfl ?_
      refine v_iload_n dX2_bits_24 rfl 0 rfl ?_
      refine v_icmp_ge (x := x) (y := y) (tgt := 43) dX2_bits_25 (by decide) (fun c25 => ?_) (fun c25 => ?_)
      ·
        refine v_lconst (v := 0) dX2_bits_43 (by decide) ?_
        exact v_lret hR dX2_bits_44 (by refine ⟨?_, rfl⟩; unfold bitsF; simp only [*, if_true, if_false, if_pos, if_neg, not_false_eq_true, not_true_eq_false]; try rfl)
      ·
        refine v_ldc2 (v := (-1)) dX2_bits_28 kw_156 ?_
        refine v_bipush (v := nI 64) dX2_bits_31 (by decide) ?_
        refine v_iload_n dX2_bits_33 rfl 0 rfl ?_
        refine v_iload_n dX2_bits_34 rfl 1 rfl ?_
        refine v_isub dX2_bits_35 ?_
        refine v_isub dX2_bits_36 ?_
        refine v_lushr dX2_bits_37 ?_
        refine v_iload_n dX2_bits_38 rfl 1 rfl ?_
        refine v_lshl dX2_bits_39 ?_
        refine v_goto (tgt := 44) dX2_bits_40 (by decide) ?_
        exact v_lret hR dX2_bits_44 (by refine ⟨?_, rfl⟩; unfold bitsF; simp only [*, if_true, if_false, if_pos, if_neg, not_false_eq_true, not_true_eq_false]; try rfl)
    ·
      refine v_bipush (v := nI 64) dX2_bits_16 (by decide) ?_
      refine v_goto (tgt := 22) dX2_bits_18 (by decide) ?_
      refine v_istore_n (lv' := [(3, .int (nI 64)), (2, .int x), (0, .int x), (1, .int y)]) dX2_bits_22 rfl (by decide) rfl ?_
      refine v_iload_n dX2_bits_23 rfl 1 rfl ?_
      refine v_iload_n dX2_bits_24 rfl 0 rfl ?_
      refine v_icmp_ge (x := x) (y := nI 64) (tgt := 43) dX2_bits_25 (by decide) (fun c25 => ?_) (fun c25 => ?_)
      ·
        refine v_lconst (v := 0) dX2_bits_43 (by decide) ?_
        exact v_lret hR dX2_bits_44 (by refine ⟨?_, rfl⟩; unfold bitsF; simp only [*, if_true, if_false, if_pos, if_neg, not_false_eq_true, not_true_eq_false]; try rfl)
      ·
        refine v_ldc2 (v := (-1)) dX2_bits_28 kw_156 ?_
        refine v_bipush (v := nI 64) dX2_bits_31 (by decide) ?_
        refine v_iload_n dX2_bits_33 rfl 0 rfl ?_
        refine v_iload_n dX2_bits_34 rfl 1 rfl ?_
        refine v_isub dX2_bits_35 ?_
        refine v_isub dX2_bits_36 ?_
        refine v_lushr dX2_bits_37 ?_
        refine v_iload_n dX2_bits_38 rfl 1 rfl ?_
        refine v_lshl dX2_bits_39 ?_
        refine v_goto (tgt := 44) dX2_bits_40 (by decide) ?_
        exact v_lret hR dX2_bits_44 (by refine ⟨?_, rfl⟩; unfold bitsF; simp only [*, if_true, if_false, if_pos, if_neg, not_false_eq_true, not_true_eq_false]; try rfl)
  ·
    refine v_iconst (v := nI 0) dX2_bits_4 (by decide) ?_
    refine v_goto (tgt := 9) dX2_bits_5 (by decide) ?_
    refine v_istore_n (lv' := [(2, .int (nI 0)), (0, .int x), (1, .int y)]) dX2_bits_9 rfl (by decide) rfl ?_
    refine v_iload_n dX2_bits_10 rfl 2 rfl ?_
    refine v_bipush (v := nI 64) dX2_bits_11 (by decide) ?_
    refine v_icmp_le (x := y) (y := nI 64) (tgt := 21) dX2_bits_13 (by decide) (fun c13 => ?_) (fun c13 => ?_)
    ·
      refine v_iload_n dX2_bits_21 rfl 2 rfl ?_
      refine v_istore_n (lv' := [(3, .int y), (2, .int (nI 0)), (0, .int x), (1, .int y)]) dX2_bits_22 rfl (by decide) rfl ?_
      refine v_iload_n dX2_bits_23 rfl 1 rfl ?_
      refine v_iload_n dX2_bits_24 rfl 0 rfl ?_
      refine v_icmp_ge (x := nI 0) (y := y) (tgt := 43) dX2_bits_25 (by decide) (fun c25 => ?_) (fun c25 => ?_)
      ·
        refine v_lconst (v := 0) dX2_bits_43 (by decide) ?_
        exact v_lret hR dX2_bits_44 (by refine ⟨?_, rfl⟩; unfold bitsF; simp only [*, if_true, if_false, if_pos, if_neg, not_false_eq_true, not_true_eq_false]; try rfl)
      ·
        refine v_ldc2 (v := (-1)) dX2_bits_28 kw_156 ?_
        refine v_bipush (v := nI 64) dX2_bits_31 (by decide) ?_
        refine v_iload_n dX2_bits_33 rfl 0 rfl ?_
        refine v_iload_n dX2_bits_34 rfl 1 rfl ?_
        refine v_isub dX2_bits_35 ?_
        refine v_isub dX2_bits_36 ?_
        refine v_lushr dX2_bits_37 ?_
        refine v_iload_n dX2_bits_38 rfl 1 rfl ?_
        refine v_lshl dX2_bits_39 ?_
        refine v_goto (tgt := 44) dX2_bits_40 (by decide) ?_
        exact v_lret hR dX2_bits_44 (by refine ⟨?_, rfl⟩; unfold bitsF; simp only [*, if_true, if_false, if_pos, if_neg, not_false_eq_true, not_true_eq_false]; try rfl)
    ·
      refine v_bipush (v := nI 64) dX2_bits_16 (by decide) ?_
      refine v_goto (tgt := 22) dX2_bits_18 (by decide) ?_
      refine v_istore_n (lv' := [(3, .int (nI 64)), (2, .int (nI 0)), (0, .int x), (1, .int y)]) dX2_bits_22 rfl (by decide) rfl ?_
      refine v_iload_n dX2_bits_23 rfl 1 rfl ?_
      refine v_iload_n dX2_bits_24 rfl 0 rfl ?_
      refine n_icmp_ge (a := 0) (b := 64) (tgt := 43) dX2_bits_25 (by decide) (by decide) (by decide) (fun c => absurd c (by decide)) (fun _ => ?_)
      refine v_ldc2 (v := (-1)) dX2_bits_28 kw_156 ?_
      refine v_bipush (v := nI 64) dX2_bits_31 (by decide) ?_
      refine v_iload_n dX2_bits_33 rfl 0 rfl ?_
      refine v_iload_n dX2_bits_34 rfl 1 rfl ?_
      refine n_isub (a := 64) (b := 0) (z := 64) dX2_bits_35 (by omega) ?_
      refine n_isub (a := 64) (b := 64) (z := 0) dX2_bits_36 (by omega) ?_
      refine v_lushr dX2_bits_37 ?_
      refine v_iload_n dX2_bits_38 rfl 1 rfl ?_
      refine v_lshl dX2_bits_39 ?_
      refine v_goto (tgt := 44) dX2_bits_40 (by decide) ?_
      exact v_lret hR dX2_bits_44 (by refine ⟨?_, rfl⟩; unfold bitsF; simp only [*, if_true, if_false, if_pos, if_neg, not_false_eq_true, not_true_eq_false]; try rfl)
theorem dX2_addRange_0 : decode cX2_addRange 0 = .ok (.aload_n 0, 1) := by decide +kernel
theorem dX2_addRange_1 : decode cX2_addRange 1 = .ok (.iconst 2, 1) := by decide +kernel
theorem dX2_addRange_2 : decode cX2_addRange 2 = .ok (.iload_n 1, 1) := by decide +kernel
theorem dX2_addRange_3 : decode cX2_addRange 3 = .ok (.imul, 1) := by decide +kernel
theorem dX2_addRange_4 : decode cX2_addRange 4 = .ok (.aload_n 0, 1) := by decide +kernel
theorem dX2_addRange_5 : decode cX2_addRange 5 = .ok (.iconst 2, 1) := by decide +kernel
theorem dX2_addRange_6 : decode cX2_addRange 6 = .ok (.iload_n 1, 1) := by decide +kernel
theorem dX2_addRange_7 : decode cX2_addRange 7 = .ok (.imul, 1) := by decide +kernel
theorem dX2_addRange_8 : decode cX2_addRange 8 = .ok (.invokevirtual 17, 3) := by decide +kernel
theorem dX2_addRange_11 : decode cX2_addRange 11 = .ok (.iload_n 2, 1) := by decide +kernel
theorem dX2_addRange_12 : decode cX2_addRange 12 = .ok (.iload_n 3, 1) := by decide +kernel
theorem dX2_addRange_13 : decode cX2_addRange 13 = .ok (.invokestatic 21, 3) := by decide +kernel
theorem dX2_addRange_16 : decode cX2_addRange 16 = .ok (.lor, 1) := by decide +kernel
theorem dX2_addRange_17 : decode cX2_addRange 17 = .ok (.invokevirtual 13, 3) := by decide +kernel
theorem dX2_addRange_20 : decode cX2_addRange 20 = .ok (.aload_n 0, 1) := by decide +kernel
theorem dX2_addRange_21 : decode cX2_addRange 21 = .ok (.iconst 2, 1) := by decide +kernel
theorem dX2_addRange_22 : decode cX2_addRange 22 = .ok (.iload_n 1, 1) := by decide +kernel
theorem dX2_addRange_23 : decode cX2_addRange 23 = .ok (.imul, 1) := by decide +kernel
theorem dX2_addRange_24 : decode cX2_addRange 24 = .ok (.iconst 1, 1) := by decide +kernel
theorem dX2_addRange_25 : decode cX2_addRange 25 = .ok (.iadd, 1) := by decide +kernel
theorem dX2_addRange_26 : decode cX2_addRange 26 = .ok (.aload_n 0, 1) := by decide +kernel
theorem dX2_addRange_27 : decode cX2_addRange 27 = .ok (.iconst 2, 1) := by decide +kernel
theorem dX2_addRange_28 : decode cX2_addRange 28 = .ok (.iload_n 1, 1) := by decide +kernel
theorem dX2_addRange_29 : decode cX2_addRange 29 = .ok (.imul, 1) := by decide +kernel
theorem dX2_addRange_30 : decode cX2_addRange 30 = .ok (.iconst 1, 1) := by decide +kernel
theorem dX2_addRange_31 : decode cX2_addRange 31 = .ok (.iadd, 1) := by decide +kernel
theorem dX2_addRange_32 : decode cX2_addRange 32 = .ok (.invokevirtual 17, 3) := by decide +kernel
theorem dX2_addRange_35 : decode cX2_addRange 35 = .ok (.iload_n 2, 1) := by decide +kernel
theorem dX2_addRange_36 : decode cX2_addRange 36 = .ok (.bipush 64, 2) := by decide +kernel
theorem dX2_addRange_38 : decode cX2_addRange 38 = .ok (.isub, 1) := by decide +kernel
theorem dX2_addRange_39 : decode cX2_addRange 39 = .ok (.iload_n 3, 1) := by decide +kernel
theorem dX2_addRange_40 : decode cX2_addRange 40 = .ok (.bipush 64, 2) := by decide +kernel
theorem dX2_addRange_42 : decode cX2_addRange 42 = .ok (.isub, 1) := by decide +kernel
theorem dX2_addRange_43 : decode cX2_addRange 43 = .ok (.invokestatic 21, 3) := by decide +kernel
theorem dX2_addRange_46 : decode cX2_addRange 46 = .ok (.lor, 1) := by decide +kernel
theorem dX2_addRange_47 : decode cX2_addRange 47 = .ok (.invokevirtual 13, 3) := by decide +kernel
theorem dX2_addRange_50 : decode cX2_addRange 50 = .ok (.return_, 1) := by decide +kernel
theorem hd_X2_addRange : yX2_addRange.cls ≠ "java/lang/invoke/MethodHandle" ∧ yX2_addRange.cls ≠ "java/lang/invoke/VarHandle" ∧ (parseMethodDescriptor yX2_addRange.desc).map (fun d => d.parameters.length) = some 3 := by decide +kernel
abbrev rm_X2_addRange : Room := { frames := 1, cells := 0, slots := 0, locals := 23 }
set_option maxHeartbeats 4000000 in
set_option maxRecDepth 100000 in
theorem c_X2_addRange (l : Launch) (G : Gx) (o : Nat) (a : Nat) (z : Nat) (h : Nat → Int64) (s : Nat) (x : Int32) (y : Int32) (hz : z ≤ 2000) (hs : 2 * s + 1 < z) : Mt l G yX2_addRange cX2_addRange 4 none rm_X2_addRange [.ref o, .int (nI s), .int x, .int y] [(o, .inr (1, [.ref a])), (a, .inl (G.2.1 2, z, .inr (.inl h)))] (D1 none [(o, .inr (1, [.ref a])), (a, .inl (G.2.1 2, z, .inr (.inl (rngH h s x y))))]) := by
  refine Mt.of (by decide) (Nat.le_of_ble_eq_true rfl) ?_
  intro K hl9 hn9 hR
  show V K G cX2_addRange RX2 4 rm_X2_addRange 0 0 0 [(0, .ref o), (1, .int (nI s)), (2, .int x), (3, .int y)] [] [(o, .inr (1, [.ref a])), (a, .inl (G.2.1 2, z, .inr (.inl h)))]
  refine v_aload_n dX2_addRange_0 rfl 0 rfl ?_
  refine v_iconst (v := nI 2) dX2_addRange_1 (by decide) ?_
  refine v_iload_n dX2_addRange_2 rfl 1 rfl ?_
  refine n_imul (a := 2) (b := s) (z := 2 * s) dX2_addRange_3 rfl ?_
  refine v_aload_n dX2_addRange_4 rfl 0 rfl ?_
  refine v_iconst (v := nI 2) dX2_addRange_5 (by decide) ?_
  refine v_iload_n dX2_addRange_6 rfl 1 rfl ?_
  refine n_imul (a := 2) (b := s) (z := 2 * s) dX2_addRange_7 rfl ?_
  refine c_V1 (ci := 1) (T := TX2) (N := 1) (As := [.int (nI (2 * s))]) (rest := [.int (nI (2 * s)), .ref o]) (wr := []) (k' := 0) (n' := 0) (st2 := [.long (h (2 * s)), .int (nI (2 * s)), .ref o]) (ws2 := [(o, .inr (1, [.ref a])), (a, .inl (G.2.1 2, z, .inr (.inl h)))]) (c_X2_half K.2.1 G o a z h (2 * s) (by omega) (by omega)) [0, 1] [] dX2_addRange_8 kw_149 kw_151 kw_43 kw_152 kw_1 hd_X2_half ⟨Nat.le_of_ble_eq_true rfl, Nat.le_of_ble_eq_true rfl⟩ ⟨(by decide), (by decide)⟩ ⟨rfl, rfl⟩ (Nat.le_of_ble_eq_true rfl) rfl rfl rfl rfl rfl rfl (by decide) 0 rfl rfl [0, 1] rfl rfl rfl rfl ?_
  refine v_iload_n dX2_addRange_11 rfl 2 rfl ?_
  refine v_iload_n dX2_addRange_12 rfl 3 rfl ?_
  refine c_S1 (As := [.int x, .int y]) (rest := [.long (h (2 * s)), .int (nI (2 * s)), .ref o]) (wr := [(o, .inr (1, [.ref a])), (a, .inl (G.2.1 2, z, .inr (.inl h)))]) (k' := 0) (n' := 0) (st2 := [.long (bitsF x y), .long (h (2 * s)), .int (nI (2 * s)), .ref o]) (ws2 := [(o, .inr (1, [.ref a])), (a, .inl (G.2.1 2, z, .inr (.inl h)))]) (c_X2_bits K.2.1 G x y ) [] [0, 1] dX2_addRange_13 kw_153 kw_154 kw_43 kw_155 hd_X2_bits ⟨Nat.le_of_ble_eq_true rfl, Nat.le_of_ble_eq_true rfl⟩ ⟨(by decide), (by decide)⟩ ⟨rfl, rfl⟩ (Nat.le_of_ble_eq_true rfl) rfl rfl rfl rfl rfl rfl (by decide) [0, 1] rfl rfl rfl rfl ?_
  refine v_lor dX2_addRange_16 ?_
  refine c_V1 (ci := 1) (T := TX2) (N := 1) (As := [.int (nI (2 * s)), .long ((h (2 * s)) ||| (bitsF x y))]) (rest := []) (wr := []) (k' := 0) (n' := 0) (st2 := []) (ws2 := [(o, .inr (1, [.ref a])), (a, .inl (G.2.1 2, z, .inr (.inl (vp_updL h (2 * s) ((h (2 * s)) ||| (bitsF x y))))))]) (c_X2_putHalf K.2.1 G o a z h (2 * s) ((h (2 * s)) ||| (bitsF x y)) (by omega) (by omega)) [0, 1] [] dX2_addRange_17 kw_157 kw_159 kw_43 kw_160 kw_2 hd_X2_putHalf ⟨Nat.le_of_ble_eq_true rfl, Nat.le_of_ble_eq_true rfl⟩ ⟨(by decide), (by decide)⟩ ⟨rfl, rfl⟩ (Nat.le_of_ble_eq_true rfl) rfl rfl rfl rfl rfl rfl (by decide) 0 rfl rfl [0, 1] rfl rfl rfl rfl ?_
  refine v_aload_n dX2_addRange_20 rfl 0 rfl ?_
  refine v_iconst (v := nI 2) dX2_addRange_21 (by decide) ?_
  refine v_iload_n dX2_addRange_22 rfl 1 rfl ?_
  refine n_imul (a := 2) (b := s) (z := 2 * s) dX2_addRange_23 rfl ?_
  refine v_iconst (v := nI 1) dX2_addRange_24 (by decide) ?_
  refine n_iadd (a := 2 * s) (b := 1) (z := (2 * s) + 1) dX2_addRange_25 rfl ?_
  refine v_aload_n dX2_addRange_26 rfl 0 rfl ?_
  refine v_iconst (v := nI 2) dX2_addRange_27 (by decide) ?_
  refine v_iload_n dX2_addRange_28 rfl 1 rfl ?_
  refine n_imul (a := 2) (b := s) (z := 2 * s) dX2_addRange_29 rfl ?_
  refine v_iconst (v := nI 1) dX2_addRange_30 (by decide) ?_
  refine n_iadd (a := 2 * s) (b := 1) (z := (2 * s) + 1) dX2_addRange_31 rfl ?_
  refine c_V1 (ci := 1) (T := TX2) (N := 1) (As := [.int (nI ((2 * s) + 1))]) (rest := [.int (nI ((2 * s) + 1)), .ref o]) (wr := []) (k' := 0) (n' := 0) (st2 := [.long ((vp_updL h (2 * s) ((h (2 * s)) ||| (bitsF x y))) ((2 * s) + 1)), .int (nI ((2 * s) + 1)), .ref o]) (ws2 := [(o, .inr (1, [.ref a])), (a, .inl (G.2.1 2, z, .inr (.inl (vp_updL h (2 * s) ((h (2 * s)) ||| (bitsF x y))))))]) (c_X2_half K.2.1 G o a z (vp_updL h (2 * s) ((h (2 * s)) ||| (bitsF x y))) ((2 * s) + 1) (by omega) (by omega)) [0, 1] [] dX2_addRange_32 kw_149 kw_151 kw_43 kw_152 kw_1 hd_X2_half ⟨Nat.le_of_ble_eq_true rfl, Nat.le_of_ble_eq_true rfl⟩ ⟨(by decide), (by decide)⟩ ⟨rfl, rfl⟩ (Nat.le_of_ble_eq_true rfl) rfl rfl rfl rfl rfl rfl (by decide) 0 rfl rfl [0, 1] rfl rfl rfl rfl ?_
  refine v_iload_n dX2_addRange_35 rfl 2 rfl ?_
  refine v_bipush (v := nI 64) dX2_addRange_36 (by decide) ?_
  refine v_isub dX2_addRange_38 ?_
  refine v_iload_n dX2_addRange_39 rfl 3 rfl ?_
  refine v_bipush (v := nI 64) dX2_addRange_40 (by decide) ?_
  refine v_isub dX2_addRange_42 ?_
  refine c_S1 (As := [.int (x - (nI 64)), .int (y - (nI 64))]) (rest := [.long ((vp_updL h (2 * s) ((h (2 * s)) ||| (bitsF x y))) ((2 * s) + 1)), .int (nI ((2 * s) + 1)), .ref o]) (wr := [(o, .inr (1, [.ref a])), (a, .inl (G.2.1 2, z, .inr (.inl (vp_updL h (2 * s) ((h (2 * s)) ||| (bitsF x y))))))]) (k' := 0) (n' := 0) (st2 := [.long (bitsF (x - (nI 64)) (y - (nI 64))), .long ((vp_updL h (2 * s) ((h (2 * s)) ||| (bitsF x y))) ((2 * s) + 1)), .int (nI ((2 * s) + 1)), .ref o]) (ws2 := [(o, .inr (1, [.ref a])), (a, .inl (G.2.1 2, z, .inr (.inl (vp_updL h (2 * s) ((h (2 * s)) ||| (bitsF x y))))))]) (c_X2_bits K.2.1 G (x - (nI 64)) (y - (nI 64)) ) [] [0, 1] dX2_addRange_43 kw_153 kw_154 kw_43 kw_155 hd_X2_bits ⟨Nat.le_of_ble_eq_true rfl, Nat.le_of_ble_eq_true rfl⟩ ⟨(by decide), (by decide)⟩ ⟨rfl, rfl⟩ (Nat.le_of_ble_eq_true rfl) rfl rfl rfl rfl rfl rfl (by decide) [0, 1] rfl rfl rfl rfl ?_
  refine v_lor dX2_addRange_46 ?_
  refine c_V1 (ci := 1) (T := TX2) (N := 1) (As := [.int (nI ((2 * s) + 1)), .long (((vp_updL h (2 * s) ((h (2 * s)) ||| (bitsF x y))) ((2 * s) + 1)) ||| (bitsF (x - (nI 64)) (y - (nI 64))))]) (rest := []) (wr := []) (k' := 0) (n' := 0) (st2 := []) (ws2 := [(o, .inr (1, [.ref a])), (a, .inl (G.2.1 2, z, .inr (.inl (vp_updL (vp_updL h (2 * s) ((h (2 * s)) ||| (bitsF x y))) ((2 * s) + 1) (((vp_updL h (2 * s) ((h (2 * s)) ||| (bitsF x y))) ((2 * s) + 1)) ||| (bitsF (x - (nI 64)) (y - (nI 64))))))))]) (c_X2_putHalf K.2.1 G o a z (vp_updL h (2 * s) ((h (2 * s)) ||| (bitsF x y))) ((2 * s) + 1) (((vp_updL h (2 * s) ((h (2 * s)) ||| (bitsF x y))) ((2 * s) + 1)) ||| (bitsF (x - (nI 64)) (y - (nI 64)))) (by omega) (by omega)) [0, 1] [] dX2_addRange_47 kw_157 kw_159 kw_43 kw_160 kw_2 hd_X2_putHalf ⟨Nat.le_of_ble_eq_true rfl, Nat.le_of_ble_eq_true rfl⟩ ⟨(by decide), (by decide)⟩ ⟨rfl, rfl⟩ (Nat.le_of_ble_eq_true rfl) rfl rfl rfl rfl rfl rfl (by decide) 0 rfl rfl [0, 1] rfl rfl rfl rfl ?_
  exact v_vret hR dX2_addRange_50 (by exact ⟨rfl, rfl⟩)
theorem dX2_addAll_0 : decode cX2_addAll 0 = .ok (.aload_n 0, 1) := by decide +kernel
theorem dX2_addAll_1 : decode cX2_addAll 1 = .ok (.iconst 2, 1) := by decide +kernel
theorem dX2_addAll_2 : decode cX2_addAll 2 = .ok (.iload_n 1, 1) := by decide +kernel
theorem dX2_addAll_3 : decode cX2_addAll 3 = .ok (.imul, 1) := by decide +kernel
theorem dX2_addAll_4 : decode cX2_addAll 4 = .ok (.aload_n 0, 1) := by decide +kernel
theorem dX2_addAll_5 : decode cX2_addAll 5 = .ok (.iconst 2, 1) := by decide +kernel
theorem dX2_addAll_6 : decode cX2_addAll 6 = .ok (.iload_n 1, 1) := by decide +kernel
theorem dX2_addAll_7 : decode cX2_addAll 7 = .ok (.imul, 1) := by decide +kernel
theorem dX2_addAll_8 : decode cX2_addAll 8 = .ok (.invokevirtual 17, 3) := by decide +kernel
theorem dX2_addAll_11 : decode cX2_addAll 11 = .ok (.aload_n 2, 1) := by decide +kernel
theorem dX2_addAll_12 : decode cX2_addAll 12 = .ok (.iconst 2, 1) := by decide +kernel
theorem dX2_addAll_13 : decode cX2_addAll 13 = .ok (.iload_n 1, 1) := by decide +kernel
theorem dX2_addAll_14 : decode cX2_addAll 14 = .ok (.imul, 1) := by decide +kernel
theorem dX2_addAll_15 : decode cX2_addAll 15 = .ok (.invokevirtual 17, 3) := by decide +kernel
theorem dX2_addAll_18 : decode cX2_addAll 18 = .ok (.lor, 1) := by decide +kernel
theorem dX2_addAll_19 : decode cX2_addAll 19 = .ok (.invokevirtual 13, 3) := by decide +kernel
theorem dX2_addAll_22 : decode cX2_addAll 22 = .ok (.aload_n 0, 1) := by decide +kernel
theorem dX2_addAll_23 : decode cX2_addAll 23 = .ok (.iconst 2, 1) := by decide +kernel
theorem dX2_addAll_24 : decode cX2_addAll 24 = .ok (.iload_n 1, 1) := by decide +kernel
theorem dX2_addAll_25 : decode cX2_addAll 25 = .ok (.imul, 1) := by decide +kernel
theorem dX2_addAll_26 : decode cX2_addAll 26 = .ok (.iconst 1, 1) := by decide +kernel
theorem dX2_addAll_27 : decode cX2_addAll 27 = .ok (.iadd, 1) := by decide +kernel
theorem dX2_addAll_28 : decode cX2_addAll 28 = .ok (.aload_n 0, 1) := by decide +kernel
theorem dX2_addAll_29 : decode cX2_addAll 29 = .ok (.iconst 2, 1) := by decide +kernel
theorem dX2_addAll_30 : decode cX2_addAll 30 = .ok (.iload_n 1, 1) := by decide +kernel
theorem dX2_addAll_31 : decode cX2_addAll 31 = .ok (.imul, 1) := by decide +kernel
theorem dX2_addAll_32 : decode cX2_addAll 32 = .ok (.iconst 1, 1) := by decide +kernel
theorem dX2_addAll_33 : decode cX2_addAll 33 = .ok (.iadd, 1) := by decide +kernel
theorem dX2_addAll_34 : decode cX2_addAll 34 = .ok (.invokevirtual 17, 3) := by decide +kernel
theorem dX2_addAll_37 : decode cX2_addAll 37 = .ok (.aload_n 2, 1) := by decide +kernel
theorem dX2_addAll_38 : decode cX2_addAll 38 = .ok (.iconst 2, 1) := by decide +kernel
theorem dX2_addAll_39 : decode cX2_addAll 39 = .ok (.iload_n 1, 1) := by decide +kernel
theorem dX2_addAll_40 : decode cX2_addAll 40 = .ok (.imul, 1) := by decide +kernel
theorem dX2_addAll_41 : decode cX2_addAll 41 = .ok (.iconst 1, 1) := by decide +kernel
theorem dX2_addAll_42 : decode cX2_addAll 42 = .ok (.iadd, 1) := by decide +kernel
theorem dX2_addAll_43 : decode cX2_addAll 43 = .ok (.invokevirtual 17, 3) := by decide +kernel
theorem dX2_addAll_46 : decode cX2_addAll 46 = .ok (.lor, 1) := by decide +kernel
theorem dX2_addAll_47 : decode cX2_addAll 47 = .ok (.invokevirtual 13, 3) := by decide +kernel
theorem dX2_addAll_50 : decode cX2_addAll 50 = .ok (.return_, 1) := by decide +kernel
theorem hd_X2_addAll : yX2_addAll.cls ≠ "java/lang/invoke/MethodHandle" ∧ yX2_addAll.cls ≠ "java/lang/invoke/VarHandle" ∧ (parseMethodDescriptor yX2_addAll.desc).map (fun d => d.parameters.length) = some 2 := by decide +kernel
abbrev rm_X2_addAll : Room := { frames := 1, cells := 0, slots := 0, locals := 23 }
set_option maxHeartbeats 4000000 in
set_option maxRecDepth 100000 in
theorem c_X2_addAll (l : Launch) (G : Gx) (o : Nat) (a : Nat) (z : Nat) (h : Nat → Int64) (o2 : Nat) (a2 : Nat) (z2 : Nat) (g : Nat → Int64) (s : Nat) (hz : z ≤ 2000) (hs : 2 * s + 1 < z) (hz2 : z2 ≤ 2000) (hs2 : 2 * s + 1 < z2) : Mt l G yX2_addAll cX2_addAll 3 none rm_X2_addAll [.ref o, .int (nI s), .ref o2] [(o, .inr (1, [.ref a])), (a, .inl (G.2.1 2, z, .inr (.inl h))), (o2, .inr (1, [.ref a2])), (a2, .inl (G.2.1 2, z2, .inr (.inl g)))] (D1 none [(o, .inr (1, [.ref a])), (a, .inl (G.2.1 2, z, .inr (.inl (allH h g s)))), (o2, .inr (1, [.ref a2])), (a2, .inl (G.2.1 2, z2, .inr (.inl g)))]) := by
  refine Mt.of (by decide) (Nat.le_of_ble_eq_true rfl) ?_
  intro K hl9 hn9 hR
  show V K G cX2_addAll RX2 3 rm_X2_addAll 0 0 0 [(0, .ref o), (1, .int (nI s)), (2, .ref o2)] [] [(o, .inr (1, [.ref a])), (a, .inl (G.2.1 2, z, .inr (.inl h))), (o2, .inr (1, [.ref a2])), (a2, .inl (G.2.1 2, z2, .inr (.inl g)))]
  refine v_aload_n dX2_addAll_0 rfl 0 rfl ?_
  refine v_iconst (v := nI 2) dX2_addAll_1 (by decide) ?_
  refine v_iload_n dX2_addAll_2 rfl 1 rfl ?_
  refine n_imul (a := 2) (b := s) (z := 2 * s) dX2_addAll_3 rfl ?_
  refine v_aload_n dX2_addAll_4 rfl 0 rfl ?_
  refine v_iconst (v := nI 2) dX2_addAll_5 (by decide) ?_
  refine v_iload_n dX2_addAll_6 rfl 1 rfl ?_
  refine n_imul (a := 2) (b := s) (z := 2 * s) dX2_addAll_7 rfl ?_
  refine c_V1 (ci := 1) (T := TX2) (N := 1) (As := [.int (nI (2 * s))]) (rest := [.int (nI (2 * s)), .ref o]) (wr := [(o2, .inr (1, [.ref a2])), (a2, .inl (G.2.1 2, z2, .inr (.inl g)))]) (k' := 0) (n' := 0) (st2 := [.long (h (2 * s)), .int (nI (2 * s)), .ref o]) (ws2 := [(o, .inr (1, [.ref a])), (a, .inl (G.2.1 2, z, .inr (.inl h))), (o2, .inr (1, [.ref a2])), (a2, .inl (G.2.1 2, z2, .inr (.inl g)))]) (c_X2_half K.2.1 G o a z h (2 * s) (by omega) (by omega)) [0, 1] [2, 3] dX2_addAll_8 kw_149 kw_151 kw_43 kw_152 kw_1 hd_X2_half ⟨Nat.le_of_ble_eq_true rfl, Nat.le_of_ble_eq_true rfl⟩ ⟨(by decide), (by decide)⟩ ⟨rfl, rfl⟩ (Nat.le_of_ble_eq_true rfl) rfl rfl rfl rfl rfl rfl (by decide) 0 rfl rfl [2, 3, 0, 1] rfl rfl rfl rfl ?_
  refine v_aload_n dX2_addAll_11 rfl 2 rfl ?_
  refine v_iconst (v := nI 2) dX2_addAll_12 (by decide) ?_
  refine v_iload_n dX2_addAll_13 rfl 1 rfl ?_
  refine n_imul (a := 2) (b := s) (z := 2 * s) dX2_addAll_14 rfl ?_
  refine c_V1 (ci := 1) (T := TX2) (N := 1) (As := [.int (nI (2 * s))]) (rest := [.long (h (2 * s)), .int (nI (2 * s)), .ref o]) (wr := [(o, .inr (1, [.ref a])), (a, .inl (G.2.1 2, z, .inr (.inl h)))]) (k' := 0) (n' := 0) (st2 := [.long (g (2 * s)), .long (h (2 * s)), .int (nI (2 * s)), .ref o]) (ws2 := [(o, .inr (1, [.ref a])), (a, .inl (G.2.1 2, z, .inr (.inl h))), (o2, .inr (1, [.ref a2])), (a2, .inl (G.2.1 2, z2, .inr (.inl g)))]) (c_X2_half K.2.1 G o2 a2 z2 g (2 * s) (by omega) (by omega)) [2, 3] [0, 1] dX2_addAll_15 kw_149 kw_151 kw_43 kw_152 kw_1 hd_X2_half ⟨Nat.le_of_ble_eq_true rfl, Nat.le_of_ble_eq_true rfl⟩ ⟨(by decide), (by decide)⟩ ⟨rfl, rfl⟩ (Nat.le_of_ble_eq_true rfl) rfl rfl rfl rfl rfl rfl (by decide) 2 rfl rfl [0, 1, 2, 3] rfl rfl rfl rfl ?_
  refine v_lor dX2_addAll_18 ?_
  refine c_V1 (ci := 1) (T := TX2) (N := 1) (As := [.int (nI (2 * s)), .long ((h (2 * s)) ||| (g (2 * s)))]) (rest := []) (wr := [(o2, .inr (1, [.ref a2])), (a2, .inl (G.2.1 2, z2, .inr (.inl g)))]) (k' := 0) (n' := 0) (st2 := []) (ws2 := [(o, .inr (1, [.ref a])), (a, .inl (G.2.1 2, z, .inr (.inl (vp_updL h (2 * s) ((h (2 * s)) ||| (g (2 * s))))))), (o2, .inr (1, [.ref a2])), (a2, .inl (G.2.1 2, z2, .inr (.inl g)))]) (c_X2_putHalf K.2.1 G o a z h (2 * s) ((h (2 * s)) ||| (g (2 * s))) (by omega) (by omega)) [0, 1] [2, 3] dX2_addAll_19 kw_157 kw_159 kw_43 kw_160 kw_2 hd_X2_putHalf ⟨Nat.le_of_ble_eq_true rfl, Nat.le_of_ble_eq_true rfl⟩ ⟨(by decide), (by decide)⟩ ⟨rfl, rfl⟩ (Nat.le_of_ble_eq_true rfl) rfl rfl rfl rfl rfl rfl (by decide) 0 rfl rfl [2, 3, 0, 1] rfl rfl rfl rfl ?_
  refine v_aload_n dX2_addAll_22 rfl 0 rfl ?_
  refine v_iconst (v := nI 2) dX2_addAll_23 (by decide) ?_
  refine v_iload_n dX2_addAll_24 rfl 1 rfl ?_
  refine n_imul (a := 2) (b := s) (z := 2 * s) dX2_addAll_25 rfl ?_
  refine v_iconst (v := nI 1) dX2_addAll_26 (by decide) ?_
  refine n_iadd (a := 2 * s) (b := 1) (z := (2 * s) + 1) dX2_addAll_27 rfl ?_
  refine v_aload_n dX2_addAll_28 rfl 0 rfl ?_
  refine v_iconst (v := nI 2) dX2_addAll_29 (by decide) ?_
  refine v_iload_n dX2_addAll_30 rfl 1 rfl ?_
  refine n_imul (a := 2) (b := s) (z := 2 * s) dX2_addAll_31 rfl ?_
  refine v_iconst (v := nI 1) dX2_addAll_32 (by decide) ?_
  refine n_iadd (a := 2 * s) (b := 1) (z := (2 * s) + 1) dX2_addAll_33 rfl ?_
  refine c_V1 (ci := 1) (T := TX2) (N := 1) (As := [.int (nI ((2 * s) + 1))]) (rest := [.int (nI ((2 * s) + 1)), .ref o]) (wr := [(o2, .inr (1, [.ref a2])), (a2, .inl (G.2.1 2, z2, .inr (.inl g)))]) (k' := 0) (n' := 0) (st2 := [.long ((vp_updL h (2 * s) ((h (2 * s)) ||| (g (2 * s)))) ((2 * s) + 1)), .int (nI ((2 * s) + 1)), .ref o]) (ws2 := [(o, .inr (1, [.ref a])), (a, .inl (G.2.1 2, z, .inr (.inl (vp_updL h (2 * s) ((h (2 * s)) ||| (g (2 * s))))))), (o2, .inr (1, [.ref a2])), (a2, .inl (G.2.1 2, z2, .inr (.inl g)))]) (c_X2_half K.2.1 G o a z (vp_updL h (2 * s) ((h (2 * s)) ||| (g (2 * s)))) ((2 * s) + 1) (by omega) (by omega)) [0, 1] [2, 3] dX2_addAll_34 kw_149 kw_151 kw_43 kw_152 kw_1 hd_X2_half ⟨Nat.le_of_ble_eq_true rfl, Nat.le_of_ble_eq_true rfl⟩ ⟨(by decide), (by decide)⟩ ⟨rfl, rfl⟩ (Nat.le_of_ble_eq_true rfl) rfl rfl rfl rfl rfl rfl (by decide) 0 rfl rfl [2, 3, 0, 1] rfl rfl rfl rfl ?_
  refine v_aload_n dX2_addAll_37 rfl 2 rfl ?_
  refine v_iconst (v := nI 2) dX2_addAll_38 (by decide) ?_
  refine v_iload_n dX2_addAll_39 rfl 1 rfl ?_
  refine n_imul (a := 2) (b := s) (z := 2 * s) dX2_addAll_40 rfl ?_
  refine v_iconst (v := nI 1) dX2_addAll_41 (by decide) ?_
  refine n_iadd (a := 2 * s) (b := 1) (z := (2 * s) + 1) dX2_addAll_42 rfl ?_
  refine c_V1 (ci := 1) (T := TX2) (N := 1) (As := [.int (nI ((2 * s) + 1))]) (rest := [.long ((vp_updL h (2 * s) ((h (2 * s)) ||| (g (2 * s)))) ((2 * s) + 1)), .int (nI ((2 * s) + 1)), .ref o]) (wr := [(o, .inr (1, [.ref a])), (a, .inl (G.2.1 2, z, .inr (.inl (vp_updL h (2 * s) ((h (2 * s)) ||| (g (2 * s)))))))]) (k' := 0) (n' := 0) (st2 := [.long (g ((2 * s) + 1)), .long ((vp_updL h (2 * s) ((h (2 * s)) ||| (g (2 * s)))) ((2 * s) + 1)), .int (nI ((2 * s) + 1)), .ref o]) (ws2 := [(o, .inr (1, [.ref a])), (a, .inl (G.2.1 2, z, .inr (.inl (vp_updL h (2 * s) ((h (2 * s)) ||| (g (2 * s))))))), (o2, .inr (1, [.ref a2])), (a2, .inl (G.2.1 2, z2, .inr (.inl g)))]) (c_X2_half K.2.1 G o2 a2 z2 g ((2 * s) + 1) (by omega) (by omega)) [2, 3] [0, 1] dX2_addAll_43 kw_149 kw_151 kw_43 kw_152 kw_1 hd_X2_half ⟨Nat.le_of_ble_eq_true rfl, Nat.le_of_ble_eq_true rfl⟩ ⟨(by decide), (by decide)⟩ ⟨rfl, rfl⟩ (Nat.le_of_ble_eq_true rfl) rfl rfl rfl rfl rfl rfl (by decide) 2 rfl rfl [0, 1, 2, 3] rfl rfl rfl rfl ?_
  refine v_lor dX2_addAll_46 ?_
  refine c_V1 (ci := 1) (T := TX2) (N := 1) (As := [.int (nI ((2 * s) + 1)), .long (((vp_updL h (2 * s) ((h (2 * s)) ||| (g (2 * s)))) ((2 * s) + 1)) ||| (g ((2 * s) + 1)))]) (rest := []) (wr := [(o2, .inr (1, [.ref a2])), (a2, .inl (G.2.1 2, z2, .inr (.inl g)))]) (k' := 0) (n' := 0) (st2 := []) (ws2 := [(o, .inr (1, [.ref a])), (a, .inl (G.2.1 2, z, .inr (.inl (vp_updL (vp_updL h (2 * s) ((h (2 * s)) ||| (g (2 * s)))) ((2 * s) + 1) (((vp_updL h (2 * s) ((h (2 * s)) ||| (g (2 * s)))) ((2 * s) + 1)) ||| (g ((2 * s) + 1))))))), (o2, .inr (1, [.ref a2])), (a2, .inl (G.2.1 2, z2, .inr (.inl g)))]) (c_X2_putHalf K.2.1 G o a z (vp_updL h (2 * s) ((h (2 * s)) ||| (g (2 * s)))) ((2 * s) + 1) (((vp_updL h (2 * s) ((h (2 * s)) ||| (g (2 * s)))) ((2 * s) + 1)) ||| (g ((2 * s) + 1))) (by omega) (by omega)) [0, 1] [2, 3] dX2_addAll_47 kw_157 kw_159 kw_43 kw_160 kw_2 hd_X2_putHalf ⟨Nat.le_of_ble_eq_true rfl, Nat.le_of_ble_eq_true rfl⟩ ⟨(by decide), (by decide)⟩ ⟨rfl, rfl⟩ (Nat.le_of_ble_eq_true rfl) rfl rfl rfl rfl rfl rfl (by decide) 0 rfl rfl [2, 3, 0, 1] rfl rfl rfl rfl ?_
  exact v_vret hR dX2_addAll_50 (by exact ⟨rfl, rfl⟩)
theorem dX2_hasRange_0 : decode cX2_hasRange 0 = .ok (.iload_n 2, 1) := by decide +kernel
theorem dX2_hasRange_1 : decode cX2_hasRange 1 = .ok (.iload_n 3, 1) := by decide +kernel
theorem dX2_hasRange_2 : decode cX2_hasRange 2 = .ok (.invokestatic 21, 3) := by decide +kernel
theorem dX2_hasRange_5 : decode cX2_hasRange 5 = .ok (.aload_n 0, 1) := by decide +kernel
theorem dX2_hasRange_6 : decode cX2_hasRange 6 = .ok (.iconst 2, 1) := by decide +kernel
theorem dX2_hasRange_7 : decode cX2_hasRange 7 = .ok (.iload_n 1, 1) := by decide +kernel
theorem dX2_hasRange_8 : decode cX2_hasRange 8 = .ok (.imul, 1) := by decide +kernel
theorem dX2_hasRange_9 : decode cX2_hasRange 9 = .ok (.invokevirtual 17, 3) := by decide +kernel
theorem dX2_hasRange_12 : decode cX2_hasRange 12 = .ok (.ldc2_w 25, 3) := by decide +kernel
theorem dX2_hasRange_15 : decode cX2_hasRange 15 = .ok (.lxor, 1) := by decide +kernel
theorem dX2_hasRange_16 : decode cX2_hasRange 16 = .ok (.land, 1) := by decide +kernel
theorem dX2_hasRange_17 : decode cX2_hasRange 17 = .ok (.lconst 0, 1) := by decide +kernel
theorem dX2_hasRange_18 : decode cX2_hasRange 18 = .ok (.lcmp, 1) := by decide +kernel
theorem dX2_hasRange_19 : decode cX2_hasRange 19 = .ok (.ifCond .ne 37, 3) := by decide +kernel
theorem dX2_hasRange_22 : decode cX2_hasRange 22 = .ok (.iload_n 2, 1) := by decide +kernel
theorem dX2_hasRange_23 : decode cX2_hasRange 23 = .ok (.bipush 64, 2) := by decide +kernel
theorem dX2_hasRange_25 : decode cX2_hasRange 25 = .ok (.isub, 1) := by decide +kernel
theorem dX2_hasRange_26 : decode cX2_hasRange 26 = .ok (.iload_n 3, 1) := by decide +kernel
theorem dX2_hasRange_27 : decode cX2_hasRange 27 = .ok (.bipush 64, 2) := by decide +kernel
theorem dX2_hasRange_29 : decode cX2_hasRange 29 = .ok (.isub, 1) := by decide +kernel
theorem dX2_hasRange_30 : decode cX2_hasRange 30 = .ok (.invokestatic 21, 3) := by decide +kernel
theorem dX2_hasRange_33 : decode cX2_hasRange 33 = .ok (.aload_n 0, 1) := by decide +kernel
theorem dX2_hasRange_34 : decode cX2_hasRange 34 = .ok (.iconst 2, 1) := by decide +kernel
theorem dX2_hasRange_35 : decode cX2_hasRange 35 = .ok (.iload_n 1, 1) := by decide +kernel
theorem dX2_hasRange_36 : decode cX2_hasRange 36 = .ok (.imul, 1) := by decide +kernel
theorem dX2_hasRange_37 : decode cX2_hasRange 37 = .ok (.iconst 1, 1) := by decide +kernel
theorem dX2_hasRange_38 : decode cX2_hasRange 38 = .ok (.iadd, 1) := by decide +kernel
theorem dX2_hasRange_39 : decode cX2_hasRange 39 = .ok (.invokevirtual 17, 3) := by decide +kernel
theorem dX2_hasRange_42 : decode cX2_hasRange 42 = .ok (.ldc2_w 25, 3) := by decide +kernel
theorem dX2_hasRange_45 : decode cX2_hasRange 45 = .ok (.lxor, 1) := by decide +kernel
theorem dX2_hasRange_46 : decode cX2_hasRange 46 = .ok (.land, 1) := by decide +kernel
theorem dX2_hasRange_47 : decode cX2_hasRange 47 = .ok (.lconst 0, 1) := by decide +kernel
theorem dX2_hasRange_48 : decode cX2_hasRange 48 = .ok (.lcmp, 1) := by decide +kernel
theorem dX2_hasRange_49 : decode cX2_hasRange 49 = .ok (.ifCond .ne 7, 3) := by decide +kernel
theorem dX2_hasRange_52 : decode cX2_hasRange 52 = .ok (.iconst 1, 1) := by decide +kernel
theorem dX2_hasRange_53 : decode cX2_hasRange 53 = .ok (.goto 4, 3) := by decide +kernel
theorem dX2_hasRange_56 : decode cX2_hasRange 56 = .ok (.iconst 0, 1) := by decide +kernel
theorem dX2_hasRange_57 : decode cX2_hasRange 57 = .ok (.ireturn, 1) := by decide +kernel
theorem hd_X2_hasRange : yX2_hasRange.cls ≠ "java/lang/invoke/MethodHandle" ∧ yX2_hasRange.cls ≠ "java/lang/invoke/VarHandle" ∧ (parseMethodDescriptor yX2_hasRange.desc).map (fun d => d.parameters.length) = some 3 := by decide +kernel
abbrev rm_X2_hasRange : Room := { frames := 1, cells := 0, slots := 0, locals := 23 }
set_option maxHeartbeats 4000000 in
set_option maxRecDepth 100000 in
theorem c_X2_hasRange (l : Launch) (G : Gx) (o : Nat) (a : Nat) (z : Nat) (h : Nat → Int64) (s : Nat) (x : Int32) (y : Int32) (hz : z ≤ 2000) (hs : 2 * s + 1 < z) : Mt l G yX2_hasRange cX2_hasRange 4 (some .boolean) rm_X2_hasRange [.ref o, .int (nI s), .int x, .int y] [(o, .inr (1, [.ref a])), (a, .inl (G.2.1 2, z, .inr (.inl h)))] (D1 (some (.int (bI (hasR h s x y)))) [(o, .inr (1, [.ref a])), (a, .inl (G.2.1 2, z, .inr (.inl h)))]) := by
  refine Mt.of (by decide) (Nat.le_of_ble_eq_true rfl) ?_
  intro K hl9 hn9 hR
  show V K G cX2_hasRange RX2 4 rm_X2_hasRange 0 0 0 [(0, .ref o), (1, .int (nI s)), (2, .int x), (3, .int y)] [] [(o, .inr (1, [.ref a])), (a, .inl (G.2.1 2, z, .inr (.inl h)))]
  refine v_iload_n dX2_hasRange_0 rfl 2 rfl ?_
  refine v_iload_n dX2_hasRange_1 rfl 3 rfl ?_
  refine c_S1 (As := [.int x, .int y]) (rest := []) (wr := [(o, .inr (1, [.ref a])), (a, .inl (G.2.1 2, z, .inr (.inl h)))]) (k' := 0) (n' := 0) (st2 := [.long (bitsF x y)]) (ws2 := [(o, .inr (1, [.ref a])), (a, .inl (G.2.1 2, z, .inr (.inl h)))]) (c_X2_bits K.2.1 G x y ) [] [0, 1] dX2_hasRange_2 kw_153 kw_154 kw_43 kw_155 hd_X2_bits ⟨Nat.le_of_ble_eq_true rfl, Nat.le_of_ble_eq_true rfl⟩ ⟨(by decide), (by decide)⟩ ⟨rfl, rfl⟩ (Nat.le_of_ble_eq_true rfl) rfl rfl rfl rfl rfl rfl (by decide) [0, 1] rfl rfl rfl rfl ?_
  refine v_aload_n dX2_hasRange_5 rfl 0 rfl ?_
  refine v_iconst (v := nI 2) dX2_hasRange_6 (by decide) ?_
  refine v_iload_n dX2_hasRange_7 rfl 1 rfl ?_
  refine n_imul (a := 2) (b := s) (z := 2 * s) dX2_hasRange_8 rfl ?_
  refine c_V1 (ci := 1) (T := TX2) (N := 1) (As := [.int (nI (2 * s))]) (rest := [.long (bitsF x y)]) (wr := []) (k' := 0) (n' := 0) (st2 := [.long (h (2 * s)), .long (bitsF x y)]) (ws2 := [(o, .inr (1, [.ref a])), (a, .inl (G.2.1 2, z, .inr (.inl h)))]) (c_X2_half K.2.1 G o a z h (2 * s) (by omega) (by omega)) [0, 1] [] dX2_hasRange_9 kw_149 kw_151 kw_43 kw_152 kw_1 hd_X2_half ⟨Nat.le_of_ble_eq_true rfl, Nat.le_of_ble_eq_true rfl⟩ ⟨(by decide), (by decide)⟩ ⟨rfl, rfl⟩ (Nat.le_of_ble_eq_true rfl) rfl rfl rfl rfl rfl rfl (by decide) 0 rfl rfl [0, 1] rfl rfl rfl rfl ?_
  refine v_ldc2 (v := (-1)) dX2_hasRange_12 kw_156 ?_
  refine v_lxor dX2_hasRange_15 ?_
  refine v_land dX2_hasRange_16 ?_
  refine v_lconst (v := 0) dX2_hasRange_17 (by decide) ?_
  refine v_lcmp dX2_hasRange_18 ?_
  refine v_if_ne (tgt := 56) dX2_hasRange_19 (by decide) (fun c19 => ?_) (fun c19 => ?_)
  ·
    refine v_iconst (v := nI 0) dX2_hasRange_56 (by decide) ?_
    refine v_eqi (y := bI false) (by decide) ?_
    exact v_zret hR dX2_hasRange_57 (bI_nar _) (by refine ⟨?_, rfl⟩; unfold hasR; simp only [lg0] at *; simp only [*, decide_true, decide_false, Bool.and_true, Bool.true_and, Bool.false_and, Bool.and_false])
  ·
    refine v_iload_n dX2_hasRange_22 rfl 2 rfl ?_
    refine v_bipush (v := nI 64) dX2_hasRange_23 (by decide) ?_
    refine v_isub dX2_hasRange_25 ?_
    refine v_iload_n dX2_hasRange_26 rfl 3 rfl ?_
    refine v_bipush (v := nI 64) dX2_hasRange_27 (by decide) ?_
    refine v_isub dX2_hasRange_29 ?_
    refine c_S1 (As := [.int (x - (nI 64)), .int (y - (nI 64))]) (rest := []) (wr := [(o, .inr (1, [.ref a])), (a, .inl (G.2.1 2, z, .inr (.inl h)))]) (k' := 0) (n' := 0) (st2 := [.long (bitsF (x - (nI 64)) (y - (nI 64)))]) (ws2 := [(o, .inr (1, [.ref a])), (a, .inl (G.2.1 2, z, .inr (.inl h)))]) (c_X2_bits K.2.1 G (x - (nI 64)) (y - (nI 64)) ) [] [0, 1] dX2_hasRange_30 kw_153 kw_154 kw_43 kw_155 hd_X2_bits ⟨Nat.le_of_ble_eq_true rfl, Nat.le_of_ble_eq_true rfl⟩ ⟨(by decide), (by decide)⟩ ⟨rfl, rfl⟩ (Nat.le_of_ble_eq_true rfl) rfl rfl rfl rfl rfl rfl (by decide) [0, 1] rfl rfl rfl rfl ?_
    refine v_aload_n dX2_hasRange_33 rfl 0 rfl ?_
    refine v_iconst (v := nI 2) dX2_hasRange_34 (by decide) ?_
    refine v_iload_n dX2_hasRange_35 rfl 1 rfl ?_
    refine n_imul (a := 2) (b := s) (z := 2 * s) dX2_hasRange_36 rfl ?_
    refine v_iconst (v := nI 1) dX2_hasRange_37 (by decide) ?_
    refine n_iadd (a := 2 * s) (b := 1) (z := (2 * s) + 1) dX2_hasRange_38 rfl ?_
    refine c_V1 (ci := 1) (T := TX2) (N := 1) (As := [.int (nI ((2 * s) + 1))]) (rest := [.long (bitsF (x - (nI 64)) (y - (nI 64)))]) (wr := []) (k' := 0) (n' := 0) (st2 := [.long (h ((2 * s) + 1)), .long (bitsF (x - (nI 64)) (y - (nI 64)))]) (ws2 := [(o, .inr (1, [.ref a])), (a, .inl (G.2.1 2, z, .inr (.inl h)))]) (c_X2_half K.2.1 G o a z h ((2 * s) + 1) (by omega) (by omega)) [0, 1] [] dX2_hasRange_39 kw_149 kw_151 kw_43 kw_152 kw_1 hd_X2_half ⟨Nat.le_of_ble_eq_true rfl, Nat.le_of_ble_eq_true rfl⟩ ⟨(by decide), (by decide)⟩ ⟨rfl, rfl⟩ (Nat.le_of_ble_eq_true rfl) rfl rfl rfl rfl rfl rfl (by decide) 0 rfl rfl [0, 1] rfl rfl rfl rfl ?_
    refine v_ldc2 (v := (-1)) dX2_hasRange_42 kw_156 ?_
    refine v_lxor dX2_hasRange_45 ?_
    refine v_land dX2_hasRange_46 ?_
    refine v_lconst (v := 0) dX2_hasRange_47 (by decide) ?_
    refine v_lcmp dX2_hasRange_48 ?_
    refine v_if_ne (tgt := 56) dX2_hasRange_49 (by decide) (fun c49 => ?_) (fun c49 => ?_)
    ·
      refine v_iconst (v := nI 0) dX2_hasRange_56 (by decide) ?_
      refine v_eqi (y := bI false) (by decide) ?_
      exact v_zret hR dX2_hasRange_57 (bI_nar _) (by refine ⟨?_, rfl⟩; unfold hasR; simp only [lg0] at *; simp only [*, decide_true, decide_false, Bool.and_true, Bool.true_and, Bool.false_and, Bool.and_false])
    ·
      refine v_iconst (v := nI 1) dX2_hasRange_52 (by decide) ?_
      refine v_goto (tgt := 57) dX2_hasRange_53 (by decide) ?_
      refine v_eqi (y := bI true) (by decide) ?_
      exact v_zret hR dX2_hasRange_57 (bI_nar _) (by refine ⟨?_, rfl⟩; unfold hasR; simp only [lg0] at *; simp only [*, decide_true, decide_false, Bool.and_true, Bool.true_and, Bool.false_and, Bool.and_false])
theorem dX2_size_0 : decode cX2_size 0 = .ok (.aload_n 0, 1) := by decide +kernel
theorem dX2_size_1 : decode cX2_size 1 = .ok (.iconst 2, 1) := by decide +kernel
theorem dX2_size_2 : decode cX2_size 2 = .ok (.iload_n 1, 1) := by decide +kernel
theorem dX2_size_3 : decode cX2_size 3 = .ok (.imul, 1) := by decide +kernel
theorem dX2_size_4 : decode cX2_size 4 = .ok (.invokevirtual 17, 3) := by decide +kernel
theorem dX2_size_7 : decode cX2_size 7 = .ok (.invokestatic 27, 3) := by decide +kernel
theorem dX2_size_10 : decode cX2_size 10 = .ok (.aload_n 0, 1) := by decide +kernel
theorem dX2_size_11 : decode cX2_size 11 = .ok (.iconst 2, 1) := by decide +kernel
theorem dX2_size_12 : decode cX2_size 12 = .ok (.iload_n 1, 1) := by decide +kernel
theorem dX2_size_13 : decode cX2_size 13 = .ok (.imul, 1) := by decide +kernel
theorem dX2_size_14 : decode cX2_size 14 = .ok (.iconst 1, 1) := by decide +kernel
theorem dX2_size_15 : decode cX2_size 15 = .ok (.iadd, 1) := by decide +kernel
theorem dX2_size_16 : decode cX2_size 16 = .ok (.invokevirtual 17, 3) := by decide +kernel
theorem dX2_size_19 : decode cX2_size 19 = .ok (.invokestatic 27, 3) := by decide +kernel
theorem dX2_size_22 : decode cX2_size 22 = .ok (.iadd, 1) := by decide +kernel
theorem dX2_size_23 : decode cX2_size 23 = .ok (.ireturn, 1) := by decide +kernel
theorem hd_X2_size : yX2_size.cls ≠ "java/lang/invoke/MethodHandle" ∧ yX2_size.cls ≠ "java/lang/invoke/VarHandle" ∧ (parseMethodDescriptor yX2_size.desc).map (fun d => d.parameters.length) = some 1 := by decide +kernel
abbrev rm_X2_size : Room := { frames := 1, cells := 0, slots := 0, locals := 21 }
set_option maxHeartbeats 4000000 in
set_option maxRecDepth 100000 in
theorem c_X2_size (l : Launch) (G : Gx) (o : Nat) (a : Nat) (z : Nat) (h : Nat → Int64) (s : Nat) (hz : z ≤ 2000) (hs : 2 * s + 1 < z) : Mt l G yX2_size cX2_size 2 (some .int) rm_X2_size [.ref o, .int (nI s)] [(o, .inr (1, [.ref a])), (a, .inl (G.2.1 2, z, .inr (.inl h)))] (D1 (some (.int (popF (h (2 * s)) + popF (h (2 * s + 1))))) [(o, .inr (1, [.ref a])), (a, .inl (G.2.1 2, z, .inr (.inl h)))]) := by
  refine Mt.of (by decide) (Nat.le_of_ble_eq_true rfl) ?_
  intro K hl9 hn9 hR
  show V K G cX2_size RX2 2 rm_X2_size 0 0 0 [(0, .ref o), (1, .int (nI s))] [] [(o, .inr (1, [.ref a])), (a, .inl (G.2.1 2, z, .inr (.inl h)))]
  refine v_aload_n dX2_size_0 rfl 0 rfl ?_
  refine v_iconst (v := nI 2) dX2_size_1 (by decide) ?_
  refine v_iload_n dX2_size_2 rfl 1 rfl ?_
  refine n_imul (a := 2) (b := s) (z := 2 * s) dX2_size_3 rfl ?_
  refine c_V1 (ci := 1) (T := TX2) (N := 1) (As := [.int (nI (2 * s))]) (rest := []) (wr := []) (k' := 0) (n' := 0) (st2 := [.long (h (2 * s))]) (ws2 := [(o, .inr (1, [.ref a])), (a, .inl (G.2.1 2, z, .inr (.inl h)))]) (c_X2_half K.2.1 G o a z h (2 * s) (by omega) (by omega)) [0, 1] [] dX2_size_4 kw_149 kw_151 kw_43 kw_152 kw_1 hd_X2_half ⟨Nat.le_of_ble_eq_true rfl, Nat.le_of_ble_eq_true rfl⟩ ⟨(by decide), (by decide)⟩ ⟨rfl, rfl⟩ (Nat.le_of_ble_eq_true rfl) rfl rfl rfl rfl rfl rfl (by decide) 0 rfl rfl [0, 1] rfl rfl rfl rfl ?_
  refine c_S1 (As := [.long (h (2 * s))]) (rest := []) (wr := [(o, .inr (1, [.ref a])), (a, .inl (G.2.1 2, z, .inr (.inl h)))]) (k' := 0) (n' := 0) (st2 := [.int (popF (h (2 * s)))]) (ws2 := [(o, .inr (1, [.ref a])), (a, .inl (G.2.1 2, z, .inr (.inl h)))]) (c_J13_bitCount_95d88 K.2.1 G (h (2 * s)) ) [] [0, 1] dX2_size_7 kw_386 kw_387 kw_60 kw_388 hd_J13_bitCount_95d88 ⟨Nat.le_of_ble_eq_true rfl, Nat.le_of_ble_eq_true rfl⟩ ⟨(by decide), (by decide)⟩ ⟨rfl, rfl⟩ (Nat.le_of_ble_eq_true rfl) rfl rfl rfl rfl rfl rfl (by decide) [0, 1] rfl rfl rfl rfl ?_
  refine v_aload_n dX2_size_10 rfl 0 rfl ?_
  refine v_iconst (v := nI 2) dX2_size_11 (by decide) ?_
  refine v_iload_n dX2_size_12 rfl 1 rfl ?_
  refine n_imul (a := 2) (b := s) (z := 2 * s) dX2_size_13 rfl ?_
  refine v_iconst (v := nI 1) dX2_size_14 (by decide) ?_
  refine n_iadd (a := 2 * s) (b := 1) (z := (2 * s) + 1) dX2_size_15 rfl ?_
  refine c_V1 (ci := 1) (T := TX2) (N := 1) (As := [.int (nI ((2 * s) + 1))]) (rest := [.int (popF (h (2 * s)))]) (wr := []) (k' := 0) (n' := 0) (st2 := [.long (h ((2 * s) + 1)), .int (popF (h (2 * s)))]) (ws2 := [(o, .inr (1, [.ref a])), (a, .inl (G.2.1 2, z, .inr (.inl h)))]) (c_X2_half K.2.1 G o a z h ((2 * s) + 1) (by omega) (by omega)) [0, 1] [] dX2_size_16 kw_149 kw_151 kw_43 kw_152 kw_1 hd_X2_half ⟨Nat.le_of_ble_eq_true rfl, Nat.le_of_ble_eq_true rfl⟩ ⟨(by decide), (by decide)⟩ ⟨rfl, rfl⟩ (Nat.le_of_ble_eq_true rfl) rfl rfl rfl rfl rfl rfl (by decide) 0 rfl rfl [0, 1] rfl rfl rfl rfl ?_
  refine c_S1 (As := [.long (h ((2 * s) + 1))]) (rest := [.int (popF (h (2 * s)))]) (wr := [(o, .inr (1, [.ref a])), (a, .inl (G.2.1 2, z, .inr (.inl h)))]) (k' := 0) (n' := 0) (st2 := [.int (popF (h ((2 * s) + 1))), .int (popF (h (2 * s)))]) (ws2 := [(o, .inr (1, [.ref a])), (a, .inl (G.2.1 2, z, .inr (.inl h)))]) (c_J13_bitCount_95d88 K.2.1 G (h ((2 * s) + 1)) ) [] [0, 1] dX2_size_19 kw_386 kw_387 kw_60 kw_388 hd_J13_bitCount_95d88 ⟨Nat.le_of_ble_eq_true rfl, Nat.le_of_ble_eq_true rfl⟩ ⟨(by decide), (by decide)⟩ ⟨rfl, rfl⟩ (Nat.le_of_ble_eq_true rfl) rfl rfl rfl rfl rfl rfl (by decide) [0, 1] rfl rfl rfl rfl ?_
  refine v_iadd dX2_size_22 ?_
  exact v_iret hR dX2_size_23 (by exact ⟨rfl, rfl⟩)
theorem dX5_init_0 : decode cX5_init 0 = .ok (.aload_n 0, 1) := by decide +kernel
theorem dX5_init_1 : decode cX5_init 1 = .ok (.invokespecial 3, 3) := by decide +kernel
theorem dX5_init_4 : decode cX5_init 4 = .ok (.aload_n 0, 1) := by decide +kernel
theorem dX5_init_5 : decode cX5_init 5 = .ok (.iload_n 1, 1) := by decide +kernel
theorem dX5_init_6 : decode cX5_init 6 = .ok (.ifCond .le 7, 3) := by decide +kernel
theorem dX5_init_9 : decode cX5_init 9 = .ok (.iload_n 1, 1) := by decide +kernel
theorem dX5_init_10 : decode cX5_init 10 = .ok (.goto 4, 3) := by decide +kernel
theorem dX5_init_13 : decode cX5_init 13 = .ok (.iconst 0, 1) := by decide +kernel
theorem dX5_init_14 : decode cX5_init 14 = .ok (.newarray .long, 2) := by decide +kernel
theorem dX5_init_16 : decode cX5_init 16 = .ok (.putfield 9, 3) := by decide +kernel
theorem dX5_init_19 : decode cX5_init 19 = .ok (.return_, 1) := by decide +kernel
theorem hd_X5_init : yX5_init.cls ≠ "java/lang/invoke/MethodHandle" ∧ yX5_init.cls ≠ "java/lang/invoke/VarHandle" ∧ (parseMethodDescriptor yX5_init.desc).map (fun d => d.parameters.length) = some 1 := by decide +kernel
abbrev rm_X5_init_96 : Room := { frames := 1, cells := 1, slots := 96, locals := 12 }
set_option maxHeartbeats 4000000 in
set_option maxRecDepth 100000 in
theorem c_X5_init_96 (l : Launch) (G : Gx) (o : Nat) : Mt l G yX5_init cX5_init 2 none rm_X5_init_96 [.ref o, .int (nI 96)] [(o, .inr (4, [.null]))] (E1 (α := (Nat)) (fun u9 => none) (fun u9 => [(o, .inr (4, [.ref u9])), (u9, .inl (G.2.1 2, 96, .inr (.inl (fun _ => 0))))]) (fun u9 => True)) := by
  refine Mt.of (by decide) (Nat.le_of_ble_eq_true rfl) ?_
  intro K hl9 hn9 hR
  show V K G cX5_init RX5 2 rm_X5_init_96 0 0 0 [(0, .ref o), (1, .int (nI 96))] [] [(o, .inr (4, [.null]))]
  refine v_aload_n dX5_init_0 rfl 0 rfl ?_
  refine v_objInit dX5_init_1 kw_74 kw_67 kw_68 (Nat.le_of_ble_eq_true rfl) (Nat.le_of_ble_eq_true rfl) ?_
  refine v_aload_n dX5_init_4 rfl 0 rfl ?_
  refine v_iload_n dX5_init_5 rfl 1 rfl ?_
  refine n_if_le (a := 96) (tgt := 13) dX5_init_6 (by decide) (by decide) (fun c => absurd c (by decide)) (fun _ => ?_)
  refine v_iload_n dX5_init_9 rfl 1 rfl ?_
  refine v_goto (tgt := 14) dX5_init_10 (by decide) ?_
  refine v_newa (z := 96) (t := .long) (at0 := .long) (a0 := (96, .inr (.inl (fun _ => 0)))) 2 dX5_init_14 rfl rfl (fun _ h => nomatch h) kw_ac_J (fun _ => rfl) (nI_pos (by omega)) (nI_clamp (by omega)) (by decide) (by decide) (by decide) (fun q1_14 => ?_)
  show V K G cX5_init RX5 2 rm_X5_init_96 1 96 16 [(0, .ref o), (1, .int (nI 96))] [.ref q1_14, .ref o] [(o, .inr (4, [.null])), (q1_14, .inl (G.2.1 2, 96, .inr (.inl (fun _ => 0))))]
  refine v_putF (ref := "Sealhouse$Row") (C := RX5) (T := TX5) (N := 1) (ty0 := tyX5) (t := tyX5 0) (ws' := [(o, .inr (4, [.ref q1_14])), (q1_14, .inl (G.2.1 2, 96, .inr (.inl (fun _ => 0))))]) 0 0 hn9 dX5_init_16 rfl rfl gin_X5 tyX5_ok nmX5 (by decide) kw_75 rfl rfl rfl (by decide +kernel) rfl rfl (Nat.le_of_ble_eq_true rfl) rfl ?_
  exact v_vret hR dX5_init_19 ⟨(q1_14), rfl, rfl, by trivial⟩
abbrev rm_X5_init_64 : Room := { frames := 1, cells := 1, slots := 64, locals := 12 }
set_option maxHeartbeats 4000000 in
set_option maxRecDepth 100000 in
theorem c_X5_init_64 (l : Launch) (G : Gx) (o : Nat) : Mt l G yX5_init cX5_init 2 none rm_X5_init_64 [.ref o, .int (nI 64)] [(o, .inr (4, [.null]))] (E1 (α := (Nat)) (fun u9 => none) (fun u9 => [(o, .inr (4, [.ref u9])), (u9, .inl (G.2.1 2, 64, .inr (.inl (fun _ => 0))))]) (fun u9 => True)) := by
  refine Mt.of (by decide) (Nat.le_of_ble_eq_true rfl) ?_
  intro K hl9 hn9 hR
  show V K G cX5_init RX5 2 rm_X5_init_64 0 0 0 [(0, .ref o), (1, .int (nI 64))] [] [(o, .inr (4, [.null]))]
  refine v_aload_n dX5_init_0 rfl 0 rfl ?_
  refine v_objInit dX5_init_1 kw_74 kw_67 kw_68 (Nat.le_of_ble_eq_true rfl) (Nat.le_of_ble_eq_true rfl) ?_
  refine v_aload_n dX5_init_4 rfl 0 rfl ?_
  refine v_iload_n dX5_init_5 rfl 1 rfl ?_
  refine n_if_le (a := 64) (tgt := 13) dX5_init_6 (by decide) (by decide) (fun c => absurd c (by decide)) (fun _ => ?_)
  refine v_iload_n dX5_init_9 rfl 1 rfl ?_
  refine v_goto (tgt := 14) dX5_init_10 (by decide) ?_
  refine v_newa (z := 64) (t := .long) (at0 := .long) (a0 := (64, .inr (.inl (fun _ => 0)))) 2 dX5_init_14 rfl rfl (fun _ h => nomatch h) kw_ac_J (fun _ => rfl) (nI_pos (by omega)) (nI_clamp (by omega)) (by decide) (by decide) (by decide) (fun q1_14 => ?_)
  show V K G cX5_init RX5 2 rm_X5_init_64 1 64 16 [(0, .ref o), (1, .int (nI 64))] [.ref q1_14, .ref o] [(o, .inr (4, [.null])), (q1_14, .inl (G.2.1 2, 64, .inr (.inl (fun _ => 0))))]
  refine v_putF (ref := "Sealhouse$Row") (C := RX5) (T := TX5) (N := 1) (ty0 := tyX5) (t := tyX5 0) (ws' := [(o, .inr (4, [.ref q1_14])), (q1_14, .inl (G.2.1 2, 64, .inr (.inl (fun _ => 0))))]) 0 0 hn9 dX5_init_16 rfl rfl gin_X5 tyX5_ok nmX5 (by decide) kw_75 rfl rfl rfl (by decide +kernel) rfl rfl (Nat.le_of_ble_eq_true rfl) rfl ?_
  exact v_vret hR dX5_init_19 ⟨(q1_14), rfl, rfl, by trivial⟩
theorem dX5_read_0 : decode cX5_read 0 = .ok (.iload_n 1, 1) := by decide +kernel
theorem dX5_read_1 : decode cX5_read 1 = .ok (.ifCond .lt 21, 3) := by decide +kernel
theorem dX5_read_4 : decode cX5_read 4 = .ok (.iload_n 1, 1) := by decide +kernel
theorem dX5_read_5 : decode cX5_read 5 = .ok (.aload_n 0, 1) := by decide +kernel
theorem dX5_read_6 : decode cX5_read 6 = .ok (.getfield 9, 3) := by decide +kernel
theorem dX5_read_9 : decode cX5_read 9 = .ok (.arraylength, 1) := by decide +kernel
theorem dX5_read_10 : decode cX5_read 10 = .ok (.if_icmp .ge 12, 3) := by decide +kernel
theorem dX5_read_13 : decode cX5_read 13 = .ok (.aload_n 0, 1) := by decide +kernel
theorem dX5_read_14 : decode cX5_read 14 = .ok (.getfield 9, 3) := by decide +kernel
theorem dX5_read_17 : decode cX5_read 17 = .ok (.iload_n 1, 1) := by decide +kernel
theorem dX5_read_18 : decode cX5_read 18 = .ok (.laload, 1) := by decide +kernel
theorem dX5_read_19 : decode cX5_read 19 = .ok (.goto 7, 3) := by decide +kernel
theorem dX5_read_22 : decode cX5_read 22 = .ok (.iconst 0, 1) := by decide +kernel
theorem dX5_read_23 : decode cX5_read 23 = .ok (.invokestatic 15, 3) := by decide +kernel
theorem dX5_read_26 : decode cX5_read 26 = .ok (.lreturn, 1) := by decide +kernel
theorem hd_X5_read : yX5_read.cls ≠ "java/lang/invoke/MethodHandle" ∧ yX5_read.cls ≠ "java/lang/invoke/VarHandle" ∧ (parseMethodDescriptor yX5_read.desc).map (fun d => d.parameters.length) = some 1 := by decide +kernel
abbrev rm_X5_read : Room := { frames := 0, cells := 0, slots := 0, locals := 0 }
set_option maxHeartbeats 4000000 in
set_option maxRecDepth 100000 in
theorem c_X5_read (l : Launch) (G : Gx) (o : Nat) (a : Nat) (z : Nat) (f : Nat → Int64) (i : Nat) (hz : z ≤ 2000) (hi : i < z) : Mt l G yX5_read cX5_read 2 (some .long) rm_X5_read [.ref o, .int (nI i)] [(o, .inr (4, [.ref a])), (a, .inl (G.2.1 2, z, .inr (.inl f)))] (D1 (some (.long (f i))) [(o, .inr (4, [.ref a])), (a, .inl (G.2.1 2, z, .inr (.inl f)))]) := by
  refine Mt.of (by decide) (Nat.le_of_ble_eq_true rfl) ?_
  intro K hl9 hn9 hR
  show V K G cX5_read RX5 2 rm_X5_read 0 0 0 [(0, .ref o), (1, .int (nI i))] [] [(o, .inr (4, [.ref a])), (a, .inl (G.2.1 2, z, .inr (.inl f)))]
  refine v_iload_n dX5_read_0 rfl 1 rfl ?_
  refine n_if_lt (a := i) (tgt := 22) dX5_read_1 (by decide) (by omega) ?_
  refine v_iload_n dX5_read_4 rfl 1 rfl ?_
  refine v_aload_n dX5_read_5 rfl 0 rfl ?_
  refine v_get (ref := "Sealhouse$Row") (C := RX5) (T := TX5) (N := 1) 0 0 dX5_read_6 rfl rfl gin_X5 (by decide) kw_75 rfl rfl ?_
  refine v_alen (v := nI z) 1 2 dX5_read_9 rfl rfl rfl ?_
  refine n_icmp_ge (a := i) (b := z) (tgt := 22) dX5_read_10 (by decide) (by omega) (by omega) (fun c10 => absurd c10 (by omega)) (fun c10 => ?_)
  refine v_aload_n dX5_read_13 rfl 0 rfl ?_
  refine v_get (ref := "Sealhouse$Row") (C := RX5) (T := TX5) (N := 1) 0 0 dX5_read_14 rfl rfl gin_X5 (by decide) kw_75 rfl rfl ?_
  refine v_iload_n dX5_read_17 rfl 1 rfl ?_
  refine n_lald (i := i) (x := f i) 1 dX5_read_18 rfl (by omega) (by omega) rfl ?_
  refine v_goto (tgt := 26) dX5_read_19 (by decide) ?_
  exact v_lret hR dX5_read_26 (by exact ⟨rfl, rfl⟩)
theorem dX5_write_0 : decode cX5_write 0 = .ok (.iload_n 1, 1) := by decide +kernel
theorem dX5_write_1 : decode cX5_write 1 = .ok (.ifCond .lt 19, 3) := by decide +kernel
theorem dX5_write_4 : decode cX5_write 4 = .ok (.iload_n 1, 1) := by decide +kernel
theorem dX5_write_5 : decode cX5_write 5 = .ok (.aload_n 0, 1) := by decide +kernel
theorem dX5_write_6 : decode cX5_write 6 = .ok (.getfield 9, 3) := by decide +kernel
theorem dX5_write_9 : decode cX5_write 9 = .ok (.arraylength, 1) := by decide +kernel
theorem dX5_write_10 : decode cX5_write 10 = .ok (.if_icmp .ge 10, 3) := by decide +kernel
theorem dX5_write_13 : decode cX5_write 13 = .ok (.aload_n 0, 1) := by decide +kernel
theorem dX5_write_14 : decode cX5_write 14 = .ok (.getfield 9, 3) := by decide +kernel
theorem dX5_write_17 : decode cX5_write 17 = .ok (.iload_n 1, 1) := by decide +kernel
theorem dX5_write_18 : decode cX5_write 18 = .ok (.lload_n 2, 1) := by decide +kernel
theorem dX5_write_19 : decode cX5_write 19 = .ok (.lastore, 1) := by decide +kernel
theorem dX5_write_20 : decode cX5_write 20 = .ok (.return_, 1) := by decide +kernel
theorem hd_X5_write : yX5_write.cls ≠ "java/lang/invoke/MethodHandle" ∧ yX5_write.cls ≠ "java/lang/invoke/VarHandle" ∧ (parseMethodDescriptor yX5_write.desc).map (fun d => d.parameters.length) = some 2 := by decide +kernel
abbrev rm_X5_write : Room := { frames := 0, cells := 0, slots := 0, locals := 0 }
set_option maxHeartbeats 4000000 in
set_option maxRecDepth 100000 in
theorem c_X5_write (l : Launch) (G : Gx) (o : Nat) (a : Nat) (z : Nat) (f : Nat → Int64) (i : Nat) (x : Int64) (hz : z ≤ 2000) (hi : i < z) : Mt l G yX5_write cX5_write 4 none rm_X5_write [.ref o, .int (nI i), .long x] [(o, .inr (4, [.ref a])), (a, .inl (G.2.1 2, z, .inr (.inl f)))] (D1 none [(o, .inr (4, [.ref a])), (a, .inl (G.2.1 2, z, .inr (.inl (vp_updL f i x))))]) := by
  refine Mt.of (by decide) (Nat.le_of_ble_eq_true rfl) ?_
  intro K hl9 hn9 hR
  show V K G cX5_write RX5 4 rm_X5_write 0 0 0 [(0, .ref o), (1, .int (nI i)), (2, .long x)] [] [(o, .inr (4, [.ref a])), (a, .inl (G.2.1 2, z, .inr (.inl f)))]
  refine v_iload_n dX5_write_0 rfl 1 rfl ?_
  refine n_if_lt (a := i) (tgt := 20) dX5_write_1 (by decide) (by omega) ?_
  refine v_iload_n dX5_write_4 rfl 1 rfl ?_
  refine v_aload_n dX5_write_5 rfl 0 rfl ?_
  refine v_get (ref := "Sealhouse$Row") (C := RX5) (T := TX5) (N := 1) 0 0 dX5_write_6 rfl rfl gin_X5 (by decide) kw_75 rfl rfl ?_
  refine v_alen (v := nI z) 1 2 dX5_write_9 rfl rfl rfl ?_
  refine n_icmp_ge (a := i) (b := z) (tgt := 20) dX5_write_10 (by decide) (by omega) (by omega) (fun c10 => absurd c10 (by omega)) (fun c10 => ?_)
  refine v_aload_n dX5_write_13 rfl 0 rfl ?_
  refine v_get (ref := "Sealhouse$Row") (C := RX5) (T := TX5) (N := 1) 0 0 dX5_write_14 rfl rfl gin_X5 (by decide) kw_75 rfl rfl ?_
  refine v_iload_n dX5_write_17 rfl 1 rfl ?_
  refine v_lload_n dX5_write_18 rfl 2 rfl ?_
  refine n_last (i := i) (g := vp_updL f i x) (ws' := [(o, .inr (4, [.ref a])), (a, .inl (G.2.1 2, z, .inr (.inl (vp_updL f i x))))]) 1 dX5_write_19 rfl (by omega) (by omega) rfl rfl ?_
  exact v_vret hR dX5_write_20 (by exact ⟨rfl, rfl⟩)
theorem dX5_clear_0 : decode cX5_clear 0 = .ok (.iload_n 1, 1) := by decide +kernel
theorem dX5_clear_1 : decode cX5_clear 1 = .ok (.istore_n 3, 1) := by decide +kernel
theorem dX5_clear_2 : decode cX5_clear 2 = .ok (.iload_n 3, 1) := by decide +kernel
theorem dX5_clear_3 : decode cX5_clear 3 = .ok (.iload_n 2, 1) := by decide +kernel
theorem dX5_clear_4 : decode cX5_clear 4 = .ok (.if_icmp .ge 18, 3) := by decide +kernel
theorem dX5_clear_7 : decode cX5_clear 7 = .ok (.aload_n 0, 1) := by decide +kernel
theorem dX5_clear_8 : decode cX5_clear 8 = .ok (.iload_n 3, 1) := by decide +kernel
theorem dX5_clear_9 : decode cX5_clear 9 = .ok (.iconst 0, 1) := by decide +kernel
theorem dX5_clear_10 : decode cX5_clear 10 = .ok (.invokestatic 15, 3) := by decide +kernel
theorem dX5_clear_13 : decode cX5_clear 13 = .ok (.invokevirtual 21, 3) := by decide +kernel
theorem dX5_clear_16 : decode cX5_clear 16 = .ok (.iinc 3 1, 3) := by decide +kernel
theorem dX5_clear_19 : decode cX5_clear 19 = .ok (.goto (-17), 3) := by decide +kernel
theorem dX5_clear_22 : decode cX5_clear 22 = .ok (.return_, 1) := by decide +kernel
theorem hd_X5_clear : yX5_clear.cls ≠ "java/lang/invoke/MethodHandle" ∧ yX5_clear.cls ≠ "java/lang/invoke/VarHandle" ∧ (parseMethodDescriptor yX5_clear.desc).map (fun d => d.parameters.length) = some 2 := by decide +kernel
abbrev rm_X5_clear : Room := { frames := 1, cells := 0, slots := 0, locals := 23 }
set_option maxHeartbeats 4000000 in
set_option maxRecDepth 100000 in
theorem c_X5_clear (l : Launch) (G : Gx) (o : Nat) (a : Nat) (z : Nat) (f : Nat → Int64) (u : Nat) (v : Nat) (hz : z ≤ 2000) (huv : u ≤ v) (hv : v ≤ z) : Mt l G yX5_clear cX5_clear 4 none rm_X5_clear [.ref o, .int (nI u), .int (nI v)] [(o, .inr (4, [.ref a])), (a, .inl (G.2.1 2, z, .inr (.inl f)))] (D1 none [(o, .inr (4, [.ref a])), (a, .inl (G.2.1 2, z, .inr (.inl (clrA f u v))))]) := by
  refine Mt.of (by decide) (Nat.le_of_ble_eq_true rfl) ?_
  intro K hl9 hn9 hR
  show V K G cX5_clear RX5 4 rm_X5_clear 0 0 0 [(0, .ref o), (1, .int (nI u)), (2, .int (nI v))] [] [(o, .inr (4, [.ref a])), (a, .inl (G.2.1 2, z, .inr (.inl f)))]
  refine v_iload_n dX5_clear_0 rfl 1 rfl ?_
  refine v_istore_n (lv' := [(3, .int (nI u)), (0, .ref o), (1, .int (nI u)), (2, .int (nI v))]) dX5_clear_1 rfl (by decide) rfl ?_
  refine v_cong (lv' := [(3, .int (nI u)), (0, .ref o), (1, .int (nI u)), (2, .int (nI v))]) (st' := []) (ws' := [(o, .inr (4, [.ref a])), (a, .inl (G.2.1 2, z, .inr (.inl (clrA f u u))))]) rfl rfl (by rw [clrA_0]) ?_
  have L2 : ∀ (f9 : Nat) (i : Nat) (hi1 : u ≤ i) (hi2 : i ≤ v), v - i < f9 → V K G cX5_clear RX5 4 rm_X5_clear 0 0 2 [(3, .int (nI i)), (0, .ref o), (1, .int (nI u)), (2, .int (nI v))] [] [(o, .inr (4, [.ref a])), (a, .inl (G.2.1 2, z, .inr (.inl (clrA f u i))))] := by
    intro f9
    induction f9 with
    | zero => intro i hi1 hi2 hm; exact absurd hm (Nat.not_lt_zero _)
    | succ f9 ih2 =>
      intro i hi1 hi2 hm2
      refine v_iload_n dX5_clear_2 rfl 0 rfl ?_
      refine v_iload_n dX5_clear_3 rfl 3 rfl ?_
      refine n_icmp_ge (a := i) (b := v) (tgt := 22) dX5_clear_4 (by decide) (by omega) (by omega) (fun c4 => ?_) (fun c4 => ?_)
      ·
        exact v_vret hR dX5_clear_22 (by refine ⟨rfl, ?_⟩; rw [show i = v by omega])
      ·
        refine v_aload_n dX5_clear_7 rfl 1 rfl ?_
        refine v_iload_n dX5_clear_8 rfl 0 rfl ?_
        refine v_iconst (v := nI 0) dX5_clear_9 (by decide) ?_
        refine c_S1 (As := [.int (nI 0)]) (rest := [.int (nI i), .ref o]) (wr := [(o, .inr (4, [.ref a])), (a, .inl (G.2.1 2, z, .inr (.inl (clrA f u i))))]) (k' := 0) (n' := 0) (st2 := [.long (mkN (nI 0)), .int (nI i), .ref o]) (ws2 := [(o, .inr (4, [.ref a])), (a, .inl (G.2.1 2, z, .inr (.inl (clrA f u i))))]) (c_X6_number K.2.1 G (nI 0) ) [] [0, 1] dX5_clear_10 kw_218 kw_207 kw_45 kw_208 hd_X6_number ⟨Nat.le_of_ble_eq_true rfl, Nat.le_of_ble_eq_true rfl⟩ ⟨(by decide), (by decide)⟩ ⟨rfl, rfl⟩ (Nat.le_of_ble_eq_true rfl) rfl rfl rfl rfl rfl rfl (by decide) [0, 1] rfl rfl rfl rfl ?_
        refine c_V1 (ci := 4) (T := TX5) (N := 1) (As := [.int (nI i), .long (mkN (nI 0))]) (rest := []) (wr := []) (k' := 0) (n' := 0) (st2 := []) (ws2 := [(o, .inr (4, [.ref a])), (a, .inl (G.2.1 2, z, .inr (.inl (vp_updL (clrA f u i) i (mkN (nI 0))))))]) (c_X5_write K.2.1 G o a z (clrA f u i) i (mkN (nI 0)) (by omega) (by omega)) [0, 1] [] dX5_clear_13 kw_219 kw_220 kw_39 kw_222 kw_221 hd_X5_write ⟨Nat.le_of_ble_eq_true rfl, Nat.le_of_ble_eq_true rfl⟩ ⟨(by decide), (by decide)⟩ ⟨rfl, rfl⟩ (Nat.le_of_ble_eq_true rfl) rfl rfl rfl rfl rfl rfl (by decide) 0 rfl rfl [0, 1] rfl rfl rfl rfl ?_
        refine n_iinc (a := i) (y := i + 1) (lv' := [(3, .int (nI (i + 1))), (0, .ref o), (1, .int (nI u)), (2, .int (nI v))]) dX5_clear_16 0 rfl (nI_inc _) (by decide) rfl ?_
        refine v_goto (tgt := 2) dX5_clear_19 (by decide) ?_
        refine v_cong (lv' := [(3, .int (nI (i + 1))), (0, .ref o), (1, .int (nI u)), (2, .int (nI v))]) (st' := []) (ws' := [(o, .inr (4, [.ref a])), (a, .inl (G.2.1 2, z, .inr (.inl (clrA f u (i + 1)))))]) rfl rfl (by rw [clrA_s _ hi1]) ?_
        exact ih2 (i + 1) (by omega) (by omega) (by omega)
  exact L2 (v - u + 1) u (by omega) (by omega) (Nat.lt_succ_self _)
theorem dX5_dropRights_0 : decode cX5_dropRights 0 = .ok (.iconst 0, 1) := by decide +kernel
theorem dX5_dropRights_1 : decode cX5_dropRights 1 = .ok (.istore_n 3, 1) := by decide +kernel
theorem dX5_dropRights_2 : decode cX5_dropRights 2 = .ok (.iconst 0, 1) := by decide +kernel
theorem dX5_dropRights_3 : decode cX5_dropRights 3 = .ok (.istore 4, 2) := by decide +kernel
theorem dX5_dropRights_5 : decode cX5_dropRights 5 = .ok (.iload 4, 2) := by decide +kernel
theorem dX5_dropRights_7 : decode cX5_dropRights 7 = .ok (.iload_n 2, 1) := by decide +kernel
theorem dX5_dropRights_8 : decode cX5_dropRights 8 = .ok (.if_icmp .ge 73, 3) := by decide +kernel
theorem dX5_dropRights_11 : decode cX5_dropRights 11 = .ok (.iload 4, 2) := by decide +kernel
theorem dX5_dropRights_13 : decode cX5_dropRights 13 = .ok (.aload_n 0, 1) := by decide +kernel
theorem dX5_dropRights_14 : decode cX5_dropRights 14 = .ok (.getfield 9, 3) := by decide +kernel
theorem dX5_dropRights_17 : decode cX5_dropRights 17 = .ok (.arraylength, 1) := by decide +kernel
theorem dX5_dropRights_18 : decode cX5_dropRights 18 = .ok (.if_icmp .ge 63, 3) := by decide +kernel
theorem dX5_dropRights_21 : decode cX5_dropRights 21 = .ok (.aload_n 0, 1) := by decide +kernel
theorem dX5_dropRights_22 : decode cX5_dropRights 22 = .ok (.getfield 9, 3) := by decide +kernel
theorem dX5_dropRights_25 : decode cX5_dropRights 25 = .ok (.iload 4, 2) := by decide +kernel
theorem dX5_dropRights_27 : decode cX5_dropRights 27 = .ok (.laload, 1) := by decide +kernel
theorem dX5_dropRights_28 : decode cX5_dropRights 28 = .ok (.invokestatic 25, 3) := by decide +kernel
theorem dX5_dropRights_31 : decode cX5_dropRights 31 = .ok (.ifCond .eq 44, 3) := by decide +kernel
theorem dX5_dropRights_34 : decode cX5_dropRights 34 = .ok (.aload_n 1, 1) := by decide +kernel
theorem dX5_dropRights_35 : decode cX5_dropRights 35 = .ok (.iconst 0, 1) := by decide +kernel
theorem dX5_dropRights_36 : decode cX5_dropRights 36 = .ok (.aload_n 0, 1) := by decide +kernel
theorem dX5_dropRights_37 : decode cX5_dropRights 37 = .ok (.getfield 9, 3) := by decide +kernel
theorem dX5_dropRights_40 : decode cX5_dropRights 40 = .ok (.iload 4, 2) := by decide +kernel
theorem dX5_dropRights_42 : decode cX5_dropRights 42 = .ok (.laload, 1) := by decide +kernel
theorem dX5_dropRights_43 : decode cX5_dropRights 43 = .ok (.invokestatic 29, 3) := by decide +kernel
theorem dX5_dropRights_46 : decode cX5_dropRights 46 = .ok (.invokevirtual 33, 3) := by decide +kernel
theorem dX5_dropRights_49 : decode cX5_dropRights 49 = .ok (.ifCond .eq 26, 3) := by decide +kernel
theorem dX5_dropRights_52 : decode cX5_dropRights 52 = .ok (.aload_n 0, 1) := by decide +kernel
theorem dX5_dropRights_53 : decode cX5_dropRights 53 = .ok (.getfield 9, 3) := by decide +kernel
theorem dX5_dropRights_56 : decode cX5_dropRights 56 = .ok (.iload 4, 2) := by decide +kernel
theorem dX5_dropRights_58 : decode cX5_dropRights 58 = .ok (.aload_n 0, 1) := by decide +kernel
theorem dX5_dropRights_59 : decode cX5_dropRights 59 = .ok (.getfield 9, 3) := by decide +kernel
theorem dX5_dropRights_62 : decode cX5_dropRights 62 = .ok (.iload 4, 2) := by decide +kernel
theorem dX5_dropRights_64 : decode cX5_dropRights 64 = .ok (.laload, 1) := by decide +kernel
theorem dX5_dropRights_65 : decode cX5_dropRights 65 = .ok (.invokestatic 39, 3) := by decide +kernel
theorem dX5_dropRights_68 : decode cX5_dropRights 68 = .ok (.invokestatic 15, 3) := by decide +kernel
theorem dX5_dropRights_71 : decode cX5_dropRights 71 = .ok (.lastore, 1) := by decide +kernel
theorem dX5_dropRights_72 : decode cX5_dropRights 72 = .ok (.iinc 3 1, 3) := by decide +kernel
theorem dX5_dropRights_75 : decode cX5_dropRights 75 = .ok (.iinc 4 1, 3) := by decide +kernel
theorem dX5_dropRights_78 : decode cX5_dropRights 78 = .ok (.goto (-73), 3) := by decide +kernel
theorem dX5_dropRights_81 : decode cX5_dropRights 81 = .ok (.iload_n 3, 1) := by decide +kernel
theorem dX5_dropRights_82 : decode cX5_dropRights 82 = .ok (.ireturn, 1) := by decide +kernel
theorem hd_X5_dropRights : yX5_dropRights.cls ≠ "java/lang/invoke/MethodHandle" ∧ yX5_dropRights.cls ≠ "java/lang/invoke/VarHandle" ∧ (parseMethodDescriptor yX5_dropRights.desc).map (fun d => d.parameters.length) = some 2 := by decide +kernel
abbrev rm_X5_dropRights : Room := { frames := 1, cells := 0, slots := 0, locals := 23 }
set_option maxHeartbeats 4000000 in
set_option maxRecDepth 100000 in
theorem c_X5_dropRights (l : Launch) (G : Gx) (o : Nat) (a : Nat) (z : Nat) (f : Nat → Int64) (q : Nat) (b : Nat) (y : Nat) (h : Nat → Int64) (n : Nat) (hz : z ≤ 2000) (hn : n ≤ z) (hy1 : 1 < y) (hy2 : y ≤ 2000) : Mt l G yX5_dropRights cX5_dropRights 5 (some .int) rm_X5_dropRights [.ref o, .ref q, .int (nI n)] [(o, .inr (4, [.ref a])), (a, .inl (G.2.1 2, z, .inr (.inl f))), (q, .inr (1, [.ref b])), (b, .inl (G.2.1 2, y, .inr (.inl h)))] (D1 (some (.int (nI (cntF (dropP h f) n)))) [(o, .inr (4, [.ref a])), (a, .inl (G.2.1 2, z, .inr (.inl (dropA h f n)))), (q, .inr (1, [.ref b])), (b, .inl (G.2.1 2, y, .inr (.inl h)))]) := by
  refine Mt.of (by decide) (Nat.le_of_ble_eq_true rfl) ?_
  intro K hl9 hn9 hR
  show V K G cX5_dropRights RX5 5 rm_X5_dropRights 0 0 0 [(0, .ref o), (1, .ref q), (2, .int (nI n))] [] [(o, .inr (4, [.ref a])), (a, .inl (G.2.1 2, z, .inr (.inl f))), (q, .inr (1, [.ref b])), (b, .inl (G.2.1 2, y, .inr (.inl h)))]
  refine v_iconst (v := nI 0) dX5_dropRights_0 (by decide) ?_
  refine v_istore_n (lv' := [(3, .int (nI 0)), (0, .ref o), (1, .ref q), (2, .int (nI n))]) dX5_dropRights_1 rfl (by decide) rfl ?_
  refine v_iconst (v := nI 0) dX5_dropRights_2 (by decide) ?_
  refine v_istore (lv' := [(4, .int (nI 0)), (3, .int (nI 0)), (0, .ref o), (1, .ref q), (2, .int (nI n))]) dX5_dropRights_3 (by decide) rfl ?_
  refine v_cong (lv' := [(4, .int (nI 0)), (3, .int (nI (cntF (dropP h f) 0))), (0, .ref o), (1, .ref q), (2, .int (nI n))]) (st' := []) (ws' := [(o, .inr (4, [.ref a])), (a, .inl (G.2.1 2, z, .inr (.inl (dropA h f 0)))), (q, .inr (1, [.ref b])), (b, .inl (G.2.1 2, y, .inr (.inl h)))]) (by rfl) rfl (by rw [dropA_0]) ?_
  have L5 : ∀ (f9 : Nat) (i : Nat) (hi : i ≤ n), n - i < f9 → V K G cX5_dropRights RX5 5 rm_X5_dropRights 0 0 5 [(4, .int (nI i)), (3, .int (nI (cntF (dropP h f) i))), (0, .ref o), (1, .ref q), (2, .int (nI n))] [] [(o, .inr (4, [.ref a])), (a, .inl (G.2.1 2, z, .inr (.inl (dropA h f i)))), (q, .inr (1, [.ref b])), (b, .inl (G.2.1 2, y, .inr (.inl h)))] := by
    intro f9
    induction f9 with
    | zero => intro i hi hm; exact absurd hm (Nat.not_lt_zero _)
    | succ f9 ih5 =>
      intro i hi hm5
      have hcn := cntF_le (dropP h f) i
      refine v_iload dX5_dropRights_5 0 rfl ?_
      refine v_iload_n dX5_dropRights_7 rfl 4 rfl ?_
      refine n_icmp_ge (a := i) (b := n) (tgt := 81) dX5_dropRights_8 (by decide) (by omega) (by omega) (fun c8 => ?_) (fun c8 => ?_)
      ·
        refine v_iload_n dX5_dropRights_81 rfl 1 rfl ?_
        exact v_iret hR dX5_dropRights_82 (by rw [show i = n by omega]; exact ⟨rfl, rfl⟩)
      ·
        refine v_iload dX5_dropRights_11 0 rfl ?_
        refine v_aload_n dX5_dropRights_13 rfl 2 rfl ?_
        refine v_get (ref := "Sealhouse$Row") (C := RX5) (T := TX5) (N := 1) 0 0 dX5_dropRights_14 rfl rfl gin_X5 (by decide) kw_75 rfl rfl ?_
        refine v_alen (v := nI z) 1 2 dX5_dropRights_17 rfl rfl rfl ?_
        refine n_icmp_ge (a := i) (b := z) (tgt := 81) dX5_dropRights_18 (by decide) (by omega) (by omega) (fun c18 => absurd c18 (by omega)) (fun c18 => ?_)
        refine v_aload_n dX5_dropRights_21 rfl 2 rfl ?_
        refine v_get (ref := "Sealhouse$Row") (C := RX5) (T := TX5) (N := 1) 0 0 dX5_dropRights_22 rfl rfl gin_X5 (by decide) kw_75 rfl rfl ?_
        refine v_iload dX5_dropRights_25 0 rfl ?_
        refine n_lald (i := i) (x := (dropA h f i) i) 1 dX5_dropRights_27 rfl (by omega) (by omega) rfl ?_
        refine c_S1 (As := [.long ((dropA h f i) i)]) (rest := []) (wr := [(o, .inr (4, [.ref a])), (a, .inl (G.2.1 2, z, .inr (.inl (dropA h f i)))), (q, .inr (1, [.ref b])), (b, .inl (G.2.1 2, y, .inr (.inl h)))]) (k' := 0) (n' := 0) (st2 := [.int (bI (wM ((dropA h f i) i)))]) (ws2 := [(o, .inr (4, [.ref a])), (a, .inl (G.2.1 2, z, .inr (.inl (dropA h f i)))), (q, .inr (1, [.ref b])), (b, .inl (G.2.1 2, y, .inr (.inl h)))]) (c_X6_holdsRight K.2.1 G ((dropA h f i) i) ) [] [0, 1, 2, 3] dX5_dropRights_28 kw_283 kw_284 kw_45 kw_285 hd_X6_holdsRight ⟨Nat.le_of_ble_eq_true rfl, Nat.le_of_ble_eq_true rfl⟩ ⟨(by decide), (by decide)⟩ ⟨rfl, rfl⟩ (Nat.le_of_ble_eq_true rfl) rfl rfl rfl rfl rfl rfl (by decide) [0, 1, 2, 3] rfl rfl rfl rfl ?_
        refine b_if_eq (tgt := 75) dX5_dropRights_31 (by decide) (fun c31 => ?_) (fun c31 => ?_)
        ·
          refine n_iinc (a := i) (y := i + 1) (lv' := [(4, .int (nI (i + 1))), (3, .int (nI (cntF (dropP h f) i))), (0, .ref o), (1, .ref q), (2, .int (nI n))]) dX5_dropRights_75 0 rfl (nI_inc _) (by decide) rfl ?_
          refine v_goto (tgt := 5) dX5_dropRights_78 (by decide) ?_
          refine v_cong (lv' := [(4, .int (nI (i + 1))), (3, .int (nI (cntF (dropP h f) (i + 1)))), (0, .ref o), (1, .ref q), (2, .int (nI n))]) (st' := []) (ws' := [(o, .inr (4, [.ref a])), (a, .inl (G.2.1 2, z, .inr (.inl (dropA h f (i + 1))))), (q, .inr (1, [.ref b])), (b, .inl (G.2.1 2, y, .inr (.inl h)))]) (by first | rw [dropC_y (by assumption) (by assumption)] | rw [dropC_n1 (by assumption)] | rw [dropC_n2 (by assumption)]) rfl (by first | rw [dropA_y (by assumption) (by assumption)] | rw [dropA_n1 (by assumption)] | rw [dropA_n2 (by assumption)]) ?_
          exact ih5 (i + 1) (by omega) (by omega)
        ·
          refine v_aload_n dX5_dropRights_34 rfl 3 rfl ?_
          refine v_iconst (v := nI 0) dX5_dropRights_35 (by decide) ?_
          refine v_aload_n dX5_dropRights_36 rfl 2 rfl ?_
          refine v_get (ref := "Sealhouse$Row") (C := RX5) (T := TX5) (N := 1) 0 0 dX5_dropRights_37 rfl rfl gin_X5 (by decide) kw_75 rfl rfl ?_
          refine v_iload dX5_dropRights_40 0 rfl ?_
          refine n_lald (i := i) (x := (dropA h f i) i) 1 dX5_dropRights_42 rfl (by omega) (by omega) rfl ?_
          refine c_S1 (As := [.long ((dropA h f i) i)]) (rest := [.int (nI 0), .ref q]) (wr := [(o, .inr (4, [.ref a])), (a, .inl (G.2.1 2, z, .inr (.inl (dropA h f i)))), (q, .inr (1, [.ref b])), (b, .inl (G.2.1 2, y, .inr (.inl h)))]) (k' := 0) (n' := 0) (st2 := [.int (nI (wB ((dropA h f i) i))), .int (nI 0), .ref q]) (ws2 := [(o, .inr (4, [.ref a])), (a, .inl (G.2.1 2, z, .inr (.inl (dropA h f i)))), (q, .inr (1, [.ref b])), (b, .inl (G.2.1 2, y, .inr (.inl h)))]) (c_X6_base K.2.1 G ((dropA h f i) i) ) [] [0, 1, 2, 3] dX5_dropRights_43 kw_286 kw_287 kw_45 kw_288 hd_X6_base ⟨Nat.le_of_ble_eq_true rfl, Nat.le_of_ble_eq_true rfl⟩ ⟨(by decide), (by decide)⟩ ⟨rfl, rfl⟩ (Nat.le_of_ble_eq_true rfl) rfl rfl rfl rfl rfl rfl (by decide) [0, 1, 2, 3] rfl rfl rfl rfl ?_
          refine c_V1 (ci := 1) (T := TX2) (N := 1) (As := [.int (nI 0), .int (nI (wB ((dropA h f i) i)))]) (rest := []) (wr := [(o, .inr (4, [.ref a])), (a, .inl (G.2.1 2, z, .inr (.inl (dropA h f i))))]) (k' := 0) (n' := 0) (st2 := [.int (bI (bt h 0 (wB ((dropA h f i) i))))]) (ws2 := [(o, .inr (4, [.ref a])), (a, .inl (G.2.1 2, z, .inr (.inl (dropA h f i)))), (q, .inr (1, [.ref b])), (b, .inl (G.2.1 2, y, .inr (.inl h)))]) (c_X2_has K.2.1 G q b y h 0 (wB ((dropA h f i) i)) (by omega) (by omega) (by exact wB_lt _)) [2, 3] [0, 1] dX5_dropRights_46 kw_289 kw_166 kw_43 kw_168 kw_167 hd_X2_has ⟨Nat.le_of_ble_eq_true rfl, Nat.le_of_ble_eq_true rfl⟩ ⟨(by decide), (by decide)⟩ ⟨rfl, rfl⟩ (Nat.le_of_ble_eq_true rfl) rfl rfl rfl rfl rfl rfl (by decide) 2 rfl rfl [0, 1, 2, 3] rfl rfl rfl rfl ?_
          refine b_if_eq (tgt := 75) dX5_dropRights_49 (by decide) (fun c49 => ?_) (fun c49 => ?_)
          ·
            refine n_iinc (a := i) (y := i + 1) (lv' := [(4, .int (nI (i + 1))), (3, .int (nI (cntF (dropP h f) i))), (0, .ref o), (1, .ref q), (2, .int (nI n))]) dX5_dropRights_75 0 rfl (nI_inc _) (by decide) rfl ?_
            refine v_goto (tgt := 5) dX5_dropRights_78 (by decide) ?_
            refine v_cong (lv' := [(4, .int (nI (i + 1))), (3, .int (nI (cntF (dropP h f) (i + 1)))), (0, .ref o), (1, .ref q), (2, .int (nI n))]) (st' := []) (ws' := [(o, .inr (4, [.ref a])), (a, .inl (G.2.1 2, z, .inr (.inl (dropA h f (i + 1))))), (q, .inr (1, [.ref b])), (b, .inl (G.2.1 2, y, .inr (.inl h)))]) (by first | rw [dropC_y (by assumption) (by assumption)] | rw [dropC_n1 (by assumption)] | rw [dropC_n2 (by assumption)]) rfl (by first | rw [dropA_y (by assumption) (by assumption)] | rw [dropA_n1 (by assumption)] | rw [dropA_n2 (by assumption)]) ?_
            exact ih5 (i + 1) (by omega) (by omega)
          ·
            refine v_aload_n dX5_dropRights_52 rfl 2 rfl ?_
            refine v_get (ref := "Sealhouse$Row") (C := RX5) (T := TX5) (N := 1) 0 0 dX5_dropRights_53 rfl rfl gin_X5 (by decide) kw_75 rfl rfl ?_
            refine v_iload dX5_dropRights_56 0 rfl ?_
            refine v_aload_n dX5_dropRights_58 rfl 2 rfl ?_
            refine v_get (ref := "Sealhouse$Row") (C := RX5) (T := TX5) (N := 1) 0 0 dX5_dropRights_59 rfl rfl gin_X5 (by decide) kw_75 rfl rfl ?_
            refine v_iload dX5_dropRights_62 0 rfl ?_
            refine n_lald (i := i) (x := (dropA h f i) i) 1 dX5_dropRights_64 rfl (by omega) (by omega) rfl ?_
            refine c_S1 (As := [.long ((dropA h f i) i)]) (rest := [.int (nI i), .ref a]) (wr := [(o, .inr (4, [.ref a])), (a, .inl (G.2.1 2, z, .inr (.inl (dropA h f i)))), (q, .inr (1, [.ref b])), (b, .inl (G.2.1 2, y, .inr (.inl h)))]) (k' := 0) (n' := 0) (st2 := [.int (wN ((dropA h f i) i)), .int (nI i), .ref a]) (ws2 := [(o, .inr (4, [.ref a])), (a, .inl (G.2.1 2, z, .inr (.inl (dropA h f i)))), (q, .inr (1, [.ref b])), (b, .inl (G.2.1 2, y, .inr (.inl h)))]) (c_X6_asNumber K.2.1 G ((dropA h f i) i) ) [] [0, 1, 2, 3] dX5_dropRights_65 kw_290 kw_291 kw_45 kw_292 hd_X6_asNumber ⟨Nat.le_of_ble_eq_true rfl, Nat.le_of_ble_eq_true rfl⟩ ⟨(by decide), (by decide)⟩ ⟨rfl, rfl⟩ (Nat.le_of_ble_eq_true rfl) rfl rfl rfl rfl rfl rfl (by decide) [0, 1, 2, 3] rfl rfl rfl rfl ?_
            refine c_S1 (As := [.int (wN ((dropA h f i) i))]) (rest := [.int (nI i), .ref a]) (wr := [(o, .inr (4, [.ref a])), (a, .inl (G.2.1 2, z, .inr (.inl (dropA h f i)))), (q, .inr (1, [.ref b])), (b, .inl (G.2.1 2, y, .inr (.inl h)))]) (k' := 0) (n' := 0) (st2 := [.long (mkN (wN ((dropA h f i) i))), .int (nI i), .ref a]) (ws2 := [(o, .inr (4, [.ref a])), (a, .inl (G.2.1 2, z, .inr (.inl (dropA h f i)))), (q, .inr (1, [.ref b])), (b, .inl (G.2.1 2, y, .inr (.inl h)))]) (c_X6_number K.2.1 G (wN ((dropA h f i) i)) ) [] [0, 1, 2, 3] dX5_dropRights_68 kw_218 kw_207 kw_45 kw_208 hd_X6_number ⟨Nat.le_of_ble_eq_true rfl, Nat.le_of_ble_eq_true rfl⟩ ⟨(by decide), (by decide)⟩ ⟨rfl, rfl⟩ (Nat.le_of_ble_eq_true rfl) rfl rfl rfl rfl rfl rfl (by decide) [0, 1, 2, 3] rfl rfl rfl rfl ?_
            refine n_last (i := i) (g := vp_updL (dropA h f i) i (mkN (wN ((dropA h f i) i)))) (ws' := [(o, .inr (4, [.ref a])), (a, .inl (G.2.1 2, z, .inr (.inl (vp_updL (dropA h f i) i (mkN (wN ((dropA h f i) i))))))), (q, .inr (1, [.ref b])), (b, .inl (G.2.1 2, y, .inr (.inl h)))]) 1 dX5_dropRights_71 rfl (by omega) (by omega) rfl rfl ?_
            refine n_iinc (a := cntF (dropP h f) i) (y := cntF (dropP h f) i + 1) (lv' := [(3, .int (nI (cntF (dropP h f) i + 1))), (4, .int (nI i)), (0, .ref o), (1, .ref q), (2, .int (nI n))]) dX5_dropRights_72 1 rfl (nI_inc _) (by decide) rfl ?_
            refine n_iinc (a := i) (y := i + 1) (lv' := [(4, .int (nI (i + 1))), (3, .int (nI (cntF (dropP h f) i + 1))), (0, .ref o), (1, .ref q), (2, .int (nI n))]) dX5_dropRights_75 1 rfl (nI_inc _) (by decide) rfl ?_
            refine v_goto (tgt := 5) dX5_dropRights_78 (by decide) ?_
            refine v_cong (lv' := [(4, .int (nI (i + 1))), (3, .int (nI (cntF (dropP h f) (i + 1)))), (0, .ref o), (1, .ref q), (2, .int (nI n))]) (st' := []) (ws' := [(o, .inr (4, [.ref a])), (a, .inl (G.2.1 2, z, .inr (.inl (dropA h f (i + 1))))), (q, .inr (1, [.ref b])), (b, .inl (G.2.1 2, y, .inr (.inl h)))]) (by first | rw [dropC_y (by assumption) (by assumption)] | rw [dropC_n1 (by assumption)] | rw [dropC_n2 (by assumption)]) rfl (by first | rw [dropA_y (by assumption) (by assumption)] | rw [dropA_n1 (by assumption)] | rw [dropA_n2 (by assumption)]) ?_
            exact ih5 (i + 1) (by omega) (by omega)
  exact L5 (n - 0 + 1) 0 (by omega) (Nat.lt_succ_self _)
theorem dX5_boundsAreSound_0 : decode cX5_boundsAreSound 0 = .ok (.iload_n 0, 1) := by decide +kernel
theorem dX5_boundsAreSound_1 : decode cX5_boundsAreSound 1 = .ok (.ifCond .lt 26, 3) := by decide +kernel
theorem dX5_boundsAreSound_4 : decode cX5_boundsAreSound 4 = .ok (.iload_n 0, 1) := by decide +kernel
theorem dX5_boundsAreSound_5 : decode cX5_boundsAreSound 5 = .ok (.iload_n 1, 1) := by decide +kernel
theorem dX5_boundsAreSound_6 : decode cX5_boundsAreSound 6 = .ok (.if_icmp .ge 21, 3) := by decide +kernel
theorem dX5_boundsAreSound_9 : decode cX5_boundsAreSound 9 = .ok (.iload_n 1, 1) := by decide +kernel
theorem dX5_boundsAreSound_10 : decode cX5_boundsAreSound 10 = .ok (.bipush 96, 2) := by decide +kernel
theorem dX5_boundsAreSound_12 : decode cX5_boundsAreSound 12 = .ok (.if_icmp .gt 15, 3) := by decide +kernel
theorem dX5_boundsAreSound_15 : decode cX5_boundsAreSound 15 = .ok (.iload_n 0, 1) := by decide +kernel
theorem dX5_boundsAreSound_16 : decode cX5_boundsAreSound 16 = .ok (.iload_n 1, 1) := by decide +kernel
theorem dX5_boundsAreSound_17 : decode cX5_boundsAreSound 17 = .ok (.invokestatic 48, 3) := by decide +kernel
theorem dX5_boundsAreSound_20 : decode cX5_boundsAreSound 20 = .ok (.ifCond .eq 7, 3) := by decide +kernel
theorem dX5_boundsAreSound_23 : decode cX5_boundsAreSound 23 = .ok (.iconst 1, 1) := by decide +kernel
theorem dX5_boundsAreSound_24 : decode cX5_boundsAreSound 24 = .ok (.goto 4, 3) := by decide +kernel
theorem dX5_boundsAreSound_27 : decode cX5_boundsAreSound 27 = .ok (.iconst 0, 1) := by decide +kernel
theorem dX5_boundsAreSound_28 : decode cX5_boundsAreSound 28 = .ok (.ireturn, 1) := by decide +kernel
theorem hd_X5_boundsAreSound : yX5_boundsAreSound.cls ≠ "java/lang/invoke/MethodHandle" ∧ yX5_boundsAreSound.cls ≠ "java/lang/invoke/VarHandle" ∧ (parseMethodDescriptor yX5_boundsAreSound.desc).map (fun d => d.parameters.length) = some 2 := by decide +kernel
abbrev rm_X5_boundsAreSound : Room := { frames := 3, cells := 0, slots := 0, locals := 65 }
set_option maxHeartbeats 4000000 in
set_option maxRecDepth 100000 in
theorem c_X5_boundsAreSound (l : Launch) (G : Gx) (b : Nat) (t : Nat) (hb : b < 128) (ht : t < 128) : Mt l G yX5_boundsAreSound cX5_boundsAreSound 2 (some .boolean) rm_X5_boundsAreSound [.int (nI b), .int (nI t)] [] (D1 (some (.int (bI (sndB b t)))) []) := by
  refine Mt.of (by decide) (Nat.le_of_ble_eq_true rfl) ?_
  intro K hl9 hn9 hR
  show V K G cX5_boundsAreSound RX5 2 rm_X5_boundsAreSound 0 0 0 [(0, .int (nI b)), (1, .int (nI t))] [] []
  refine v_iload_n dX5_boundsAreSound_0 rfl 0 rfl ?_
  refine n_if_lt (a := b) (tgt := 27) dX5_boundsAreSound_1 (by decide) (by omega) ?_
  refine v_iload_n dX5_boundsAreSound_4 rfl 0 rfl ?_
  refine v_iload_n dX5_boundsAreSound_5 rfl 1 rfl ?_
  refine n_icmp_ge (a := b) (b := t) (tgt := 27) dX5_boundsAreSound_6 (by decide) (by omega) (by omega) (fun c6 => ?_) (fun c6 => ?_)
  ·
    refine v_iconst (v := nI 0) dX5_boundsAreSound_27 (by decide) ?_
    refine v_eqi (y := bI false) (by decide) ?_
    exact v_zret hR dX5_boundsAreSound_28 (bI_nar _) (by refine ⟨?_, rfl⟩; unfold sndB; first | (simp only [*]; done) | (simp [*]; done) | (rw [decide_eq_false (by omega), Bool.false_and]))
  ·
    refine v_iload_n dX5_boundsAreSound_9 rfl 1 rfl ?_
    refine v_bipush (v := nI 96) dX5_boundsAreSound_10 (by decide) ?_
    refine n_icmp_gt (a := t) (b := 96) (tgt := 27) dX5_boundsAreSound_12 (by decide) (by omega) (by omega) (fun c12 => ?_) (fun c12 => ?_)
    ·
      refine v_iconst (v := nI 0) dX5_boundsAreSound_27 (by decide) ?_
      refine v_eqi (y := bI false) (by decide) ?_
      exact v_zret hR dX5_boundsAreSound_28 (bI_nar _) (by refine ⟨?_, rfl⟩; unfold sndB; first | (simp only [*]; done) | (simp [*]; done) | (rw [decide_eq_false (by omega), Bool.false_and]))
    ·
      refine v_iload_n dX5_boundsAreSound_15 rfl 0 rfl ?_
      refine v_iload_n dX5_boundsAreSound_16 rfl 1 rfl ?_
      refine c_S1 (As := [.int (nI b), .int (nI t)]) (rest := []) (wr := []) (k' := 0) (n' := 0) (st2 := [.int (bI (exactB b t))]) (ws2 := []) (c_X0_needNoRounding K.2.1 G b t (by omega) (by omega)) [] [] dX5_boundsAreSound_17 kw_415 kw_416 kw_52 kw_417 hd_X0_needNoRounding ⟨Nat.le_of_ble_eq_true rfl, Nat.le_of_ble_eq_true rfl⟩ ⟨(by decide), (by decide)⟩ ⟨rfl, rfl⟩ (Nat.le_of_ble_eq_true rfl) rfl rfl rfl rfl rfl rfl (by decide) [] rfl rfl rfl rfl ?_
      refine b_if_eq (tgt := 27) dX5_boundsAreSound_20 (by decide) (fun c20 => ?_) (fun c20 => ?_)
      ·
        refine v_iconst (v := nI 0) dX5_boundsAreSound_27 (by decide) ?_
        refine v_eqi (y := bI false) (by decide) ?_
        exact v_zret hR dX5_boundsAreSound_28 (bI_nar _) (by refine ⟨?_, rfl⟩; unfold sndB; first | (simp only [*]; done) | (simp [*]; done) | (rw [decide_eq_false (by omega), Bool.false_and]))
      ·
        refine v_iconst (v := nI 1) dX5_boundsAreSound_23 (by decide) ?_
        refine v_goto (tgt := 28) dX5_boundsAreSound_24 (by decide) ?_
        refine v_eqi (y := bI true) (by decide) ?_
        exact v_zret hR dX5_boundsAreSound_28 (bI_nar _) (by refine ⟨?_, rfl⟩; unfold sndB; first | (simp only [*]; done) | (simp [*]; done) | (rw [decide_eq_false (by omega), Bool.false_and]))
theorem dX5_rightsAreSound_0 : decode cX5_rightsAreSound 0 = .ok (.iconst 0, 1) := by decide +kernel
theorem dX5_rightsAreSound_1 : decode cX5_rightsAreSound 1 = .ok (.istore_n 2, 1) := by decide +kernel
theorem dX5_rightsAreSound_2 : decode cX5_rightsAreSound 2 = .ok (.iload_n 2, 1) := by decide +kernel
theorem dX5_rightsAreSound_3 : decode cX5_rightsAreSound 3 = .ok (.iload_n 1, 1) := by decide +kernel
theorem dX5_rightsAreSound_4 : decode cX5_rightsAreSound 4 = .ok (.if_icmp .ge 56, 3) := by decide +kernel
theorem dX5_rightsAreSound_7 : decode cX5_rightsAreSound 7 = .ok (.iload_n 2, 1) := by decide +kernel
theorem dX5_rightsAreSound_8 : decode cX5_rightsAreSound 8 = .ok (.aload_n 0, 1) := by decide +kernel
theorem dX5_rightsAreSound_9 : decode cX5_rightsAreSound 9 = .ok (.getfield 9, 3) := by decide +kernel
theorem dX5_rightsAreSound_12 : decode cX5_rightsAreSound 12 = .ok (.arraylength, 1) := by decide +kernel
theorem dX5_rightsAreSound_13 : decode cX5_rightsAreSound 13 = .ok (.if_icmp .ge 47, 3) := by decide +kernel
theorem dX5_rightsAreSound_16 : decode cX5_rightsAreSound 16 = .ok (.aload_n 0, 1) := by decide +kernel
theorem dX5_rightsAreSound_17 : decode cX5_rightsAreSound 17 = .ok (.getfield 9, 3) := by decide +kernel
theorem dX5_rightsAreSound_20 : decode cX5_rightsAreSound 20 = .ok (.iload_n 2, 1) := by decide +kernel
theorem dX5_rightsAreSound_21 : decode cX5_rightsAreSound 21 = .ok (.laload, 1) := by decide +kernel
theorem dX5_rightsAreSound_22 : decode cX5_rightsAreSound 22 = .ok (.invokestatic 25, 3) := by decide +kernel
theorem dX5_rightsAreSound_25 : decode cX5_rightsAreSound 25 = .ok (.ifCond .eq 29, 3) := by decide +kernel
theorem dX5_rightsAreSound_28 : decode cX5_rightsAreSound 28 = .ok (.aload_n 0, 1) := by decide +kernel
theorem dX5_rightsAreSound_29 : decode cX5_rightsAreSound 29 = .ok (.getfield 9, 3) := by decide +kernel
theorem dX5_rightsAreSound_32 : decode cX5_rightsAreSound 32 = .ok (.iload_n 2, 1) := by decide +kernel
theorem dX5_rightsAreSound_33 : decode cX5_rightsAreSound 33 = .ok (.laload, 1) := by decide +kernel
theorem dX5_rightsAreSound_34 : decode cX5_rightsAreSound 34 = .ok (.invokestatic 29, 3) := by decide +kernel
theorem dX5_rightsAreSound_37 : decode cX5_rightsAreSound 37 = .ok (.aload_n 0, 1) := by decide +kernel
theorem dX5_rightsAreSound_38 : decode cX5_rightsAreSound 38 = .ok (.getfield 9, 3) := by decide +kernel
theorem dX5_rightsAreSound_41 : decode cX5_rightsAreSound 41 = .ok (.iload_n 2, 1) := by decide +kernel
theorem dX5_rightsAreSound_42 : decode cX5_rightsAreSound 42 = .ok (.laload, 1) := by decide +kernel
theorem dX5_rightsAreSound_43 : decode cX5_rightsAreSound 43 = .ok (.invokestatic 42, 3) := by decide +kernel
theorem dX5_rightsAreSound_46 : decode cX5_rightsAreSound 46 = .ok (.invokestatic 45, 3) := by decide +kernel
theorem dX5_rightsAreSound_49 : decode cX5_rightsAreSound 49 = .ok (.ifCond .ne 5, 3) := by decide +kernel
theorem dX5_rightsAreSound_52 : decode cX5_rightsAreSound 52 = .ok (.iconst 0, 1) := by decide +kernel
theorem dX5_rightsAreSound_53 : decode cX5_rightsAreSound 53 = .ok (.ireturn, 1) := by decide +kernel
theorem dX5_rightsAreSound_54 : decode cX5_rightsAreSound 54 = .ok (.iinc 2 1, 3) := by decide +kernel
theorem dX5_rightsAreSound_57 : decode cX5_rightsAreSound 57 = .ok (.goto (-55), 3) := by decide +kernel
theorem dX5_rightsAreSound_60 : decode cX5_rightsAreSound 60 = .ok (.iconst 1, 1) := by decide +kernel
theorem dX5_rightsAreSound_61 : decode cX5_rightsAreSound 61 = .ok (.ireturn, 1) := by decide +kernel
theorem hd_X5_rightsAreSound : yX5_rightsAreSound.cls ≠ "java/lang/invoke/MethodHandle" ∧ yX5_rightsAreSound.cls ≠ "java/lang/invoke/VarHandle" ∧ (parseMethodDescriptor yX5_rightsAreSound.desc).map (fun d => d.parameters.length) = some 1 := by decide +kernel
abbrev rm_X5_rightsAreSound : Room := { frames := 4, cells := 0, slots := 0, locals := 86 }
set_option maxHeartbeats 4000000 in
set_option maxRecDepth 100000 in
theorem c_X5_rightsAreSound (l : Launch) (G : Gx) (o : Nat) (a : Nat) (z : Nat) (f : Nat → Int64) (n : Nat) (hz : z ≤ 2000) (hn : n ≤ z) : Mt l G yX5_rightsAreSound cX5_rightsAreSound 3 (some .boolean) rm_X5_rightsAreSound [.ref o, .int (nI n)] [(o, .inr (4, [.ref a])), (a, .inl (G.2.1 2, z, .inr (.inl f)))] (D1 (some (.int (bI (allF (sndW f) n)))) [(o, .inr (4, [.ref a])), (a, .inl (G.2.1 2, z, .inr (.inl f)))]) := by
  refine Mt.of (by decide) (Nat.le_of_ble_eq_true rfl) ?_
  intro K hl9 hn9 hR
  show V K G cX5_rightsAreSound RX5 3 rm_X5_rightsAreSound 0 0 0 [(0, .ref o), (1, .int (nI n))] [] [(o, .inr (4, [.ref a])), (a, .inl (G.2.1 2, z, .inr (.inl f)))]
  refine v_iconst (v := nI 0) dX5_rightsAreSound_0 (by decide) ?_
  refine v_istore_n (lv' := [(2, .int (nI 0)), (0, .ref o), (1, .int (nI n))]) dX5_rightsAreSound_1 rfl (by decide) rfl ?_
  have L2 : ∀ (f9 : Nat) (i : Nat) (hi : i ≤ n) (ha : allF (sndW f) i = true), n - i < f9 → V K G cX5_rightsAreSound RX5 3 rm_X5_rightsAreSound 0 0 2 [(2, .int (nI i)), (0, .ref o), (1, .int (nI n))] [] [(o, .inr (4, [.ref a])), (a, .inl (G.2.1 2, z, .inr (.inl f)))] := by
    intro f9
    induction f9 with
    | zero => intro i hi ha hm; exact absurd hm (Nat.not_lt_zero _)
    | succ f9 ih2 =>
      intro i hi ha hm2
      refine v_iload_n dX5_rightsAreSound_2 rfl 0 rfl ?_
      refine v_iload_n dX5_rightsAreSound_3 rfl 2 rfl ?_
      refine n_icmp_ge (a := i) (b := n) (tgt := 60) dX5_rightsAreSound_4 (by decide) (by omega) (by omega) (fun c4 => ?_) (fun c4 => ?_)
      ·
        refine v_iconst (v := nI 1) dX5_rightsAreSound_60 (by decide) ?_
        refine v_eqi (y := bI true) (by decide) ?_
        exact v_zret hR dX5_rightsAreSound_61 (bI_nar _) (by refine ⟨?_, rfl⟩; rw [← ha, show i = n by omega])
      ·
        refine v_iload_n dX5_rightsAreSound_7 rfl 0 rfl ?_
        refine v_aload_n dX5_rightsAreSound_8 rfl 1 rfl ?_
        refine v_get (ref := "Sealhouse$Row") (C := RX5) (T := TX5) (N := 1) 0 0 dX5_rightsAreSound_9 rfl rfl gin_X5 (by decide) kw_75 rfl rfl ?_
        refine v_alen (v := nI z) 1 2 dX5_rightsAreSound_12 rfl rfl rfl ?_
        refine n_icmp_ge (a := i) (b := z) (tgt := 60) dX5_rightsAreSound_13 (by decide) (by omega) (by omega) (fun c13 => absurd c13 (by omega)) (fun c13 => ?_)
        refine v_aload_n dX5_rightsAreSound_16 rfl 1 rfl ?_
        refine v_get (ref := "Sealhouse$Row") (C := RX5) (T := TX5) (N := 1) 0 0 dX5_rightsAreSound_17 rfl rfl gin_X5 (by decide) kw_75 rfl rfl ?_
        refine v_iload_n dX5_rightsAreSound_20 rfl 0 rfl ?_
        refine n_lald (i := i) (x := f i) 1 dX5_rightsAreSound_21 rfl (by omega) (by omega) rfl ?_
        refine c_S1 (As := [.long (f i)]) (rest := []) (wr := [(o, .inr (4, [.ref a])), (a, .inl (G.2.1 2, z, .inr (.inl f)))]) (k' := 0) (n' := 0) (st2 := [.int (bI (wM (f i)))]) (ws2 := [(o, .inr (4, [.ref a])), (a, .inl (G.2.1 2, z, .inr (.inl f)))]) (c_X6_holdsRight K.2.1 G (f i) ) [] [0, 1] dX5_rightsAreSound_22 kw_283 kw_284 kw_45 kw_285 hd_X6_holdsRight ⟨Nat.le_of_ble_eq_true rfl, Nat.le_of_ble_eq_true rfl⟩ ⟨(by decide), (by decide)⟩ ⟨rfl, rfl⟩ (Nat.le_of_ble_eq_true rfl) rfl rfl rfl rfl rfl rfl (by decide) [0, 1] rfl rfl rfl rfl ?_
        refine b_if_eq (tgt := 54) dX5_rightsAreSound_25 (by decide) (fun c25 => ?_) (fun c25 => ?_)
        ·
          refine n_iinc (a := i) (y := i + 1) (lv' := [(2, .int (nI (i + 1))), (0, .ref o), (1, .int (nI n))]) dX5_rightsAreSound_54 0 rfl (nI_inc _) (by decide) rfl ?_
          refine v_goto (tgt := 2) dX5_rightsAreSound_57 (by decide) ?_
          exact ih2 (i + 1) (by omega) (by rw [allF, ha]; unfold sndW; simp [*]) (by omega)
        ·
          refine v_aload_n dX5_rightsAreSound_28 rfl 1 rfl ?_
          refine v_get (ref := "Sealhouse$Row") (C := RX5) (T := TX5) (N := 1) 0 0 dX5_rightsAreSound_29 rfl rfl gin_X5 (by decide) kw_75 rfl rfl ?_
          refine v_iload_n dX5_rightsAreSound_32 rfl 0 rfl ?_
          refine n_lald (i := i) (x := f i) 1 dX5_rightsAreSound_33 rfl (by omega) (by omega) rfl ?_
          refine c_S1 (As := [.long (f i)]) (rest := []) (wr := [(o, .inr (4, [.ref a])), (a, .inl (G.2.1 2, z, .inr (.inl f)))]) (k' := 0) (n' := 0) (st2 := [.int (nI (wB (f i)))]) (ws2 := [(o, .inr (4, [.ref a])), (a, .inl (G.2.1 2, z, .inr (.inl f)))]) (c_X6_base K.2.1 G (f i) ) [] [0, 1] dX5_rightsAreSound_34 kw_286 kw_287 kw_45 kw_288 hd_X6_base ⟨Nat.le_of_ble_eq_true rfl, Nat.le_of_ble_eq_true rfl⟩ ⟨(by decide), (by decide)⟩ ⟨rfl, rfl⟩ (Nat.le_of_ble_eq_true rfl) rfl rfl rfl rfl rfl rfl (by decide) [0, 1] rfl rfl rfl rfl ?_
          refine v_aload_n dX5_rightsAreSound_37 rfl 1 rfl ?_
          refine v_get (ref := "Sealhouse$Row") (C := RX5) (T := TX5) (N := 1) 0 0 dX5_rightsAreSound_38 rfl rfl gin_X5 (by decide) kw_75 rfl rfl ?_
          refine v_iload_n dX5_rightsAreSound_41 rfl 0 rfl ?_
          refine n_lald (i := i) (x := f i) 1 dX5_rightsAreSound_42 rfl (by omega) (by omega) rfl ?_
          refine c_S1 (As := [.long (f i)]) (rest := [.int (nI (wB (f i)))]) (wr := [(o, .inr (4, [.ref a])), (a, .inl (G.2.1 2, z, .inr (.inl f)))]) (k' := 0) (n' := 0) (st2 := [.int (nI (wT (f i))), .int (nI (wB (f i)))]) (ws2 := [(o, .inr (4, [.ref a])), (a, .inl (G.2.1 2, z, .inr (.inl f)))]) (c_X6_top K.2.1 G (f i) ) [] [0, 1] dX5_rightsAreSound_43 kw_411 kw_348 kw_45 kw_349 hd_X6_top ⟨Nat.le_of_ble_eq_true rfl, Nat.le_of_ble_eq_true rfl⟩ ⟨(by decide), (by decide)⟩ ⟨rfl, rfl⟩ (Nat.le_of_ble_eq_true rfl) rfl rfl rfl rfl rfl rfl (by decide) [0, 1] rfl rfl rfl rfl ?_
          refine c_S1 (As := [.int (nI (wB (f i))), .int (nI (wT (f i)))]) (rest := []) (wr := [(o, .inr (4, [.ref a])), (a, .inl (G.2.1 2, z, .inr (.inl f)))]) (k' := 0) (n' := 0) (st2 := [.int (bI (sndB (wB (f i)) (wT (f i))))]) (ws2 := [(o, .inr (4, [.ref a])), (a, .inl (G.2.1 2, z, .inr (.inl f)))]) (c_X5_boundsAreSound K.2.1 G (wB (f i)) (wT (f i)) (by exact wB_lt _) (by exact wT_lt _)) [] [0, 1] dX5_rightsAreSound_46 kw_412 kw_413 kw_39 kw_414 hd_X5_boundsAreSound ⟨Nat.le_of_ble_eq_true rfl, Nat.le_of_ble_eq_true rfl⟩ ⟨(by decide), (by decide)⟩ ⟨rfl, rfl⟩ (Nat.le_of_ble_eq_true rfl) rfl rfl rfl rfl rfl rfl (by decide) [0, 1] rfl rfl rfl rfl ?_
          refine b_if_ne (tgt := 54) dX5_rightsAreSound_49 (by decide) (fun c49 => ?_) (fun c49 => ?_)
          ·
            refine n_iinc (a := i) (y := i + 1) (lv' := [(2, .int (nI (i + 1))), (0, .ref o), (1, .int (nI n))]) dX5_rightsAreSound_54 0 rfl (nI_inc _) (by decide) rfl ?_
            refine v_goto (tgt := 2) dX5_rightsAreSound_57 (by decide) ?_
            exact ih2 (i + 1) (by omega) (by rw [allF, ha]; unfold sndW; simp [*]) (by omega)
          ·
            refine v_iconst (v := nI 0) dX5_rightsAreSound_52 (by decide) ?_
            refine v_eqi (y := bI false) (by decide) ?_
            exact v_zret hR dX5_rightsAreSound_53 (bI_nar _) (by refine ⟨?_, rfl⟩; rw [allF_false (i := i) (by omega) (by unfold sndW; simp [*])])
  exact L2 (n - 0 + 1) 0 (by omega) (by rfl) (Nat.lt_succ_self _)
