/-! bits of the class's sets, by their meaning -/
theorem tb_updL (h : Nat → Int64) (i j : Nat) (v : Int64) : vp_updL h i v j = if j = i then v else h j := rfl
theorem tb_eq (h : Nat → Int64) (i : Nat) (v : Int64) : vp_updL h i v i = v := if_pos rfl
theorem tb_ne (h : Nat → Int64) {i j : Nat} (v : Int64) (e : j ≠ i) : vp_updL h i v j = h j := if_neg e
theorem one_shl {q : Nat} (hq : q < 128) : uL ((1 : Int64) <<< ((nI q).toInt64 &&& 63)) = 2 ^ (q % 64) := by
  have h : ∀ q, q < 128 → uL ((1 : Int64) <<< ((nI q).toInt64 &&& 63)) = 2 ^ (q % 64) := by decide +kernel
  exact h q hq
theorem bt_addH (h : Nat → Int64) {s q s' q' : Nat} (hq : q < 128) (hq' : q' < 128) : bt (addH h s q) s' q' = (bt h s' q' || decide (s' = s ∧ q' = q)) := by
  unfold bt addH
  rw [tb_updL]
  by_cases e : 2 * s' + q' / 64 = 2 * s + q / 64
  · rw [if_pos e, uL_or, one_shl hq, Nat.testBit_or, Nat.testBit_two_pow, e]
    congr 1
    by_cases e2 : q' = q
    · have : s' = s := by subst e2; omega
      subst this; subst e2; simp
    · have : ¬ q % 64 = q' % 64 := by omega
      simp [e2, this]
  · rw [if_neg e]
    have : ¬ (s' = s ∧ q' = q) := fun z => e (by rw [z.1, z.2])
    rw [decide_eq_false this, Bool.or_false]
def bitsN (f l : Nat) : Nat := if f < l then (2 ^ (l - f) - 1) * 2 ^ f else 0
theorem shl_amt : ∀ f, f < 64 → (((nI f).toInt64 &&& 63 : Int64).toBitVec.smod 64).toNat = f := by decide +kernel
theorem ones_div : ∀ n, n < 65 → (2 ^ 64 - 1) / 2 ^ (64 - n) = 2 ^ n - 1 := by decide +kernel
theorem ushr_k (x : Int64) {k : Nat} (hk : k < 64) : uL (x.toUInt64 >>> ((nI k).toInt64.toUInt64 &&& Int64.toUInt64 63)).toInt64 = uL x / 2 ^ k := ushr_uL x hk (by rw [sh_amt (by omega)]; omega)
theorem bits_core {f l : Nat} (h : f < l) (hl : l ≤ 64) : uL (((-1 : Int64).toUInt64 >>> ((nI 64 - (nI l - nI f)).toInt64.toUInt64 &&& Int64.toUInt64 63)).toInt64 <<< ((nI f).toInt64 &&& 63)) = (2 ^ (l - f) - 1) * 2 ^ f := by
  have e1 : nI l - nI f = nI (l - f) := pk_sub (by omega)
  have e2 : nI 64 - nI (l - f) = nI (64 - (l - f)) := pk_sub (by omega)
  rw [e1, e2]
  have h1 := ushr_k (-1 : Int64) (k := 64 - (l - f)) (by omega)
  rw [show uL (-1 : Int64) = 2 ^ 64 - 1 by decide, ones_div (l - f) (by omega)] at h1
  have h2 : ((-1 : Int64).toUInt64 >>> ((nI (64 - (l - f))).toInt64.toUInt64 &&& Int64.toUInt64 63)).toInt64 = lN (2 ^ (l - f) - 1) := by
    rw [← h1, lN_uL]
  have h3 : (2 ^ (l - f) - 1) * 2 ^ f < 2 ^ 64 := by
    have a : (2 ^ (l - f) - 1) * 2 ^ f < 2 ^ (l - f) * 2 ^ f := Nat.mul_lt_mul_of_pos_right (Nat.sub_lt (Nat.two_pow_pos _) (by decide)) (Nat.two_pow_pos f)
    rw [← Nat.pow_add, show l - f + f = l by omega] at a
    exact Nat.lt_of_lt_of_le a (Nat.pow_le_pow_right (by decide) hl)
  rw [h2, lN_shl (2 ^ (l - f) - 1) f (shl_amt f (by omega)) h3, uL_lN h3]
theorem bitsF_n {x y : Int32} {f l : Nat} (hf : (if 0 ≤ x then x else nI 0) = nI f) (hl : (if y ≤ nI 64 then y else nI 64) = nI l) (hf2 : f < 128) (hl2 : l ≤ 64) : uL (bitsF x y) = bitsN f l := by
  unfold bitsF bitsN
  rw [hf, hl]
  by_cases h : l ≤ f
  · rw [if_pos ((nI_leI (by omega) (by omega)).mpr h), if_neg (by omega)]; decide
  · rw [if_neg (fun z => h ((nI_leI (by omega) (by omega)).mp z)), if_pos (by omega)]
    exact bits_core (by omega) hl2
theorem bits_1 (b : Nat) (hb : b < 97) (t : Nat) (ht : t < 97) : uL (bitsF (nI b) (nI t)) = bitsN b (min t 64) := by
  refine bitsF_n (if_pos (nI_pos' (by omega))) ?_ (by omega) (by omega)
  by_cases h : t ≤ 64
  · rw [if_pos ((nI_leI (by omega) (by omega)).mpr h), show min t 64 = t by omega]
  · rw [if_neg (fun z => h ((nI_leI (by omega) (by omega)).mp z)), show min t 64 = 64 by omega]
theorem low_64 : ∀ b, b < 97 → (if 0 ≤ nI b - nI 64 then nI b - nI 64 else nI 0) = nI (b - 64) := by decide +kernel
theorem high_64 : ∀ t, t < 97 → 64 ≤ t → (if nI t - nI 64 ≤ nI 64 then nI t - nI 64 else nI 64) = nI (t - 64) := by decide +kernel
theorem high_0 : ∀ t, t < 64 → (if nI t - nI 64 ≤ nI 64 then nI t - nI 64 else nI 64) ≤ nI 0 := by decide +kernel
theorem bits_2 (b : Nat) (hb : b < 97) (t : Nat) (ht : t < 97) : uL (bitsF (nI b - nI 64) (nI t - nI 64)) = bitsN (b - 64) (t - 64) := by
  rcases Nat.lt_or_ge t 64 with h | h
  · unfold bitsF bitsN
    rw [low_64 b hb, if_pos (Int32.le_trans (high_0 t h) (nI_le (Nat.zero_le _) (by omega))), if_neg (by omega)]; decide
  · exact bitsF_n (low_64 b hb) (high_64 t ht h) (by omega) (by omega)
theorem bitsN_tb (f l i : Nat) : (bitsN f l).testBit i = decide (f ≤ i ∧ i < l) := by
  unfold bitsN
  split
  · rename_i h
    rw [Nat.mul_comm, Nat.testBit_two_pow_mul, Nat.testBit_two_pow_sub_one]
    by_cases h1 : f ≤ i
    · simp only [h1, decide_true, Bool.true_and, true_and]
      exact decide_eq_decide.mpr (by omega)
    · simp [h1]
  · rename_i h
    rw [Nat.zero_testBit]
    symm; rw [decide_eq_false_iff_not]; omega
theorem bt_rngH (h : Nat → Int64) {s b t s' q : Nat} (hb : b < 97) (ht : t < 97) (hq : q < 128) : bt (rngH h s (nI b) (nI t)) s' q = (bt h s' q || decide (s' = s ∧ b ≤ q ∧ q < t)) := by
  unfold bt rngH
  by_cases e : s' = s
  · subst e
    rcases Nat.lt_or_ge q 64 with h1 | h1
    · have e0 : q / 64 = 0 := by omega
      have e1 : q % 64 = q := by omega
      rw [e0, e1, tb_ne (i := 2 * s' + 1) (j := 2 * s' + 0) _ _ (by omega), Nat.add_zero, tb_eq, uL_or, Nat.testBit_or, bits_1 b hb t ht, bitsN_tb]
      congr 1
      exact decide_eq_decide.mpr (by omega)
    · have e0 : q / 64 = 1 := by omega
      have e1 : q % 64 = q - 64 := by omega
      rw [e0, e1, tb_eq, tb_ne (i := 2 * s') (j := 2 * s' + 1) _ _ (by omega), uL_or, Nat.testBit_or, bits_2 b hb t ht, bitsN_tb]
      congr 1
      exact decide_eq_decide.mpr (by omega)
  · rw [tb_ne (i := 2 * s + 1) (j := 2 * s' + q / 64) _ _ (by omega), tb_ne (i := 2 * s) (j := 2 * s' + q / 64) _ _ (by omega), decide_eq_false (fun z => e z.1), Bool.or_false]
theorem bt_clrH (h : Nat → Int64) {s s' q : Nat} (hq : q < 128) : bt (clrH h s) s' q = (!decide (s' = s) && bt h s' q) := by
  unfold bt clrH
  rw [tb_updL, tb_updL]
  by_cases e : s' = s
  · subst e
    have e0 : q / 64 = 0 ∨ q / 64 = 1 := by omega
    have z : uL (0 : Int64) = 0 := by decide
    rcases e0 with e0 | e0
    · rw [e0, if_neg (by omega), if_pos (by omega), z, Nat.zero_testBit, decide_eq_true rfl]; rfl
    · rw [e0, if_pos rfl, z, Nat.zero_testBit, decide_eq_true rfl]; rfl
  · rw [if_neg (by omega), if_neg (by omega), decide_eq_false e]; rfl
theorem bt_allH (h g : Nat → Int64) {s s' q : Nat} (hq : q < 128) : bt (allH h g s) s' q = (bt h s' q || (decide (s' = s) && bt g s' q)) := by
  unfold bt allH
  by_cases e : s' = s
  · subst e
    have e0 : q / 64 = 0 ∨ q / 64 = 1 := by omega
    rcases e0 with e0 | e0
    · rw [e0, tb_ne (i := 2 * s' + 1) (j := 2 * s' + 0) _ _ (by omega), Nat.add_zero, tb_eq, uL_or, Nat.testBit_or, decide_eq_true rfl, Bool.true_and]
    · rw [e0, tb_eq, tb_ne (i := 2 * s') (j := 2 * s' + 1) _ _ (by omega), uL_or, Nat.testBit_or, decide_eq_true rfl, Bool.true_and]
  · rw [tb_ne (i := 2 * s + 1) (j := 2 * s' + q / 64) _ _ (by omega), tb_ne (i := 2 * s) (j := 2 * s' + q / 64) _ _ (by omega), decide_eq_false e, Bool.false_and, Bool.or_false]
theorem xor_m1 (x : Int64) {i : Nat} (hi : i < 64) : (uL (x ^^^ (-1 : Int64))).testBit i = !(uL x).testBit i := by
  unfold uL
  rw [Int64.toBitVec_xor, BitVec.toNat_xor, Nat.testBit_xor]
  have : ((-1 : Int64).toBitVec.toNat).testBit i = true := by
    rw [show (-1 : Int64).toBitVec.toNat = 2 ^ 64 - 1 by decide, Nat.testBit_two_pow_sub_one, decide_eq_true hi]
  rw [this, Bool.xor_true]
theorem and_0 (x y : Int64) : x &&& y = 0 ↔ ∀ i, i < 64 → (uL x).testBit i = true → (uL y).testBit i = false := by
  constructor
  · intro h i hi h1
    have h2 : uL (x &&& y) = 0 := by rw [h]; decide
    rw [uL_and] at h2
    have h3 := congrArg (fun n => n.testBit i) h2
    simp only [Nat.testBit_and, Nat.zero_testBit, h1, Bool.true_and] at h3
    exact h3
  · intro h
    apply uL_inj
    rw [uL_and]
    apply Nat.eq_of_testBit_eq
    intro i
    rw [Nat.testBit_and, show uL (0 : Int64) = 0 by decide, Nat.zero_testBit]
    rcases Nat.lt_or_ge i 64 with hi | hi
    · cases e : (uL x).testBit i
      · rfl
      · rw [h i hi e]; rfl
    · rw [Nat.testBit_lt_two_pow (Nat.lt_of_lt_of_le (uL_lt x) (Nat.pow_le_pow_right (by decide) hi))]; rfl
theorem hasR_iff (h : Nat → Int64) {s b t : Nat} (hb : b < 97) (ht : t < 97) : hasR h s (nI b) (nI t) = true ↔ ∀ q, b ≤ q → q < t → bt h s q = true := by
  unfold hasR
  rw [Bool.and_eq_true, decide_eq_true_eq, decide_eq_true_eq, and_0, and_0, bits_1 b hb t ht, bits_2 b hb t ht]
  constructor
  · intro ⟨h1, h2⟩ q q1 q2
    unfold bt
    rcases Nat.lt_or_ge q 64 with h3 | h3
    · have := h1 q h3 (by rw [bitsN_tb]; exact decide_eq_true (by omega))
      rw [xor_m1 _ h3] at this
      rw [show q / 64 = 0 by omega, show q % 64 = q by omega, Nat.add_zero]
      simpa using this
    · have h4 : q - 64 < 64 := by omega
      have := h2 (q - 64) h4 (by rw [bitsN_tb]; exact decide_eq_true (by omega))
      rw [xor_m1 _ h4] at this
      rw [show q / 64 = 1 by omega, show q % 64 = q - 64 by omega]
      simpa using this
  · intro h1
    constructor
    · intro i hi h2
      rw [bitsN_tb] at h2
      have h3 := of_decide_eq_true h2
      have := h1 i h3.1 (by omega)
      unfold bt at this
      rw [show i / 64 = 0 by omega, show i % 64 = i by omega, Nat.add_zero] at this
      rw [xor_m1 _ hi, this]; rfl
    · intro i hi h2
      rw [bitsN_tb] at h2
      have h3 := of_decide_eq_true h2
      have := h1 (i + 64) (by omega) (by omega)
      unfold bt at this
      rw [show (i + 64) / 64 = 1 by omega, show (i + 64) % 64 = i by omega] at this
      rw [xor_m1 _ hi, this]; rfl
/-! the count of bits -/
theorem and_mod (x y k : Nat) : (x &&& y) % 2 ^ k = (x % 2 ^ k) &&& (y % 2 ^ k) := Nat.and_mod_two_pow
theorem and_div (x y k : Nat) : (x &&& y) / 2 ^ k = (x / 2 ^ k) &&& (y / 2 ^ k) := by
  apply Nat.eq_of_testBit_eq
  intro i
  rw [Nat.testBit_div_two_pow, Nat.testBit_and, Nat.testBit_and, Nat.testBit_div_two_pow, Nat.testBit_div_two_pow]
theorem and_256 (x y : Nat) : x &&& y = (x % 256 &&& y % 256) + 256 * (x / 256 &&& y / 256) := by
  have h1 := and_mod x y 8
  have h2 := and_div x y 8
  have h3 := Nat.div_add_mod (x &&& y) 256
  rw [show (2 : Nat) ^ 8 = 256 from rfl] at h1 h2
  omega
def pc8 (n : Nat) : Nat := n % 2 + n / 2 % 2 + n / 4 % 2 + n / 8 % 2 + n / 16 % 2 + n / 32 % 2 + n / 64 % 2 + n / 128 % 2
def msk (b : Nat) : Nat → Nat
  | 0 => 0
  | k + 1 => b + 256 * msk b k
def g1 (k n : Nat) : Nat := n - (n / 2 &&& msk 85 k)
def g2 (k n : Nat) : Nat := (n &&& msk 51 k) + (n / 4 &&& msk 51 k)
def g3 (k n : Nat) : Nat := (n + n / 16) &&& msk 15 k
def pcs : Nat → Nat → Nat
  | 0, _ => 0
  | k + 1, n => pc8 (n % 256) + 256 * pcs k (n / 256)
theorem by1 : ∀ b, b < 256 → (∀ c, c < 2 → (b / 2 + 128 * c) &&& 85 = b / 2 &&& 85) ∧ (b / 2 &&& 85) ≤ b := by decide +kernel
theorem by2 : ∀ b, b < 256 → ∀ c, c < 4 → (b / 4 + 64 * c) &&& 51 = b / 4 &&& 51 := by decide +kernel
theorem by3 : ∀ b, b < 256 → ∀ c, c < 16 → (b % 16 + b / 16 + 16 * c) &&& 15 = (b % 16 + b / 16) &&& 15 := by decide +kernel
theorem g1_s (k b m : Nat) (hb : b < 256) : g1 (k + 1) (b + 256 * m) = g1 1 b + 256 * g1 k m := by
  unfold g1
  have e : (b + 256 * m) / 2 &&& msk 85 (k + 1) = (b / 2 &&& 85) + 256 * (m / 2 &&& msk 85 k) := by
    rw [and_256]
    have h1 : (b + 256 * m) / 2 % 256 = b / 2 + 128 * (m % 2) := by omega
    have h2 : (b + 256 * m) / 2 / 256 = m / 2 := by omega
    have h3 : msk 85 (k + 1) % 256 = 85 := by rw [msk]; omega
    have h4 : msk 85 (k + 1) / 256 = msk 85 k := by rw [msk]; omega
    rw [h1, h2, h3, h4, (by1 b hb).1 (m % 2) (Nat.mod_lt _ (by decide))]
  rw [e]
  have h5 := (by1 b hb).2
  have h6 : (m / 2 &&& msk 85 k) ≤ m := Nat.le_trans Nat.and_le_left (Nat.div_le_self m 2)
  rw [show msk 85 1 = 85 from rfl]
  omega
theorem g2_s (k b m : Nat) (hb : b < 256) : g2 (k + 1) (b + 256 * m) = g2 1 b + 256 * g2 k m := by
  unfold g2
  have h3 : msk 51 (k + 1) % 256 = 51 := by rw [msk]; omega
  have h4 : msk 51 (k + 1) / 256 = msk 51 k := by rw [msk]; omega
  have e1 : (b + 256 * m) &&& msk 51 (k + 1) = (b &&& 51) + 256 * (m &&& msk 51 k) := by
    rw [and_256, h3, h4, show (b + 256 * m) % 256 = b by omega, show (b + 256 * m) / 256 = m by omega]
  have e2 : (b + 256 * m) / 4 &&& msk 51 (k + 1) = (b / 4 &&& 51) + 256 * (m / 4 &&& msk 51 k) := by
    rw [and_256, h3, h4, show (b + 256 * m) / 4 % 256 = b / 4 + 64 * (m % 4) by omega, show (b + 256 * m) / 4 / 256 = m / 4 by omega, by2 b hb (m % 4) (Nat.mod_lt _ (by decide))]
  rw [e1, e2, show msk 51 1 = 51 from rfl]
  omega
/-- every byte of it is at most 119, with halves of at most 4 -/
def okb (b : Nat) : Prop := b / 16 ≤ 4 ∧ b % 16 ≤ 4
theorem g3_s (k b m : Nat) (hb : okb b) (hm : m = 0 ∨ m % 16 ≤ 4) : g3 (k + 1) (b + 256 * m) = g3 1 b + 256 * g3 k m := by
  unfold g3
  obtain ⟨h1, h2⟩ := hb
  have h3 : msk 15 (k + 1) % 256 = 15 := by rw [msk]; omega
  have h4 : msk 15 (k + 1) / 256 = msk 15 k := by rw [msk]; omega
  have e1 : (b + 256 * m + (b + 256 * m) / 16) % 256 = b + b / 16 + 16 * (m % 16) := by omega
  have e2 : (b + 256 * m + (b + 256 * m) / 16) / 256 = m + m / 16 := by omega
  rw [and_256, h3, h4, e1, e2, show msk 15 1 = 15 from rfl]
  congr 1
  have h5 : ∀ b, b < 80 → ∀ c, c < 5 → (b + b / 16 + 16 * c) &&& 15 = (b + b / 16) &&& 15 := by decide +kernel
  exact h5 b (by omega) (m % 16) (by omega)
theorem one_b : ∀ b, b < 256 → (g1 1 b < 256 ∧ g2 1 (g1 1 b) < 256 ∧ g2 1 (g1 1 b) / 16 ≤ 4 ∧ g2 1 (g1 1 b) % 16 ≤ 4 ∧ g3 1 (g2 1 (g1 1 b)) = pc8 b) := by
  unfold g1 g2 g3 pc8; decide +kernel
theorem g_all : ∀ k n, n < 256 ^ k → g3 k (g2 k (g1 k n)) = pcs k n ∧ (g2 k (g1 k n) = 0 ∨ g2 k (g1 k n) % 16 ≤ 4)
  | 0, n, h => by
    have : n = 0 := by omega
    subst this
    exact ⟨rfl, Or.inl rfl⟩
  | k + 1, n, h => by
    have hb : n % 256 < 256 := Nat.mod_lt _ (by decide)
    have hm : n / 256 < 256 ^ k := by
      rw [Nat.pow_succ] at h
      exact Nat.div_lt_of_lt_mul (by rw [Nat.mul_comm]; exact h)
    have ih := g_all k (n / 256) hm
    have ob := one_b (n % 256) hb
    have e : n = n % 256 + 256 * (n / 256) := by omega
    have e2 : g2 (k + 1) (g1 (k + 1) n) = g2 1 (g1 1 (n % 256)) + 256 * g2 k (g1 k (n / 256)) := by
      conv => lhs; rw [e]
      rw [g1_s k _ _ hb, g2_s k _ _ ob.1]
    refine ⟨?_, ?_⟩
    · rw [e2, g3_s k _ _ ⟨ob.2.2.1, ob.2.2.2.1⟩ ih.2, ob.2.2.2.2, ih.1]; rfl
    · right; rw [e2]; have := ob.2.2.2.1; omega
theorem uL_sub {x y : Int64} (h : uL y ≤ uL x) : uL (x - y) = uL x - uL y := by
  have h1 := uL_lt x
  unfold uL at *
  rw [Int64.toBitVec_sub, BitVec.toNat_sub]
  omega
theorem uL_add {x y : Int64} (h : uL x + uL y < 2 ^ 64) : uL (x + y) = uL x + uL y := by
  unfold uL at *
  rw [Int64.toBitVec_add, BitVec.toNat_add, Nat.mod_eq_of_lt h]
def w1 (i : Int64) : Int64 := i - ((i.toUInt64 >>> ((nI 1).toInt64.toUInt64 &&& Int64.toUInt64 63)).toInt64 &&& (6148914691236517205 : Int64))
def w2 (i : Int64) : Int64 := (i &&& (3689348814741910323 : Int64)) + ((i.toUInt64 >>> ((nI 2).toInt64.toUInt64 &&& Int64.toUInt64 63)).toInt64 &&& (3689348814741910323 : Int64))
def w3 (i : Int64) : Int64 := (i + (i.toUInt64 >>> ((nI 4).toInt64.toUInt64 &&& Int64.toUInt64 63)).toInt64) &&& (1085102592571150095 : Int64)
def w4 (k : Nat) (i : Int64) : Int64 := i + (i.toUInt64 >>> ((nI k).toInt64.toUInt64 &&& Int64.toUInt64 63)).toInt64
theorem popF_w (i : Int64) : popF i = (w4 32 (w4 16 (w4 8 (w3 (w2 (w1 i)))))).toInt32 &&& nI 127 := by
  unfold popF
  simp only [w4, w3, w2, w1]
theorem msk_8 : msk 85 8 = uL (6148914691236517205 : Int64) ∧ msk 51 8 = uL (3689348814741910323 : Int64) ∧ msk 15 8 = uL (1085102592571150095 : Int64) := by decide +kernel
theorem w1_u (i : Int64) : uL (w1 i) = g1 8 (uL i) := by
  unfold w1 g1
  have e : uL ((i.toUInt64 >>> ((nI 1).toInt64.toUInt64 &&& Int64.toUInt64 63)).toInt64 &&& (6148914691236517205 : Int64)) = (uL i / 2 &&& msk 85 8) := by
    rw [uL_and, ushr_k i (k := 1) (by decide), msk_8.1]
  rw [uL_sub, e]
  rw [e]; exact Nat.le_trans Nat.and_le_left (Nat.div_le_self _ 2)
theorem w2_u (i : Int64) : uL (w2 i) = g2 8 (uL i) := by
  unfold w2 g2
  have e1 : uL (i &&& (3689348814741910323 : Int64)) = (uL i &&& msk 51 8) := by rw [uL_and, msk_8.2.1]
  have e2 : uL ((i.toUInt64 >>> ((nI 2).toInt64.toUInt64 &&& Int64.toUInt64 63)).toInt64 &&& (3689348814741910323 : Int64)) = (uL i / 4 &&& msk 51 8) := by
    rw [uL_and, ushr_k i (k := 2) (by decide), msk_8.2.1]
  have hm : msk 51 8 < 2 ^ 62 := by decide
  have h1 : (uL i &&& msk 51 8) ≤ msk 51 8 := Nat.and_le_right
  have h2 : (uL i / 4 &&& msk 51 8) ≤ msk 51 8 := Nat.and_le_right
  rw [uL_add (by rw [e1, e2]; omega), e1, e2]
theorem w3_u {i : Int64} (h : uL i < 2 ^ 63) : uL (w3 i) = g3 8 (uL i) := by
  unfold w3 g3
  rw [uL_and, uL_add (by rw [ushr_k i (k := 4) (by decide)]; omega), ushr_k i (k := 4) (by decide), msk_8.2.2]
theorem w4_u {i : Int64} {k : Nat} (hk : k < 64) (h : uL i + uL i / 2 ^ k < 2 ^ 64) : uL (w4 k i) = uL i + uL i / 2 ^ k := by
  unfold w4
  rw [uL_add (by rw [ushr_k i hk]; exact h), ushr_k i hk]
theorem pc8_le : ∀ b, b < 256 → pc8 b ≤ 8 := by unfold pc8; decide +kernel
def tbs (n : Nat) : Nat := pc8 (n % 256) + (pc8 (n / 256 % 256) + (pc8 (n / 256 / 256 % 256) + (pc8 (n / 256 / 256 / 256 % 256) + (pc8 (n / 256 / 256 / 256 / 256 % 256) + (pc8 (n / 256 / 256 / 256 / 256 / 256 % 256) + (pc8 (n / 256 / 256 / 256 / 256 / 256 / 256 % 256) + (pc8 (n / 256 / 256 / 256 / 256 / 256 / 256 / 256 % 256) + 0)))))))
theorem pcs_8 (n : Nat) : pcs 8 n = pc8 (n % 256) + 256 * (pc8 (n / 256 % 256) + 256 * (pc8 (n / 256 / 256 % 256) + 256 * (pc8 (n / 256 / 256 / 256 % 256) + 256 * (pc8 (n / 256 / 256 / 256 / 256 % 256) + 256 * (pc8 (n / 256 / 256 / 256 / 256 / 256 % 256) + 256 * (pc8 (n / 256 / 256 / 256 / 256 / 256 / 256 % 256) + 256 * pc8 (n / 256 / 256 / 256 / 256 / 256 / 256 / 256 % 256))))))) := by
  have st : ∀ k m, pcs (k + 1) m = pc8 (m % 256) + 256 * pcs k (m / 256) := fun _ _ => rfl
  have s0 : ∀ m, pcs 0 m = 0 := fun _ => rfl
  rw [st 7, st 6, st 5, st 4, st 3, st 2, st 1, st 0, s0, Nat.mul_zero, Nat.add_zero]
theorem fold8 {a0 a1 a2 a3 a4 a5 a6 a7 : Nat} (h0 : a0 ≤ 8) (h1 : a1 ≤ 8) (h2 : a2 ≤ 8) (h3 : a3 ≤ 8) (h4 : a4 ≤ 8) (h5 : a5 ≤ 8) (h6 : a6 ≤ 8) (h7 : a7 ≤ 8) {n n1 n2 n3 : Nat} (e : n = a0 + 256 * (a1 + 256 * (a2 + 256 * (a3 + 256 * (a4 + 256 * (a5 + 256 * (a6 + 256 * a7)))))))
    (e1 : n1 = n + n / 2 ^ 8) (e2 : n2 = n1 + n1 / 2 ^ 16) (e3 : n3 = n2 + n2 / 2 ^ 32) : n1 < 2 ^ 62 ∧ n2 < 2 ^ 62 ∧ n3 < 2 ^ 62 ∧ n3 % 128 = a0 + a1 + a2 + a3 + a4 + a5 + a6 + a7 := by
  have d8 : ∀ a r : Nat, a < 256 → (a + 256 * r) / 2 ^ 8 = r := by intro a r h; omega
  have d16 : ∀ a r : Nat, a < 65536 → (a + 65536 * r) / 2 ^ 16 = r := by intro a r h; omega
  have d32 : ∀ a r : Nat, a < 4294967296 → (a + 4294967296 * r) / 2 ^ 32 = r := by intro a r h; omega
  have m7 : ∀ a r : Nat, a < 128 → (a + 256 * r) % 128 = a := by intro a r h; omega
  rw [e, d8 _ _ (by omega)] at e1
  have g1 : n1 = ((a0 + a1) + 256 * (a1 + a2)) + 65536 * ((a2 + a3) + 256 * ((a3 + a4) + 256 * ((a4 + a5) + 256 * ((a5 + a6) + 256 * ((a6 + a7) + 256 * a7))))) := by rw [e1]; omega
  clear e1 e
  have b1 : n1 < 2 ^ 62 := by omega
  rw [g1, d16 _ _ (by omega)] at e2
  have g2 : n2 = ((a0 + a1 + a2 + a3) + 256 * ((a1 + a2 + a3 + a4) + 256 * ((a2 + a3 + a4 + a5) + 256 * (a3 + a4 + a5 + a6)))) + 4294967296 * ((a4 + a5 + a6 + a7) + 256 * ((a5 + a6 + a7) + 256 * ((a6 + a7) + 256 * a7))) := by rw [e2]; omega
  clear e2 g1
  have b2 : n2 < 2 ^ 62 := by omega
  rw [g2, d32 _ _ (by omega)] at e3
  have g3 : n3 = (a0 + a1 + a2 + a3 + a4 + a5 + a6 + a7) + 256 * (((a1 + a2 + a3 + a4) + 256 * ((a2 + a3 + a4 + a5) + 256 * (a3 + a4 + a5 + a6))) + 16777216 * ((a4 + a5 + a6 + a7) + 256 * ((a5 + a6 + a7) + 256 * ((a6 + a7) + 256 * a7))) + ((a5 + a6 + a7) + 256 * ((a6 + a7) + 256 * a7))) := by rw [e3]; omega
  clear e3 g2
  refine ⟨b1, b2, by omega, ?_⟩
  rw [g3]; exact m7 _ _ (by omega)
theorem low7 (x : Int64) : x.toInt32 &&& nI 127 = nI (uL x % 128) := by
  have h := shr_low x 0 7 (y := (nI 0).toInt64 &&& 63) (by decide) (by decide) (by decide)
  rw [show x >>> ((nI 0).toInt64 &&& 63) = x from by
    apply uL_inj
    unfold uL
    rw [Int64.toBitVec_shiftRight, BitVec.sshiftRight_eq', show ((((nI 0).toInt64 &&& 63).toBitVec).smod 64).toNat = 0 by decide, BitVec.sshiftRight_zero]] at h
  rw [show (2 : Nat) ^ 7 - 1 = 127 from rfl, Nat.pow_zero, Nat.div_one] at h
  exact h
theorem popF_tbs (x : Int64) : popF x = nI (tbs (uL x)) := by
  have hx : uL x < 256 ^ 8 := uL_lt x
  have hg := g_all 8 (uL x) hx
  have a : ∀ j, pc8 (j % 256) ≤ 8 := fun j => pc8_le _ (Nat.mod_lt _ (by decide))
  have e := pcs_8 (uL x)
  have hw2 : uL (w2 (w1 x)) < 2 ^ 63 := by
    rw [w2_u]; unfold g2
    have hm : msk 51 8 < 2 ^ 62 := by decide
    have h1 : (uL (w1 x) &&& msk 51 8) ≤ msk 51 8 := Nat.and_le_right
    have h2 : (uL (w1 x) / 4 &&& msk 51 8) ≤ msk 51 8 := Nat.and_le_right
    omega
  have e3 : uL (w3 (w2 (w1 x))) = pcs 8 (uL x) := by rw [w3_u hw2, w2_u, w1_u, hg.1]
  have f := fold8 (a _) (a _) (a _) (a _) (a _) (a _) (a _) (a _) e rfl rfl rfl
  have e4 : uL (w4 8 (w3 (w2 (w1 x)))) = pcs 8 (uL x) + pcs 8 (uL x) / 2 ^ 8 := by
    rw [w4_u (by decide) (by rw [e3]; exact Nat.lt_trans f.1 (by decide)), e3]
  have e5 := w4_u (i := w4 8 (w3 (w2 (w1 x)))) (k := 16) (by decide) (by rw [e4]; exact Nat.lt_trans f.2.1 (by decide))
  rw [e4] at e5
  have e6 := w4_u (i := w4 16 (w4 8 (w3 (w2 (w1 x))))) (k := 32) (by decide) (by rw [e5]; exact Nat.lt_trans f.2.2.1 (by decide))
  rw [e5] at e6
  rw [popF_w, low7, e6, f.2.2.2]
  unfold tbs
  congr 1
  omega
theorem cntF_add (p : Nat → Bool) (m : Nat) : ∀ n, cntF p (m + n) = cntF p m + cntF (fun i => p (m + i)) n
  | 0 => rfl
  | n + 1 => by
    have := cntF_add p m n
    rw [← Nat.add_assoc, cntF, this, cntF, Nat.add_assoc]
theorem cntF_congr {p q : Nat → Bool} : ∀ n, (∀ j, j < n → p j = q j) → cntF p n = cntF q n
  | 0, _ => rfl
  | n + 1, h => by rw [cntF, cntF, cntF_congr n (fun j hj => h j (by omega)), h n (by omega)]
theorem byte_lo (n : Nat) : cntF (fun i => n.testBit i) 8 = pc8 (n % 256) := by
  have t : ∀ j, (if n.testBit j = true then 1 else 0) = n / 2 ^ j % 2 := by
    intro j
    rw [Nat.testBit_eq_decide_div_mod_eq]
    rcases Nat.mod_two_eq_zero_or_one (n / 2 ^ j) with h | h <;> rw [h] <;> rfl
  have st : ∀ k, cntF (fun i => n.testBit i) (k + 1) = cntF (fun i => n.testBit i) k + n / 2 ^ k % 2 := fun k => by
    rw [cntF, t k]
  rw [st 7, st 6, st 5, st 4, st 3, st 2, st 1, st 0]
  have q0 : n / 2 ^ 0 % 2 = n % 256 % 2 := by omega
  have q1 : n / 2 ^ 1 % 2 = n % 256 / 2 % 2 := by omega
  have q2 : n / 2 ^ 2 % 2 = n % 256 / 4 % 2 := by omega
  have q3 : n / 2 ^ 3 % 2 = n % 256 / 8 % 2 := by omega
  have q4 : n / 2 ^ 4 % 2 = n % 256 / 16 % 2 := by omega
  have q5 : n / 2 ^ 5 % 2 = n % 256 / 32 % 2 := by omega
  have q6 : n / 2 ^ 6 % 2 = n % 256 / 64 % 2 := by omega
  have q7 : n / 2 ^ 7 % 2 = n % 256 / 128 % 2 := by omega
  rw [q0, q1, q2, q3, q4, q5, q6, q7]
  unfold pc8
  rw [show cntF (fun i => n.testBit i) 0 = 0 from rfl, Nat.zero_add]
theorem byte_cnt (n k : Nat) : cntF (fun i => n.testBit i) (8 + k) = pc8 (n % 256) + cntF (fun i => (n / 256).testBit i) k := by
  rw [cntF_add, byte_lo]
  congr 1
  refine cntF_congr k (fun j _ => ?_)
  rw [show (256 : Nat) = 2 ^ 8 from rfl, Nat.testBit_div_two_pow, Nat.add_comm]
theorem tbs_cnt (n : Nat) : tbs n = cntF (fun i => n.testBit i) 64 := by
  have e : (64 : Nat) = 8 + (8 + (8 + (8 + (8 + (8 + (8 + (8 + 0))))))) := rfl
  rw [e, byte_cnt, byte_cnt, byte_cnt, byte_cnt, byte_cnt, byte_cnt, byte_cnt, byte_cnt]
  rfl
theorem popF_cnt (x : Int64) : popF x = nI (cntF (fun i => (uL x).testBit i) 64) := by rw [popF_tbs, tbs_cnt]
theorem cntF_zero {p : Nat → Bool} : ∀ n, (∀ j, j < n → p j = false) → cntF p n = 0
  | 0, _ => rfl
  | n + 1, h => by rw [cntF, cntF_zero n (fun j hj => h j (by omega)), h n (by omega)]; rfl
theorem size_eq (h : Nat → Int64) (c : Nat) (p : Nat → Bool) (h1 : ∀ q, q < 96 → bt h c q = p q) (h2 : ∀ q, 96 ≤ q → q < 128 → bt h c q = false) : popF (h (2 * c)) + popF (h (2 * c + 1)) = nI (cntF p 96) := by
  rw [popF_cnt, popF_cnt, nI_add]
  congr 1
  have e1 : cntF (fun i => (uL (h (2 * c))).testBit i) 64 = cntF (bt h c) 64 := cntF_congr 64 (fun j hj => by unfold bt; rw [show j / 64 = 0 by omega, show j % 64 = j by omega, Nat.add_zero])
  have e2 : cntF (fun i => (uL (h (2 * c + 1))).testBit i) 64 = cntF (fun i => bt h c (64 + i)) 64 := cntF_congr 64 (fun j hj => by unfold bt; rw [show (64 + j) / 64 = 1 by omega, show (64 + j) % 64 = j by omega])
  rw [e1, e2, ← cntF_add (bt h c) 64 64]
  rw [show 64 + 64 = 96 + 32 from rfl, cntF_add (bt h c) 96 32, cntF_zero 32 (fun j hj => h2 (96 + j) (by omega) (by omega)), Nat.add_zero]
  exact cntF_congr 96 h1
