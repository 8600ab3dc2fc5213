def iniA (n : Nat) : Nat → Nat := fun c => if c < n then (if c < 64 then 45 else 102) else 0
def y0A (n m : Nat) : YS := ((fun _ => false, fun _ => nI 0, fun _ => 0, fun _ => 0, fun _ => 0, fun _ => 0), (0, 0, fun _ => 0, 0, 0), (filA (fun _ => 0) 16 0 m, iniA n, fun _ => 0, fun _ => 0, fun _ => 0), (fun _ => false, fun _ => false, fun _ => false), fun _ => 0)
theorem iniA_s {c v : Nat} (h : v = if c < 64 then 45 else 102) : va_up (iniA c) c v = iniA (c + 1) := by
  funext j; unfold va_up iniA
  by_cases e : j = c
  · subst e; rw [if_pos rfl, if_pos (by omega), h]
  · rw [if_neg e]
    by_cases e2 : j < c
    · rw [if_pos e2, if_pos (show j < c + 1 by omega)]
    · rw [if_neg e2, if_neg (show ¬ j < c + 1 by omega)]
theorem iniA_lt (n j : Nat) : iniA n j < 65536 := by unfold iniA; split; split; decide; decide; decide
theorem MI_y0A {n m : Nat} : MI (y0A n m) := by
  refine ⟨by show 0 < 8; decide, fun _ => by show 0 < 4; decide, fun s => ⟨by show 0 < 200; decide, by show 0 < 200; decide, by show 0 < 128; decide, by show 0 < 8; decide, fun h => Bool.noConfusion h⟩, ⟨by show 0 < 1000; decide, by show 0 < 1000; decide⟩, fun j => iniA_lt n j, fun j => ⟨by show 0 < 4; decide, by show 0 < 200; decide, by show 0 < 200; decide, ?_⟩⟩
  show filA (fun _ => 0) 16 0 m j ≤ 32
  unfold filA
  split
  · decide
  · exact Nat.zero_le 32
noncomputable def inY : YS := mk4 (begY 0 (y0A 96 4))
def iniX : CS := (fun _ => 0, begR (fun _ => 0) 0 0 (mkN (nI 0)) (mkN (nI 0)), va_up (fun _ => 0) 0 0, 0, filA (fun _ => 0) 102 0 32, fun _ => 0, fun _ => 0, filA (fun _ => 0) 16 0 4, fun _ => nI 0, in0, fun _ => 0, fun _ => 0)
def exN : List String := ["java/lang/RuntimeException", "java/lang/Exception"]
theorem ex_ix : ∀ w ∈ vx_atS "Sealhouse" 259 "java/lang/IndexOutOfBoundsException" exN, w ∈ lw_tbl ∧ (goodWord w || isDC w) = true := by decide +kernel
theorem ex_ia : ∀ w ∈ vx_atS "Sealhouse" 249 "java/lang/IllegalArgumentException" exN, w ∈ lw_tbl ∧ (goodWord w || isDC w) = true := by decide +kernel
theorem ex_is : ∀ w ∈ vx_atS "Sealhouse" 177 "java/lang/IllegalStateException" exN, w ∈ lw_tbl ∧ (goodWord w || isDC w) = true := by decide +kernel
theorem inR_f {v : Int32} {b : Nat} (hb : b + 1 < 2147483648) (h : inR v (nI 0) (nI b) = false) (h0 : ¬ v < 0) : ¬ v < nI (b + 1) := by
  intro h1
  unfold inR at h
  have h2 := of_decide_eq_false h
  apply h2
  obtain ⟨j, hj, e⟩ := nI_of h0
  rw [e] at h1 ⊢
  have h3 := (nI_ltI hj hb).mp h1
  exact ⟨nI_nlt (Nat.zero_le j) hj, nI_le (by omega) (by omega)⟩
theorem inR_t {v : Int32} {b : Nat} (hb : b + 1 < 2147483648) (h : inR v (nI 0) (nI b) = true) : ¬ v < 0 ∧ v < nI (b + 1) := by
  obtain ⟨e, h1, h2⟩ := inR_nat (by decide) (by omega) h
  have h3 : v.toNatClampNeg < 2147483648 := by omega
  refine ⟨fun z => ?_, ?_⟩
  · rw [e] at z; exact nI_pos h3 z
  · rw [e]; exact (nI_ltI h3 hb).mpr (by omega)
theorem ixJ_hi {j c : Nat} (h : 255 < c) : ixJ j c = -1 := by unfold ixJ; rw [if_neg (by omega)]
theorem ixq_no {c : Nat} (hl : c < 65536) (hc : ¬ (c = 98 ∨ c = 116 ∨ c = 112 ∨ c = 115)) : ixJ 1 c = -1 := by
  have h : ∀ c, c < 256 → c = 98 ∨ c = 116 ∨ c = 112 ∨ c = 115 ∨ ixJ 1 c = -1 := by decide +kernel
  rcases Nat.lt_or_ge c 256 with e | e
  · rcases h c e with h | h | h | h | h
    · omega
    · omega
    · omega
    · omega
    · exact h
  · exact ixJ_hi (by omega)
theorem ixc_no {c : Nat} (hl : c < 65536) (hc : ¬ isCz c) : ixJ 0 c = -1 := by
  have h : ∀ c, c < 256 → (c = 116 ∨ c = 115 ∨ c = 112 ∨ c = 98 ∨ c = 108 ∨ c = 113 ∨ c = 109 ∨ c = 100 ∨ c = 102) ∨ ixJ 0 c = -1 := by decide +kernel
  rcases Nat.lt_or_ge c 256 with e | e
  · rcases h c e with h | h
    · exact absurd h hc
    · exact h
  · exact ixJ_hi (by omega)
theorem dd_ok {n : Nat} (h : n ≤ 384) : vf_n64 (FP.ddiv (FP.i2d (nI n)) 4616189618054758400) := by
  have h1 : ∀ n, n < 385 → FP.ddiv (FP.i2d (nI n)) 4616189618054758400 &&& 0x7fffffffffffffff ≤ 0x7ff0000000000000 := by decide +kernel
  exact h1 n (by omega)
