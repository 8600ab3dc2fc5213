/-! the model's whole state, and what its methods make of it -/
abbrev WW : Type := (Nat → Bool) × (Nat → Int32) × (Nat → Nat) × (Nat → Nat) × (Nat → Nat) × (Nat → Nat)
abbrev CT : Type := Nat × Nat × (Nat → Nat) × Nat × Nat
abbrev HP : Type := (Nat → Nat) × (Nat → Nat) × (Nat → Nat) × (Nat → Nat) × (Nat → Nat)
abbrev RC : Type := (Nat → Bool) × (Nat → Bool) × (Nat → Bool)
abbrev YS : Type := WW × CT × HP × RC × (Nat → Nat)
abbrev zI (y : YS) : Nat → Bool := y.1.1
abbrev zN (y : YS) : Nat → Int32 := y.1.2.1
abbrev zB (y : YS) : Nat → Nat := y.1.2.2.1
abbrev zT (y : YS) : Nat → Nat := y.1.2.2.2.1
abbrev zP (y : YS) : Nat → Nat := y.1.2.2.2.2.1
abbrev zS (y : YS) : Nat → Nat := y.1.2.2.2.2.2
abbrev zX (y : YS) : Nat := y.2.1.1
abbrev zD (y : YS) : Nat := y.2.1.2.1
abbrev zR (y : YS) : Nat → Nat := y.2.1.2.2.1
abbrev zL (y : YS) : Nat := y.2.1.2.2.2.1
abbrev zH (y : YS) : Nat := y.2.1.2.2.2.2
abbrev zQ (y : YS) : Nat → Nat := y.2.2.1.1
abbrev zA (y : YS) : Nat → Nat := y.2.2.1.2.1
abbrev zO (y : YS) : Nat → Nat := y.2.2.1.2.2.1
abbrev zF (y : YS) : Nat → Nat := y.2.2.1.2.2.2.1
abbrev zM (y : YS) : Nat → Nat := y.2.2.1.2.2.2.2
abbrev zE (y : YS) : Nat → Bool := y.2.2.2.1.1
abbrev zG (y : YS) : Nat → Bool := y.2.2.2.1.2.1
abbrev zV (y : YS) : Nat → Bool := y.2.2.2.1.2.2
abbrev zK (y : YS) : Nat → Nat := y.2.2.2.2
/-- every slot's numbers are small, and every right lies in the memory -/
def wOk (w : WW) : Prop := ∀ s, w.2.2.1 s < 200 ∧ w.2.2.2.1 s < 200 ∧ w.2.2.2.2.1 s < 128 ∧ w.2.2.2.2.2 s < 8 ∧ (w.1 s = true → w.2.2.1 s < w.2.2.2.1 s ∧ w.2.2.2.1 s ≤ 96 ∧ w.2.2.2.2.2 s ≤ 4)
def MI (y : YS) : Prop := zD y < 8 ∧ (∀ j, zR y j < 4) ∧ wOk y.1 ∧ (zL y < 1000 ∧ zH y < 1000) ∧ (∀ j, zA y j < 65536) ∧ (∀ j, zO y j < 4 ∧ zF y j < 200 ∧ zM y j < 200 ∧ zQ y j ≤ 32)
def inR (v a b : Int32) : Bool := decide (¬ v < a ∧ v ≤ b)
theorem inR_n {v a b : Nat} (hv : v < 2147483648) (ha : a < 2147483648) (hb : b < 2147483648) : inR (nI v) (nI a) (nI b) = decide (a ≤ v ∧ v ≤ b) := by
  unfold inR
  by_cases h : a ≤ v ∧ v ≤ b
  · rw [decide_eq_true h, decide_eq_true ⟨nI_nlt h.1 hv, nI_le h.2 hb⟩]
  · rw [decide_eq_false h, decide_eq_false]
    intro z
    apply h
    exact ⟨Nat.le_of_not_lt fun q => z.1 ((nI_ltI hv ha).mpr q), (nI_leI hv hb).mp z.2⟩
def slA (y : YS) (r : Nat) : Nat := 96 + 8 * zD y + r
def numW (s : Nat) (n : Int32) (w : WW) : WW := (va_up w.1 s false, upd w.2.1 s n, w.2.2)
def rigW (s b t p : Nat) (w : WW) : WW := (va_up w.1 s true, upd w.2.1 s (nI b), va_up w.2.2.1 s b, va_up w.2.2.2.1 s t, va_up w.2.2.2.2.1 s p, va_up w.2.2.2.2.2 s 0)
def copW (a b : Nat) (w : WW) : WW := (va_up w.1 b (w.1 a), upd w.2.1 b (w.2.1 a), va_up w.2.2.1 b (w.2.2.1 a), va_up w.2.2.2.1 b (w.2.2.2.1 a), va_up w.2.2.2.2.1 b (w.2.2.2.2.1 a), va_up w.2.2.2.2.2 b (w.2.2.2.2.2 a))
def onW (f : WW → WW) (y : YS) : YS := (f y.1, y.2)
def thrY (k : Nat) (y : YS) : YS := (y.1, (k, y.2.1.2), y.2.2)
def rndY (b t : Nat) (y : YS) : YS := (y.1, (zX y, zD y, zR y, dn b (unitOf b t), up t (unitOf b t)), y.2.2)
def nmW (d : Nat) : Nat → WW → WW
  | 0, w => w
  | k + 1, w => numW (96 + 8 * d + (2 + k)) (nI 0) (nmW d k w)
def begY (c : Nat) (y : YS) : YS := (rigW (slA y 7) (8 * c) (8 * c + 8) 95 (rigW (slA y 6) (32 + 4 * zD y) (32 + 4 * zD y + 4) 111 (nmW (zD y) 6 y.1)), (zX y, zD y, va_up (zR y) (zD y) c, zL y, zH y), y.2.2)
def nmC (u : Nat) : Nat → WW → WW
  | 0, w => w
  | k + 1, w => numW (u + k) (nI 0) (nmC u k w)
def drI (b : Nat → Nat) (u n : Nat) (r : Nat → Bool) : Nat → Bool := fun s => r s && !(decide (s < n) && decide (u ≤ b s ∧ b s ≤ u + 3))
theorem drI_0 (b : Nat → Nat) (u : Nat) (r : Nat → Bool) : drI b u 0 r = r := by
  funext s; unfold drI; rw [decide_eq_false (Nat.not_lt_zero s), Bool.false_and, Bool.not_false, Bool.and_true]
theorem drI_s {b : Nat → Nat} {u n : Nat} {r : Nat → Bool} {v : Bool} (h : v = (drI b u n r n && !decide (u ≤ b n ∧ b n ≤ u + 3))) : va_up (drI b u n r) n v = drI b u (n + 1) r := by
  funext s; unfold va_up
  by_cases e : s = n
  · subst e
    rw [if_pos rfl, h]
    unfold drI
    rw [decide_eq_false (Nat.lt_irrefl s), decide_eq_true (Nat.lt_succ_self s)]
    cases r s <;> simp
  · rw [if_neg e]; unfold drI
    by_cases q : s < n
    · rw [decide_eq_true q, decide_eq_true (Nat.lt_succ_of_lt q)]
    · rw [decide_eq_false q, decide_eq_false (by omega : ¬ s < n + 1)]
def retW (u d : Nat) (w : WW) : WW := (drI (nmC u 4 w).2.2.1 u (96 + 8 * d + 8) (nmC u 4 w).1, (nmC u 4 w).2)
def retY (y : YS) : YS := (retW (32 + 4 * zD y) (zD y - 1) y.1, (zX y, zD y - 1, zR y, zL y, zH y), y.2.2)
def plF (c : Nat) : Nat → Int32
  | 0 => -1
  | k + 1 => if chJ 2 k = c then nI k else plF c k
theorem plF_cz {c : Nat} (h : isCz c) : plF c 9 = nI (cIx c) := by
  rcases h with rfl | rfl | rfl | rfl | rfl | rfl | rfl | rfl | rfl <;> decide +kernel
def trF (w : WW) (s m : Nat) : Nat := if w.1 s = false then 116 else if w.2.2.2.2.2 s = 0 then (if w.2.2.2.2.1 s &&& m = m then 45 else 112) else 115
def rsW (w : WW) (sa : Nat → Nat) (s : Nat) : Bool := decide (w.2.2.1 s ≤ 95) && decide (sa (w.2.2.1 s) = 114)
/-! reach: takes, a sweep over the cells, the end of all sweeps -/
def rdW (w : WW) (s : Nat) : Bool := w.1 s && (decide (w.2.2.2.2.2 s = 0) && !decide (w.2.2.2.2.1 s &&& 3 = 0))
def gdW (w : WW) (s : Nat) : Bool := rdW w s && decide (w.2.2.2.2.1 s &&& 5 = 5)
abbrev R2 : Type := (Nat → Bool) × (Nat → Bool) × Bool
def tkF (g : Bool) (b : Nat) : Nat → R2 → R2
  | 0, r => r
  | k + 1, r => (va_up (tkF g b k r).1 (b + k) true, va_up (tkF g b k r).2.1 (b + k) ((tkF g b k r).2.1 (b + k) || g), (tkF g b k r).2.2 || (!(tkF g b k r).1 (b + k) || (g && !(tkF g b k r).2.1 (b + k))))
def takR (w : WW) (s : Nat) (e f : Nat → Bool) : R2 := if rdW w s = true then tkF (gdW w s) (w.2.2.1 s) (w.2.2.2.1 s - w.2.2.1 s) (e, f, false) else (e, f, false)
abbrev R1 : Type := (Nat → Bool) × (Nat → Bool)
def ownC (d : Nat) (ru : Nat → Nat) (c q : Nat) : Bool := if q < 32 then decide (q / 8 = c) else decide (q < 64) && (decide ((q - 32) / 4 ≤ d) && decide (ru ((q - 32) / 4) = c))
def iniR (d : Nat) (ru : Nat → Nat) (c n : Nat) (e : Nat → Bool) : Nat → Bool := fun q => if q < n then ownC d ru c q else e q
theorem iniR_0 (d : Nat) (ru : Nat → Nat) (c : Nat) (e : Nat → Bool) : iniR d ru c 0 e = e := by
  funext q; unfold iniR; rw [if_neg (Nat.not_lt_zero q)]
theorem iniR_s (d : Nat) (ru : Nat → Nat) (c n : Nat) (e : Nat → Bool) : va_up (iniR d ru c n e) n (ownC d ru c n) = iniR d ru c (n + 1) e := by
  funext q; unfold va_up iniR
  by_cases h : q = n
  · subst h; rw [if_pos rfl, if_pos (Nat.lt_succ_self q)]
  · rw [if_neg h]
    by_cases h2 : q < n
    · rw [if_pos h2, if_pos (by omega)]
    · rw [if_neg h2, if_neg (by omega)]
def rgR (w : WW) (d : Nat) : Nat → R1 → R1
  | 0, r => r
  | k + 1, r => ((takR w (96 + 8 * d + k) (rgR w d k r).1 (rgR w d k r).2).1, (takR w (96 + 8 * d + k) (rgR w d k r).1 (rgR w d k r).2).2.1)
theorem rg_ex (w : WW) (d : Nat) (r : R1) : ∃ z : R1, z = rgR w d 8 r := ⟨_, rfl⟩
noncomputable def rgX (w : WW) (d : Nat) (r : R1) : R1 := Classical.choose (rg_ex w d r)
theorem rgX_eq (w : WW) (d : Nat) (r : R1) : rgX w d r = rgR w d 8 r := Classical.choose_spec (rg_ex w d r)
noncomputable def dpR (w : WW) (ru : Nat → Nat) (c : Nat) : Nat → R1 → R1
  | 0, r => r
  | d + 1, r => if ru d = c then rgX w d (dpR w ru c d r) else dpR w ru c d r
def mayR (w : WW) (sa : Nat → Nat) (f : Nat → Bool) (q : Nat) : Bool := f q && (w.1 q && !rsW w sa q)
def swF (w : WW) (sa : Nat → Nat) : Nat → R1 → R2
  | 0, r => (r.1, r.2, false)
  | q + 1, r => if mayR w sa (swF w sa q r).2.1 q = true then ((takR w q (swF w sa q r).1 (swF w sa q r).2.1).1, (takR w q (swF w sa q r).1 (swF w sa q r).2.1).2.1, (takR w q (swF w sa q r).1 (swF w sa q r).2.1).2.2 || (swF w sa q r).2.2) else swF w sa q r
theorem sw_ex (w : WW) (sa : Nat → Nat) (r : R1) : ∃ z : R2, z = swF w sa 96 r := ⟨_, rfl⟩
noncomputable def swX (w : WW) (sa : Nat → Nat) (r : R1) : R2 := Classical.choose (sw_ex w sa r)
theorem swX_eq (w : WW) (sa : Nat → Nat) (r : R1) : swX w sa r = swF w sa 96 r := Classical.choose_spec (sw_ex w sa r)
noncomputable def itF (w : WW) (sa : Nat → Nat) : Nat → R1 → R2
  | 0, r => (r.1, r.2, true)
  | n + 1, r => swX w sa ((itF w sa n r).1, (itF w sa n r).2.1)

theorem unit_1 {b t : Nat} (h : up t 1 - dn b 1 ≤ 8) : unitOf b t = 1 := by unfold unitOf; rw [if_pos h]
theorem unit_2 {b t : Nat} (h1 : ¬ up t 1 - dn b 1 ≤ 8) (h : up t 2 - dn b 2 ≤ 16) : unitOf b t = 2 := by unfold unitOf; rw [if_neg h1, if_pos h]
theorem unit_4 {b t : Nat} (h1 : ¬ up t 1 - dn b 1 ≤ 8) (h2 : ¬ up t 2 - dn b 2 ≤ 16) (h : up t 4 - dn b 4 ≤ 32) : unitOf b t = 4 := by unfold unitOf; rw [if_neg h1, if_neg h2, if_pos h]
theorem unit_8 {b t : Nat} (h1 : ¬ up t 1 - dn b 1 ≤ 8) (h2 : ¬ up t 2 - dn b 2 ≤ 16) (h3 : ¬ up t 4 - dn b 4 ≤ 32) (h : up t 8 - dn b 8 ≤ 64) : unitOf b t = 8 := by unfold unitOf; rw [if_neg h1, if_neg h2, if_neg h3, if_pos h]
theorem unit_16 {b t : Nat} (h1 : ¬ up t 1 - dn b 1 ≤ 8) (h2 : ¬ up t 2 - dn b 2 ≤ 16) (h3 : ¬ up t 4 - dn b 4 ≤ 32) (h : ¬ up t 8 - dn b 8 ≤ 64) : unitOf b t = 16 := by unfold unitOf; rw [if_neg h1, if_neg h2, if_neg h3, if_neg h]
