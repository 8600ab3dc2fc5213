/-! the model's operations -/
def aT (w : WW) (s : Nat) : Nat := (w.2.1 s).toNatClampNeg
theorem inR_nat {v : Int32} {a b : Nat} (ha : a < 2147483648) (hb : b < 2147483648) (h : inR v (nI a) (nI b) = true) : v = nI v.toNatClampNeg ∧ a ≤ v.toNatClampNeg ∧ v.toNatClampNeg ≤ b := by
  unfold inR at h
  have h2 := of_decide_eq_true h
  have h0 : ¬ v < 0 := by
    intro z
    apply h2.1
    rw [Int32.lt_iff_toInt_lt] at z ⊢
    rw [nI_toInt (by omega)]
    have : (0 : Int32).toInt = 0 := by decide
    omega
  obtain ⟨j, hj, e⟩ := nI_of h0
  have e2 : v.toNatClampNeg = j := by rw [e, nI_clamp hj]
  rw [e2]
  rw [e] at h2
  exact ⟨e, Nat.le_of_not_lt fun q => h2.1 ((nI_ltI hj ha).mpr q), (nI_leI hj hb).mp h2.2⟩
def acT (w : WW) (s m : Nat) : Nat := if trF w s m = 45 then (if inR (w.2.1 s) (nI (w.2.2.1 s)) (nI (w.2.2.2.1 s - 1)) = true then 45 else 98) else trF w s m
theorem acT_cz {w : WW} {s m : Nat} (h : acT w s m ≠ 45) : isCz (acT w s m) := by
  unfold acT at *
  split at h
  · rename_i e; rw [if_pos e]
    split at h
    · exact absurd rfl h
    · rename_i e2; rw [if_neg e2]; exact Or.inr (Or.inr (Or.inr (Or.inl rfl)))
  · rename_i e; rw [if_neg e]; exact trF_cz e
theorem acT_lt (w : WW) (s m : Nat) : acT w s m < 128 := by
  by_cases h : acT w s m = 45
  · omega
  · exact isCz_lt (acT_cz h)
theorem acT_t {w : WW} {s m : Nat} (h : acT w s m = 45) : trF w s m = 45 := by
  unfold acT at h
  split at h
  · assumption
  · assumption
theorem acT_in {w : WW} {s m : Nat} (h : acT w s m = 45) : inR (w.2.1 s) (nI (w.2.2.1 s)) (nI (w.2.2.2.1 s - 1)) = true := by
  have hu := acT_t h
  unfold acT at h
  rw [if_pos hu] at h
  split at h
  · assumption
  · omega
theorem acT_a {w : WW} {s m : Nat} (hw : wOk w) (h : acT w s m = 45) : w.2.1 s = nI (aT w s) ∧ w.2.2.1 s ≤ aT w s ∧ aT w s < w.2.2.2.1 s ∧ aT w s < 96 := by
  have h1 := inR_nat (wb_B hw s) (by have := (hw s).2.1; omega) (acT_in h)
  have h2 := (hw s).2.2.2.2 (trF_r (acT_t h))
  exact ⟨h1.1, h1.2.1, by show (w.2.1 s).toNatClampNeg < _; omega, by show (w.2.1 s).toNatClampNeg < _; omega⟩
noncomputable def opY (c : Nat) (a b : YS) : YS := if c = 45 then mk4 a else falY c b
def resW (q a b : Nat) (w : WW) : WW := perW b ((copW a b w).2.2.2.2.1 b &&& q) (copW a b w)
def stpW (q : Int32) (a b : Nat) (w : WW) : WW := isrW b (inR ((copW a b w).2.1 b + q) (nI ((copW a b w).2.2.1 b) - nI 8) (nI ((copW a b w).2.2.2.1 b + 8))) (nbrW b ((copW a b w).2.1 b + q) (copW a b w))
def slkW (k a b : Nat) (w : WW) : WW := selW b k (copW a b w)
def lodW (sa : Nat → Nat) (p a b : Nat) (w : WW) : WW := perW b ((copW a b w).2.2.2.2.1 b &&& (if p &&& 64 = 0 then 61 else 127)) (isrW b ((copW a b w).1 b && (!decide (p &&& 4 = 0) && !rsW (copW a b w) sa b)) (copW a b w))
def stmT (w : WW) (s : Nat) : Nat := if w.1 s = true then 10 else 2
def kpT (w : WW) (v s : Nat) : Bool := !(w.1 s && (decide (w.2.2.2.2.1 s &&& 16 = 0) && decide (w.2.2.2.2.1 v &&& 32 = 0)))
def stT (w : WW) (v s : Nat) : Nat := if acT w v (stmT w s) = 45 ∧ kpT w v s = false then 108 else acT w v (stmT w s)
def unT (w : WW) (s k : Nat) : Nat := if w.1 s = false then 116 else if w.2.2.2.2.2 s = k then 45 else 115
theorem nI_b (a : Nat) (b : Bool) : nI a + bI b = nI (a + (if b = true then 1 else 0)) := by
  cases b
  · exact nI_add a 0
  · exact nI_add a 1
theorem mk4_D (y : YS) : zD (mk4 y) = zD y := by rw [mk4_eq]; exact congrArg (fun z : CT => z.2.1) (mkN4_12 y 4).2.1
theorem stmT_lt (w : WW) (s : Nat) : stmT w s < 128 := by unfold stmT; split <;> omega
theorem stT_lt (w : WW) (v s : Nat) : stT w v s < 128 := by unfold stT; split; omega; exact acT_lt _ _ _
theorem stT_cz {w : WW} {v s : Nat} (h : stT w v s ≠ 45) : isCz (stT w v s) := by
  unfold stT at *; split
  · exact Or.inr (Or.inr (Or.inr (Or.inr (Or.inl rfl))))
  · rename_i e; rw [if_neg e] at h; exact acT_cz h
theorem unT_cz {w : WW} {s k : Nat} (h : unT w s k ≠ 45) : isCz (unT w s k) := by
  unfold unT isCz at *; split
  · exact Or.inl rfl
  · split
    · rename_i a b; rw [if_neg a, if_pos b] at h; exact absurd rfl h
    · exact Or.inr (Or.inl rfl)
theorem wOk_res {w : WW} {q a b : Nat} (h : wOk w) : wOk (resW q a b w) := wOk_per (wOk_cop h) (Nat.lt_of_le_of_lt Nat.and_le_left ((wOk_cop (a := a) (s := b) h) b).2.2.1)
theorem wOk_stp {w : WW} {q : Int32} {a b : Nat} (h : wOk w) (hr : w.1 a = true) : wOk (stpW q a b w) :=
  wOk_isr (wOk_nbr (wOk_cop h)) (fun _ => (va_eq w.1 b (w.1 a)).trans hr)
theorem wOk_slk {w : WW} {k a b : Nat} (h : wOk w) (hk : k ≤ 4) : wOk (slkW k a b w) := wOk_sel (wOk_cop h) hk
theorem wOk_lod {w : WW} {sa : Nat → Nat} {p a b : Nat} (h : wOk w) : wOk (lodW sa p a b w) :=
  wOk_per (wOk_isr (wOk_cop h) (fun z => (Bool.and_eq_true _ _ ▸ z).1)) (Nat.lt_of_le_of_lt Nat.and_le_left ((wOk_cop (a := a) (s := b) h) b).2.2.1)
/-! narrow -/
def nwY (t u b n : Nat) (y : YS) : YS := onW (rigW (slA y t) (dn b (unitOf b (b + n))) (up (b + n) (unitOf b (b + n))) (zP y (slA y u))) (rndY b (b + n) y)
def nwB (u b n : Nat) (y : YS) : Bool := decide (dn b (unitOf b (b + n)) < zB y (slA y u) ∨ zT y (slA y u) < up (b + n) (unitOf b (b + n)))
noncomputable def narY (t u b n : Nat) (y : YS) : YS := if trF y.1 (slA y u) 0 = 45 then (if nwB u b n y = true then falY 98 (rndY b (b + n) y) else mk4 (nwY t u b n y)) else falY (trF y.1 (slA y u) 0) y
noncomputable def narT (u b n : Nat) (y : YS) : Nat := if trF y.1 (slA y u) 0 = 45 then (if nwB u b n y = true then 98 else 45) else trF y.1 (slA y u) 0
theorem narT_lt (u b n : Nat) (y : YS) : narT u b n y < 128 := by
  unfold narT; split
  · split <;> omega
  · exact trF_lt _ _ _
/-! calls -/
def dpY (y : YS) : YS := (y.1, (zX y, zD y + 1, zR y, zL y, zH y), y.2.2)
def clW (sl : Bool) (g k a b : Nat) (w : WW) : WW := selW a (if sl = true then 0 else (copW k b (copW g a w)).2.2.2.2.2 a) (copW k b (copW g a w))
def clV (sl : Bool) (g : Nat) (y : YS) : YS := onW (clW sl g (slA y 1) (slA (dpY y) 0) (slA (dpY y) 1)) (dpY y)
noncomputable def clY (c g : Nat) (sl : Bool) (y : YS) : YS := if zD y = 7 then falY 100 y else mk4 (begY c (clV sl g y))
def clT (y : YS) : Nat := if zD y = 7 then 100 else 45
theorem wOk_clW {w : WW} {sl : Bool} {g k a b : Nat} (h : wOk w) : wOk (clW sl g k a b w) := by
  unfold clW
  have h2 : wOk (copW k b (copW g a w)) := wOk_cop (wOk_cop h)
  cases sl
  · intro j
    show wK ((copW k b (copW g a w)).1 j) ((copW k b (copW g a w)).2.2.1 j) ((copW k b (copW g a w)).2.2.2.1 j) ((copW k b (copW g a w)).2.2.2.2.1 j) (va_up (copW k b (copW g a w)).2.2.2.2.2 a ((copW k b (copW g a w)).2.2.2.2.2 a) j)
    by_cases e : j = a
    · subst e; rw [va_eq]; exact h2 j
    · rw [va_ne _ _ e]; exact h2 j
  · exact wOk_sel (z := 0) h2 (by decide)
theorem MI_clV {y : YS} {sl : Bool} {g : Nat} (h : MI y) (hd : zD y ≠ 7) : MI (clV sl g y) := by
  refine ⟨?_, h.2.1, wOk_clW h.2.2.1, h.2.2.2⟩
  show zD y + 1 < 8
  have := h.1; omega
noncomputable def clsY (u : Nat) (y : YS) : YS := if zI y (slA y u) = false then falY 116 y else if zS y (slA y u) = 0 then falY 115 y else clY (zS y (slA y u) - 1) (slA y u) true y
def clsT (u : Nat) (y : YS) : Nat := if zI y (slA y u) = false then 116 else if zS y (slA y u) = 0 then 115 else clT y
def lvMW (a b : Nat) (w : WW) : WW := if (copW a b w).1 a = true ∧ (copW a b w).2.2.2.2.1 a &&& 16 = 0 then numW b (nI 0) (copW a b w) else copW a b w
theorem wOk_lvM {w : WW} {a b : Nat} (h : wOk w) : wOk (lvMW a b w) := by
  unfold lvMW; split
  · exact wOk_num (wOk_cop h)
  · exact wOk_cop h
noncomputable def lvY (y : YS) : YS := mk4 (retY (onW (lvMW (slA y 0) (96 + 8 * (zD y - 1) + 0)) y))
/-! heap -/
def ownM (y : YS) (c : Nat) : Nat → Bool := fun j => decide (zA y (64 + j) ≠ 102 ∧ zO y (64 + j) = c)
def frP (sa : Nat → Nat) (b : Nat) : Nat → Bool := fun j => decide (sa (b + j) = 102)
def afB (sa : Nat → Nat) (b t : Nat) : Bool := decide (t ≤ 96) && (exactB b t && allF (frP sa b) (t - b))
def afY (b t : Nat) (y : YS) : YS := (y.1, (zX y, zD y, zR y, if t ≤ 96 then dn b (unitOf b t) else zL y, if t ≤ 96 then up t (unitOf b t) else zH y), y.2.2)
theorem afY_1 {b t : Nat} {y : YS} (h : t ≤ 96) : afY b t y = rndY b t y := by unfold afY; rw [if_pos h, if_pos h]; rfl
theorem afY_0 {b t : Nat} {y : YS} (h : ¬ t ≤ 96) : afY b t y = y := by unfold afY; rw [if_neg h, if_neg h]
theorem MI_afY {y : YS} {b t : Nat} (h : MI y) (hb : b ≤ t) (h2 : t < 300) : MI (afY b t y) := by
  by_cases e : t ≤ 96
  · rw [afY_1 e]; exact MI_rnd h hb h2
  · rw [afY_0 e]; exact h
def lhF (m : Nat) : Nat → Nat × Nat → Nat × Nat
  | 0, p => p
  | k + 1, p => (if 64 + k + m ≤ 96 then dn (64 + k) (unitOf (64 + k) (64 + k + m)) else (lhF m k p).1, if 64 + k + m ≤ 96 then up (64 + k + m) (unitOf (64 + k) (64 + k + m)) else (lhF m k p).2)
def gsY (m k : Nat) (y : YS) : YS := (y.1, (zX y, zD y, zR y, (lhF m k (zL y, zH y)).1, (lhF m k (zL y, zH y)).2), y.2.2)
theorem gsY_0 (m : Nat) (y : YS) : gsY m 0 y = y := rfl
theorem gsY_s (m k : Nat) (y : YS) : afY (64 + k) (64 + k + m) (gsY m k y) = gsY m (k + 1) y := rfl
theorem MI_gsY {y : YS} {m : Nat} (h : MI y) (hm : m ≤ 32) : ∀ k, k ≤ 32 → MI (gsY m k y)
  | 0, _ => h
  | k + 1, hk => by rw [← gsY_s]; exact MI_afY (MI_gsY h hm k (by omega)) (by omega) (by omega)
def afP (sa : Nat → Nat) (m : Nat) : Nat → Bool := fun k => afB sa (64 + k) (64 + k + m)
noncomputable def gtK (n : Nat) (y : YS) : Nat := lowX (afP (zA y) (mdF n))
noncomputable def gtE (n : Nat) (y : YS) : Nat := min (gtK n y + 1) 32
theorem gtK_y {n k : Nat} {y : YS} (hk : k < 32) (h : afP (zA y) (mdF n) k = true) (hn : ∀ j, j < k → afP (zA y) (mdF n) j = false) : k = gtK n y ∧ k + 1 = gtE n y := by
  have e : gtK n y = k := (lowX_eq _).trans (lowK_yes h hn 32 hk)
  unfold gtE; rw [e]; exact ⟨rfl, by omega⟩
theorem gtK_n {n : Nat} {y : YS} (hn : ∀ j, j < 32 → afP (zA y) (mdF n) j = false) : 32 = gtK n y ∧ 32 = gtE n y := by
  have e : gtK n y = 32 := (lowX_eq _).trans (lowK_no 32 hn)
  unfold gtE; rw [e]; exact ⟨rfl, by omega⟩
theorem gtK_le (n : Nat) (y : YS) : gtK n y ≤ 32 := by unfold gtK; rw [lowX_eq]; exact lowK_le _ 32
theorem gtE_le (n : Nat) (y : YS) : gtE n y ≤ 32 := by unfold gtE; omega
theorem gtK_at {n : Nat} {y : YS} (h : gtK n y < 32) : afP (zA y) (mdF n) (gtK n y) = true := lowX_at h
theorem gtK_fit {n : Nat} {y : YS} (h : gtK n y < 32) : 64 + gtK n y + mdF n ≤ 96 := by
  have := gtK_at h
  unfold afP afB at this
  exact of_decide_eq_true (Bool.and_eq_true _ _ ▸ this).1
def qtM (n : Nat) (y : YS) : Bool := decide (cntF (ownM y (zR y (zD y))) 32 + mdF n ≤ zQ y (zR y (zD y)))
noncomputable def gtMT (n : Nat) (y : YS) : Nat := if qtM n y = false then 113 else if gtK n y < 32 then 45 else 109
theorem nmC_22 (u : Nat) (w : WW) : ∀ j, (nmC u j w).2.2 = w.2.2
  | 0 => rfl
  | j + 1 => nmC_22 u w j
theorem nmC_3 (u j : Nat) (w : WW) : ((nmC u j w).1, (nmC u j w).2.1, w.2.2) = nmC u j w := by rw [← nmC_22 u w j]
def tkY (c u m j : Nat) (y : YS) : YS := (((nmC u j y.1).1, (nmC u j y.1).2.1, y.1.2.2), y.2.1, (zQ y, filA (zA y) 103 u (u + j), filA (zO y) c u (u + j), filA (zF y) u u (u + j), filA (zM y) m u (u + j)), y.2.2.2)
theorem MI_tkY {y : YS} {c u m j : Nat} (h : MI y) (hc : c < 4) (hu : u < 200) (hm : m < 200) : MI (tkY c u m j y) := by
  refine ⟨h.1, h.2.1, by show wOk ((nmC u j y.1).1, (nmC u j y.1).2.1, y.1.2.2); rw [nmC_3]; exact wOk_nmC h.2.2.1 j, h.2.2.2.1, fun i => ?_, fun i => ⟨?_, ?_, ?_, (h.2.2.2.2.2 i).2.2.2⟩⟩
  · show filA _ _ _ _ i < 65536; unfold filA; split; decide; exact h.2.2.2.2.1 i
  · show filA _ _ _ _ i < 4; unfold filA; split; exact hc; exact (h.2.2.2.2.2 i).1
  · show filA _ _ _ _ i < 200; unfold filA; split; exact hu; exact (h.2.2.2.2.2 i).2.1
  · show filA _ _ _ _ i < 200; unfold filA; split; exact hm; exact (h.2.2.2.2.2 i).2.2.1
noncomputable def gotY (t n : Nat) (y : YS) : YS := onW (rigW (slA y t) (64 + gtK n y) (64 + gtK n y + mdF n) 95) (tkY (zR y (zD y)) (64 + gtK n y) (mdF n) (mdF n) (gsY (mdF n) (gtE n y) y))
noncomputable def getY (t n : Nat) (y : YS) : YS := if qtM n y = false then falY 113 y else if gtK n y < 32 then mk4 (gotY t n y) else falY 109 (gsY (mdF n) (gtE n y) y)
theorem MI_gotY {y : YS} {t n : Nat} (h : MI y) (hn1 : 1 ≤ n) (hn2 : n ≤ 32) (hk : gtK n y < 32) : MI (gotY t n y) := by
  have hm := mdF_le hn1 hn2
  have hf := gtK_fit hk
  have h1 := MI_gsY h hm.2 (gtE n y) (gtE_le n y)
  have h2 := MI_tkY (c := zR y (zD y)) (u := 64 + gtK n y) (m := mdF n) (j := mdF n) h1 (h.2.1 _) (by omega) (by omega)
  exact MI_onW (y := tkY (zR y (zD y)) (64 + gtK n y) (mdF n) (mdF n) (gsY (mdF n) (gtE n y) y)) h2 (wOk_rig h2.2.2.1 (by omega) hf (by decide))
def blkM (y : YS) (b t : Nat) : Bool := decide (64 ≤ b ∧ b ≤ 95) && (decide (zA y b = 103) && (decide (zF y b = b) && decide (zM y b = t - b)))
def frMY (b t : Nat) (y : YS) : YS := (y.1, y.2.1, (zQ y, filA (zA y) 114 b t, zO y, zF y, zM y), y.2.2.2)
theorem MI_frM {y : YS} {b t : Nat} (h : MI y) : MI (frMY b t y) := by
  refine ⟨h.1, h.2.1, h.2.2.1, h.2.2.2.1, fun i => ?_, h.2.2.2.2.2⟩
  show filA _ _ _ _ i < 65536; unfold filA; split; decide; exact h.2.2.2.2.1 i
def frMT (u : Nat) (y : YS) : Nat := if trF y.1 (slA y u) 2 = 45 then (if blkM y (zB y (slA y u)) (zT y (slA y u)) = true then 45 else 102) else trF y.1 (slA y u) 2
noncomputable def freY (u : Nat) (y : YS) : YS := opY (frMT u y) (frMY (zB y (slA y u)) (zT y (slA y u)) y) y
theorem frMT_cz {u : Nat} {y : YS} (h : frMT u y ≠ 45) : isCz (frMT u y) := by
  unfold frMT at *; split at h
  · rename_i e; rw [if_pos e]
    split at h
    · exact absurd rfl h
    · rename_i e2; rw [if_neg e2]; unfold isCz; omega
  · rename_i e; rw [if_neg e]; exact trF_cz e
/-! sweep -/
def swI (w : WW) (sa : Nat → Nat) (n : Nat) : Nat → Bool := fun s => w.1 s && !(decide (s < n) && rsW w sa s)
def swP (w : WW) (sa : Nat → Nat) : Nat → Bool := fun s => w.1 s && rsW w sa s
theorem swI_0 (w : WW) (sa : Nat → Nat) : swI w sa 0 = w.1 := by
  funext s; unfold swI; rw [decide_eq_false (Nat.not_lt_zero s), Bool.false_and, Bool.not_false, Bool.and_true]
theorem swI_at (w : WW) (sa : Nat → Nat) (n : Nat) : swI w sa n n = w.1 n := by
  unfold swI; rw [decide_eq_false (Nat.lt_irrefl n), Bool.false_and, Bool.not_false, Bool.and_true]
theorem swI_s {w : WW} {sa : Nat → Nat} {n : Nat} {v : Bool} (h : v = (w.1 n && !rsW w sa n)) : va_up (swI w sa n) n v = swI w sa (n + 1) := by
  funext s; unfold va_up
  by_cases e : s = n
  · subst e; rw [if_pos rfl, h]; unfold swI; rw [decide_eq_true (Nat.lt_succ_self s), Bool.true_and]
  · rw [if_neg e]; unfold swI
    by_cases q : s < n
    · rw [decide_eq_true q, decide_eq_true (Nat.lt_succ_of_lt q)]
    · rw [decide_eq_false q, decide_eq_false (by omega : ¬ s < n + 1)]
def rlM (sa : Nat → Nat) (n : Nat) : Nat → Nat := fun c => if 64 ≤ c ∧ c < n ∧ sa c = 114 then 102 else sa c
theorem rlM_0 (sa : Nat → Nat) : rlM sa 64 = sa := by
  funext c; unfold rlM; rw [if_neg (by omega)]
theorem rlM_s {sa : Nat → Nat} {n : Nat} {v : Nat} (hn : 64 ≤ n) (h : v = if sa n = 114 then 102 else sa n) : va_up (rlM sa n) n v = rlM sa (n + 1) := by
  funext c; unfold va_up
  by_cases e : c = n
  · subst e; rw [if_pos rfl, h]; unfold rlM
    by_cases q : sa c = 114
    · rw [if_pos q, if_pos ⟨hn, by omega, q⟩]
    · rw [if_neg q, if_neg (fun z => q z.2.2)]
  · rw [if_neg e]; unfold rlM
    by_cases q : 64 ≤ c ∧ c < n ∧ sa c = 114
    · rw [if_pos q, if_pos ⟨q.1, by omega, q.2.2⟩]
    · rw [if_neg q, if_neg (fun z => q ⟨z.1, by omega, z.2.2⟩)]
theorem rlM_at (sa : Nat → Nat) (n : Nat) : rlM sa n n = sa n := by unfold rlM; rw [if_neg (by omega)]
def swY0 (y : YS) : YS := ((swI y.1 (zA y) (96 + 8 * zD y + 8), y.1.2), y.2.1, (zQ y, rlM (zA y) 96, zO y, zF y, zM y), y.2.2.2)
noncomputable def swY (y : YS) : YS := mk4 (swY0 y)
theorem wOk_swI {w : WW} {sa : Nat → Nat} {n : Nat} (h : wOk w) : wOk (swI w sa n, w.2) := by
  intro j
  refine ⟨(h j).1, (h j).2.1, (h j).2.2.1, (h j).2.2.2.1, fun hr => (h j).2.2.2.2 ?_⟩
  have hr' : swI w sa n j = true := hr
  unfold swI at hr'
  exact (Bool.and_eq_true _ _ ▸ hr').1
theorem MI_swY0 {y : YS} (h : MI y) : MI (swY0 y) := by
  refine ⟨h.1, h.2.1, wOk_swI h.2.2.1, h.2.2.2.1, fun i => ?_, h.2.2.2.2.2⟩
  show rlM _ _ i < 65536; unfold rlM; split; decide; exact h.2.2.2.2.1 i
/-! asked -/
def quY (c q : Nat) (y : YS) : YS := (y.1, y.2.1, (va_up (zQ y) c q, zA y, zO y, zF y, zM y), y.2.2.2)
def askM (w : WW) (s c : Nat) : Nat := if c = 98 then w.2.2.1 s else if c = 116 then w.2.2.2.1 s else if c = 112 then w.2.2.2.2.1 s else w.2.2.2.2.2 s
def chkM (r : Nat → Bool) (f : Nat → Int32) : Nat → Int64
  | 0 => 0
  | n + 1 => 31 * chkM r f n + (f n).toInt64 + (if r n = true then 7 else 0)
noncomputable def mrY (y : YS) : Nat → YS
  | 0 => y
  | c + 1 => finY c (mrY y c)
noncomputable def mrN (y : YS) : Nat → Nat
  | 0 => 0
  | c + 1 => mrN y c + cntF (zE (finY c (mrY y c))) 96
theorem mrY_ex (y : YS) : ∃ z : YS × Nat, z = (mrY y 4, mrN y 4) := ⟨_, rfl⟩
noncomputable def mrX (y : YS) : YS × Nat := Classical.choose (mrY_ex y)
theorem mrX_eq (y : YS) : mrX y = (mrY y 4, mrN y 4) := Classical.choose_spec (mrY_ex y)
theorem mrX_1 (y : YS) : (mrX y).1 = mrY y 4 := by rw [mrX_eq]
theorem mrX_2 (y : YS) : (mrX y).2 = mrN y 4 := by rw [mrX_eq]
theorem mrY_MI {y : YS} (h : MI y) : ∀ c, MI (mrY y c)
  | 0 => h
  | c + 1 => mrY_MI h c
theorem mrN_le (y : YS) : ∀ c, mrN y c ≤ 96 * c
  | 0 => Nat.le_refl _
  | c + 1 => by
    have h1 := mrN_le y c
    have h2 := cntF_le (zE (finY c (mrY y c))) 96
    show mrN y c + cntF (zE (finY c (mrY y c))) 96 ≤ _
    omega
theorem pl_no {c : Nat} (h : ¬ isCz c) : plF c 9 = -1 := by
  have e : ∀ k, k ≤ 9 → plF c k = -1 := by
    intro k
    induction k with
    | zero => intro _; rfl
    | succ k ih =>
      intro hk
      have hc : chJ 2 k ≠ c := by
        intro e
        apply h
        have hall : ∀ k, k < 9 → isCz (chJ 2 k) := by
          intro k hk
          have : k = 0 ∨ k = 1 ∨ k = 2 ∨ k = 3 ∨ k = 4 ∨ k = 5 ∨ k = 6 ∨ k = 7 ∨ k = 8 := by omega
          unfold isCz
          rcases this with rfl | rfl | rfl | rfl | rfl | rfl | rfl | rfl | rfl <;> decide +kernel
        rw [← e]; exact hall k (by omega)
      rw [plF, if_neg hc]
      exact ih (by omega)
  exact e 9 (Nat.le_refl 9)
theorem fdiv_ok {n : Nat} (h : n ≤ 96) : vf_n32 (FP.fdiv (FP.i2f (nI n)) 1119879168) := by
  have h1 : ∀ n, n < 97 → FP.fdiv (FP.i2f (nI n)) 1119879168 &&& 0x7fffffff ≤ 0x7f800000 := by decide +kernel
  exact h1 n (by omega)
theorem ddiv_ok {y : YS} (h : mrN y 4 ≤ 96 * 4) : vf_n64 (FP.ddiv (FP.i2d (nI (mrX y).2)) 4616189618054758400) := by
  have h1 : ∀ n, n < 385 → FP.ddiv (FP.i2d (nI n)) 4616189618054758400 &&& 0x7fffffffffffffff ≤ 0x7ff0000000000000 := by decide +kernel
  rw [mrX_eq]; exact h1 _ (by show mrN y 4 < 385; omega)
theorem af_stop {sa : Nat → Nat} {b t k : Nat} {v : Bool} (hv : v = (decide (t ≤ 96) && (exactB b t && allF (frP sa b) k))) (h : v = false) (hk : k ≤ t - b) : v = afB sa b t := by
  rw [h] at hv ⊢
  cases e : afB sa b t
  · rfl
  · exfalso
    unfold afB at e
    rw [Bool.and_eq_true, Bool.and_eq_true, allF_iff] at e
    have h2 : allF (frP sa b) k = true := (allF_iff _ _).mpr (fun i hi => e.2.2 i (by omega))
    rw [e.1, e.2.1, h2] at hv
    exact absurd hv (by decide)
