/-! the class's whole state, and what each operation makes of it -/
abbrev CS : Type := (Nat → Int64) × (Nat → Int64) × (Nat → Nat) × Nat × (Nat → Nat) × (Nat → Nat) × (Nat → Nat) × (Nat → Nat) × (Nat → Int32) × NN × (Nat → Nat) × (Nat → Int64)
abbrev sM (x : CS) : Nat → Int64 := x.1
abbrev sR (x : CS) : Nat → Int64 := x.2.1
abbrev sC (x : CS) : Nat → Nat := x.2.2.1
abbrev sP (x : CS) : Nat := x.2.2.2.1
abbrev sS (x : CS) : Nat → Nat := x.2.2.2.2.1
abbrev sO (x : CS) : Nat → Nat := x.2.2.2.2.2.1
abbrev sB (x : CS) : Nat → Nat := x.2.2.2.2.2.2.1
abbrev sQ (x : CS) : Nat → Nat := x.2.2.2.2.2.2.2.1
abbrev sN (x : CS) : Nat → Int32 := x.2.2.2.2.2.2.2.2.1
abbrev sT (x : CS) : NN := x.2.2.2.2.2.2.2.2.2.1
abbrev sK (x : CS) : Nat → Nat := x.2.2.2.2.2.2.2.2.2.2.1
abbrev sD (x : CS) : Nat → Int64 := x.2.2.2.2.2.2.2.2.2.2.2
def okM (f : Nat → Int64) (n : Nat) : Prop := ∀ j, j < n → wM (f j) = true → wB (f j) < wT (f j) ∧ wT (f j) ≤ 96 ∧ wS (f j) ≤ 4
def okV (w : Int64) : Prop := wM w = true → wB w < wT w ∧ wT w ≤ 96 ∧ wS w ≤ 4
def Iv (x : CS) : Prop := sP x < 8 ∧ (∀ j, sC x j < 4) ∧ (∀ j, sS x j < 65536) ∧ (∀ j, sO x j < 4) ∧ okM (sM x) 96 ∧ okM (sR x) ((sP x + 1) * 8) ∧ (sT x).1.2.2.2 ≤ 96 ∧ (∀ j, sB x j < 65536)
theorem okM.t {f : Nat → Int64} {n : Nat} (h : okM f n) : ∀ j, j < n → wM (f j) = true → wT (f j) ≤ 96 := fun j h1 h2 => (h j h1 h2).2.1
theorem okM.at {f : Nat → Int64} {n j : Nat} (h : okM f n) (hj : j < n) : okV (f j) := fun h2 => h j hj h2
theorem okV_n (n : Int32) : okV (mkN n) := fun h => by rw [wM_mkN] at h; exact absurd h (by decide)
theorem okV_r {b t p s : Nat} {a : Int32} (hb : b < t) (ht : t ≤ 96) (hp : p < 128) (hs : s ≤ 4) : okV (wRt b t a p s) := by
  unfold wRt
  split
  · exact okV_n a
  · intro _
    rw [wB_mkR (by omega) (by omega) hp (by omega), wT_mkR (by omega) (by omega) hp (by omega), wS_mkR (by omega) (by omega) hp (by omega)]
    exact ⟨hb, ht, hs⟩
theorem okM_upd {f : Nat → Int64} {n i : Nat} {w : Int64} (h : okM f n) (hw : okV w) : okM (vp_updL f i w) n := by
  intro j hj hm
  unfold vp_updL at hm ⊢
  split at hm
  · rename_i e; subst e; rw [if_pos rfl]; exact hw hm
  · rename_i e; rw [if_neg e]; exact h j hj hm
theorem okM_clr {f : Nat → Int64} {n u v : Nat} (h : okM f n) : okM (clrA f u v) n := by
  intro j hj hm
  unfold clrA at hm ⊢
  split at hm
  · exact absurd hm (by rw [wM_mkN]; decide)
  · rename_i e; rw [if_neg e]; exact h j hj hm
theorem okM_drop {f h : Nat → Int64} {n m : Nat} (hk : okM f n) : okM (dropA h f m) n := by
  intro j hj hm
  unfold dropA at hm ⊢
  split at hm
  · exact absurd hm (by rw [wM_mkN]; decide)
  · rename_i e; rw [if_neg e]; exact hk j hj hm
theorem okM_le {f : Nat → Int64} {n m : Nat} (h : okM f n) (hm : m ≤ n) : okM f m := fun j hj => h j (by omega)
theorem okM_beg {rg : Nat → Int64} {pr c : Nat} {u v : Int64} (h : okM rg (pr * 8)) (hp : pr < 8) (hc : c < 4) (hu : okV u) (hv : okV v) : okM (begR rg pr c u v) ((pr + 1) * 8) := by
  unfold begR
  refine okM_upd (okM_upd (okM_upd (okM_upd ?_ hu) hv) (okV_r (by omega) (by omega) (by decide) (by decide))) (okV_r (by omega) (by omega) (by decide) (by decide))
  intro j hj hm
  unfold clrA at hm ⊢
  split at hm
  · exact absurd hm (by rw [wM_mkN]; decide)
  · rename_i e; rw [if_neg e]; exact h j (by omega) hm
def cIx (c : Nat) : Nat := if c = 116 then 0 else if c = 115 then 1 else if c = 112 then 2 else if c = 98 then 3 else if c = 108 then 4 else if c = 113 then 5 else if c = 109 then 6 else if c = 100 then 7 else if c = 102 then 8 else 9
def isCz (c : Nat) : Prop := c = 116 ∨ c = 115 ∨ c = 112 ∨ c = 98 ∨ c = 108 ∨ c = 113 ∨ c = 109 ∨ c = 100 ∨ c = 102
theorem isCz_lt {c : Nat} (h : isCz c) : c < 128 := by unfold isCz at h; omega
theorem cIx_lt {c : Nat} (h : isCz c) : cIx c < 9 := by
  rcases h with rfl | rfl | rfl | rfl | rfl | rfl | rfl | rfl | rfl <;> decide
theorem cIx_eq {c : Nat} (h : isCz c) : ixJ 0 c = nI (cIx c) := by
  rcases h with rfl | rfl | rfl | rfl | rfl | rfl | rfl | rfl | rfl <;> decide +kernel
def useF (w : Int64) (m : Nat) : Nat := if wM w = false then 116 else if wS w = 0 then (if wP w &&& m = m then 45 else 112) else 115
def accF (w : Int64) (m : Nat) : Nat := if useF w m = 45 then (if ¬ wN w < nI (wB w) ∧ wN w < nI (wT w) then 45 else 98) else useF w m
def keepF (via st : Int64) : Bool := !wM st || (decide (wP st &&& 16 = 16) || decide (wP via &&& 32 = 32))
def lodF (st : Nat → Nat) (w : Int64) (p : Nat) : Int64 := if wM w = false then w else if p &&& 4 = 0 ∨ stA st (wB w) = 114 then mkN (wN w) else if p &&& 64 = 0 then wRt (wB w) (wT w) (wN w) (wP w &&& 61) (wS w) else w
noncomputable def ntS (x : CS) : CS := (sM x, sR x, sC x, sP x, sS x, sO x, sB x, sQ x, sN x, nt4 (sM x) (sC x) (sR x) (sP x) (sS x) (sT x), sK x, sD x)
def setR (r : Nat → Int64) (x : CS) : CS := (sM x, r, sC x, sP x, sS x, sO x, sB x, sQ x, sN x, sT x, sK x, sD x)
def setM (f : Nat → Int64) (x : CS) : CS := (f, sR x, sC x, sP x, sS x, sO x, sB x, sQ x, sN x, sT x, sK x, sD x)
noncomputable def keepS (t : Nat) (w : Int64) (x : CS) : CS := ntS (setR (vp_updL (sR x) (sP x * 8 + t) w) x)
def drpS (x : CS) : CS := (dropA (sD x) (sM x) 96, dropA (sD x) (sR x) ((sP x + 1) * 8), sC x, sP x, sS x, sO x, sB x, sQ x, sN x, sT x, sK x, sD x)
def drpN (x : CS) : Nat := cntF (dropP (sD x) (sM x)) 96 + cntF (dropP (sD x) (sR x)) ((sP x + 1) * 8)
def endS (u : Int64) (x : CS) : CS := drpS (clrA (sM x) (32 + sP x * 4) (32 + sP x * 4 + 4), vp_updL (sR x) ((sP x - 1) * 8 + 0) u, sC x, sP x - 1, sS x, sO x, sB x, sQ x, sN x, sT x, sK x, rngH (clrH (sD x) 0) 0 (nI (32 + sP x * 4)) (nI (32 + sP x * 4 + 4)))
def kntS (c : Nat) (x : CS) : CS := (sM x, sR x, sC x, sP x, sS x, sO x, sB x, sQ x, sN x, sT x, va_up (sK x) (cIx c) (sK x (cIx c) + 1), sD x)
def begS (c : Nat) (u v : Int64) (x : CS) : CS := (sM x, begR (sR x) (sP x) c u v, va_up (sC x) (sP x) c, sP x, sS x, sO x, sB x, sQ x, sN x, sT x, sK x, sD x)
def trp0 (c : Nat) (x : CS) : CS := if sP x = 0 then begS (sC x (sP x)) (mkN (nI 0)) (mkN (nI 0)) (kntS c x) else endS (mkN (-1)) (kntS c x)
noncomputable def trapS (c : Nat) (x : CS) : CS := ntS (trp0 c x)
noncomputable def opS (c t : Nat) (w : Int64) (x : CS) : CS := if c = 45 then keepS t w x else trapS c x
def rgA (x : CS) (u : Nat) : Int64 := sR x (sP x * 8 + u)
def adr (w : Int64) : Nat := (wN w).toNatClampNeg
def nrC (w : Int64) (b n : Nat) : Nat := if useF w 0 = 45 ∧ (dn b (unitOf b (b + n)) < wB w ∨ wT w < up (b + n) (unitOf b (b + n))) then 98 else useF w 0
def stM (s : Int64) : Nat := if wM s = true then 10 else 2
def stC (w s : Int64) : Nat := if accF w (stM s) = 45 ∧ keepF w s = false then 108 else accF w (stM s)
def unC (w : Int64) (k : Nat) : Nat := if wM w = false then 116 else if wS w = k then 45 else 115
def csC (w : Int64) (p : Nat) : Nat := if wM w = false then 116 else if wS w = 0 then 115 else if 7 ≤ p then 100 else 45
def upS (x : CS) : CS := (sM x, sR x, sC x, sP x + 1, sS x, sO x, sB x, sQ x, sN x, sT x, sK x, sD x)
noncomputable def goS (c : Nat) (u v : Int64) (x : CS) : CS := ntS (begS c u v (upS x))
noncomputable def calS (c : Nat) (x : CS) : CS := if 7 ≤ sP x then trapS 100 x else goS c (rgA x 0) (rgA x 1) x
noncomputable def clsS (u : Nat) (x : CS) : CS := if csC (rgA x u) (sP x) = 45 then goS (wS (rgA x u) - 1) (wRt (wB (rgA x u)) (wT (rgA x u)) (wN (rgA x u)) (wP (rgA x u)) 0) (rgA x 1) x else trapS (csC (rgA x u) (sP x)) x
def lvW (w : Int64) : Int64 := if wM w = true ∧ ¬ wP w &&& 16 = 16 then mkN (nI 0) else w
def gtQ (n : Nat) (x : CS) : Bool := decide (¬ nI (sQ x (sC x (sP x))) < sN x (sC x (sP x)) + nI (mdF n))
noncomputable def gtB (n : Nat) (x : CS) : Nat := 64 + lowX (lwP (sS x) (mdF n))
noncomputable def gtC (n : Nat) (x : CS) : Nat := if gtQ n x = false then 113 else if lowX (lwP (sS x) (mdF n)) < 32 then 45 else 109
def gt0 (b m : Nat) (x : CS) : CS := (clrA (sM x) b (b + m), sR x, sC x, sP x, filA (sS x) 103 (b - 64) (b - 64 + m), filA (sO x) (sC x (sP x)) (b - 64) (b - 64 + m), va_up (sB x) (b - 64) (b + m), sQ x, upd (sN x) (sC x (sP x)) (sN x (sC x (sP x)) + nI m), sT x, sK x, sD x)
noncomputable def getS (t n : Nat) (x : CS) : CS := if gtC n x = 45 then keepS t (wRt (gtB n x) (gtB n x + mdF n) (nI (gtB n x)) 95 0) (gt0 (gtB n x) (mdF n) x) else trapS (gtC n x) x
def blkB (x : CS) (b t : Nat) : Bool := decide (64 ≤ b ∧ b < 96 ∧ sS x (b - 64) = 103 ∧ sB x (b - 64) = t)
def frC (w : Int64) (x : CS) : Nat := if useF w 2 = 45 ∧ blkB x (wB w) (wT w) = false then 102 else useF w 2
def fr0 (b t : Nat) (x : CS) : CS := (sM x, sR x, sC x, sP x, filA (sS x) 114 (b - 64) (t - 64), sO x, filA (sB x) 0 (b - 64) (t - 64), sQ x, sN x, sT x, sK x, sD x)
noncomputable def freS (u : Nat) (x : CS) : CS := if frC (rgA x u) x = 45 then ntS (fr0 (wB (rgA x u)) (wT (rgA x u)) x) else trapS (frC (rgA x u) x) x
def swp0 (x : CS) : CS := (sM x, sR x, sC x, sP x, sS x, sO x, sB x, sQ x, sN x, sT x, sK x, rsH (sS x) (clrH (sD x) 0) 32)
def swp1 (x : CS) : CS := (sM x, sR x, sC x, sP x, relS (sS x) 32, sO x, sB x, sQ x, relC (sS x) (sO x) (sN x) 32, sT x, sK x, sD x)
noncomputable def swpS (x : CS) : CS := ntS (swp1 (drpS (swp0 x)))
def quoS (c q : Nat) (x : CS) : CS := (sM x, sR x, sC x, sP x, sS x, sO x, sB x, va_up (sQ x) c q, sN x, sT x, sK x, sD x)
def chkF (f : Nat → Int64) : Nat → Int64
  | 0 => 0
  | n + 1 => 31 * chkF f n + (wN (f n)).toInt64 + (if wM (f n) = true then nI 7 else nI 0).toInt64
def menF (h : Nat → Int64) : Nat → Int32
  | 0 => nI 0
  | c + 1 => menF h c + (popF (h (2 * c)) + popF (h (2 * c + 1)))
def rsP (x : CS) (c i : Nat) : Bool := !((decide (i < 64) || decide (stA (sS x) i = 102)) && bt (sT x).1.1 c i)
def rsC (x : CS) (c : Nat) : Bool := allF (fun k => rsP x c (32 + (sP x + 1) * 4 + k)) (96 - (32 + (sP x + 1) * 4))
def sndS (x : CS) : Bool := allF (rsC x) 4 && (allF (sndW (sM x)) 96 && (allF (sndW (sR x)) ((sP x + 1) * 8) && allF (cntS (sS x) (sO x) (sN x)) 4))
theorem useF_cz {w : Int64} {m : Nat} (h : useF w m ≠ 45) : isCz (useF w m) := by
  unfold useF isCz at *
  split
  · exact Or.inl rfl
  · split
    · split
      · rename_i a b c; rw [if_neg a, if_pos b, if_pos c] at h; exact absurd rfl h
      · exact Or.inr (Or.inr (Or.inl rfl))
    · exact Or.inr (Or.inl rfl)
theorem useF_lt (w : Int64) (m : Nat) : useF w m < 128 := by
  by_cases h : useF w m = 45
  · omega
  · exact isCz_lt (useF_cz h)
theorem accF_cz {w : Int64} {m : Nat} (h : accF w m ≠ 45) : isCz (accF w m) := by
  unfold accF at *
  split at h
  · rename_i e; rw [if_pos e]
    split at h
    · exact absurd rfl h
    · rename_i e2; rw [if_neg e2]; exact Or.inr (Or.inr (Or.inr (Or.inl rfl)))
  · rename_i e; rw [if_neg e]; exact useF_cz e
theorem accF_lt (w : Int64) (m : Nat) : accF w m < 128 := by
  by_cases h : accF w m = 45
  · omega
  · exact isCz_lt (accF_cz h)
theorem useF_m {w : Int64} {m : Nat} (h : useF w m = 45) : wM w = true := by
  unfold useF at h
  cases e : wM w
  · rw [if_pos e] at h; omega
  · rfl
theorem accF_u {w : Int64} {m : Nat} (h : accF w m = 45) : useF w m = 45 := by
  unfold accF at h
  split at h
  · assumption
  · assumption
theorem adr_eq {w : Int64} (h1 : ¬ wN w < nI (wB w)) : wN w = nI (adr w) := by
  have hb := wB_lt w
  have : ¬ wN w < 0 := by
    intro z
    apply h1
    rw [Int32.lt_iff_toInt_lt] at z ⊢
    rw [nI_toInt (by omega)]
    have : (0 : Int32).toInt = 0 := by decide
    omega
  obtain ⟨j, hj, e⟩ := nI_of this
  unfold adr
  rw [e, nI_clamp hj]
theorem adr_lt {w : Int64} (h1 : ¬ wN w < nI (wB w)) (h2 : wN w < nI (wT w)) : adr w < wT w := by
  have e := adr_eq h1
  rw [e] at h2
  have ht := wT_lt w
  have : adr w < 2 ^ 31 := by
    unfold adr
    have := (wN w).toNatClampNeg_lt
    omega
  exact (nI_ltI this (by omega)).mp h2
theorem adr_ge {w : Int64} (h1 : ¬ wN w < nI (wB w)) : wB w ≤ adr w := by
  have e := adr_eq h1
  rw [e] at h1
  have hb := wB_lt w
  have : adr w < 2 ^ 31 := by
    unfold adr
    have := (wN w).toNatClampNeg_lt
    omega
  exact Nat.le_of_not_lt fun z => h1 ((nI_ltI this (by omega)).mpr z)
theorem accF_in {w : Int64} {m : Nat} (h : accF w m = 45) : ¬ wN w < nI (wB w) ∧ wN w < nI (wT w) := by
  have hu := accF_u h
  unfold accF at h
  rw [if_pos hu] at h
  split at h
  · assumption
  · omega
theorem useF_p {w : Int64} {m : Nat} (h : useF w m = 45) : wS w = 0 ∧ wP w &&& m = m := by
  have hm := useF_m h
  unfold useF at h
  rw [if_neg (by rw [hm]; decide)] at h
  split at h
  · rename_i e
    split at h
    · rename_i e2; exact ⟨e, e2⟩
    · omega
  · omega
theorem ntS_iv {x : CS} (h : Iv x) : Iv (ntS x) := ⟨h.1, h.2.1, h.2.2.1, h.2.2.2.1, h.2.2.2.2.1, h.2.2.2.2.2.1, nt4_le h.2.2.2.2.2.2.1, h.2.2.2.2.2.2.2⟩
theorem keepS_iv {x : CS} {t : Nat} {w : Int64} (h : Iv x) (hw : okV w) : Iv (keepS t w x) :=
  ntS_iv ⟨h.1, h.2.1, h.2.2.1, h.2.2.2.1, h.2.2.2.2.1, okM_upd h.2.2.2.2.2.1 hw, h.2.2.2.2.2.2⟩
theorem kntS_iv {x : CS} (c : Nat) (h : Iv x) : Iv (kntS c x) := h
theorem begS_iv {x : CS} {c : Nat} {u v : Int64} (h : Iv x) (hc : c < 4) (hu : okV u) (hv : okV v) : Iv (begS c u v x) :=
  ⟨h.1, fun j => by show va_up _ _ _ j < 4; unfold va_up; split; exact hc; exact h.2.1 j, h.2.2.1, h.2.2.2.1, h.2.2.2.2.1, okM_beg (okM_le h.2.2.2.2.2.1 (by omega)) h.1 hc hu hv, h.2.2.2.2.2.2⟩
theorem drpS_iv {x : CS} (h : Iv x) : Iv (drpS x) :=
  ⟨h.1, h.2.1, h.2.2.1, h.2.2.2.1, okM_drop h.2.2.2.2.1, okM_drop h.2.2.2.2.2.1, h.2.2.2.2.2.2⟩
theorem endS_iv {x : CS} {u : Int64} (h : Iv x) (hu : okV u) : Iv (endS u x) :=
  drpS_iv ⟨by show sP x - 1 < 8; have := h.1; omega, h.2.1, h.2.2.1, h.2.2.2.1, okM_clr h.2.2.2.2.1, okM_upd (okM_le h.2.2.2.2.2.1 (by show (sP x - 1 + 1) * 8 ≤ _; omega)) hu, h.2.2.2.2.2.2⟩
theorem trp0_iv {x : CS} {c : Nat} (h : Iv x) : Iv (trp0 c x) := by
  unfold trp0
  split
  · exact begS_iv (kntS_iv c h) (h.2.1 _) (okV_n _) (okV_n _)
  · exact endS_iv (kntS_iv c h) (okV_n _)
theorem trapS_iv {x : CS} {c : Nat} (h : Iv x) : Iv (trapS c x) := ntS_iv (trp0_iv h)
theorem opS_iv {x : CS} {c t : Nat} {w : Int64} (h : Iv x) (hw : c = 45 → okV w) : Iv (opS c t w x) := by
  unfold opS
  split
  · rename_i e; exact keepS_iv h (hw e)
  · exact trapS_iv h
theorem rgA_ok {x : CS} {u : Nat} (h : Iv x) (hu : u < 8) : okV (rgA x u) := okM.at (f := sR x) (j := sP x * 8 + u) h.2.2.2.2.2.1 (by omega)
theorem goS_iv {x : CS} {c : Nat} {u v : Int64} (h : Iv x) (hp : sP x < 7) (hc : c < 4) (hu : okV u) (hv : okV v) : Iv (goS c u v x) := by
  refine ntS_iv ⟨by show sP x + 1 < 8; omega, fun j => ?_, h.2.2.1, h.2.2.2.1, h.2.2.2.2.1, okM_beg h.2.2.2.2.2.1 (by show sP x + 1 < 8; omega) hc hu hv, h.2.2.2.2.2.2⟩
  show va_up _ _ _ j < 4; unfold va_up; split; exact hc; exact h.2.1 j
theorem lodF_ok {st : Nat → Nat} {w : Int64} {p : Nat} (h : okV w) : okV (lodF st w p) := by
  unfold lodF
  split
  · exact h
  · split
    · exact okV_n _
    · split
      · rename_i a b c
        have := h (by cases e : wM w <;> simp_all)
        exact okV_r this.1 this.2.1 (Nat.lt_of_le_of_lt Nat.and_le_left (wP_lt w)) this.2.2
      · exact h
theorem and61 : ∀ p, p < 128 → nI p &&& (-67) = nI (p &&& 61) := by decide +kernel
theorem trp0_0 {c : Nat} {x : CS} (h : sP x = 0) : trp0 c x = begS (sC x (sP x)) (mkN (nI 0)) (mkN (nI 0)) (kntS c x) := if_pos h
theorem trp0_1 {c : Nat} {x : CS} (h : sP x ≠ 0) : trp0 c x = endS (mkN (-1)) (kntS c x) := if_neg h
theorem unC_cz {w : Int64} {k : Nat} (h : unC w k ≠ 45) : isCz (unC w k) := by
  unfold unC isCz at *; split
  · exact Or.inl rfl
  · split
    · rename_i a b; rw [if_neg a, if_pos b] at h; exact absurd rfl h
    · exact Or.inr (Or.inl rfl)
theorem unC_lt (w : Int64) (k : Nat) : unC w k < 128 := by
  by_cases h : unC w k = 45
  · omega
  · exact isCz_lt (unC_cz h)
theorem unC_m {w : Int64} {k : Nat} (h : unC w k = 45) : wM w = true := by
  unfold unC at h
  cases e : wM w
  · rw [if_pos e] at h; omega
  · rfl
theorem nrC_cz {w : Int64} {b n : Nat} (h : nrC w b n ≠ 45) : isCz (nrC w b n) := by
  unfold nrC at *; split
  · exact Or.inr (Or.inr (Or.inr (Or.inl rfl)))
  · rename_i e; rw [if_neg e] at h; exact useF_cz h
theorem nrC_lt (w : Int64) (b n : Nat) : nrC w b n < 128 := by
  by_cases h : nrC w b n = 45
  · omega
  · exact isCz_lt (nrC_cz h)
theorem nrC_in {w : Int64} {b n : Nat} (h : nrC w b n = 45) : useF w 0 = 45 ∧ wB w ≤ dn b (unitOf b (b + n)) ∧ up (b + n) (unitOf b (b + n)) ≤ wT w := by
  unfold nrC at h
  split at h
  · omega
  · rename_i e
    refine ⟨h, ?_⟩
    constructor
    · exact Nat.le_of_not_lt fun z => e ⟨h, Or.inl z⟩
    · exact Nat.le_of_not_lt fun z => e ⟨h, Or.inr z⟩
theorem stM_lt (s : Int64) : stM s < 128 := by unfold stM; split <;> omega
theorem stC_cz {w s : Int64} (h : stC w s ≠ 45) : isCz (stC w s) := by
  unfold stC at *; split
  · exact Or.inr (Or.inr (Or.inr (Or.inr (Or.inl rfl))))
  · rename_i e; rw [if_neg e] at h; exact accF_cz h
theorem stC_lt (w s : Int64) : stC w s < 128 := by
  by_cases h : stC w s = 45
  · omega
  · exact isCz_lt (stC_cz h)
theorem stC_in {w s : Int64} (h : stC w s = 45) : accF w (stM s) = 45 ∧ keepF w s = true := by
  unfold stC at h
  split at h
  · omega
  · rename_i e
    refine ⟨h, ?_⟩
    cases q : keepF w s
    · exact absurd ⟨h, q⟩ e
    · rfl
noncomputable def storS (t u : Nat) (x : CS) : CS := if stC (rgA x t) (rgA x u) = 45 then ntS (setM (vp_updL (sM x) (adr (rgA x t)) (rgA x u)) x) else trapS (stC (rgA x t) (rgA x u)) x
theorem go0_iv {x : CS} {c : Nat} {u v : Int64} (h : Iv x) (hp : sP x < 7) (hc : c < 4) (hu : okV u) (hv : okV v) : Iv (begS c u v (upS x)) := by
  refine ⟨by show sP x + 1 < 8; omega, fun j => ?_, h.2.2.1, h.2.2.2.1, h.2.2.2.2.1, okM_beg h.2.2.2.2.2.1 (by show sP x + 1 < 8; omega) hc hu hv, h.2.2.2.2.2.2⟩
  show va_up _ _ _ j < 4; unfold va_up; split; exact hc; exact h.2.1 j
theorem csC_cz {w : Int64} {p : Nat} (h : csC w p ≠ 45) : isCz (csC w p) := by
  unfold csC isCz at *; split
  · exact Or.inl rfl
  · split
    · exact Or.inr (Or.inl rfl)
    · split
      · omega
      · rename_i a b c; rw [if_neg a, if_neg b, if_neg c] at h; exact absurd rfl h
theorem csC_lt (w : Int64) (p : Nat) : csC w p < 128 := by
  by_cases h : csC w p = 45
  · omega
  · exact isCz_lt (csC_cz h)
theorem csC_in {w : Int64} {p : Nat} (h : csC w p = 45) : wM w = true ∧ 0 < wS w ∧ p < 7 := by
  unfold csC at h
  split at h
  · omega
  · split at h
    · omega
    · split at h
      · omega
      · rename_i a b c
        exact ⟨by cases e : wM w <;> simp_all, by omega, by omega⟩
theorem lvW_ok {w : Int64} (h : okV w) : okV (lvW w) := by
  unfold lvW; split
  · exact okV_n _
  · exact h
theorem mdF_le {n : Nat} (h1 : 1 ≤ n) (h2 : n ≤ 32) : 1 ≤ mdF n ∧ mdF n ≤ 32 := by
  unfold mdF up
  split
  · omega
  · split <;> omega
theorem lowR_pos {st : Nat → Nat} {n : Nat} (h : 0 ≤ lowR st n) : lowX (lwP st n) < 32 := by
  unfold lowR at h
  split at h
  · assumption
  · exact absurd h (by decide)
theorem lwP_fit {st : Nat → Nat} {n k : Nat} (h : lwP st n k = true) : 64 + k + n ≤ 96 := by
  unfold lwP at h
  rw [Bool.and_eq_true] at h
  exact of_decide_eq_true h.2
theorem gt0_iv {x : CS} {b m : Nat} (h : Iv x) (h2 : b + m ≤ 96) : Iv (gt0 b m x) := by
  refine ⟨h.1, h.2.1, fun j => ?_, fun j => ?_, okM_clr h.2.2.2.2.1, h.2.2.2.2.2.1, h.2.2.2.2.2.2.1, fun j => ?_⟩
  · show filA _ _ _ _ j < 65536; unfold filA; split; decide; exact h.2.2.1 j
  · show filA _ _ _ _ j < 4; unfold filA; split; exact h.2.1 _; exact h.2.2.2.1 j
  · show va_up _ _ _ j < 65536; unfold va_up; split; omega; exact h.2.2.2.2.2.2.2 j
theorem gtC_q {n : Nat} {x : CS} (h : decide (¬ nI (sQ x (sC x (sP x))) < sN x (sC x (sP x)) + nI (mdF n)) = false) : gtC n x = 113 := by
  unfold gtC gtQ; rw [if_pos h]
theorem gtC_m {n : Nat} {x : CS} (h : decide (¬ nI (sQ x (sC x (sP x))) < sN x (sC x (sP x)) + nI (mdF n)) = true) (h2 : ¬ 0 ≤ lowR (sS x) (mdF n)) : gtC n x = 109 := by
  unfold gtC gtQ; rw [if_neg (by rw [h]; decide), if_neg]
  intro z
  apply h2
  unfold lowR
  rw [if_pos z]
  exact nI_pos' (by omega)
theorem gtC_k {n : Nat} {x : CS} (h : decide (¬ nI (sQ x (sC x (sP x))) < sN x (sC x (sP x)) + nI (mdF n)) = true) (h2 : lowX (lwP (sS x) (mdF n)) < 32) : gtC n x = 45 := by
  unfold gtC gtQ; rw [if_neg (by rw [h]; decide), if_pos h2]
theorem frC_cz {w : Int64} {x : CS} (h : frC w x ≠ 45) : isCz (frC w x) := by
  unfold frC at *; split
  · unfold isCz; omega
  · rename_i e; rw [if_neg e] at h; exact useF_cz h
theorem frC_lt (w : Int64) (x : CS) : frC w x < 128 := by
  by_cases h : frC w x = 45
  · omega
  · exact isCz_lt (frC_cz h)
theorem frC_in {w : Int64} {x : CS} (h : frC w x = 45) : useF w 2 = 45 ∧ 64 ≤ wB w ∧ wB w < 96 ∧ sS x (wB w - 64) = 103 ∧ sB x (wB w - 64) = wT w := by
  unfold frC at h
  split at h
  · omega
  · rename_i e
    refine ⟨h, ?_⟩
    cases q : blkB x (wB w) (wT w)
    · exact absurd ⟨h, q⟩ e
    · unfold blkB at q; exact of_decide_eq_true q
theorem fr0_iv {x : CS} {b t : Nat} (h : Iv x) : Iv (fr0 b t x) := by
  refine ⟨h.1, h.2.1, fun j => ?_, h.2.2.2.1, h.2.2.2.2.1, h.2.2.2.2.2.1, h.2.2.2.2.2.2.1, fun j => ?_⟩
  · show filA _ _ _ _ j < 65536; unfold filA; split; decide; exact h.2.2.1 j
  · show filA _ _ _ _ j < 65536; unfold filA; split; decide; exact h.2.2.2.2.2.2.2 j
theorem swp1_iv {x : CS} (h : Iv x) : Iv (swp1 (drpS (swp0 x))) := by
  refine ⟨h.1, h.2.1, fun j => ?_, h.2.2.2.1, okM_drop h.2.2.2.2.1, okM_drop h.2.2.2.2.2.1, h.2.2.2.2.2.2⟩
  show relS _ _ j < 65536; unfold relS; split; decide; exact h.2.2.1 j
def askF (w : Int64) (c : Nat) : Nat := if c = 98 then wB w else if c = 116 then wT w else if c = 112 then wP w else wS w
def qIx (c : Nat) : Nat := if c = 98 then 0 else if c = 116 then 1 else if c = 112 then 2 else 3
theorem qIx_eq {c : Nat} (h : c = 98 ∨ c = 116 ∨ c = 112 ∨ c = 115) : ixJ 1 c = nI (qIx c) := by
  rcases h with rfl | rfl | rfl | rfl <;> decide +kernel
theorem qIx_lt {c : Nat} (h : c = 98 ∨ c = 116 ∨ c = 112 ∨ c = 115) : qIx c < 4 := by
  rcases h with rfl | rfl | rfl | rfl <;> decide
