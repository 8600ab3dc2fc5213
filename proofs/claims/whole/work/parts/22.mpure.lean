/-! invariants of the model's words, and where its loops end -/
def wK (i : Bool) (b t p z : Nat) : Prop := b < 200 ∧ t < 200 ∧ p < 128 ∧ z < 8 ∧ (i = true → b < t ∧ t ≤ 96 ∧ z ≤ 4)
theorem slA_lt {y : YS} {r : Nat} (hd : zD y < 8) (hr : r < 8) : slA y r < 160 := by unfold slA; omega
theorem wb_B {w : WW} (h : wOk w) (s : Nat) : w.2.2.1 s < 2147483648 := Nat.lt_trans (h s).1 (by decide)
theorem wb_T {w : WW} (h : wOk w) (s : Nat) : w.2.2.2.1 s < 2147483648 := Nat.lt_trans (h s).2.1 (by decide)
theorem wb_P {w : WW} (h : wOk w) (s : Nat) : w.2.2.2.2.1 s < 2147483648 := Nat.lt_trans (h s).2.2.1 (by decide)
theorem wb_S {w : WW} (h : wOk w) (s : Nat) : w.2.2.2.2.2 s < 2147483648 := Nat.lt_trans (h s).2.2.2.1 (by decide)
theorem wb_A {w : WW} (h : wOk w) (s m : Nat) : w.2.2.2.2.1 s &&& m < 2147483648 := Nat.lt_of_le_of_lt Nat.and_le_left (wb_P h s)
theorem wOk_K {w : WW} : wOk w ↔ ∀ s, wK (w.1 s) (w.2.2.1 s) (w.2.2.2.1 s) (w.2.2.2.2.1 s) (w.2.2.2.2.2 s) := Iff.rfl
theorem va_eq {α : Type} (f : Nat → α) (i : Nat) (v : α) : va_up f i v i = v := by unfold va_up; rw [if_pos rfl]
theorem va_ne {α : Type} (f : Nat → α) {i j : Nat} (v : α) (h : j ≠ i) : va_up f i v j = f j := by unfold va_up; rw [if_neg h]
theorem wOk_num {w : WW} {s : Nat} {n : Int32} (h : wOk w) : wOk (numW s n w) := by
  intro j
  refine ⟨(h j).1, (h j).2.1, (h j).2.2.1, (h j).2.2.2.1, fun hr => ?_⟩
  have hr' : va_up w.1 s false j = true := hr
  by_cases e : j = s
  · subst e; rw [va_eq] at hr'; exact absurd hr' (by decide)
  · rw [va_ne _ _ e] at hr'; exact (h j).2.2.2.2 hr'
theorem wOk_rig {w : WW} {s b t p : Nat} (h : wOk w) (hb : b < t) (ht : t ≤ 96) (hp : p < 128) : wOk (rigW s b t p w) := by
  intro j
  show wK (va_up w.1 s true j) (va_up w.2.2.1 s b j) (va_up w.2.2.2.1 s t j) (va_up w.2.2.2.2.1 s p j) (va_up w.2.2.2.2.2 s 0 j)
  by_cases e : j = s
  · subst e; simp only [va_eq]; exact ⟨by omega, by omega, hp, by omega, fun _ => ⟨hb, ht, by omega⟩⟩
  · simp only [va_ne _ _ e]; exact h j
theorem wOk_cop {w : WW} {a s : Nat} (h : wOk w) : wOk (copW a s w) := by
  intro j
  show wK (va_up w.1 s _ j) (va_up w.2.2.1 s _ j) (va_up w.2.2.2.1 s _ j) (va_up w.2.2.2.2.1 s _ j) (va_up w.2.2.2.2.2 s _ j)
  by_cases e : j = s
  · subst e; simp only [va_eq]; exact h a
  · simp only [va_ne _ _ e]; exact h j
def perW (s p : Nat) (w : WW) : WW := (w.1, w.2.1, w.2.2.1, w.2.2.2.1, va_up w.2.2.2.2.1 s p, w.2.2.2.2.2)
def selW (s z : Nat) (w : WW) : WW := (w.1, w.2.1, w.2.2.1, w.2.2.2.1, w.2.2.2.2.1, va_up w.2.2.2.2.2 s z)
def isrW (s : Nat) (v : Bool) (w : WW) : WW := (va_up w.1 s v, w.2)
def nbrW (s : Nat) (n : Int32) (w : WW) : WW := (w.1, upd w.2.1 s n, w.2.2)
theorem wOk_per {w : WW} {s p : Nat} (h : wOk w) (hp : p < 128) : wOk (perW s p w) := by
  intro j
  show wK (w.1 j) (w.2.2.1 j) (w.2.2.2.1 j) (va_up w.2.2.2.2.1 s p j) (w.2.2.2.2.2 j)
  by_cases e : j = s
  · subst e; simp only [va_eq]; exact ⟨(h j).1, (h j).2.1, hp, (h j).2.2.2⟩
  · simp only [va_ne _ _ e]; exact h j
theorem wOk_sel {w : WW} {s z : Nat} (h : wOk w) (hp : z ≤ 4) : wOk (selW s z w) := by
  intro j
  show wK (w.1 j) (w.2.2.1 j) (w.2.2.2.1 j) (w.2.2.2.2.1 j) (va_up w.2.2.2.2.2 s z j)
  by_cases e : j = s
  · subst e; simp only [va_eq]; exact ⟨(h j).1, (h j).2.1, (h j).2.2.1, by omega, fun hr => ⟨((h j).2.2.2.2 hr).1, ((h j).2.2.2.2 hr).2.1, hp⟩⟩
  · simp only [va_ne _ _ e]; exact h j
theorem wOk_isr {w : WW} {s : Nat} {v : Bool} (h : wOk w) (hp : v = true → w.1 s = true) : wOk (isrW s v w) := by
  intro j
  show wK (va_up w.1 s v j) (w.2.2.1 j) (w.2.2.2.1 j) (w.2.2.2.2.1 j) (w.2.2.2.2.2 j)
  by_cases e : j = s
  · subst e; simp only [va_eq]; exact ⟨(h j).1, (h j).2.1, (h j).2.2.1, (h j).2.2.2.1, fun hr => (h j).2.2.2.2 (hp hr)⟩
  · simp only [va_ne _ _ e]; exact h j
theorem wOk_nbr {w : WW} {s : Nat} {n : Int32} (h : wOk w) : wOk (nbrW s n w) := h
theorem wOk_nmW {w : WW} {d : Nat} (h : wOk w) : ∀ k, wOk (nmW d k w)
  | 0 => h
  | k + 1 => wOk_num (wOk_nmW h k)
theorem wOk_nmC {w : WW} {u : Nat} (h : wOk w) : ∀ k, wOk (nmC u k w)
  | 0 => h
  | k + 1 => wOk_num (wOk_nmC h k)
theorem wOk_drI {w : WW} {b : Nat → Nat} {u n : Nat} (h : wOk w) : wOk (drI b u n w.1, w.2) := by
  intro j
  refine ⟨(h j).1, (h j).2.1, (h j).2.2.1, (h j).2.2.2.1, fun hr => (h j).2.2.2.2 ?_⟩
  have hr' : drI b u n w.1 j = true := hr
  unfold drI at hr'
  exact (Bool.and_eq_true _ _ ▸ hr').1
theorem wOk_ret {w : WW} {u d : Nat} (h : wOk w) : wOk (retW u d w) := wOk_drI (wOk_nmC h 4)
theorem MI_thr {y : YS} (k : Nat) (h : MI y) : MI (thrY k y) := h
theorem MI_w {y : YS} {w : WW} (h : MI y) (hw : wOk w) : MI (w, y.2) := ⟨h.1, h.2.1, hw, h.2.2.2⟩
theorem MI_beg {y : YS} {c : Nat} (h : MI y) (hc : c < 4) : MI (begY c y) := by
  refine ⟨h.1, fun j => ?_, ?_, h.2.2.2⟩
  · show va_up _ _ _ j < 4; unfold va_up; split; exact hc; exact h.2.1 j
  · exact wOk_rig (wOk_rig (wOk_nmW h.2.2.1 _) (by omega) (by have := h.1; omega) (by decide)) (by omega) (by omega) (by decide)
theorem MI_ret {y : YS} (h : MI y) : MI (retY y) := ⟨by show zD y - 1 < 8; have := h.1; omega, h.2.1, wOk_ret h.2.2.1, h.2.2.2⟩
theorem MI_rnd {y : YS} {b t : Nat} (h : MI y) (hb : b ≤ t) (h2 : t < 300) : MI (rndY b t y) := by
  have hU := unitOf_isU b t
  have hd := dn_le b (unitOf b t)
  have hu := up_lt t (unitOf b t) (by rcases hU with h | h | h | h | h <;> omega)
  refine ⟨h.1, h.2.1, h.2.2.1, ⟨?_, ?_⟩, h.2.2.2.2⟩
  · show dn b (unitOf b t) < 1000; omega
  · show up t (unitOf b t) < 1000
    rcases hU with h | h | h | h | h <;> omega
/-- the least n at which P holds, and 0 if there is none -/
theorem lsN_ex (P : Nat → Bool) : ∃ z : Nat, ∀ n, P n = true → (∀ j, j < n → P j = false) → z = n := by
  by_cases h : ∃ n, P n = true ∧ ∀ j, j < n → P j = false
  · obtain ⟨n, h1, h2⟩ := h
    refine ⟨n, fun m q1 q2 => ?_⟩
    rcases Nat.lt_trichotomy n m with e | e | e
    · rw [q2 n e] at h1; exact absurd h1 (by decide)
    · exact e
    · rw [h2 m e] at q1; exact absurd q1 (by decide)
  · exact ⟨0, fun n q1 q2 => absurd ⟨n, q1, q2⟩ h⟩
noncomputable def lsN (P : Nat → Bool) : Nat := Classical.choose (lsN_ex P)
theorem lsN_eq {P : Nat → Bool} {n : Nat} (h1 : P n = true) (h2 : ∀ j, j < n → P j = false) : lsN P = n := Classical.choose_spec (lsN_ex P) n h1 h2
/-! the measure of the sweeps -/
def mesR (r : R1) : Nat := cntF (fun q => !r.1 q) 96 + cntF (fun q => !r.2 q) 96
theorem cntM_le {p q : Nat → Bool} (h : ∀ j, q j = true → p j = true) : ∀ n, cntF q n ≤ cntF p n
  | 0 => Nat.le_refl _
  | n + 1 => by
    have := cntM_le h n
    have hn := h n
    unfold cntF
    cases e1 : q n
    · cases e2 : p n <;> simp <;> omega
    · rw [hn e1]; simp; omega
theorem cntM_lt {p q : Nat → Bool} (h : ∀ j, q j = true → p j = true) {i : Nat} (h1 : p i = true) (h2 : q i = false) : ∀ n, i < n → cntF q n < cntF p n
  | 0, hi => absurd hi (Nat.not_lt_zero _)
  | n + 1, hi => by
    unfold cntF
    by_cases e : i = n
    · subst e
      have := cntM_le h i
      rw [h1, h2]; simp; omega
    · have := cntM_lt h h1 h2 n (by omega)
      have hn := h n
      cases e1 : q n
      · cases e2 : p n <;> simp <;> omega
      · rw [hn e1]; simp; omega
/-- r' holds all that r holds -/
def leR (r r' : R1) : Prop := (∀ j, r.1 j = true → r'.1 j = true) ∧ (∀ j, r.2 j = true → r'.2 j = true)
theorem leR.rfl' (r : R1) : leR r r := ⟨fun _ h => h, fun _ h => h⟩
theorem leR.tr {a b c : R1} (h : leR a b) (h2 : leR b c) : leR a c := ⟨fun j q => h2.1 j (h.1 j q), fun j q => h2.2 j (h.2 j q)⟩
theorem leR_mes {a b : R1} (h : leR a b) : mesR b ≤ mesR a := by
  unfold mesR
  have h1 := cntM_le (p := fun q => !a.1 q) (q := fun q => !b.1 q) (fun j q => by have := h.1 j; cases e : a.1 j <;> simp_all) 96
  have h2 := cntM_le (p := fun q => !a.2 q) (q := fun q => !b.2 q) (fun j q => by have := h.2 j; cases e : a.2 j <;> simp_all) 96
  omega
theorem leR_mes1 {a b : R1} {i : Nat} (h : leR a b) (hi : i < 96) (h1 : a.1 i = false) (h2 : b.1 i = true) : mesR b < mesR a := by
  unfold mesR
  have h3 := cntM_lt (p := fun q => !a.1 q) (q := fun q => !b.1 q) (fun j q => by have := h.1 j; cases e : a.1 j <;> simp_all) (i := i) (by simp [h1]) (by simp [h2]) 96 hi
  have h4 := cntM_le (p := fun q => !a.2 q) (q := fun q => !b.2 q) (fun j q => by have := h.2 j; cases e : a.2 j <;> simp_all) 96
  omega
theorem leR_mes2 {a b : R1} {i : Nat} (h : leR a b) (hi : i < 96) (h1 : a.2 i = false) (h2 : b.2 i = true) : mesR b < mesR a := by
  unfold mesR
  have h3 := cntM_le (p := fun q => !a.1 q) (q := fun q => !b.1 q) (fun j q => by have := h.1 j; cases e : a.1 j <;> simp_all) 96
  have h4 := cntM_lt (p := fun q => !a.2 q) (q := fun q => !b.2 q) (fun j q => by have := h.2 j; cases e : a.2 j <;> simp_all) (i := i) (by simp [h1]) (by simp [h2]) 96 hi
  omega
def up2 (r : R2) : R1 := (r.1, r.2.1)
theorem tkF_s (g : Bool) (b k : Nat) (r : R2) : tkF g b (k + 1) r = (va_up (tkF g b k r).1 (b + k) true, va_up (tkF g b k r).2.1 (b + k) ((tkF g b k r).2.1 (b + k) || g), (tkF g b k r).2.2 || (!(tkF g b k r).1 (b + k) || (g && !(tkF g b k r).2.1 (b + k)))) := rfl
theorem tkF_le (g : Bool) (b : Nat) (r : R2) : ∀ k, leR (up2 r) (up2 (tkF g b k r))
  | 0 => leR.rfl' _
  | k + 1 => by
    refine (tkF_le g b r k).tr ⟨fun j q => ?_, fun j q => ?_⟩
    · show va_up _ _ _ j = true; unfold va_up; split; rfl; exact q
    · show va_up _ _ _ j = true; unfold va_up; split
      · rename_i e; subst e; rw [show (tkF g b k r).2.1 (b + k) = true from q]; rfl
      · exact q
theorem tkF_mes (g : Bool) (b : Nat) (r : R2) (hr : r.2.2 = false) : ∀ k, b + k ≤ 96 → (tkF g b k r).2.2 = true → mesR (up2 (tkF g b k r)) < mesR (up2 r)
  | 0, _, h => by rw [show (tkF g b 0 r).2.2 = r.2.2 from rfl, hr] at h; exact absurd h (by decide)
  | k + 1, hk, h => by
    have hst : leR (up2 (tkF g b k r)) (up2 (tkF g b (k + 1) r)) := by
      refine ⟨fun j q => ?_, fun j q => ?_⟩
      · show va_up _ _ _ j = true; unfold va_up; split; rfl; exact q
      · show va_up _ _ _ j = true; unfold va_up; split
        · rename_i e; subst e; rw [show (tkF g b k r).2.1 (b + k) = true from q]; rfl
        · exact q
    have h' : ((tkF g b k r).2.2 || (!(tkF g b k r).1 (b + k) || (g && !(tkF g b k r).2.1 (b + k)))) = true := h
    cases e : (tkF g b k r).2.2
    · rw [e, Bool.false_or] at h'
      have hl := leR_mes (tkF_le g b r k)
      cases e1 : (tkF g b k r).1 (b + k)
      · exact Nat.lt_of_lt_of_le (leR_mes1 hst (i := b + k) (by omega) e1 (by show va_up _ _ _ _ = true; rw [va_eq])) hl
      · rw [e1] at h'
        have h2 : g = true ∧ (tkF g b k r).2.1 (b + k) = false := by cases g <;> simp_all
        exact Nat.lt_of_lt_of_le (leR_mes2 hst (i := b + k) (by omega) h2.2 (by show va_up _ _ _ _ = true; rw [va_eq, h2.2, h2.1]; rfl)) hl
    · exact Nat.lt_of_le_of_lt (leR_mes hst) (tkF_mes g b r hr k (by omega) e)
theorem takR_le (w : WW) (s : Nat) (e f : Nat → Bool) : leR (e, f) (up2 (takR w s e f)) := by
  unfold takR; split
  · exact tkF_le _ _ (e, f, false) _
  · exact leR.rfl' _
theorem takR_mes {w : WW} {s : Nat} {e f : Nat → Bool} (hw : wOk w) (h : (takR w s e f).2.2 = true) : mesR (up2 (takR w s e f)) < mesR (e, f) := by
  unfold takR at h ⊢
  split at h
  · rename_i q; rw [if_pos q]
    have hr : w.1 s = true := by unfold rdW at q; exact (Bool.and_eq_true _ _ ▸ q).1
    have := (hw s).2.2.2.2 hr
    exact tkF_mes _ _ (e, f, false) rfl _ (by omega) h
  · exact Bool.noConfusion h
theorem swF_le (w : WW) (sa : Nat → Nat) (r : R1) : ∀ q, leR r (up2 (swF w sa q r))
  | 0 => leR.rfl' _
  | q + 1 => by
    unfold swF; split
    · exact (swF_le w sa r q).tr (takR_le w q _ _)
    · exact swF_le w sa r q
theorem swF_mes {w : WW} {sa : Nat → Nat} {r : R1} (hw : wOk w) : ∀ q, (swF w sa q r).2.2 = true → mesR (up2 (swF w sa q r)) < mesR r
  | 0, h => Bool.noConfusion h
  | q + 1, h => by
    unfold swF at h ⊢
    split at h
    · rename_i e; rw [if_pos e]
      have h' : ((takR w q (swF w sa q r).1 (swF w sa q r).2.1).2.2 || (swF w sa q r).2.2) = true := h
      have hl := leR_mes (takR_le w q (swF w sa q r).1 (swF w sa q r).2.1)
      have hl2 := leR_mes (swF_le w sa r q)
      cases e2 : (swF w sa q r).2.2
      · rw [e2, Bool.or_false] at h'
        exact Nat.lt_of_lt_of_le (takR_mes hw h') hl2
      · exact Nat.lt_of_le_of_lt hl (swF_mes hw q e2)
    · rename_i e; rw [if_neg e]; exact swF_mes hw q h
/-! reach of a compartment, and the marks -/
noncomputable def inR0 (y : YS) (c : Nat) : R1 := dpR y.1 (zR y) c (zD y + 1) (iniR (zD y) (zR y) c 96 (zE y), iniR (zD y) (zR y) c 96 (zG y))
noncomputable def finN (y : YS) (c : Nat) : Nat := lsN (fun n => !(itF y.1 (zA y) n (inR0 y c)).2.2)
noncomputable def finR (y : YS) (c : Nat) : R2 := itF y.1 (zA y) (finN y c) (inR0 y c)
def setE (e f : Nat → Bool) (y : YS) : YS := (y.1, y.2.1, y.2.2.1, (e, f, zV y), zK y)
noncomputable def finY (c : Nat) (y : YS) : YS := setE (finR y c).1 (finR y c).2.1 y
def evF (v e : Nat → Bool) (c : Nat) : Nat → Nat → Bool
  | 0 => v
  | q + 1 => va_up (evF v e c q) (96 * c + q) (evF v e c q (96 * c + q) || e q)
def setV (v : Nat → Bool) (y : YS) : YS := (y.1, y.2.1, y.2.2.1, (zE y, zG y, v), zK y)
theorem ev_ex (v e : Nat → Bool) (c : Nat) : ∃ z : Nat → Bool, z = evF v e c 96 := ⟨_, rfl⟩
noncomputable def evX (v e : Nat → Bool) (c : Nat) : Nat → Bool := Classical.choose (ev_ex v e c)
theorem evX_eq (v e : Nat → Bool) (c : Nat) : evX v e c = evF v e c 96 := Classical.choose_spec (ev_ex v e c)
noncomputable def mkN4 (y : YS) : Nat → YS
  | 0 => y
  | c + 1 => setV (evX (zV (finY c (mkN4 y c))) (zE (finY c (mkN4 y c))) c) (finY c (mkN4 y c))
theorem mkN4_s (y : YS) (c : Nat) : mkN4 y (c + 1) = setV (evF (zV (finY c (mkN4 y c))) (zE (finY c (mkN4 y c))) c 96) (finY c (mkN4 y c)) := congrArg (fun v => setV v (finY c (mkN4 y c))) (evX_eq _ _ _)
theorem mkN4_ex (y : YS) : ∃ z : YS, z = mkN4 y 4 := ⟨_, rfl⟩
noncomputable def mk4 (y : YS) : YS := Classical.choose (mkN4_ex y)
theorem mk4_eq (y : YS) : mk4 y = mkN4 y 4 := Classical.choose_spec (mkN4_ex y)
theorem mkN4_MI {y : YS} (h : MI y) : ∀ c, MI (mkN4 y c)
  | 0 => h
  | c + 1 => mkN4_MI h c
theorem mkN4_12 (y : YS) : ∀ c, (mkN4 y c).1 = y.1 ∧ (mkN4 y c).2.1 = y.2.1 ∧ (mkN4 y c).2.2.1 = y.2.2.1 ∧ zK (mkN4 y c) = zK y
  | 0 => ⟨rfl, rfl, rfl, rfl⟩
  | c + 1 => mkN4_12 y c
theorem MI_mk {y : YS} (h : MI y) : MI (mk4 y) := by rw [mk4_eq]; exact mkN4_MI h 4
/-! traps -/
def kuY (c : Nat) (y : YS) : YS := (y.1, y.2.1, y.2.2.1, y.2.2.2.1, va_up (zK y) (cIx c) (zK y (cIx c) + 1))
def fl0 (c : Nat) (y : YS) : YS := if zD y = 0 then begY (zR y 0) (onW (numW (slA y 1) (nI 0)) (onW (numW (slA y 0) (nI 0)) (kuY c y))) else retY (onW (numW (96 + 8 * (zD y - 1) + 0) (-1)) (kuY c y))
noncomputable def falY (c : Nat) (y : YS) : YS := mk4 (fl0 c y)
theorem MI_onW {y : YS} {f : WW → WW} (h : MI y) (hw : wOk (f y.1)) : MI (onW f y) := MI_w h hw
theorem MI_fl0 {y : YS} {c : Nat} (h : MI y) : MI (fl0 c y) := by
  unfold fl0; split
  · exact MI_beg (MI_onW (y := onW (numW (slA y 0) (nI 0)) (kuY c y)) (MI_onW (y := kuY c y) h (wOk_num h.2.2.1)) (wOk_num (wOk_num h.2.2.1))) (h.2.1 0)
  · exact MI_ret (MI_onW (y := kuY c y) h (wOk_num h.2.2.1))
theorem MI_fal {y : YS} {c : Nat} (h : MI y) : MI (falY c y) := MI_mk (MI_fl0 h)
theorem trF_cz {w : WW} {s m : Nat} (h : trF w s m ≠ 45) : isCz (trF w s m) := by
  unfold trF isCz at *
  split
  · exact Or.inl rfl
  · split
    · split
      · rename_i a b c; rw [if_neg a, if_pos b, if_pos c] at h; exact absurd rfl h
      · exact Or.inr (Or.inr (Or.inl rfl))
    · exact Or.inr (Or.inl rfl)
theorem trF_lt (w : WW) (s m : Nat) : trF w s m < 128 := by
  by_cases h : trF w s m = 45
  · omega
  · exact isCz_lt (trF_cz h)
theorem trF_r {w : WW} {s m : Nat} (h : trF w s m = 45) : w.1 s = true := by
  unfold trF at h
  cases e : w.1 s
  · rw [if_pos e] at h; omega
  · rfl
theorem fl0_0 {c : Nat} {y : YS} (h : zD y = 0) : fl0 c y = begY (zR y 0) (onW (numW (slA y 1) (nI 0)) (onW (numW (slA y 0) (nI 0)) (kuY c y))) := if_pos h
theorem fl0_1 {c : Nat} {y : YS} (h : zD y ≠ 0) : fl0 c y = retY (onW (numW (96 + 8 * (zD y - 1) + 0) (-1)) (kuY c y)) := if_neg h
theorem rdW_r {w : WW} {s : Nat} (h : rdW w s = true) : w.1 s = true := by unfold rdW at h; exact (Bool.and_eq_true _ _ ▸ h).1
def tkN (w : WW) (s : Nat) : Nat := if rdW w s = true then w.2.2.2.1 s - w.2.2.1 s else 0
theorem tk_end1 {w : WW} {s k : Nat} {e f : Nat → Bool} (h : rdW w s = false) (hk : k ≤ tkN w s) : takR w s e f = tkF (gdW w s) (w.2.2.1 s) k (e, f, false) := by
  unfold tkN at hk
  rw [if_neg (by rw [h]; exact Bool.noConfusion)] at hk
  obtain rfl : k = 0 := by omega
  unfold takR; rw [if_neg (by rw [h]; exact Bool.noConfusion)]; rfl
theorem tk_end2 {w : WW} {s k : Nat} {e f : Nat → Bool} (h : rdW w s = true) (hk : k ≤ tkN w s) (hk2 : w.2.2.2.1 s ≤ w.2.2.1 s + k) : takR w s e f = tkF (gdW w s) (w.2.2.1 s) k (e, f, false) := by
  unfold tkN at hk
  rw [if_pos h] at hk
  obtain rfl : k = w.2.2.2.1 s - w.2.2.1 s := by omega
  unfold takR; rw [if_pos h]
theorem tkN_s {w : WW} {s k : Nat} (h : rdW w s = true) (hk : w.2.2.1 s + k < w.2.2.2.1 s) : k + 1 ≤ tkN w s := by
  unfold tkN; rw [if_pos h]; omega
theorem dpR_1 {w : WW} {ru : Nat → Nat} {c d : Nat} {r : R1} (h : ru d = c) : dpR w ru c (d + 1) r = rgR w d 8 (dpR w ru c d r) := (if_pos h).trans (rgX_eq w d _)
theorem dpR_0 {w : WW} {ru : Nat → Nat} {c d : Nat} {r : R1} (h : ru d ≠ c) : dpR w ru c (d + 1) r = dpR w ru c d r := if_neg h
theorem swF_1 {w : WW} {sa : Nat → Nat} {q : Nat} {r : R1} (h : mayR w sa (swF w sa q r).2.1 q = true) : swF w sa (q + 1) r = ((takR w q (swF w sa q r).1 (swF w sa q r).2.1).1, (takR w q (swF w sa q r).1 (swF w sa q r).2.1).2.1, (takR w q (swF w sa q r).1 (swF w sa q r).2.1).2.2 || (swF w sa q r).2.2) := if_pos h
theorem swF_0 {w : WW} {sa : Nat → Nat} {q : Nat} {r : R1} (h : mayR w sa (swF w sa q r).2.1 q = false) : swF w sa (q + 1) r = swF w sa q r := if_neg (by rw [h]; exact Bool.noConfusion)
theorem itF_s (w : WW) (sa : Nat → Nat) (n : Nat) (r : R1) : itF w sa (n + 1) r = swF w sa 96 ((itF w sa n r).1, (itF w sa n r).2.1) := swX_eq _ _ _
def msR (r : R2) : Nat := if r.2.2 = true then mesR (up2 r) + 1 else 0
theorem msR_dec {w : WW} {sa : Nat → Nat} {n : Nat} {r : R1} (hw : wOk w) (h : (itF w sa n r).2.2 = true) : msR (itF w sa (n + 1) r) < msR (itF w sa n r) := by
  have e : msR (itF w sa n r) = mesR (up2 (itF w sa n r)) + 1 := if_pos h
  have e2 : ∀ z, (swF w sa z ((itF w sa n r).1, (itF w sa n r).2.1)).2.2 = true → mesR (up2 (swF w sa z ((itF w sa n r).1, (itF w sa n r).2.1))) < mesR (up2 (itF w sa n r)) := fun z => swF_mes hw z
  rw [e, itF_s]
  have e3 := e2 96
  unfold msR
  split
  · rename_i q
    exact Nat.succ_lt_succ (e3 q)
  · omega
theorem finN_eq {y : YS} {c n : Nat} (h : (itF y.1 (zA y) n (inR0 y c)).2.2 = false) (hn : ∀ j, j < n → (itF y.1 (zA y) j (inR0 y c)).2.2 = true) : finN y c = n := lsN_eq (by rw [h]; rfl) (fun j hj => by rw [hn j hj]; rfl)
theorem tk_b {w : WW} {s k : Nat} (hw : wOk w) (hk : k ≤ tkN w s) : w.2.2.1 s + k < 2147483648 := by
  have h1 := (hw s).1
  have h2 := (hw s).2.1
  unfold tkN at hk
  split at hk <;> omega
