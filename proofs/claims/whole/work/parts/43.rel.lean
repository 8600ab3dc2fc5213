/-! the class's state beside the model's -/
def wr (w : Int64) (v : WW) (s : Nat) : Prop := (v.1 s = false → w = mkN (v.2.1 s)) ∧ (v.1 s = true → w = mkR (v.2.2.1 s) (v.2.2.2.1 s) (v.2.1 s) (v.2.2.2.2.1 s) (v.2.2.2.2.2 s) ∧ ((v.2.2.1 s : Int) - 8 ≤ (v.2.1 s).toInt ∧ (v.2.1 s).toInt ≤ (v.2.2.2.1 s : Int) + 8))
def rgk (y : YS) (b t : Nat) : Prop := t ≤ 32 ∨ (∃ d, d ≤ zD y ∧ 32 + 4 * d ≤ b ∧ t ≤ 32 + 4 * d + 4) ∨ (64 ≤ b ∧ zA y b ≠ 102 ∧ t ≤ zF y b + zM y b)
def hok (y : YS) : Prop := ∀ q, 64 ≤ q → q < 96 → zA y q ≠ 102 → (64 ≤ zF y q ∧ zF y q ≤ q ∧ q < zF y q + zM y q ∧ zF y q + zM y q ≤ 96) ∧ ∀ j, zF y q ≤ j → j < zF y q + zM y q → zA y j = zA y q ∧ zF y j = zF y q ∧ zM y j = zM y q
def blkR (s f q m : Nat) : Nat := if s = 103 ∧ f = q then q + m else 0
theorem blkR_1 {s f q m : Nat} (h1 : s = 103) (h2 : f = q) : blkR s f q m = q + m := if_pos ⟨h1, h2⟩
theorem blkR_0 {s f q m : Nat} (h : ¬ (s = 103 ∧ f = q)) : blkR s f q m = 0 := if_neg h
def gds (y : YS) (v : WW) (s : Nat) : Prop := v.1 s = true → exactB (v.2.2.1 s) (v.2.2.2.1 s) = true ∧ rgk y (v.2.2.1 s) (v.2.2.2.1 s)
def sok (y : YS) : Prop := ∀ s, s < 96 + 8 * zD y + 8 → gds y y.1 s
def RD (x : CS) (y : YS) : Prop := zD y = sP x ∧ ∀ d, d ≤ sP x → sC x d = zR y d
def RQ (x : CS) (y : YS) : Prop := ∀ c, c < 4 → sQ x c = zQ y c
def RW (x : CS) (y : YS) : Prop := (∀ s, s < 96 → wr (sM x s) y.1 s) ∧ ∀ j, j < (sP x + 1) * 8 → wr (sR x j) y.1 (96 + j)
def RH (x : CS) (y : YS) : Prop := (∀ q, q < 96 → stA (sS x) q = zA y q) ∧ (∀ i, i < 32 → sS x i ≠ 102 → sO x i = zO y (64 + i)) ∧ (∀ c, c < 4 → sN x c = nI (cntF (ownP (sS x) (sO x) c) 32)) ∧ ∀ i, i < 32 → sB x i = blkR (sS x i) (zF y (64 + i)) (64 + i) (zM y (64 + i))
def RK (x : CS) (y : YS) : Prop := ∀ k, k < 9 → sK x k = zK y k
def RV (x : CS) (y : YS) : Prop := ∀ c q, c < 4 → q < 96 → bt (sT x).2 c q = zV y (96 * c + q)
def Rel0 (x : CS) (y : YS) : Prop := RD x y ∧ RQ x y ∧ RW x y ∧ RH x y ∧ RK x y ∧ RV x y ∧ hok y ∧ sok y
def RR (x : CS) (y : YS) : Prop := ∀ c q, c < 4 → q < 128 → (bt (sT x).1.1 c q = true ↔ RCM y c q)
def Sim (x : CS) (y : YS) : Prop := Iv x ∧ MI y ∧ Rel0 x y ∧ RR x y
/-! a word and a slot -/
section WRs
variable {w : Int64} {v : WW} {s : Nat}
theorem wr_M (hw : wOk v) (h : wr w v s) : wM w = v.1 s := by
  have k := hw s
  cases e : v.1 s
  · rw [h.1 e, wM_mkN]
  · have k5 := k.2.2.2.2 e
    rw [(h.2 e).1, wM_mkR (by omega) (by omega) k.2.2.1 k.2.2.2.1]
theorem wr_N (hw : wOk v) (h : wr w v s) : wN w = v.2.1 s := by
  have k := hw s
  cases e : v.1 s
  · rw [h.1 e, wN_mkN]
  · have k5 := k.2.2.2.2 e
    rw [(h.2 e).1, wN_mkR (by omega) (by omega) k.2.2.1 k.2.2.2.1]
theorem wr_r (hw : wOk v) (h : wr w v s) (e : v.1 s = true) : wB w = v.2.2.1 s ∧ wT w = v.2.2.2.1 s ∧ wP w = v.2.2.2.2.1 s ∧ wS w = v.2.2.2.2.2 s := by
  have k := hw s
  have k5 := k.2.2.2.2 e
  rw [(h.2 e).1, wB_mkR (by omega) (by omega) k.2.2.1 k.2.2.2.1, wT_mkR (by omega) (by omega) k.2.2.1 k.2.2.2.1, wP_mkR (by omega) (by omega) k.2.2.1 k.2.2.2.1, wS_mkR (by omega) (by omega) k.2.2.1 k.2.2.2.1]
  exact ⟨rfl, rfl, rfl, rfl⟩
theorem bit12 : ∀ p, p < 128 → (decide (p &&& 1 = 1) || decide (p &&& 2 = 2)) = !decide (p &&& 3 = 0) := by decide +kernel
theorem bit5 : ∀ p, p < 128 → p &&& 5 = 5 → ¬ p &&& 3 = 0 := by decide +kernel
theorem wr_rd (hw : wOk v) (h : wr w v s) : rwW w = rdW v s := by
  unfold rwW okW rdW
  rw [wr_M hw h]
  cases e : v.1 s
  · rfl
  · obtain ⟨_, _, h3, h4⟩ := wr_r hw h e
    rw [h3, h4, bit12 _ (hw s).2.2.1]; rfl
theorem wr_gd (hw : wOk v) (h : wr w v s) : goW w = gdW v s := by
  unfold goW okW gdW rdW
  rw [wr_M hw h]
  cases e : v.1 s
  · rfl
  · obtain ⟨_, _, h3, h4⟩ := wr_r hw h e
    rw [h3, h4]
    have hb := bit5 _ (hw s).2.2.1
    by_cases h5 : v.2.2.2.2.1 s &&& 5 = 5
    · have := hb h5; simp [h5, this]
    · simp [h5]
theorem wr_in (hw : wOk v) (h : wr w v s) (e : v.1 s = true) (q : Nat) : rgW w q ↔ inS v s q := by
  obtain ⟨h1, h2, _⟩ := wr_r hw h e
  unfold rgW inS; rw [h1, h2]
theorem wr_num (n : Int32) (v : WW) (s : Nat) : wr (mkN n) (numW s n v) s := by
  refine ⟨fun _ => ?_, fun e => ?_⟩
  · show mkN n = mkN (upd v.2.1 s n s); unfold upd; rw [if_pos rfl]
  · have : va_up v.1 s false s = true := e
    rw [va_eq] at this; exact absurd this (by decide)
theorem upd_eq (f : Nat → Int32) (i : Nat) (v : Int32) : upd f i v i = v := by unfold upd; rw [if_pos rfl]
theorem upd_ne (f : Nat → Int32) {i j : Nat} (v : Int32) (h : j ≠ i) : upd f i v j = f j := by unfold upd; rw [if_neg h]
theorem mkR_wRt {b t p z : Nat} {a : Int32} (h : (b : Int) - 8 ≤ a.toInt ∧ a.toInt ≤ (t : Int) + 8) : wRt b t a p z = mkR b t a p z := by
  unfold wRt; rw [if_neg (by omega)]
theorem wr_rig {b t p : Nat} (v : WW) (s : Nat) (h : b ≤ t) (ht : t ≤ 96) : wr (wRt b t (nI b) p 0) (rigW s b t p v) s := by
  refine ⟨fun e => ?_, fun _ => ?_⟩
  · have : va_up v.1 s true s = false := e
    rw [va_eq] at this; exact absurd this (by decide)
  · show wRt b t (nI b) p 0 = mkR (va_up v.2.2.1 s b s) (va_up v.2.2.2.1 s t s) (upd v.2.1 s (nI b) s) (va_up v.2.2.2.2.1 s p s) (va_up v.2.2.2.2.2 s 0 s) ∧ ((va_up v.2.2.1 s b s : Nat) : Int) - 8 ≤ (upd v.2.1 s (nI b) s).toInt ∧ (upd v.2.1 s (nI b) s).toInt ≤ ((va_up v.2.2.2.1 s t s : Nat) : Int) + 8
    simp only [va_eq, upd_eq]
    have e : (nI b).toInt = b := nI_toInt (by omega)
    exact ⟨mkR_wRt (by omega), by omega, by omega⟩
theorem wr_cop {a b : Nat} (h : wr w v a) : wr w (copW a b v) b := by
  unfold wr
  show (va_up v.1 b (v.1 a) b = false → w = mkN (upd v.2.1 b (v.2.1 a) b)) ∧ (va_up v.1 b (v.1 a) b = true → w = mkR (va_up v.2.2.1 b (v.2.2.1 a) b) (va_up v.2.2.2.1 b (v.2.2.2.1 a) b) (upd v.2.1 b (v.2.1 a) b) (va_up v.2.2.2.2.1 b (v.2.2.2.2.1 a) b) (va_up v.2.2.2.2.2 b (v.2.2.2.2.2 a) b) ∧ ((va_up v.2.2.1 b (v.2.2.1 a) b : Nat) : Int) - 8 ≤ (upd v.2.1 b (v.2.1 a) b).toInt ∧ (upd v.2.1 b (v.2.1 a) b).toInt ≤ ((va_up v.2.2.2.1 b (v.2.2.2.1 a) b : Nat) : Int) + 8)
  simp only [va_eq, upd_eq]
  exact h
end WRs
/-- v' is v but at s -/
def chg (v v' : WW) (s : Nat) : Prop := ∀ j, j ≠ s → v'.1 j = v.1 j ∧ v'.2.1 j = v.2.1 j ∧ v'.2.2.1 j = v.2.2.1 j ∧ v'.2.2.2.1 j = v.2.2.2.1 j ∧ v'.2.2.2.2.1 j = v.2.2.2.2.1 j ∧ v'.2.2.2.2.2 j = v.2.2.2.2.2 j
theorem chg.tr {v v' v'' : WW} {s : Nat} (h : chg v v' s) (h' : chg v' v'' s) : chg v v'' s := fun j hj => by
  obtain ⟨a1, a2, a3, a4, a5, a6⟩ := h j hj
  obtain ⟨b1, b2, b3, b4, b5, b6⟩ := h' j hj
  exact ⟨b1.trans a1, b2.trans a2, b3.trans a3, b4.trans a4, b5.trans a5, b6.trans a6⟩
theorem chg_num (s : Nat) (n : Int32) (v : WW) : chg v (numW s n v) s := fun _ hj => ⟨va_ne _ _ hj, upd_ne _ _ hj, rfl, rfl, rfl, rfl⟩
theorem chg_rig (s b t p : Nat) (v : WW) : chg v (rigW s b t p v) s := fun _ hj => ⟨va_ne _ _ hj, upd_ne _ _ hj, va_ne _ _ hj, va_ne _ _ hj, va_ne _ _ hj, va_ne _ _ hj⟩
theorem chg_cop (a s : Nat) (v : WW) : chg v (copW a s v) s := fun _ hj => ⟨va_ne _ _ hj, upd_ne _ _ hj, va_ne _ _ hj, va_ne _ _ hj, va_ne _ _ hj, va_ne _ _ hj⟩
theorem chg_per (s p : Nat) (v : WW) : chg v (perW s p v) s := fun _ hj => ⟨rfl, rfl, rfl, rfl, va_ne _ _ hj, rfl⟩
theorem chg_sel (s p : Nat) (v : WW) : chg v (selW s p v) s := fun _ hj => ⟨rfl, rfl, rfl, rfl, rfl, va_ne _ _ hj⟩
theorem chg_isr (s : Nat) (b : Bool) (v : WW) : chg v (isrW s b v) s := fun _ hj => ⟨va_ne _ _ hj, rfl, rfl, rfl, rfl, rfl⟩
theorem chg_nbr (s : Nat) (n : Int32) (v : WW) : chg v (nbrW s n v) s := fun _ hj => ⟨rfl, upd_ne _ _ hj, rfl, rfl, rfl, rfl⟩
theorem wr_chg {w : Int64} {v v' : WW} {s j : Nat} (h : chg v v' s) (hj : j ≠ s) (hw : wr w v j) : wr w v' j := by
  obtain ⟨a1, a2, a3, a4, a5, a6⟩ := h j hj
  unfold wr; rw [a1, a2, a3, a4, a5, a6]; exact hw
theorem gds_chg {y : YS} {v v' : WW} {s j : Nat} (h : chg v v' s) (hj : j ≠ s) (hw : gds y v j) : gds y v' j := by
  obtain ⟨a1, a2, a3, a4, a5, a6⟩ := h j hj
  unfold gds; rw [a1, a3, a4]; exact hw
section LS
variable {x : CS} {y : YS}
theorem reg_sim (hR : Rel0 x y) {u : Nat} {w : Int64} {v' : WW} (hu : u < 8) (hc : chg y.1 v' (96 + 8 * zD y + u)) (hw : wr w v' (96 + 8 * zD y + u)) (hg : gds y v' (96 + 8 * zD y + u)) : Rel0 (setR (vp_updL (sR x) (sP x * 8 + u) w) x) (v', y.2) := by
  obtain ⟨h1, h2, h3, h4, h5, h6, h7, h8⟩ := hR
  have hd := h1.1
  refine ⟨h1, h2, ⟨fun s hs => wr_chg hc (by omega) (h3.1 s hs), fun j hj => ?_⟩, h4, h5, h6, h7, fun s hs => ?_⟩
  · show wr (if j = sP x * 8 + u then w else sR x j) v' (96 + j)
    by_cases e : j = sP x * 8 + u
    · rw [if_pos e, show 96 + j = 96 + 8 * zD y + u by omega]; exact hw
    · rw [if_neg e]; exact wr_chg hc (by omega) (h3.2 j hj)
  · by_cases e : s = 96 + 8 * zD y + u
    · subst e; exact hg
    · exact gds_chg hc e (h8 s hs)
theorem mem_sim (hR : Rel0 x y) {q : Nat} {w : Int64} {v' : WW} (hq : q < 96) (hc : chg y.1 v' q) (hw : wr w v' q) (hg : gds y v' q) : Rel0 (setM (vp_updL (sM x) q w) x) (v', y.2) := by
  obtain ⟨h1, h2, h3, h4, h5, h6, h7, h8⟩ := hR
  refine ⟨h1, h2, ⟨fun s hs => ?_, fun j hj => wr_chg hc (by omega) (h3.2 j hj)⟩, h4, h5, h6, h7, fun s hs => ?_⟩
  · show wr (if s = q then w else sM x s) v' s
    by_cases e : s = q
    · rw [if_pos e]; subst e; exact hw
    · rw [if_neg e]; exact wr_chg hc e (h3.1 s hs)
  · by_cases e : s = q
    · subst e; exact hg
    · exact gds_chg hc e (h8 s hs)
/-! reach is the same on both sides -/
theorem rc_own (hR : Rel0 x y) (hM : MI y) {c : Nat} (hc : c < 4) : oC c (sC x) (sP x) = oM y c := by
  obtain ⟨⟨h1, h2⟩, _⟩ := hR
  have hd := hM.1
  funext q; apply propext
  unfold oC oM ownC rng
  constructor
  · rintro (h | ⟨d, d1, d2, h⟩)
    · exact ⟨by omega, by rw [if_pos (by omega)]; exact decide_eq_true (by omega)⟩
    · have e : (q - 32) / 4 = d := by omega
      refine ⟨by omega, ?_⟩
      rw [if_neg (by omega), e, ← h2 d d1, d2, decide_eq_true (by omega : q < 64), decide_eq_true (by omega : d ≤ zD y), decide_eq_true rfl]; rfl
  · rintro ⟨hq, h⟩
    by_cases e : q < 32
    · rw [if_pos e] at h
      have := of_decide_eq_true h
      left; omega
    · rw [if_neg e, Bool.and_eq_true, Bool.and_eq_true] at h
      have e1 := of_decide_eq_true h.1
      have e2 := of_decide_eq_true h.2.1
      have e3 := of_decide_eq_true h.2.2
      exact Or.inr ⟨(q - 32) / 4, by omega, by rw [h2 _ (by omega)]; exact e3, by omega, by omega⟩
theorem rc_reg (hR : Rel0 x y) (hM : MI y) {c : Nat} {X : Int64 → Bool} {Z : WW → Nat → Bool} (hX : ∀ w s, wr w y.1 s → X w = Z y.1 s) (hZ : ∀ s, Z y.1 s = true → y.1.1 s = true) : rgC X c (sC x) (sR x) (sP x) = rgM Z y c := by
  obtain ⟨⟨h1, h2⟩, _, ⟨_, h3⟩, _⟩ := hR
  funext q; apply propext
  unfold rgC rgM
  constructor
  · rintro ⟨d, d1, d2, r, r1, r2, r3⟩
    have hw := h3 (d * 8 + r) (by omega)
    rw [show 96 + (d * 8 + r) = 96 + 8 * d + r by omega] at hw
    have e := (hX _ _ hw) ▸ r2
    exact ⟨d, by omega, by rw [← h2 d d1]; exact d2, r, r1, e, (wr_in hM.2.2.1 hw (hZ _ e) q).mp r3⟩
  · rintro ⟨d, d1, d2, r, r1, r2, r3⟩
    have hw := h3 (d * 8 + r) (by omega)
    rw [show 96 + (d * 8 + r) = 96 + 8 * d + r by omega] at hw
    exact ⟨d, by omega, by rw [h2 d (by omega)]; exact d2, r, r1, (hX _ _ hw).trans r2, (wr_in hM.2.2.1 hw (hZ _ r2) q).mpr r3⟩
theorem rs_eq (hR : Rel0 x y) (hM : MI y) {w : Int64} {s : Nat} (hw : wr w y.1 s) (e : y.1.1 s = true) : (stA (sS x) (wB w) = 114) ↔ rsW y.1 (zA y) s = true := by
  obtain ⟨_, _, _, ⟨h4, _⟩, _⟩ := hR
  have hb := (wr_r hM.2.2.1 hw e).1
  have hk := (hM.2.2.1 s).2.2.2.2 e
  rw [hb, h4 _ (by omega)]
  unfold rsW
  rw [decide_eq_true (by omega : y.1.2.2.1 s ≤ 95), Bool.true_and, decide_eq_true_eq]
theorem rc_edge (hR : Rel0 x y) (hM : MI y) {X : Int64 → Bool} {Z : WW → Nat → Bool} (hX : ∀ w s, wr w y.1 s → X w = Z y.1 s) : eC X (sM x) (sS x) = eM Z y := by
  have hR' := hR
  obtain ⟨_, _, ⟨h3, _⟩, _⟩ := hR
  funext a q; apply propext
  unfold eC eM
  constructor
  · rintro ⟨a1, a2, a3, a4, a5⟩
    have hw := h3 a a1
    have e : y.1.1 a = true := (wr_M hM.2.2.1 hw) ▸ a2
    refine ⟨a1, e, ?_, (hX _ _ hw) ▸ a4, (wr_in hM.2.2.1 hw e q).mp a5⟩
    cases z : rsW y.1 (zA y) a
    · rfl
    · exact absurd ((rs_eq hR' hM hw e).mpr z) a3
  · rintro ⟨a1, a2, a3, a4, a5⟩
    have hw := h3 a a1
    refine ⟨a1, (wr_M hM.2.2.1 hw).trans a2, fun z => ?_, (hX _ _ hw).trans a4, (wr_in hM.2.2.1 hw a2 q).mpr a5⟩
    rw [(rs_eq hR' hM hw a2).mp z] at a3; exact absurd a3 (by decide)
theorem rc_eq (hR : Rel0 x y) (hM : MI y) {c : Nat} (hc : c < 4) : RCC (sM x) (sC x) (sR x) (sP x) (sS x) c = RCM y c := by
  have e1 := fun w s => wr_rd (w := w) (s := s) hM.2.2.1
  have e2 := fun w s => wr_gd (w := w) (s := s) hM.2.2.1
  unfold RCC RCM
  rw [rc_own hR hM hc, rc_reg hR hM e1 (fun s => rdW_r), rc_reg hR hM e2 (fun s h => rdW_r (gd_rd h)), rc_edge hR hM e1, rc_edge hR hM e2]
theorem mk4_shape (y : YS) : ∃ e g v, mk4 y = (y.1, y.2.1, y.2.2.1, (e, g, v), zK y) := by
  obtain ⟨h1, h2, h3, h4⟩ := mk4_12 y
  refine ⟨zE (mk4 y), zG (mk4 y), zV (mk4 y), ?_⟩
  rw [← h1, ← h2, ← h3, ← h4]
theorem okw_of {w : Int64} (h : okV w) : okw w := fun e => ⟨(h e).1, (h e).2.1⟩
theorem nt_sim (hI : Iv x) (hM : MI y) (hR : Rel0 x y) : Sim (ntS x) (mk4 y) := by
  obtain ⟨hpr, hco, hst, how, hf, hrg, hqd, hbk⟩ := id hI
  have kf : ∀ j, j < 96 → okw (sM x j) := fun j hj => okw_of (okM.at hf hj)
  have kr : ∀ j, j < (sP x + 1) * 8 → okw (sR x j) := fun j hj => okw_of (okM.at hrg hj)
  have hnow : ∀ c q, c < 4 → q < 128 → (bt (nt4 (sM x) (sC x) (sR x) (sP x) (sS x) (sT x)).1.1 c q = true ↔ RCM y c q) := fun c q hc hq => by
    rw [nt4_now hpr kf kr _ hc hq, rc_eq hR hM hc]
  obtain ⟨h1, h2, h3, h4, h5, h6, h7, h8⟩ := id hR
  have m12 := mk4_12 y
  refine ⟨ntS_iv hI, MI_mk hM, ?_, fun c q hc hq => ?_⟩
  · have hV : RV (ntS x) (mk4 y) := fun c q hc hq => by
      show bt (nt4 (sM x) (sC x) (sR x) (sP x) (sS x) (sT x)).2 c q = _
      have a := nt4_ever hpr kf kr (sT x) (co := sC x) (st := sS x) hc (show q < 128 by omega)
      have b := mk4_V hM hc hq
      rw [a, h6 c q hc hq]
      have n := hnow c q hc (by omega)
      cases z : zV (mk4 y) (96 * c + q)
      · rw [z] at b
        cases z1 : zV y (96 * c + q)
        · cases z2 : bt (nt4 (sM x) (sC x) (sR x) (sP x) (sS x) (sT x)).1.1 c q
          · rfl
          · exact absurd (b.mpr (Or.inr (n.mp z2))) (by decide)
        · exact absurd (b.mpr (Or.inl z1)) (by decide)
      · rcases b.mp z with z1 | z1
        · rw [z1]; rfl
        · rw [n.mpr z1, Bool.or_true]
    obtain ⟨e, g, v, hs⟩ := mk4_shape y
    rw [hs] at hV ⊢
    exact ⟨h1, h2, h3, h4, h5, hV, h7, h8⟩
  · show bt (nt4 (sM x) (sC x) (sR x) (sP x) (sS x) (sT x)).1.1 c q = true ↔ _
    rw [hnow c q hc hq, RCM_eq (y := y) (y' := mk4 y) m12.1 (congrArg (fun z : CT => z.2.1) m12.2.1) (congrArg (fun z : CT => z.2.2.1) m12.2.1) (congrArg (fun z : HP => z.2.1) m12.2.2.1)]
/-! calls begin and end -/
theorem nmW_o (d : Nat) (w : WW) : ∀ k j, (nmW d k w).1 j = (if 96 + 8 * d + 2 ≤ j ∧ j < 96 + 8 * d + 2 + k then false else w.1 j) ∧ (nmW d k w).2.1 j = (if 96 + 8 * d + 2 ≤ j ∧ j < 96 + 8 * d + 2 + k then nI 0 else w.2.1 j) ∧ (nmW d k w).2.2 = w.2.2
  | 0, j => by rw [if_neg (by omega), if_neg (by omega)]; exact ⟨rfl, rfl, rfl⟩
  | k + 1, j => by
    obtain ⟨i1, i2, i3⟩ := nmW_o d w k j
    refine ⟨?_, ?_, i3⟩
    · show va_up (nmW d k w).1 (96 + 8 * d + (2 + k)) false j = _
      by_cases e : j = 96 + 8 * d + (2 + k)
      · subst e; rw [va_eq, if_pos (by omega)]
      · rw [va_ne _ _ e, i1]
        by_cases e2 : 96 + 8 * d + 2 ≤ j ∧ j < 96 + 8 * d + 2 + k
        · rw [if_pos e2, if_pos (by omega)]
        · rw [if_neg e2, if_neg (by omega)]
    · show upd (nmW d k w).2.1 (96 + 8 * d + (2 + k)) (nI 0) j = _
      by_cases e : j = 96 + 8 * d + (2 + k)
      · subst e; rw [upd_eq, if_pos (by omega)]
      · rw [upd_ne _ _ e, i2]
        by_cases e2 : 96 + 8 * d + 2 ≤ j ∧ j < 96 + 8 * d + 2 + k
        · rw [if_pos e2, if_pos (by omega)]
        · rw [if_neg e2, if_neg (by omega)]
theorem nmC_o (u : Nat) (w : WW) : ∀ k j, (nmC u k w).1 j = (if u ≤ j ∧ j < u + k then false else w.1 j) ∧ (nmC u k w).2.1 j = (if u ≤ j ∧ j < u + k then nI 0 else w.2.1 j)
  | 0, j => by rw [if_neg (by omega), if_neg (by omega)]; exact ⟨rfl, rfl⟩
  | k + 1, j => by
    obtain ⟨i1, i2⟩ := nmC_o u w k j
    refine ⟨?_, ?_⟩
    · show va_up (nmC u k w).1 (u + k) false j = _
      by_cases e : j = u + k
      · subst e; rw [va_eq, if_pos (by omega)]
      · rw [va_ne _ _ e, i1]
        by_cases e2 : u ≤ j ∧ j < u + k
        · rw [if_pos e2, if_pos (by omega)]
        · rw [if_neg e2, if_neg (by omega)]
    · show upd (nmC u k w).2.1 (u + k) (nI 0) j = _
      by_cases e : j = u + k
      · subst e; rw [upd_eq, if_pos (by omega)]
      · rw [upd_ne _ _ e, i2]
        by_cases e2 : u ≤ j ∧ j < u + k
        · rw [if_pos e2, if_pos (by omega)]
        · rw [if_neg e2, if_neg (by omega)]
theorem wr_same {w : Int64} {v v' : WW} {s : Nat} (h1 : v'.1 s = v.1 s) (h2 : v'.2.1 s = v.2.1 s) (h3 : v'.2.2.1 s = v.2.2.1 s) (h4 : v'.2.2.2.1 s = v.2.2.2.1 s) (h5 : v'.2.2.2.2.1 s = v.2.2.2.2.1 s) (h6 : v'.2.2.2.2.2 s = v.2.2.2.2.2 s) (h : wr w v s) : wr w v' s := by
  unfold wr; rw [h1, h2, h3, h4, h5, h6]; exact h
theorem exact_8 : ∀ c, c < 4 → exactB (8 * c) (8 * c + 8) = true := by decide +kernel
theorem exact_4 : ∀ d, d < 8 → exactB (32 + 4 * d) (32 + 4 * d + 4) = true := by decide +kernel
theorem beg_sim {c : Nat} {u v : Int64} (hp : sP x < 8) (hc : c < 4) (hd : zD y = sP x) (hco : ∀ d, d < sP x → sC x d = zR y d) (h2 : RQ x y) (hm : ∀ s, s < 96 → wr (sM x s) y.1 s) (hr : ∀ j, j < sP x * 8 → wr (sR x j) y.1 (96 + j)) (h4 : RH x y) (h5 : RK x y) (h6 : RV x y) (h7 : hok y) (h8 : ∀ s, s < 96 + 8 * zD y → gds y y.1 s)
    (hu : wr u y.1 (slA y 0)) (hv : wr v y.1 (slA y 1)) (gu : gds y y.1 (slA y 0)) (gv : gds y y.1 (slA y 1)) : Rel0 (begS c u v x) (begY c y) := by
  have hlow : ∀ j, (j < 96 + 8 * zD y ∨ j = slA y 0 ∨ j = slA y 1) → (begY c y).1.1 j = y.1.1 j ∧ (begY c y).1.2.1 j = y.1.2.1 j ∧ (begY c y).1.2.2.1 j = y.1.2.2.1 j ∧ (begY c y).1.2.2.2.1 j = y.1.2.2.2.1 j ∧ (begY c y).1.2.2.2.2.1 j = y.1.2.2.2.2.1 j ∧ (begY c y).1.2.2.2.2.2 j = y.1.2.2.2.2.2 j := fun j hj => by
    unfold slA at hj
    have e6 : j ≠ slA y 6 := by unfold slA; omega
    have e7 : j ≠ slA y 7 := by unfold slA; omega
    obtain ⟨i1, i2, i3⟩ := nmW_o (zD y) y.1 6 j
    rw [if_neg (by omega)] at i1 i2
    have a := chg_rig (slA y 7) (8 * c) (8 * c + 8) 95 (rigW (slA y 6) (32 + 4 * zD y) (32 + 4 * zD y + 4) 111 (nmW (zD y) 6 y.1)) j e7
    have b := chg_rig (slA y 6) (32 + 4 * zD y) (32 + 4 * zD y + 4) 111 (nmW (zD y) 6 y.1) j e6
    exact ⟨a.1.trans (b.1.trans i1), a.2.1.trans (b.2.1.trans i2), a.2.2.1.trans (b.2.2.1.trans (congrFun (congrArg (fun z => z.1) i3) j)), a.2.2.2.1.trans (b.2.2.2.1.trans (congrFun (congrArg (fun z => z.2.1) i3) j)), a.2.2.2.2.1.trans (b.2.2.2.2.1.trans (congrFun (congrArg (fun z => z.2.2.1) i3) j)), a.2.2.2.2.2.trans (b.2.2.2.2.2.trans (congrFun (congrArg (fun z => z.2.2.2) i3) j))⟩
  have hmid : ∀ j, 96 + 8 * zD y + 2 ≤ j → j < 96 + 8 * zD y + 6 → (begY c y).1.1 j = false ∧ (begY c y).1.2.1 j = nI 0 := fun j j1 j2 => by
    have e6 : j ≠ slA y 6 := by unfold slA; omega
    have e7 : j ≠ slA y 7 := by unfold slA; omega
    obtain ⟨i1, i2, i3⟩ := nmW_o (zD y) y.1 6 j
    rw [if_pos (by omega)] at i1 i2
    have a := chg_rig (slA y 7) (8 * c) (8 * c + 8) 95 (rigW (slA y 6) (32 + 4 * zD y) (32 + 4 * zD y + 4) 111 (nmW (zD y) 6 y.1)) j e7
    have b := chg_rig (slA y 6) (32 + 4 * zD y) (32 + 4 * zD y + 4) 111 (nmW (zD y) 6 y.1) j e6
    exact ⟨a.1.trans (b.1.trans i1), a.2.1.trans (b.2.1.trans i2)⟩
  have w7 : wr (wRt (c * 8) (c * 8 + 8) (nI (c * 8)) 95 0) (begY c y).1 (slA y 7) := by
    rw [Nat.mul_comm c 8]; exact wr_rig _ _ (by omega) (by omega)
  have w6 : wr (wRt (32 + sP x * 4) (32 + sP x * 4 + 4) (nI (32 + sP x * 4)) 111 0) (begY c y).1 (slA y 6) := by
    rw [Nat.mul_comm (sP x) 4, ← hd]
    exact wr_chg (chg_rig (slA y 7) (8 * c) (8 * c + 8) 95 _) (by unfold slA; omega) (wr_rig _ _ (by omega) (by omega))
  have g7 : gds (begY c y) (begY c y).1 (slA y 7) := fun _ => by
    show exactB (va_up _ (slA y 7) (8 * c) (slA y 7)) (va_up _ (slA y 7) (8 * c + 8) (slA y 7)) = true ∧ rgk (begY c y) (va_up _ (slA y 7) (8 * c) (slA y 7)) (va_up _ (slA y 7) (8 * c + 8) (slA y 7))
    rw [va_eq, va_eq]; exact ⟨exact_8 c hc, Or.inl (by omega)⟩
  have g6 : gds (begY c y) (begY c y).1 (slA y 6) := gds_chg (chg_rig (slA y 7) (8 * c) (8 * c + 8) 95 _) (by unfold slA; omega) (fun _ => by
    show exactB (va_up _ (slA y 6) (32 + 4 * zD y) (slA y 6)) (va_up _ (slA y 6) (32 + 4 * zD y + 4) (slA y 6)) = true ∧ rgk (begY c y) (va_up _ (slA y 6) (32 + 4 * zD y) (slA y 6)) (va_up _ (slA y 6) (32 + 4 * zD y + 4) (slA y 6))
    rw [va_eq, va_eq]; exact ⟨exact_4 (zD y) (by omega), Or.inr (Or.inl ⟨zD y, Nat.le_refl (zD y), Nat.le_refl _, Nat.le_refl _⟩)⟩)
  refine ⟨⟨hd, fun d hd2 => ?_⟩, h2, ⟨fun s hs => ?_, fun j hj => ?_⟩, h4, h5, h6, h7, fun s hs => ?_⟩
  · show va_up (sC x) (sP x) c d = va_up (zR y) (zD y) c d
    rw [hd]
    by_cases e : d = sP x
    · subst e; rw [va_eq, va_eq]
    · rw [va_ne _ _ e, va_ne _ _ e]; exact hco d (by have : d ≤ sP x := hd2; omega)
  · obtain ⟨a1, a2, a3, a4, a5, a6⟩ := hlow s (Or.inl (by omega))
    exact wr_same a1 a2 a3 a4 a5 a6 (hm s hs)
  · have hj' : j < (sP x + 1) * 8 := hj
    show wr (begR (sR x) (sP x) c u v j) (begY c y).1 (96 + j)
    unfold begR
    simp only [tb_updL]
    by_cases e7 : j = sP x * 8 + 7
    · rw [if_pos e7, show 96 + j = slA y 7 by unfold slA; omega]; exact w7
    · rw [if_neg e7]
      by_cases e6 : j = sP x * 8 + 6
      · rw [if_pos e6, show 96 + j = slA y 6 by unfold slA; omega]; exact w6
      · rw [if_neg e6]
        by_cases e1 : j = sP x * 8 + 1
        · rw [if_pos e1, show 96 + j = slA y 1 by unfold slA; omega]
          obtain ⟨a1, a2, a3, a4, a5, a6⟩ := hlow (slA y 1) (Or.inr (Or.inr rfl))
          exact wr_same a1 a2 a3 a4 a5 a6 hv
        · rw [if_neg e1]
          by_cases e0 : j = sP x * 8 + 0
          · rw [if_pos e0, show 96 + j = slA y 0 by unfold slA; omega]
            obtain ⟨a1, a2, a3, a4, a5, a6⟩ := hlow (slA y 0) (Or.inr (Or.inl rfl))
            exact wr_same a1 a2 a3 a4 a5 a6 hu
          · rw [if_neg e0]
            unfold clrA
            by_cases e : sP x * 8 ≤ j ∧ j < (sP x + 1) * 8
            · rw [if_pos e]
              obtain ⟨m1, m2⟩ := hmid (96 + j) (by omega) (by omega)
              exact ⟨fun _ => by rw [m2], fun z => by rw [m1] at z; exact absurd z (by decide)⟩
            · rw [if_neg e]
              obtain ⟨a1, a2, a3, a4, a5, a6⟩ := hlow (96 + j) (Or.inl (by omega))
              exact wr_same a1 a2 a3 a4 a5 a6 (hr j (by omega))
  · have hs' : s < 96 + 8 * zD y + 8 := hs
    have hg : ∀ j, (j < 96 + 8 * zD y ∨ j = slA y 0 ∨ j = slA y 1) → gds y y.1 j → gds (begY c y) (begY c y).1 j := fun j hj g => by
      obtain ⟨a1, a2, a3, a4, a5, a6⟩ := hlow j hj
      unfold gds; rw [a1, a3, a4]; exact g
    rcases Nat.lt_or_ge s (96 + 8 * zD y) with e | e
    · exact hg s (Or.inl e) (h8 s e)
    · by_cases e0 : s = slA y 0
      · subst e0; exact hg _ (Or.inr (Or.inl rfl)) gu
      · by_cases e1 : s = slA y 1
        · subst e1; exact hg _ (Or.inr (Or.inr rfl)) gv
        · by_cases e6 : s = slA y 6
          · subst e6; exact g6
          · by_cases e7 : s = slA y 7
            · subst e7; exact g7
            · unfold slA at e0 e1 e6 e7
              intro z
              rw [(hmid s (by omega) (by omega)).1] at z; exact absurd z (by decide)
theorem bt_doom (h : Nat → Int64) {U q : Nat} (hU : U + 4 < 97) (hq : q < 128) : bt (rngH (clrH h 0) 0 (nI U) (nI (U + 4))) 0 q = decide (U ≤ q ∧ q < U + 4) := by
  rw [bt_rngH _ (by omega) (by omega) hq, bt_clrH _ hq]; simp
/-- a slot whose right has its base among U .. becomes a number, on both sides -/
theorem drop_wr {w : Int64} {v : WW} {s : Nat} {dm : Nat → Int64} {kill : Bool} (hw : wOk v) (h : wr w v s) (hk : v.1 s = true → bt dm 0 (v.2.2.1 s) = kill) {v' : WW} (e1 : v'.1 s = (v.1 s && !kill)) (e2 : v'.2.1 s = v.2.1 s) (e3 : v'.2.2 = v.2.2) : wr (if (wM w && bt dm 0 (wB w)) = true then mkN (wN w) else w) v' s := by
  rw [wr_M hw h]
  cases e : v.1 s
  · rw [Bool.false_and, if_neg (by decide)]
    refine ⟨fun _ => by rw [e2]; exact h.1 e, fun z => ?_⟩
    rw [e1, e, Bool.false_and] at z; exact absurd z (by decide)
  · rw [(wr_r hw h e).1, hk e, Bool.true_and]
    rw [e, Bool.true_and] at e1
    cases kill
    · rw [if_neg (by decide)]
      exact wr_same (e1.trans e.symm) e2 (congrFun (congrArg (fun z => z.1) e3) s) (congrFun (congrArg (fun z => z.2.1) e3) s) (congrFun (congrArg (fun z => z.2.2.1) e3) s) (congrFun (congrArg (fun z => z.2.2.2) e3) s) h
    · rw [if_pos rfl, wr_N hw h]
      refine ⟨fun _ => by rw [e2], fun z => ?_⟩
      rw [e1] at z; exact absurd z (by decide)
theorem end_sim (hM : MI y) (hR : Rel0 x y) (h0 : 0 < sP x) (hp : sP x < 8) {u : Int64} {v' : WW} (hwv : wOk v') (hc : chg y.1 v' (96 + 8 * (zD y - 1) + 0)) (hw : wr u v' (96 + 8 * (zD y - 1) + 0)) (hg : gds y v' (96 + 8 * (zD y - 1) + 0)) : Rel0 (endS u x) (retY (v', y.2)) := by
  obtain ⟨⟨hd, hco⟩, h2, h3, h4, h5, h6, h7, h8⟩ := hR
  have hm1 : ∀ s, s < 96 → wr (sM x s) v' s := fun s hs => wr_chg hc (by omega) (h3.1 s hs)
  have hr1 : ∀ j, j < sP x * 8 → wr (vp_updL (sR x) ((sP x - 1) * 8 + 0) u j) v' (96 + j) := fun j hj => by
    rw [tb_updL]
    by_cases e : j = (sP x - 1) * 8 + 0
    · rw [if_pos e, show 96 + j = 96 + 8 * (zD y - 1) + 0 by omega]; exact hw
    · rw [if_neg e]; exact wr_chg hc (by omega) (h3.2 j (by omega))
  have hg1 : ∀ s, s < 96 + 8 * zD y + 8 → gds y v' s := fun s hs => by
    by_cases e : s = 96 + 8 * (zD y - 1) + 0
    · subst e; exact hg
    · exact gds_chg hc e (h8 s hs)
  generalize hU : 32 + 4 * zD y = U
  have hU1 : U + 4 < 97 := by omega
  have hUx : 32 + sP x * 4 = U := by omega
  have e22 := nmC_22 U v' 4
  have hw2 : wOk (nmC U 4 v') := wOk_nmC hwv 4
  have hI : ∀ s, (retY (v', y.2)).1.1 s = ((nmC U 4 v').1 s && !(decide (s < 96 + 8 * (zD y - 1) + 8) && decide (U ≤ v'.2.2.1 s ∧ v'.2.2.1 s ≤ U + 3))) := fun s => by
    have : (retY (v', y.2)).1.1 s = drI (nmC U 4 v').2.2.1 U (96 + 8 * (zD y - 1) + 8) (nmC U 4 v').1 s := by rw [← hU]; rfl
    rw [this]; unfold drI; rw [e22]
  have hN : (retY (v', y.2)).1.2 = (nmC U 4 v').2 := by rw [← hU]; rfl
  have key : ∀ s (w : Int64), s < 96 + 8 * (zD y - 1) + 8 → wr w (nmC U 4 v') s → wr (if (wM w && bt (rngH (clrH (sD x) 0) 0 (nI (32 + sP x * 4)) (nI (32 + sP x * 4 + 4))) 0 (wB w)) = true then mkN (wN w) else w) (retY (v', y.2)).1 s := fun s w hs h => by
    rw [hUx]
    refine drop_wr (v := nmC U 4 v') (kill := decide (U ≤ v'.2.2.1 s ∧ v'.2.2.1 s ≤ U + 3)) hw2 h (fun e => ?_) ?_ (congrFun (congrArg (fun z => z.1) hN) s) (congrArg (fun z => z.2) hN)
    · have := (hw2 s).2.2.2.2 e
      rw [e22] at this ⊢
      rw [bt_doom _ hU1 (by omega)]
      exact decide_eq_decide.mpr (by omega)
    · rw [hI, decide_eq_true hs, Bool.true_and]
  refine ⟨⟨by show zD y - 1 = sP x - 1; omega, fun d hd2 => hco d (by have : d ≤ sP x - 1 := hd2; omega)⟩, h2, ⟨fun s hs => ?_, fun j hj => ?_⟩, h4, h5, h6, h7, fun s hs => ?_⟩
  · show wr (dropA _ (clrA (sM x) (32 + sP x * 4) (32 + sP x * 4 + 4)) 96 s) _ s
    unfold dropA dropP
    have hwc : wr (clrA (sM x) (32 + sP x * 4) (32 + sP x * 4 + 4) s) (nmC U 4 v') s := by
      unfold clrA
      rw [hUx]
      obtain ⟨o1, o2⟩ := nmC_o U v' 4 s
      by_cases e : U ≤ s ∧ s < U + 4
      · rw [if_pos e] at o1 o2 ⊢
        exact ⟨fun _ => by rw [o2], fun z => by rw [o1] at z; exact absurd z (by decide)⟩
      · rw [if_neg e] at o1 o2 ⊢
        exact wr_same o1 o2 (congrFun (congrArg (fun z => z.1) e22) s) (congrFun (congrArg (fun z => z.2.1) e22) s) (congrFun (congrArg (fun z => z.2.2.1) e22) s) (congrFun (congrArg (fun z => z.2.2.2) e22) s) (hm1 s hs)
    have k := key s _ (by omega) hwc
    by_cases z : (wM (clrA (sM x) (32 + sP x * 4) (32 + sP x * 4 + 4) s) && bt (rngH (clrH (sD x) 0) 0 (nI (32 + sP x * 4)) (nI (32 + sP x * 4 + 4))) 0 (wB (clrA (sM x) (32 + sP x * 4) (32 + sP x * 4 + 4) s))) = true
    · rw [if_pos z] at k; rw [if_pos ⟨hs, z⟩]; exact k
    · rw [if_neg z] at k; rw [if_neg (fun y => z y.2)]; exact k
  · have hj' : j < (sP x - 1 + 1) * 8 := hj
    show wr (dropA _ (vp_updL (sR x) ((sP x - 1) * 8 + 0) u) ((sP x - 1 + 1) * 8) j) _ (96 + j)
    unfold dropA dropP
    have hwc : wr (vp_updL (sR x) ((sP x - 1) * 8 + 0) u j) (nmC U 4 v') (96 + j) := by
      obtain ⟨o1, o2⟩ := nmC_o U v' 4 (96 + j)
      rw [if_neg (by omega)] at o1 o2
      exact wr_same o1 o2 (congrFun (congrArg (fun z => z.1) e22) _) (congrFun (congrArg (fun z => z.2.1) e22) _) (congrFun (congrArg (fun z => z.2.2.1) e22) _) (congrFun (congrArg (fun z => z.2.2.2) e22) _) (hr1 j (by omega))
    have k := key (96 + j) _ (by omega) hwc
    by_cases z : (wM (vp_updL (sR x) ((sP x - 1) * 8 + 0) u j) && bt (rngH (clrH (sD x) 0) 0 (nI (32 + sP x * 4)) (nI (32 + sP x * 4 + 4))) 0 (wB (vp_updL (sR x) ((sP x - 1) * 8 + 0) u j))) = true
    · rw [if_pos z] at k; rw [if_pos ⟨hj', z⟩]; exact k
    · rw [if_neg z] at k; rw [if_neg (fun y => z y.2)]; exact k
  · have hs' : s < 96 + 8 * (zD y - 1) + 8 := hs
    intro z
    rw [hI, decide_eq_true hs', Bool.true_and, Bool.and_eq_true] at z
    obtain ⟨z1, z2⟩ := z
    have hz : v'.1 s = true := by
      rw [(nmC_o U v' 4 s).1] at z1
      split at z1
      · exact absurd z1 (by decide)
      · exact z1
    have z3 : ¬ (U ≤ v'.2.2.1 s ∧ v'.2.2.1 s ≤ U + 3) := by
      intro q; rw [decide_eq_true q] at z2; exact absurd z2 (by decide)
    have g := hg1 s (by omega) hz
    have hb := (hwv s).2.2.2.2 hz
    have hB : (retY (v', y.2)).1.2.2 = v'.2.2 := (congrArg (fun z => z.2) hN).trans e22
    rw [hB]
    refine ⟨g.1, ?_⟩
    rcases g.2 with q | ⟨d, d1, d2, d3⟩ | q
    · exact Or.inl q
    · refine Or.inr (Or.inl ⟨d, ?_, d2, d3⟩)
      show d ≤ zD y - 1
      omega
    · exact Or.inr (Or.inr q)
end LS
