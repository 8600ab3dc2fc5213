/-! the heap on both sides -/
section HS
variable {x : CS} {y : YS}
theorem lowK_congr {p q : Nat → Bool} : ∀ n, (∀ j, j < n → p j = q j) → lowK p n = lowK q n
  | 0, _ => rfl
  | n + 1, h => by rw [lowK, lowK, lowK_congr n (fun j hj => h j (by omega)), h n (by omega)]
theorem allF_congr {p q : Nat → Bool} : ∀ n, (∀ j, j < n → p j = q j) → allF p n = allF q n
  | 0, _ => rfl
  | n + 1, h => by rw [allF, allF, allF_congr n (fun j hj => h j (by omega)), h n (by omega)]
theorem lw_eq (hR : Rel0 x y) {m : Nat} (hm : m ≤ 32) : lowX (lwP (sS x) m) = lowX (afP (zA y) m) := by
  obtain ⟨_, _, _, ⟨h4, _⟩, _⟩ := hR
  rw [lowX_eq, lowX_eq]
  refine lowK_congr 32 (fun k hk => ?_)
  unfold lwP afP afB okB freeR
  rw [Nat.add_sub_cancel_left, Bool.and_comm]
  by_cases e : 64 + k + m ≤ 96
  · rw [decide_eq_true e, Bool.true_and, Bool.true_and]
    congr 1
    exact allF_congr m (fun j hj => by unfold frP; rw [h4 _ (by omega)])
  · rw [decide_eq_false e, Bool.false_and, Bool.false_and]
theorem own_eq (hR : Rel0 x y) (c : Nat) : cntF (ownP (sS x) (sO x) c) 32 = cntF (ownM y c) 32 := by
  obtain ⟨_, _, _, ⟨h4, h4o, _⟩, _⟩ := hR
  refine cntF_congr 32 (fun j hj => ?_)
  unfold ownP ownM
  have e : sS x j = zA y (64 + j) := by
    rw [← h4 (64 + j) (by omega)]; unfold stA; rw [if_pos (by omega), Nat.add_sub_cancel_left]
  by_cases z : sS x j = 102
  · rw [decide_eq_false (fun q => q.1 z), decide_eq_false (fun q => q.1 (e ▸ z))]
  · rw [h4o j hj z, e]
theorem st_i (hR : Rel0 x y) {i : Nat} (hi : i < 32) : sS x i = zA y (64 + i) := by
  obtain ⟨_, _, _, ⟨h4, _⟩, _⟩ := hR
  rw [← h4 (64 + i) (by omega)]; unfold stA; rw [if_pos (by omega), Nat.add_sub_cancel_left]
theorem stA_fil (st : Nat → Nat) {v b t q : Nat} (hb : 64 ≤ b) (ht : t ≤ 96) : stA (filA st v (b - 64) (t - 64)) q = if b ≤ q ∧ q < t then v else stA st q := by
  unfold stA filA
  by_cases h : 64 ≤ q ∧ q < 96
  · rw [if_pos h, if_pos h]
    by_cases e : b ≤ q ∧ q < t
    · rw [if_pos e, if_pos (by omega)]
    · rw [if_neg e, if_neg (by omega)]
  · rw [if_neg h, if_neg h, if_neg (by omega)]
theorem cnt_fill {p p' : Nat → Bool} {i m : Nat} (hp : ∀ j, j < i ∨ i + m ≤ j → p' j = p j) (h0 : ∀ j, i ≤ j → j < i + m → p j = false) (h1 : ∀ j, i ≤ j → j < i + m → p' j = true) {n : Nat} (hn : i + m ≤ n) : cntF p' n = cntF p n + m := by
  have aux : ∀ k, k ≤ m → cntF (fun j => if i ≤ j ∧ j < i + k then true else p j) n = cntF p n + k := by
    intro k
    induction k with
    | zero => intro _; exact cntF_congr n (fun j hj => by rw [if_neg (by omega)])
    | succ k ih =>
      intro hk
      rw [show cntF p n + (k + 1) = (cntF p n + k) + 1 from rfl, ← ih (by omega)]
      refine cnt_add1 (q := i + k) (fun j hj => ?_) ?_ ?_ n (by omega)
      · by_cases e : i ≤ j ∧ j < i + k
        · rw [if_pos e, if_pos (by omega)]
        · rw [if_neg e, if_neg (by omega)]
      · rw [if_neg (by omega)]; exact h0 _ (by omega) (by omega)
      · rw [if_pos (by omega)]
  rw [← aux m (Nat.le_refl m)]
  refine cntF_congr n (fun j hj => ?_)
  by_cases e : i ≤ j ∧ j < i + m
  · rw [if_pos e, h1 j e.1 e.2]
  · rw [if_neg e, hp j (by omega)]
theorem free_in (hM : MI y) {b t j : Nat} (h : afB (zA y) b t = true) (h1 : b ≤ j) (h2 : j < t) : zA y j = 102 := by
  unfold afB at h
  rw [Bool.and_eq_true, Bool.and_eq_true, allF_iff] at h
  have := h.2.2 (j - b) (by omega)
  unfold frP at this
  rw [show b + (j - b) = j by omega] at this
  exact of_decide_eq_true this
/-- the cells that are got, ahead of the register -/
theorem got_sim (hM : MI y) (hR : Rel0 x y) {m b c : Nat} (hm1 : 1 ≤ m) (hb : 64 ≤ b) (hbm : b + m ≤ 96) (hc : c < 4) (hc2 : c = sC x (sP x)) (hf : afB (zA y) b (b + m) = true) {y' : YS} (hy : y'.2.2.1 = y.2.2.1) (hy1 : y'.1 = y.1) (hyd : zD y' = zD y) (hyr : zR y' = zR y) (hyv : zV y' = zV y) (hyk : zK y' = zK y) : Rel0 (gt0 b m x) (tkY c b m m y') := by
  have hst := fun i (hi : i < 32) => st_i hR hi
  obtain ⟨⟨hd, hco⟩, h2, h3, ⟨h4a, h4b, h4c, h4d⟩, h5, h6, h7, h8⟩ := id hR
  have hA : zA y' = zA y := congrArg (fun z : HP => z.2.1) hy
  have hO : zO y' = zO y := congrArg (fun z : HP => z.2.2.1) hy
  have hF : zF y' = zF y := congrArg (fun z : HP => z.2.2.2.1) hy
  have hMm : zM y' = zM y := congrArg (fun z : HP => z.2.2.2.2) hy
  have hQ : zQ y' = zQ y := congrArg (fun z : HP => z.1) hy
  have fr : ∀ j, b ≤ j → j < b + m → zA y j = 102 := fun j j1 j2 => free_in hM hf j1 j2
  have tA : ∀ q, zA (tkY c b m m y') q = if b ≤ q ∧ q < b + m then 103 else zA y q := fun q => by
    show filA (zA y') 103 b (b + m) q = _; rw [hA]; rfl
  have tF : ∀ q, zF (tkY c b m m y') q = if b ≤ q ∧ q < b + m then b else zF y q := fun q => by
    show filA (zF y') b b (b + m) q = _; rw [hF]; rfl
  have tM : ∀ q, zM (tkY c b m m y') q = if b ≤ q ∧ q < b + m then m else zM y q := fun q => by
    show filA (zM y') m b (b + m) q = _; rw [hMm]; rfl
  have tO : ∀ q, zO (tkY c b m m y') q = if b ≤ q ∧ q < b + m then c else zO y q := fun q => by
    show filA (zO y') c b (b + m) q = _; rw [hO]; rfl
  have tI : ∀ s, (tkY c b m m y').1.1 s = if b ≤ s ∧ s < b + m then false else y.1.1 s := fun s => by
    show (nmC b m y'.1).1 s = _; rw [hy1, (nmC_o b y.1 m s).1]
  have tN : ∀ s, (tkY c b m m y').1.2.1 s = if b ≤ s ∧ s < b + m then nI 0 else y.1.2.1 s := fun s => by
    show (nmC b m y'.1).2.1 s = _; rw [hy1, (nmC_o b y.1 m s).2]
  have t22 : (tkY c b m m y').1.2.2 = y.1.2.2 := by show y'.1.2.2 = _; rw [hy1]
  have blk : ∀ q, 64 ≤ q → q < 96 → zA y q ≠ 102 → ∀ j, zF y q ≤ j → j < zF y q + zM y q → ¬ (b ≤ j ∧ j < b + m) := fun q q1 q2 q3 j j1 j2 z => by
    have := ((h7 q q1 q2 q3).2 j j1 j2).1
    rw [fr j z.1 z.2] at this; exact q3 this.symm
  have wsame : ∀ s (w : Int64), ¬ (b ≤ s ∧ s < b + m) → wr w y.1 s → wr w (tkY c b m m y').1 s := fun s w e h => by
    have a := tI s; have a2 := tN s
    rw [if_neg e] at a a2
    exact wr_same a a2 (congrFun (congrArg (fun z => z.1) t22) s) (congrFun (congrArg (fun z => z.2.1) t22) s) (congrFun (congrArg (fun z => z.2.2.1) t22) s) (congrFun (congrArg (fun z => z.2.2.2) t22) s) h
  refine ⟨⟨hyd.trans hd, fun d hd2 => (hco d hd2).trans (congrFun hyr d).symm⟩, fun k hk => (h2 k hk).trans (congrFun hQ k).symm, ⟨fun s hs => ?_, fun j hj => wsame _ _ (by omega) (h3.2 j hj)⟩, ⟨fun q hq => ?_, fun i hi hn => ?_, fun k hk => ?_, fun i hi => ?_⟩, fun k hk => (h5 k hk).trans (congrFun hyk k).symm, fun k q hk hq => (h6 k q hk hq).trans (congrFun hyv _).symm, fun q q1 q2 q3 => ?_, fun s hs => ?_⟩
  · show wr (clrA (sM x) b (b + m) s) _ s
    unfold clrA
    by_cases e : b ≤ s ∧ s < b + m
    · rw [if_pos e]
      have a := tI s; have a2 := tN s
      rw [if_pos e] at a a2
      exact ⟨fun _ => by rw [a2], fun z => by rw [a] at z; exact absurd z (by decide)⟩
    · rw [if_neg e]; exact wsame s _ e (h3.1 s hs)
  · show stA (filA (sS x) 103 (b - 64) (b - 64 + m)) q = _
    rw [show b - 64 + m = b + m - 64 by omega, stA_fil _ hb hbm, tA, h4a q hq]
  · have hn' : filA (sS x) 103 (b - 64) (b - 64 + m) i ≠ 102 := hn
    show filA (sO x) (sC x (sP x)) (b - 64) (b - 64 + m) i = _
    rw [tO, ← hc2]
    unfold filA at hn' ⊢
    by_cases e : b - 64 ≤ i ∧ i < b - 64 + m
    · rw [if_pos e, if_pos (by omega)]
    · rw [if_neg e] at hn' ⊢
      rw [if_neg (by omega)]; exact h4b i hi hn'
  · show upd (sN x) (sC x (sP x)) (sN x (sC x (sP x)) + nI m) k = nI (cntF (ownP (filA (sS x) 103 (b - 64) (b - 64 + m)) (filA (sO x) (sC x (sP x)) (b - 64) (b - 64 + m)) k) 32)
    rw [← hc2]
    have out : ∀ j, j < b - 64 ∨ b - 64 + m ≤ j → ownP (filA (sS x) 103 (b - 64) (b - 64 + m)) (filA (sO x) c (b - 64) (b - 64 + m)) k j = ownP (sS x) (sO x) k j := fun j hj => by
      unfold ownP filA; rw [if_neg (by omega), if_neg (by omega)]
    have fr2 : ∀ j, b - 64 ≤ j → j < b - 64 + m → sS x j = 102 := fun j j1 j2 => by rw [hst j (by omega)]; exact fr _ (by omega) (by omega)
    by_cases e : k = c
    · subst e
      rw [upd_eq, h4c k hk, nI_add]
      congr 1
      symm
      refine cnt_fill (i := b - 64) out (fun j j1 j2 => ?_) (fun j j1 j2 => ?_) (by omega)
      · unfold ownP; rw [fr2 j j1 j2]; simp
      · unfold ownP filA; rw [if_pos ⟨j1, j2⟩, if_pos ⟨j1, j2⟩]; simp
    · rw [upd_ne _ _ e, h4c k hk]
      congr 1
      refine cntF_congr 32 (fun j hj => ?_)
      by_cases e2 : b - 64 ≤ j ∧ j < b - 64 + m
      · unfold ownP filA
        rw [if_pos e2, if_pos e2, fr2 j e2.1 e2.2, decide_eq_false (by omega), decide_eq_false (by omega)]
      · exact (out j (by omega)).symm
  · show va_up (sB x) (b - 64) (b + m) i = blkR (filA (sS x) 103 (b - 64) (b - 64 + m) i) (zF (tkY c b m m y') (64 + i)) (64 + i) (zM (tkY c b m m y') (64 + i))
    rw [tF, tM]
    by_cases e : b ≤ 64 + i ∧ 64 + i < b + m
    · rw [if_pos e, if_pos e]
      have e3 : filA (sS x) 103 (b - 64) (b - 64 + m) i = 103 := by unfold filA; rw [if_pos (by omega)]
      rw [e3]
      by_cases e2 : i = b - 64
      · rw [blkR_1 rfl (by omega), e2, va_eq]; omega
      · have s2 : sS x i = 102 := by rw [hst i hi]; exact fr _ e.1 e.2
        rw [va_ne _ _ e2, h4d i hi, blkR_0 (fun z => by have := z.1; omega), blkR_0 (fun z => by have := z.2; omega)]
    · have e3 : filA (sS x) 103 (b - 64) (b - 64 + m) i = sS x i := by unfold filA; rw [if_neg (by omega)]
      rw [if_neg e, if_neg e, va_ne _ _ (by omega), h4d i hi, e3]
  · rw [tA] at q3
    rw [tF, tM]
    by_cases e : b ≤ q ∧ q < b + m
    · rw [if_pos e, if_pos e]
      refine ⟨by omega, fun j j1 j2 => ?_⟩
      rw [tA, tA, tF, tM, if_pos ⟨j1, j2⟩, if_pos e, if_pos ⟨j1, j2⟩, if_pos ⟨j1, j2⟩]; exact ⟨rfl, rfl, rfl⟩
    · rw [if_neg e] at q3
      rw [if_neg e, if_neg e]
      have h := h7 q q1 q2 q3
      refine ⟨h.1, fun j j1 j2 => ?_⟩
      have nb := blk q q1 q2 q3 j j1 j2
      rw [tA, tA, tF, tM, if_neg nb, if_neg e, if_neg nb, if_neg nb]
      exact h.2 j j1 j2
  · have hs' : s < 96 + 8 * zD y' + 8 := hs
    rw [hyd] at hs'
    intro z
    have a := tI s
    rw [z] at a
    by_cases e : b ≤ s ∧ s < b + m
    · rw [if_pos e] at a; exact absurd a (by decide)
    · rw [if_neg e] at a
      have g := h8 s hs' a.symm
      have hbt := (hM.2.2.1 s).2.2.2.2 a.symm
      rw [t22]
      refine ⟨g.1, ?_⟩
      rcases g.2 with q | ⟨d, d1, d2, d3⟩ | ⟨q1, q2, q3⟩
      · exact Or.inl q
      · exact Or.inr (Or.inl ⟨d, by show d ≤ zD y'; omega, d2, d3⟩)
      · have hq : y.1.2.2.1 s < 96 := by omega
        have hh := h7 _ q1 hq q2
        have nb := blk _ q1 hq q2 _ hh.1.2.1 hh.1.2.2.1
        refine Or.inr (Or.inr ⟨q1, ?_, ?_⟩)
        · rw [tA, if_neg nb]; exact q2
        · rw [tF, tM, if_neg nb, if_neg nb]; exact q3
theorem blk_eq (hR : Rel0 x y) {b t : Nat} (hbt : b < t) (ht : t ≤ 96) : blkB x b t = blkM y b t := by
  obtain ⟨_, _, _, ⟨h4a, h4b, h4c, h4d⟩, _⟩ := id hR
  unfold blkB blkM
  by_cases e : 64 ≤ b ∧ b < 96
  · have h := h4d (b - 64) (by omega)
    have hs := st_i hR (i := b - 64) (by omega)
    rw [show 64 + (b - 64) = b by omega] at h hs
    rw [h, hs]
    rw [decide_eq_true (by omega : 64 ≤ b ∧ b ≤ 95), Bool.true_and]
    by_cases e1 : zA y b = 103
    · by_cases e2 : zF y b = b
      · rw [blkR_1 e1 e2, decide_eq_true e1, decide_eq_true e2, Bool.true_and, Bool.true_and]
        exact decide_eq_decide.mpr ⟨fun z => by omega, fun z => ⟨e.1, e.2, e1, by omega⟩⟩
      · rw [blkR_0 (fun z => e2 z.2), decide_eq_false e2, Bool.false_and, Bool.and_false]
        exact decide_eq_false (fun z => by omega)
    · rw [decide_eq_false e1, Bool.false_and]
      exact decide_eq_false (fun z => e1 z.2.2.1)
  · rw [decide_eq_false (fun z => e ⟨z.1, z.2.1⟩), decide_eq_false (fun z => e ⟨z.1, by omega⟩), Bool.false_and]
theorem fre_sim (hM : MI y) (hR : Rel0 x y) {b t : Nat} (hbt : b < t) (ht : t ≤ 96) (hb : blkM y b t = true) : Rel0 (fr0 b t x) (frMY b t y) := by
  have hst := fun i (hi : i < 32) => st_i hR hi
  obtain ⟨h1, h2, h3, ⟨h4a, h4b, h4c, h4d⟩, h5, h6, h7, h8⟩ := id hR
  unfold blkM at hb
  rw [Bool.and_eq_true, Bool.and_eq_true, Bool.and_eq_true, decide_eq_true_eq, decide_eq_true_eq, decide_eq_true_eq, decide_eq_true_eq] at hb
  obtain ⟨b1, b2, b3, b4⟩ := hb
  have hB := h7 b b1.1 (by omega) (by rw [b2]; decide)
  have inB : ∀ j, b ≤ j → j < t → zA y j = 103 ∧ zF y j = b ∧ zM y j = t - b := fun j j1 j2 => by
    have := hB.2 j (by omega) (by omega)
    rw [b2, b3, b4] at this; exact this
  have tA : ∀ q, zA (frMY b t y) q = if b ≤ q ∧ q < t then 114 else zA y q := fun q => rfl
  refine ⟨h1, h2, h3, ⟨fun q hq => ?_, fun i hi hn => ?_, fun k hk => ?_, fun i hi => ?_⟩, h5, h6, fun q q1 q2 q3 => ?_, fun s hs z => ?_⟩
  · show stA (filA (sS x) 114 (b - 64) (t - 64)) q = _
    rw [stA_fil _ b1.1 ht, tA, h4a q hq]
  · have hn' : filA (sS x) 114 (b - 64) (t - 64) i ≠ 102 := hn
    show sO x i = zO y (64 + i)
    refine h4b i hi ?_
    unfold filA at hn'
    by_cases e : b - 64 ≤ i ∧ i < t - 64
    · rw [hst i hi, (inB _ (by omega) (by omega)).1]; decide
    · rw [if_neg e] at hn'; exact hn'
  · show sN x k = nI (cntF (ownP (filA (sS x) 114 (b - 64) (t - 64)) (sO x) k) 32)
    rw [h4c k hk]
    congr 1
    refine cntF_congr 32 (fun j hj => ?_)
    unfold ownP filA
    by_cases e : b - 64 ≤ j ∧ j < t - 64
    · rw [if_pos e, hst j hj, (inB _ (by omega) (by omega)).1]; simp
    · rw [if_neg e]
  · show filA (sB x) 0 (b - 64) (t - 64) i = blkR (filA (sS x) 114 (b - 64) (t - 64) i) (zF y (64 + i)) (64 + i) (zM y (64 + i))
    unfold filA
    by_cases e : b - 64 ≤ i ∧ i < t - 64
    · rw [if_pos e, if_pos e, blkR_0 (fun z => by have := z.1; omega)]
    · rw [if_neg e, if_neg e]; exact h4d i hi
  · rw [tA] at q3
    show (64 ≤ zF y q ∧ zF y q ≤ q ∧ q < zF y q + zM y q ∧ zF y q + zM y q ≤ 96) ∧ ∀ j, zF y q ≤ j → j < zF y q + zM y q → zA (frMY b t y) j = zA (frMY b t y) q ∧ zF y j = zF y q ∧ zM y j = zM y q
    by_cases e : b ≤ q ∧ q < t
    · obtain ⟨i1, i2, i3⟩ := inB q e.1 e.2
      rw [i2, i3]
      refine ⟨by omega, fun j j1 j2 => ?_⟩
      obtain ⟨k1, k2, k3⟩ := inB j j1 (by omega)
      rw [tA, tA, if_pos ⟨j1, by omega⟩, if_pos e]; exact ⟨rfl, k2, k3⟩
    · rw [if_neg e] at q3
      have h := h7 q q1 q2 q3
      refine ⟨h.1, fun j j1 j2 => ?_⟩
      have hj := h.2 j j1 j2
      have nb : ¬ (b ≤ j ∧ j < t) := fun w => by
        obtain ⟨k1, k2, k3⟩ := inB j w.1 w.2
        rw [hj.2.1] at k2
        rw [hj.2.2] at k3
        omega
      rw [tA, tA, if_neg nb, if_neg e]; exact hj
  · have g := h8 s hs z
    refine ⟨g.1, ?_⟩
    rcases g.2 with q | q | ⟨q1, q2, q3⟩
    · exact Or.inl q
    · exact Or.inr (Or.inl q)
    · refine Or.inr (Or.inr ⟨q1, ?_, q3⟩)
      rw [tA]; split
      · decide
      · exact q2
/-! sweep -/
theorem rsH_bt (st : Nat → Nat) (h : Nat → Int64) {q : Nat} (hq : q < 128) : ∀ n, n ≤ 32 → bt (rsH st h n) 0 q = (bt h 0 q || decide (64 ≤ q ∧ q < 64 + n ∧ stA st q = 114))
  | 0, _ => by rw [rsH, decide_eq_false (by omega), Bool.or_false]
  | n + 1, hn => by
    have ih := rsH_bt st h hq n (by omega)
    rw [rsH]
    by_cases e : stA st (64 + n) = 114
    · rw [if_pos e, bt_addH _ (by omega) hq, ih, Bool.or_assoc]
      congr 1
      by_cases e2 : q = 64 + n
      · subst e2; simp [e]
      · have : decide (0 = 0 ∧ q = 64 + n) = false := decide_eq_false (fun z => e2 z.2)
        rw [this, Bool.or_false]
        exact decide_eq_decide.mpr ⟨fun z => ⟨z.1, by omega, z.2.2⟩, fun z => ⟨z.1, by omega, z.2.2⟩⟩
    · rw [if_neg e, ih]
      congr 1
      refine decide_eq_decide.mpr ⟨fun z => ⟨z.1, by omega, z.2.2⟩, fun z => ⟨z.1, ?_, z.2.2⟩⟩
      have : q ≠ 64 + n := fun w => e (w ▸ z.2.2)
      omega
theorem relC_cnt {st ow : Nat → Nat} {ct : Nat → Int32} (how : ∀ j, ow j < 4) (h : ∀ c, c < 4 → ct c = nI (cntF (ownP st ow c) 32)) : ∀ n, n ≤ 32 → ∀ c, c < 4 → relC st ow ct n c = nI (cntF (ownP (relS st n) ow c) 32)
  | 0, _, c, hc => by rw [relS_0]; exact h c hc
  | n + 1, hn, c, hc => by
    have ih := relC_cnt how h n (by omega)
    by_cases e : st n = 114
    · have e1 : relS st n n = 114 := by rw [relS_i]; exact e
      rw [← relC_y e1, ← relS_y e1]
      by_cases e2 : c = ow n
      · rw [e2, upd_eq, ih (ow n) (how n)]
        have hadd := cnt_add1 (p := ownP (va_up (relS st n) n 102) ow (ow n)) (p' := ownP (relS st n) ow (ow n)) (q := n) (fun j hj => by unfold ownP; rw [va_ne _ _ hj]) (by unfold ownP; rw [va_eq]; simp) (by unfold ownP; rw [e1]; simp) 32 (by omega)
        rw [hadd, pk_sub (by omega)]; congr 1
      · rw [upd_ne _ _ e2, ih c hc]
        congr 1
        refine cntF_congr 32 (fun j hj => ?_)
        unfold ownP
        by_cases e3 : j = n
        · subst e3; rw [decide_eq_false (fun z => e2 z.2.symm), decide_eq_false (fun z => e2 z.2.symm)]
        · rw [va_ne _ _ e3]
    · have e1 : relS st n n ≠ 114 := by rw [relS_i]; exact e
      rw [← relC_n e1, ← relS_n e1]; exact ih c hc
theorem stA_rel (st : Nat → Nat) (q : Nat) : stA (relS st 32) q = if 64 ≤ q ∧ q < 96 ∧ stA st q = 114 then 102 else stA st q := by
  unfold stA relS
  by_cases h : 64 ≤ q ∧ q < 96
  · rw [if_pos h, if_pos h]
    by_cases e : st (q - 64) = 114
    · rw [if_pos ⟨by omega, e⟩, if_pos ⟨h.1, h.2, e⟩]
    · rw [if_neg (fun z => e z.2), if_neg (fun z => e z.2.2)]
  · rw [if_neg h, if_neg h, if_neg (by omega)]
theorem swp_drop (hM : MI y) (hR : Rel0 x y) {w : Int64} {s : Nat} (h : wr w y.1 s) : (wM w && bt (sD (swp0 x)) 0 (wB w)) = swP y.1 (zA y) s := by
  have hs := rs_eq hR hM h
  unfold swP
  rw [wr_M hM.2.2.1 h]
  cases e : y.1.1 s
  · rfl
  · rw [Bool.true_and, Bool.true_and]
    have hb := (wr_r hM.2.2.1 h e).1
    have hk := (hM.2.2.1 s).2.2.2.2 e
    show bt (rsH (sS x) (clrH (sD x) 0) 32) 0 (wB w) = _
    rw [rsH_bt _ _ (wB_lt w) 32 (Nat.le_refl 32), bt_clrH _ (wB_lt w)]
    simp only [decide_true, Bool.not_true, Bool.false_and, Bool.false_or]
    have h1 := hs e
    cases z : rsW y.1 (zA y) s
    · rw [decide_eq_false]
      intro q
      rw [h1.mp q.2.2] at z; exact absurd z (by decide)
    · have h2 := h1.mpr z
      have h3 : 64 ≤ wB w ∧ wB w < 96 := by
        rcases Nat.lt_or_ge (wB w) 64 with q | q
        · unfold stA at h2; rw [if_neg (by omega)] at h2; omega
        · omega
      exact decide_eq_true ⟨h3.1, by omega, h2⟩
theorem swp_sim (hI : Iv x) (hM : MI y) (hR : Rel0 x y) : Rel0 (swp1 (drpS (swp0 x))) (swY0 y) ∧ drpN (swp0 x) = cntF (swP y.1 (zA y)) (96 + 8 * zD y + 8) := by
  have hst := fun i (hi : i < 32) => st_i hR hi
  obtain ⟨⟨hd, hco⟩, h2, h3, ⟨h4a, h4b, h4c, h4d⟩, h5, h6, h7, h8⟩ := id hR
  have hA96 : ∀ q, q < 96 → (zA y q = 114 → 64 ≤ q) := fun q hq z => by
    rw [← h4a q hq] at z; unfold stA at z
    rcases Nat.lt_or_ge q 64 with e | e
    · rw [if_neg (by omega)] at z; omega
    · exact e
  have tA : ∀ q, q < 96 → zA (swY0 y) q = if zA y q = 114 then 102 else zA y q := fun q hq => by
    show rlM (zA y) 96 q = _
    unfold rlM
    by_cases e : zA y q = 114
    · rw [if_pos ⟨hA96 q hq e, hq, e⟩, if_pos e]
    · rw [if_neg (fun z => e z.2.2), if_neg e]
  have tI : ∀ s, s < 96 + 8 * zD y + 8 → (swY0 y).1.1 s = (y.1.1 s && !rsW y.1 (zA y) s) := fun s hs => by
    show swI y.1 (zA y) (96 + 8 * zD y + 8) s = _
    unfold swI; rw [decide_eq_true hs, Bool.true_and]
  have key : ∀ (w : Int64) s, s < 96 + 8 * zD y + 8 → wr w y.1 s → wr (if (wM w && bt (sD (swp0 x)) 0 (wB w)) = true then mkN (wN w) else w) (swY0 y).1 s := fun w s hs h => by
    rw [swp_drop hM hR h]
    unfold swP
    have e1 := tI s hs
    cases e : y.1.1 s
    · rw [e, Bool.false_and] at e1
      rw [Bool.false_and, if_neg (by decide)]
      exact ⟨fun _ => h.1 e, fun z => by rw [e1] at z; exact absurd z (by decide)⟩
    · rw [e, Bool.true_and] at e1
      rw [Bool.true_and]
      cases z : rsW y.1 (zA y) s
      · rw [z] at e1
        rw [if_neg (by decide)]
        exact wr_same (e1.trans e.symm) rfl rfl rfl rfl rfl h
      · rw [z] at e1
        rw [if_pos rfl, wr_N hM.2.2.1 h]
        exact ⟨fun _ => rfl, fun z => by rw [e1] at z; exact absurd z (by decide)⟩
  refine ⟨⟨⟨hd, hco⟩, h2, ⟨fun s hs => ?_, fun j hj => ?_⟩, ⟨fun q hq => ?_, fun i hi hn => ?_, fun k hk => ?_, fun i hi => ?_⟩, h5, h6, fun q q1 q2 q3 => ?_, fun s hs z => ?_⟩, ?_⟩
  · show wr (dropA (sD (swp0 x)) (sM x) 96 s) _ s
    unfold dropA dropP
    have k := key _ s (by omega) (h3.1 s hs)
    by_cases z : (wM (sM x s) && bt (sD (swp0 x)) 0 (wB (sM x s))) = true
    · rw [if_pos z] at k; rw [if_pos ⟨hs, z⟩]; exact k
    · rw [if_neg z] at k; rw [if_neg (fun y => z y.2)]; exact k
  · have hj' : j < (sP x + 1) * 8 := hj
    show wr (dropA (sD (swp0 x)) (sR x) ((sP x + 1) * 8) j) _ (96 + j)
    unfold dropA dropP
    have k := key _ (96 + j) (by omega) (h3.2 j hj')
    by_cases z : (wM (sR x j) && bt (sD (swp0 x)) 0 (wB (sR x j))) = true
    · rw [if_pos z] at k; rw [if_pos ⟨hj', z⟩]; exact k
    · rw [if_neg z] at k; rw [if_neg (fun y => z y.2)]; exact k
  · show stA (relS (sS x) 32) q = _
    rw [stA_rel, tA q hq, h4a q hq]
    by_cases e : zA y q = 114
    · rw [if_pos ⟨hA96 q hq e, hq, e⟩, if_pos e]
    · rw [if_neg (fun z => e z.2.2), if_neg e]
  · have hn' : relS (sS x) 32 i ≠ 102 := hn
    refine h4b i hi (fun z => hn' ?_)
    unfold relS; rw [z]; split <;> rfl
  · exact relC_cnt hI.2.2.2.1 h4c 32 (Nat.le_refl 32) k hk
  · show sB x i = blkR (relS (sS x) 32 i) (zF y (64 + i)) (64 + i) (zM y (64 + i))
    rw [h4d i hi]
    unfold relS
    by_cases z : i < 32 ∧ sS x i = 114
    · rw [if_pos z, blkR_0 (fun w => by have := w.1; omega), blkR_0 (fun w => by have := w.1; omega)]
    · rw [if_neg z]
  · rw [tA q q2] at q3
    have n14 : zA y q ≠ 114 := fun z => by rw [if_pos z] at q3; exact q3 rfl
    rw [if_neg n14] at q3
    have h := h7 q q1 q2 q3
    refine ⟨h.1, fun j j1 j2 => ?_⟩
    have hj := h.2 j j1 j2
    have j96 : j < 96 := by have j2' : j < zF y q + zM y q := j2; omega
    refine ⟨?_, hj.2⟩
    rw [tA j j96, tA q q2, hj.1]
  · have hs' : s < 96 + 8 * zD y + 8 := hs
    rw [tI s hs', Bool.and_eq_true] at z
    have g := h8 s hs' z.1
    have hbt := (hM.2.2.1 s).2.2.2.2 z.1
    refine ⟨g.1, ?_⟩
    rcases g.2 with q | q | ⟨q1, q2, q3⟩
    · exact Or.inl q
    · exact Or.inr (Or.inl q)
    · refine Or.inr (Or.inr ⟨q1, ?_, q3⟩)
      show zA (swY0 y) (y.1.2.2.1 s) ≠ 102
      rw [tA _ (by omega), if_neg]
      · exact q2
      · intro w
        have : rsW y.1 (zA y) s = true := by
          unfold rsW; rw [decide_eq_true (by omega), decide_eq_true w]; rfl
        rw [this] at z; exact absurd z.2 (by decide)
  · unfold drpN
    show cntF (dropP (sD (swp0 x)) (sM x)) 96 + cntF (dropP (sD (swp0 x)) (sR x)) ((sP x + 1) * 8) = _
    rw [Nat.add_assoc, cntF_add, show 8 * zD y + 8 = (sP x + 1) * 8 by omega]
    have c1 : cntF (dropP (sD (swp0 x)) (sM x)) 96 = cntF (swP y.1 (zA y)) 96 := cntF_congr 96 (fun j hj => swp_drop hM hR (h3.1 j hj))
    have c2 : cntF (dropP (sD (swp0 x)) (sR x)) ((sP x + 1) * 8) = cntF (fun i => swP y.1 (zA y) (96 + i)) ((sP x + 1) * 8) := cntF_congr _ (fun j hj => swp_drop hM hR (h3.2 j hj))
    rw [c1, c2]
/-! what is sound -/
theorem reach_open (hM : MI y) (hR : Rel0 x y) {c q : Nat} (h : RCM y c q) : q < 32 ∨ (∃ d, d ≤ zD y ∧ 32 + 4 * d ≤ q ∧ q < 32 + 4 * d + 4) ∨ (64 ≤ q ∧ zA y q ≠ 102) := by
  obtain ⟨_, _, _, _, _, _, h7, h8⟩ := hR
  have key : ∀ s, s < 96 + 8 * zD y + 8 → y.1.1 s = true → inS y.1 s q → q < 32 ∨ (∃ d, d ≤ zD y ∧ 32 + 4 * d ≤ q ∧ q < 32 + 4 * d + 4) ∨ (64 ≤ q ∧ zA y q ≠ 102) := fun s hs e hi => by
    have g := (h8 s hs e).2
    have hk := (hM.2.2.1 s).2.2.2.2 e
    unfold inS rng at hi
    rcases g with g | ⟨d, d1, d2, d3⟩ | ⟨g1, g2, g3⟩
    · left; omega
    · exact Or.inr (Or.inl ⟨d, d1, by omega, by omega⟩)
    · have hh := h7 _ g1 (by omega) g2
      have := (hh.2 q (by omega) (by omega)).1
      exact Or.inr (Or.inr ⟨by omega, by rw [this]; exact g2⟩)
  rcases h with h | ⟨d, d1, d2, r, r1, r2, r3⟩ | ⟨a, _, e1, e2, e3, e4, e5⟩
  · obtain ⟨hq, h⟩ := h
    unfold ownC at h
    by_cases e : q < 32
    · exact Or.inl e
    · rw [if_neg e, Bool.and_eq_true, Bool.and_eq_true] at h
      have a1 := of_decide_eq_true h.1
      have a2 := of_decide_eq_true h.2.1
      exact Or.inr (Or.inl ⟨(q - 32) / 4, a2, by omega, by omega⟩)
  · exact key _ (by omega) (rdW_r r2) r3
  · exact key _ (by omega) e2 e5
theorem snd_true (hS : Sim x y) : sndS x = true := by
  obtain ⟨hI, hM, hR, hRR⟩ := hS
  obtain ⟨⟨hd, hco⟩, h2, h3, ⟨h4a, h4b, h4c, h4d⟩, h5, h6, h7, h8⟩ := id hR
  have hp := hI.1
  have hw : ∀ (w : Int64) s, s < 96 + 8 * zD y + 8 → wr w y.1 s → (!wM w || sndB (wB w) (wT w)) = true := fun w s hs h => by
    rw [wr_M hM.2.2.1 h]
    cases e : y.1.1 s
    · rfl
    · obtain ⟨b1, b2, _⟩ := wr_r hM.2.2.1 h e
      have hk := (hM.2.2.1 s).2.2.2.2 e
      unfold sndB
      rw [b1, b2, (h8 s hs e).1, decide_eq_true ⟨hk.1, hk.2.1⟩]; rfl
  unfold sndS
  rw [Bool.and_eq_true, Bool.and_eq_true, Bool.and_eq_true, allF_iff, allF_iff, allF_iff, allF_iff]
  refine ⟨fun c hc => ?_, fun s hs => hw _ s (by omega) (h3.1 s hs), fun j hj => hw _ (96 + j) (by omega) (h3.2 j hj), fun c hc => ?_⟩
  · unfold rsC
    rw [allF_iff]
    intro k hk
    unfold rsP
    generalize hi : 32 + (sP x + 1) * 4 + k = i
    have hi2 : i < 96 := by omega
    cases e : bt (sT x).1.1 c i
    · rw [Bool.and_false]; rfl
    · have hr := (hRR c i hc (by omega)).mp e
      rcases reach_open hM hR hr with o | ⟨d, d1, d2, d3⟩ | o
      · omega
      · omega
      · rw [decide_eq_false (by omega : ¬ i < 64), h4a i hi2, decide_eq_false o.2]; rfl
  · unfold cntS
    exact decide_eq_true (h4c c hc).symm
/-! figures -/
theorem chk_eq (hM : MI y) (hR : Rel0 x y) : ∀ n, n ≤ 96 → chkF (sM x) n = chkM (zI y) (zN y) n
  | 0, _ => rfl
  | n + 1, hn => by
    have h := hR.2.2.1.1 n (by omega)
    rw [chkF, chkM, chk_eq hM hR n (by omega), wr_M hM.2.2.1 h, wr_N hM.2.2.1 h]
    congr 1
    show (if zI y n = true then nI 7 else nI 0).toInt64 = (if zI y n = true then (7 : Int64) else 0)
    cases zI y n <;> decide
theorem rts_eq (hM : MI y) (hR : Rel0 x y) : cntF (fun i => wM (sM x i)) 96 = cntF (zI y) 96 := cntF_congr 96 (fun j hj => wr_M hM.2.2.1 (hR.2.2.1.1 j hj))
theorem mrY_12 (y : YS) : ∀ c, (mrY y c).1 = y.1 ∧ (mrY y c).2.1 = y.2.1 ∧ (mrY y c).2.2.1 = y.2.2.1 ∧ zV (mrY y c) = zV y ∧ zK (mrY y c) = zK y
  | 0 => ⟨rfl, rfl, rfl, rfl, rfl⟩
  | c + 1 => mrY_12 y c
theorem fin_RC (hM : MI y) {c : Nat} (hc : c < 4) {q : Nat} (hq : q < 96) {y' : YS} (hM' : MI y') (h1 : y'.1 = y.1) (h2 : y'.2.1 = y.2.1) (h3 : y'.2.2.1 = y.2.2.1) : zE (finY c y') q = true ↔ RCM y c q := by
  show (finR y' c).1 q = true ↔ _
  rw [fin_sem hM' hc hq, RCM_eq (y := y) (y' := y') h1 (congrArg (fun z : CT => z.2.1) h2) (congrArg (fun z : CT => z.2.2.1) h2) (congrArg (fun z : HP => z.2.1) h3)]
theorem men_eq (hS : Sim x y) : ∀ n, n ≤ 4 → menF (sT x).1.1 n = nI (mrN y n)
  | 0, _ => rfl
  | n + 1, hn => by
    obtain ⟨hI, hM, hR, hRR⟩ := id hS
    obtain ⟨m1, m2, m3, m4, m5⟩ := mrY_12 y n
    rw [menF, men_eq hS n (by omega), size_eq (sT x).1.1 n (zE (finY n (mrY y n))) (fun q hq => ?_) (fun q q1 q2 => ?_), nI_add]
    · rfl
    · have a := hRR n q (by omega) (by omega)
      have b := fin_RC hM (c := n) (by omega) hq (mrY_MI hM n) m1 m2 m3
      cases z : zE (finY n (mrY y n)) q
      · cases z2 : bt (sT x).1.1 n q
        · rfl
        · rw [b.mpr (a.mp z2)] at z; exact absurd z (by decide)
      · exact a.mpr (b.mp z)
    · cases z2 : bt (sT x).1.1 n q
      · rfl
      · have := RCM_lt hM.2.2.1 ((hRR n q (by omega) q2).mp z2)
        omega
end HS
