/-! reach, as the least set that is closed -/
def FDa (o g : Nat → Prop) (eg : Nat → Nat → Prop) (q : Nat) : Prop := ∀ P : Nat → Prop, (∀ q, o q → P q) → (∀ q, g q → P q) → (∀ a b, P a → eg a b → P b) → P q
def RCa (o r g : Nat → Prop) (er eg : Nat → Nat → Prop) (q : Nat) : Prop := o q ∨ r q ∨ ∃ a, FDa o g eg a ∧ er a q
theorem FDa.o {o g : Nat → Prop} {eg : Nat → Nat → Prop} {q : Nat} (h : o q) : FDa o g eg q := fun _ h1 _ _ => h1 q h
theorem FDa.g {o g : Nat → Prop} {eg : Nat → Nat → Prop} {q : Nat} (h : g q) : FDa o g eg q := fun _ _ h2 _ => h2 q h
theorem FDa.e {o g : Nat → Prop} {eg : Nat → Nat → Prop} {a q : Nat} (h : FDa o g eg a) (h2 : eg a q) : FDa o g eg q := fun P p1 p2 p3 => p3 a q (h P p1 p2 p3) h2
/-! the class's search -/
def rng (b t q : Nat) : Prop := b ≤ q ∧ q < t
def rgW (w : Int64) (q : Nat) : Prop := rng (wB w) (wT w) q
def oC (c : Nat) (co : Nat → Nat) (pr q : Nat) : Prop := rng (c * 8) (c * 8 + 8) q ∨ ∃ d, d ≤ pr ∧ co d = c ∧ rng (32 + d * 4) (32 + d * 4 + 4) q
def rgC (X : Int64 → Bool) (c : Nat) (co : Nat → Nat) (rg : Nat → Int64) (pr q : Nat) : Prop := ∃ d, d ≤ pr ∧ co d = c ∧ ∃ r, r < 8 ∧ X (rg (d * 8 + r)) = true ∧ rgW (rg (d * 8 + r)) q
def eC (X : Int64 → Bool) (f : Nat → Int64) (st : Nat → Nat) (a q : Nat) : Prop := a < 96 ∧ wM (f a) = true ∧ ¬ stA st (wB (f a)) = 114 ∧ X (f a) = true ∧ rgW (f a) q
def QI (s : SS) : Prop := (∀ q, q < 128 → (bt s.1 0 q = true ↔ ∃ j, j < s.2.2 ∧ s.2.1 j = q)) ∧ cntF (bt s.1 0) 96 = s.2.2 ∧ ∀ j, j < s.2.2 → s.2.1 j < 96
theorem cnt_lt {p : Nat → Bool} {q : Nat} (h : p q = false) : ∀ n, q < n → cntF p n < n
  | 0, h0 => absurd h0 (Nat.not_lt_zero _)
  | n + 1, h0 => by
    rw [cntF]
    rcases Nat.lt_or_ge q n with e | e
    · have := cnt_lt h n e
      split <;> omega
    · have e2 : q = n := by omega
      subst e2
      rw [h]
      have := cntF_le p q
      simp; omega
theorem cnt_add1 {p p' : Nat → Bool} {q : Nat} (hp : ∀ j, j ≠ q → p' j = p j) (h : p q = false) (h' : p' q = true) : ∀ n, q < n → cntF p' n = cntF p n + 1
  | 0, h0 => absurd h0 (Nat.not_lt_zero _)
  | n + 1, h0 => by
    rw [cntF, cntF]
    rcases Nat.lt_or_ge q n with e | e
    · rw [cnt_add1 hp h h' n e, hp n (by omega)]; omega
    · have e2 : q = n := by omega
      subst e2
      rw [h, h', cntF_congr q (fun j hj => hp j (by omega))]; simp
theorem srF_sem (b : Nat) {s : SS} (hs : QI s) : ∀ n, b + n ≤ 96 → QI (srF b n s) ∧ (∀ q, q < 128 → (bt (srF b n s).1 0 q = true ↔ bt s.1 0 q = true ∨ rng b (b + n) q)) ∧ s.2.2 ≤ (srF b n s).2.2 ∧ (∀ j, j < s.2.2 → (srF b n s).2.1 j = s.2.1 j)
  | 0, _ => ⟨hs, fun q _ => ⟨Or.inl, fun h => h.elim id (fun z => by unfold rng at z; omega)⟩, Nat.le_refl _, fun _ _ => rfl⟩
  | n + 1, hn => by
    obtain ⟨i1, i2, i3, i4⟩ := srF_sem b hs n (by omega)
    by_cases h : bt (srF b n s).1 0 (b + n) = false
    · have hlt : (srF b n s).2.2 < 96 := by rw [← i1.2.1]; exact cnt_lt h 96 (by omega)
      rw [srF_y h hlt]
      have hb : ∀ q, q < 128 → (bt (addH (srF b n s).1 0 (b + n)) 0 q = true ↔ bt (srF b n s).1 0 q = true ∨ q = b + n) := fun q hq => by
        rw [bt_addH _ (by omega) hq, Bool.or_eq_true, decide_eq_true_eq]; simp
      refine ⟨⟨fun q hq => ?_, ?_, fun j hj => ?_⟩, fun q hq => ?_, by show s.2.2 ≤ (srF b n s).2.2 + 1; omega, fun j hj => ?_⟩
      · show bt (addH _ _ _) 0 q = true ↔ ∃ j, j < (srF b n s).2.2 + 1 ∧ va_up (srF b n s).2.1 (srF b n s).2.2 (b + n) j = q
        rw [hb q hq, i1.1 q hq]
        constructor
        · rintro (⟨j, j1, j2⟩ | rfl)
          · exact ⟨j, by omega, by rw [va_ne _ _ (by omega)]; exact j2⟩
          · exact ⟨_, Nat.lt_succ_self _, va_eq _ _ _⟩
        · rintro ⟨j, j1, j2⟩
          rcases Nat.lt_or_ge j (srF b n s).2.2 with e | e
          · rw [va_ne _ _ (by omega)] at j2; exact Or.inl ⟨j, e, j2⟩
          · rw [show j = (srF b n s).2.2 by omega, va_eq] at j2; exact Or.inr j2.symm
      · show cntF (bt (addH _ _ _) 0) 96 = (srF b n s).2.2 + 1
        rw [← i1.2.1]
        have : ∀ j, j < 96 → bt (addH (srF b n s).1 0 (b + n)) 0 j = (bt (srF b n s).1 0 j || decide (j = b + n)) := fun j hj => by
          rw [bt_addH _ (by omega) (by omega)]; simp
        rw [cntF_congr 96 this]
        exact cnt_add1 (fun j hj => by simp [hj]) h (by simp) 96 (by omega)
      · show va_up (srF b n s).2.1 (srF b n s).2.2 (b + n) j < 96
        have hj' : j < (srF b n s).2.2 + 1 := hj
        rcases Nat.lt_or_ge j (srF b n s).2.2 with e | e
        · rw [va_ne _ _ (by omega)]; exact i1.2.2 j e
        · rw [show j = (srF b n s).2.2 by omega, va_eq]; omega
      · show bt (addH _ _ _) 0 q = true ↔ _
        rw [hb q hq, i2 q hq]
        unfold rng
        constructor
        · rintro ((z | z) | z)
          · exact Or.inl z
          · right; omega
          · right; omega
        · rintro (z | z)
          · exact Or.inl (Or.inl z)
          · rcases Nat.lt_or_ge q (b + n) with e | e
            · exact Or.inl (Or.inr ⟨z.1, e⟩)
            · right; omega
      · show va_up (srF b n s).2.1 (srF b n s).2.2 (b + n) j = s.2.1 j
        rw [va_ne _ _ (by omega)]; exact i4 j hj
    · have ht : bt (srF b n s).1 0 (b + n) = true := by cases e : bt (srF b n s).1 0 (b + n) <;> simp_all
      rw [srF_n1 ht]
      refine ⟨i1, fun q hq => ?_, i3, i4⟩
      rw [i2 q hq]
      unfold rng
      constructor
      · rintro (z | z)
        · exact Or.inl z
        · right; omega
      · rintro (z | z)
        · exact Or.inl z
        · rcases Nat.lt_or_ge q (b + n) with e | e
          · exact Or.inr ⟨z.1, e⟩
          · have e2 : q = b + n := by omega
            subst e2
            exact (i2 _ hq).mp ht
/-- T' is T with N in what is reached by c, and with G in what is searched -/
def Adds (c : Nat) (T T' : TT) (N G : Nat → Prop) : Prop := (∀ q, q < 128 → (bt T'.1 c q = true ↔ bt T.1 c q = true ∨ N q)) ∧ (∀ c' q, c' ≠ c → q < 128 → bt T'.1 c' q = bt T.1 c' q) ∧ (QI T.2 → QI T'.2 ∧ (∀ q, q < 128 → (bt T'.2.1 0 q = true ↔ bt T.2.1 0 q = true ∨ G q)) ∧ T.2.2.2 ≤ T'.2.2.2 ∧ ∀ j, j < T.2.2.2 → T'.2.2.1 j = T.2.2.1 j)
theorem Adds.no (c : Nat) (T : TT) {N G : Nat → Prop} (h1 : ∀ q, ¬ N q) (h2 : ∀ q, ¬ G q) : Adds c T T N G := ⟨fun q _ => ⟨Or.inl, fun z => z.elim id (fun w => absurd w (h1 q))⟩, fun _ _ _ _ => rfl, fun h => ⟨h, fun q _ => ⟨Or.inl, fun z => z.elim id (fun w => absurd w (h2 q))⟩, Nat.le_refl _, fun _ _ => rfl⟩⟩
theorem Adds.tr {c : Nat} {T T' T'' : TT} {N G N' G' : Nat → Prop} (h : Adds c T T' N G) (h' : Adds c T' T'' N' G') : Adds c T T'' (fun q => N q ∨ N' q) (fun q => G q ∨ G' q) := by
  refine ⟨fun q hq => by rw [h'.1 q hq, h.1 q hq, or_assoc], fun c' q h1 h2 => (h'.2.1 c' q h1 h2).trans (h.2.1 c' q h1 h2), fun hQ => ?_⟩
  obtain ⟨a1, a2, a3, a4⟩ := h.2.2 hQ
  obtain ⟨b1, b2, b3, b4⟩ := h'.2.2 a1
  exact ⟨b1, fun q hq => by rw [b2 q hq, a2 q hq, or_assoc], Nat.le_trans a3 b3, fun j hj => (b4 j (Nat.lt_of_lt_of_le hj a3)).trans (a4 j hj)⟩
theorem Adds.eq {c : Nat} {T T' : TT} {N G N' G' : Nat → Prop} (h : Adds c T T' N G) (h1 : ∀ q, N q ↔ N' q) (h2 : ∀ q, G q ↔ G' q) : Adds c T T' N' G' :=
  ⟨fun q hq => by rw [h.1 q hq, h1 q], h.2.1, fun hQ => by
    obtain ⟨a1, a2, a3, a4⟩ := h.2.2 hQ
    exact ⟨a1, fun q hq => by rw [a2 q hq, h2 q], a3, a4⟩⟩
theorem ownT_adds {c b t : Nat} (T : TT) (hb : b ≤ t) (ht : t ≤ 96) : Adds c T (ownT c b t T) (rng b t) (rng b t) := by
  refine ⟨fun q hq => ?_, fun c' q h1 hq => ?_, fun hQ => ?_⟩
  · show bt (rngH _ _ _ _) c q = true ↔ _
    rw [bt_rngH _ (by omega) (by omega) hq, Bool.or_eq_true, decide_eq_true_eq]; unfold rng; simp
  · show bt (rngH _ _ _ _) c' q = _
    rw [bt_rngH _ (by omega) (by omega) hq, decide_eq_false (fun z => h1 z.1), Bool.or_false]
  · have h := srF_sem b hQ (t - b) (by omega)
    rw [show b + (t - b) = t by omega] at h
    exact h
def okw (w : Int64) : Prop := wM w = true → wB w < wT w ∧ wT w ≤ 96
theorem rwW_M {w : Int64} (h : rwW w = true) : wM w = true := by
  unfold rwW okW at h; simp only [Bool.and_eq_true] at h; exact h.1.1
theorem goW_M {w : Int64} (h : goW w = true) : wM w = true := by
  unfold goW okW at h; simp only [Bool.and_eq_true] at h; exact h.1.1
theorem folT_adds {c : Nat} {w : Int64} (T : TT) (hw : okw w) : Adds c T (folT c w T) (fun q => rwW w = true ∧ rgW w q) (fun q => goW w = true ∧ rgW w q) := by
  refine ⟨fun q hq => ?_, fun c' q h1 hq => ?_, fun hQ => ?_⟩
  · show bt (if rwW w = true then _ else _) c q = true ↔ _
    cases e : rwW w
    · simp
    · have := hw (rwW_M e)
      rw [if_pos rfl, bt_rngH _ (by omega) (by omega) hq, Bool.or_eq_true, decide_eq_true_eq]; unfold rgW rng; simp
  · show bt (if rwW w = true then _ else _) c' q = _
    cases e : rwW w
    · rfl
    · have := hw (rwW_M e)
      rw [if_pos rfl, bt_rngH _ (by omega) (by omega) hq, decide_eq_false (fun z => h1 z.1), Bool.or_false]
  · show QI (if goW w = true ∧ hasR T.2.1 0 (nI (wB w)) (nI (wT w)) = false then _ else T.2) ∧ _
    have es : (folT c w T).2 = if goW w = true ∧ hasR T.2.1 0 (nI (wB w)) (nI (wT w)) = false then srF (wB w) (wT w - wB w) T.2 else T.2 := rfl
    rw [es]
    cases e : goW w
    · rw [if_neg (fun z => absurd z.1 (by decide))]
      exact ⟨hQ, fun q _ => by simp, Nat.le_refl _, fun _ _ => rfl⟩
    · have hb := hw (goW_M e)
      cases e2 : hasR T.2.1 0 (nI (wB w)) (nI (wT w))
      · rw [if_pos ⟨rfl, rfl⟩]
        have h := srF_sem (wB w) hQ (wT w - wB w) (by omega)
        rw [show wB w + (wT w - wB w) = wT w by omega] at h
        exact ⟨h.1, fun q hq => by rw [h.2.1 q hq]; unfold rgW; simp, h.2.2⟩
      · rw [if_neg (fun z => absurd z.2 (by decide))]
        refine ⟨hQ, fun q hq => ⟨Or.inl, fun z => z.elim id (fun z => ?_)⟩, Nat.le_refl _, fun _ _ => rfl⟩
        exact (hasR_iff _ (by omega) (by omega)).mp e2 q z.2.1 z.2.2
theorem stR_adds {c : Nat} {rg : Nat → Int64} {d : Nat} (T : TT) (hr : ∀ r, r < 8 → okw (rg (d * 8 + r))) : ∀ n, n ≤ 8 → Adds c T (stR c rg d n T) (fun q => ∃ r, r < n ∧ rwW (rg (d * 8 + r)) = true ∧ rgW (rg (d * 8 + r)) q) (fun q => ∃ r, r < n ∧ goW (rg (d * 8 + r)) = true ∧ rgW (rg (d * 8 + r)) q)
  | 0, _ => Adds.no c T (fun _ z => by obtain ⟨r, h, _⟩ := z; omega) (fun _ z => by obtain ⟨r, h, _⟩ := z; omega)
  | n + 1, hn => by
    refine ((stR_adds T hr n (by omega)).tr (folT_adds (c := c) (stR c rg d n T) (hr n (by omega)))).eq (fun q => ?_) (fun q => ?_)
    all_goals
      constructor
      · rintro (⟨r, h1, h2⟩ | h2)
        · exact ⟨r, by omega, h2⟩
        · exact ⟨n, Nat.lt_succ_self n, h2⟩
      · rintro ⟨r, h1, h2⟩
        rcases Nat.lt_or_ge r n with e | e
        · exact Or.inl ⟨r, e, h2⟩
        · have e2 : r = n := by omega
          subst e2; exact Or.inr h2
theorem stD_adds {c : Nat} {co : Nat → Nat} {rg : Nat → Int64} {pr : Nat} (hp : pr < 8) (T : TT) (hr : ∀ j, j < (pr + 1) * 8 → okw (rg j)) : ∀ n, n ≤ pr + 1 → Adds c T (stD c co rg n T) (fun q => ∃ d, d < n ∧ co d = c ∧ (rng (32 + d * 4) (32 + d * 4 + 4) q ∨ ∃ r, r < 8 ∧ rwW (rg (d * 8 + r)) = true ∧ rgW (rg (d * 8 + r)) q)) (fun q => ∃ d, d < n ∧ co d = c ∧ (rng (32 + d * 4) (32 + d * 4 + 4) q ∨ ∃ r, r < 8 ∧ goW (rg (d * 8 + r)) = true ∧ rgW (rg (d * 8 + r)) q))
  | 0, _ => Adds.no c T (fun _ z => by obtain ⟨r, h, _⟩ := z; omega) (fun _ z => by obtain ⟨r, h, _⟩ := z; omega)
  | n + 1, hn => by
    have ih := stD_adds (c := c) (co := co) hp T hr n (by omega)
    by_cases e : co n = c
    · rw [stD_y e]
      refine ((ih.tr (ownT_adds (c := c) (b := 32 + n * 4) (t := 32 + n * 4 + 4) (stD c co rg n T) (by omega) (by omega))).tr (stR_adds (c := c) (rg := rg) (d := n) _ (fun r h => hr _ (by omega)) 8 (Nat.le_refl 8))).eq (fun q => ?_) (fun q => ?_)
      all_goals
        constructor
        · rintro ((⟨d, h1, h2, h3⟩ | h3) | h3)
          · exact ⟨d, by omega, h2, h3⟩
          · exact ⟨n, Nat.lt_succ_self n, e, Or.inl h3⟩
          · exact ⟨n, Nat.lt_succ_self n, e, Or.inr h3⟩
        · rintro ⟨d, h1, h2, h3⟩
          rcases Nat.lt_or_ge d n with e3 | e3
          · exact Or.inl (Or.inl ⟨d, e3, h2, h3⟩)
          · have e2 : d = n := by omega
            subst e2
            rcases h3 with h3 | h3
            · exact Or.inl (Or.inr h3)
            · exact Or.inr h3
    · rw [stD_n e]
      refine ih.eq (fun q => ?_) (fun q => ?_)
      all_goals
        constructor
        · rintro ⟨d, h1, h2⟩; exact ⟨d, by omega, h2⟩
        · rintro ⟨d, h1, h2, h3⟩
          rcases Nat.lt_or_ge d n with e3 | e3
          · exact ⟨d, e3, h2, h3⟩
          · have e2 : d = n := by omega
            subst e2; exact absurd h2 e
section NT
variable {f : Nat → Int64} {co : Nat → Nat} {rg : Nat → Int64} {pr : Nat} {st : Nat → Nat} {c : Nat}
def FDC (f : Nat → Int64) (co : Nat → Nat) (rg : Nat → Int64) (pr : Nat) (st : Nat → Nat) (c : Nat) : Nat → Prop := FDa (oC c co pr) (rgC goW c co rg pr) (eC goW f st)
def RCC (f : Nat → Int64) (co : Nat → Nat) (rg : Nat → Int64) (pr : Nat) (st : Nat → Nat) (c : Nat) : Nat → Prop := RCa (oC c co pr) (rgC rwW c co rg pr) (rgC goW c co rg pr) (eC rwW f st) (eC goW f st)
/-- what the search keeps -/
def BI (f : Nat → Int64) (co : Nat → Nat) (rg : Nat → Int64) (pr : Nat) (st : Nat → Nat) (c i : Nat) (T0 T : TT) : Prop := QI T.2 ∧ (∀ q, q < 128 → bt T.1 c q = true → RCC f co rg pr st c q) ∧ (∀ q, q < 128 → bt T.2.1 0 q = true → FDC f co rg pr st c q) ∧ (∀ q, q < 128 → bt T0.1 c q = true → bt T.1 c q = true) ∧ (∀ q, q < 128 → bt T0.2.1 0 q = true → bt T.2.1 0 q = true) ∧ (∀ c' q, c' ≠ c → q < 128 → bt T.1 c' q = bt T0.1 c' q) ∧ ∀ j, j < i → j < T.2.2.2 → wM (f (T.2.2.1 j)) = true → ¬ stA st (wB (f (T.2.2.1 j))) = 114 → ∀ q, q < 128 → rgW (f (T.2.2.1 j)) q → (rwW (f (T.2.2.1 j)) = true → bt T.1 c q = true) ∧ (goW (f (T.2.2.1 j)) = true → bt T.2.1 0 q = true)
theorem bf_BI {T0 : TT} (hf : ∀ j, j < 96 → okw (f j)) (h0 : BI f co rg pr st c 0 T0 T0) : ∀ i, BI f co rg pr st c i T0 (bfF f st c i T0)
  | 0 => h0
  | i + 1 => by
    have ih := bf_BI hf h0 i
    obtain ⟨a1, a2, a3, a4, a5, a6, a7⟩ := ih
    by_cases h : i < (bfF f st c i T0).2.2.2 ∧ wM (f ((bfF f st c i T0).2.2.1 i)) = true ∧ ¬ stA st (wB (f ((bfF f st c i T0).2.2.1 i))) = 114
    · rw [bfF_y h.1 h.2.1 h.2.2]
      generalize hT : bfF f st c i T0 = T at *
      have hq96 := a1.2.2 i h.1
      have hA := folT_adds (c := c) (w := f (T.2.2.1 i)) T (hf _ hq96)
      generalize folT c (f (T.2.2.1 i)) T = T' at hA ⊢
      obtain ⟨b1, b2, b3, b4⟩ := hA.2.2 a1
      have hFD : FDC f co rg pr st c (T.2.2.1 i) := a3 _ (by omega) ((a1.1 _ (by omega)).mpr ⟨i, h.1, rfl⟩)
      refine ⟨b1, fun q hq z => ?_, fun q hq z => ?_, fun q hq z => (hA.1 q hq).mpr (Or.inl (a4 q hq z)), fun q hq z => (b2 q hq).mpr (Or.inl (a5 q hq z)), fun c' q h1 h2 => (hA.2.1 c' q h1 h2).trans (a6 c' q h1 h2), fun j j1 j2 => ?_⟩
      · rcases (hA.1 q hq).mp z with z | z
        · exact a2 q hq z
        · exact Or.inr (Or.inr ⟨_, hFD, hq96, h.2.1, h.2.2, z.1, z.2⟩)
      · rcases (b2 q hq).mp z with z | z
        · exact a3 q hq z
        · exact hFD.e ⟨hq96, h.2.1, h.2.2, z.1, z.2⟩
      · have jl : j < T.2.2.2 := by omega
        rw [b4 j jl]
        intro k1 k2 q hq k3
        rcases Nat.lt_or_ge j i with e | e
        · have := a7 j e jl k1 k2 q hq k3
          exact ⟨fun z => (hA.1 q hq).mpr (Or.inl (this.1 z)), fun z => (b2 q hq).mpr (Or.inl (this.2 z))⟩
        · have e2 : j = i := by omega
          subst e2
          exact ⟨fun z => (hA.1 q hq).mpr (Or.inr ⟨z, k3⟩), fun z => (b2 q hq).mpr (Or.inr ⟨z, k3⟩)⟩
    · have e : bfF f st c (i + 1) T0 = bfF f st c i T0 := by rw [bfF, if_neg h]
      rw [e]
      refine ⟨a1, a2, a3, a4, a5, a6, fun j j1 j2 k1 k2 => ?_⟩
      rcases Nat.lt_or_ge j i with e | e
      · exact a7 j e j2 k1 k2
      · have e2 : j = i := by omega
        subst e2
        exact absurd ⟨j2, k1, k2⟩ h
theorem ntC_sem (hc : c < 4) (hp : pr < 8) (hf : ∀ j, j < 96 → okw (f j)) (hr : ∀ j, j < (pr + 1) * 8 → okw (rg j)) (T : TT) : (∀ q, q < 128 → (bt (ntC f co rg pr st c T).1 c q = true ↔ RCC f co rg pr st c q)) ∧ ∀ c' q, c' ≠ c → q < 128 → bt (ntC f co rg pr st c T).1 c' q = bt T.1 c' q := by
  unfold ntC
  have hQ0 : QI (clrH T.2.1 0, T.2.2.1, 0) := by
    refine ⟨fun q hq => ?_, ?_, fun j hj => absurd hj (Nat.not_lt_zero j)⟩
    · show bt (clrH _ 0) 0 q = true ↔ _
      rw [bt_clrH _ hq]
      constructor
      · intro z; exact absurd z (by simp)
      · rintro ⟨j, j1, _⟩; exact absurd j1 (Nat.not_lt_zero j)
    · exact cntF_zero 96 (fun j hj => by rw [bt_clrH _ (by omega)]; simp)
  have hA := (ownT_adds (c := c) (b := c * 8) (t := c * 8 + 8) (clrH T.1 c, clrH T.2.1 0, T.2.2.1, 0) (by omega) (by omega)).tr (stD_adds (c := c) (co := co) (rg := rg) hp _ hr (pr + 1) (Nat.le_refl _))
  generalize hT1 : stD c co rg (pr + 1) (ownT c (c * 8) (c * 8 + 8) (clrH T.1 c, clrH T.2.1 0, T.2.2.1, 0)) = T1 at hA ⊢
  obtain ⟨b1, b2, b3, b4⟩ := hA.2.2 hQ0
  have n0 : ∀ q, q < 128 → (bt T1.1 c q = true ↔ oC c co pr q ∨ rgC rwW c co rg pr q) := fun q hq => by
    rw [hA.1 q hq]
    show bt (clrH T.1 c) c q = true ∨ _ ↔ _
    rw [bt_clrH _ hq]
    simp only [decide_true, Bool.not_true, Bool.false_and, Bool.false_eq_true, false_or]
    unfold oC rgC
    constructor
    · rintro (h | ⟨d, d1, d2, h | h⟩)
      · exact Or.inl (Or.inl h)
      · exact Or.inl (Or.inr ⟨d, by omega, d2, h⟩)
      · exact Or.inr ⟨d, by omega, d2, h⟩
    · rintro ((h | ⟨d, d1, d2, h⟩) | ⟨d, d1, d2, h⟩)
      · exact Or.inl h
      · exact Or.inr ⟨d, by omega, d2, Or.inl h⟩
      · exact Or.inr ⟨d, by omega, d2, Or.inr h⟩
  have g0 : ∀ q, q < 128 → (bt T1.2.1 0 q = true ↔ oC c co pr q ∨ rgC goW c co rg pr q) := fun q hq => by
    rw [b2 q hq]
    show bt (clrH T.2.1 0) 0 q = true ∨ _ ↔ _
    rw [bt_clrH _ hq]
    simp only [decide_true, Bool.not_true, Bool.false_and, Bool.false_eq_true, false_or]
    unfold oC rgC
    constructor
    · rintro (h | ⟨d, d1, d2, h | h⟩)
      · exact Or.inl (Or.inl h)
      · exact Or.inl (Or.inr ⟨d, by omega, d2, h⟩)
      · exact Or.inr ⟨d, by omega, d2, h⟩
    · rintro ((h | ⟨d, d1, d2, h⟩) | ⟨d, d1, d2, h⟩)
      · exact Or.inl h
      · exact Or.inr ⟨d, by omega, d2, Or.inl h⟩
      · exact Or.inr ⟨d, by omega, d2, Or.inr h⟩
  have h0 : BI f co rg pr st c 0 T1 T1 := by
    refine ⟨b1, fun q hq z => ?_, fun q hq z => ?_, fun q _ z => z, fun q _ z => z, fun _ _ _ _ => rfl, fun j hj => absurd hj (Nat.not_lt_zero j)⟩
    · rcases (n0 q hq).mp z with z | z
      · exact Or.inl z
      · exact Or.inr (Or.inl z)
    · rcases (g0 q hq).mp z with z | z
      · exact FDa.o z
      · exact FDa.g z
  have hB := bf_BI hf h0 96
  generalize bfF f st c 96 T1 = T2 at hB ⊢
  obtain ⟨a1, a2, a3, a4, a5, a6, a7⟩ := hB
  have hle : T2.2.2.2 ≤ 96 := by rw [← a1.2.1]; exact cntF_le _ 96
  have ho : ∀ q, oC c co pr q → q < 96 := fun q z => by
    unfold oC rng at z
    rcases z with z | ⟨d, d1, d2, z⟩ <;> omega
  have hg : ∀ (X : Int64 → Bool), (∀ w, X w = true → wM w = true) → ∀ q, rgC X c co rg pr q → q < 96 := fun X hX q z => by
    obtain ⟨d, d1, d2, r, r1, r2, r3⟩ := z
    have := (hr _ (by omega)) (hX _ r2)
    have := r3.2
    omega
  have hcl : ∀ a, FDC f co rg pr st c a → a < 96 ∧ bt T2.2.1 0 a = true := fun a hF => by
    refine hF (fun a => a < 96 ∧ bt T2.2.1 0 a = true) (fun q z => ?_) (fun q z => ?_) (fun a b z hab => ?_)
    · have hq := ho q z
      exact ⟨hq, a5 q (by omega) ((g0 q (by omega)).mpr (Or.inl z))⟩
    · have hq := hg goW (fun w => goW_M) q z
      exact ⟨hq, a5 q (by omega) ((g0 q (by omega)).mpr (Or.inr z))⟩
    · obtain ⟨e1, e2, e3, e4, e5⟩ := hab
      have hw := hf a e1 e2
      have hb : b < 96 := by have := e5.2; omega
      obtain ⟨j, j1, j2⟩ := (a1.1 a (by omega)).mp z.2
      have := a7 j (by omega) j1
      rw [j2] at this
      exact ⟨hb, (this e2 e3 b (by omega) e5).2 e4⟩
  refine ⟨fun q hq => ⟨a2 q hq, fun z => ?_⟩, fun c' q h1 h2 => (a6 c' q h1 h2).trans ((hA.2.1 c' q h1 h2).trans ?_)⟩
  · rcases z with z | z | ⟨a, z1, z2⟩
    · exact a4 q hq ((n0 q hq).mpr (Or.inl z))
    · exact a4 q hq ((n0 q hq).mpr (Or.inr z))
    · have ha := hcl a z1
      obtain ⟨e1, e2, e3, e4, e5⟩ := z2
      obtain ⟨j, j1, j2⟩ := (a1.1 a (by omega)).mp ha.2
      have := a7 j (by omega) j1
      rw [j2] at this
      exact (this e2 e3 q hq e5).1 e4
  · show bt (clrH T.1 c) c' q = bt T.1 c' q
    rw [bt_clrH _ h2, decide_eq_false h1]; rfl
theorem ntN_sem (hp : pr < 8) (hf : ∀ j, j < 96 → okw (f j)) (hr : ∀ j, j < (pr + 1) * 8 → okw (rg j)) (N : NN) : ∀ n, n ≤ 4 → (∀ c q, c < n → q < 128 → (bt (ntN f co rg pr st n N).1.1 c q = true ↔ RCC f co rg pr st c q)) ∧ (∀ c q, c < n → q < 128 → bt (ntN f co rg pr st n N).2 c q = (bt N.2 c q || bt (ntN f co rg pr st n N).1.1 c q)) ∧ ∀ c q, n ≤ c → q < 128 → bt (ntN f co rg pr st n N).2 c q = bt N.2 c q
  | 0, _ => ⟨fun c q h => absurd h (Nat.not_lt_zero c), fun c q h => absurd h (Nat.not_lt_zero c), fun _ _ _ _ => rfl⟩
  | n + 1, hn => by
    obtain ⟨i1, i2, i3⟩ := ntN_sem hp hf hr N n (by omega)
    have h := ntC_sem (f := f) (co := co) (rg := rg) (st := st) (c := n) (by omega) hp hf hr (ntN f co rg pr st n N).1
    rw [ntN]
    refine ⟨fun c q hc hq => ?_, fun c q hc hq => ?_, fun c q hc hq => ?_⟩
    · by_cases e : c = n
      · subst e; exact h.1 q hq
      · rw [h.2 c q e hq]; exact i1 c q (by omega) hq
    · show bt (allH _ _ n) c q = _
      rw [bt_allH _ _ hq]
      by_cases e : c = n
      · subst e; rw [i3 c q (Nat.le_refl c) hq, decide_eq_true rfl, Bool.true_and]
      · rw [decide_eq_false e, Bool.false_and, Bool.or_false, i2 c q (by omega) hq, h.2 c q e hq]
    · show bt (allH _ _ n) c q = _
      rw [bt_allH _ _ hq, decide_eq_false (by omega), Bool.false_and, Bool.or_false, i3 c q (by omega) hq]
theorem nt4_now (hp : pr < 8) (hf : ∀ j, j < 96 → okw (f j)) (hr : ∀ j, j < (pr + 1) * 8 → okw (rg j)) (N : NN) {c q : Nat} (hc : c < 4) (hq : q < 128) : bt (nt4 f co rg pr st N).1.1 c q = true ↔ RCC f co rg pr st c q := by
  rw [nt4_eq]; exact (ntN_sem hp hf hr N 4 (Nat.le_refl 4)).1 c q hc hq
theorem nt4_ever (hp : pr < 8) (hf : ∀ j, j < 96 → okw (f j)) (hr : ∀ j, j < (pr + 1) * 8 → okw (rg j)) (N : NN) {c q : Nat} (hc : c < 4) (hq : q < 128) : bt (nt4 f co rg pr st N).2 c q = (bt N.2 c q || bt (nt4 f co rg pr st N).1.1 c q) := by
  rw [nt4_eq]; exact (ntN_sem hp hf hr N 4 (Nat.le_refl 4)).2.1 c q hc hq
end NT
