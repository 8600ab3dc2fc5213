/-! the model's search -/
def oM (y : YS) (c q : Nat) : Prop := q < 96 ∧ ownC (zD y) (zR y) c q = true
def inS (w : WW) (s q : Nat) : Prop := rng (w.2.2.1 s) (w.2.2.2.1 s) q
def rgM (X : WW → Nat → Bool) (y : YS) (c q : Nat) : Prop := ∃ d, d ≤ zD y ∧ zR y d = c ∧ ∃ r, r < 8 ∧ X y.1 (96 + 8 * d + r) = true ∧ inS y.1 (96 + 8 * d + r) q
def eM (X : WW → Nat → Bool) (y : YS) (a q : Nat) : Prop := a < 96 ∧ y.1.1 a = true ∧ rsW y.1 (zA y) a = false ∧ X y.1 a = true ∧ inS y.1 a q
def FDM (y : YS) (c : Nat) : Nat → Prop := FDa (oM y c) (rgM gdW y c) (eM gdW y)
def RCM (y : YS) (c : Nat) : Nat → Prop := RCa (oM y c) (rgM rdW y c) (rgM gdW y c) (eM rdW y) (eM gdW y)
theorem tkF_e (g : Bool) (b : Nat) (r : R2) : ∀ k q, (tkF g b k r).1 q = true ↔ r.1 q = true ∨ rng b (b + k) q
  | 0, q => ⟨Or.inl, fun h => h.elim id (fun z => by unfold rng at z; omega)⟩
  | k + 1, q => by
    rw [tkF_s]
    show va_up (tkF g b k r).1 (b + k) true q = true ↔ _
    by_cases e : q = b + k
    · subst e; rw [va_eq]; exact ⟨fun _ => Or.inr ⟨by omega, by omega⟩, fun _ => rfl⟩
    · rw [va_ne _ _ e, tkF_e g b r k q]; unfold rng
      constructor
      · rintro (z | z)
        · exact Or.inl z
        · right; omega
      · rintro (z | z)
        · exact Or.inl z
        · right; omega
theorem tkF_f (g : Bool) (b : Nat) (r : R2) : ∀ k q, (tkF g b k r).2.1 q = true ↔ r.2.1 q = true ∨ (g = true ∧ rng b (b + k) q)
  | 0, q => ⟨Or.inl, fun h => h.elim id (fun z => by have := z.2; unfold rng at this; omega)⟩
  | k + 1, q => by
    rw [tkF_s]
    show va_up (tkF g b k r).2.1 (b + k) ((tkF g b k r).2.1 (b + k) || g) q = true ↔ _
    by_cases e : q = b + k
    · subst e; rw [va_eq, Bool.or_eq_true, tkF_f g b r k (b + k)]; unfold rng
      constructor
      · rintro ((z | z) | z)
        · exact Or.inl z
        · exact Or.inr ⟨z.1, by omega, by omega⟩
        · exact Or.inr ⟨z, by omega, by omega⟩
      · rintro (z | z)
        · exact Or.inl (Or.inl z)
        · exact Or.inr z.1
    · rw [va_ne _ _ e, tkF_f g b r k q]; unfold rng
      constructor
      · rintro (z | z)
        · exact Or.inl z
        · exact Or.inr ⟨z.1, by omega, by omega⟩
      · rintro (z | z)
        · exact Or.inl z
        · exact Or.inr ⟨z.1, by omega, by omega⟩
theorem va_self {α : Type} (f : Nat → α) (i : Nat) (v : α) (h : f i = v) : va_up f i v = f := by
  funext j; unfold va_up; split
  · rename_i e; rw [e, h]
  · rfl
theorem tkF_no (g : Bool) (b : Nat) (r : R2) : ∀ k, (tkF g b k r).2.2 = false → (tkF g b k r).1 = r.1 ∧ (tkF g b k r).2.1 = r.2.1
  | 0, _ => ⟨rfl, rfl⟩
  | k + 1, h => by
    rw [tkF_s] at h ⊢
    have h' : ((tkF g b k r).2.2 || (!(tkF g b k r).1 (b + k) || (g && !(tkF g b k r).2.1 (b + k)))) = false := h
    rw [Bool.or_eq_false_iff, Bool.or_eq_false_iff] at h'
    obtain ⟨h1, h2, h3⟩ := h'
    have ih := tkF_no g b r k h1
    have h2' : (tkF g b k r).1 (b + k) = true := by cases e : (tkF g b k r).1 (b + k) <;> simp_all
    have h3' : ((tkF g b k r).2.1 (b + k) || g) = (tkF g b k r).2.1 (b + k) := by
      cases e : (tkF g b k r).2.1 (b + k) <;> cases g <;> simp_all
    refine ⟨?_, ?_⟩
    · show va_up (tkF g b k r).1 (b + k) true = r.1
      rw [va_self _ _ _ h2', ih.1]
    · show va_up (tkF g b k r).2.1 (b + k) ((tkF g b k r).2.1 (b + k) || g) = r.2.1
      rw [h3', va_self _ _ _ rfl, ih.2]
theorem gd_rd {w : WW} {s : Nat} (h : gdW w s = true) : rdW w s = true := by unfold gdW at h; exact (Bool.and_eq_true _ _ ▸ h).1
theorem tk_e {w : WW} (hw : wOk w) (s : Nat) (e f : Nat → Bool) (q : Nat) : (takR w s e f).1 q = true ↔ e q = true ∨ (rdW w s = true ∧ inS w s q) := by
  unfold takR
  split
  · rename_i h
    have hb := (hw s).2.2.2.2 (rdW_r h)
    rw [tkF_e, show w.2.2.1 s + (w.2.2.2.1 s - w.2.2.1 s) = w.2.2.2.1 s by omega]
    unfold inS; simp [h]
  · rename_i h; simp [h]
theorem tk_f {w : WW} (hw : wOk w) (s : Nat) (e f : Nat → Bool) (q : Nat) : (takR w s e f).2.1 q = true ↔ f q = true ∨ (gdW w s = true ∧ inS w s q) := by
  unfold takR
  split
  · rename_i h
    have hb := (hw s).2.2.2.2 (rdW_r h)
    rw [tkF_f, show w.2.2.1 s + (w.2.2.2.1 s - w.2.2.1 s) = w.2.2.2.1 s by omega]
    unfold inS; simp
  · rename_i h
    have : ¬ gdW w s = true := fun z => h (gd_rd z)
    simp [this]
theorem tk_no {w : WW} {s : Nat} {e f : Nat → Bool} (h : (takR w s e f).2.2 = false) : (takR w s e f).1 = e ∧ (takR w s e f).2.1 = f := by
  unfold takR at h ⊢
  split
  · rename_i g; rw [if_pos g] at h; exact tkF_no _ _ _ _ h
  · exact ⟨rfl, rfl⟩
def AddM (r r' : R1) (N G : Nat → Prop) : Prop := (∀ q, r'.1 q = true ↔ r.1 q = true ∨ N q) ∧ ∀ q, r'.2 q = true ↔ r.2 q = true ∨ G q
theorem rgR_adds {w : WW} (hw : wOk w) (d : Nat) (r : R1) : ∀ n, AddM r (rgR w d n r) (fun q => ∃ j, j < n ∧ rdW w (96 + 8 * d + j) = true ∧ inS w (96 + 8 * d + j) q) (fun q => ∃ j, j < n ∧ gdW w (96 + 8 * d + j) = true ∧ inS w (96 + 8 * d + j) q)
  | 0 => ⟨fun q => ⟨Or.inl, fun h => h.elim id (fun z => by obtain ⟨j, z, _⟩ := z; omega)⟩, fun q => ⟨Or.inl, fun h => h.elim id (fun z => by obtain ⟨j, z, _⟩ := z; omega)⟩⟩
  | n + 1 => by
    have ih := rgR_adds hw d r n
    refine ⟨fun q => ?_, fun q => ?_⟩
    · show (takR w (96 + 8 * d + n) (rgR w d n r).1 (rgR w d n r).2).1 q = true ↔ _
      rw [tk_e hw, ih.1 q, or_assoc]
      refine or_congr Iff.rfl ⟨?_, ?_⟩
      · rintro (⟨j, h1, h2⟩ | h2)
        · exact ⟨j, by omega, h2⟩
        · exact ⟨n, Nat.lt_succ_self n, h2⟩
      · rintro ⟨j, h1, h2⟩
        rcases Nat.lt_or_ge j n with e | e
        · exact Or.inl ⟨j, e, h2⟩
        · have e2 : j = n := by omega
          subst e2; exact Or.inr h2
    · show (takR w (96 + 8 * d + n) (rgR w d n r).1 (rgR w d n r).2).2.1 q = true ↔ _
      rw [tk_f hw, ih.2 q, or_assoc]
      refine or_congr Iff.rfl ⟨?_, ?_⟩
      · rintro (⟨j, h1, h2⟩ | h2)
        · exact ⟨j, by omega, h2⟩
        · exact ⟨n, Nat.lt_succ_self n, h2⟩
      · rintro ⟨j, h1, h2⟩
        rcases Nat.lt_or_ge j n with e | e
        · exact Or.inl ⟨j, e, h2⟩
        · have e2 : j = n := by omega
          subst e2; exact Or.inr h2
theorem dpR_adds {w : WW} (hw : wOk w) (ru : Nat → Nat) (c : Nat) (r : R1) : ∀ n, AddM r (dpR w ru c n r) (fun q => ∃ d, d < n ∧ ru d = c ∧ ∃ j, j < 8 ∧ rdW w (96 + 8 * d + j) = true ∧ inS w (96 + 8 * d + j) q) (fun q => ∃ d, d < n ∧ ru d = c ∧ ∃ j, j < 8 ∧ gdW w (96 + 8 * d + j) = true ∧ inS w (96 + 8 * d + j) q)
  | 0 => ⟨fun q => ⟨Or.inl, fun h => h.elim id (fun z => by obtain ⟨j, z, _⟩ := z; omega)⟩, fun q => ⟨Or.inl, fun h => h.elim id (fun z => by obtain ⟨j, z, _⟩ := z; omega)⟩⟩
  | n + 1 => by
    have ih := dpR_adds hw ru c r n
    by_cases e : ru n = c
    · rw [dpR_1 e]
      have ih2 := rgR_adds hw n (dpR w ru c n r) 8
      refine ⟨fun q => ?_, fun q => ?_⟩
      · rw [ih2.1 q, ih.1 q, or_assoc]
        refine or_congr Iff.rfl ⟨?_, ?_⟩
        · rintro (⟨d, h1, h2⟩ | h2)
          · exact ⟨d, by omega, h2⟩
          · exact ⟨n, Nat.lt_succ_self n, e, h2⟩
        · rintro ⟨d, h1, h2, h3⟩
          rcases Nat.lt_or_ge d n with e | e
          · exact Or.inl ⟨d, e, h2, h3⟩
          · have e2 : d = n := by omega
            subst e2; exact Or.inr h3
      · rw [ih2.2 q, ih.2 q, or_assoc]
        refine or_congr Iff.rfl ⟨?_, ?_⟩
        · rintro (⟨d, h1, h2⟩ | h2)
          · exact ⟨d, by omega, h2⟩
          · exact ⟨n, Nat.lt_succ_self n, e, h2⟩
        · rintro ⟨d, h1, h2, h3⟩
          rcases Nat.lt_or_ge d n with e | e
          · exact Or.inl ⟨d, e, h2, h3⟩
          · have e2 : d = n := by omega
            subst e2; exact Or.inr h3
    · rw [dpR_0 e]
      refine ⟨fun q => ?_, fun q => ?_⟩
      · rw [ih.1 q]
        refine or_congr Iff.rfl ⟨fun ⟨d, h1, h2⟩ => ⟨d, by omega, h2⟩, fun ⟨d, h1, h2, h3⟩ => ?_⟩
        rcases Nat.lt_or_ge d n with e3 | e3
        · exact ⟨d, e3, h2, h3⟩
        · exact absurd (show ru n = c by rw [← h2]; congr 1; omega) e
      · rw [ih.2 q]
        refine or_congr Iff.rfl ⟨fun ⟨d, h1, h2⟩ => ⟨d, by omega, h2⟩, fun ⟨d, h1, h2, h3⟩ => ?_⟩
        rcases Nat.lt_or_ge d n with e3 | e3
        · exact ⟨d, e3, h2, h3⟩
        · exact absurd (show ru n = c by rw [← h2]; congr 1; omega) e
section MS
variable {y : YS} {c : Nat}
/-- what is found is right -/
def snd9 (y : YS) (c : Nat) (r : R1) : Prop := (∀ q, q < 96 → r.1 q = true → RCM y c q) ∧ ∀ q, q < 96 → r.2 q = true → FDM y c q
theorem swF_snd (hw : wOk y.1) {r : R1} (h : snd9 y c r) : ∀ n, n ≤ 96 → snd9 y c (up2 (swF y.1 (zA y) n r))
  | 0, _ => h
  | n + 1, hn => by
    have ih := swF_snd hw h n (by omega)
    cases e : mayR y.1 (zA y) (swF y.1 (zA y) n r).2.1 n
    · rw [swF_0 e]; exact ih
    · rw [swF_1 e]
      unfold mayR at e
      rw [Bool.and_eq_true, Bool.and_eq_true] at e
      have hF := ih.2 n (by omega) e.1
      have hr : rsW y.1 (zA y) n = false := by
        have := e.2.2; cases z : rsW y.1 (zA y) n <;> simp_all
      refine ⟨fun q hq z => ?_, fun q hq z => ?_⟩
      · rcases (tk_e hw n _ _ q).mp z with z | z
        · exact ih.1 q hq z
        · exact Or.inr (Or.inr ⟨n, hF, by omega, e.2.1, hr, z.1, z.2⟩)
      · rcases (tk_f hw n _ _ q).mp z with z | z
        · exact ih.2 q hq z
        · exact hF.e ⟨by omega, e.2.1, hr, z.1, z.2⟩
theorem itF_snd (hw : wOk y.1) {r : R1} (h : snd9 y c r) : ∀ n, snd9 y c (up2 (itF y.1 (zA y) n r))
  | 0 => h
  | n + 1 => by rw [itF_s]; exact swF_snd hw (itF_snd hw h n) 96 (Nat.le_refl 96)
theorem itF_le (w : WW) (sa : Nat → Nat) (r : R1) : ∀ n, leR r (up2 (itF w sa n r))
  | 0 => leR.rfl' _
  | n + 1 => by rw [itF_s]; exact (itF_le w sa r n).tr (swF_le w sa _ 96)
theorem swF_no {w : WW} {sa : Nat → Nat} {r : R1} : ∀ n, (swF w sa n r).2.2 = false → (swF w sa n r).1 = r.1 ∧ (swF w sa n r).2.1 = r.2 ∧ ∀ q, q < n → mayR w sa r.2 q = true → (takR w q r.1 r.2).2.2 = false
  | 0, _ => ⟨rfl, rfl, fun q h => absurd h (Nat.not_lt_zero q)⟩
  | n + 1, h => by
    cases e : mayR w sa (swF w sa n r).2.1 n
    · rw [swF_0 e] at h ⊢
      obtain ⟨i1, i2, i3⟩ := swF_no n h
      refine ⟨i1, i2, fun q hq z => ?_⟩
      rcases Nat.lt_or_ge q n with e2 | e2
      · exact i3 q e2 z
      · have e3 : q = n := by omega
        subst e3
        rw [i2, z] at e; exact absurd e (by decide)
    · rw [swF_1 e] at h ⊢
      have h' : ((takR w n (swF w sa n r).1 (swF w sa n r).2.1).2.2 || (swF w sa n r).2.2) = false := h
      rw [Bool.or_eq_false_iff] at h'
      obtain ⟨i1, i2, i3⟩ := swF_no n h'.2
      have t := tk_no h'.1
      refine ⟨t.1.trans i1, t.2.trans i2, fun q hq z => ?_⟩
      rcases Nat.lt_or_ge q n with e2 | e2
      · exact i3 q e2 z
      · have e3 : q = n := by omega
        subst e3
        have := h'.1
        rw [i1, i2] at this; exact this
theorem least_of {P : Nat → Bool} {n : Nat} (h : P n = true) : ∃ k, P k = true ∧ ∀ j, j < k → P j = false := by
  have aux : ∀ m, (∃ k, k ≤ m ∧ P k = true ∧ ∀ j, j < k → P j = false) ∨ ∀ j, j ≤ m → P j = false := by
    intro m
    induction m with
    | zero =>
      cases e : P 0
      · exact Or.inr (fun j hj => by rw [show j = 0 by omega]; exact e)
      · exact Or.inl ⟨0, Nat.le_refl 0, e, fun j hj => absurd hj (Nat.not_lt_zero j)⟩
    | succ m ih =>
      rcases ih with ⟨k, h1, h2⟩ | ih
      · exact Or.inl ⟨k, by omega, h2⟩
      · cases e : P (m + 1)
        · exact Or.inr (fun j hj => by
            rcases Nat.lt_or_ge j (m + 1) with z | z
            · exact ih j (by omega)
            · rw [show j = m + 1 by omega]; exact e)
        · exact Or.inl ⟨m + 1, Nat.le_refl _, e, fun j hj => ih j (by omega)⟩
  rcases aux n with ⟨k, _, h2⟩ | h2
  · exact ⟨k, h2⟩
  · rw [h2 n (Nat.le_refl n)] at h; exact absurd h (by decide)
theorem it_ends {w : WW} {sa : Nat → Nat} {r : R1} (hw : wOk w) : ∃ n, (itF w sa n r).2.2 = false := by
  have aux : ∀ m n, msR (itF w sa n r) ≤ m → ∃ n, (itF w sa n r).2.2 = false := by
    intro m
    induction m with
    | zero =>
      intro n h
      cases e : (itF w sa n r).2.2
      · exact ⟨n, e⟩
      · have := msR_dec hw e; omega
    | succ m ih =>
      intro n h
      cases e : (itF w sa n r).2.2
      · exact ⟨n, e⟩
      · have := msR_dec hw e
        exact ih (n + 1) (by omega)
  exact aux _ 0 (Nat.le_refl _)
theorem finN_ok (hw : wOk y.1) (c : Nat) : (itF y.1 (zA y) (finN y c) (inR0 y c)).2.2 = false := by
  obtain ⟨n, hn⟩ := it_ends (w := y.1) (sa := zA y) (r := inR0 y c) hw
  obtain ⟨k, h1, h2⟩ := least_of (P := fun n => !(itF y.1 (zA y) n (inR0 y c)).2.2) (n := n) (by rw [hn]; rfl)
  have e : finN y c = k := lsN_eq h1 h2
  rw [e]
  cases z : (itF y.1 (zA y) k (inR0 y c)).2.2
  · rfl
  · rw [z] at h1; exact absurd h1 (by decide)
theorem fin_sem (hM : MI y) (hc : c < 4) {q : Nat} (hq : q < 96) : (finR y c).1 q = true ↔ RCM y c q := by
  obtain ⟨hd, hr, hw, _⟩ := id hM
  have hA := dpR_adds hw (zR y) c (iniR (zD y) (zR y) c 96 (zE y), iniR (zD y) (zR y) c 96 (zG y)) (zD y + 1)
  have e0 : ∀ q, q < 96 → ((inR0 y c).1 q = true ↔ oM y c q ∨ rgM rdW y c q) := fun q hq => by
    unfold inR0
    rw [hA.1 q]
    show iniR (zD y) (zR y) c 96 (zE y) q = true ∨ _ ↔ _
    unfold iniR oM rgM
    rw [if_pos hq]
    refine or_congr ⟨fun h => ⟨hq, h⟩, fun h => h.2⟩ ⟨fun ⟨d, h1, h2⟩ => ⟨d, by omega, h2⟩, fun ⟨d, h1, h2⟩ => ⟨d, by omega, h2⟩⟩
  have f0 : ∀ q, q < 96 → ((inR0 y c).2 q = true ↔ oM y c q ∨ rgM gdW y c q) := fun q hq => by
    unfold inR0
    rw [hA.2 q]
    show iniR (zD y) (zR y) c 96 (zG y) q = true ∨ _ ↔ _
    unfold iniR oM rgM
    rw [if_pos hq]
    refine or_congr ⟨fun h => ⟨hq, h⟩, fun h => h.2⟩ ⟨fun ⟨d, h1, h2⟩ => ⟨d, by omega, h2⟩, fun ⟨d, h1, h2⟩ => ⟨d, by omega, h2⟩⟩
  have hs0 : snd9 y c (inR0 y c) := by
    refine ⟨fun q hq z => ?_, fun q hq z => ?_⟩
    · rcases (e0 q hq).mp z with z | z
      · exact Or.inl z
      · exact Or.inr (Or.inl z)
    · rcases (f0 q hq).mp z with z | z
      · exact FDa.o z
      · exact FDa.g z
  have hfl := finN_ok hw c
  unfold finR
  obtain ⟨m, hm⟩ : ∃ m, finN y c = m + 1 := by
    rcases Nat.eq_zero_or_pos (finN y c) with h | h
    · rw [h] at hfl; exact Bool.noConfusion hfl
    · exact ⟨finN y c - 1, by omega⟩
  rw [hm] at hfl ⊢
  have hsm := itF_snd hw hs0 m
  have hle := itF_le y.1 (zA y) (inR0 y c) m
  rw [itF_s] at hfl ⊢
  generalize hR : itF y.1 (zA y) m (inR0 y c) = R at *
  obtain ⟨n1, n2, n3⟩ := swF_no 96 hfl
  have hw2 : ∀ s, rdW y.1 s = true → y.1.2.2.2.1 s ≤ 96 := fun s z => ((hw s).2.2.2.2 (rdW_r z)).2.1
  have hcl : ∀ a, FDM y c a → a < 96 ∧ R.2.1 a = true := fun a hF => by
    refine hF (fun a => a < 96 ∧ R.2.1 a = true) (fun q z => ?_) (fun q z => ?_) (fun a b z hab => ?_)
    · exact ⟨z.1, hle.2 q ((f0 q z.1).mpr (Or.inl z))⟩
    · obtain ⟨d, d1, d2, r, r1, r2, r3⟩ := id z
      have := hw2 _ (gd_rd r2)
      have hq : q < 96 := by have := r3.2; omega
      exact ⟨hq, hle.2 q ((f0 q hq).mpr (Or.inr z))⟩
    · obtain ⟨e1, e2, e3, e4, e5⟩ := hab
      have := hw2 _ (gd_rd e4)
      have hb : b < 96 := by have := e5.2; omega
      have ht := tk_no (n3 a e1 (by show (R.2.1 a && (y.1.1 a && !rsW y.1 (zA y) a)) = true; rw [z.2, e2, e3]; rfl))
      have := (tk_f hw a R.1 R.2.1 b).mpr (Or.inr ⟨e4, e5⟩)
      rw [ht.2] at this
      exact ⟨hb, this⟩
  rw [n1]
  show R.1 q = true ↔ RCM y c q
  refine ⟨fun z => hsm.1 q hq z, fun z => ?_⟩
  rcases z with z | z | ⟨a, z1, z2⟩
  · exact hle.1 q ((e0 q hq).mpr (Or.inl z))
  · exact hle.1 q ((e0 q hq).mpr (Or.inr z))
  · have ha := hcl a z1
    obtain ⟨e1, e2, e3, e4, e5⟩ := z2
    have ht := tk_no (n3 a e1 (by show (R.2.1 a && (y.1.1 a && !rsW y.1 (zA y) a)) = true; rw [ha.2, e2, e3]; rfl))
    have := (tk_e hw a R.1 R.2.1 q).mpr (Or.inr ⟨e4, e5⟩)
    rw [ht.1] at this
    exact this
theorem RCM_lt (hw : wOk y.1) {q : Nat} (h : RCM y c q) : q < 96 := by
  have hw2 : ∀ s, rdW y.1 s = true → inS y.1 s q → q < 96 := fun s z1 z2 => by
    have := ((hw s).2.2.2.2 (rdW_r z1)).2.1
    have := z2.2; omega
  rcases h with h | ⟨d, d1, d2, r, r1, r2, r3⟩ | ⟨a, h1, e1, e2, e3, e4, e5⟩
  · exact h.1
  · exact hw2 _ r2 r3
  · exact hw2 _ e4 e5
theorem RCM_eq {y' : YS} (h1 : y'.1 = y.1) (h2 : zD y' = zD y) (h3 : zR y' = zR y) (h4 : zA y' = zA y) : RCM y' c = RCM y c := by
  unfold RCM oM rgM eM; rw [h1, h2, h3, h4]
theorem evF_sem (v e : Nat → Bool) (c : Nat) : ∀ n j, evF v e c n j = if 96 * c ≤ j ∧ j < 96 * c + n then (v j || e (j - 96 * c)) else v j
  | 0, j => by rw [if_neg (by omega)]; rfl
  | n + 1, j => by
    rw [evF]
    have ih := evF_sem v e c n
    by_cases e1 : j = 96 * c + n
    · subst e1
      rw [va_eq, ih, if_neg (by omega), if_pos (by omega)]
      congr 2; omega
    · rw [va_ne _ _ e1, ih]
      by_cases e2 : 96 * c ≤ j ∧ j < 96 * c + n
      · rw [if_pos e2, if_pos (by omega)]
      · rw [if_neg e2, if_neg (by omega)]
theorem mkN4_V (hM : MI y) : ∀ n, n ≤ 4 → ∀ c q, c < 4 → q < 96 → (zV (mkN4 y n) (96 * c + q) = true ↔ zV y (96 * c + q) = true ∨ (c < n ∧ RCM y c q))
  | 0, _, c, q, _, _ => ⟨Or.inl, fun h => h.elim id (fun z => absurd z.1 (Nat.not_lt_zero c))⟩
  | n + 1, hn, c, q, hc, hq => by
    have ih := mkN4_V hM n (by omega) c q hc hq
    have hMn := mkN4_MI hM n
    have h12 := mkN4_12 y n
    rw [mkN4_s]
    show evF (zV (mkN4 y n)) (finR (mkN4 y n) n).1 n 96 (96 * c + q) = true ↔ _
    rw [evF_sem]
    by_cases e : c = n
    · subst e
      rw [if_pos (by omega), Bool.or_eq_true, ih, show 96 * c + q - 96 * c = q by omega, fin_sem hMn hc hq]
      rw [RCM_eq (y := y) (y' := mkN4 y c) h12.1 (congrArg (fun z : CT => z.2.1) h12.2.1) (congrArg (fun z : CT => z.2.2.1) h12.2.1) (congrArg (fun z : HP => z.2.1) h12.2.2.1)]
      constructor
      · rintro ((z | z) | z)
        · exact Or.inl z
        · exact absurd z.1 (Nat.lt_irrefl c)
        · exact Or.inr ⟨by omega, z⟩
      · rintro (z | z)
        · exact Or.inl (Or.inl z)
        · exact Or.inr z.2
    · rw [if_neg (by omega), ih]
      refine or_congr Iff.rfl ⟨fun z => ⟨by omega, z.2⟩, fun z => ⟨by omega, z.2⟩⟩
theorem mk4_V (hM : MI y) {c q : Nat} (hc : c < 4) (hq : q < 96) : zV (mk4 y) (96 * c + q) = true ↔ zV y (96 * c + q) = true ∨ RCM y c q := by
  rw [mk4_eq, mkN4_V hM 4 (Nat.le_refl 4) c q hc hq]
  exact or_congr Iff.rfl ⟨fun z => z.2, fun z => ⟨hc, z⟩⟩
theorem mk4_12 (y : YS) : (mk4 y).1 = y.1 ∧ (mk4 y).2.1 = y.2.1 ∧ (mk4 y).2.2.1 = y.2.2.1 ∧ zK (mk4 y) = zK y := by rw [mk4_eq]; exact mkN4_12 y 4
end MS
