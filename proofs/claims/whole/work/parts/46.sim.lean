/-! each operation, on both sides -/
section OS
variable {x : CS} {y : YS}
theorem zX_mk (y : YS) : zX (mk4 y) = zX y := congrArg (fun z : CT => z.1) (mk4_12 y).2.1
theorem zX_fal (c : Nat) (y : YS) : zX (falY c y) = zX y := by
  unfold falY; rw [zX_mk]; unfold fl0; split <;> rfl
theorem sim_thr (k : Nat) (h : Sim x y) : Sim x (thrY k y) := ⟨h.1, h.2.1, h.2.2.1, h.2.2.2⟩
theorem knt_rel {c : Nat} (hc : isCz c) (hR : Rel0 x y) : Rel0 (kntS c x) (kuY c y) := by
  obtain ⟨h1, h2, h3, h4, h5, h6, h7, h8⟩ := hR
  refine ⟨h1, h2, h3, h4, fun k hk => ?_, h6, h7, h8⟩
  show va_up (sK x) (cIx c) (sK x (cIx c) + 1) k = va_up (zK y) (cIx c) (zK y (cIx c) + 1) k
  rw [h5 _ (cIx_lt hc)]
  by_cases e : k = cIx c
  · rw [e, va_eq, va_eq]
  · rw [va_ne _ _ e, va_ne _ _ e]; exact h5 k hk
theorem gds_num (y' : YS) (v : WW) (s : Nat) (n : Int32) : gds y' (numW s n v) s := fun z => by
  have : va_up v.1 s false s = true := z
  rw [va_eq] at this; exact absurd this (by decide)
theorem trp0_rel (hI : Iv x) (hM : MI y) (hR : Rel0 x y) {c : Nat} (hc : isCz c) : Rel0 (trp0 c x) (fl0 c y) := by
  have hK := knt_rel hc hR
  obtain ⟨⟨hd, hco⟩, h2, h3, h4, h5, h6, h7, h8⟩ := id hK
  have hd' : zD y = sP x := hd
  by_cases h : sP x = 0
  · rw [trp0_0 h, fl0_0 (hd'.trans h)]
    have e : sC x (sP x) = zR y 0 := by rw [hR.1.2 (sP x) (Nat.le_refl _), h]
    rw [e]
    have n1 : slA y 0 ≠ slA y 1 := by unfold slA; omega
    refine beg_sim (x := kntS c x) (y := onW (numW (slA y 1) (nI 0)) (onW (numW (slA y 0) (nI 0)) (kuY c y))) hI.1 (hM.2.1 0) hd (fun d q => ?_) h2 (fun s hs => ?_) (fun j hj => ?_) h4 h5 h6 h7 (fun s hs => ?_) ?_ ?_ ?_ ?_
    · have q' : d < sP x := q
      omega
    · exact wr_chg (chg_num _ _ _) (by unfold slA; omega) (wr_chg (chg_num _ _ _) (by unfold slA; omega) (h3.1 s hs))
    · have hj' : j < sP x * 8 := hj
      omega
    · have hs' : s < 96 + 8 * zD y := hs
      exact gds_chg (chg_num _ _ _) (by unfold slA; omega) (gds_chg (chg_num _ _ _) (by unfold slA; omega) (h8 s (by show s < 96 + 8 * zD y + 8; omega)))
    · exact wr_chg (chg_num _ _ _) n1 (wr_num _ _ _)
    · exact wr_num _ _ _
    · exact gds_chg (chg_num _ _ _) n1 (gds_num _ _ _ _)
    · exact gds_num _ _ _ _
  · rw [trp0_1 h, fl0_1 (fun z => h (hd' ▸ z))]
    exact end_sim (x := kntS c x) (y := kuY c y) hM hK (by show 0 < sP x; omega) hI.1 (wOk_num hM.2.2.1) (chg_num _ _ _) (wr_num _ _ _) (gds_num _ _ _ _)
theorem trap_sim (hI : Iv x) (hM : MI y) (hR : Rel0 x y) {c : Nat} (hc : isCz c) : Sim (trapS c x) (falY c y) := nt_sim (trp0_iv hI) (MI_fl0 hM) (trp0_rel hI hM hR hc)
theorem okV_wr {w : Int64} {v : WW} {s : Nat} (hw : wOk v) (h : wr w v s) : okV w := fun e => by
  rw [wr_M hw h] at e
  obtain ⟨h1, h2, h3, h4⟩ := wr_r hw h e
  rw [h1, h2, h4]; exact (hw s).2.2.2.2 e
theorem keep_sim (hI : Iv x) (hM : MI y) (hR : Rel0 x y) {t : Nat} {w : Int64} {v' : WW} (ht : t < 8) (hw : wOk v') (hc : chg y.1 v' (96 + 8 * zD y + t)) (h : wr w v' (96 + 8 * zD y + t)) (hg : gds y v' (96 + 8 * zD y + t)) : Sim (keepS t w x) (mk4 (v', y.2)) :=
  nt_sim (x := setR (vp_updL (sR x) (sP x * 8 + t) w) x) ⟨hI.1, hI.2.1, hI.2.2.1, hI.2.2.2.1, hI.2.2.2.2.1, okM_upd hI.2.2.2.2.2.1 (okV_wr hw h), hI.2.2.2.2.2.2⟩ (MI_w hM hw) (reg_sim hR ht hc h hg)
theorem op_sim (hI : Iv x) (hM : MI y) (hR : Rel0 x y) {C t : Nat} {w : Int64} {v' : WW} (ht : t < 8) (hC : C ≠ 45 → isCz C) (h : C = 45 → wOk v' ∧ chg y.1 v' (96 + 8 * zD y + t) ∧ wr w v' (96 + 8 * zD y + t) ∧ gds y v' (96 + 8 * zD y + t)) : Sim (opS C t w x) (opY C (v', y.2) y) ∧ zX (opY C (v', y.2) y) = zX y := by
  unfold opS opY
  by_cases e : C = 45
  · rw [if_pos e, if_pos e]
    obtain ⟨a1, a2, a3, a4⟩ := h e
    exact ⟨keep_sim hI hM hR ht a1 a2 a3 a4, zX_mk _⟩
  · rw [if_neg e, if_neg e]
    exact ⟨trap_sim hI hM hR (hC e), zX_fal _ _⟩
theorem use_tr {w : Int64} {v : WW} {s : Nat} (hw : wOk v) (h : wr w v s) (m : Nat) : useF w m = trF v s m := by
  unfold useF trF
  rw [wr_M hw h]
  cases e : v.1 s
  · rfl
  · obtain ⟨h1, h2, h3, h4⟩ := wr_r hw h e
    rw [h3, h4]
theorem rg_wr (hR : Rel0 x y) {u : Nat} (hu : u < 8) : wr (rgA x u) y.1 (96 + 8 * zD y + u) := by
  have h := hR.2.2.1.2 (sP x * 8 + u) (by omega)
  have hd := hR.1.1
  rw [show 96 + (sP x * 8 + u) = 96 + 8 * zD y + u by omega] at h
  exact h
theorem gds_cop {y' : YS} {v : WW} {a b : Nat} (h : gds y' v a) : gds y' (copW a b v) b := fun z => by
  show exactB (va_up v.2.2.1 b (v.2.2.1 a) b) (va_up v.2.2.2.1 b (v.2.2.2.1 a) b) = true ∧ rgk y' (va_up v.2.2.1 b (v.2.2.1 a) b) (va_up v.2.2.2.1 b (v.2.2.2.1 a) b)
  have z' : va_up v.1 b (v.1 a) b = true := z
  rw [va_eq] at z'
  rw [va_eq, va_eq]; exact h z'
theorem put_sim (hS : Sim x y) {t : Nat} (ht : t < 8) (n : Int32) : Sim (keepS t (mkN n) x) (mk4 (onW (numW (slA (thrY 0 y) t) n) (thrY 0 y))) ∧ zX (mk4 (onW (numW (slA (thrY 0 y) t) n) (thrY 0 y))) = 0 := by
  obtain ⟨hI, hM, hR, _⟩ := hS
  exact ⟨keep_sim (y := thrY 0 y) hI hM hR ht (wOk_num hM.2.2.1) (chg_num _ _ _) (wr_num _ _ _) (gds_num _ _ _ _), zX_mk _⟩
theorem move_sim (hS : Sim x y) {t u : Nat} (ht : t < 8) (hu : u < 8) : Sim (keepS t (rgA x u) x) (mk4 (onW (copW (slA (thrY 0 y) u) (slA (thrY 0 y) t)) (thrY 0 y))) ∧ zX (mk4 (onW (copW (slA (thrY 0 y) u) (slA (thrY 0 y) t)) (thrY 0 y))) = 0 := by
  obtain ⟨hI, hM, hR, _⟩ := hS
  exact ⟨keep_sim (y := thrY 0 y) hI hM hR ht (wOk_cop hM.2.2.1) (chg_cop _ _ _) (wr_cop (rg_wr hR hu)) (gds_cop (hR.2.2.2.2.2.2.2 _ (by show 96 + 8 * zD y + u < 96 + 8 * zD y + 8; omega))), zX_mk _⟩
theorem gds_b {y' : YS} {v v' : WW} {a b : Nat} (h : gds y' v a) (h1 : v'.1 b = true → v.1 a = true) (h2 : v'.2.2.1 b = v.2.2.1 a) (h3 : v'.2.2.2.1 b = v.2.2.2.1 a) : gds y' v' b := fun z => by
  rw [h2, h3]; exact h (h1 z)
theorem wr_res {w : Int64} {v : WW} {a b q : Nat} (hw : wOk v) (h : wr w v a) (e : v.1 a = true) : wr (wRt (wB w) (wT w) (wN w) (wP w &&& q) (wS w)) (resW q a b v) b := by
  obtain ⟨h1, h2, h3, h4⟩ := wr_r hw h e
  have hr := (h.2 e).2
  rw [h1, h2, h3, h4, wr_N hw h]
  unfold wr
  show (va_up v.1 b (v.1 a) b = false → _ = mkN (upd v.2.1 b (v.2.1 a) b)) ∧ (va_up v.1 b (v.1 a) b = true → _ = mkR (va_up v.2.2.1 b (v.2.2.1 a) b) (va_up v.2.2.2.1 b (v.2.2.2.1 a) b) (upd v.2.1 b (v.2.1 a) b) (va_up (va_up v.2.2.2.2.1 b (v.2.2.2.2.1 a)) b (va_up v.2.2.2.2.1 b (v.2.2.2.2.1 a) b &&& q) b) (va_up v.2.2.2.2.2 b (v.2.2.2.2.2 a) b) ∧ ((va_up v.2.2.1 b (v.2.2.1 a) b : Nat) : Int) - 8 ≤ (upd v.2.1 b (v.2.1 a) b).toInt ∧ (upd v.2.1 b (v.2.1 a) b).toInt ≤ ((va_up v.2.2.2.1 b (v.2.2.2.1 a) b : Nat) : Int) + 8)
  simp only [va_eq, upd_eq]
  exact ⟨fun z => absurd (e.symm.trans z) (by decide), fun _ => ⟨mkR_wRt hr, hr⟩⟩
theorem restrict_sim (hS : Sim x y) {t u q : Nat} (ht : t < 8) (hu : u < 8) (hq : q < 128) : useF (rgA x u) 0 = trF (thrY 0 y).1 (slA (thrY 0 y) u) 0 ∧ Sim (opS (useF (rgA x u) 0) t (wRt (wB (rgA x u)) (wT (rgA x u)) (wN (rgA x u)) (wP (rgA x u) &&& q) (wS (rgA x u))) x) (opY (trF (thrY 0 y).1 (slA (thrY 0 y) u) 0) (onW (resW q (slA (thrY 0 y) u) (slA (thrY 0 y) t)) (thrY 0 y)) (thrY 0 y)) ∧ zX (opY (trF (thrY 0 y).1 (slA (thrY 0 y) u) 0) (onW (resW q (slA (thrY 0 y) u) (slA (thrY 0 y) t)) (thrY 0 y)) (thrY 0 y)) = 0 := by
  obtain ⟨hI, hM, hR, _⟩ := hS
  have hw := rg_wr hR hu
  have hc : useF (rgA x u) 0 = trF (thrY 0 y).1 (slA (thrY 0 y) u) 0 := use_tr hM.2.2.1 hw 0
  refine ⟨hc, ?_⟩
  rw [hc]
  refine op_sim (y := thrY 0 y) hI hM hR ht trF_cz (fun e => ?_)
  have er : y.1.1 (96 + 8 * zD y + u) = true := trF_r e
  exact ⟨wOk_res hM.2.2.1, (chg_cop _ _ _).tr (chg_per _ _ _), wr_res hM.2.2.1 hw er, gds_b (hR.2.2.2.2.2.2.2 _ (by omega)) (fun _ => er) (va_eq _ _ _) (va_eq _ _ _)⟩
theorem in_rng {n : Int32} {b t : Nat} (hb : b < 200) (ht : t < 200) : inR n (nI b - nI 8) (nI (t + 8)) = true ↔ ((b : Int) - 8 ≤ n.toInt ∧ n.toInt ≤ (t : Int) + 8) := by
  unfold inR
  rw [decide_eq_true_eq, Int32.lt_iff_toInt_lt, Int32.le_iff_toInt_le, pk_sub_toInt (by omega) (by omega), nI_toInt (by omega)]
  omega
theorem wr_stp {w : Int64} {v : WW} {a b : Nat} {q : Int32} (hw : wOk v) (h : wr w v a) (e : v.1 a = true) : wr (wRt (wB w) (wT w) (wN w + q) (wP w) (wS w)) (stpW q a b v) b := by
  obtain ⟨h1, h2, h3, h4⟩ := wr_r hw h e
  rw [h1, h2, h3, h4, wr_N hw h]
  have hk := hw a
  unfold wr
  show (va_up (va_up v.1 b (v.1 a)) b (inR (upd v.2.1 b (v.2.1 a) b + q) (nI (va_up v.2.2.1 b (v.2.2.1 a) b) - nI 8) (nI (va_up v.2.2.2.1 b (v.2.2.2.1 a) b + 8))) b = false → _ = mkN (upd (upd v.2.1 b (v.2.1 a)) b (upd v.2.1 b (v.2.1 a) b + q) b)) ∧ (va_up (va_up v.1 b (v.1 a)) b (inR (upd v.2.1 b (v.2.1 a) b + q) (nI (va_up v.2.2.1 b (v.2.2.1 a) b) - nI 8) (nI (va_up v.2.2.2.1 b (v.2.2.2.1 a) b + 8))) b = true → _ = mkR (va_up v.2.2.1 b (v.2.2.1 a) b) (va_up v.2.2.2.1 b (v.2.2.2.1 a) b) (upd (upd v.2.1 b (v.2.1 a)) b (upd v.2.1 b (v.2.1 a) b + q) b) (va_up v.2.2.2.2.1 b (v.2.2.2.2.1 a) b) (va_up v.2.2.2.2.2 b (v.2.2.2.2.2 a) b) ∧ ((va_up v.2.2.1 b (v.2.2.1 a) b : Nat) : Int) - 8 ≤ (upd (upd v.2.1 b (v.2.1 a)) b (upd v.2.1 b (v.2.1 a) b + q) b).toInt ∧ (upd (upd v.2.1 b (v.2.1 a)) b (upd v.2.1 b (v.2.1 a) b + q) b).toInt ≤ ((va_up v.2.2.2.1 b (v.2.2.2.1 a) b : Nat) : Int) + 8)
  simp only [va_eq, upd_eq]
  have hi := in_rng (n := v.2.1 a + q) (b := v.2.2.1 a) (t := v.2.2.2.1 a) hk.1 hk.2.1
  refine ⟨fun z => ?_, fun z => ⟨mkR_wRt (hi.mp z), hi.mp z⟩⟩
  unfold wRt
  rw [if_pos]
  rw [z] at hi
  have : ¬ ((v.2.2.1 a : Int) - 8 ≤ (v.2.1 a + q).toInt ∧ (v.2.1 a + q).toInt ≤ (v.2.2.2.1 a : Int) + 8) := fun w => absurd (hi.mpr w) (by decide)
  omega
theorem step_sim (hS : Sim x y) {t u : Nat} {q : Int32} (ht : t < 8) (hu : u < 8) : useF (rgA x u) 0 = trF (thrY 0 y).1 (slA (thrY 0 y) u) 0 ∧ Sim (opS (useF (rgA x u) 0) t (wRt (wB (rgA x u)) (wT (rgA x u)) (wN (rgA x u) + q) (wP (rgA x u)) (wS (rgA x u))) x) (opY (trF (thrY 0 y).1 (slA (thrY 0 y) u) 0) (onW (stpW q (slA (thrY 0 y) u) (slA (thrY 0 y) t)) (thrY 0 y)) (thrY 0 y)) ∧ zX (opY (trF (thrY 0 y).1 (slA (thrY 0 y) u) 0) (onW (stpW q (slA (thrY 0 y) u) (slA (thrY 0 y) t)) (thrY 0 y)) (thrY 0 y)) = 0 := by
  obtain ⟨hI, hM, hR, _⟩ := hS
  have hw := rg_wr hR hu
  have hc : useF (rgA x u) 0 = trF (thrY 0 y).1 (slA (thrY 0 y) u) 0 := use_tr hM.2.2.1 hw 0
  refine ⟨hc, ?_⟩
  rw [hc]
  refine op_sim (y := thrY 0 y) hI hM hR ht trF_cz (fun e => ?_)
  have er : y.1.1 (96 + 8 * zD y + u) = true := trF_r e
  exact ⟨wOk_stp hM.2.2.1 er, ((chg_cop _ _ _).tr (chg_nbr _ _ _)).tr (chg_isr _ _ _), wr_stp hM.2.2.1 hw er, gds_b (hR.2.2.2.2.2.2.2 _ (by omega)) (fun _ => er) (va_eq _ _ _) (va_eq _ _ _)⟩
theorem wr_slk {w : Int64} {v : WW} {a b k : Nat} (hw : wOk v) (h : wr w v a) (e : v.1 a = true) : wr (wRt (wB w) (wT w) (wN w) (wP w) k) (slkW k a b v) b := by
  obtain ⟨h1, h2, h3, h4⟩ := wr_r hw h e
  have hr := (h.2 e).2
  rw [h1, h2, h3, wr_N hw h]
  unfold wr
  show (va_up v.1 b (v.1 a) b = false → _ = mkN (upd v.2.1 b (v.2.1 a) b)) ∧ (va_up v.1 b (v.1 a) b = true → _ = mkR (va_up v.2.2.1 b (v.2.2.1 a) b) (va_up v.2.2.2.1 b (v.2.2.2.1 a) b) (upd v.2.1 b (v.2.1 a) b) (va_up v.2.2.2.2.1 b (v.2.2.2.2.1 a) b) (va_up (va_up v.2.2.2.2.2 b (v.2.2.2.2.2 a)) b k b) ∧ ((va_up v.2.2.1 b (v.2.2.1 a) b : Nat) : Int) - 8 ≤ (upd v.2.1 b (v.2.1 a) b).toInt ∧ (upd v.2.1 b (v.2.1 a) b).toInt ≤ ((va_up v.2.2.2.1 b (v.2.2.2.1 a) b : Nat) : Int) + 8)
  simp only [va_eq, upd_eq]
  exact ⟨fun z => absurd (e.symm.trans z) (by decide), fun _ => ⟨mkR_wRt hr, hr⟩⟩
theorem run_eq (hR : Rel0 x y) : sC x (sP x) = zR y (zD y) := by rw [hR.1.2 _ (Nat.le_refl _), hR.1.1]
theorem seal_sim (hS : Sim x y) {t u : Nat} (ht : t < 8) (hu : u < 8) : useF (rgA x u) 0 = trF (thrY 0 y).1 (slA (thrY 0 y) u) 0 ∧ Sim (opS (useF (rgA x u) 0) t (wRt (wB (rgA x u)) (wT (rgA x u)) (wN (rgA x u)) (wP (rgA x u)) (sC x (sP x) + 1)) x) (opY (trF (thrY 0 y).1 (slA (thrY 0 y) u) 0) (onW (slkW (zR (thrY 0 y) (zD (thrY 0 y)) + 1) (slA (thrY 0 y) u) (slA (thrY 0 y) t)) (thrY 0 y)) (thrY 0 y)) ∧ zX (opY (trF (thrY 0 y).1 (slA (thrY 0 y) u) 0) (onW (slkW (zR (thrY 0 y) (zD (thrY 0 y)) + 1) (slA (thrY 0 y) u) (slA (thrY 0 y) t)) (thrY 0 y)) (thrY 0 y)) = 0 := by
  obtain ⟨hI, hM, hR, _⟩ := hS
  have hw := rg_wr hR hu
  have hc : useF (rgA x u) 0 = trF (thrY 0 y).1 (slA (thrY 0 y) u) 0 := use_tr hM.2.2.1 hw 0
  refine ⟨hc, ?_⟩
  rw [hc, run_eq hR]
  refine op_sim (y := thrY 0 y) hI hM hR ht trF_cz (fun e => ?_)
  have er : y.1.1 (96 + 8 * zD y + u) = true := trF_r e
  exact ⟨wOk_slk hM.2.2.1 (by have := hM.2.1 (zD y); exact this), (chg_cop _ _ _).tr (chg_sel _ _ _), wr_slk hM.2.2.1 hw er, gds_b (hR.2.2.2.2.2.2.2 _ (by omega)) (fun _ => er) (va_eq _ _ _) (va_eq _ _ _)⟩
theorem un_eq {w : Int64} {v : WW} {s k : Nat} (hw : wOk v) (h : wr w v s) : unC w k = unT v s k := by
  unfold unC unT
  rw [wr_M hw h]
  cases e : v.1 s
  · rfl
  · rw [(wr_r hw h e).2.2.2]
theorem unT_r {v : WW} {s k : Nat} (h : unT v s k = 45) : v.1 s = true := by
  unfold unT at h
  cases e : v.1 s
  · rw [if_pos e] at h; omega
  · rfl
theorem unseal_sim (hS : Sim x y) {t u : Nat} (ht : t < 8) (hu : u < 8) : unC (rgA x u) (sC x (sP x) + 1) = unT (thrY 0 y).1 (slA (thrY 0 y) u) (zR (thrY 0 y) (zD (thrY 0 y)) + 1) ∧ Sim (opS (unC (rgA x u) (sC x (sP x) + 1)) t (wRt (wB (rgA x u)) (wT (rgA x u)) (wN (rgA x u)) (wP (rgA x u)) 0) x) (opY (unT (thrY 0 y).1 (slA (thrY 0 y) u) (zR (thrY 0 y) (zD (thrY 0 y)) + 1)) (onW (slkW 0 (slA (thrY 0 y) u) (slA (thrY 0 y) t)) (thrY 0 y)) (thrY 0 y)) ∧ zX (opY (unT (thrY 0 y).1 (slA (thrY 0 y) u) (zR (thrY 0 y) (zD (thrY 0 y)) + 1)) (onW (slkW 0 (slA (thrY 0 y) u) (slA (thrY 0 y) t)) (thrY 0 y)) (thrY 0 y)) = 0 := by
  obtain ⟨hI, hM, hR, _⟩ := hS
  have hw := rg_wr hR hu
  have hc : unC (rgA x u) (sC x (sP x) + 1) = unT (thrY 0 y).1 (slA (thrY 0 y) u) (zR (thrY 0 y) (zD (thrY 0 y)) + 1) := by
    rw [run_eq hR]; exact un_eq hM.2.2.1 hw
  refine ⟨hc, ?_⟩
  rw [hc]
  refine op_sim (y := thrY 0 y) hI hM hR ht unT_cz (fun e => ?_)
  have er : y.1.1 (96 + 8 * zD y + u) = true := unT_r e
  exact ⟨wOk_slk hM.2.2.1 (by decide), (chg_cop _ _ _).tr (chg_sel _ _ _), wr_slk hM.2.2.1 hw er, gds_b (hR.2.2.2.2.2.2.2 _ (by omega)) (fun _ => er) (va_eq _ _ _) (va_eq _ _ _)⟩
/-! narrow -/
theorem exact_rnd {b t : Nat} : exactB (dn b (unitOf b t)) (up t (unitOf b t)) = true := by
  have hU := unitOf_isU b t
  generalize hu : unitOf b t = u at hU
  have hl : up t u - dn b u ≤ 8 * u ∨ u = 16 := by
    unfold unitOf at hu
    split at hu
    · left; subst hu; omega
    · split at hu
      · left; subst hu; omega
      · split at hu
        · left; subst hu; omega
        · split at hu
          · left; subst hu; omega
          · right; exact hu.symm
  have key : ∀ v, isU v → v ∣ u → dn (dn b u) v = dn b u ∧ up (up t u) v = up t u := fun v hv hd => by
    have hv0 : 0 < v := by rcases hv with h | h | h | h | h <;> omega
    have d1 : v ∣ dn b u := by unfold dn; exact Nat.dvd_trans hd (Nat.dvd_mul_left u _)
    have d2 : v ∣ up t u := by unfold up; exact Nat.dvd_trans hd (Nat.dvd_mul_left u _)
    refine ⟨by unfold dn at *; exact Nat.div_mul_cancel d1, ?_⟩
    generalize up t u = z at d2 ⊢
    unfold up
    obtain ⟨k, rfl⟩ := d2
    have : (v * k + v - 1) / v = k := by
      rw [show v * k + v - 1 = (v - 1) + v * k by omega, Nat.add_mul_div_left _ _ hv0, Nat.div_eq_of_lt (by omega), Nat.zero_add]
    rw [this, Nat.mul_comm]
  have dv : ∀ v, isU v → v ≤ u → v ∣ u := fun v hv hle => by
    rcases hv with rfl | rfl | rfl | rfl | rfl <;> rcases hU with rfl | rfl | rfl | rfl | rfl <;> first | omega | decide
  have hw := unitOf_isU (dn b u) (up t u)
  have hle : unitOf (dn b u) (up t u) ≤ u := by
    have k1 := fun h => key 1 (Or.inl rfl) (dv 1 (Or.inl rfl) h)
    have k2 := fun h => key 2 (Or.inr (Or.inl rfl)) (dv 2 (Or.inr (Or.inl rfl)) h)
    have k4 := fun h => key 4 (Or.inr (Or.inr (Or.inl rfl))) (dv 4 (Or.inr (Or.inr (Or.inl rfl))) h)
    have k8 := fun h => key 8 (Or.inr (Or.inr (Or.inr (Or.inl rfl)))) (dv 8 (Or.inr (Or.inr (Or.inr (Or.inl rfl)))) h)
    rcases hU with rfl | rfl | rfl | rfl | rfl
    · rw [show unitOf (dn b 1) (up t 1) = 1 from by unfold unitOf; rw [if_pos (by rw [(k1 (by omega)).1, (k1 (by omega)).2]; omega)]]; omega
    · unfold unitOf
      split
      · omega
      · rw [if_pos (by rw [(k2 (by omega)).1, (k2 (by omega)).2]; omega)]; omega
    · unfold unitOf
      split
      · omega
      · split
        · omega
        · rw [if_pos (by rw [(k4 (by omega)).1, (k4 (by omega)).2]; omega)]; omega
    · unfold unitOf
      split
      · omega
      · split
        · omega
        · split
          · omega
          · rw [if_pos (by rw [(k8 (by omega)).1, (k8 (by omega)).2]; omega)]; omega
    · rcases hw with h | h | h | h | h <;> omega
  have k := key _ hw (dv _ hw hle)
  unfold exactB
  exact decide_eq_true k
theorem rgk_sub {b t b' t' : Nat} (hbt : b' < t') (hb : b ≤ b') (ht : t' ≤ t) (ht2 : t ≤ 96) (h : rgk y b t) (hk : hok y) : rgk y b' t' := by
  rcases h with h | ⟨d, d1, d2, d3⟩ | ⟨h1, h2, h3⟩
  · left; omega
  · exact Or.inr (Or.inl ⟨d, d1, by omega, by omega⟩)
  · have hh := hk b h1 (by omega) h2
    have hj := hh.2 b' (by omega) (by omega)
    exact Or.inr (Or.inr ⟨by omega, by rw [hj.1]; exact h2, by rw [hj.2.1, hj.2.2]; omega⟩)
theorem narrow_sim (hS : Sim x y) {t u b n : Nat} (ht : t < 8) (hu : u < 8) (hb : b < 96) (hn1 : 1 ≤ n) (hn2 : n ≤ 96) : nrC (rgA x u) b n = narT u b n (thrY 0 y) ∧ Sim (opS (nrC (rgA x u) b n) t (wRt (dn b (unitOf b (b + n))) (up (b + n) (unitOf b (b + n))) (nI (dn b (unitOf b (b + n)))) (wP (rgA x u)) 0) x) (narY t u b n (thrY 0 y)) ∧ zX (narY t u b n (thrY 0 y)) = 0 := by
  obtain ⟨hI, hM, hR, _⟩ := hS
  have hw := rg_wr hR hu
  have hc0 : useF (rgA x u) 0 = trF (thrY 0 y).1 (slA (thrY 0 y) u) 0 := use_tr hM.2.2.1 hw 0
  have hu9 := unitOf_isU b (b + n)
  have hd9 := dn_le b (unitOf b (b + n))
  have hup := up_lt (b + n) (unitOf b (b + n)) (by rcases hu9 with h | h | h | h | h <;> omega)
  have hle := le_up (n := b + n) (u := unitOf b (b + n)) (by rcases hu9 with h | h | h | h | h <;> omega)
  have hMr : MI (rndY b (b + n) (thrY 0 y)) := MI_rnd hM (by omega) (by omega)
  by_cases e : trF (thrY 0 y).1 (slA (thrY 0 y) u) 0 = 45
  · have er : y.1.1 (96 + 8 * zD y + u) = true := trF_r e
    obtain ⟨b1, b2, b3, b4⟩ := wr_r hM.2.2.1 hw er
    have hkk := (hM.2.2.1 (96 + 8 * zD y + u)).2.2.2.2 er
    have eB : zB (thrY 0 y) (slA (thrY 0 y) u) = wB (rgA x u) := b1.symm
    have eT : zT (thrY 0 y) (slA (thrY 0 y) u) = wT (rgA x u) := b2.symm
    cases en : nwB u b n (thrY 0 y)
    · have en' := en
      unfold nwB at en'
      rw [eB, eT] at en'
      have en2 := of_decide_eq_false en'
      have hc : nrC (rgA x u) b n = 45 := by
        unfold nrC; rw [if_neg (fun z => en2 z.2), hc0]; exact e
      have hm : narT u b n (thrY 0 y) = 45 := by unfold narT; rw [if_pos e, if_neg (by rw [en]; decide)]
      have hy : narY t u b n (thrY 0 y) = mk4 (nwY t u b n (thrY 0 y)) := by unfold narY; rw [if_pos e, if_neg (by rw [en]; decide)]
      rw [hc, hm, hy]
      refine ⟨rfl, ?_, zX_mk _⟩
      unfold opS; rw [if_pos rfl]
      have eP : zP (thrY 0 y) (slA (thrY 0 y) u) = wP (rgA x u) := b3.symm
      have n1 : wB (rgA x u) ≤ dn b (unitOf b (b + n)) := by omega
      have n2 : up (b + n) (unitOf b (b + n)) ≤ wT (rgA x u) := by omega
      unfold nwY
      rw [eP]
      refine keep_sim (y := rndY b (b + n) (thrY 0 y)) hI hMr hR ht (wOk_rig hM.2.2.1 (by omega) (by omega) (wP_lt _)) (chg_rig _ _ _ _ _) (wr_rig _ _ (by omega) (by omega)) (fun _ => ?_)
      show exactB (va_up _ (96 + 8 * zD y + t) (dn b (unitOf b (b + n))) (96 + 8 * zD y + t)) (va_up _ (96 + 8 * zD y + t) (up (b + n) (unitOf b (b + n))) (96 + 8 * zD y + t)) = true ∧ rgk y (va_up _ (96 + 8 * zD y + t) (dn b (unitOf b (b + n))) (96 + 8 * zD y + t)) (va_up _ (96 + 8 * zD y + t) (up (b + n) (unitOf b (b + n))) (96 + 8 * zD y + t))
      rw [va_eq, va_eq]
      exact ⟨exact_rnd, rgk_sub (by omega) (by omega) (by omega) hkk.2.1 (hR.2.2.2.2.2.2.2 (96 + 8 * zD y + u) (by omega) er).2 hR.2.2.2.2.2.2.1⟩
    · have en' := en
      unfold nwB at en'
      rw [eB, eT] at en'
      have en2 := of_decide_eq_true en'
      have hc : nrC (rgA x u) b n = 98 := by
        unfold nrC; rw [if_pos ⟨by rw [hc0]; exact e, en2⟩]
      have hm : narT u b n (thrY 0 y) = 98 := by unfold narT; rw [if_pos e, if_pos en]
      have hy : narY t u b n (thrY 0 y) = falY 98 (rndY b (b + n) (thrY 0 y)) := by unfold narY; rw [if_pos e, if_pos en]
      rw [hc, hm, hy]
      refine ⟨rfl, ?_, zX_fal _ _⟩
      unfold opS; rw [if_neg (by decide)]
      exact trap_sim (y := rndY b (b + n) (thrY 0 y)) hI hMr hR (by unfold isCz; omega)
  · have hc : nrC (rgA x u) b n = trF (thrY 0 y).1 (slA (thrY 0 y) u) 0 := by
      unfold nrC; rw [if_neg (fun z => e (hc0 ▸ z.1)), hc0]
    have hm : narT u b n (thrY 0 y) = trF (thrY 0 y).1 (slA (thrY 0 y) u) 0 := by unfold narT; rw [if_neg e]
    have hy : narY t u b n (thrY 0 y) = falY (trF (thrY 0 y).1 (slA (thrY 0 y) u) 0) (thrY 0 y) := by unfold narY; rw [if_neg e]
    rw [hc, hm, hy]
    refine ⟨rfl, ?_, zX_fal _ _⟩
    unfold opS; rw [if_neg e]
    exact trap_sim (y := thrY 0 y) hI hM hR (trF_cz e)
end OS
section OS2
variable {x : CS} {y : YS}
theorem bit16 : ∀ p, p < 128 → decide (p &&& 16 = 16) = !decide (p &&& 16 = 0) := by decide +kernel
theorem bit32 : ∀ p, p < 128 → decide (p &&& 32 = 32) = !decide (p &&& 32 = 0) := by decide +kernel
theorem and127 : ∀ p, p < 128 → p &&& 127 = p := by decide +kernel
theorem lt_pred {n : Int32} {t : Nat} (h1 : 1 ≤ t) (h2 : t < 2147483648) : n < nI t ↔ n ≤ nI (t - 1) := by
  rw [Int32.lt_iff_toInt_lt, Int32.le_iff_toInt_le, nI_toInt (by omega), nI_toInt (by omega)]; omega
theorem acc_tr {w : Int64} {v : WW} {s : Nat} (hw : wOk v) (h : wr w v s) (m : Nat) : accF w m = acT v s m := by
  unfold accF acT
  rw [use_tr hw h m]
  by_cases e : trF v s m = 45
  · rw [if_pos e, if_pos e]
    have er := trF_r e
    obtain ⟨b1, b2, _⟩ := wr_r hw h er
    have hk := (hw s).2.2.2.2 er
    rw [wr_N hw h, b1, b2]
    unfold inR
    have hl := lt_pred (n := v.2.1 s) (t := v.2.2.2.1 s) (by omega) (by omega)
    by_cases z : ¬ v.2.1 s < nI (v.2.2.1 s) ∧ v.2.1 s < nI (v.2.2.2.1 s)
    · rw [if_pos z, if_pos (decide_eq_true ⟨z.1, hl.mp z.2⟩)]
    · rw [if_neg z, if_neg (fun q => z ⟨(of_decide_eq_true q).1, hl.mpr (of_decide_eq_true q).2⟩)]
  · rw [if_neg e, if_neg e]
theorem stM_eq {w : Int64} {v : WW} {s : Nat} (hw : wOk v) (h : wr w v s) : stM w = stmT v s := by
  unfold stM stmT; rw [wr_M hw h]
theorem st_eq {w s9 : Int64} {v : WW} {a s : Nat} (hw : wOk v) (h : wr w v a) (h' : wr s9 v s) : stC w s9 = stT v a s := by
  unfold stC stT
  rw [stM_eq hw h', acc_tr hw h]
  by_cases e : acT v a (stmT v s) = 45
  · have er := trF_r (acT_t e)
    have hk : keepF w s9 = kpT v a s := by
      unfold keepF kpT
      rw [wr_M hw h']
      cases e2 : v.1 s
      · rfl
      · rw [(wr_r hw h' e2).2.2.1, (wr_r hw h er).2.2.1, bit16 _ (hw s).2.2.1, bit32 _ (hw a).2.2.1]
        cases decide (v.2.2.2.2.1 s &&& 16 = 0) <;> cases decide (v.2.2.2.2.1 a &&& 32 = 0) <;> rfl
    rw [hk]
  · rw [if_neg (fun z => e z.1), if_neg (fun z => e z.1)]
theorem adr_eq2 {w : Int64} {v : WW} {s : Nat} (hw : wOk v) (h : wr w v s) : adr w = aT v s := by
  unfold adr aT; rw [wr_N hw h]
theorem store_sim (hS : Sim x y) {t u : Nat} (ht : t < 8) (hu : u < 8) : stC (rgA x t) (rgA x u) = stT (thrY 0 y).1 (slA (thrY 0 y) t) (slA (thrY 0 y) u) ∧ Sim (storS t u x) (opY (stT (thrY 0 y).1 (slA (thrY 0 y) t) (slA (thrY 0 y) u)) (onW (copW (slA (thrY 0 y) u) (aT (thrY 0 y).1 (slA (thrY 0 y) t))) (thrY 0 y)) (thrY 0 y)) ∧ zX (opY (stT (thrY 0 y).1 (slA (thrY 0 y) t) (slA (thrY 0 y) u)) (onW (copW (slA (thrY 0 y) u) (aT (thrY 0 y).1 (slA (thrY 0 y) t))) (thrY 0 y)) (thrY 0 y)) = 0 := by
  obtain ⟨hI, hM, hR, _⟩ := hS
  have ht9 := rg_wr hR ht
  have hu9 := rg_wr hR hu
  have hc : stC (rgA x t) (rgA x u) = stT (thrY 0 y).1 (slA (thrY 0 y) t) (slA (thrY 0 y) u) := st_eq hM.2.2.1 ht9 hu9
  refine ⟨hc, ?_⟩
  unfold storS opY
  rw [hc]
  by_cases e : stT (thrY 0 y).1 (slA (thrY 0 y) t) (slA (thrY 0 y) u) = 45
  · rw [if_pos e, if_pos e]
    have ea : acT y.1 (96 + 8 * zD y + t) (stmT y.1 (96 + 8 * zD y + u)) = 45 := by
      have e' := e
      unfold stT at e'
      split at e'
      · omega
      · exact e'
    have had := (acT_a hM.2.2.1 ea).2.2.2
    have hq : adr (rgA x t) = aT (thrY 0 y).1 (slA (thrY 0 y) t) := adr_eq2 hM.2.2.1 ht9
    rw [hq]
    refine ⟨nt_sim (y := onW (copW (slA (thrY 0 y) u) (aT (thrY 0 y).1 (slA (thrY 0 y) t))) (thrY 0 y)) ⟨hI.1, hI.2.1, hI.2.2.1, hI.2.2.2.1, okM_upd hI.2.2.2.2.1 (okV_wr hM.2.2.1 hu9), hI.2.2.2.2.2⟩ (MI_w hM (wOk_cop hM.2.2.1)) (mem_sim (y := thrY 0 y) hR had (chg_cop _ _ _) (wr_cop hu9) (gds_cop (hR.2.2.2.2.2.2.2 _ (by show 96 + 8 * zD y + u < 96 + 8 * zD y + 8; omega)))), zX_mk _⟩
  · rw [if_neg e, if_neg e]
    exact ⟨trap_sim (y := thrY 0 y) hI hM hR (stT_cz e), zX_fal _ _⟩
theorem wr_lod {w : Int64} {v : WW} {st sa : Nat → Nat} {a b p : Nat} (hw : wOk v) (h : wr w v a) (hst : v.1 a = true → (stA st (wB w) = 114 ↔ rsW v sa a = true)) : wr (lodF st w p) (lodW sa p a b v) b := by
  have hk := hw a
  have hrs : rsW (copW a b v) sa b = rsW v sa a := by
    unfold rsW
    show (decide (va_up v.2.2.1 b (v.2.2.1 a) b ≤ 95) && decide (sa (va_up v.2.2.1 b (v.2.2.1 a) b) = 114)) = _
    rw [va_eq]
  unfold wr
  show (va_up (va_up v.1 b (v.1 a)) b (va_up v.1 b (v.1 a) b && (!decide (p &&& 4 = 0) && !rsW (copW a b v) sa b)) b = false → _ = mkN (upd v.2.1 b (v.2.1 a) b)) ∧ (va_up (va_up v.1 b (v.1 a)) b (va_up v.1 b (v.1 a) b && (!decide (p &&& 4 = 0) && !rsW (copW a b v) sa b)) b = true → _ = mkR (va_up v.2.2.1 b (v.2.2.1 a) b) (va_up v.2.2.2.1 b (v.2.2.2.1 a) b) (upd v.2.1 b (v.2.1 a) b) (va_up (va_up v.2.2.2.2.1 b (v.2.2.2.2.1 a)) b (va_up v.2.2.2.2.1 b (v.2.2.2.2.1 a) b &&& (if p &&& 64 = 0 then 61 else 127)) b) (va_up v.2.2.2.2.2 b (v.2.2.2.2.2 a) b) ∧ ((va_up v.2.2.1 b (v.2.2.1 a) b : Nat) : Int) - 8 ≤ (upd v.2.1 b (v.2.1 a) b).toInt ∧ (upd v.2.1 b (v.2.1 a) b).toInt ≤ ((va_up v.2.2.2.1 b (v.2.2.2.1 a) b : Nat) : Int) + 8)
  rw [hrs]
  simp only [va_eq, upd_eq]
  unfold lodF
  rw [wr_M hw h]
  cases e : v.1 a
  · rw [if_pos rfl]
    exact ⟨fun _ => h.1 e, fun z => absurd z (by simp)⟩
  · rw [if_neg (by decide)]
    have hs := hst e
    obtain ⟨b1, b2, b3, b4⟩ := wr_r hw h e
    have hr := (h.2 e).2
    by_cases e1 : p &&& 4 = 0
    · rw [if_pos (Or.inl e1), decide_eq_true e1, wr_N hw h]
      exact ⟨fun _ => rfl, fun z => absurd z (by simp)⟩
    · cases e2 : rsW v sa a
      · rw [if_neg (fun z => z.elim e1 (fun q => absurd (e2.symm.trans (hs.mp q)) (by decide))), decide_eq_false e1]
        refine ⟨fun z => absurd z (by simp), fun _ => ⟨?_, hr⟩⟩
        by_cases e3 : p &&& 64 = 0
        · rw [if_pos e3, if_pos e3, b1, b2, b3, b4, wr_N hw h]; exact mkR_wRt hr
        · rw [if_neg e3, if_neg e3, and127 _ hk.2.2.1]; exact (h.2 e).1
      · rw [if_pos (Or.inr (hs.mpr e2)), wr_N hw h]
        exact ⟨fun _ => rfl, fun z => absurd z (by simp)⟩
theorem load_sim (hS : Sim x y) {t u : Nat} (ht : t < 8) (hu : u < 8) : accF (rgA x u) 1 = acT (thrY 0 y).1 (slA (thrY 0 y) u) 1 ∧ Sim (opS (accF (rgA x u) 1) t (lodF (sS x) (sM x (adr (rgA x u))) (wP (rgA x u))) x) (opY (acT (thrY 0 y).1 (slA (thrY 0 y) u) 1) (onW (lodW (zA (thrY 0 y)) (zP (thrY 0 y) (slA (thrY 0 y) u)) (aT (thrY 0 y).1 (slA (thrY 0 y) u)) (slA (thrY 0 y) t)) (thrY 0 y)) (thrY 0 y)) ∧ zX (opY (acT (thrY 0 y).1 (slA (thrY 0 y) u) 1) (onW (lodW (zA (thrY 0 y)) (zP (thrY 0 y) (slA (thrY 0 y) u)) (aT (thrY 0 y).1 (slA (thrY 0 y) u)) (slA (thrY 0 y) t)) (thrY 0 y)) (thrY 0 y)) = 0 := by
  obtain ⟨hI, hM, hR, _⟩ := hS
  have hu9 := rg_wr hR hu
  have hc : accF (rgA x u) 1 = acT (thrY 0 y).1 (slA (thrY 0 y) u) 1 := acc_tr hM.2.2.1 hu9 1
  refine ⟨hc, ?_⟩
  rw [hc]
  refine op_sim (y := thrY 0 y) hI hM hR ht acT_cz (fun e => ?_)
  have had : aT y.1 (96 + 8 * zD y + u) < 96 := (acT_a hM.2.2.1 e).2.2.2
  have er : y.1.1 (96 + 8 * zD y + u) = true := trF_r (acT_t e)
  have hq : adr (rgA x u) = aT y.1 (96 + 8 * zD y + u) := adr_eq2 hM.2.2.1 hu9
  have hP : wP (rgA x u) = zP (thrY 0 y) (slA (thrY 0 y) u) := (wr_r hM.2.2.1 hu9 er).2.2.1
  have hm := hR.2.2.1.1 _ had
  rw [hq, hP]
  refine ⟨wOk_lod hM.2.2.1, ((chg_cop _ _ _).tr (chg_isr _ _ _)).tr (chg_per _ _ _), wr_lod hM.2.2.1 hm (rs_eq hR hM hm), gds_b (hR.2.2.2.2.2.2.2 (aT y.1 (96 + 8 * zD y + u)) (by omega)) (fun z => ?_) (va_eq _ _ _) (va_eq _ _ _)⟩
  have z' : va_up (va_up y.1.1 (96 + 8 * zD y + t) (y.1.1 (aT y.1 (96 + 8 * zD y + u)))) (96 + 8 * zD y + t) (va_up y.1.1 (96 + 8 * zD y + t) (y.1.1 (aT y.1 (96 + 8 * zD y + u))) (96 + 8 * zD y + t) && _) (96 + 8 * zD y + t) = true := z
  rw [va_eq, va_eq, Bool.and_eq_true] at z'
  exact z'.1
/-! calls -/
theorem rgk_up {y' : YS} (h1 : zD y ≤ zD y') (h2 : y'.2.2.1 = y.2.2.1) {b t : Nat} (h : rgk y b t) : rgk y' b t := by
  have hA : zA y' = zA y := congrArg (fun z : HP => z.2.1) h2
  have hF : zF y' = zF y := congrArg (fun z : HP => z.2.2.2.1) h2
  have hMm : zM y' = zM y := congrArg (fun z : HP => z.2.2.2.2) h2
  rcases h with h | ⟨d, d1, d2⟩ | h
  · exact Or.inl h
  · exact Or.inr (Or.inl ⟨d, Nat.le_trans d1 h1, d2⟩)
  · refine Or.inr (Or.inr ?_); rw [hA, hF, hMm]; exact h
theorem go_sim (hI : Iv x) (hM : MI y) (hR : Rel0 x y) {c g : Nat} {sl : Bool} {u : Int64} (hp : sP x < 7) (hc : c < 4) (hg : g < 96 + 8 * zD y + 8) (hu : wr u (clV sl g y).1 (slA (clV sl g y) 0)) : Sim (goS c u (rgA x 1) x) (mk4 (begY c (clV sl g y))) := by
  obtain ⟨⟨hd, hco⟩, h2, h3, h4, h5, h6, h7, h8⟩ := id hR
  have hMv : MI (clV sl g y) := MI_clV hM (by omega)
  have e0 : slA (clV sl g y) 0 = 96 + 8 * (zD y + 1) + 0 := rfl
  have e1 : slA (clV sl g y) 1 = 96 + 8 * (zD y + 1) + 1 := rfl
  have d0 : slA (dpY y) 0 = 96 + 8 * (zD y + 1) + 0 := rfl
  have d1 : slA (dpY y) 1 = 96 + 8 * (zD y + 1) + 1 := rfl
  have c1 : chg y.1 (copW g (slA (dpY y) 0) y.1) (slA (dpY y) 0) := chg_cop _ _ _
  have c2 : chg (copW g (slA (dpY y) 0) y.1) (copW (slA y 1) (slA (dpY y) 1) (copW g (slA (dpY y) 0) y.1)) (slA (dpY y) 1) := chg_cop _ _ _
  have c3 : chg (copW (slA y 1) (slA (dpY y) 1) (copW g (slA (dpY y) 0) y.1)) (clV sl g y).1 (slA (dpY y) 0) := chg_sel _ _ _
  have low : ∀ (w : Int64) s, s < 96 + 8 * zD y + 8 → wr w y.1 s → wr w (clV sl g y).1 s := fun w s hs h => wr_chg c3 (by rw [d0]; omega) (wr_chg c2 (by rw [d1]; omega) (wr_chg c1 (by rw [d0]; omega) h))
  have lowg : ∀ s, s < 96 + 8 * zD y + 8 → gds (clV sl g y) (clV sl g y).1 s := fun s hs => by
    have a : gds y (clV sl g y).1 s := gds_chg c3 (by rw [d0]; omega) (gds_chg c2 (by rw [d1]; omega) (gds_chg c1 (by rw [d0]; omega) (h8 s hs)))
    exact fun z => ⟨(a z).1, rgk_up (y := y) (y' := clV sl g y) (Nat.le_succ (zD y)) rfl (a z).2⟩
  have hv : wr (rgA x 1) (clV sl g y).1 (slA (clV sl g y) 1) := wr_chg c3 (by rw [d0, e1]; omega) (wr_cop (wr_chg c1 (by rw [d0]; unfold slA; omega) (rg_wr hR (by decide : 1 < 8))))
  have gv : gds (clV sl g y) (clV sl g y).1 (slA (clV sl g y) 1) := by
    have a : gds y (clV sl g y).1 (slA (clV sl g y) 1) := gds_chg c3 (by rw [d0, e1]; omega) (gds_cop (gds_chg c1 (by rw [d0]; unfold slA; omega) (h8 (slA y 1) (by unfold slA; omega))))
    exact fun z => ⟨(a z).1, rgk_up (y := y) (y' := clV sl g y) (Nat.le_succ (zD y)) rfl (a z).2⟩
  have gu : gds (clV sl g y) (clV sl g y).1 (slA (clV sl g y) 0) := by
    have a0 : gds y (copW (slA y 1) (slA (dpY y) 1) (copW g (slA (dpY y) 0) y.1)) (slA (dpY y) 0) := gds_chg c2 (by rw [d0, d1]; omega) (gds_cop (h8 g hg))
    have a : gds y (clV sl g y).1 (slA (clV sl g y) 0) := a0
    exact fun z => ⟨(a z).1, rgk_up (y := y) (y' := clV sl g y) (Nat.le_succ (zD y)) rfl (a z).2⟩
  refine nt_sim (x := begS c u (rgA x 1) (upS x)) (go0_iv hI hp hc (okV_wr hMv.2.2.1 hu) (rgA_ok hI (by decide))) (MI_beg hMv hc) ?_
  refine beg_sim (x := upS x) (y := clV sl g y) (by show sP x + 1 < 8; omega) hc (by show zD y + 1 = sP x + 1; omega) (fun d hd2 => hco d (by have : d < sP x + 1 := hd2; omega)) h2 (fun s hs => low _ s (by omega) (h3.1 s hs)) (fun j hj => ?_) h4 h5 h6 h7 (fun s hs => lowg s (by have : s < 96 + 8 * (zD y + 1) := hs; omega)) hu hv gu gv
  have hj' : j < (sP x + 1) * 8 := hj
  exact low _ _ (by omega) (h3.2 j hj')
theorem clT_eq (hI : Iv x) (hR : Rel0 x y) : (if 7 ≤ sP x then 100 else 45) = clT (thrY 0 y) := by
  have hd := hR.1.1
  have := hI.1
  unfold clT
  by_cases e : 7 ≤ sP x
  · rw [if_pos e, if_pos (by show zD y = 7; omega)]
  · rw [if_neg e, if_neg (by show ¬ zD y = 7; omega)]
theorem call_sim (hS : Sim x y) {c : Nat} (hc : c < 4) : (if 7 ≤ sP x then 100 else 45) = clT (thrY 0 y) ∧ Sim (calS c x) (clY c (slA (thrY 0 y) 0) false (thrY 0 y)) ∧ zX (clY c (slA (thrY 0 y) 0) false (thrY 0 y)) = 0 := by
  obtain ⟨hI, hM, hR, _⟩ := hS
  refine ⟨clT_eq hI hR, ?_⟩
  have hd := hR.1.1
  have hp := hI.1
  unfold calS clY
  by_cases e : 7 ≤ sP x
  · rw [if_pos e, if_pos (by show zD y = 7; omega)]
    exact ⟨trap_sim (y := thrY 0 y) hI hM hR (by unfold isCz; omega), zX_fal _ _⟩
  · rw [if_neg e, if_neg (by show ¬ zD y = 7; omega)]
    refine ⟨go_sim (y := thrY 0 y) hI hM hR (by omega) hc (by show 96 + 8 * zD y + 0 < 96 + 8 * zD y + 8; omega) ?_, zX_mk _⟩
    have h0 := rg_wr hR (by decide : 0 < 8)
    have a : wr (rgA x 0) (copW (slA y 1) (slA (dpY (thrY 0 y)) 1) (copW (slA y 0) (slA (dpY (thrY 0 y)) 0) y.1)) (slA (dpY (thrY 0 y)) 0) := wr_chg (chg_cop _ _ _) (by show 96 + 8 * (zD y + 1) + 0 ≠ 96 + 8 * (zD y + 1) + 1; omega) (wr_cop h0)
    exact wr_same (v := copW (slA y 1) (slA (dpY (thrY 0 y)) 1) (copW (slA y 0) (slA (dpY (thrY 0 y)) 0) y.1)) rfl rfl rfl rfl rfl (va_eq _ _ _) a
theorem callSealed_sim (hS : Sim x y) {u : Nat} (hu : u < 8) : csC (rgA x u) (sP x) = clsT u (thrY 0 y) ∧ Sim (clsS u x) (clsY u (thrY 0 y)) ∧ zX (clsY u (thrY 0 y)) = 0 := by
  obtain ⟨hI, hM, hR, _⟩ := hS
  have hd := hR.1.1
  have hp := hI.1
  have hw := rg_wr hR hu
  have hMw := wr_M hM.2.2.1 hw
  cases e : y.1.1 (96 + 8 * zD y + u)
  · have ez : zI (thrY 0 y) (slA (thrY 0 y) u) = false := e
    have hc : csC (rgA x u) (sP x) = 116 := by unfold csC; rw [if_pos (hMw.trans e)]
    have hm : clsT u (thrY 0 y) = 116 := by unfold clsT; rw [if_pos ez]
    have hy : clsY u (thrY 0 y) = falY 116 (thrY 0 y) := by unfold clsY; rw [if_pos ez]
    unfold clsS
    rw [hc, hm, hy, if_neg (by decide)]
    exact ⟨rfl, trap_sim (y := thrY 0 y) hI hM hR (by unfold isCz; omega), zX_fal _ _⟩
  · have ez : ¬ zI (thrY 0 y) (slA (thrY 0 y) u) = false := by rw [show zI (thrY 0 y) (slA (thrY 0 y) u) = true from e]; decide
    have em : ¬ wM (rgA x u) = false := by rw [hMw, e]; decide
    obtain ⟨b1, b2, b3, b4⟩ := wr_r hM.2.2.1 hw e
    have hk := (hM.2.2.1 (96 + 8 * zD y + u)).2.2.2.2 e
    by_cases e1 : wS (rgA x u) = 0
    · have e1' : zS (thrY 0 y) (slA (thrY 0 y) u) = 0 := b4.symm.trans e1
      have hc : csC (rgA x u) (sP x) = 115 := by unfold csC; rw [if_neg em, if_pos e1]
      have hm : clsT u (thrY 0 y) = 115 := by unfold clsT; rw [if_neg ez, if_pos e1']
      have hy : clsY u (thrY 0 y) = falY 115 (thrY 0 y) := by unfold clsY; rw [if_neg ez, if_pos e1']
      unfold clsS
      rw [hc, hm, hy, if_neg (by decide)]
      exact ⟨rfl, trap_sim (y := thrY 0 y) hI hM hR (by unfold isCz; omega), zX_fal _ _⟩
    · have e1' : ¬ zS (thrY 0 y) (slA (thrY 0 y) u) = 0 := fun z => e1 (b4.trans z)
      have hm : clsT u (thrY 0 y) = clT (thrY 0 y) := by unfold clsT; rw [if_neg ez, if_neg e1']
      have hy : clsY u (thrY 0 y) = clY (zS (thrY 0 y) (slA (thrY 0 y) u) - 1) (slA (thrY 0 y) u) true (thrY 0 y) := by unfold clsY; rw [if_neg ez, if_neg e1']
      have hc : csC (rgA x u) (sP x) = if 7 ≤ sP x then 100 else 45 := by unfold csC; rw [if_neg em, if_neg e1]
      refine ⟨by rw [hc, hm]; exact clT_eq hI hR, ?_⟩
      rw [hy]
      unfold clsS clY
      rw [hc]
      by_cases e2 : 7 ≤ sP x
      · rw [if_pos e2, if_neg (by decide), if_pos (by show zD y = 7; omega)]
        exact ⟨trap_sim (y := thrY 0 y) hI hM hR (by unfold isCz; omega), zX_fal _ _⟩
      · rw [if_neg e2, if_pos rfl, if_neg (by show ¬ zD y = 7; omega)]
        have eS : wS (rgA x u) - 1 = zS (thrY 0 y) (slA (thrY 0 y) u) - 1 := by rw [b4]; rfl
        rw [eS]
        refine ⟨go_sim (y := thrY 0 y) hI hM hR (by omega) (by show y.1.2.2.2.2.2 (96 + 8 * zD y + u) - 1 < 4; omega) (by show 96 + 8 * zD y + u < 96 + 8 * zD y + 8; omega) ?_, zX_mk _⟩
        have a : wr (wRt (wB (rgA x u)) (wT (rgA x u)) (wN (rgA x u)) (wP (rgA x u)) 0) (slkW 0 (96 + 8 * zD y + u) (96 + 8 * (zD y + 1) + 0) y.1) (96 + 8 * (zD y + 1) + 0) := wr_slk hM.2.2.1 hw e
        have b : wr (wRt (wB (rgA x u)) (wT (rgA x u)) (wN (rgA x u)) (wP (rgA x u)) 0) (copW (slA y 1) (96 + 8 * (zD y + 1) + 1) (slkW 0 (96 + 8 * zD y + u) (96 + 8 * (zD y + 1) + 0) y.1)) (96 + 8 * (zD y + 1) + 0) := wr_chg (chg_cop _ _ _) (by omega) a
        refine wr_same (v := copW (slA y 1) (96 + 8 * (zD y + 1) + 1) (slkW 0 (96 + 8 * zD y + u) (96 + 8 * (zD y + 1) + 0) y.1)) rfl rfl rfl rfl rfl ?_ b
        show va_up _ (96 + 8 * (zD y + 1) + 0) 0 (96 + 8 * (zD y + 1) + 0) = va_up (va_up (va_up y.1.2.2.2.2.2 (96 + 8 * (zD y + 1) + 0) _) (96 + 8 * (zD y + 1) + 0) 0) (96 + 8 * (zD y + 1) + 1) _ (96 + 8 * (zD y + 1) + 0)
        rw [va_eq, va_ne _ _ (by omega), va_eq]
theorem leave_sim (hS : Sim x y) (h0 : 0 < sP x) : sP x - 1 = zD (thrY 0 y) - 1 ∧ Sim (ntS (endS (lvW (rgA x 0)) x)) (lvY (thrY 0 y)) ∧ zX (lvY (thrY 0 y)) = 0 := by
  obtain ⟨hI, hM, hR, _⟩ := hS
  have hd := hR.1.1
  have hp := hI.1
  have hw := rg_wr hR (by decide : 0 < 8)
  refine ⟨by show sP x - 1 = zD y - 1; omega, ?_, zX_mk _⟩
  have hne : 96 + 8 * zD y + 0 ≠ 96 + 8 * (zD y - 1) + 0 := by omega
  have hcA : (copW (96 + 8 * zD y + 0) (96 + 8 * (zD y - 1) + 0) y.1).1 (96 + 8 * zD y + 0) = y.1.1 (96 + 8 * zD y + 0) := va_ne _ _ hne
  have hcP : (copW (96 + 8 * zD y + 0) (96 + 8 * (zD y - 1) + 0) y.1).2.2.2.2.1 (96 + 8 * zD y + 0) = y.1.2.2.2.2.1 (96 + 8 * zD y + 0) := va_ne _ _ hne
  have hlv : chg y.1 (lvMW (96 + 8 * zD y + 0) (96 + 8 * (zD y - 1) + 0) y.1) (96 + 8 * (zD y - 1) + 0) ∧ wr (lvW (rgA x 0)) (lvMW (96 + 8 * zD y + 0) (96 + 8 * (zD y - 1) + 0) y.1) (96 + 8 * (zD y - 1) + 0) ∧ gds y (lvMW (96 + 8 * zD y + 0) (96 + 8 * (zD y - 1) + 0) y.1) (96 + 8 * (zD y - 1) + 0) := by
    unfold lvMW lvW
    rw [hcA, hcP, wr_M hM.2.2.1 hw]
    by_cases e : y.1.1 (96 + 8 * zD y + 0) = true
    · have hb := bit16 (y.1.2.2.2.2.1 (96 + 8 * zD y + 0)) (hM.2.2.1 _).2.2.1
      rw [(wr_r hM.2.2.1 hw e).2.2.1]
      by_cases e2 : y.1.2.2.2.2.1 (96 + 8 * zD y + 0) &&& 16 = 0
      · have e3 : ¬ y.1.2.2.2.2.1 (96 + 8 * zD y + 0) &&& 16 = 16 := by omega
        rw [if_pos ⟨e, e2⟩, if_pos ⟨e, e3⟩]
        exact ⟨(chg_cop _ _ _).tr (chg_num _ _ _), wr_num _ _ _, gds_num _ _ _ _⟩
      · have e3 : y.1.2.2.2.2.1 (96 + 8 * zD y + 0) &&& 16 = 16 := by
          rw [decide_eq_false e2] at hb; exact of_decide_eq_true hb
        rw [if_neg (fun z => e2 z.2), if_neg (fun z => z.2 e3)]
        exact ⟨chg_cop _ _ _, wr_cop hw, gds_cop (hR.2.2.2.2.2.2.2 _ (by omega))⟩
    · rw [if_neg (fun z => e z.1), if_neg (fun z => e z.1)]
      exact ⟨chg_cop _ _ _, wr_cop hw, gds_cop (hR.2.2.2.2.2.2.2 _ (by omega))⟩
  have hwv : wOk (lvMW (96 + 8 * zD y + 0) (96 + 8 * (zD y - 1) + 0) y.1) := wOk_lvM hM.2.2.1
  exact nt_sim (endS_iv hI (lvW_ok (rgA_ok hI (by decide)))) (MI_ret (y := onW (lvMW (slA (thrY 0 y) 0) (96 + 8 * (zD (thrY 0 y) - 1) + 0)) (thrY 0 y)) (MI_w hM hwv)) (end_sim (y := thrY 0 y) hM hR h0 hp hwv hlv.1 hlv.2.1 hlv.2.2)
/-! heap -/
theorem quota_eq (hM : MI y) (hR : Rel0 x y) {n : Nat} (hn : mdF n ≤ 32) : gtQ n x = qtM n (thrY 0 y) := by
  unfold gtQ qtM
  have hc := run_eq hR
  have hc4 : zR y (zD y) < 4 := hM.2.1 _
  show decide (¬ nI (sQ x (sC x (sP x))) < sN x (sC x (sP x)) + nI (mdF n)) = decide (cntF (ownM y (zR y (zD y))) 32 + mdF n ≤ zQ y (zR y (zD y)))
  rw [hc, hR.2.1 _ hc4, hR.2.2.2.1.2.2.1 _ hc4, own_eq hR, nI_add]
  have h1 := cntF_le (ownM y (zR y (zD y))) 32
  have h2 := (hM.2.2.2.2.2 (zR y (zD y))).2.2.2
  refine decide_eq_decide.mpr ⟨fun z => ?_, fun z => nI_nlt z (by omega)⟩
  exact Nat.le_of_not_lt fun q => z ((nI_ltI (by omega) (by omega)).mpr q)
theorem get_sim (hS : Sim x y) {t n : Nat} (ht : t < 8) (hn1 : 1 ≤ n) (hn2 : n ≤ 32) : gtC n x = gtMT n (thrY 0 y) ∧ Sim (getS t n x) (getY t n (thrY 0 y)) ∧ zX (getY t n (thrY 0 y)) = 0 := by
  obtain ⟨hI, hM, hR, _⟩ := hS
  have hmd := mdF_le hn1 hn2
  have hq := quota_eq hM hR hmd.2
  have hk : lowX (lwP (sS x) (mdF n)) = gtK n (thrY 0 y) := lw_eq hR hmd.2
  have hgs : ∀ k, k ≤ 32 → MI (gsY (mdF n) k (thrY 0 y)) := fun k hk => MI_gsY hM hmd.2 k hk
  have hc : gtC n x = gtMT n (thrY 0 y) := by unfold gtC gtMT; rw [hq, hk]
  rw [hc]
  unfold getS
  rw [hc]
  refine ⟨rfl, ?_⟩
  cases e : qtM n (thrY 0 y)
  · have h1 : gtMT n (thrY 0 y) = 113 := by unfold gtMT; rw [if_pos e]
    have h2 : getY t n (thrY 0 y) = falY 113 (thrY 0 y) := by unfold getY; rw [if_pos e]
    rw [h1, h2, if_neg (by decide)]
    exact ⟨trap_sim (y := thrY 0 y) hI hM hR (by unfold isCz; omega), zX_fal _ _⟩
  · have e' : ¬ qtM n (thrY 0 y) = false := by rw [e]; decide
    by_cases e2 : gtK n (thrY 0 y) < 32
    · have h1 : gtMT n (thrY 0 y) = 45 := by unfold gtMT; rw [if_neg e', if_pos e2]
      have h2 : getY t n (thrY 0 y) = mk4 (gotY t n (thrY 0 y)) := by unfold getY; rw [if_neg e', if_pos e2]
      rw [h1, h2, if_pos rfl]
      have hb : gtB n x = 64 + gtK n (thrY 0 y) := by unfold gtB; rw [hk]
      have hfit := gtK_fit e2
      have hat := gtK_at e2
      have hc4 : zR y (zD y) < 4 := hM.2.1 _
      have hc := run_eq hR
      have haf : afB (zA y) (64 + gtK n (thrY 0 y)) (64 + gtK n (thrY 0 y) + mdF n) = true := hat
      rw [hb]
      have hMg := hgs _ (gtE_le n (thrY 0 y))
      have hG := got_sim (c := sC x (sP x)) hM hR hmd.1 (by omega) hfit (by rw [hc]; exact hc4) rfl haf (y' := gsY (mdF n) (gtE n (thrY 0 y)) (thrY 0 y)) rfl rfl rfl rfl rfl rfl
      have hMt : MI (tkY (sC x (sP x)) (64 + gtK n (thrY 0 y)) (mdF n) (mdF n) (gsY (mdF n) (gtE n (thrY 0 y)) (thrY 0 y))) := MI_tkY hMg (by rw [hc]; exact hc4) (by omega) (by omega)
      have hex : exactB (64 + gtK n (thrY 0 y)) (64 + gtK n (thrY 0 y) + mdF n) = true := by
        unfold afB at haf
        rw [Bool.and_eq_true, Bool.and_eq_true] at haf
        exact haf.2.1
      refine ⟨?_, zX_mk _⟩
      have ez : gotY t n (thrY 0 y) = onW (rigW (slA (thrY 0 y) t) (64 + gtK n (thrY 0 y)) (64 + gtK n (thrY 0 y) + mdF n) 95) (tkY (sC x (sP x)) (64 + gtK n (thrY 0 y)) (mdF n) (mdF n) (gsY (mdF n) (gtE n (thrY 0 y)) (thrY 0 y))) := by
        rw [hc]; rfl
      rw [ez]
      have hIg : Iv (gt0 (64 + gtK n (thrY 0 y)) (mdF n) x) := gt0_iv hI hfit
      generalize hY1 : tkY (sC x (sP x)) (64 + gtK n (thrY 0 y)) (mdF n) (mdF n) (gsY (mdF n) (gtE n (thrY 0 y)) (thrY 0 y)) = Y1 at hG hMt ⊢
      have hD1 : zD Y1 = zD y := by rw [← hY1]; rfl
      have hs1 : slA (thrY 0 y) t = 96 + 8 * zD Y1 + t := by rw [hD1]; rfl
      rw [hs1]
      refine keep_sim (y := Y1) hIg hMt hG ht (wOk_rig hMt.2.2.1 (by omega) hfit (by decide)) (chg_rig _ _ _ _ _) (wr_rig _ _ (by omega) hfit) (fun _ => ?_)
      show exactB (va_up _ (96 + 8 * zD Y1 + t) (64 + gtK n (thrY 0 y)) (96 + 8 * zD Y1 + t)) (va_up _ (96 + 8 * zD Y1 + t) (64 + gtK n (thrY 0 y) + mdF n) (96 + 8 * zD Y1 + t)) = true ∧ rgk Y1 (va_up _ (96 + 8 * zD Y1 + t) (64 + gtK n (thrY 0 y)) (96 + 8 * zD Y1 + t)) (va_up _ (96 + 8 * zD Y1 + t) (64 + gtK n (thrY 0 y) + mdF n) (96 + 8 * zD Y1 + t))
      rw [va_eq, va_eq]
      refine ⟨hex, Or.inr (Or.inr ⟨by omega, ?_, ?_⟩)⟩
      · rw [← hY1]
        show filA _ 103 (64 + gtK n (thrY 0 y)) (64 + gtK n (thrY 0 y) + mdF n) (64 + gtK n (thrY 0 y)) ≠ 102
        unfold filA; rw [if_pos (by omega)]; decide
      · rw [← hY1]
        show _ ≤ filA _ (64 + gtK n (thrY 0 y)) (64 + gtK n (thrY 0 y)) (64 + gtK n (thrY 0 y) + mdF n) (64 + gtK n (thrY 0 y)) + filA _ (mdF n) (64 + gtK n (thrY 0 y)) (64 + gtK n (thrY 0 y) + mdF n) (64 + gtK n (thrY 0 y))
        unfold filA; rw [if_pos (by omega), if_pos (by omega)]; omega
    · have h1 : gtMT n (thrY 0 y) = 109 := by unfold gtMT; rw [if_neg e', if_neg e2]
      have h2 : getY t n (thrY 0 y) = falY 109 (gsY (mdF n) (gtE n (thrY 0 y)) (thrY 0 y)) := by unfold getY; rw [if_neg e', if_neg e2]
      rw [h1, h2, if_neg (by decide)]
      exact ⟨trap_sim (y := gsY (mdF n) (gtE n (thrY 0 y)) (thrY 0 y)) hI (hgs _ (gtE_le n _)) hR (by unfold isCz; omega), zX_fal _ _⟩
theorem free_sim (hS : Sim x y) {u : Nat} (hu : u < 8) : frC (rgA x u) x = frMT u (thrY 0 y) ∧ Sim (freS u x) (freY u (thrY 0 y)) ∧ zX (freY u (thrY 0 y)) = 0 := by
  obtain ⟨hI, hM, hR, _⟩ := hS
  have hw := rg_wr hR hu
  have hc0 : useF (rgA x u) 2 = trF (thrY 0 y).1 (slA (thrY 0 y) u) 2 := use_tr hM.2.2.1 hw 2
  have hc : frC (rgA x u) x = frMT u (thrY 0 y) := by
    unfold frC frMT
    rw [hc0]
    by_cases e : trF (thrY 0 y).1 (slA (thrY 0 y) u) 2 = 45
    · have er : y.1.1 (96 + 8 * zD y + u) = true := trF_r e
      obtain ⟨b1, b2, _⟩ := wr_r hM.2.2.1 hw er
      have hk := (hM.2.2.1 (96 + 8 * zD y + u)).2.2.2.2 er
      have hb : blkB x (wB (rgA x u)) (wT (rgA x u)) = blkM (thrY 0 y) (zB (thrY 0 y) (slA (thrY 0 y) u)) (zT (thrY 0 y) (slA (thrY 0 y) u)) := by
        rw [b1, b2]; exact blk_eq hR hk.1 hk.2.1
      rw [hb, if_pos e]
      cases blkM (thrY 0 y) (zB (thrY 0 y) (slA (thrY 0 y) u)) (zT (thrY 0 y) (slA (thrY 0 y) u))
      · rw [if_pos ⟨e, rfl⟩, if_neg (by decide)]
      · rw [if_neg (fun z => absurd z.2 (by decide)), if_pos rfl, e]
    · rw [if_neg (fun z => e z.1), if_neg e]
  refine ⟨hc, ?_⟩
  unfold freS freY opY
  rw [hc]
  by_cases e : frMT u (thrY 0 y) = 45
  · rw [if_pos e, if_pos e]
    have e' := e
    unfold frMT at e'
    by_cases e1 : trF (thrY 0 y).1 (slA (thrY 0 y) u) 2 = 45
    · rw [if_pos e1] at e'
      have er : y.1.1 (96 + 8 * zD y + u) = true := trF_r e1
      obtain ⟨b1, b2, _⟩ := wr_r hM.2.2.1 hw er
      have hk := (hM.2.2.1 (96 + 8 * zD y + u)).2.2.2.2 er
      cases e2 : blkM (thrY 0 y) (zB (thrY 0 y) (slA (thrY 0 y) u)) (zT (thrY 0 y) (slA (thrY 0 y) u))
      · rw [e2, if_neg (by decide)] at e'; omega
      · have eb : zB (thrY 0 y) (slA (thrY 0 y) u) = wB (rgA x u) := b1.symm
        have et : zT (thrY 0 y) (slA (thrY 0 y) u) = wT (rgA x u) := b2.symm
        rw [eb, et] at e2 ⊢
        have hF := fre_sim hM hR (b := wB (rgA x u)) (t := wT (rgA x u)) (by omega) (by omega) e2
        exact ⟨nt_sim (y := frMY (wB (rgA x u)) (wT (rgA x u)) (thrY 0 y)) (fr0_iv hI) (MI_frM hM) hF, zX_mk _⟩
    · rw [if_neg e1] at e'; exact absurd e' e1
  · rw [if_neg e, if_neg e]
    exact ⟨trap_sim (y := thrY 0 y) hI hM hR (frMT_cz e), zX_fal _ _⟩
theorem sweep_sim (hS : Sim x y) : drpN (swp0 x) = cntF (swP (thrY 0 y).1 (zA (thrY 0 y))) (96 + 8 * zD (thrY 0 y) + 8) ∧ Sim (swpS x) (swY (thrY 0 y)) := by
  obtain ⟨hI, hM, hR, _⟩ := hS
  have h := swp_sim hI hM hR
  exact ⟨h.2, nt_sim (y := swY0 (thrY 0 y)) (swp1_iv hI) (MI_swY0 (y := thrY 0 y) hM) h.1⟩
theorem quo_sim (hS : Sim x y) {c q : Nat} (hc : c < 4) (hq : q ≤ 32) : sQ x c = zQ (thrY 0 y) c ∧ Sim (quoS c q x) (quY c q (thrY 0 y)) := by
  obtain ⟨hI, hM, hR, hRR⟩ := hS
  obtain ⟨h1, h2, h3, h4, h5, h6, h7, h8⟩ := id hR
  refine ⟨h2 c hc, hI, ⟨hM.1, hM.2.1, hM.2.2.1, hM.2.2.2.1, hM.2.2.2.2.1, fun j => ⟨(hM.2.2.2.2.2 j).1, (hM.2.2.2.2.2 j).2.1, (hM.2.2.2.2.2 j).2.2.1, ?_⟩⟩, ⟨h1, fun k hk => ?_, h3, h4, h5, h6, h7, h8⟩, hRR⟩
  · show va_up (zQ y) c q j ≤ 32
    by_cases e : j = c
    · rw [e, va_eq]; exact hq
    · rw [va_ne _ _ e]; exact (hM.2.2.2.2.2 j).2.2.2
  · show va_up (sQ x) c q k = va_up (zQ y) c q k
    by_cases e : k = c
    · rw [e, va_eq, va_eq]
    · rw [va_ne _ _ e, va_ne _ _ e]; exact h2 k hk
/-! asked -/
theorem cnt_sim (hS : Sim x y) {c : Nat} (hc : c < 4) : sN x c = nI (cntF (ownM (thrY 0 y) c) 32) := by
  obtain ⟨_, _, hR, _⟩ := hS
  rw [hR.2.2.2.1.2.2.1 c hc, own_eq hR]; rfl
theorem sta_sim (hS : Sim x y) {q : Nat} (hq : q < 96) : stA (sS x) q = zA (thrY 0 y) q := hS.2.2.1.2.2.2.1.1 q hq
theorem val_sim (hS : Sim x y) {u : Nat} (hu : u < 8) : wN (rgA x u) = zN (thrY 0 y) (slA (thrY 0 y) u) := wr_N hS.2.1.2.2.1 (rg_wr hS.2.2.1 hu)
theorem isr_sim (hS : Sim x y) {u : Nat} (hu : u < 8) : wM (rgA x u) = zI (thrY 0 y) (slA (thrY 0 y) u) := wr_M hS.2.1.2.2.1 (rg_wr hS.2.2.1 hu)
theorem ask_sim (hS : Sim x y) {u c : Nat} (hu : u < 8) (hm : wM (rgA x u) = true) : askF (rgA x u) c = askM (thrY 0 y).1 (slA (thrY 0 y) u) c := by
  have hw := rg_wr hS.2.2.1 hu
  have e : y.1.1 (96 + 8 * zD y + u) = true := (wr_M hS.2.1.2.2.1 hw).symm.trans hm
  obtain ⟨b1, b2, b3, b4⟩ := wr_r hS.2.1.2.2.1 hw e
  unfold askF askM
  rw [b1, b2, b3, b4]; rfl
theorem cel_sim (hS : Sim x y) {q : Nat} (hq : q < 96) : wN (sM x q) = zN (thrY 0 y) q := wr_N hS.2.1.2.2.1 (hS.2.2.1.2.2.1.1 q hq)
theorem hrt_sim (hS : Sim x y) {q : Nat} (hq : q < 96) : wM (sM x q) = zI (thrY 0 y) q := wr_M hS.2.1.2.2.1 (hS.2.2.1.2.2.1.1 q hq)
theorem dep_sim (hS : Sim x y) : sP x = zD y := hS.2.2.1.1.1.symm
theorem run_sim (hS : Sim x y) {d : Nat} (hd : d ≤ sP x) : sC x d = zR (thrY 0 y) d := hS.2.2.1.1.2 d hd
theorem rea_sim (hS : Sim x y) {c q : Nat} (hc : c < 4) (hq : q < 96) : bt (sT x).1.1 c q = zE (finY c (thrY 0 y)) q ∧ Sim x (finY c (thrY 0 y)) := by
  refine ⟨?_, hS.1, hS.2.1, hS.2.2.1, hS.2.2.2⟩
  have a := hS.2.2.2 c q hc (by omega)
  have b2 : zE (finY c (thrY 0 y)) q = true ↔ RCM y c q := fin_RC (y := thrY 0 y) hS.2.1 hc hq (y' := thrY 0 y) hS.2.1 rfl rfl rfl
  cases z : zE (finY c (thrY 0 y)) q
  · cases z2 : bt (sT x).1.1 c q
    · rfl
    · rw [b2.mpr (a.mp z2)] at z; exact absurd z (by decide)
  · exact a.mpr (b2.mp z)
theorem evr_sim (hS : Sim x y) {c q : Nat} (hc : c < 4) (hq : q < 96) : bt (sT x).2 c q = zV (thrY 0 y) (96 * c + q) := hS.2.2.1.2.2.2.2.2.1 c q hc hq
theorem trp_sim (hS : Sim x y) {c : Nat} (hc : isCz c) : sK x (cIx c) = zK (thrY 0 y) (cIx c) := hS.2.2.1.2.2.2.2.1 _ (cIx_lt hc)
theorem chk_sim (hS : Sim x y) : chkF (sM x) 96 = chkM (zI (thrY 0 y)) (zN (thrY 0 y)) 96 := chk_eq hS.2.1 hS.2.2.1 96 (Nat.le_refl 96)
theorem rts_sim (hS : Sim x y) : cntF (fun i => wM (sM x i)) 96 = cntF (zI (thrY 0 y)) 96 := rts_eq hS.2.1 hS.2.2.1
theorem men_sim (hS : Sim x y) : menF (sT x).1.1 4 = nI (mrX (thrY 0 y)).2 ∧ (mrX (thrY 0 y)).2 ≤ 384 ∧ Sim x (mrX (thrY 0 y)).1 := by
  have h0 : Sim x (thrY 0 y) := sim_thr 0 hS
  rw [mrX_1, mrX_2]
  refine ⟨men_eq h0 4 (Nat.le_refl 4), mrN_le (thrY 0 y) 4, ?_⟩
  obtain ⟨m1, m2, m3, m4, m5⟩ := mrY_12 (thrY 0 y) 4
  have hMm := mrY_MI h0.2.1 4
  generalize mrY (thrY 0 y) 4 = Z at *
  obtain ⟨Z1, Z2, Z3, ⟨Z4, Z5, Z6⟩, Z7⟩ := Z
  have k1 : Z1 = y.1 := m1
  have k2 : Z2 = (thrY 0 y).2.1 := m2
  have k3 : Z3 = y.2.2.1 := m3
  have k4 : Z6 = zV y := m4
  have k5 : Z7 = zK y := m5
  subst k1; subst k2; subst k3; subst k4; subst k5
  exact ⟨hS.1, hMm, h0.2.2.1, h0.2.2.2⟩
/-! the beginning -/
theorem beg_low (a : Nat) (h : a < 96) : (begY 0 (y0A 96 4)).1.1 a = false := by
  show va_up (va_up (nmW 0 6 (y0A 96 4).1).1 (96 + 8 * 0 + 6) true) (96 + 8 * 0 + 7) true a = false
  rw [va_ne _ _ (by omega), va_ne _ _ (by omega), (nmW_o 0 (y0A 96 4).1 6 a).1]
  split <;> rfl
theorem in0_le : in0.1.2.2.2 ≤ 96 := by
  have h := inN_le (N := (ownT 0 32 36 (fun _ => 0, fun _ => 0, fun _ => 0, 0), fun _ => 0)) (ownT_le (Nat.zero_le _)) 4
  unfold in0; exact h
theorem ini_Iv (T : NN) (h : T.1.2.2.2 ≤ 96) : Iv ((fun _ => 0, begR (fun _ => 0) 0 0 (mkN (nI 0)) (mkN (nI 0)), va_up (fun _ => 0) 0 0, 0, filA (fun _ => 0) 102 0 32, fun _ => 0, fun _ => 0, filA (fun _ => 0) 16 0 4, fun _ => nI 0, T, fun _ => 0, fun _ => 0) : CS) := by
  refine ⟨by show 0 < 8; decide, fun j => ?_, fun j => ?_, fun j => by show 0 < 4; decide, fun j _ h => ?_, ?_, h, fun j => by show 0 < 65536; decide⟩
  · show va_up (fun _ => 0) 0 0 j < 4
    unfold va_up; split
    · decide
    · show 0 < 4; decide
  · show filA (fun _ => 0) 102 0 32 j < 65536
    unfold filA; split
    · decide
    · show 0 < 65536; decide
  · have h' : wM 0 = true := h
    rw [show wM 0 = false by decide] at h'; exact absurd h' (by decide)
  · show okM (begR (fun _ => 0) 0 0 (mkN (nI 0)) (mkN (nI 0))) ((0 + 1) * 8)
    exact okM_beg (fun j hj => absurd hj (by omega)) (by decide) (by decide) (okV_n _) (okV_n _)
theorem ini_sim : Sim iniX inY := by
  have hI : Iv iniX := ini_Iv in0 in0_le
  have hM0 : MI (y0A 96 4) := MI_y0A
  have hM : MI (begY 0 (y0A 96 4)) := MI_beg hM0 (by decide)
  have m0 : (0 : Int64) = mkN (nI 0) := by decide
  have wr0 : ∀ s, wr (mkN (nI 0)) (y0A 96 4).1 s := fun s => ⟨fun _ => rfl, fun z => Bool.noConfusion z⟩
  have gd0 : ∀ s, gds (y0A 96 4) (y0A 96 4).1 s := fun s z => Bool.noConfusion z
  have hA : ∀ q, q < 96 → zA (y0A 96 4) q = if q < 64 then 45 else 102 := fun q hq => by show iniA 96 q = _; unfold iniA; rw [if_pos hq]
  have hst : ∀ q, q < 96 → stA (filA (fun _ => 0) 102 0 32) q = if q < 64 then 45 else 102 := fun q hq => by
    unfold stA filA
    by_cases e : q < 64
    · rw [if_neg (by omega), if_pos e]
    · rw [if_pos (by omega), if_pos (by omega), if_neg e]
  have hbt0 : ∀ s q, bt (fun _ => (0 : Int64)) s q = false := fun s q => by
    unfold bt; rw [show uL (0 : Int64) = 0 by decide, Nat.zero_testBit]
  -- the sets of a new object
  have aT : Adds 0 ((fun _ => 0, fun _ => 0, fun _ => 0, 0) : TT) (ownT 0 32 36 (fun _ => 0, fun _ => 0, fun _ => 0, 0)) (rng 32 36) (rng 32 36) := ownT_adds _ (by decide) (by decide)
  have hin : ∀ n, n ≤ 4 → ∀ c q, c < 4 → q < 128 → (bt (inN n (ownT 0 32 36 (fun _ => 0, fun _ => 0, fun _ => 0, 0), fun _ => 0)).1.1 c q = true ↔ (c = 0 ∧ rng 32 36 q) ∨ (c < n ∧ rng (c * 8) ((c + 1) * 8) q)) ∧ (bt (inN n (ownT 0 32 36 (fun _ => 0, fun _ => 0, fun _ => 0, 0), fun _ => 0)).2 c q = true ↔ c < n ∧ bt (inN n (ownT 0 32 36 (fun _ => 0, fun _ => 0, fun _ => 0, 0), fun _ => 0)).1.1 c q = true) := by
    intro n
    induction n with
    | zero =>
      intro _ c q hc hq
      refine ⟨?_, ?_⟩
      · show bt (ownT 0 32 36 _).1 c q = true ↔ _
        by_cases e : c = 0
        · subst e
          rw [aT.1 q hq]
          show bt (fun _ => (0 : Int64)) 0 q = true ∨ _ ↔ _
          rw [hbt0]; simp
        · rw [aT.2.1 c q e hq]
          show bt (fun _ => (0 : Int64)) c q = true ↔ _
          rw [hbt0]; simp [e]
      · show bt (fun _ => (0 : Int64)) c q = true ↔ _
        rw [hbt0]; simp
    | succ n ih =>
      intro hn c q hc hq
      obtain ⟨i1, i2⟩ := ih (by omega) c q hc hq
      have ao := ownT_adds (c := n) (b := n * 8) (t := (n + 1) * 8) (inN n (ownT 0 32 36 (fun _ => 0, fun _ => 0, fun _ => 0, 0), fun _ => 0)).1 (by omega) (by omega)
      have f1 : bt (inN (n + 1) (ownT 0 32 36 (fun _ => 0, fun _ => 0, fun _ => 0, 0), fun _ => 0)).1.1 c q = true ↔ (c = 0 ∧ rng 32 36 q) ∨ (c < n + 1 ∧ rng (c * 8) ((c + 1) * 8) q) := by
        show bt (ownT n (n * 8) ((n + 1) * 8) (inN n (ownT 0 32 36 (fun _ => 0, fun _ => 0, fun _ => 0, 0), fun _ => 0)).1).1 c q = true ↔ _
        by_cases e : c = n
        · subst e
          rw [ao.1 q hq, i1]
          constructor
          · rintro ((z | z) | z)
            · exact Or.inl z
            · omega
            · exact Or.inr ⟨by omega, z⟩
          · rintro (z | z)
            · exact Or.inl (Or.inl z)
            · exact Or.inr z.2
        · rw [ao.2.1 c q e hq, i1]
          refine or_congr Iff.rfl ⟨fun z => ⟨by omega, z.2⟩, fun z => ⟨by omega, z.2⟩⟩
      refine ⟨f1, ?_⟩
      show bt (allH (inN n (ownT 0 32 36 (fun _ => 0, fun _ => 0, fun _ => 0, 0), fun _ => 0)).2 (ownT n (n * 8) ((n + 1) * 8) (inN n (ownT 0 32 36 (fun _ => 0, fun _ => 0, fun _ => 0, 0), fun _ => 0)).1).1 n) c q = true ↔ c < n + 1 ∧ bt (ownT n (n * 8) ((n + 1) * 8) (inN n (ownT 0 32 36 (fun _ => 0, fun _ => 0, fun _ => 0, 0), fun _ => 0)).1).1 c q = true
      rw [bt_allH _ _ hq, Bool.or_eq_true, Bool.and_eq_true, decide_eq_true_eq, i2]
      by_cases e : c = n
      · subst e
        constructor
        · rintro (z | z)
          · omega
          · exact ⟨by omega, z.2⟩
        · rintro z; exact Or.inr ⟨rfl, z.2⟩
      · rw [ao.2.1 c q e hq]
        constructor
        · rintro (z | z)
          · exact ⟨by omega, z.2⟩
          · exact absurd z.1 e
        · rintro z; exact Or.inl ⟨by omega, z.2⟩
  have hin4 := hin 4 (Nat.le_refl 4)
  have hR0 : ∀ T : NN, RV ((sM iniX, sR iniX, sC iniX, sP iniX, sS iniX, sO iniX, sB iniX, sQ iniX, sN iniX, T, sK iniX, sD iniX) : CS) (y0A 96 4) → Rel0 ((sM iniX, sR iniX, sC iniX, sP iniX, sS iniX, sO iniX, sB iniX, sQ iniX, sN iniX, T, sK iniX, sD iniX) : CS) (begY 0 (y0A 96 4)) := fun T hV => by
    refine beg_sim (x := ((fun _ => 0, fun _ => 0, fun _ => 0, 0, filA (fun _ => 0) 102 0 32, fun _ => 0, fun _ => 0, filA (fun _ => 0) 16 0 4, fun _ => nI 0, T, fun _ => 0, fun _ => 0) : CS)) (y := y0A 96 4) (by show 0 < 8; decide) (by decide) rfl (fun d hd => absurd hd (Nat.not_lt_zero d)) (fun _ _ => rfl) (fun s _ => m0 ▸ wr0 s) (fun j hj => absurd hj (by show ¬ j < 0 * 8; omega)) ⟨fun q hq => ?_, fun i hi hn => rfl, fun c hc => ?_, fun i hi => ?_⟩ (fun _ _ => rfl) hV (fun q q1 q2 q3 => ?_) (fun s _ => gd0 s) (wr0 _) (wr0 _) (gd0 _) (gd0 _)
    · show stA (filA (fun _ => 0) 102 0 32) q = zA (y0A 96 4) q
      rw [hst q hq, hA q hq]
    · show nI 0 = nI (cntF (ownP (filA (fun _ => 0) 102 0 32) (fun _ => 0) c) 32)
      rw [cntF_zero 32 (fun j hj => by unfold ownP filA; rw [if_pos ⟨Nat.zero_le j, hj⟩]; simp)]
    · show 0 = blkR (filA (fun _ => 0) 102 0 32 i) _ _ _
      rw [blkR_0]
      unfold filA; rw [if_pos ⟨Nat.zero_le i, hi⟩]; omega
    · rw [hA q q2, if_neg (by omega)] at q3; exact absurd rfl q3
  have hRC : ∀ c q, c < 4 → (RCM (begY 0 (y0A 96 4)) c q ↔ (c = 0 ∧ rng 32 36 q) ∨ rng (c * 8) ((c + 1) * 8) q) := fun c q hc => by
    have hown : oM (begY 0 (y0A 96 4)) c q ↔ (c = 0 ∧ rng 32 36 q) ∨ rng (c * 8) ((c + 1) * 8) q := by
      unfold oM ownC rng
      show q < 96 ∧ (if q < 32 then decide (q / 8 = c) else decide (q < 64) && (decide ((q - 32) / 4 ≤ 0) && decide (va_up (fun _ => 0) 0 0 ((q - 32) / 4) = c))) = true ↔ _
      have ev : ∀ j, va_up (fun _ => 0) 0 0 j = 0 := fun j => by unfold va_up; split <;> rfl
      rw [ev]
      by_cases e : q < 32
      · rw [if_pos e, decide_eq_true_eq]; omega
      · rw [if_neg e, Bool.and_eq_true, Bool.and_eq_true, decide_eq_true_eq, decide_eq_true_eq, decide_eq_true_eq]; omega
    rw [← hown]
    constructor
    · intro h
      rcases h with h | ⟨d, d1, d2, r, r1, r2, r3⟩ | ⟨a, _, e1, e2, _⟩
      · exact h
      · have d0 : d = 0 := Nat.le_zero.mp d1
        subst d0
        have c0 : c = 0 := by
          have : va_up (fun _ => 0) 0 0 0 = c := d2
          rw [va_eq] at this; exact this.symm
        subst c0
        rw [hown]
        have er := rdW_r r2
        have hr : r = 6 ∨ r = 7 := by
          have : r = 0 ∨ r = 1 ∨ r = 2 ∨ r = 3 ∨ r = 4 ∨ r = 5 ∨ r = 6 ∨ r = 7 := by omega
          rcases this with rfl | rfl | rfl | rfl | rfl | rfl | h | h
          · exact Bool.noConfusion er
          · exact Bool.noConfusion er
          · exact Bool.noConfusion er
          · exact Bool.noConfusion er
          · exact Bool.noConfusion er
          · exact Bool.noConfusion er
          · exact Or.inl h
          · exact Or.inr h
        unfold inS rng at r3
        rcases hr with rfl | rfl
        · have b : (begY 0 (y0A 96 4)).1.2.2.1 (96 + 8 * 0 + 6) = 32 := rfl
          have t : (begY 0 (y0A 96 4)).1.2.2.2.1 (96 + 8 * 0 + 6) = 36 := rfl
          rw [b, t] at r3
          exact Or.inl ⟨rfl, r3⟩
        · have b : (begY 0 (y0A 96 4)).1.2.2.1 (96 + 8 * 0 + 7) = 0 := rfl
          have t : (begY 0 (y0A 96 4)).1.2.2.2.1 (96 + 8 * 0 + 7) = 8 := rfl
          rw [b, t] at r3
          right; unfold rng; omega
      · have h0 := beg_low a e1
        rw [h0] at e2; exact absurd e2 (by decide)
    · exact Or.inl
  have hnow : ∀ c q, c < 4 → q < 128 → (bt in0.1.1 c q = true ↔ RCM (begY 0 (y0A 96 4)) c q) := fun c q hc hq => by
    rw [hRC c q hc]
    have := (hin4 c q hc hq).1
    unfold in0
    rw [this]
    exact or_congr Iff.rfl ⟨fun z => z.2, fun z => ⟨hc, z⟩⟩
  have m12 := mk4_12 (begY 0 (y0A 96 4))
  obtain ⟨e, g, v, hs⟩ := mk4_shape (begY 0 (y0A 96 4))
  have hr0 := hR0 ((fun _ => 0, fun _ => 0, fun _ => 0, 0), fun _ => 0) (fun c q hc hq => by
    show bt (fun _ => (0 : Int64)) c q = false
    exact hbt0 c q)
  have hV : RV iniX (mk4 (begY 0 (y0A 96 4))) := fun c q hc hq => by
    show bt in0.2 c q = _
    have a := (hin4 c q hc (by omega)).2
    have n := hnow c q hc (by omega)
    have b := mk4_V hM hc hq
    have a' : bt in0.2 c q = true ↔ bt in0.1.1 c q = true := by
      unfold in0; rw [a]; exact ⟨fun z => z.2, fun z => ⟨hc, z⟩⟩
    have z0 : zV (begY 0 (y0A 96 4)) (96 * c + q) = false := rfl
    rw [z0] at b
    cases z : zV (mk4 (begY 0 (y0A 96 4))) (96 * c + q)
    · cases z2 : bt in0.2 c q
      · rfl
      · rw [b.mpr (Or.inr (n.mp (a'.mp z2)))] at z; exact absurd z (by decide)
    · rcases b.mp z with h | h
      · exact absurd h (by decide)
      · exact a'.mpr (n.mpr h)
  refine ⟨hI, MI_mk hM, ?_, fun c q hc hq => ?_⟩
  · show Rel0 iniX (mk4 (begY 0 (y0A 96 4)))
    rw [hs] at hV ⊢
    exact ⟨hr0.1, hr0.2.1, hr0.2.2.1, hr0.2.2.2.1, hr0.2.2.2.2.1, hV, hr0.2.2.2.2.2.2.1, hr0.2.2.2.2.2.2.2⟩
  · show bt in0.1.1 c q = true ↔ RCM (mk4 (begY 0 (y0A 96 4))) c q
    rw [RCM_eq (y := begY 0 (y0A 96 4)) (y' := mk4 (begY 0 (y0A 96 4))) m12.1 (congrArg (fun z : CT => z.2.1) m12.2.1) (congrArg (fun z : CT => z.2.2.1) m12.2.1) (congrArg (fun z : HP => z.2.1) m12.2.2.1)]
    exact hnow c q hc hq
end OS2
