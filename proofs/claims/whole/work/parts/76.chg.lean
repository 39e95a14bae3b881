/-! CALLS THAT CHANGE: sweeps, wraps, single numbers, clear, undo -/
def swV (p : V) (lim : Int64) : Nat → V × Int32
  | 0 => (p, 0)
  | n + 1 => if n = 0 then swV p lim n else if (swV p lim n).1 n = 0 then swV p lim n else if lim < abJ ((swV p lim n).1 n) then swV p lim n else (setV (setV (setV (swV p lim n).1 10 ((swV p lim n).1 10 + mnJ ((swV p lim n).1 n * LW n) ((swV p lim n).1 n))) 11 ((swV p lim n).1 11 + mxJ ((swV p lim n).1 n * LW n) ((swV p lim n).1 n))) n 0, (swV p lim n).2 + 1)
theorem swV_same {p : V} {lim : Int64} : ∀ {n k : Nat}, n ≤ k → k < 10 → (swV p lim n).1 k = p k
  | 0, _, _, _ => rfl
  | n + 1, k, h, hk => by
    rw [swV]
    have ih := swV_same (p := p) (lim := lim) (n := n) (k := k) (by omega) hk
    split
    · exact ih
    · split
      · exact ih
      · split
        · exact ih
        · dsimp only
          rw [setV_ne (by omega), setV_ne (by omega), setV_ne (by omega)]; exact ih
section CHG
variable {σ τ ρ : St}
theorem e_sweepUpTo {q : Nat} {lim : Int64} (hq : isM q) : Tr (f_X2_sweepUpTo q lim σ) (fun r σ' => val σ' q = (swV (val σ q) lim 10).1 ∧ r = (swV (val σ q) lim 10).2 ∧ Fr (at2 q) σ σ') := by
  have key : ∀ n k (σ1 : St), k ≤ 10 → 10 < n + k → Fr (at2 q) σ σ1 → val σ1 q = (swV (val σ q) lim k).1 → Tr (f_X2_sweepUpTo_L5 n q lim (swV (val σ q) lim k).2 (nI k) σ1) (fun r σ' => val σ' q = (swV (val σ q) lim 10).1 ∧ r = (swV (val σ q) lim 10).2 ∧ Fr (at2 q) σ σ') := by
    intro n
    induction n with
    | zero => intro k σ1 h1 h2; omega
    | succ n ih =>
      intro k σ1 h1 h2 hF h5
      rw [f_X2_sweepUpTo_L5]
      refine Tr.ite (fun h => ?_) (fun h => ?_)
      · rw [ten_le (by omega)] at h
        have : k = 10 := by omega
        subst this
        exact Tr.ret ⟨h5, rfl, hF⟩
      · rw [ten_le (by omega)] at h
        have hk : k < 10 := by omega
        have g : ¬ (nI k < 0 ∨ 10 ≤ (nI k).toNatClampNeg) := ge_pos (N := 10) (by decide) hk
        have ek : σ1.2 (q + 1) k = (swV (val σ q) lim k).1 k := by rw [val_c hk, h5]
        rw [hq.2.1, hq.2.2]
        refine Tr.gd hq.1 (Tr.gd ⟨rfl, g⟩ (Tr.bnd ?_))
        rw [nI_clamp (by omega), ek]
        have nx := fun σ2 => ih (k + 1) σ2 (by omega) (by omega)
        rw [swV] at nx
        by_cases h0 : k = 0
        · rw [if_pos h0] at nx
          rw [if_pos (by rw [h0]; exact nI_0)]
          refine Tr.bnd ?_
          rw [nI_1]; exact nx σ1 hF h5
        · rw [if_neg h0] at nx
          rw [if_neg (show ¬ nI k = 0 from fun t => h0 ((nI_eq (b := 0) (by omega) (by decide)).mp t))]
          by_cases hz : (swV (val σ q) lim k).1 k = 0
          · rw [if_pos hz] at nx
            rw [if_pos hz]
            refine Tr.bnd ?_
            rw [nI_1]; exact nx σ1 hF h5
          · rw [if_neg hz] at nx
            rw [if_neg hz]
            by_cases hl : lim < abJ ((swV (val σ q) lim k).1 k)
            · rw [if_pos hl] at nx
              rw [if_pos hl]
              refine Tr.bnd ?_
              rw [nI_1]; exact nx σ1 hF h5
            · rw [if_neg hl] at nx
              rw [if_neg hl]
              have g' := g
              rw [nI_clamp (n := k) (by omega)] at g'
              refine Tr.gd (show ¬ (nI k < 0 ∨ (stL 3).length ≤ k) from g') ?_
              rw [e_rangeLow, obn_s]
              refine Tr.bnd ?_
              rw [e_rangeHigh, obn_s]
              refine Tr.bnd (Tr.bnd (Tr.bnd (Tr.bnd ?_)))
              rw [nI_1]
              refine nx _ (((hF.tr (Fr_J at2_0)).tr (Fr_J at2_0)).tr (Fr_J at2_1)) ?_
              rw [val_c' hk, val_hi', val_lo', h5, sJ_at, if_neg (by omega), val_lo, val_hi, h5]
              rfl
  exact key FU 0 σ (by decide) (by decide) Fr.rf rfl
theorem swV_LH {p : V} {lim : Int64} {n : Nat} : (swV p lim (n + 1)).1 = (if n = 0 then (swV p lim n).1 else if lim < abJ ((swV p lim n).1 n) then (swV p lim n).1 else setV (setV (setV (swV p lim n).1 10 ((swV p lim n).1 10 + mnJ ((swV p lim n).1 n * LW n) ((swV p lim n).1 n))) 11 ((swV p lim n).1 11 + mxJ ((swV p lim n).1 n * LW n) ((swV p lim n).1 n))) n 0) ∧ (swV p lim (n + 1)).2 = (if n = 0 then (swV p lim n).2 else if lim < abJ ((swV p lim n).1 n) then (swV p lim n).2 else (swV p lim n).2 + (if (swV p lim n).1 n = 0 then 0 else 1)) := by
  rw [swV]
  by_cases h0 : n = 0
  · rw [if_pos h0, if_pos h0, if_pos h0]; exact ⟨rfl, rfl⟩
  · rw [if_neg h0, if_neg h0, if_neg h0]
    by_cases hz : (swV p lim n).1 n = 0
    · rw [if_pos hz, if_pos hz]
      by_cases hl : lim < abJ ((swV p lim n).1 n)
      · rw [if_pos hl, if_pos hl]; exact ⟨rfl, rfl⟩
      · rw [if_neg hl, if_neg hl, Int32.add_zero]
        refine ⟨?_, rfl⟩
        rw [hz, i64_0_mul]
        have z1 : mnJ (0 : Int64) 0 = 0 := by decide
        have z2 : mxJ (0 : Int64) 0 = 0 := by decide
        rw [z1, z2, Int64.add_zero, Int64.add_zero]
        funext j
        unfold setV
        by_cases a : j = n
        · rw [if_pos a, a, hz]
        · rw [if_neg a]
          by_cases b : j = 11
          · rw [if_pos b, b]
          · rw [if_neg b]
            by_cases c : j = 10
            · rw [if_pos c, c]
            · rw [if_neg c]
    · rw [if_neg hz, if_neg hz]
      by_cases hl : lim < abJ ((swV p lim n).1 n)
      · rw [if_pos hl, if_pos hl, if_pos hl]; exact ⟨rfl, rfl⟩
      · rw [if_neg hl, if_neg hl, if_neg hl]; exact ⟨rfl, rfl⟩
theorem r_sweepLoop {t l : Int32} {p : V} (hp : fitN p 12) (h : rv τ 50 = p) : ∃ τ2, Fr (fun x => x = 50) τ τ2 ∧ rv τ2 50 = (swV p l.toInt64 10).1 ∧ ∀ K : Nat → Int32 → Int32 → St → Option (Int32 × St), f_X7_sweep_L56 K FU 0 t l 0 1 τ = K 0 t (swV p l.toInt64 10).2 τ2 := by
  have key : ∀ n k (τ1 : St), 1 ≤ k → k ≤ 10 → 10 < n + k → Fr (fun x => x = 50) τ τ1 → rv τ1 50 = (swV p l.toInt64 k).1 → ∃ τ2, Fr (fun x => x = 50) τ τ2 ∧ rv τ2 50 = (swV p l.toInt64 10).1 ∧ ∀ K : Nat → Int32 → Int32 → St → Option (Int32 × St), f_X7_sweep_L56 K n 0 t l (swV p l.toInt64 k).2 (nI k) τ1 = K 0 t (swV p l.toInt64 10).2 τ2 := by
    intro n
    induction n with
    | zero => intro k τ1 h0 h1 h2; omega
    | succ n ih =>
      intro k τ1 h0 h1 h2 hF h5
      by_cases hk : k = 10
      · subst hk
        exact ⟨τ1, hF, h5, fun K => by rw [f_X7_sweep_L56, if_pos (by decide)]⟩
      · have hk : k < 10 := by omega
        have hc : (swV p l.toInt64 k).1 k = p k := swV_same (Nat.le_refl _) hk
        have fk := hp k (by omega)
        have gk := r_gd R50.2 (show k < 12 by omega)
        have nx := fun σ2 => ih (k + 1) σ2 (by omega) (by omega) (by omega)
        obtain ⟨s1, s2⟩ := swV_LH (p := p) (lim := l.toInt64) (n := k)
        rw [if_neg (show ¬ k = 0 by omega), hc] at s1 s2
        rw [s1, s2] at nx
        have hd : ¬ (10 : Int32) ≤ nI k := by rw [ten_le (by omega)]; omega
        by_cases hl : l.toInt64 < abJ (p k)
        · rw [if_pos hl, if_pos hl] at nx
          obtain ⟨τ2, a, b, c⟩ := nx τ1 hF h5
          refine ⟨τ2, a, b, fun K => ?_⟩
          rw [f_X7_sweep_L56, if_neg hd, R50.1, gd_p R0, gd_p gk, nI_clamp (n := k) (by omega), rv_at (show k < 12 by omega), h5, hc, r_greater, obn_s, ab_gr fk, if_pos hl, bnd_s, nI_1]
          exact c K
        · rw [if_neg hl, if_neg hl] at nx
          have e1 : (sJ τ1 50 10 ((swV p l.toInt64 k).1 10 + mnJ (p k * (lI (nI (PX k)) (nI (PY k))).toInt64) (p k))).2 50 k = p k := by
            rw [sJ_at, if_neg (by omega), rv_at (show k < 12 by omega), h5, hc]
          have e2 : (sJ τ1 50 10 ((swV p l.toInt64 k).1 10 + mnJ (p k * (lI (nI (PX k)) (nI (PY k))).toInt64) (p k))).2 50 11 = (swV p l.toInt64 k).1 11 := by
            rw [sJ_at, if_neg (by omega), rv_at (show 11 < 12 by decide), h5]
          obtain ⟨τ2, a, b, c⟩ := nx _ (((hF.tr (Fr_J (σ := τ1) (p := 50) (k := 10) (x := (swV p l.toInt64 k).1 10 + mnJ (p k * (lI (nI (PX k)) (nI (PY k))).toInt64) (p k)) rfl)).tr (Fr_J (p := 50) (k := 11) (x := (swV p l.toInt64 k).1 11 + mxJ (p k * (lI (nI (PX k)) (nI (PY k))).toInt64) (p k)) rfl)).tr (Fr_J (p := 50) (k := k) (x := 0) rfl)) (by
            rw [rv_J (k := k) (by omega), rv_J (k := 11) (by decide), rv_J (k := 10) (by decide), h5]
            unfold LW
            rw [LW_tab k hk])
          refine ⟨τ2, a, b, fun K => ?_⟩
          have fin : ∀ x, x = (if p k = 0 then (0 : Int32) else 1) → f_X7_sweep_L56 K n 0 t l ((swV p l.toInt64 k).2 + x) (nI (k + 1)) (sJ (sJ (sJ τ1 50 10 ((swV p l.toInt64 k).1 10 + mnJ (p k * (lI (nI (PX k)) (nI (PY k))).toInt64) (p k))) 50 11 ((swV p l.toInt64 k).1 11 + mxJ (p k * (lI (nI (PX k)) (nI (PY k))).toInt64) (p k))) 50 k 0) = K 0 t (swV p l.toInt64 10).2 τ2 := fun x hx => by rw [hx]; exact c K
          have g10 := r_gd10 R50.2
          have g11 := r_gd11 R50.2
          rw [n10] at g10
          rw [n11] at g11
          rw [nI_clamp (n := k) (by omega)] at gk
          have ek : τ1.2 50 k = p k := by rw [rv_at (show k < 12 by omega), h5, hc]
          have tail : ∀ x, x = (if p k = 0 then (0 : Int32) else 1) → (gd (kR 0 = (0, 7)) <| gd ((kR 50).1 = 2 ∧ ¬ ((10 : Int32) < 0 ∨ (kR 50).2 ≤ 10)) <| gd ((kR 50).1 = 2 ∧ ¬ (nI k < 0 ∨ (kR 50).2 ≤ k)) <| obn (f_X7_iOf (nI k) τ1) fun x52 σ51 => obn (f_X7_jOf (nI k) σ51) fun x55 σ54 => obn (f_X7_low (p k) x52 x55 σ54) fun x58 σ57 => gd ((kR 50).1 = 2 ∧ ¬ ((11 : Int32) < 0 ∨ (kR 50).2 ≤ 11)) <| obn (f_X7_iOf (nI k) (sJ σ57 50 10 (τ1.2 50 10 + x58))) fun x63 σ62 => obn (f_X7_jOf (nI k) σ62) fun x66 σ65 => obn (f_X7_high ((sJ σ57 50 10 (τ1.2 50 10 + x58)).2 50 k) x63 x66 σ65) fun x69 σ68 => f_X7_sweep_L56 K n 0 t l ((swV p l.toInt64 k).2 + x) (nI k + 1) (sJ (sJ σ68 50 11 ((sJ σ57 50 10 (τ1.2 50 10 + x58)).2 50 11 + x69)) 50 k 0)) = K 0 t (swV p l.toInt64 10).2 τ2 := by
            intro x hx
            rw [gd_p R0, gd_p g10, gd_p gk, r_iOf hk, obn_s, r_jOf hk, obn_s, r_low (PX_8 k).1 (PX_8 k).2, obn_s, gd_p g11, r_iOf hk, obn_s, r_jOf hk, obn_s, rv_at (show 10 < 12 by decide), h5, e1, e2, r_high (PX_8 k).1 (PX_8 k).2 ((fit1_bd fk).up (by decide)), obn_s, nI_1]
            exact fin x hx
          rw [f_X7_sweep_L56]
          simp only [bnd_s]
          rw [if_neg hd, R50.1, gd_p R0, nI_clamp (n := k) (by omega), gd_p gk, ek, r_greater, obn_s, ab_gr fk, if_neg hl, n10, n11, ek]
          by_cases hz : p k = 0
          · rw [if_pos hz]; exact tail 0 (by rw [if_pos hz])
          · rw [if_neg hz]; exact tail 1 (by rw [if_neg hz])
  exact key FU 1 τ (Nat.le_refl _) (by decide) (by decide) Fr.rf h
theorem k1e8 : (100000000 : Int32).toInt64 = 100000000 ∧ (-100000000 : Int32).toInt64 = -100000000 ∧ (0 : Int32).toInt64 = 0 := by decide
theorem go_sweep {a1 a2 : Int32} (h : Rel σ τ) : Go (wst (f_L_sweep a1 a2 σ ρ) (f_X7_sweep 0 a1 a2 τ) Int32.toInt64) := by
  unfold f_L_sweep f_X6_sweep f_X7_sweep
  simp only [bnd_s]
  refine go_model h (fun i hi ea hd => ?_)
  subst ea
  obtain ⟨m1, f1⟩ := h.m hi hd
  obtain ⟨u, σ1, e, hv, hC⟩ := e_copyFrom (σ := σ) M256 (M_mp hi)
  rw [m1] at hv
  rw [C0.2.2.2.2.2, gd_p M256.1, e, obn_s]
  have hC1 := hC.weak at2_165
  have b := bt_cases a2 0 100000000
  rw [k1e8.1, k1e8.2.2] at b
  rcases b with ⟨-, -, x3, x4⟩ | ⟨-, x3, x4⟩
  · have hS := e_sweepUpTo (σ := σ1) (lim := a2.toInt64) M256
    rw [hv] at hS
    generalize hsw : swV (dv τ 2 i) a2.toInt64 10 = sw at hS
    obtain ⟨n, σ2, e2, hh⟩ := hS
    have hv2 := hh.1
    have hn := hh.2.1
    have hC2 := hh.2.2
    rw [hn] at e2
    have hC3 := hC1.tr (hC2.weak at2_165)
    rw [x3, obX_r, e2, obn_s, e_fits M256, obn_s, x4, obn_s, if_neg (by decide), gd_p R0, r_fails0 z00, obn_s, if_pos rfl, gd_p R0, R2.1, R50.1]
    obtain ⟨w, τ1, e3, h3⟩ := r_take (σ := sI τ 0 0 0) R2.2 R50.2 hi
    rw [dv_z] at h3
    rw [e3, obn_s, hv2]
    -- the reference's loop as an equation
    obtain ⟨τ2, hR2, hw, eK⟩ := r_sweepLoop (τ := τ1) (t := nI i) (l := a2) f1 h3.1
    have hR := h3.2
    rw [hsw] at hw
    rw [eK, gd_p R0, R50.1, r_isSmall R50.2, obn_s, hw, hsw]
    exact go_set (g := fun _ => sw.2) (g' := fun _ => sw.2) h hi hC3 hv2 ((tt hR).tr (tt hR2)) hw (by decide) w4 (fun _ => rfl)
  · rw [x3, obX_l, x4, obn_s, if_pos rfl, gd_p R0, r_fails1 z00 (by decide), obn_s, if_neg (by decide), sz0]
    exact go_no (P := fun s => Fr (fun x => 165 ≤ x) σ s) (Q := fun t => t = sI τ 0 0 3) w3 (by decide) (Tr.ret ⟨rfl, hC1⟩) (Tr.ret ⟨z00, rfl⟩) (fun s t h1 h2 => by rw [h2]; exact h.z.q (h1.fg (fun _ t => t)) (fun _ _ _ => rfl))
end CHG
