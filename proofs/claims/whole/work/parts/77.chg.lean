/-! CALLS THAT CHANGE: wraps, single numbers, clear, undo -/
def updS (s : Snap) (a : Nat) (v : V) : Snap := (s.1, fun i => if i = a then v else s.2 i)
theorem SR.upd {s d : Snap} {a : Nat} {v : V} (h : SR s d) (hv : fitN v 12) : SR (updS s a v) (updS d a v) := by
  obtain ⟨h1, h2, h3⟩ := h
  refine ⟨h1, h2, fun i hi hd => ?_⟩
  have hd : df d.1 (nI i) := hd
  unfold updS
  dsimp only
  by_cases hia : i = a
  · rw [if_pos hia, if_pos hia]; exact ⟨rfl, hv⟩
  · rw [if_neg hia, if_neg hia]; exact h3 i hi hd
theorem fit_setV {v : V} {k : Nat} {x : Int64} (h : fitN v 12) (hx : fit1 x) : fitN (setV v k x) 12 := by
  intro j hj
  unfold setV
  split
  · exact hx
  · exact h j hj
theorem two2 : (0 : Int) < (2 : Int64).toInt ∧ (2 : Int64).toInt < 2 ^ 31 ∧ ¬ (2 : Int64) = 0 := by decide
section CHG
variable {σ τ ρ : St}
theorem sn_upd {σ' : St} {t : Nat} (ht : t < 8) (h : Fr (at2 (mp t)) σ σ') : sn σ' 1 = updS (sn σ 1) t (val σ' (mp t)) := by
  unfold sn updS
  rw [h.1]
  congr 1
  funext i
  dsimp only
  by_cases hi : i < 8
  · rw [if_pos hi]
    by_cases hia : i = t
    · rw [if_pos hia, hia]; rfl
    · rw [if_neg hia, if_pos hi]
      exact h.vl (fun z => by unfold at2 mp at z; omega) (fun z => by unfold at2 mp at z; omega)
  · rw [if_neg hi, if_neg (by omega), if_neg hi]
theorem sd_upd {t k : Nat} {x : Int32} (ht : t < 8) (hk : k < 12) : sd (sI τ 2 (1 + 12 * t + k) x) 2 = updS (sd τ 2) t (setV (dv τ 2 t) k x.toInt64) := by
  unfold sd updS
  rw [sI_1, if_neg (by omega)]
  congr 1
  funext i
  dsimp only
  by_cases hi : i < 8
  · rw [if_pos hi]
    by_cases hia : i = t
    · rw [if_pos hia, hia]
      funext j
      unfold dv setV
      dsimp only
      by_cases hj : j < 12
      · rw [if_pos hj, sI_1]
        by_cases hjk : j = k
        · rw [if_pos ⟨rfl, by omega⟩, if_pos hjk]
        · rw [if_neg (by omega), if_neg hjk, if_pos hj]
      · rw [if_neg hj, if_neg (by omega), if_neg hj]
    · rw [if_neg hia, if_pos hi]
      funext j
      unfold dv
      by_cases hj : j < 12
      · rw [if_pos hj, if_pos hj, sI_1, if_neg (by omega)]
      · rw [if_neg hj, if_neg hj]
  · rw [if_neg hi, if_neg (by omega), if_neg hi]
theorem wrap_v {c : Int64} {k : Nat} {x : Int64} : setV (setV (cst 0) 0 c) k x = setV (cst c) k x := by
  funext j; unfold setV cst; split
  · rfl
  · split <;> rfl
theorem go_wrap {a1 a2 : Int32} (h : Rel σ τ) : Go (wst (f_L_wrap a1 a2 σ ρ) (f_X7_wrap 0 a1 a2 τ) Int32.toInt64) := by
  unfold f_L_wrap f_X6_wrap f_X7_wrap
  simp only [bnd_s]
  refine go_model h (fun i hi ea hd => ?_)
  subst ea
  obtain ⟨m1, f1⟩ := h.m hi hd
  have bs : bdd 2200000000 (sLo (dv τ 2 i) + dv τ 2 i 10 + (sHi (dv τ 2 i) + dv τ 2 i 11)) :=
    ((((sLo_bd f1).add (fit_bd f1 (show 10 < 12 by decide)) (by decide)).add ((sHi_bd f1).add (fit_bd f1 (show 11 < 12 by decide)) (by decide)) (by decide))).up (by decide)
  generalize em : fdv (sLo (dv τ 2 i) + dv τ 2 i 10 + (sHi (dv τ 2 i) + dv τ 2 i 11)) 2 = mid
  obtain ⟨u, σ1, e1, hv1, hC1⟩ := e_becomeConstant (σ := σ) (a := mid) M256
  obtain ⟨w, τ1, e2, h2, hR1⟩ := r_take (σ := sI τ 0 0 0) R2.2 R47.2 hi
  rw [dv_z] at h2
  obtain ⟨w', τ2, e3, h3, hR2⟩ := r_clearRow (σ := τ1) R50.2
  have hR3 : Fr (fun _ => True) (sI τ 0 0 0) (sJ τ2 50 0 mid) := ((tt hR1).tr (tt hR2)).tr (Fr_J trivial)
  have g00 := r_gd00 R50.2
  rw [n00] at g00
  have ok : ∀ s, s < 10 → ∀ X Y, X = (gd (kC 256 = (0, 2)) <| obn (f_X2_setCoefficientAt 256 (nI s) (sHi (dv τ 2 i) + dv τ 2 i 11 - mid) σ1) fun _ σ34 => gd (kC 0 = (0, 6)) <| gd (kC 256 = (0, 2)) <| obn (f_X2_fits 256 σ34) fun x39 σ38 => obx (f_X6_settle 0 (nI i) x39 σ38) (fun ex σ41 => some (Sum.inl ex, σ41)) fun x42 σ41 => some (Sum.inr ((sHi (dv τ 2 i) + dv τ 2 i 11 - mid).toInt32), σ41)) →
      Y = (gd ((kR 50).1 = 2 ∧ ¬ (nI s < 0 ∨ (kR 50).2 ≤ (nI s).toNatClampNeg)) <| gd (kR 0 = (0, 7)) <| obn (f_X7_isSmall 50 (sJ (sJ τ2 50 0 mid) 50 (nI s).toNatClampNeg (sHi (dv τ 2 i) + dv τ 2 i 11 - mid))) fun x52 σ51 => if x52 = 0 then (gd (kR 0 = (0, 7)) <| obn (f_X7_fails 0 1 (4 : Int32) σ51) fun x64 σ63 => if x64 = 0 then (gd (kR 0 = (0, 7)) <| obn (f_X7_becomes 0 (nI i) σ63) fun x68 σ67 => some ((sHi (dv τ 2 i) + dv τ 2 i 11 - mid).toInt32, σ67)) else (some ((0 : Int32), σ63))) else (gd (kR 0 = (0, 7)) <| obn (f_X7_fails 0 0 (4 : Int32) σ51) fun x64 σ63 => if x64 = 0 then (gd (kR 0 = (0, 7)) <| obn (f_X7_becomes 0 (nI i) σ63) fun x68 σ67 => some ((sHi (dv τ 2 i) + dv τ 2 i 11 - mid).toInt32, σ67)) else (some ((0 : Int32), σ63)))) → Go (wst (wrp [1, 2, 3, 4] Int32.toInt64 X ρ) Y Int32.toInt64) := by
    intro s hs X Y hX hY
    rw [hX, hY, gd_p M256.1, e_setCoefficientAt M256 hs, obn_s, gd_p C0.1, gd_p M256.1, e_fits M256, obn_s, gd_p (r_gd R50.2 (show s < 12 by omega)), gd_p R0, nI_clamp (by omega), r_isSmall R50.2, obn_s]
    have hv : val (sJ σ1 (256 + 1) s (sHi (dv τ 2 i) + dv τ 2 i 11 - mid)) 256 = setV (cst mid) s (sHi (dv τ 2 i) + dv τ 2 i 11 - mid) := by rw [val_c' hs, hv1]
    have hw : rv (sJ (sJ τ2 50 0 mid) 50 s (sHi (dv τ 2 i) + dv τ 2 i 11 - mid)) 50 = setV (cst mid) s (sHi (dv τ 2 i) + dv τ 2 i 11 - mid) := by rw [rv_J (by omega), rv_J (by decide), h3, wrap_v]
    rw [hv, hw]
    exact go_set (g := fun _ => (sHi (dv τ 2 i) + dv τ 2 i 11 - mid).toInt32) (g' := fun _ => (sHi (dv τ 2 i) + dv τ 2 i 11 - mid).toInt32) h hi ((hC1.weak at2_165).tr (Fr_J (by decide))) hv (hR3.tr (Fr_J trivial)) hw (by decide) w4 (fun _ => rfl)
  rcases zo_cases a2 with rfl | rfl | hb
  · rw [e_zo_0, obX_r, gd_p (M_mp hi).1, e_boundHigh (M_mp hi), obn_s, e_boundLow (M_mp hi), obn_s, e_floorDiv two2.2.2, obn_s, C0.2.2.2.2.2, gd_p M256.1, m1, em, e1, obn_s, if_pos rfl, r_zo_0, obn_s, if_neg (by decide), gd_p R0, r_fails0 z00, obn_s, if_pos rfl, gd_p R0, R2.1, R47.1, R50.1, e2, obn_s, r_spreadLow R47.2, obn_s, gd_p (r_gd10 R47.2), n10, rv_at (show 10 < 12 by decide), r_spreadHigh R47.2 (by rw [h2]; exact fit_bd' f1), obn_s, gd_p (r_gd11 R47.2), n11, rv_at (show 11 < 12 by decide), h2, r_down (bs.up (by decide)) two2.1 two2.2.1, obn_s, em, e3, obn_s, n00, gd_p g00, if_pos rfl, show f_X7_place 1 0 (sJ τ2 50 0 mid) = some (nI 4, sJ τ2 50 0 mid) from r_place (i := 1) (j := 0) (by decide), obn_s]
    exact ok 4 (by decide) _ _ rfl rfl
  · rw [e_zo_1, obX_r, gd_p (M_mp hi).1, e_boundHigh (M_mp hi), obn_s, e_boundLow (M_mp hi), obn_s, e_floorDiv two2.2.2, obn_s, C0.2.2.2.2.2, gd_p M256.1, m1, em, e1, obn_s, if_neg (by decide), r_zo_1, obn_s, if_neg (by decide), gd_p R0, r_fails0 z00, obn_s, if_pos rfl, gd_p R0, R2.1, R47.1, R50.1, e2, obn_s, r_spreadLow R47.2, obn_s, gd_p (r_gd10 R47.2), n10, rv_at (show 10 < 12 by decide), r_spreadHigh R47.2 (by rw [h2]; exact fit_bd' f1), obn_s, gd_p (r_gd11 R47.2), n11, rv_at (show 11 < 12 by decide), h2, r_down (bs.up (by decide)) two2.1 two2.2.1, obn_s, em, e3, obn_s, n00, gd_p g00, if_neg (by decide), show f_X7_place 0 1 (sJ τ2 50 0 mid) = some (nI 1, sJ τ2 50 0 mid) from r_place (i := 0) (j := 1) (by decide), obn_s]
    exact ok 1 (by decide) _ _ rfl rfl
  · rw [e_zo_bad hb, obX_l, r_zo_bad hb, obn_s, if_pos rfl, gd_p R0, r_fails1 z00 (by decide), obn_s, if_neg (by decide), sz0]
    exact go_thr h w3 (by decide)
theorem iv_cases (a : Int32) : (fit1 a.toInt64 ∧ (∀ σ : St, f_X6_requireBetween a.toInt64 (-100000000) 100000000 σ = some (.inr (), σ)) ∧ ∀ τ : St, f_X7_isValue a τ = some (1, τ)) ∨ (¬ fit1 a.toInt64 ∧ (∀ σ : St, f_X6_requireBetween a.toInt64 (-100000000) 100000000 σ = some (.inl 3, σ)) ∧ ∀ τ : St, f_X7_isValue a τ = some (0, τ)) := by
  unfold f_X6_requireBetween f_X7_isValue
  simp only [bnd_s]
  by_cases h1 : a.toInt64 < -100000000
  · exact Or.inr ⟨fun t => t.1 h1, fun σ => by rw [if_pos h1], fun τ => by rw [if_pos h1]⟩
  · by_cases h2 : 100000000 < a.toInt64
    · exact Or.inr ⟨fun t => t.2 h2, fun σ => by rw [if_neg h1, if_pos h2], fun τ => by rw [if_neg h1, if_pos h2]⟩
    · exact Or.inl ⟨⟨h1, h2⟩, fun σ => by rw [if_neg h1, if_neg h2], fun τ => by rw [if_neg h1, if_neg h2]⟩
/-- both remember -/
theorem rem_both (h : Rel σ τ) : ∃ σ1 τ1, f_X1_remember 19 1 σ = some ((), σ1) ∧ f_X7_remember 0 (sI τ 0 0 0) = some ((), τ1) ∧ Rel σ1 τ1 ∧ sn σ1 1 = sn σ 1 ∧ sd τ1 2 = sd τ 2 ∧ τ1.1 0 0 = 0 := by
  obtain ⟨n, d, q1, q2, q3, q4, q5, -⟩ := h.2.1
  obtain ⟨u, σ1, e1, r1⟩ := e_remember q1 q2 q3 q4
  obtain ⟨w, τ1, e2, r2⟩ := r_remember (τ := sI τ 0 0 0) q2 (by rw [sI_1, if_neg (by decide)]; exact q5)
  obtain ⟨a1, a2, a3, a4, a5, a6⟩ := rem_rel (h.z (v := 0)) r1 r2
  refine ⟨σ1, τ1, e1, e2, a1, a2, a3.trans ?_, by rw [a5 0 (by decide), z00]⟩
  exact sd_of (fun j _ => z_2)
theorem sn_m {σ1 : St} (e : sn σ1 1 = sn σ 1) {i : Nat} (hi : i < 8) : val σ1 (mp i) = val σ (mp i) := by
  have : (sn σ1 1).2 i = (sn σ 1).2 i := congrArg (fun s : Snap => s.2 i) e
  rw [sn_2 hi, sn_2 hi] at this
  exact this
theorem sd_m {τ1 : St} (e : sd τ1 2 = sd τ 2) {i : Nat} (hi : i < 8) : dv τ1 2 i = dv τ 2 i := by
  have : (sd τ1 2).2 i = (sd τ 2).2 i := congrArg (fun s : Snap => s.2 i) e
  rw [sd_2 hi, sd_2 hi] at this
  exact this
theorem go_setCoefficient {a1 a2 a3 a4 : Int32} (h : Rel σ τ) : Go (wst (f_L_setCoefficient a1 a2 a3 a4 σ ρ) (f_X7_setCoefficient 0 a1 a2 a3 a4 τ) Int32.toInt64) := by
  unfold f_L_setCoefficient f_X6_setCoefficient f_X7_setCoefficient
  simp only [bnd_s]
  refine go_model h (fun i hi ea hd => ?_)
  subst ea
  obtain ⟨m1, f1⟩ := h.m hi hd
  rcases pl_cases a2 a3 with ⟨u, w, hu, rfl, rfl⟩ | ⟨hb, hb2⟩
  · have hs := sl_lt u (by omega) w (by omega) hu
    rw [e_slot_ok hu, obX_r, r_pl_ok hu, obn_s, if_neg (by decide)]
    rcases iv_cases a4 with ⟨v1, v2, v3⟩ | ⟨v1, v2, v3⟩
    · obtain ⟨σ1, τ1, e1, e2, hr, s1, s2, t0⟩ := rem_both h
      rw [v2, obX_r, C0.2.2.1, C0.2.1, gd_p C19.1, e1, obn_s, gd_p (M_mp hi).1, e_coefficientAt (M_mp hi) hs, obn_s, e_setCoefficientAt (M_mp hi) hs, obn_s, v3, obn_s, if_neg (by decide), gd_p R0, r_fails0 z00, obn_s, if_pos rfl, gd_p R0, e2, obn_s, r_place hu, obn_s, R2.1, d_ix, gd_p (d_gd R2.2 (by omega)), nI_clamp (by omega)]
      refine go_ok (P := fun s => s = sJ σ1 (mp i + 1) (sl u w) a4.toInt64) (Q := fun t => t = sI τ1 2 (1 + 12 * i + sl u w) a4) (v := (val σ1 (mp i) (sl u w)).toInt32) (Tr.ret ⟨rfl, rfl⟩) (Tr.ret ⟨?_, ?_, rfl⟩) ?_
      · rw [sn_m s1 hi, m1, ← sd_m s2 hi]; exact (dvI (by omega)).symm
      · rw [sI_1, if_neg (fun t => absurd t.1 (by decide)), t0]
      · rintro s t rfl rfl
        have hF : Fr (at2 (mp i)) σ1 (sJ σ1 (mp i + 1) (sl u w) a4.toInt64) := Fr_J at2_1
        refine hr.gen (hF.fg (fun p t => Or.inl (by unfold at2 at t; rcases t with t | t <;> rw [t]; exact (mp_at hi).1; exact (mp_at hi).2))) (fun p j hp _ => by rw [sI_1, if_neg (fun t => hp t.1)]) ?_
        rw [sn_upd hi hF, sd_upd hi (by omega), val_c' hs, sn_m s1 hi, m1, sd_m s2 hi]
        exact hr.1.upd (fit_setV f1 v1)
    · rw [v2, obX_l, v3, obn_s, if_pos rfl, gd_p R0, r_fails1 z00 (by decide), obn_s, if_neg (by decide), sz0]
      exact go_thr h w3 (by decide)
  · rw [e_slot_bad hb, obX_l, hb2, obn_s, if_pos rfl, gd_p R0, r_fails1 z00 (by decide), obn_s, if_neg (by decide), sz0]
    exact go_thr h w3 (by decide)
theorem i32_sub {x y : Int32} : (x.toInt64 - y.toInt64).toInt32 = x - y := by rw [Int64.toInt32_sub, Int32.toInt32_toInt64, Int32.toInt32_toInt64]
theorem go_setRemainder {a1 a2 a3 : Int32} (h : Rel σ τ) : Go (wst (f_L_setRemainder a1 a2 a3 σ ρ) (f_X7_setRemainder 0 a1 a2 a3 τ) Int32.toInt64) := by
  unfold f_L_setRemainder f_X6_setRemainder f_X7_setRemainder
  simp only [bnd_s]
  refine go_model h (fun i hi ea hd => ?_)
  subst ea
  obtain ⟨m1, f1⟩ := h.m hi hd
  have c : ∀ x y : Int32, x.toInt64 < y.toInt64 ↔ x < y := fun x y => by rw [Int64.lt_iff_toInt_lt, Int32.lt_iff_toInt_lt, Int32.toInt_toInt64, Int32.toInt_toInt64]
  rcases iv_cases a2 with ⟨v1, v2, v3⟩ | ⟨v1, v2, v3⟩
  · rw [v2, obX_r, v3, obn_s, if_neg (by decide)]
    by_cases hlt : a3 < a2
    · have e9 : f_X6_requireBetween a3.toInt64 a2.toInt64 100000000 σ = some (.inl 3, σ) := by
        unfold f_X6_requireBetween
        rw [bnd_s, if_pos ((c _ _).mpr hlt)]
      have hle : ¬ a2 ≤ a3 := fun t => by rw [Int32.lt_iff_toInt_lt] at hlt; rw [Int32.le_iff_toInt_le] at t; omega
      rw [e9, obX_l]
      rcases iv_cases a3 with ⟨-, -, y3⟩ | ⟨-, -, y3⟩
      · rw [y3, obn_s, if_neg (by decide), if_neg hle, gd_p R0, r_fails1 z00 (by decide), obn_s, if_neg (by decide), sz0]
        exact go_thr h w3 (by decide)
      · rw [y3, obn_s, if_pos rfl, gd_p R0, r_fails1 z00 (by decide), obn_s, if_neg (by decide), sz0]
        exact go_thr h w3 (by decide)
    · have hle : a2 ≤ a3 := by rw [Int32.lt_iff_toInt_lt] at hlt; rw [Int32.le_iff_toInt_le]; omega
      have hno : ¬ a3.toInt64 < a2.toInt64 := fun t => hlt ((c _ _).mp t)
      by_cases hbig : 100000000 < a3.toInt64
      · have e9 : f_X6_requireBetween a3.toInt64 a2.toInt64 100000000 σ = some (.inl 3, σ) := by
          unfold f_X6_requireBetween
          rw [bnd_s, if_neg hno, if_pos hbig]
        rcases iv_cases a3 with ⟨y1, -, -⟩ | ⟨-, -, y3⟩
        · exact absurd hbig y1.2
        · rw [e9, obX_l, y3, obn_s, if_pos rfl, gd_p R0, r_fails1 z00 (by decide), obn_s, if_neg (by decide), sz0]
          exact go_thr h w3 (by decide)
      · have e9 : f_X6_requireBetween a3.toInt64 a2.toInt64 100000000 σ = some (.inr (), σ) := by
          unfold f_X6_requireBetween
          rw [bnd_s, if_neg hno, if_neg hbig]
        have y1 : fit1 a3.toInt64 := ⟨fun t => by
          have := v1.1
          rw [Int64.lt_iff_toInt_lt] at this hno t
          omega, hbig⟩
        rcases iv_cases a3 with ⟨-, -, y3⟩ | ⟨y2, -, -⟩
        · obtain ⟨σ1, τ1, e1, e2, hr, s1, s2, t0⟩ := rem_both h
          rw [e9, obX_r, C0.2.2.1, C0.2.1, gd_p C19.1, e1, obn_s, gd_p (M_mp hi).1, e_width (M_mp hi), obn_s, y3, obn_s, if_neg (by decide), if_pos hle, gd_p R0, r_fails0 z00, obn_s, if_pos rfl, gd_p R0, e2, obn_s, R2.1, d_ix10, nI_1, gd_p (d_gd R2.2 (by omega)), gd_p (d_gd R2.2 (by omega)), nI_clamp (by omega), nI_clamp (by omega)]
          refine go_ok (P := fun s => s = sJ (sJ σ1 (mp i) 1 a2.toInt64) (mp i) 2 a3.toInt64) (Q := fun t => t = sI (sI τ1 2 (1 + 12 * i + 10) a2) 2 (1 + 12 * i + 11) a3) (v := (val σ1 (mp i) 11 - val σ1 (mp i) 10).toInt32) (Tr.ret ⟨rfl, rfl⟩) (Tr.ret ⟨?_, ?_, rfl⟩) ?_
          · rw [sn_m s1 hi, m1, ← sd_m s2 hi]
            unfold dv
            rw [if_pos (by decide), if_pos (by decide), i32_sub]
          · rw [sI_1, if_neg (fun t => absurd t.1 (by decide)), sI_1, if_neg (fun t => absurd t.1 (by decide)), t0]
          · rintro s t rfl rfl
            have hF : Fr (at2 (mp i)) σ1 (sJ (sJ σ1 (mp i) 1 a2.toInt64) (mp i) 2 a3.toInt64) := (Fr_J at2_0).tr (Fr_J at2_0)
            refine hr.gen (hF.fg (fun p t => Or.inl (by unfold at2 at t; rcases t with t | t <;> rw [t]; exact (mp_at hi).1; exact (mp_at hi).2))) (fun p j hp _ => by rw [sI_1, if_neg (fun t => hp t.1), sI_1, if_neg (fun t => hp t.1)]) ?_
            have ed : dv (sI τ1 2 (1 + 12 * i + 10) a2) 2 i = setV (dv τ1 2 i) 10 a2.toInt64 := by
              have q : (sd (sI τ1 2 (1 + 12 * i + 10) a2) 2).2 i = (updS (sd τ1 2) i (setV (dv τ1 2 i) 10 a2.toInt64)).2 i := congrArg (fun s : Snap => s.2 i) (sd_upd (τ := τ1) (x := a2) hi (show 10 < 12 by decide))
              rw [sd_2 hi] at q
              rw [q]
              exact if_pos rfl
            have eu : updS (updS (sd τ1 2) i (setV (dv τ1 2 i) 10 a2.toInt64)) i (setV (setV (dv τ1 2 i) 10 a2.toInt64) 11 a3.toInt64) = updS (sd τ1 2) i (setV (setV (dv τ1 2 i) 10 a2.toInt64) 11 a3.toInt64) := by
              unfold updS
              congr 1
              funext j
              dsimp only
              by_cases hj : j = i
              · rw [if_pos hj, if_pos hj]
              · rw [if_neg hj, if_neg hj, if_neg hj]
            rw [sn_upd hi hF, sd_upd (τ := sI τ1 2 (1 + 12 * i + 10) a2) hi (show 11 < 12 by decide), sd_upd hi (show 10 < 12 by decide), val_hi', val_lo', sn_m s1 hi, m1, ed, eu, sd_m s2 hi]
            exact hr.1.upd (fit_setV (fit_setV f1 v1) y1)
        · exact absurd y1 y2
  · rw [v2, obX_l, v3, obn_s, if_pos rfl, gd_p R0, r_fails1 z00 (by decide), obn_s, if_neg (by decide), sz0]
    exact go_thr h w3 (by decide)
theorem go_clear {a1 : Int32} (h : Rel σ τ) : Go (wst (f_L_clear a1 σ ρ) (f_X7_clear 0 a1 τ) tz) := by
  unfold f_L_clear f_X6_clear f_X7_clear
  simp only [bnd_s]
  rw [gd_p R0]
  refine go_ix h (fun i hi ea => ?_)
  subst ea
  obtain ⟨σ1, τ1, e1, e2, hr, s1, s2, t0⟩ := rem_both h
  obtain ⟨u, σ2, e3, q1, q2⟩ := e_remove (σ := σ1) isS_1 hi
  rw [gd_p C0.1, C0.2.2.1, C0.2.1, gd_p C19.1, e1, obn_s, gd_p C1.1, e_has isS_1 hi, obn_s, e3, obn_s, gd_p bI_01, e2, obn_s, R2.1, r_isDefined R2.2, obn_s, gd_p (d_gd0 R2.2), gd_p bI_01, n00]
  refine go_ok (P := fun s => s = σ2) (Q := fun t => t = sI τ1 2 0 ((τ1.1 2 0) &&& (((1 : Int32) <<< (nI i &&& 31)) ^^^ (-1 : Int32)))) (v := bI (df (σ1.1 1 1) (nI i))) (Tr.ret ⟨rfl, rfl⟩) (Tr.ret ⟨?_, ?_, rfl⟩) ?_
  · rw [hr.mask]
  · rw [sI_1, if_neg (by decide), t0]
  · rintro s t rfl rfl
    refine hr.gen (q2.weak (fun _ t => t) (fun _ t => t.elim)) (fun p j hp _ => by rw [sI_1, if_neg (fun t => hp t.1)]) ?_
    rw [q1]
    have e : sd (sI τ1 2 0 ((τ1.1 2 0) &&& (((1 : Int32) <<< (nI i &&& 31)) ^^^ (-1 : Int32)))) 2 = remS (sd τ1 2) i := by
      unfold sd remS
      rw [sI_1, if_pos ⟨rfl, rfl⟩]
      congr 1
      funext j
      dsimp only
      by_cases hj : j < 8
      · rw [if_pos hj, if_pos hj]
        funext k
        unfold dv
        by_cases hk : k < 12
        · rw [if_pos hk, if_pos hk, sI_1, if_neg (by omega)]
        · rw [if_neg hk, if_neg hk]
      · rw [if_neg hj, if_neg hj]
    rw [e]
    exact hr.1.rem hi
theorem pv8 : ∀ n, n < 8 → (n = 0 → nI ((n + 7) % 8) = 7) ∧ (n ≠ 0 → nI n - 1 = nI ((n + 7) % 8)) := by decide +kernel
theorem go_undo (h : Rel σ τ) : Go (dst (f_X6_undo 0 σ) (f_X7_undo 0 τ) ρ) := by
  obtain ⟨c1, c2, c3, c4⟩ := C19
  obtain ⟨r1, r2, r3⟩ := R4
  obtain ⟨n, d, h1, h2, h3, h4, h5, h6⟩ := h.2.1
  unfold f_X6_undo f_X7_undo f_X1_restore
  simp only [bnd_s]
  have e0 : (sI τ 0 0 0).1 0 11 = nI d := by rw [sI_1, if_neg (by decide)]; exact h5
  rw [gd_p C0.1, C0.2.2.1, C0.2.1, gd_p c1, gd_p c1, gd_p R0, h4, e0]
  by_cases hd0 : d = 0
  · subst hd0
    rw [if_pos nI_0, obn_s, if_pos rfl, if_pos nI_0]
    refine go_dst (P := fun a s => a = -1 ∧ s = σ) (Q := fun a t => a = -1 ∧ t = sI τ 0 0 0) (Tr.ret ⟨rfl, rfl⟩) (Tr.ret ⟨rfl, rfl⟩) ?_
    rintro a σ1 b τ1 ⟨rfl, rfl⟩ ⟨rfl, rfl⟩
    exact ⟨rfl, h.z⟩
  · have hne : ¬ nI d = 0 := fun t => hd0 ((nI_eq (b := 0) (by omega) (by decide)).mp t)
    obtain ⟨e, rfl⟩ : ∃ e, d = e + 1 := ⟨d - 1, by omega⟩
    have he : e < 8 := by omega
    rw [if_neg hne, if_neg hne, h3, nI_pred]
    have hm : (n + 7) % 8 < 8 := Nat.mod_lt _ (by decide)
    obtain ⟨v1, v2⟩ := pv8 n h1
    have hring := isS_ring hm
    obtain ⟨u, σ1, e1, q1, q2⟩ := e_S_copy (σ := σ) isS_1 hring (by omega)
    have g : ¬ (nI ((n + 7) % 8) < 0 ∨ 8 ≤ (nI ((n + 7) % 8)).toNatClampNeg) := ge_pos (N := 8) (by decide) hm
    have ge : ¬ (nI e < 0 ∨ 8 ≤ (nI e).toNatClampNeg) := ge_pos (N := 8) (by decide) he
    obtain ⟨w, τ1, e2, p1, p2⟩ := r_copyD (σ := sI (sI τ 0 0 0) 0 11 (nI e)) (r3 e he).2 R2.2 (by omega)
    have z19 : σ1.1 19 = σ.1 19 := q2.1 19 (by decide)
    have body : ∀ X, X = (if nI ((n + 7) % 8) < 0 then (some ((0 : Int32), σ)) else (if nI ((n + 7) % 8) < (8 : Int32) then (gd (kC 19 = (0, 1)) <| gd ((kC (rC 19 0)).1 = 4 ∧ ¬ (nI ((n + 7) % 8) < 0 ∨ (kC (rC 19 0)).2 ≤ (nI ((n + 7) % 8)).toNatClampNeg)) <| gd (kC 1 = (0, 3)) <| obn (f_X3_copyFrom 1 (rC (rC 19 0) (nI ((n + 7) % 8)).toNatClampNeg) σ) fun _ σ10 => some ((1 : Int32), sI (sI σ10 19 1 (nI ((n + 7) % 8))) 19 2 (((sI σ10 19 1 (nI ((n + 7) % 8))).1 19 2) - (1 : Int32)))) else (some ((0 : Int32), σ)))) → X = some (1, sI (sI σ1 19 1 (nI ((n + 7) % 8))) 19 2 (nI e)) := by
      intro X hX
      rw [hX, if_neg (nI_pos (by omega)), if_pos (show nI ((n + 7) % 8) < 8 from (nI_ltI (b := 8) (by omega) (by decide)).mpr hm), gd_p c1, c2, c3, gd_p ⟨rfl, g⟩, gd_p C1.1, nI_clamp (by omega), c4 _ hm, e1, obn_s, sI_1, if_neg (by decide), z19, h4, nI_pred]
    have hX : (if nI n = 0 then (if (7 : Int32) < 0 then (some ((0 : Int32), σ)) else (if (7 : Int32) < (8 : Int32) then (gd (kC 19 = (0, 1)) <| gd ((kC (rC 19 0)).1 = 4 ∧ ¬ ((7 : Int32) < 0 ∨ (kC (rC 19 0)).2 ≤ (7 : Int32).toNatClampNeg)) <| gd (kC 1 = (0, 3)) <| obn (f_X3_copyFrom 1 (rC (rC 19 0) (7 : Int32).toNatClampNeg) σ) fun _ σ10 => some ((1 : Int32), sI (sI σ10 19 1 (7 : Int32)) 19 2 (((sI σ10 19 1 (7 : Int32)).1 19 2) - (1 : Int32)))) else (some ((0 : Int32), σ)))) else (if (nI n - 1) < 0 then (some ((0 : Int32), σ)) else (if (nI n - 1) < (8 : Int32) then (gd (kC 19 = (0, 1)) <| gd ((kC (rC 19 0)).1 = 4 ∧ ¬ ((nI n - 1) < 0 ∨ (kC (rC 19 0)).2 ≤ (nI n - 1).toNatClampNeg)) <| gd (kC 1 = (0, 3)) <| obn (f_X3_copyFrom 1 (rC (rC 19 0) (nI n - 1).toNatClampNeg) σ) fun _ σ10 => some ((1 : Int32), sI (sI σ10 19 1 (nI n - 1)) 19 2 (((sI σ10 19 1 (nI n - 1)).1 19 2) - (1 : Int32)))) else (some ((0 : Int32), σ))))) = some (1, sI (sI σ1 19 1 (nI ((n + 7) % 8))) 19 2 (nI e)) := by
      by_cases hn0 : n = 0
      · rw [if_pos (by rw [hn0]; exact nI_0)]
        exact body _ (by rw [v1 hn0])
      · rw [if_neg (show ¬ nI n = 0 from fun t => hn0 ((nI_eq (b := 0) (by omega) (by decide)).mp t))]
        exact body _ (by rw [v2 hn0])
    have hY : (gd ((kR (rR 0 10)).1 = 5 ∧ ¬ (((sI (sI τ 0 0 0) 0 11 (nI e)).1 0 11) < 0 ∨ (kR (rR 0 10)).2 ≤ ((sI (sI τ 0 0 0) 0 11 (nI e)).1 0 11).toNatClampNeg)) <| obn (f_X7_copy (rR (rR 0 10) ((sI (sI τ 0 0 0) 0 11 (nI e)).1 0 11).toNatClampNeg) (rR 0 8) (sI (sI τ 0 0 0) 0 11 (nI e))) fun _ σ5 => some ((σ5.1 0 11), σ5)) = some (nI e, τ1) := by
      have e11 : (sI (sI τ 0 0 0) 0 11 (nI e)).1 0 11 = nI e := by rw [sI_1, if_pos ⟨rfl, rfl⟩]
      rw [e11, r1, r2, gd_p ⟨rfl, ge⟩, nI_clamp (by omega), (r3 e he).1, R2.1, e2, obn_s, p2.1 0 (by decide), e11]
    rw [hX, hY, obn_s, if_neg (by decide), sI_1, if_pos ⟨rfl, rfl⟩]
    refine go_dst (P := fun a s => a = nI e ∧ s = sI (sI σ1 19 1 (nI ((n + 7) % 8))) 19 2 (nI e)) (Q := fun a t => a = nI e ∧ t = τ1) (Tr.ret ⟨rfl, rfl⟩) (Tr.ret ⟨rfl, rfl⟩) ?_
    rintro a s b t ⟨rfl, rfl⟩ ⟨rfl, ht⟩
    rw [ht]
    refine ⟨rfl, ?_⟩
    have snk : ∀ M, M ≠ 19 → sn (sI (sI σ1 19 1 (nI ((n + 7) % 8))) 19 2 (nI e)) M = sn σ1 M := fun M hM => by
      unfold sn; rw [sI_1, if_neg (fun t => hM t.1), sI_1, if_neg (fun t => hM t.1)]; rfl
    have hin : ∀ p, p ≠ 1 → p ≠ 19 → (sI (sI σ1 19 1 (nI ((n + 7) % 8))) 19 2 (nI e)).1 p = σ.1 p := fun p hp hp2 => by
      rw [← q2.1 p hp]; funext j; rw [sI_1, if_neg (fun t => hp2 t.1), sI_1, if_neg (fun t => hp2 t.1)]
    have tin : ∀ p j, p ≠ 2 → ¬ (p = 0 ∧ j = 0) → ¬ (p = 0 ∧ j = 11) → τ1.1 p j = τ.1 p j := fun p j hp h0 h11 => by
      rw [p2.1 p hp, sI_1, if_neg h11, sI_1, if_neg h0]
    have sdk : ∀ k, sd τ1 (5 + k) = sd τ (5 + k) := fun k => sd_of (fun j _ => tin (5 + k) j (by omega) (by omega) (by omega))
    have s2 : sd τ1 2 = sd τ (5 + e) := by
      refine sd_of (fun j hj => ?_)
      rw [p1 j hj, sI_1, if_neg (by omega), sI_1, if_neg (by omega)]
    obtain ⟨⟨⟨f, f1, f2, f3⟩, h7⟩, h8⟩ := h.2.2
    have ix : ((n + 8 - (e + 1) + e) % 8) = (n + 7) % 8 := by omega
    refine ⟨?_, ⟨(n + 7) % 8, e, hm, by omega, ?_, ?_, ?_, fun k hk => ?_⟩, ⟨⟨f, f1, by rw [hin 178 (by decide) (by decide)]; exact f2, by rw [tin 0 2 (by decide) (by decide) (by decide)]; exact f3⟩, fun k hk => by rw [hin 179 (by decide) (by decide), tin 1 k (by decide) (by omega) (by omega)]; exact h7 k hk⟩, by rw [hin 0 (by decide) (by decide), tin 0 7 (by decide) (by decide) (by decide)]; exact h8⟩
    · rw [snk 1 (by decide), q1, s2]
      have := h6 e (by omega)
      rw [ix] at this
      exact this
    · rw [sI_1, if_neg (by decide), sI_1, if_pos ⟨rfl, rfl⟩]
    · rw [sI_1, if_pos ⟨rfl, rfl⟩]
    · rw [p2.1 0 (by decide), sI_1, if_pos ⟨rfl, rfl⟩]
    · have hl : ((n + 7) % 8 + 8 - e + k) % 8 < 8 := Nat.mod_lt _ (by decide)
      have hix : ((n + 7) % 8 + 8 - e + k) % 8 = (n + 8 - (e + 1) + k) % 8 := by omega
      rw [snk _ (by omega), sdk]
      have := h6 k (by omega)
      rw [← hix] at this
      have hsn : sn σ1 (21 + 18 * (((n + 7) % 8 + 8 - e + k) % 8)) = sn σ (21 + 18 * (((n + 7) % 8 + 8 - e + k) % 8)) := by
        generalize ((n + 7) % 8 + 8 - e + k) % 8 = j at hl ⊢
        exact q2.sn (by omega) (fun p t t2 => by unfold atS at t t2; omega)
      rw [hsn]
      exact this
end CHG
