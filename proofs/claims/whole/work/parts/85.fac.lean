section FAC
variable {σ σ' τ τ' : St} {c : Nat → Int32} {len last : Nat} {S E : Nat → Nat} {i l : Nat}
theorem fit_var {k : Nat} : fitN (setV (cst 0) k 1000) 12 := by
  intro j hj
  unfold setV cst
  split
  · decide
  · split <;> decide
theorem cst_z {x : Int64} : setV (cst 0) 0 x = cst x := by funext j; unfold setV cst; split <;> rfl
theorem fit_nu {m : Nat} (hm : m ≤ 100000) : fitN (cst (nI m).toInt64) 12 := by
  refine fit_cst ?_
  rw [nI_l (by omega)]
  have e := lN_toInt (n := m) (by omega)
  have e1 : (-100000000 : Int64).toInt = -100000000 := by decide
  have e2 : (100000000 : Int64).toInt = 100000000 := by decide
  constructor
  · rw [Int64.lt_iff_toInt_lt, e, e1]; omega
  · rw [Int64.lt_iff_toInt_lt, e, e2]; omega
theorem sim_factor {rc : Nat → Int32 → St → Option (Int32 × St)} {rr : Nat → Int32 → St → Option (Unit × St)} (hE : TkE c len last S E) (hl : l ≤ 4) (hR : SimR c len last S E (l + 1) rc rr) (h : GS c len last S E l σ τ i) : FO c len last S E l σ τ i (f_X4_readFactor rc 177 (nI l) σ) (f_X7_factor rr 0 (nI l) τ) := by
  have hi := h.1.2.2.2.1
  obtain ⟨⟨p1, p2, p3, p4⟩, m1, m2, m3, m4⟩ := CL l (by omega)
  obtain ⟨r1, r2, r3, r4, r5, r6, r7, r8, r9, r10⟩ := RL0
  obtain ⟨v1, v2, v3, v4, y1, y2, y3, y4⟩ := RLv l (by omega)
  obtain ⟨v1', -, -, -, y1', -⟩ := RLv (l + 1) (by omega)
  obtain ⟨k1, k2, k3, k4, k5, k6, k7, k8, k9, k10, k11, k12⟩ := CP
  have g33 : ¬ (nI l < 0 ∨ 6 ≤ (nI l).toNatClampNeg) := ge_pos (N := 6) (by decide) (by omega)
  have g33' : ¬ (nI l < 0 ∨ 6 ≤ l) := by rw [nI_clamp (by omega)] at g33; exact g33
  have g34 : ¬ (nI (l + 1) < 0 ∨ 6 ≤ (nI (l + 1)).toNatClampNeg) := ge_pos (N := 6) (by decide) (by omega)
  have c5 : ¬ (nI l < 0 ∨ 5 ≤ (nI l).toNatClampNeg) := ge_pos (N := 5) (by decide) (by omega)
  have c5' : ¬ (nI l < 0 ∨ 5 ≤ l) := by rw [nI_clamp (by omega)] at c5; exact c5
  obtain ⟨u, τ1, e1, hrow, hF1⟩ := r_clearRow (r := 33 + l) (σ := τ) y3
  have g1 : GS c len last S E l σ τ1 i := h.lo rfl (fun _ _ _ => rfl) hF1.1
  have g2 := g1.r4 hE
  have rf2 : Rf (l + 1) (l + 1) l τ (sI τ1 0 4 (nI (S i))) := (hF1.rF (fun p t => by unfold lvr; omega)).tr (Rf_I (Or.inl rfl))
  have hrow2 : rv (sI τ1 0 4 (nI (S i))) (33 + l) = cst 0 := hrow
  have e42 : (sI τ1 0 4 (nI (S i))).1 0 4 = nI (S i) := by rw [sI_1, if_pos ⟨rfl, rfl⟩]
  have tc := h.1
  have hfirst : σ.1 178 8 = c (S i) := tc.2.2.2.2.2.2.2
  unfold f_X4_readFactor f_X7_factor
  simp only [bnd_s]
  rw [if_neg (nI_pos (by omega)), if_pos (show nI l < 5 from (nI_ltI (b := 5) (by omega) (by decide)).mpr (by omega)), gd_p k1, k2, k3, k4, k5, k7, k8, k11, gd_p ⟨rfl, c5⟩, gd_p C178.1, e_isWord hE tc (by decide), obn_s, nI_clamp (n := l) (by omega), p3]
  rw [gd_p R0, r_isGood h.2.1.2.1, obn_s, if_neg (show ¬ (1 : Int32) = 0 by decide), r1, r3, r6, r8, gd_p (show (6, 6).1 = 6 ∧ ¬ (nI l < 0 ∨ (6, 6).2 ≤ l) from ⟨rfl, g33'⟩), v3, e1, obn_s, r_next hE hi g1.2.1, obn_s, r_isDigit, obn_s]
  generalize sI τ1 0 4 (nI (S i)) = τ2 at g2 rf2 hrow2 e42
  have s2 : sI τ2 0 4 (nI (S i)) = τ2 := siSame e42
  have tw : ∀ w, w < 5 → f_X7_takeWord 0 (w + 5) τ2 = if isW c S E i w then some (1, sI τ2 0 4 (nI (E i))) else some (0, τ2) := fun w hw => by
    rw [r_takeWord hE hi g2.2.1 (by omega), s2]
    unfold isW
    rw [str_5 w hw]
  have kw : ∀ w, w < 10 → isW c S E i w → kd (c (S i)) = 2 := fun w hw hW => (hW.lt hE hi hw).2
  -- a word has been taken
  have word : ∀ w, w < 10 → isW c S E i w → ∃ σ1, f_X5_advance 178 σ = some ((), σ1) ∧ GS c len last S E l σ1 (sI τ2 0 4 (nI (E i))) (i + 1) ∧ Ci σ σ1 := fun w hw hW => g2.adv hE (hW.lt hE hi hw).1
  by_cases hd : kd (c (S i)) = 1
  · -- a number
    have hil := kd1_lt hE hi hd
    have nw : ∀ w, w < 10 → ¬ isW c S E i w := fun w hw hW => by rw [kw w hw hW] at hd; exact absurd hd (by decide)
    have hn40 : ¬ c (S i) = 40 := fun e => by rw [e] at hd; exact absurd hd (by decide)
    have hnm : nm c S E i = -1 := (nm_cases hE hi).resolve_right (fun ⟨m, hm, e, _, _, e2, _⟩ => by rw [hd] at e2; exact absurd e2 (by decide))
    obtain ⟨m, hm, em⟩ := nu_ok hE hil hd (E i - S i) (Nat.le_refl _)
    rw [bI_0 (nw 1 (by decide)), if_pos rfl, e_isWord hE tc (by decide), obn_s, bI_0 (nw 2 (by decide)), if_pos rfl, e_isWord hE tc (by decide), obn_s, bI_0 (nw 3 (by decide)), if_pos rfl, e_isWord hE tc (by decide), obn_s, bI_0 (nw 4 (by decide)), if_pos rfl, hfirst, if_neg hn40, e_name hE tc, obn_s, hnm, if_neg (show ¬ (0 : Int32) ≤ -1 by decide), bI_1 hd, if_neg (show ¬ (1 : Int32) = 0 by decide), r_number_ok hE hi g2.2.1 hd, em]
    unfold f_X4_readConstant f_X4_checkNumber
    rw [gd_p k1, gd_p k1, k2, gd_p C178.1, e_isNumber hE tc, obn_s, bI_1 hd, if_neg (show ¬ (1 : Int32) = 0 by decide), e_number hE tc, obn_s, em]
    by_cases hle : nI m ≤ 100000
    · have hm5 : m ≤ 100000 := (nI_leI (b := 100000) (by omega) (by decide)).mp hle
      obtain ⟨w, σ1, a1, a2, a3⟩ := e_becomeConstant (σ := σ) (a := (nI m).toInt64) m3
      have g4 : GS c len last S E l σ1 (sI τ2 0 17 (nI (S i))) i := GS.lo (σ := σ) (τ := sI τ2 0 17 (nI (S i))) ⟨g2.1, g2.2.1.z (by decide) (by decide) (by decide), by rw [sI_1, if_neg (by decide)]; exact g2.2.2.1, by rw [sd_z3]; exact g2.2.2.2⟩ a3.1 (fun p h1 h2 => a3.2 p (fun t => by unfold at2 at t; omega)) rfl
      obtain ⟨σ2, b1, b2, b3⟩ := g4.adv hE hil
      have en : f_X5_number 178 σ = some (nI m, σ) := by rw [e_number hE tc, em]
      have hr : rv (sJ (sI (sI τ2 0 17 (nI (S i))) 0 4 (nI (E i))) (33 + l) 0 (nI m).toInt64) (33 + l) = cst (nI m).toInt64 := by
        rw [rv_J (by decide), show rv (sI (sI τ2 0 17 (nI (S i))) 0 4 (nI (E i))) (33 + l) = rv τ2 (33 + l) from rfl, hrow2, cst_z]
      rw [if_pos hle, if_pos hle, obn_s, if_neg (show ¬ (1 : Int32) = 0 by decide), gd_p C178.1, en, obn_s, gd_p m3.1, a1, obn_s, b1, obn_s, obn_s, gd_p (Or.inr rfl), obn_s, s2, gd_p (r_gd00 y3), n00]
      refine ⟨1, σ2, _, rfl, rfl, (a3.cf (fun p t => by unfold at2 at t; omega)).tr b3.cf, ((rf2.tr (Rf_I (by omega))).tr (Rf_I (Or.inl rfl))).tr (Fr.rF (Fr_J (S := fun p => p = 33 + l) rfl) (fun p t => by unfold lvr; omega)), Or.inl ⟨rfl, i + 1, by omega, b2.lo rfl (fun _ _ _ => rfl) rfl, ?_, ?_⟩⟩
      · rw [hr, show val σ2 (220 + 8 * l) = val σ1 (220 + 8 * l) from by unfold val; rw [b3.2], a2]
      · rw [hr]; exact fit_nu hm5
    · rw [if_neg hle, if_neg hle, e_fail, obn_s, if_pos rfl, obn_s, if_pos rfl, obn_s, gd_p (Or.inl rfl), obn_s, s2, gd_p (r_gd00 y3), n00]
      refine ⟨0, _, _, rfl, rfl, Cf_e, ((((rf2.tr (Rf_I (by omega))).tr (Rf_I (Or.inl rfl))).tr (Rf_I (by omega))).tr (Rf_I (by omega))).tr (Fr.rF (Fr_J (S := fun p => p = 33 + l) rfl) (fun p t => by unfold lvr; omega)), Or.inr ⟨rfl, ?_, ?_, ?_⟩⟩
      · rw [sI_1, if_pos ⟨rfl, rfl⟩, sJ_1, sI_1, if_neg (by decide), sI_1, if_pos ⟨rfl, rfl⟩]
      · rw [sJ_1, sI_1, if_neg (by decide), sI_1, if_pos ⟨rfl, rfl⟩]; decide
      · rw [sI_1, if_neg (by decide), sJ_1, sI_1, if_pos ⟨rfl, rfl⟩]; exact tc.2.2.2.2.2.1
  rw [bI_0 hd, if_pos (show (0 : Int32) = 0 from rfl)]
  by_cases hp : c (S i) = 40
  · -- a parenthesis
    have nw : ∀ w, w < 10 → ¬ isW c S E i w := fun w hw hW => by have := kw w hw hW; rw [hp] at this; exact absurd this (by decide)
    obtain ⟨x, σ1, τ3, τ4, τ5, a1, a2, a3, a4, a5, a6, a7⟩ := sim_paren hE hl hR g2
    obtain ⟨w, σ2, b1, b2, b3⟩ := e_copyFrom (σ := σ1) m3 m4
    obtain ⟨w', τ6, b4, b5, b6⟩ := r_copyRow (σ := τ5) y1' y3
    have x01 : x = 0 ∨ x = 1 := a7.elim (fun t => Or.inr t.1) (fun t => Or.inl t.1)
    rw [bI_0 (nw 1 (by decide)), if_pos rfl, e_isWord hE tc (by decide), obn_s, bI_0 (nw 2 (by decide)), if_pos rfl, e_isWord hE tc (by decide), obn_s, bI_0 (nw 3 (by decide)), if_pos rfl, e_isWord hE tc (by decide), obn_s, bI_0 (nw 4 (by decide)), if_pos rfl, hfirst, if_pos hp, if_pos hp, a1, obn_s, k12, gd_p ⟨rfl, c5'⟩, gd_p m3.1, p4, b1, obn_s, gd_p x01, a2, obn_s, a3, obn_s, a4, obn_s, nI_1, gd_p (show (6, 6).1 = 6 ∧ ¬ (nI (l + 1) < 0 ∨ (6, 6).2 ≤ (nI (l + 1)).toNatClampNeg) from ⟨rfl, g34⟩), nI_clamp (n := l + 1) (by omega), v1', b4, obn_s]
    have cf2 : Cf (220 + 8 * l) σ σ2 := (a5.up (by omega)).tr (b3.cf (fun p t => by unfold at2 at t; omega))
    have rf6 : Rf (l + 1) (l + 1) l τ τ6 := (rf2.tr (a6.up (by omega) (by omega) (by omega))).tr (b6.rF (fun p t => by unfold lvr; omega))
    rcases a7 with ⟨rfl, -, i', hi', g, va, fa⟩ | ⟨rfl, er⟩
    · refine ⟨1, σ2, τ6, rfl, rfl, cf2, rf6, Or.inl ⟨rfl, i', hi', g.lo b3.1 (fun p h1 h2 => b3.2 p (fun t => by unfold at2 at t; omega)) b6.1, ?_, ?_⟩⟩
      · rw [b2, b5, va]
      · rw [b5]; exact fa
    · exact ⟨0, σ2, τ6, rfl, rfl, cf2, rf6, Or.inr ⟨rfl, er.lo b3.1 b6.1⟩⟩
  rw [if_neg hp]
  have var : ∀ (w s : Nat), w < 10 → isW c S E i w → s < 10 → FO c len last S E l σ τ i (gd (kC (220 + 8 * l) = (0, 2)) <| obn (f_X2_becomeVariable (220 + 8 * l) (nI s) σ) fun _ σ30 => gd (kC 177 = (0, 4)) <| gd (kC 178 = (0, 5)) <| obn (f_X5_advance 178 σ30) fun _ σ34 => some ((1 : Int32), σ34)) (some ((), sJ (sI τ2 0 4 (nI (E i))) (33 + l) s 1000)) := by
    intro w s hw hW hs
    obtain ⟨u, σ1, a1, a2, a3⟩ := e_becomeVariable (σ := σ) m3 hs
    have gv : GS c len last S E l σ1 τ2 i := g2.lo a3.1 (fun p h1 h2 => a3.2 p (fun t => by unfold at2 at t; omega)) rfl
    obtain ⟨σ2, b1, b2, b3⟩ := gv.adv hE (hW.lt hE hi hw).1
    have hr : rv (sJ (sI τ2 0 4 (nI (E i))) (33 + l) s 1000) (33 + l) = setV (cst 0) s 1000 := by
      rw [rv_J (by omega), show rv (sI τ2 0 4 (nI (E i))) (33 + l) = rv τ2 (33 + l) from rfl, hrow2]
    rw [gd_p m3.1, a1, obn_s, gd_p k1, gd_p C178.1, b1, obn_s]
    refine ⟨1, σ2, _, rfl, rfl, (a3.cf (fun p t => by unfold at2 at t; omega)).tr b3.cf, (rf2.tr (Rf_I (Or.inl rfl))).tr (Fr.rF (Fr_J (S := fun p => p = 33 + l) rfl) (fun p t => by unfold lvr; omega)), Or.inl ⟨rfl, i + 1, by omega, b2.lo rfl (fun _ _ _ => rfl) rfl, ?_, ?_⟩⟩
    · rw [hr, show val σ2 (220 + 8 * l) = val σ1 (220 + 8 * l) from by unfold val; rw [b3.2], a2]
    · rw [hr]; exact fit_var
  have int : ∀ (w : Nat) (v : Int32), w < 10 → isW c S E i w → (v = 0 ∨ v = 1) → FO c len last S E l σ τ i (gd (kC 177 = (0, 4)) <| gd (kC 178 = (0, 5)) <| obn (f_X5_advance 178 σ) fun _ σ60 => obn (f_X4_readParenthesis rc 177 (nI l) σ60) fun x63 σ62 => if x63 = 0 then (some ((0 : Int32), σ62)) else (gd ((kC 215).1 = 3 ∧ ¬ (nI l < 0 ∨ (kC 215).2 ≤ l)) <| gd (kC 200 = (0, 0)) <| obn (f_X0_integrateModel 200 (220 + 8 * l) (rC 215 l) v σ62) fun x68 σ67 => if x68 = 0 then (obn (f_X4_fail 177 (-5 : Int32) σ67) fun x71 σ70 => if x71 = 0 then (some ((0 : Int32), σ70)) else (some ((1 : Int32), σ70))) else (some ((1 : Int32), σ67)))) (obn (f_X7_readIntegral rr 0 (nI l) v (sI τ2 0 4 (nI (E i)))) fun _ σ36 => some ((), σ36)) := by
    intro w v hw hW hv
    obtain ⟨σ1, b1, b2, b3⟩ := word w hw hW
    obtain ⟨x, σ2, τ3, τ4, τ5, a1, a2, a3, a4, a5, a6, a7⟩ := sim_paren hE hl hR b2
    have rf5 : Rf (l + 1) (l + 1) l τ τ5 := (rf2.tr (Rf_I (Or.inl rfl))).tr (a6.up (by omega) (by omega) (by omega))
    have cf2 : Cf (220 + 8 * l) σ σ2 := b3.cf.tr (a5.up (by omega))
    unfold f_X7_readIntegral
    rw [gd_p k1, gd_p C178.1, b1, obn_s, a1, obn_s, gd_p R0, a2, obn_s, a3, obn_s, a4, obn_s]
    rcases a7 with ⟨rfl, -, i', hi', g, va, fa⟩ | ⟨rfl, er⟩
    · obtain ⟨xc, σ3, c1, c2, rfl, c3⟩ := e_integrateModel (v := v) (σ := σ2) isA200 m3 m4 (by omega)
      obtain ⟨xr, τ6, d1, d2, rfl, d3⟩ := r_integralOf (σ := τ5) hv y1' (by omega) y3 fa
      have g3 : GS c len last S E l σ3 τ6 i' := g.lo c3.1 (fun p h1 h2 => c3.2 p (fun t => by unfold at2 at t; omega)) d3.1
      have cf3 : Cf (220 + 8 * l) σ σ3 := cf2.tr (c3.cf (fun p t => by unfold at2 at t; omega))
      have rf6 : Rf (l + 1) (l + 1) l τ τ6 := rf5.tr (d3.rF (fun p t => by unfold lvr; omega))
      rw [va] at c2
      rw [if_neg (show ¬ (1 : Int32) = 0 by decide), k12, gd_p ⟨rfl, c5'⟩, gd_p isA200.1, p4, c1, obn_s, c2, r_isGood g.2.1.2.1, obn_s, if_neg (show ¬ (1 : Int32) = 0 by decide), r1, r3, r6, r8, nI_1, gd_p (show (6, 6).1 = 6 ∧ ¬ (nI (l + 1) < 0 ∨ (6, 6).2 ≤ (nI (l + 1)).toNatClampNeg) from ⟨rfl, g34⟩), gd_p (show (6, 6).1 = 6 ∧ ¬ (nI l < 0 ∨ (6, 6).2 ≤ (nI l).toNatClampNeg) from ⟨rfl, g33⟩), nI_clamp (n := l + 1) (by omega), nI_clamp (n := l) (by omega), v1', v3, d1, obn_s, d2]
      by_cases hf : fitN (intV v (rv τ5 (19 + (l + 1)))) 12
      · rw [bI_1 hf, if_neg (show ¬ (1 : Int32) = 0 by decide), sim_accept hE g3, obn_s, obn_s]
        refine ⟨1, σ3, _, rfl, rfl, cf3, rf6.tr (Rf_I (Or.inl rfl)), Or.inl ⟨rfl, i', by omega, g3.r4 hE, ?_, ?_⟩⟩
        · rw [c2, ← d2]; rfl
        · have : rv (sI τ6 0 4 (nI (S i'))) (33 + l) = intV v (rv τ5 (19 + (l + 1))) := d2
          rw [this]; exact hf
      · obtain ⟨f1, f2⟩ := sim_refuse hE g3
        rw [bI_0 hf, if_pos rfl, e_fail, obn_s, if_pos rfl, f1, obn_s, obn_s]
        exact ⟨0, _, _, rfl, rfl, cf3.tr Cf_e, rf6.tr Rf_3, Or.inr ⟨rfl, f2⟩⟩
    · rw [if_pos rfl, r_isBad er.2.1, obn_s, if_pos rfl, obn_s]
      exact ⟨0, σ2, τ5, rfl, rfl, cf2, rf5, Or.inr ⟨rfl, er⟩⟩
  by_cases w1 : isW c S E i 1
  · rw [bI_1 w1, if_neg (show ¬ (1 : Int32) = 0 by decide), gd_p k1, gd_p C178.1, e_isWord hE tc (by decide), obn_s, bI_1 w1, if_neg (show ¬ (1 : Int32) = 0 by decide), tw 1 (by decide), if_pos w1, obn_s, if_neg (show ¬ (1 : Int32) = 0 by decide), show f_X7_place 1 0 (sI τ2 0 4 (nI (E i))) = some (nI 4, sI τ2 0 4 (nI (E i))) from r_place (i := 1) (j := 0) (by decide), obn_s, gd_p (r_gd y3 (show 4 < 12 by decide)), show (nI 4).toNatClampNeg = 4 by decide]
    exact var 1 4 (by decide) w1 (by decide)
  rw [bI_0 w1, if_pos (show (0 : Int32) = 0 from rfl), tw 1 (by decide), if_neg w1, obn_s, if_pos (show (0 : Int32) = 0 from rfl), e_isWord hE tc (by decide), obn_s]
  by_cases w2 : isW c S E i 2
  · rw [bI_1 w2, if_neg (show ¬ (1 : Int32) = 0 by decide), gd_p k1, gd_p C178.1, e_isWord hE tc (by decide), obn_s, bI_0 w1, if_pos (show (0 : Int32) = 0 from rfl), tw 2 (by decide), if_pos w2, obn_s, if_neg (show ¬ (1 : Int32) = 0 by decide), show f_X7_place 0 1 (sI τ2 0 4 (nI (E i))) = some (nI 1, sI τ2 0 4 (nI (E i))) from r_place (i := 0) (j := 1) (by decide), obn_s, gd_p (r_gd y3 (show 1 < 12 by decide)), show (nI 1).toNatClampNeg = 1 by decide]
    exact var 2 1 (by decide) w2 (by decide)
  rw [bI_0 w2, if_pos (show (0 : Int32) = 0 from rfl), tw 2 (by decide), if_neg w2, obn_s, if_pos (show (0 : Int32) = 0 from rfl), e_isWord hE tc (by decide), obn_s]
  by_cases w3 : isW c S E i 3
  · rw [bI_1 w3, if_neg (show ¬ (1 : Int32) = 0 by decide), gd_p k1, gd_p C178.1, e_isWord hE tc (by decide), obn_s, bI_1 w3, if_neg (show ¬ (1 : Int32) = 0 by decide), tw 3 (by decide), if_pos w3, obn_s, if_neg (show ¬ (1 : Int32) = 0 by decide)]
    exact int 3 0 (by decide) w3 (Or.inl rfl)
  rw [bI_0 w3, if_pos (show (0 : Int32) = 0 from rfl), tw 3 (by decide), if_neg w3, obn_s, if_pos (show (0 : Int32) = 0 from rfl), e_isWord hE tc (by decide), obn_s]
  by_cases w4 : isW c S E i 4
  · rw [bI_1 w4, if_neg (show ¬ (1 : Int32) = 0 by decide), gd_p k1, gd_p C178.1, e_isWord hE tc (by decide), obn_s, bI_0 w3, if_pos (show (0 : Int32) = 0 from rfl), tw 4 (by decide), if_pos w4, obn_s, if_neg (show ¬ (1 : Int32) = 0 by decide)]
    exact int 4 1 (by decide) w4 (Or.inr rfl)
  rw [bI_0 w4, if_pos (show (0 : Int32) = 0 from rfl), tw 4 (by decide), if_neg w4, obn_s, if_pos (show (0 : Int32) = 0 from rfl), hfirst, if_neg hp, e_name hE tc, obn_s, r_takeName hE hi g2.2.1, s2]
  rcases nm_cases hE hi with hnm | ⟨m, hm, hnm, hil, hEi, -, -⟩
  · -- no factor at all
    rw [hnm, if_neg (show ¬ (0 : Int32) ≤ -1 by decide), if_pos (show (-1 : Int32) = -1 from rfl), obn_s, if_pos (show (-1 : Int32) = -1 from rfl), e42, r_report g2.2.1.2.1, obn_s]
    unfold f_X4_readConstant f_X4_checkNumber
    rw [gd_p k1, gd_p k1, k2, gd_p C178.1, e_isNumber hE tc, obn_s, bI_0 hd, if_pos (show (0 : Int32) = 0 from rfl), e_fail, obn_s, gd_p (Or.inl rfl), obn_s, if_pos (show (0 : Int32) = 0 from rfl), obn_s, gd_p (Or.inl rfl)]
    refine ⟨0, _, _, rfl, rfl, Cf_e, (rf2.tr (Rf_I (by omega))).tr (Rf_I (by omega)), Or.inr ⟨rfl, ?_, ?_, ?_⟩⟩
    · rw [sI_1, if_pos ⟨rfl, rfl⟩, sI_1, if_neg (by decide), sI_1, if_pos ⟨rfl, rfl⟩]
    · rw [sI_1, if_neg (by decide), sI_1, if_pos ⟨rfl, rfl⟩]; decide
    · rw [sI_1, if_neg (by decide), sI_1, if_pos ⟨rfl, rfl⟩]; exact tc.2.2.2.2.2.1
  · -- a name
    have hne : ¬ nI m = -1 := fun t => by
      have := congrArg Int32.toInt t
      rw [nI_toInt (by omega)] at this
      have z : (-1 : Int32).toInt = -1 := by decide
      omega
    have hmask : σ.1 182 1 = τ2.1 3 0 := g2.2.2.2.1
    rw [hnm, if_pos (show (0 : Int32) ≤ nI m from nI_pos' (by omega)), if_neg hne, obn_s, if_neg hne, e42, gd_p isS_182.k, e_has isS_182 hm, obn_s]
    obtain ⟨σ1, b1, b2, b3⟩ := g2.adv hE hil
    by_cases hdf : df (σ.1 182 1) (nI m)
    · have sr := g2.2.2.2.2.2 m hm (by show df (τ2.1 3 0) (nI m); rw [← hmask]; exact hdf)
      rw [sn_2 hm, sd_2 hm] at sr
      have gm : ¬ (nI m < 0 ∨ 8 ≤ (nI m).toNatClampNeg) := ge_pos (N := 8) (by decide) hm
      have m182 : isM (182 + 2 + 2 * m) := isS_182.m hm
      obtain ⟨w, σ2, c1, c2, c3⟩ := e_copyFrom (σ := σ1) m3 m182
      have e182 : val σ1 (182 + 2 + 2 * m) = dv τ2 3 m := by rw [← sr.1]; unfold val; rw [b3.2]
      have g3 : GS c len last S E l σ2 (sI τ2 0 4 (nI (E i))) (i + 1) := b2.lo c3.1 (fun p h1 h2 => c3.2 p (fun t => by unfold at2 at t; omega)) rfl
      have edv : dv (sI τ2 0 4 (nI (E i))) 3 m = dv τ2 3 m := by unfold dv; simp only [sI_1, show ¬ ((3 : Nat) = 0) from by decide, false_and, if_false]
      obtain ⟨x, σ3, τ3, n1, n2, n3, n4, n5⟩ := sim_named hE hl hR g3 hm (by rw [sI_1, if_neg (fun t => absurd t.1 (by decide)), ← hmask]; exact hdf) (by rw [c2, e182, edv]) (by rw [edv]; exact sr.2) (nI (S i))
      rw [bI_1 hdf, if_neg (show ¬ (1 : Int32) = 0 by decide), b1, obn_s, show rC 182 0 = 183 from isS_182.r, show kC 183 = (3, 8) from isS_182.k1, gd_p ⟨rfl, gm⟩, gd_p m3.1, nI_clamp (n := m) (by omega), show rC 183 m = 182 + 2 + 2 * m from isS_182.ri hm, c1, obn_s, n1, n2, obn_s]
      refine ⟨x, σ3, τ3, rfl, rfl, (b3.cf.tr (c3.cf (fun p t => by unfold at2 at t; omega))).tr n3, (rf2.tr (Rf_I (Or.inl rfl))).tr n4, ?_⟩
      rcases n5 with ⟨hx, i', hi', q⟩ | q
      · exact Or.inl ⟨hx, i', by omega, q⟩
      · exact Or.inr q
    · rw [bI_0 hdf, if_pos (show (0 : Int32) = 0 from rfl), e_fail, obn_s, gd_p (Or.inl rfl)]
      unfold f_X7_readNamed
      simp only [bnd_s]
      have hnd : ¬ df ((sI τ2 0 4 (nI (E i))).1 3 0) (nI m) := by rw [sI_1, if_neg (by decide), ← hmask]; exact hdf
      have e5 : (sI τ2 0 4 (nI (E i))).1 0 5 = 0 := b2.2.1.2.1
      have e5' : ¬ (sI (sI (sI τ2 0 4 (nI (E i))) 0 5 (-4)) 0 6 (nI (S i))).1 0 5 = 0 := by rw [sI_1, if_neg (by decide), sI_1, if_pos ⟨rfl, rfl⟩]; decide
      rw [gd_p R0, R3.1, r_isDefined R3.2, obn_s, bI_0 hnd, if_pos (show (0 : Int32) = 0 from rfl), r_report e5, obn_s, gd_p R0, r_isBad e5', obn_s, if_pos (show (0 : Int32) = 0 from rfl), obn_s]
      refine ⟨0, _, _, rfl, rfl, Cf_e, rf2.tr Rf_3, Or.inr ⟨rfl, ?_, e5', ?_⟩⟩
      · rw [sI_1, if_pos ⟨rfl, rfl⟩, sI_1, if_neg (by decide), sI_1, if_pos ⟨rfl, rfl⟩]
      · rw [sI_1, if_neg (by decide), sI_1, if_pos ⟨rfl, rfl⟩]; exact tc.2.2.2.2.2.1
end FAC
