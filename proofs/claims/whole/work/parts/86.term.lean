/-! TERMS AND SUMS -/
section TERM
variable {σ σ' τ τ' : St} {c : Nat → Int32} {len last : Nat} {S E : Nat → Nat} {i l : Nat}
/-- the sign that is next is taken -/
theorem GS.sign (h : GS c len last S E l σ τ i) (hE : TkE c len last S E) {s : Int32} (hs : kd s = 3 ∧ s ≠ -1) (hc : c (S i) = s) : ∃ σ1, f_X5_advance 178 σ = some ((), σ1) ∧ GS c len last S E l σ1 (sI τ 0 4 (nI (S i + 1))) (i + 1) ∧ Ci σ σ1 ∧ i < last := by
  obtain ⟨hil, hEi⟩ := sg_ok hE h.1.2.2.2.1 hs hc
  obtain ⟨σ1, a1, a2, a3⟩ := h.adv hE hil
  rw [hEi] at a2
  exact ⟨σ1, a1, a2, a3, hil⟩
theorem sim_term {rc : Nat → Int32 → St → Option (Int32 × St)} {rr : Nat → Int32 → St → Option (Unit × St)} (hE : TkE c len last S E) (hl : l ≤ 4) (hR : SimR c len last S E (l + 1) rc rr) (h : GS c len last S E l σ τ i) :
    ∃ x σ' τ', f_X4_readTerm rc 177 (nI l) σ = some (x, σ') ∧ f_X7_term rr 0 (nI l) τ = some ((), τ') ∧ Cf (218 + 8 * l) σ σ' ∧ Rf (l + 1) l l τ τ' ∧ ((x = 1 ∧ ∃ i', i < i' ∧ GS c len last S E l σ' τ' i' ∧ val σ' (218 + 8 * l) = rv τ' (26 + l) ∧ fitN (rv τ' (26 + l)) 12) ∨ (x = 0 ∧ ErrS σ' τ')) := by
  obtain ⟨⟨p1, p2, p3, p4⟩, m1, m2, m3, m4⟩ := CL l (by omega)
  obtain ⟨r1, r2, r3, r4, r5, r6, r7, r8, r9, r10⟩ := RL0
  obtain ⟨v1, v2, v3, v4, y1, y2, y3, y4⟩ := RLv l (by omega)
  obtain ⟨k1, k2, k3, k4, k5, k6, k7, k8, k9, k10, k11, k12⟩ := CP
  have g6 : ¬ (nI l < 0 ∨ 6 ≤ (nI l).toNatClampNeg) := ge_pos (N := 6) (by decide) (by omega)
  have c5 : ¬ (nI l < 0 ∨ 5 ≤ (nI l).toNatClampNeg) := ge_pos (N := 5) (by decide) (by omega)
  rw [nI_clamp (by omega)] at g6 c5
  have loop : ∀ n k (σ τ : St) (i : Nat), k ≤ i → last + 2 ≤ n + i → GS c len last S E l σ τ i → val σ (218 + 8 * l) = rv τ (26 + l) → fitN (rv τ (26 + l)) 12 →
      ∃ x σ' τ', f_X4_readTerm_L45 rc (fun (q24 : Nat) (σ23 : St) => gd (kC q24 = (0, 4)) <| obn (f_X4_fail q24 (-5 : Int32) σ23) fun x41 σ40 => gd (x41 = 0 ∨ x41 = 1) <| some (x41, σ40)) n 177 (nI l) (218 + 8 * l) (nI k) σ = some (x, σ') ∧ f_X7_term_L20 rr n 0 (nI l) τ = some ((), τ') ∧ Cf (218 + 8 * l) σ σ' ∧ Rf (l + 1) l l τ τ' ∧ ((x = 1 ∧ ∃ i', i ≤ i' ∧ GS c len last S E l σ' τ' i' ∧ val σ' (218 + 8 * l) = rv τ' (26 + l) ∧ fitN (rv τ' (26 + l)) 12) ∨ (x = 0 ∧ ErrS σ' τ')) := by
    intro n
    induction n with
    | zero => intro k σ τ i h1 h2 h3; have := h3.1.2.2.2.1; omega
    | succ n ih =>
      intro k σ τ i h1 h2 h3 h4 h5
      have hi := h3.1.2.2.2.1
      have le := hE.le hi
      have hfirst : σ.1 178 8 = c (S i) := h3.1.2.2.2.2.2.2.2
      have stop : ¬ c (S i) = 42 → f_X7_term_L20 rr (n + 1) 0 (nI l) τ = some ((), sI τ 0 4 (nI (S i))) := fun hc => by
        rw [f_X7_term_L20, gd_p R0, r_isGood h3.2.1.2.1, obn_s, if_neg (show ¬ (1 : Int32) = 0 by decide), r_next hE hi h3.2.1, obn_s, if_neg hc]
      have done : ¬ c (S i) = 42 → ∀ X, X = some ((1 : Int32), σ) → ∃ x σ' τ', X = some (x, σ') ∧ f_X7_term_L20 rr (n + 1) 0 (nI l) τ = some ((), τ') ∧ Cf (218 + 8 * l) σ σ' ∧ Rf (l + 1) l l τ τ' ∧ ((x = 1 ∧ ∃ i', i ≤ i' ∧ GS c len last S E l σ' τ' i' ∧ val σ' (218 + 8 * l) = rv τ' (26 + l) ∧ fitN (rv τ' (26 + l)) 12) ∨ (x = 0 ∧ ErrS σ' τ')) := fun hc X hX => ⟨1, σ, _, hX, stop hc, Cf.rf, Rf_I (Or.inl rfl), Or.inl ⟨rfl, i, Nat.le_refl _, h3.r4 hE, h4, h5⟩⟩
      rw [f_X4_readTerm_L45]
      by_cases hk : 700 ≤ k
      · rw [if_pos (show (700 : Int32) ≤ nI k from (nI_leI (a := 700) (by decide) (by omega)).mpr hk)]
        have hil : i = last := by omega
        exact done (by rw [hil, hE.end']; decide) _ rfl
      · rw [if_neg (show ¬ (700 : Int32) ≤ nI k from fun t => hk ((nI_leI (a := 700) (by decide) (by omega)).mp t)), gd_p k1, k2, gd_p C178.1, hfirst]
        by_cases hc : c (S i) = 42
        · obtain ⟨σ1, a1, a2, a3, hil⟩ := h3.sign hE (s := 42) (by decide) hc
          obtain ⟨x2, σ2, τ2, b1, b2, b3, b4, b5⟩ := sim_factor hE hl hR a2
          rw [if_pos hc, a1, obn_s, b1, obn_s, k7, k11, k4, f_X7_term_L20, gd_p R0, r_isGood h3.2.1.2.1, obn_s, if_neg (show ¬ (1 : Int32) = 0 by decide), r_next hE hi h3.2.1, obn_s, if_pos hc, bnd_s, show (sI τ 0 4 (nI (S i))).1 0 4 = nI (S i) by rw [sI_1, if_pos ⟨rfl, rfl⟩], show nI (S i) + 1 = nI (S i + 1) from nI_1 _, sI_two, b2, obn_s]
          have cf2 : Cf (218 + 8 * l) σ σ2 := a3.cf.tr (b3.up (by omega))
          have rf2 : Rf (l + 1) l l τ τ2 := (Rf_I (Or.inl rfl)).tr (b4.up (by omega) (by omega) (by omega))
          rcases b5 with ⟨rfl, i', hi', g2, vf, ff⟩ | ⟨rfl, er⟩
          · have vt : val σ2 (218 + 8 * l) = rv τ (26 + l) := by
              rw [val_cf b3 (by omega) (by omega), ← h4]; unfold val; rw [a3.2]
            have rt : rv τ2 (26 + l) = rv τ (26 + l) := by
              rw [rv_rf b4 (by unfold lvr; omega)]; rfl
            obtain ⟨xm, σ3, e1, e2, rfl, e3⟩ := e_multiplyModels (σ := σ2) isA200 m2 m2 m3
            rw [mulV_W (fun j hj => val_12 hj), vt, vf] at e2
            obtain ⟨xr, τ3, f1, f2, rfl, f3⟩ := r_productOf (σ := τ2) (a := 26 + l) (b := 33 + l) (to := 26 + l) y2 y3 y2 (by omega) (by omega) (by rw [rt]; exact h5) ff
            rw [rt] at f2
            have g3 : GS c len last S E l σ3 τ3 i' := g2.lo e3.1 (fun p q1 q2 => e3.2 p (fun t => by unfold atA at t; omega)) f3.1
            have cf3 : Cf (218 + 8 * l) σ σ3 := cf2.tr (e3.cf (fun p t => by unfold atA at t; omega))
            have rf3 : Rf (l + 1) l l τ τ3 := rf2.tr (f3.rF (fun p t => by unfold lvr; omega))
            rw [if_neg (show ¬ (1 : Int32) = 0 by decide), gd_p ⟨rfl, by rw [nI_clamp (by omega)]; exact c5⟩, gd_p isA200.1, nI_clamp (n := l) (by omega), p3, e1, obn_s, e2, r_isGood g2.2.1.2.1, obn_s, if_neg (show ¬ (1 : Int32) = 0 by decide), r2, r3, r7, r8, gd_p (show (6, 6).1 = 6 ∧ ¬ (nI l < 0 ∨ (6, 6).2 ≤ l) from ⟨rfl, g6⟩), gd_p (show (6, 6).1 = 6 ∧ ¬ (nI l < 0 ∨ (6, 6).2 ≤ l) from ⟨rfl, g6⟩), v2, v3, f1, obn_s, f2]
            by_cases hf : fitN (mulW (rv τ (26 + l)) (rv τ2 (33 + l))) 12
            · rw [bI_1 hf, if_neg (show ¬ (1 : Int32) = 0 by decide), bnd_s, nI_1, sim_accept hE g3, obn_s]
              obtain ⟨x, σ4, τ4, q1, q2, q3, q4, q5⟩ := ih (k + 1) σ3 (sI τ3 0 4 (nI (S i'))) i' (by omega) (by omega) (g3.r4 hE) (by rw [e2]; exact f2.symm) (by show fitN (rv τ3 (26 + l)) 12; rw [f2]; exact hf)
              refine ⟨x, σ4, τ4, q1, q2, cf3.tr q3, (rf3.tr (Rf_I (Or.inl rfl))).tr q4, ?_⟩
              rcases q5 with ⟨hx, i2, hi2, q⟩ | q
              · exact Or.inl ⟨hx, i2, by omega, q⟩
              · exact Or.inr q
            · obtain ⟨z1, z2⟩ := sim_refuse hE g3
              have hn : ∃ n', n = n' + 1 := ⟨n - 1, by omega⟩
              obtain ⟨n', rfl⟩ := hn
              rw [bI_0 hf, if_pos (show (0 : Int32) = 0 from rfl), gd_p k1, e_fail, obn_s, gd_p (Or.inl rfl), z1, obn_s, f_X7_term_L20, gd_p R0, r_isBad z2.2.1, obn_s, if_pos (show (0 : Int32) = 0 from rfl)]
              exact ⟨0, _, _, rfl, rfl, cf3.tr Cf_e, rf3.tr Rf_3, Or.inr ⟨rfl, z2⟩⟩
          · have hn : ∃ n', n = n' + 1 := ⟨n - 1, by omega⟩
            obtain ⟨n', rfl⟩ := hn
            rw [if_pos (show (0 : Int32) = 0 from rfl), r_isBad er.2.1, obn_s, if_pos (show (0 : Int32) = 0 from rfl), f_X7_term_L20, gd_p R0, r_isBad er.2.1, obn_s, if_pos (show (0 : Int32) = 0 from rfl)]
            exact ⟨0, σ2, τ2, rfl, rfl, cf2, rf2, Or.inr ⟨rfl, er⟩⟩
        · rw [if_neg hc]
          exact done hc _ rfl
  obtain ⟨x, σ1, τ1, a1, a2, a3, a4, a5⟩ := sim_factor hE hl hR h
  obtain ⟨u, τ2, b1, b2, b3⟩ := r_copyRow (σ := τ1) y3 y2
  have rf2 : Rf (l + 1) l l τ τ2 := (a4.up (by omega) (by omega) (by omega)).tr (b3.rF (fun p t => by unfold lvr; omega))
  unfold f_X4_readTerm f_X7_term
  simp only [bnd_s]
  rw [if_neg (nI_pos (by omega)), if_pos (show nI l < 5 from (nI_ltI (b := 5) (by omega) (by decide)).mpr (by omega)), gd_p k1, a1, obn_s, gd_p R0, a2, obn_s, r2, r3, r7, r8, nI_clamp (n := l) (by omega), gd_p (show (6, 6).1 = 6 ∧ ¬ (nI l < 0 ∨ (6, 6).2 ≤ l) from ⟨rfl, g6⟩), gd_p (show (6, 6).1 = 6 ∧ ¬ (nI l < 0 ∨ (6, 6).2 ≤ l) from ⟨rfl, g6⟩), v2, v3, b1, obn_s]
  rcases a5 with ⟨rfl, i', hi', g, vf, ff⟩ | ⟨rfl, er⟩
  · obtain ⟨w, σ2, c1, c2, c3⟩ := e_copyFrom (σ := σ1) m2 m3
    have g2 : GS c len last S E l σ2 τ2 i' := g.lo c3.1 (fun p q1 q2 => c3.2 p (fun t => by unfold at2 at t; omega)) b3.1
    have le := hE.le g.1.2.2.2.1
    obtain ⟨x, σ3, τ3, d1, d2, d3, d4, d5⟩ := loop FU 0 σ2 τ2 i' (Nat.zero_le _) (by show last + 2 ≤ 4096 + i'; omega) g2 (by rw [c2, vf, b2]) (by rw [b2]; exact ff)
    rw [if_neg (show ¬ (1 : Int32) = 0 by decide), k6, k7, k10, k11, gd_p (show (3, 5).1 = 3 ∧ ¬ (nI l < 0 ∨ (3, 5).2 ≤ l) from ⟨rfl, c5⟩), gd_p (show (3, 5).1 = 3 ∧ ¬ (nI l < 0 ∨ (3, 5).2 ≤ l) from ⟨rfl, c5⟩), p2, p3, gd_p m2.1, c1, obn_s]
    refine ⟨x, σ3, τ3, d1, d2, ((a3.up (by omega)).tr (c3.cf (fun p t => by unfold at2 at t; omega))).tr d3, rf2.tr d4, ?_⟩
    rcases d5 with ⟨hx, i2, hi2, q⟩ | q
    · exact Or.inl ⟨hx, i2, by omega, q⟩
    · exact Or.inr q
  · have er2 : ErrS σ1 τ2 := er.lo rfl b3.1
    rw [if_pos (show (0 : Int32) = 0 from rfl), show FU = 4095 + 1 from rfl, f_X7_term_L20, gd_p R0, r_isBad er2.2.1, obn_s, if_pos (show (0 : Int32) = 0 from rfl)]
    exact ⟨0, σ1, τ2, rfl, rfl, a3.up (by omega), rf2, Or.inr ⟨rfl, er2⟩⟩
theorem sim_sum {rc : Nat → Int32 → St → Option (Int32 × St)} {rr : Nat → Int32 → St → Option (Unit × St)} (hE : TkE c len last S E) (hl : l ≤ 4) (hR : SimR c len last S E (l + 1) rc rr) (h : GS c len last S E l σ τ i) :
    ∃ x σ' τ', f_X4_readSum rc 177 (nI l) σ = some (x, σ') ∧ f_X7_sum rr 0 (nI l) τ = some ((), τ') ∧ Cf (216 + 8 * l) σ σ' ∧ Rf l l l τ τ' ∧ ((x = 1 ∧ ∃ i', i < i' ∧ GS c len last S E l σ' τ' i' ∧ val σ' (216 + 8 * l) = rv τ' (19 + l) ∧ fitN (rv τ' (19 + l)) 12) ∨ (x = 0 ∧ ErrS σ' τ')) := by
  obtain ⟨⟨p1, p2, p3, p4⟩, m1, m2, m3, m4⟩ := CL l (by omega)
  obtain ⟨r1, r2, r3, r4, r5, r6, r7, r8, r9, r10⟩ := RL0
  obtain ⟨v1, v2, v3, v4, y1, y2, y3, y4⟩ := RLv l (by omega)
  obtain ⟨k1, k2, k3, k4, k5, k6, k7, k8, k9, k10, k11, k12⟩ := CP
  have g6 : ¬ (nI l < 0 ∨ 6 ≤ (nI l).toNatClampNeg) := ge_pos (N := 6) (by decide) (by omega)
  have c5 : ¬ (nI l < 0 ∨ 5 ≤ (nI l).toNatClampNeg) := ge_pos (N := 5) (by decide) (by omega)
  rw [nI_clamp (by omega)] at g6 c5
  have loop : ∀ n k (σ τ : St) (i : Nat), k ≤ i → last + 2 ≤ n + i → GS c len last S E l σ τ i → val σ (216 + 8 * l) = rv τ (19 + l) → fitN (rv τ (19 + l)) 12 →
      ∃ x σ' τ', f_X4_readSum_L45 rc (fun (q24 : Nat) (σ23 : St) => gd (kC q24 = (0, 4)) <| obn (f_X4_fail q24 (-5 : Int32) σ23) fun x70 σ69 => gd (x70 = 0 ∨ x70 = 1) <| some (x70, σ69)) n 177 (nI l) (216 + 8 * l) (nI k) σ = some (x, σ') ∧ f_X7_sum_L28 rr n 0 (nI l) τ = some ((), τ') ∧ Cf (216 + 8 * l) σ σ' ∧ Rf l l l τ τ' ∧ ((x = 1 ∧ ∃ i', i ≤ i' ∧ GS c len last S E l σ' τ' i' ∧ val σ' (216 + 8 * l) = rv τ' (19 + l) ∧ fitN (rv τ' (19 + l)) 12) ∨ (x = 0 ∧ ErrS σ' τ')) := by
    intro n
    induction n with
    | zero => intro k σ τ i h1 h2 h3; have := h3.1.2.2.2.1; omega
    | succ n ih =>
      intro k σ τ i h1 h2 h3 h4 h5
      have hi := h3.1.2.2.2.1
      have le := hE.le hi
      have hfirst : σ.1 178 8 = c (S i) := h3.1.2.2.2.2.2.2.2
      have g0 := h3.r4 hE
      have s2 : sI (sI τ 0 4 (nI (S i))) 0 4 (nI (S i)) = sI τ 0 4 (nI (S i)) := sI_two
      have e40 : (sI τ 0 4 (nI (S i))).1 0 4 = nI (S i) := by rw [sI_1, if_pos ⟨rfl, rfl⟩]
      have stop : ¬ c (S i) = 43 → ¬ c (S i) = 45 → f_X7_sum_L28 rr (n + 1) 0 (nI l) τ = some ((), sI τ 0 4 (nI (S i))) := fun hc hc2 => by
        rw [f_X7_sum_L28]
        simp only [bnd_s]
        rw [gd_p R0, r_isGood h3.2.1.2.1, obn_s, if_neg (show ¬ (1 : Int32) = 0 by decide), r_next hE hi h3.2.1, obn_s, if_neg hc, r_next hE hi g0.2.1, obn_s, if_neg hc2, s2]
      have done : ¬ c (S i) = 43 → ¬ c (S i) = 45 → ∀ X, X = some ((1 : Int32), σ) → ∃ x σ' τ', X = some (x, σ') ∧ f_X7_sum_L28 rr (n + 1) 0 (nI l) τ = some ((), τ') ∧ Cf (216 + 8 * l) σ σ' ∧ Rf l l l τ τ' ∧ ((x = 1 ∧ ∃ i', i ≤ i' ∧ GS c len last S E l σ' τ' i' ∧ val σ' (216 + 8 * l) = rv τ' (19 + l) ∧ fitN (rv τ' (19 + l)) 12) ∨ (x = 0 ∧ ErrS σ' τ')) := fun hc hc2 X hX => ⟨1, σ, _, hX, stop hc hc2, Cf.rf, Rf_I (Or.inl rfl), Or.inl ⟨rfl, i, Nat.le_refl _, h3.r4 hE, h4, h5⟩⟩
      rw [f_X4_readSum_L45]
      simp only [bnd_s]
      by_cases hk : 700 ≤ k
      · rw [if_pos (show (700 : Int32) ≤ nI k from (nI_leI (a := 700) (by decide) (by omega)).mpr hk)]
        have hil : i = last := by omega
        exact done (by rw [hil, hE.end']; decide) (by rw [hil, hE.end']; decide) _ rfl
      · rw [if_neg (show ¬ (700 : Int32) ≤ nI k from fun t => hk ((nI_leI (a := 700) (by decide) (by omega)).mp t)), gd_p k1, k2, gd_p C178.1, hfirst]
        -- a sign and a term
        have one : ∀ (s : Int32), (s = 43 ∨ s = 45) → c (S i) = s → ∀ X Y, X = (gd (kC 177 = (0, 4)) <| gd (kC 178 = (0, 5)) <| obn (f_X5_advance 178 σ) fun _ σ45 => obn (f_X4_readTerm rc 177 (nI l) σ45) fun x48 σ47 => if x48 = 0 then (some ((0 : Int32), σ47)) else (if s = 45 then (gd ((kC (rC 177 4)).1 = 3 ∧ ¬ (nI l < 0 ∨ (kC (rC 177 4)).2 ≤ (nI l).toNatClampNeg)) <| gd (kC (rC 177 2) = (0, 0)) <| obn (f_X0_subtractModels (rC 177 2) (216 + 8 * l) (216 + 8 * l) (rC (rC 177 4) (nI l).toNatClampNeg) σ47) fun x61 σ60 => if x61 = 0 then (gd (kC 177 = (0, 4)) <| obn (f_X4_fail 177 (-5 : Int32) σ60) fun x70 σ69 => gd (x70 = 0 ∨ x70 = 1) <| some (x70, σ69)) else (f_X4_readSum_L45 rc (fun (q24 : Nat) (σ23 : St) => gd (kC q24 = (0, 4)) <| obn (f_X4_fail q24 (-5 : Int32) σ23) fun x70 σ69 => gd (x70 = 0 ∨ x70 = 1) <| some (x70, σ69)) n 177 (nI l) (216 + 8 * l) (nI k + 1) σ60)) else (gd ((kC (rC 177 4)).1 = 3 ∧ ¬ (nI l < 0 ∨ (kC (rC 177 4)).2 ≤ (nI l).toNatClampNeg)) <| gd (kC (rC 177 2) = (0, 0)) <| obn (f_X0_addModels (rC 177 2) (216 + 8 * l) (216 + 8 * l) (rC (rC 177 4) (nI l).toNatClampNeg) σ47) fun x66 σ65 => if x66 = 0 then (gd (kC 177 = (0, 4)) <| obn (f_X4_fail 177 (-5 : Int32) σ65) fun x70 σ69 => gd (x70 = 0 ∨ x70 = 1) <| some (x70, σ69)) else (f_X4_readSum_L45 rc (fun (q24 : Nat) (σ23 : St) => gd (kC q24 = (0, 4)) <| obn (f_X4_fail q24 (-5 : Int32) σ23) fun x70 σ69 => gd (x70 = 0 ∨ x70 = 1) <| some (x70, σ69)) n 177 (nI l) (216 + 8 * l) (nI k + 1) σ65)))) →
            Y = (obn (f_X7_term rr 0 (nI l) (sI τ 0 4 (nI (S i + 1)))) fun _ σ37 => obn (f_X7_isGood 0 σ37) fun x40 σ39 => if x40 = 0 then (f_X7_sum_L28 rr n 0 (nI l) σ39) else (gd ((kR (rR 0 18)).1 = 6 ∧ ¬ (nI l < 0 ∨ (kR (rR 0 18)).2 ≤ (nI l).toNatClampNeg)) <| gd ((kR (rR 0 19)).1 = 6 ∧ ¬ (nI l < 0 ∨ (kR (rR 0 19)).2 ≤ (nI l).toNatClampNeg)) <| obn (f_X7_sumOf (rR (rR 0 18) (nI l).toNatClampNeg) (rR (rR 0 19) (nI l).toNatClampNeg) (if s = 45 then -1 else 1) (rR (rR 0 18) (nI l).toNatClampNeg) σ39) fun x45 σ44 => obn (f_X7_refuse 0 x45 σ44) fun _ σ47 => f_X7_sum_L28 rr n 0 (nI l) σ47)) →
            ∃ x σ' τ', X = some (x, σ') ∧ Y = some ((), τ') ∧ Cf (216 + 8 * l) σ σ' ∧ Rf l l l τ τ' ∧ ((x = 1 ∧ ∃ i', i ≤ i' ∧ GS c len last S E l σ' τ' i' ∧ val σ' (216 + 8 * l) = rv τ' (19 + l) ∧ fitN (rv τ' (19 + l)) 12) ∨ (x = 0 ∧ ErrS σ' τ')) := by
          intro s hs hc X Y hX hY
          obtain ⟨σ1, a1, a2, a3, hil⟩ := h3.sign hE (s := s) (by rcases hs with rfl | rfl <;> decide) hc
          obtain ⟨x2, σ2, τ2, b1, b2, b3, b4, b5⟩ := sim_term hE hl hR a2
          rw [hX, hY, gd_p k1, gd_p C178.1, a1, obn_s, b1, obn_s, k6, k10, k4, b2, obn_s]
          have cf2 : Cf (216 + 8 * l) σ σ2 := a3.cf.tr (b3.up (by omega))
          have rf2 : Rf l l l τ τ2 := (Rf_I (Or.inl rfl)).tr (b4.up (by omega) (by omega) (by omega))
          have hn : ∃ n', n = n' + 1 := ⟨n - 1, by omega⟩
          rcases b5 with ⟨rfl, i', hi', g2, vf, ff⟩ | ⟨rfl, er⟩
          · have vt : val σ2 (216 + 8 * l) = rv τ (19 + l) := by
              rw [val_cf b3 (by omega) (by omega), ← h4]; unfold val; rw [a3.2]
            have rt : rv τ2 (19 + l) = rv τ (19 + l) := by
              rw [rv_rf b4 (by unfold lvr; omega)]; rfl
            rw [if_neg (show ¬ (1 : Int32) = 0 by decide), r_isGood g2.2.1.2.1, obn_s, if_neg (show ¬ (1 : Int32) = 0 by decide), r1, r2, r6, r7, nI_clamp (n := l) (by omega), gd_p (show (6, 6).1 = 6 ∧ ¬ (nI l < 0 ∨ (6, 6).2 ≤ l) from ⟨rfl, g6⟩), gd_p (show (6, 6).1 = 6 ∧ ¬ (nI l < 0 ∨ (6, 6).2 ≤ l) from ⟨rfl, g6⟩), v1, v2, p2]
            -- what both do with the new value
            have fin : ∀ (w : V) σ3 τ3, val σ3 (216 + 8 * l) = w → Fr (at2 (216 + 8 * l)) σ2 σ3 → rv τ3 (19 + l) = w → Fr (fun x => x = 19 + l) τ2 τ3 → ∀ X Y, X = (if bI (fitN w 12) = 0 then (gd (kC 177 = (0, 4)) <| obn (f_X4_fail 177 (-5 : Int32) σ3) fun x70 σ69 => gd (x70 = 0 ∨ x70 = 1) <| some (x70, σ69)) else (f_X4_readSum_L45 rc (fun (q24 : Nat) (σ23 : St) => gd (kC q24 = (0, 4)) <| obn (f_X4_fail q24 (-5 : Int32) σ23) fun x70 σ69 => gd (x70 = 0 ∨ x70 = 1) <| some (x70, σ69)) n 177 (nI l) (216 + 8 * l) (nI k + 1) σ3)) → Y = (obn (f_X7_refuse 0 (bI (fitN w 12)) τ3) fun _ σ47 => f_X7_sum_L28 rr n 0 (nI l) σ47) → ∃ x σ' τ', X = some (x, σ') ∧ Y = some ((), τ') ∧ Cf (216 + 8 * l) σ σ' ∧ Rf l l l τ τ' ∧ ((x = 1 ∧ ∃ i', i ≤ i' ∧ GS c len last S E l σ' τ' i' ∧ val σ' (216 + 8 * l) = rv τ' (19 + l) ∧ fitN (rv τ' (19 + l)) 12) ∨ (x = 0 ∧ ErrS σ' τ')) := by
              intro w σ3 τ3 e2 e3 f2 f3 X Y hX hY
              have g3 : GS c len last S E l σ3 τ3 i' := g2.lo e3.1 (fun p q1 q2 => e3.2 p (fun t => by unfold at2 at t; omega)) f3.1
              have cf3 : Cf (216 + 8 * l) σ σ3 := cf2.tr (e3.cf (fun p t => by unfold at2 at t; omega))
              have rf3 : Rf l l l τ τ3 := rf2.tr (f3.rF (fun p t => by unfold lvr; omega))
              rw [hX, hY]
              by_cases hf : fitN w 12
              · rw [bI_1 hf, if_neg (show ¬ (1 : Int32) = 0 by decide), nI_1, sim_accept hE g3, obn_s]
                obtain ⟨x, σ4, τ4, q1, q2, q3, q4, q5⟩ := ih (k + 1) σ3 (sI τ3 0 4 (nI (S i'))) i' (by omega) (by omega) (g3.r4 hE) (by rw [e2]; exact f2.symm) (by show fitN (rv τ3 (19 + l)) 12; rw [f2]; exact hf)
                refine ⟨x, σ4, τ4, q1, q2, cf3.tr q3, (rf3.tr (Rf_I (Or.inl rfl))).tr q4, ?_⟩
                rcases q5 with ⟨hx, i2, hi2, q⟩ | q
                · exact Or.inl ⟨hx, i2, by omega, q⟩
                · exact Or.inr q
              · obtain ⟨z1, z2⟩ := sim_refuse hE g3
                obtain ⟨n', hn'⟩ := hn
                rw [bI_0 hf, if_pos (show (0 : Int32) = 0 from rfl), gd_p k1, e_fail, obn_s, gd_p (Or.inl rfl), z1, obn_s, hn', f_X7_sum_L28, gd_p R0, r_isBad z2.2.1, obn_s, if_pos (show (0 : Int32) = 0 from rfl)]
                exact ⟨0, _, _, rfl, rfl, cf3.tr Cf_e, rf3.tr Rf_3, Or.inr ⟨rfl, z2⟩⟩
            by_cases h45 : s = 45
            · obtain ⟨xm, σ3, e1, e2, rfl, e3⟩ := e_subtractModels (qa := 200) (σ := σ2) m1 m1 m2
              rw [vt, vf] at e2
              obtain ⟨xr, τ3, f1, f2, rfl, f3⟩ := r_sub (σ := τ2) y1 y2 y1
              rw [rt] at f2
              rw [if_pos h45, if_pos h45, gd_p (show (3, 5).1 = 3 ∧ ¬ (nI l < 0 ∨ (3, 5).2 ≤ l) from ⟨rfl, c5⟩), gd_p isA200.1, e1, obn_s, e2, f1, obn_s, f2]
              exact fin _ σ3 τ3 e2 e3 f2 f3 _ _ rfl rfl
            · obtain ⟨xm, σ3, e1, e2, rfl, e3⟩ := e_addModels (qa := 200) (σ := σ2) m1 m1 m2
              rw [vt, vf] at e2
              obtain ⟨xr, τ3, f1, f2, rfl, f3⟩ := r_add (σ := τ2) y1 y2 y1
              rw [rt] at f2
              rw [if_neg h45, if_neg h45, gd_p (show (3, 5).1 = 3 ∧ ¬ (nI l < 0 ∨ (3, 5).2 ≤ l) from ⟨rfl, c5⟩), gd_p isA200.1, e1, obn_s, e2, f1, obn_s, f2]
              exact fin _ σ3 τ3 e2 e3 f2 f3 _ _ rfl rfl
          · obtain ⟨n', hn'⟩ := hn
            rw [if_pos (show (0 : Int32) = 0 from rfl), r_isBad er.2.1, obn_s, if_pos (show (0 : Int32) = 0 from rfl), hn', f_X7_sum_L28, gd_p R0, r_isBad er.2.1, obn_s, if_pos (show (0 : Int32) = 0 from rfl)]
            exact ⟨0, σ2, τ2, rfl, rfl, cf2, rf2, Or.inr ⟨rfl, er⟩⟩
        by_cases hc : c (S i) = 43
        · rw [if_pos hc, gd_p k1, gd_p C178.1, if_pos hc, f_X7_sum_L28]
          simp only [bnd_s]
          rw [gd_p R0, r_isGood h3.2.1.2.1, obn_s, if_neg (show ¬ (1 : Int32) = 0 by decide), r_next hE hi h3.2.1, obn_s, if_pos hc, gd_p R0, r_next hE hi g0.2.1, obn_s, if_pos hc, gd_p R0, s2, e40, show nI (S i) + 1 = nI (S i + 1) from nI_1 _, sI_two]
          refine one 43 (Or.inl rfl) hc _ _ ?_ ?_
          · simp only [show ¬ (1 : Int32) = 0 from by decide, show ¬ (43 : Int32) = 45 from by decide, if_false]
          · rw [if_neg (show ¬ (43 : Int32) = 45 by decide)]
        · by_cases hc2 : c (S i) = 45
          · rw [if_neg hc, if_pos hc2, gd_p k1, gd_p C178.1, if_neg hc, f_X7_sum_L28]
            simp only [bnd_s]
            rw [gd_p R0, r_isGood h3.2.1.2.1, obn_s, if_neg (show ¬ (1 : Int32) = 0 by decide), r_next hE hi h3.2.1, obn_s, if_neg hc, r_next hE hi g0.2.1, obn_s, if_pos hc2, s2, gd_p R0, r_next hE hi g0.2.1, obn_s, if_neg hc, gd_p R0, s2, e40, show nI (S i) + 1 = nI (S i + 1) from nI_1 _, sI_two]
            refine one 45 (Or.inr rfl) hc2 _ _ ?_ ?_
            · simp only [if_true]
            · rw [if_pos (show (45 : Int32) = 45 from rfl)]
          · rw [if_neg hc, if_neg hc2]
            exact done hc hc2 _ rfl
  obtain ⟨x, σ1, τ1, a1, a2, a3, a4, a5⟩ := sim_term hE hl hR h
  obtain ⟨u, τ2, b1, b2, b3⟩ := r_copyRow (σ := τ1) y2 y1
  have rf2 : Rf l l l τ τ2 := (a4.up (by omega) (by omega) (by omega)).tr (b3.rF (fun p t => by unfold lvr; omega))
  unfold f_X4_readSum f_X7_sum
  simp only [bnd_s]
  rw [if_neg (nI_pos (by omega)), if_pos (show nI l < 5 from (nI_ltI (b := 5) (by omega) (by decide)).mpr (by omega)), gd_p k1, a1, obn_s, gd_p R0, r_isGood h.2.1.2.1, obn_s, if_neg (show ¬ (1 : Int32) = 0 by decide), a2, obn_s, r1, r2, r6, r7, nI_clamp (n := l) (by omega), gd_p (show (6, 6).1 = 6 ∧ ¬ (nI l < 0 ∨ (6, 6).2 ≤ l) from ⟨rfl, g6⟩), gd_p (show (6, 6).1 = 6 ∧ ¬ (nI l < 0 ∨ (6, 6).2 ≤ l) from ⟨rfl, g6⟩), v1, v2, b1, obn_s]
  rcases a5 with ⟨rfl, i', hi', g, vf, ff⟩ | ⟨rfl, er⟩
  · obtain ⟨w, σ2, c1, c2, c3⟩ := e_copyFrom (σ := σ1) m1 m2
    have g2 : GS c len last S E l σ2 τ2 i' := g.lo c3.1 (fun p q1 q2 => c3.2 p (fun t => by unfold at2 at t; omega)) b3.1
    have le := hE.le g.1.2.2.2.1
    obtain ⟨x, σ3, τ3, d1, d2, d3, d4, d5⟩ := loop FU 0 σ2 τ2 i' (Nat.zero_le _) (by show last + 2 ≤ 4096 + i'; omega) g2 (by rw [c2, vf, b2]) (by rw [b2]; exact ff)
    rw [if_neg (show ¬ (1 : Int32) = 0 by decide), k5, k6, k9, k10, gd_p (show (3, 5).1 = 3 ∧ ¬ (nI l < 0 ∨ (3, 5).2 ≤ l) from ⟨rfl, c5⟩), gd_p (show (3, 5).1 = 3 ∧ ¬ (nI l < 0 ∨ (3, 5).2 ≤ l) from ⟨rfl, c5⟩), p1, p2, gd_p m1.1, c1, obn_s]
    refine ⟨x, σ3, τ3, d1, d2, ((a3.up (by omega)).tr (c3.cf (fun p t => by unfold at2 at t; omega))).tr d3, rf2.tr d4, ?_⟩
    rcases d5 with ⟨hx, i2, hi2, q⟩ | q
    · exact Or.inl ⟨hx, i2, by omega, q⟩
    · exact Or.inr q
  · have er2 : ErrS σ1 τ2 := er.lo rfl b3.1
    rw [if_pos (show (0 : Int32) = 0 from rfl), show FU = 4095 + 1 from rfl, f_X7_sum_L28, gd_p R0, r_isBad er2.2.1, obn_s, if_pos (show (0 : Int32) = 0 from rfl)]
    exact ⟨0, σ1, τ2, rfl, rfl, a3.up (by omega), rf2, Or.inr ⟨rfl, er2⟩⟩
/-- the recursion: enough fuel for every level -/
theorem sim_RS (hE : TkE c len last S E) : ∀ (d n l : Nat), l + d = 5 → d < n → SimR c len last S E l (f_X4_readSum_RS n) (f_X7_sum_RS n)
  | 0, n + 1, l, h, _ => ⟨fun hl => absurd hl (by omega), fun τ he => r_sumBad he⟩
  | d + 1, n + 1, l, h, hn => ⟨fun hl σ τ i g => by
      have ih := sim_RS hE d n (l + 1) (by omega) (by omega)
      rw [f_X4_readSum_RS, f_X7_sum_RS]
      exact sim_sum hE hl ih g, fun τ he => r_sumBad he⟩
end TERM
