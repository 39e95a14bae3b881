/-! FACTORS -/
def FO (c : Nat → Int32) (len last : Nat) (S E : Nat → Nat) (l : Nat) (σ τ : St) (i : Nat) (X : Option (Int32 × St)) (Y : Option (Unit × St)) : Prop := ∃ x σ' τ', X = some (x, σ') ∧ Y = some ((), τ') ∧ Cf (220 + 8 * l) σ σ' ∧ Rf (l + 1) (l + 1) l τ τ' ∧ ((x = 1 ∧ ∃ i', i < i' ∧ GS c len last S E l σ' τ' i' ∧ val σ' (220 + 8 * l) = rv τ' (33 + l) ∧ fitN (rv τ' (33 + l)) 12) ∨ (x = 0 ∧ ErrS σ' τ'))
section FAC
variable {σ σ' τ τ' : St} {c : Nat → Int32} {len last : Nat} {S E : Nat → Nat} {i l : Nat}
theorem sim_brackets {rc : Nat → Int32 → St → Option (Int32 × St)} {rr : Nat → Int32 → St → Option (Unit × St)} (hE : TkE c len last S E) (hl : l ≤ 4) (hR : SimR c len last S E (l + 1) rc rr) (h : GS c len last S E l σ τ i) :
    ∃ x σ' τ1 τ2 τ3 τ4 τ5 τ', f_X4_readBrackets rc 177 (nI l) σ = some (x, σ') ∧ f_X7_open 0 91 τ = some ((), τ1) ∧ rr 0 (nI l + 1) τ1 = some ((), τ2) ∧ f_X7_copyRow (19 + (l + 1)) (40 + l) τ2 = some ((), τ3) ∧ f_X7_expect 0 44 τ3 = some ((), τ4) ∧ rr 0 (nI l + 1) τ4 = some ((), τ5) ∧ f_X7_close 0 93 τ5 = some ((), τ') ∧ Cf (222 + 8 * l) σ σ' ∧ Rf (l + 1) (l + 1) l τ τ' ∧ ((x = 1 ∧ l < 4 ∧ ∃ i', i < i' ∧ GS c len last S E l σ' τ' i' ∧ val σ' (222 + 8 * l) = rv τ' (40 + l) ∧ fitN (rv τ' (40 + l)) 12 ∧ val σ' (216 + 8 * (l + 1)) = rv τ' (19 + (l + 1)) ∧ fitN (rv τ' (19 + (l + 1))) 12) ∨ (x = 0 ∧ ErrS σ' τ')) := by
  obtain ⟨x1, σ1, τ1, o1, o2, o3, o4, o5, o6, o7⟩ := sim_open hE h (s := 91) (by decide) hl
  have i19 : isR (19 + (l + 1)) := (RLv (l + 1) (by omega)).2.2.2.2.1
  have i40 : isR (40 + l) := (RLv l (by omega)).2.2.2.2.2.2.2
  -- what follows an error
  have rest : ∀ τ2, ¬ τ2.1 0 5 = 0 → Rf (l + 1) (l + 1) l τ τ2 → ∃ τ3 τ4 τ5 τ', f_X7_copyRow (19 + (l + 1)) (40 + l) τ2 = some ((), τ3) ∧ f_X7_expect 0 44 τ3 = some ((), τ4) ∧ rr 0 (nI l + 1) τ4 = some ((), τ5) ∧ f_X7_close 0 93 τ5 = some ((), τ') ∧ Rf (l + 1) (l + 1) l τ τ' ∧ (∀ σ', ErrS σ' τ2 → ErrS σ' τ') := by
    intro τ2 he hF
    obtain ⟨u, τ3, e3, -, hF3⟩ := r_copyRow (σ := τ2) i19 i40
    have he3 : ¬ τ3.1 0 5 = 0 := by rw [hF3.1]; exact he
    refine ⟨τ3, τ3, τ3, _, e3, r_expectBad he3, by rw [nI_1]; exact hR.2 τ3 he3, r_closeBad he3, (hF.tr (hF3.rF (fun p t => by unfold lvr; omega))).tr (Rf_I (by omega)), fun s hs => (hs.lo rfl hF3.1).z (by decide) (by decide)⟩
  rw [nI_1] at rest ⊢
  unfold f_X4_readBrackets
  rw [gd_p CP.1, o1, obn_s, nI_1]
  rcases o7 with ⟨rfl, hil, hc, hl4, g1⟩ | ⟨rfl, er⟩
  · obtain ⟨x2, σ2, τ2, s1, s2, s3, s4, s5⟩ := hR.1 (by omega) σ1 τ1 (i + 1) g1
    rw [if_neg (by decide), s1, obn_s]
    rcases s5 with ⟨rfl, i', hi', g2, ev, fv⟩ | ⟨rfl, er⟩
    · obtain ⟨u3, τ3, e3, v3, hF3⟩ := r_copyRow (σ := τ2) i19 i40
      have g2' : GS c len last S E (l + 1) σ2 τ3 i' := g2.lo rfl (fun _ _ _ => rfl) hF3.1
      obtain ⟨x3, σ3, τ4, t1, t2, t3, t4, t5, t6, t7⟩ := sim_take hE g2' (s := 44) (by decide)
      have rf4 : Rf (l + 1) (l + 1) l τ τ4 := (((o4 _ _ _).tr (s4.up (by omega) (by omega) (by omega))).tr (hF3.rF (fun p t => by unfold lvr; omega))).tr (t4 _ _ _)
      rw [if_neg (by decide), t1, obn_s]
      rcases t7 with ⟨rfl, -, -, g3⟩ | ⟨rfl, er⟩
      · obtain ⟨⟨p1, p2, p3, p4⟩, m1, m2, m3, m4⟩ := CL l (by omega)
        obtain ⟨⟨q1, q2, q3, q4⟩, n1, n2, n3, n4⟩ := CL (l + 1) (by omega)
        have g5 : ¬ (nI l < 0 ∨ 5 ≤ (nI l).toNatClampNeg) := ge_pos (N := 5) (by decide) (by omega)
        have g6 : ¬ (nI (l + 1) < 0 ∨ 5 ≤ (nI (l + 1)).toNatClampNeg) := ge_pos (N := 5) (by decide) (by omega)
        obtain ⟨k1, k2, k3, k4, k5, k6, k7, k8, k9, k10, k11, k12⟩ := CP
        obtain ⟨u, σ4, c1, c2, c3⟩ := e_copyFrom (σ := σ3) m4 n1
        have cf4 : Cf (222 + 8 * l) σ3 σ4 := c3.cf (fun p t => by unfold at2 at t; omega)
        rw [if_neg (by decide), k8, k5, k12, k9, gd_p ⟨rfl, g5⟩, gd_p ⟨rfl, g6⟩, nI_clamp (by omega), nI_clamp (by omega), p4, q1, gd_p m4.1, c1, obn_s]
        have g4 : GS c len last S E (l + 1) σ4 τ4 (i' + 1) := g3.lo c3.1 (fun p h1 h2 => cf4.2 p (by omega) (by omega)) rfl
        obtain ⟨x5, σ5, τ5, w1, w2, w3, w4, w5⟩ := hR.1 (by omega) σ4 τ4 (i' + 1) g4
        have cf5 : Cf (222 + 8 * l) σ σ5 := ((((o3 _).tr (s3.up (by omega))).tr (t3 _)).tr cf4).tr (w3.up (by omega))
        have rf5 : Rf (l + 1) (l + 1) l τ τ5 := rf4.tr (w4.up (by omega) (by omega) (by omega))
        rw [w1, obn_s]
        rcases w5 with ⟨rfl, i2, hi2, g5', ev5, fv5⟩ | ⟨rfl, er⟩
        · obtain ⟨x6, σ6, τ6, y1, y2, y3, y4, y5, y6, y7⟩ := sim_close hE g5' (s := 93) (by decide)
          have va : val σ6 (222 + 8 * l) = rv τ6 (40 + l) := by
            rw [show val σ6 (222 + 8 * l) = val σ5 (222 + 8 * l) from by unfold val; rw [y5], val_cf w3 (by omega) (by omega), c2, show val σ3 (216 + 8 * (l + 1)) = val σ2 (216 + 8 * (l + 1)) from by unfold val; rw [t5], ev, ← v3]
            refine Eq.symm ?_
            rw [show rv τ6 (40 + l) = rv τ5 (40 + l) from rv_of (by rw [y6]), rv_rf w4 (by unfold lvr; omega)]
            exact rv_of (by rw [t6])
          have fa : fitN (rv τ6 (40 + l)) 12 := by
            have : rv τ6 (40 + l) = rv τ2 (19 + (l + 1)) := by
              rw [show rv τ6 (40 + l) = rv τ5 (40 + l) from rv_of (by rw [y6]), rv_rf w4 (by unfold lvr; omega), ← v3]
              exact rv_of (by rw [t6])
            rw [this]; exact fv
          rw [if_neg (by decide), y1, obn_s]
          rcases y7 with ⟨rfl, g7⟩ | ⟨rfl, er⟩
          · rw [if_neg (by decide)]
            refine ⟨1, σ6, τ1, τ2, τ3, τ4, τ5, τ6, rfl, o2, s2, e3, t2, w2, y2, cf5.tr (y3 _), rf5.tr (y4 _ _ _), Or.inl ⟨rfl, hl4, i2 + 1, by omega, g7, va, fa, ?_, ?_⟩⟩
            · rw [show val σ6 (216 + 8 * (l + 1)) = val σ5 (216 + 8 * (l + 1)) from by unfold val; rw [y5], ev5]
              exact (rv_of (by rw [y6])).symm
            · rw [show rv τ6 (19 + (l + 1)) = rv τ5 (19 + (l + 1)) from rv_of (by rw [y6])]; exact fv5
          · rw [if_pos rfl]
            exact ⟨0, σ6, τ1, τ2, τ3, τ4, τ5, τ6, rfl, o2, s2, e3, t2, w2, y2, cf5.tr (y3 _), rf5.tr (y4 _ _ _), Or.inr ⟨rfl, er⟩⟩
        · rw [if_pos rfl]
          exact ⟨0, σ5, τ1, τ2, τ3, τ4, τ5, _, rfl, o2, s2, e3, t2, w2, r_closeBad er.2.1, cf5, rf5.tr (Rf_I (by omega)), Or.inr ⟨rfl, er.z (by decide) (by decide)⟩⟩
      · rw [if_pos rfl]
        exact ⟨0, σ3, τ1, τ2, τ3, τ4, τ4, _, rfl, o2, s2, e3, t2, hR.2 τ4 er.2.1, r_closeBad er.2.1, (((o3 _).tr (s3.up (by omega))).tr (t3 _)), rf4.tr (Rf_I (by omega)), Or.inr ⟨rfl, er.z (by decide) (by decide)⟩⟩
    · rw [if_pos rfl]
      obtain ⟨τ3, τ4, τ5, τ', z1, z2, z3, z4, z5, z6⟩ := rest τ2 er.2.1 ((o4 _ _ _).tr (s4.up (by omega) (by omega) (by omega)))
      exact ⟨0, σ2, τ1, τ2, τ3, τ4, τ5, τ', rfl, o2, s2, z1, z2, z3, z4, (o3 _).tr (s3.up (by omega)), z5, Or.inr ⟨rfl, z6 _ er⟩⟩
  · rw [if_pos rfl]
    obtain ⟨τ3, τ4, τ5, τ', z1, z2, z3, z4, z5, z6⟩ := rest τ1 er.2.1 (o4 _ _ _)
    exact ⟨0, σ1, τ1, τ1, τ3, τ4, τ5, τ', rfl, o2, hR.2 τ1 er.2.1, z1, z2, z3, z4, o3 _, z5, Or.inr ⟨rfl, z6 _ er⟩⟩
theorem isA200 : isA 200 := isA_200
/-- composing what brackets have read, on both sides -/
theorem sim_named {rc : Nat → Int32 → St → Option (Int32 × St)} {rr : Nat → Int32 → St → Option (Unit × St)} {m : Nat} (hE : TkE c len last S E) (hl : l ≤ 4) (hR : SimR c len last S E (l + 1) rc rr) (h : GS c len last S E l σ τ i) (hm : m < 8) (hd : df (τ.1 3 0) (nI m)) (hv : val σ (220 + 8 * l) = dv τ 3 m) (hf : fitN (dv τ 3 m) 12) (start : Int32) :
    ∃ x σ' τ', (if σ.1 178 8 = (91 : Int32) then (obn (f_X4_readBrackets rc 177 (nI l) σ) fun x90 σ89 => if x90 = 0 then (some ((0 : Int32), σ89)) else (gd ((kC 215).1 = 3 ∧ ¬ (nI l < 0 ∨ (kC 215).2 ≤ l)) <| gd ((kC 212).1 = 3 ∧ ¬ ((nI l + (1 : Int32)) < 0 ∨ (kC 212).2 ≤ (nI l + (1 : Int32)).toNatClampNeg)) <| gd (kC 200 = (0, 0)) <| obn (f_X0_composeModels 200 (220 + 8 * l) (220 + 8 * l) (rC 215 l) (rC 212 (nI l + (1 : Int32)).toNatClampNeg) σ89) fun x96 σ95 => if x96 = 0 then (obn (f_X4_fail 177 (-5 : Int32) σ95) fun x99 σ98 => if x99 = 0 then (some ((0 : Int32), σ98)) else (some ((1 : Int32), σ98))) else (some ((1 : Int32), σ95)))) else (some ((1 : Int32), σ))) = some (x, σ') ∧ f_X7_readNamed rr 0 (nI l) start (nI m) τ = some ((), τ') ∧ Cf (220 + 8 * l) σ σ' ∧ Rf (l + 1) (l + 1) l τ τ' ∧ ((x = 1 ∧ ∃ i', i ≤ i' ∧ GS c len last S E l σ' τ' i' ∧ val σ' (220 + 8 * l) = rv τ' (33 + l) ∧ fitN (rv τ' (33 + l)) 12) ∨ (x = 0 ∧ ErrS σ' τ')) := by
  have hi := h.1.2.2.2.1
  obtain ⟨⟨p1, p2, p3, p4⟩, m1, m2, m3, m4⟩ := CL l (by omega)
  obtain ⟨r1, r2, r3, r4, r5, r6, r7, r8, r9, r10⟩ := RL0
  obtain ⟨v1, v2, v3, v4, w1, w2, w3, w4⟩ := RLv l (by omega)
  obtain ⟨v1', -, -, -, w1', -⟩ := RLv (l + 1) (by omega)
  have g33 : ¬ (nI l < 0 ∨ 6 ≤ (nI l).toNatClampNeg) := ge_pos (N := 6) (by decide) (by omega)
  have g34 : ¬ (nI (l + 1) < 0 ∨ 6 ≤ (nI (l + 1)).toNatClampNeg) := ge_pos (N := 6) (by decide) (by omega)
  have hB4 : GS c len last S E l σ (sI τ 0 4 (nI (S i))) i := h.r4 hE
  unfold f_X7_readNamed
  simp only [bnd_s]
  rw [gd_p R0, R3.1, r_isDefined R3.2, obn_s, bI_1 hd, if_neg (show ¬ (1 : Int32) = 0 by decide), gd_p R0, r_isGood h.2.1.2.1, obn_s, if_neg (show ¬ (1 : Int32) = 0 by decide), r_next hE hi h.2.1, obn_s, h.1.2.2.2.2.2.2.2, r1, r3, r4, r5, r6, r8, r9]
  by_cases hc : c (S i) = 91
  · rw [if_pos hc, if_pos hc]
    obtain ⟨x, σ1, τ1, τ2, τ3, τ4, τ5, τ6, b1, b2, b3, b4, b5, b6, b7, b8, b9, b10⟩ := sim_brackets hE hl hR hB4
    rw [nI_1] at b3 b6
    rw [b1, obn_s, b2, obn_s, nI_1, b3, obn_s, gd_p (show (6, 6).1 = 6 ∧ ¬ (nI (l + 1) < 0 ∨ (6, 6).2 ≤ (nI (l + 1)).toNatClampNeg) from ⟨rfl, g34⟩), gd_p (show (6, 6).1 = 6 ∧ ¬ (nI l < 0 ∨ (6, 6).2 ≤ (nI l).toNatClampNeg) from ⟨rfl, g33⟩), nI_clamp (n := l) (by omega), nI_clamp (n := l + 1) (by omega), v1', v4, b4, obn_s, b5, obn_s, b6, obn_s, b7, obn_s]
    have rf6 : Rf (l + 1) (l + 1) l τ τ6 := (Rf_I (Or.inl rfl)).tr b9
    rcases b10 with ⟨rfl, hl4, i', hi', g, va, fa, vs, fs⟩ | ⟨rfl, er⟩
    · obtain ⟨⟨q1, q2, q3, q4⟩, n1, n2, n3, n4⟩ := CL (l + 1) (by omega)
      have c5 : ¬ (nI l < 0 ∨ 5 ≤ l) := by
        have := ge_pos (N := 5) (k := l) (by decide) (by omega); rw [nI_clamp (by omega)] at this; exact this
      have c6 : ¬ (nI (l + 1) < 0 ∨ 5 ≤ l + 1) := by
        have := ge_pos (N := 5) (k := l + 1) (by decide) (by omega); rw [nI_clamp (by omega)] at this; exact this
      obtain ⟨k1, k2, k3, k4, k5, k6, k7, k8, k9, k10, k11, k12⟩ := CP
      have hv1 : val σ1 (220 + 8 * l) = dv τ 3 m := by rw [val_cf b8 (by omega) (by omega)]; exact hv
      obtain ⟨xc, σ2, ec, hcmp, hCf⟩ := e_composeModels (σ := σ1) isA200 m3 m3 m4 n1 (by omega) (by omega) (by omega) (by omega) (by omega) (by omega)
      rw [hv1, va, vs] at hcmp
      obtain ⟨u, τ7, et, hdv, hF7⟩ := r_take (σ := τ6) R3.2 r10 hm
      have ed : dv τ6 3 m = dv τ 3 m := by unfold dv; funext k; by_cases hk : k < 12; rw [if_pos hk, if_pos hk, rf6.1 3 _ (by decide)]; rw [if_neg hk, if_neg hk]
      rw [ed] at hdv
      have e40 : rv τ7 (40 + l) = rv τ6 (40 + l) := hF7.r1 (by omega)
      have e20 : rv τ7 (19 + (l + 1)) = rv τ6 (19 + (l + 1)) := hF7.r1 (by omega)
      obtain ⟨xr, τ8, er, -, hcr, hRf⟩ := r_compositionOf (σ := τ7) (p := 46) (a := 40 + l) (b := 19 + (l + 1)) (to := 33 + l) ⟨r10, by decide, by decide, by decide⟩ ⟨w4, by omega, by omega, by omega⟩ ⟨w1', by omega, by omega, by omega⟩ w3 (by rw [hdv]; exact hf) (by rw [e40]; exact fa) (by rw [e20]; exact fs)
      rw [hdv, e40, e20] at hcr
      have cf2 : Cf (220 + 8 * l) σ σ2 := (b8.up (by omega)).tr (hCf.cf (fun p t => by
        rcases t with t | t
        · unfold atP at t; omega
        · unfold at2 at t; omega))
      have rf8 : Rf (l + 1) (l + 1) l τ τ8 := (rf6.tr (hF7.rF (fun p t => by unfold lvr; omega))).tr (hRf.rF (fun p t => by
        rcases t with t | t
        · unfold atQ at t; unfold lvr; omega
        · unfold lvr; omega))
      have g8 : GS c len last S E l σ2 τ8 i' := g.lo hCf.1 (fun p h1 h2 => hCf.2 p (fun t => by
        rcases t with t | t
        · unfold atP at t; omega
        · unfold at2 at t; omega)) (hRf.1.trans hF7.1)
      rw [if_neg (show ¬ (1 : Int32) = 0 by decide), k12, k9, gd_p ⟨rfl, c5⟩, gd_p ⟨rfl, c6⟩, p4, q1, gd_p isA200.1, ec, obn_s, r_isGood g.2.1.2.1, obn_s, if_neg (show ¬ (1 : Int32) = 0 by decide), et, obn_s, gd_p (show (6, 6).1 = 6 ∧ ¬ (nI l < 0 ∨ (6, 6).2 ≤ l) from ⟨rfl, by rw [nI_clamp (by omega)] at g33; exact g33⟩), v3, er, obn_s]
      rcases hcmp with ⟨v, hvv, rfl, hv2⟩ | ⟨hvv, rfl⟩
      · rcases hcr with ⟨v', hv', rfl, hv3⟩ | ⟨hv', -⟩
        · rw [hvv] at hv'
          obtain rfl := Option.some.inj hv'
          rw [if_neg (show ¬ (1 : Int32) = 0 by decide), if_pos rfl, gd_p R0, sim_accept hE g8, obn_s]
          have g9 := g8.r4 hE
          refine ⟨1, σ2, _, rfl, rfl, cf2, rf8.tr (Rf_I (Or.inl rfl)), Or.inl ⟨rfl, i', by omega, g9, ?_, ?_⟩⟩
          · rw [hv2, ← hv3]; rfl
          · have : rv (sI τ8 0 4 (nI (S i'))) (33 + l) = v := hv3
            rw [this]; exact compV_fit hvv
        · rw [hvv] at hv'; cases hv'
      · rcases hcr with ⟨v', hv', -⟩ | ⟨-, hne⟩
        · rw [hvv] at hv'; cases hv'
        · obtain ⟨f1, f2⟩ := sim_refuse hE g8
          rw [if_pos rfl, e_fail, obn_s, if_pos rfl, if_neg hne, gd_p R0, f1, obn_s]
          exact ⟨0, _, _, rfl, rfl, cf2.tr Cf_e, rf8.tr Rf_3, Or.inr ⟨rfl, f2⟩⟩
    · rw [if_pos rfl, r_isBad er.2.1, obn_s, if_pos rfl]
      exact ⟨0, σ1, τ6, rfl, rfl, b8.up (by omega), rf6, Or.inr ⟨rfl, er⟩⟩
  · rw [if_neg hc, if_neg hc, gd_p ⟨rfl, g33⟩, nI_clamp (n := l) (by omega), v3]
    obtain ⟨u, τ7, et, hdv, hF7⟩ := r_take (σ := sI τ 0 4 (nI (S i))) R3.2 w3 hm
    have ed : dv (sI τ 0 4 (nI (S i))) 3 m = dv τ 3 m := by unfold dv; simp only [sI_1, show ¬ ((3 : Nat) = 0) from by decide, false_and, if_false]
    rw [ed] at hdv
    rw [et, obn_s]
    refine ⟨1, σ, τ7, rfl, rfl, Cf.rf, (Rf_I (Or.inl rfl)).tr (hF7.rF (fun p t => by unfold lvr; omega)), Or.inl ⟨rfl, i, Nat.le_refl _, hB4.lo rfl (fun _ _ _ => rfl) hF7.1, ?_, ?_⟩⟩
    · rw [hv, hdv]
    · rw [hdv]; exact hf
end FAC
