/-! STATEMENTS AND THE WHOLE TEXT -/
section SETUP
variable {σ σ' τ τ' : St} {c : Nat → Int32} {len last : Nat} {S E : Nat → Nat} {i : Nat}
theorem C216 : rC 212 0 = 216 ∧ isM 216 ∧ isM 218 := by decide +kernel
theorem widen_rv {r : Nat} {a : Int64} : rv (sJ (sJ τ r 10 (τ.2 r 10 - a)) r 11 ((sJ τ r 10 (τ.2 r 10 - a)).2 r 11 + a)) r = widV (rv τ r) a := by
  rw [rv_J (k := 11) (by decide), rv_J (k := 10) (by decide), rv_at (show 10 < 12 by decide), rv_at (show 11 < 12 by decide), rv_J (k := 10) (by decide), setV_ne (show (11 : Nat) ≠ 10 by decide)]
  rfl
/-- the reference: what follows the sum of a statement, up to the semicolon -/
def unc (τ : St) (K : St → Option (Unit × St)) : Option (Unit × St) := obn (f_X7_next 0 τ) fun x35 σ34 => if x35 = (35 : Int32) then (obn (f_X7_number 0 (0 : Int32) (100000 : Int32) (sI σ34 0 4 ((σ34.1 0 4) + (1 : Int32)))) fun x39 σ38 => gd ((kR 18).1 = 6 ∧ ¬ ((0 : Int32) < 0 ∨ (kR 18).2 ≤ (0 : Int32).toNatClampNeg)) <| gd ((kR 19).1 = 2 ∧ ¬ ((10 : Int32) < 0 ∨ (kR 19).2 ≤ (10 : Int32).toNatClampNeg)) <| gd ((kR 19).1 = 2 ∧ ¬ ((11 : Int32) < 0 ∨ (kR 19).2 ≤ (11 : Int32).toNatClampNeg)) <| obn (f_X7_isGood 0 (sJ (sJ σ38 19 (10 : Int32).toNatClampNeg ((σ38.2 19 (10 : Int32).toNatClampNeg) - x39.toInt64)) 19 (11 : Int32).toNatClampNeg (((sJ σ38 19 (10 : Int32).toNatClampNeg ((σ38.2 19 (10 : Int32).toNatClampNeg) - x39.toInt64)).2 19 (11 : Int32).toNatClampNeg) + x39.toInt64))) fun x47 σ46 => if x47 = 0 then (K σ46) else (obn (f_X7_isSmall 19 σ46) fun x50 σ49 => obn (f_X7_refuse 0 x50 σ49) fun _ σ52 => K σ52)) else (K σ34)
theorem sim_unc (hE : TkE c len last S E) (h : GS c len last S E 0 σ τ i) (hv : val σ 216 = rv τ 19) (hf : fitN (rv τ 19) 12) :
    ∃ x σ' τ', f_X4_readUncertainty 177 σ = some (x, σ') ∧ (∀ K, unc τ K = K τ') ∧ Cf 216 σ σ' ∧ Rf 0 0 0 τ τ' ∧ ((x = 1 ∧ ∃ i', i ≤ i' ∧ GS c len last S E 0 σ' τ' i' ∧ val σ' 216 = rv τ' 19 ∧ fitN (rv τ' 19) 12) ∨ (x = 0 ∧ ErrS σ' τ')) := by
  have hi := h.1.2.2.2.1
  obtain ⟨k1, k2, k3, k4, k5, k6, k7, k8, k9, k10, k11, k12⟩ := CP
  obtain ⟨r1, r2, r3, r4, r5, r6, r7, r8, r9, r10⟩ := RL0
  have i19 : isR 19 := (RLv 0 (by decide)).2.2.2.2.1
  have g6 : (6, 6).1 = 6 ∧ ¬ ((0 : Int32) < 0 ∨ (6, 6).2 ≤ (0 : Int32).toNatClampNeg) := by decide
  have g5 : (3, 5).1 = 3 ∧ ¬ ((0 : Int32) < 0 ∨ (3, 5).2 ≤ (0 : Int32).toNatClampNeg) := by decide
  have hfirst : σ.1 178 8 = c (S i) := h.1.2.2.2.2.2.2.2
  have e40 : (sI τ 0 4 (nI (S i))).1 0 4 = nI (S i) := by rw [sI_1, if_pos ⟨rfl, rfl⟩]
  unfold f_X4_readUncertainty unc
  rw [gd_p k1, k2, gd_p C178.1, hfirst, r_next hE hi h.2.1]
  by_cases hc : c (S i) = 35
  · obtain ⟨σ1, a1, a2, a3, hil⟩ := h.sign hE (s := 35) (by decide) hc
    have tc := a2.1
    have hi1 := tc.2.2.2.1
    have rf1 : Rf 0 0 0 τ (sI τ 0 4 (nI (S i + 1))) := Rf_I (Or.inl rfl)
    rw [if_pos hc, a1, obn_s]
    -- the reference behind the number
    have tail : ∀ (K : St → Option (Unit × St)) (v : Int32) τ2, f_X7_number 0 0 100000 (sI τ 0 4 (nI (S i + 1))) = some (v, τ2) → (obn (some (c (S i), sI τ 0 4 (nI (S i)))) fun x35 σ34 => if x35 = (35 : Int32) then (obn (f_X7_number 0 (0 : Int32) (100000 : Int32) (sI σ34 0 4 ((σ34.1 0 4) + (1 : Int32)))) fun x39 σ38 => gd ((kR 18).1 = 6 ∧ ¬ ((0 : Int32) < 0 ∨ (kR 18).2 ≤ (0 : Int32).toNatClampNeg)) <| gd ((kR 19).1 = 2 ∧ ¬ ((10 : Int32) < 0 ∨ (kR 19).2 ≤ (10 : Int32).toNatClampNeg)) <| gd ((kR 19).1 = 2 ∧ ¬ ((11 : Int32) < 0 ∨ (kR 19).2 ≤ (11 : Int32).toNatClampNeg)) <| obn (f_X7_isGood 0 (sJ (sJ σ38 19 (10 : Int32).toNatClampNeg ((σ38.2 19 (10 : Int32).toNatClampNeg) - x39.toInt64)) 19 (11 : Int32).toNatClampNeg (((sJ σ38 19 (10 : Int32).toNatClampNeg ((σ38.2 19 (10 : Int32).toNatClampNeg) - x39.toInt64)).2 19 (11 : Int32).toNatClampNeg) + x39.toInt64))) fun x47 σ46 => if x47 = 0 then (K σ46) else (obn (f_X7_isSmall 19 σ46) fun x50 σ49 => obn (f_X7_refuse 0 x50 σ49) fun _ σ52 => K σ52)) else (K σ34)) = (obn (f_X7_isGood 0 (sJ (sJ τ2 19 10 (τ2.2 19 10 - v.toInt64)) 19 11 ((sJ τ2 19 10 (τ2.2 19 10 - v.toInt64)).2 19 11 + v.toInt64))) fun x47 σ46 => if x47 = 0 then (K σ46) else (obn (f_X7_isSmall 19 σ46) fun x50 σ49 => obn (f_X7_refuse 0 x50 σ49) fun _ σ52 => K σ52)) := by
      intro K v τ2 e
      rw [obn_s, if_pos hc, e40, nI_1, sI_two, e, obn_s, r6, gd_p g6, gd_p (r_gd10 i19), gd_p (r_gd11 i19), n10, n11]
    unfold f_X4_checkNumber
    rw [gd_p k1, k2, gd_p C178.1, e_isNumber hE tc, obn_s]
    by_cases hd : kd (c (S (i + 1))) = 1
    · have hil1 := kd1_lt hE hi1 hd
      obtain ⟨m, hm, em⟩ := nu_ok hE hil1 hd (E (i + 1) - S (i + 1)) (Nat.le_refl _)
      have en := r_number_ok hE hi1 a2.2.1 hd
      have eN : f_X5_number 178 σ1 = some (nI m, σ1) := by rw [e_number hE tc, em]
      rw [em] at en
      rw [bI_1 hd, if_neg (show ¬ (1 : Int32) = 0 by decide), eN, obn_s]
      by_cases hle : nI m ≤ 100000
      · rw [if_pos hle] at en
        obtain ⟨u, σ2, b1, b2, b3⟩ := e_widen (σ := σ1) (a := (nI m).toInt64) C216.2.1
        have g1 : GS c len last S E 0 σ2 (sI (sI (sI τ 0 4 (nI (S i + 1))) 0 4 (nI (S (i + 1)))) 0 17 (nI (S (i + 1)))) (i + 1) := by
          have g := a2.r4 hE
          exact GS.lo (σ := σ1) (τ := sI (sI (sI τ 0 4 (nI (S i + 1))) 0 4 (nI (S (i + 1)))) 0 17 (nI (S (i + 1)))) ⟨g.1, g.2.1.z (by decide) (by decide) (by decide), by rw [sI_1, if_neg (by decide)]; exact g.2.2.1, by rw [sd_z3]; exact g.2.2.2⟩ b3.1 (fun p h1 h2 => b3.2 p (fun t => by unfold at2 at t; omega)) rfl
        obtain ⟨σ3, d1, d2, d3⟩ := g1.adv hE hil1
        generalize eτ : sI (sI (sI (sI τ 0 4 (nI (S i + 1))) 0 4 (nI (S (i + 1)))) 0 17 (nI (S (i + 1)))) 0 4 (nI (E (i + 1))) = τ2 at en d2
        have rf2 : Rf 0 0 0 τ τ2 := by rw [← eτ]; exact ((rf1.tr (Rf_I (Or.inl rfl))).tr (Rf_I (by omega))).tr (Rf_I (Or.inl rfl))
        have hr2 : rv τ2 19 = rv τ 19 := by rw [← eτ]; rfl
        have hv2 : val σ3 216 = widV (rv τ 19) (nI m).toInt64 := by
          rw [show val σ3 216 = val σ2 216 from by unfold val; rw [d3.2], b2, show val σ1 216 = val σ 216 from by unfold val; rw [a3.2], hv]; rfl
        have hw : rv (sJ (sJ τ2 19 10 (τ2.2 19 10 - (nI m).toInt64)) 19 11 ((sJ τ2 19 10 (τ2.2 19 10 - (nI m).toInt64)).2 19 11 + (nI m).toInt64)) 19 = widV (rv τ 19) (nI m).toInt64 := by rw [widen_rv, hr2]
        have tl := fun K => tail K _ _ en
        generalize eτ3 : sJ (sJ τ2 19 10 (τ2.2 19 10 - (nI m).toInt64)) 19 11 ((sJ τ2 19 10 (τ2.2 19 10 - (nI m).toInt64)).2 19 11 + (nI m).toInt64) = τ3 at hw tl
        have hF3 : Fr (fun p => p = 19) τ2 τ3 := by rw [← eτ3]; exact (Fr_J (S := fun p => p = 19) rfl).tr (Fr_J rfl)
        have g3 : GS c len last S E 0 σ3 τ3 (i + 1 + 1) := d2.lo rfl (fun _ _ _ => rfl) hF3.1
        have rf3 : Rf 0 0 0 τ τ3 := rf2.tr (hF3.rF (fun p t => by unfold lvr; omega))
        have cf3 : Cf 216 σ σ3 := (a3.cf.tr (b3.cf (fun p t => by unfold at2 at t; omega))).tr d3.cf
        rw [if_pos hle, obn_s, if_neg (show ¬ (1 : Int32) = 0 by decide), k5, k9, gd_p g5, eN, obn_s, n00, C216.1, gd_p C216.2.1.1, b1, obn_s, d1, obn_s, e_fits C216.2.1, obn_s, hv2]
        have tl2 : ∀ K : St → Option (Unit × St), (obn (f_X7_isGood 0 τ3) fun x47 σ46 => if x47 = 0 then (K σ46) else (obn (f_X7_isSmall 19 σ46) fun x50 σ49 => obn (f_X7_refuse 0 x50 σ49) fun _ σ52 => K σ52)) = (obn (f_X7_refuse 0 (bI (fitN (widV (rv τ 19) (nI m).toInt64) 12)) τ3) fun _ σ52 => K σ52) := fun K => by
          rw [r_isGood g3.2.1.2.1, obn_s, if_neg (show ¬ (1 : Int32) = 0 by decide), r_isSmall i19, obn_s, hw]
        by_cases hfit : fitN (widV (rv τ 19) (nI m).toInt64) 12
        · rw [bI_1 hfit, if_neg (show ¬ (1 : Int32) = 0 by decide)]
          refine ⟨1, σ3, sI τ3 0 4 (nI (S (i + 1 + 1))), rfl, fun K => ?_, cf3, rf3.tr (Rf_I (Or.inl rfl)), Or.inl ⟨rfl, i + 1 + 1, by omega, g3.r4 hE, ?_, ?_⟩⟩
          · refine (tl K).trans ?_
            rw [tl2 K, bI_1 hfit, sim_accept hE g3, obn_s]
          · rw [hv2, ← hw]; rfl
          · have : rv (sI τ3 0 4 (nI (S (i + 1 + 1)))) 19 = widV (rv τ 19) (nI m).toInt64 := hw
            rw [this]; exact hfit
        · obtain ⟨z1, z2⟩ := sim_refuse hE g3
          rw [bI_0 hfit, if_pos (show (0 : Int32) = 0 from rfl), e_fail, obn_s, if_pos (show (0 : Int32) = 0 from rfl)]
          refine ⟨0, _, _, rfl, fun K => ?_, cf3.tr Cf_e, rf3.tr Rf_3, Or.inr ⟨rfl, z2⟩⟩
          refine (tl K).trans ?_
          rw [tl2 K, bI_0 hfit, z1, obn_s]
      · rw [if_neg hle] at en
        have tl := fun K => tail K _ _ en
        generalize eτ : sI (sI (sI (sI (sI (sI τ 0 4 (nI (S i + 1))) 0 4 (nI (S (i + 1)))) 0 17 (nI (S (i + 1)))) 0 4 (nI (E (i + 1)))) 0 5 (-3)) 0 6 (nI (S (i + 1))) = τ2 at tl
        have rf2 : Rf 0 0 0 τ τ2 := by rw [← eτ]; exact ((((rf1.tr (Rf_I (Or.inl rfl))).tr (Rf_I (by omega))).tr (Rf_I (Or.inl rfl))).tr (Rf_I (by omega))).tr (Rf_I (by omega))
        have er : ErrS (sI σ1 177 7 (-3)) τ2 := by
          rw [← eτ]
          refine ⟨?_, ?_, ?_⟩
          · rw [sI_1, if_pos ⟨rfl, rfl⟩, sI_1, if_neg (by decide), sI_1, if_pos ⟨rfl, rfl⟩]
          · rw [sI_1, if_neg (by decide), sI_1, if_pos ⟨rfl, rfl⟩]; decide
          · rw [sI_1, if_neg (by decide), sI_1, if_pos ⟨rfl, rfl⟩]; exact tc.2.2.2.2.2.1
        generalize eτ3 : sJ (sJ τ2 19 10 (τ2.2 19 10 - (nI m).toInt64)) 19 11 ((sJ τ2 19 10 (τ2.2 19 10 - (nI m).toInt64)).2 19 11 + (nI m).toInt64) = τ3 at tl
        have hF3 : Fr (fun p => p = 19) τ2 τ3 := by rw [← eτ3]; exact (Fr_J (S := fun p => p = 19) rfl).tr (Fr_J rfl)
        have er3 : ErrS (sI σ1 177 7 (-3)) τ3 := er.lo rfl hF3.1
        rw [if_neg hle, e_fail, obn_s, if_pos (show (0 : Int32) = 0 from rfl), obn_s, if_pos (show (0 : Int32) = 0 from rfl)]
        refine ⟨0, _, τ3, rfl, fun K => ?_, a3.cf.tr Cf_e, rf2.tr (hF3.rF (fun p t => by unfold lvr; omega)), Or.inr ⟨rfl, er3⟩⟩
        rw [tl K, r_isBad er3.2.1, obn_s, if_pos (show (0 : Int32) = 0 from rfl)]
    · have en := r_number_no hE hi1 a2.2.1 hd
      have tl := fun K => tail K _ _ en
      generalize eτ : sI (sI (sI (sI τ 0 4 (nI (S i + 1))) 0 4 (nI (S (i + 1)))) 0 5 (-2)) 0 6 (nI (S (i + 1))) = τ2 at tl
      have rf2 : Rf 0 0 0 τ τ2 := by rw [← eτ]; exact ((rf1.tr (Rf_I (Or.inl rfl))).tr (Rf_I (by omega))).tr (Rf_I (by omega))
      have er : ErrS (sI σ1 177 7 (-2)) τ2 := by
        rw [← eτ]
        refine ⟨?_, ?_, ?_⟩
        · rw [sI_1, if_pos ⟨rfl, rfl⟩, sI_1, if_neg (by decide), sI_1, if_pos ⟨rfl, rfl⟩]
        · rw [sI_1, if_neg (by decide), sI_1, if_pos ⟨rfl, rfl⟩]; decide
        · rw [sI_1, if_neg (by decide), sI_1, if_pos ⟨rfl, rfl⟩]; exact tc.2.2.2.2.2.1
      generalize eτ3 : sJ (sJ τ2 19 10 (τ2.2 19 10 - (0 : Int32).toInt64)) 19 11 ((sJ τ2 19 10 (τ2.2 19 10 - (0 : Int32).toInt64)).2 19 11 + (0 : Int32).toInt64) = τ3 at tl
      have hF3 : Fr (fun p => p = 19) τ2 τ3 := by rw [← eτ3]; exact (Fr_J (S := fun p => p = 19) rfl).tr (Fr_J rfl)
      have er3 : ErrS (sI σ1 177 7 (-2)) τ3 := er.lo rfl hF3.1
      rw [bI_0 hd, if_pos (show (0 : Int32) = 0 from rfl), e_fail, obn_s, gd_p (Or.inl rfl), obn_s, if_pos (show (0 : Int32) = 0 from rfl)]
      refine ⟨0, _, τ3, rfl, fun K => ?_, a3.cf.tr Cf_e, rf2.tr (hF3.rF (fun p t => by unfold lvr; omega)), Or.inr ⟨rfl, er3⟩⟩
      rw [tl K, r_isBad er3.2.1, obn_s, if_pos (show (0 : Int32) = 0 from rfl)]
  · rw [if_neg hc]
    refine ⟨1, σ, sI τ 0 4 (nI (S i)), rfl, fun K => ?_, Cf.rf, Rf_I (Or.inl rfl), Or.inl ⟨rfl, i, Nat.le_refl _, h.r4 hE, hv, hf⟩⟩
    rw [obn_s, if_neg hc]
/-- what a statement leaves alone -/
def Cs (σ σ' : St) : Prop := (∀ p j, p ≠ 182 → ¬ (p = 177 ∧ j = 7) → ¬ (p = 178 ∧ 5 ≤ j ∧ j ≤ 8) → σ'.1 p j = σ.1 p j) ∧ ∀ p, p < 182 → σ'.2 p = σ.2 p
def Rs (τ τ' : St) : Prop := (∀ p j, p ≠ 0 → p ≠ 3 → τ'.1 p j = τ.1 p j) ∧ (∀ j, j ≠ 4 → j ≠ 5 → j ≠ 6 → j ≠ 17 → j ≠ 23 → τ'.1 0 j = τ.1 0 j)
theorem Cs.tr {σ1 σ2 : St} (h : Cs σ σ1) (h' : Cs σ1 σ2) : Cs σ σ2 := ⟨fun p j h1 h2 h3 => (h'.1 p j h1 h2 h3).trans (h.1 p j h1 h2 h3), fun p h1 => (h'.2 p h1).trans (h.2 p h1)⟩
theorem Rs.tr {τ1 τ2 : St} (h : Rs τ τ1) (h' : Rs τ1 τ2) : Rs τ τ2 := ⟨fun p j h1 h2 => (h'.1 p j h1 h2).trans (h.1 p j h1 h2), fun j h1 h2 h3 h4 h5 => (h'.2 j h1 h2 h3 h4 h5).trans (h.2 j h1 h2 h3 h4 h5)⟩
theorem Cf.cs (h : Cf 216 σ σ') : Cs σ σ' := ⟨fun p j _ h2 h3 => h.1 p j h2 h3, fun p hp => h.2 p (by omega) (by omega)⟩
theorem Rf.rs {a b d : Nat} (h : Rf a b d τ τ') : Rs τ τ' := ⟨fun p j h1 _ => h.1 p j h1, h.2.1⟩
/-- a statement, with what goes before and behind it -/
theorem sim_stmt (hE : TkE c len last S E) (h : GS c len last S E 0 σ τ i) (hil : i < last) :
    ∃ (x : Int32) (σ' τ' : St), (∀ P : St → Option (Int32 × St), (obn (f_X5_name 178 σ) fun x24 σ23 => if 0 ≤ x24 then (obn (f_X5_advance 178 σ23) fun _ σ26 => obn (f_X4_take 177 (61 : Int32) σ26) fun x29 σ28 => if x29 = 0 then (some ((0 : Int32), σ28)) else (obn (f_X4_readSum_RS 8 177 (0 : Int32) σ28) fun x32 σ31 => if x32 = 0 then (some ((0 : Int32), σ31)) else (obn (f_X4_readUncertainty 177 σ31) fun x35 σ34 => if x35 = 0 then (some ((0 : Int32), σ34)) else (obn (f_X4_take 177 (59 : Int32) σ34) fun x38 σ37 => if x38 = 0 then (some ((0 : Int32), σ37)) else (gd ((kC 212).1 = 3 ∧ ¬ ((0 : Int32) < 0 ∨ (kC 212).2 ≤ (0 : Int32).toNatClampNeg)) <| gd (kC 182 = (0, 3)) <| obn (f_X3_define 182 x24 (rC 212 (0 : Int32).toNatClampNeg) σ37) fun _ σ42 => P σ42))))) else (gd (kC 177 = (0, 4)) <| obn (f_X4_fail 177 (-2 : Int32) σ23) fun x47 σ46 => gd (x47 = 0 ∨ x47 = 1) <| some (x47, σ46))) = if x = 0 then some (0, σ') else P σ') ∧ f_X7_statement 0 τ = some ((), τ') ∧ Cs σ σ' ∧ Rs τ τ' ∧ ((x = 1 ∧ ∃ i', i < i' ∧ GS c len last S E 0 σ' τ' i') ∨ (x = 0 ∧ ErrS σ' τ')) := by
  have hi : i ≤ last := by omega
  obtain ⟨k1, k2, k3, k4, k5, k6, k7, k8, k9, k10, k11, k12⟩ := CP
  obtain ⟨r1, r2, r3, r4, r5, r6, r7, r8, r9, r10⟩ := RL0
  obtain ⟨v1, -, -, -, i19, -⟩ := RLv 0 (by decide)
  have v1 : rR 18 0 = 19 := v1
  have i19 : isR 19 := i19
  have g6 : (6, 6).1 = 6 ∧ ¬ ((0 : Int32) < 0 ∨ (6, 6).2 ≤ (0 : Int32).toNatClampNeg) := by decide
  have g5 : (3, 5).1 = 3 ∧ ¬ ((0 : Int32) < 0 ∨ (3, 5).2 ≤ (0 : Int32).toNatClampNeg) := by decide
  have hRS : SimR c len last S E 0 (f_X4_readSum_RS 8) (f_X7_sum_RS 8) := sim_RS hE 5 8 0 (by decide) (by decide)
  have hbad : ∀ τ : St, ¬ τ.1 0 5 = 0 → f_X7_sum_RS 8 0 0 τ = some ((), τ) := fun τ he => hRS.2 τ he
  have g0 := h.r4 hE
  have e40 : (sI τ 0 4 (nI (S i))).1 0 4 = nI (S i) := by rw [sI_1, if_pos ⟨rfl, rfl⟩]
  -- the reference, when something is wrong already
  have bad : ∀ (m : Int32) τ1, ¬ τ1.1 0 5 = 0 → (gd (kR 0 = (0, 7)) <| obn (f_X7_expect 0 (59 : Int32) τ1) fun _ σ26 => obn (f_X7_isGood 0 σ26) fun x29 σ28 => if x29 = 0 then (some ((), σ28)) else (gd ((6, 6).1 = 6 ∧ ¬ ((0 : Int32) < 0 ∨ (6, 6).2 ≤ (0 : Int32).toNatClampNeg)) <| obn (f_X7_give (rR 18 (0 : Int32).toNatClampNeg) 3 m σ28) fun _ σ32 => some ((), σ32))) = some ((), τ1) := by
    intro m τ1 he
    rw [gd_p R0, r_expectBad he, obn_s, r_isBad he, obn_s, if_pos (show (0 : Int32) = 0 from rfl)]
  unfold f_X7_statement
  simp only [bnd_s]
  rw [e_name hE h.1, gd_p R0, r_next hE hi h.2.1, obn_s, r_takeName hE hi g0.2.1, sI_two, sI_two, e40, r1, r6, R3.1]
  rcases nm_cases hE hi with hnm | ⟨m, hm, hnm, -, hEi, -, -⟩
  · rw [hnm, if_pos (show (-1 : Int32) = -1 from rfl), obn_s, if_pos (show (-1 : Int32) = -1 from rfl), r_report g0.2.1.2.1, obn_s]
    have er : ErrS (sI σ 177 7 (-2)) (sI (sI (sI τ 0 4 (nI (S i))) 0 5 (-2)) 0 6 (nI (S i))) := by
      refine ⟨?_, ?_, ?_⟩
      · rw [sI_1, if_pos ⟨rfl, rfl⟩, sI_1, if_neg (by decide), sI_1, if_pos ⟨rfl, rfl⟩]
      · rw [sI_1, if_neg (by decide), sI_1, if_pos ⟨rfl, rfl⟩]; decide
      · rw [sI_1, if_neg (by decide), sI_1, if_pos ⟨rfl, rfl⟩]; exact h.1.2.2.2.2.2.1
    refine ⟨0, sI σ 177 7 (-2), _, fun P => ?_, ?_, (Cf_e (b := 216)).cs, (Rf_3 (a := 0) (d := 0) (e := 0)).rs, Or.inr ⟨rfl, er⟩⟩
    · rw [obn_s, if_neg (show ¬ (0 : Int32) ≤ -1 by decide), gd_p k1, e_fail, obn_s, gd_p (Or.inl rfl), if_pos (show (0 : Int32) = 0 from rfl)]
    · rw [gd_p R0, r_expectBad er.2.1, obn_s, hbad _ er.2.1, obn_s, r_isBad er.2.1, obn_s, if_pos (show (0 : Int32) = 0 from rfl)]
      exact bad _ _ er.2.1
  · have hne : ¬ nI m = -1 := fun t => by
      have := congrArg Int32.toInt t
      rw [nI_toInt (by omega)] at this
      have z : (-1 : Int32).toInt = -1 := by decide
      omega
    obtain ⟨σ1, a1, a2, a3⟩ := g0.adv hE hil
    rw [sI_two] at a2
    obtain ⟨x2, σ2, τ2, b1, b2, b3, b4, b5, b6, b7⟩ := sim_take hE a2 (s := 61) (by decide)
    have cs2 : Cs σ σ2 := (a3.cf (b := 216)).cs.tr (b3 216).cs
    have rs2 : Rs τ τ2 := (Rf_I (a := 0) (d := 0) (e := 0) (Or.inl rfl)).rs.tr (b4 0 0 0).rs
    rw [hnm, if_neg hne, obn_s, if_neg hne, gd_p R0, b2, obn_s]
    rcases b7 with ⟨rfl, -, -, g2⟩ | ⟨rfl, er⟩
    · obtain ⟨x3, σ3, τ3, d1, d2, d3, d4, d5⟩ := hRS.1 (by decide) σ2 τ2 _ g2
      have d1 : f_X4_readSum_RS 8 177 0 σ2 = some (x3, σ3) := d1
      have d2 : f_X7_sum_RS 8 0 0 τ2 = some ((), τ3) := d2
      have cs3 : Cs σ σ3 := cs2.tr d3.cs
      have rs3 : Rs τ τ3 := rs2.tr d4.rs
      rw [d2, obn_s]
      rcases d5 with ⟨rfl, i3, hi3, g3, ev, fv⟩ | ⟨rfl, er⟩
      · obtain ⟨x4, σ4, τ4, f1, f2, f3, f4, f5⟩ := sim_unc hE g3 ev fv
        have cs4 : Cs σ σ4 := cs3.tr f3.cs
        have rs4 : Rs τ τ4 := rs3.tr f4.rs
        rw [r_isGood g3.2.1.2.1, obn_s, if_neg (show ¬ (1 : Int32) = 0 by decide)]
        have f2' := f2 (fun σ21 => gd (kR 0 = (0, 7)) <| obn (f_X7_expect 0 (59 : Int32) σ21) fun _ σ26 => obn (f_X7_isGood 0 σ26) fun x29 σ28 => if x29 = 0 then (some ((), σ28)) else (gd ((kR 18).1 = 6 ∧ ¬ ((0 : Int32) < 0 ∨ (kR 18).2 ≤ (0 : Int32).toNatClampNeg)) <| obn (f_X7_give (rR 18 (0 : Int32).toNatClampNeg) 3 (nI m) σ28) fun _ σ32 => some ((), σ32)))
        unfold unc at f2'
        rw [r6] at f2'
        rw [n00, v1] at f2' ⊢
        rw [f2']
        rcases f5 with ⟨rfl, i4, hi4, g4, ev4, fv4⟩ | ⟨rfl, er⟩
        · obtain ⟨x5, σ5, τ5, q1, q2, q3, q4, q5, q6, q7⟩ := sim_take hE g4 (s := 59) (by decide)
          have cs5 : Cs σ σ5 := cs4.tr (q3 216).cs
          have rs5 : Rs τ τ5 := rs4.tr (q4 0 0 0).rs
          rw [gd_p R0, q2, obn_s]
          rcases q7 with ⟨rfl, -, -, g5'⟩ | ⟨rfl, er⟩
          · have ev5 : val σ5 216 = rv τ5 19 := by
              rw [show val σ5 216 = val σ4 216 from by unfold val; rw [q5], ev4]; exact (rv_of (by rw [q6])).symm
            have fv5 : fitN (rv τ5 19) 12 := by rw [show rv τ5 19 = rv τ4 19 from rv_of (by rw [q6])]; exact fv4
            obtain ⟨u6, σ6, w1, w2, w3⟩ := e_define (σ := σ5) isS_182 C216.2.1 hm (by unfold atS; decide) (by unfold atS; decide)
            obtain ⟨u7, τ6, y1, y2, y3⟩ := r_give (σ := τ5) (i := m) R3.2 i19 hm fv5
            have cs6 : Cs σ5 σ6 := ⟨fun p j hp _ _ => by rw [w3.1 p hp], fun p hp => w3.2 p (fun t => by unfold atS at t; omega)⟩
            have rs6 : Rs τ5 τ6 := ⟨fun p j _ hp => by rw [y3.1 p hp], fun j _ _ _ _ _ => by rw [y3.1 0 (by decide)]⟩
            rw [r_isGood g5'.2.1.2.1, obn_s, if_neg (show ¬ (1 : Int32) = 0 by decide), gd_p (show (6, 6).1 = 6 ∧ ¬ ((0 : Int32) < 0 ∨ (6, 6).2 ≤ 0) from by decide), y1, obn_s]
            refine ⟨1, σ6, τ6, fun P => ?_, rfl, cs5.tr cs6, rs5.tr rs6, Or.inl ⟨rfl, i4 + 1, by omega, ?_, ?_, ?_, ?_⟩⟩
            · rw [obn_s, if_pos (show (0 : Int32) ≤ nI m from nI_pos' (by omega)), a1, obn_s, b1, obn_s, if_neg (show ¬ (1 : Int32) = 0 by decide), d1, obn_s, if_neg (show ¬ (1 : Int32) = 0 by decide), f1, obn_s, if_neg (show ¬ (1 : Int32) = 0 by decide), q1, obn_s, if_neg (show ¬ (1 : Int32) = 0 by decide), k9, gd_p (show (3, 5).1 = 3 ∧ ¬ ((0 : Int32) < 0 ∨ (3, 5).2 ≤ 0) from by decide), gd_p isS_182.k, C216.1, w1, obn_s, if_neg (show ¬ (1 : Int32) = 0 by decide)]
            · have t := g5'.1
              unfold TC at t ⊢
              rw [w3.1 178 (by decide), w3.1 179 (by decide), w3.1 180 (by decide), w3.1 181 (by decide)]
              exact t
            · have t := g5'.2.1
              unfold TR Txb at t ⊢
              rw [y3.1 0 (by decide), y3.1 1 (by decide)]
              exact t
            · rw [y3.1 0 (by decide)]; exact g5'.2.2.1
            · rw [w2, y2, ev5]; exact g5'.2.2.2.set hm fv5
          · rw [r_isBad er.2.1, obn_s, if_pos (show (0 : Int32) = 0 from rfl)]
            refine ⟨0, σ5, τ5, fun P => ?_, rfl, cs5, rs5, Or.inr ⟨rfl, er⟩⟩
            rw [obn_s, if_pos (show (0 : Int32) ≤ nI m from nI_pos' (by omega)), a1, obn_s, b1, obn_s, if_neg (show ¬ (1 : Int32) = 0 by decide), d1, obn_s, if_neg (show ¬ (1 : Int32) = 0 by decide), f1, obn_s, if_neg (show ¬ (1 : Int32) = 0 by decide), q1, obn_s, if_pos (show (0 : Int32) = 0 from rfl), if_pos (show (0 : Int32) = 0 from rfl)]
        · have bd := bad (nI m) τ4 er.2.1
          rw [n00, v1] at bd
          rw [bd]
          refine ⟨0, σ4, τ4, fun P => ?_, rfl, cs4, rs4, Or.inr ⟨rfl, er⟩⟩
          rw [obn_s, if_pos (show (0 : Int32) ≤ nI m from nI_pos' (by omega)), a1, obn_s, b1, obn_s, if_neg (show ¬ (1 : Int32) = 0 by decide), d1, obn_s, if_neg (show ¬ (1 : Int32) = 0 by decide), f1, obn_s, if_pos (show (0 : Int32) = 0 from rfl), if_pos (show (0 : Int32) = 0 from rfl)]
      · rw [r_isBad er.2.1, obn_s, if_pos (show (0 : Int32) = 0 from rfl), bad (nI m) τ3 er.2.1]
        refine ⟨0, σ3, τ3, fun P => ?_, rfl, cs3, rs3, Or.inr ⟨rfl, er⟩⟩
        rw [obn_s, if_pos (show (0 : Int32) ≤ nI m from nI_pos' (by omega)), a1, obn_s, b1, obn_s, if_neg (show ¬ (1 : Int32) = 0 by decide), d1, obn_s, if_pos (show (0 : Int32) = 0 from rfl), if_pos (show (0 : Int32) = 0 from rfl)]
    · rw [hbad _ er.2.1, obn_s, r_isBad er.2.1, obn_s, if_pos (show (0 : Int32) = 0 from rfl), bad (nI m) τ2 er.2.1]
      refine ⟨0, σ2, τ2, fun P => ?_, rfl, cs2, rs2, Or.inr ⟨rfl, er⟩⟩
      rw [obn_s, if_pos (show (0 : Int32) ≤ nI m from nI_pos' (by omega)), a1, obn_s, b1, obn_s, if_pos (show (0 : Int32) = 0 from rfl), if_pos (show (0 : Int32) = 0 from rfl)]
end SETUP
