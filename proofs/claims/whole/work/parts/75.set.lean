/-! CALLS THAT CHANGE: what settles -/
section SET
variable {σ τ ρ : St}
theorem mp_at {i : Nat} (hi : i < 8) : atS 1 (mp i) ∧ atS 1 (mp i + 1) := by unfold atS mp; omega
theorem go_unfit {xs : List Nat} {tl : Int32 → Int64} {σ1 τ1 : St} {i : Nat} {k : Int32} {S : Nat → Prop} {g : Int32 → Int32} {KY : Int32 → St → Option (Int32 × St)} (h : Rel σ τ) (hC : Fr (fun x => 165 ≤ x) σ σ1) (hR : Fr S (sI τ 0 0 0) τ1) (hk : k ≠ 0) (hx : ∀ s, wrp xs tl (some (.inl 4, s)) ρ = some (k, s, ρ)) :
    Go (wst (wrp xs tl (obx (f_X6_settle 0 (nI i) 0 σ1) (fun ex s => some (Sum.inl ex, s)) fun x s => some (Sum.inr (g x), s)) ρ) (gd (kR 0 = (0, 7)) <| obn (f_X7_fails 0 1 k τ1) fun x20 σ19 => if x20 = 0 then KY x20 σ19 else (some ((0 : Int32), σ19))) tl) := by
  have t0 : τ1.1 0 0 = 0 := by rw [hR.1, z00]
  unfold f_X6_settle
  rw [if_pos rfl, obX_l, gd_p R0, r_fails1 t0 hk, obn_s, if_neg (by decide)]
  exact go_no (P := fun s => s = σ1) (Q := fun t => t = sI τ1 0 0 k) hx hk (Tr.ret ⟨rfl, rfl⟩) (Tr.ret ⟨z00, rfl⟩) (fun s t h1 h2 => by rw [h1, h2]; exact h.q (hC.fg (fun _ t => t)) (fun p j hp => by rw [sI_1, if_neg hp, hR.1, sI_1, if_neg hp]))
/-- one model of the data changes, on both sides -/
theorem Rel.set {σ' τ' : St} {i : Nat} {v : V} (h : Rel σ τ) (hi : i < 8) (hv : fitN v 12) (hC : Fg (fun p => p = 1) (fun p => atS 1 p ∨ 165 ≤ p) σ σ') (hR : Tf τ τ') (e1 : sn σ' 1 = setS (sn σ 1) i v) (e2 : sd τ' 2 = setS (sd τ 2) i v) : Rel σ' τ' :=
  h.gen hC hR (by rw [e1, e2]; exact h.1.set hi hv)
theorem go_fit {xs : List Nat} {tl : Int32 → Int64} {σ1 τ1 : St} {v : V} {i : Nat} {k : Int32} {S : Nat → Prop} {g g' : Int32 → Int32} (h : Rel σ τ) (hi : i < 8) (hf : fitN v 12) (hC : Fr (fun x => 165 ≤ x) σ σ1) (hv : val σ1 256 = v) (hR : Fr S (sI τ 0 0 0) τ1) (hw : rv τ1 50 = v) (hg : g (v 11 - v 10).toInt32 = g' (v 11 - v 10).toInt32) :
    Go (wst (wrp xs tl (obx (f_X6_settle 0 (nI i) 1 σ1) (fun ex s => some (Sum.inl ex, s)) fun x s => some (Sum.inr (g x), s)) ρ) (gd (kR 0 = (0, 7)) <| obn (f_X7_fails 0 0 k τ1) fun x20 σ19 => if x20 = 0 then (gd (kR 0 = (0, 7)) <| obn (f_X7_becomes 0 (nI i) σ19) fun x24 σ23 => some (g' x24, σ23)) else (some ((0 : Int32), σ19))) tl) := by
  have t0 : τ1.1 0 0 = 0 := by rw [hR.1, z00]
  have h1 : Rel σ1 τ1 := h.q (hC.fg (fun _ t => t)) (fun p j hp => by rw [hR.1, sI_1, if_neg hp])
  obtain ⟨n, d, q1, q2, q3, q4, q5, -⟩ := h1.2.1
  rw [gd_p R0, r_fails0 t0, obn_s, if_pos rfl, gd_p R0]
  have hX : Tr (obx (f_X6_settle 0 (nI i) 1 σ1) (fun ex s => some (Sum.inl ex, s)) fun x s => some (Sum.inr (g x), s)) (fun r s => r = Sum.inr (g (v 11 - v 10).toInt32) ∧ ∃ σ2, RemC σ1 σ2 ∧ sn s 1 = setS (sn σ2 1) i v ∧ Fg (fun p => p = 1) (atS 1) σ2 s) := by
    unfold f_X6_settle
    rw [if_neg (by decide), C0.2.1, C0.2.2.1, C0.2.2.2.2.2]
    have body : Tr (gd (kC 0 = (0, 6)) <| gd (kC 19 = (0, 1)) <| obn (f_X1_remember 19 1 σ1) fun _ σ3 => gd (kC 1 = (0, 3)) <| obn (f_X3_define 1 (nI i) 256 σ3) fun _ σ6 => gd (kC 256 = (0, 2)) <| obn (f_X2_width 256 σ6) fun x10 σ9 => some ((Sum.inr x10 : Nat ⊕ Int32), σ9)) (fun r s => r = Sum.inr (v 11 - v 10).toInt32 ∧ ∃ σ2, RemC σ1 σ2 ∧ sn s 1 = setS (sn σ2 1) i v ∧ Fg (fun p => p = 1) (atS 1) σ2 s) := by
      refine Tr.gd C0.1 (Tr.gd C19.1 (Tr.obn ((e_remember q1 q2 q3 q4).mono (fun _ σ2 r => Tr.gd C1.1 (Tr.obn ((e_define isS_1 M256 hi (by unfold atS; decide) (by unfold atS; decide)).mono (fun _ σ3 r2 => Tr.gd M256.1 ?_)))))))
      obtain ⟨-, -, -, r4⟩ := r n d q1 q2 q3 q4
      have e2 : val σ2 256 = v := by rw [← hv]; exact r4.val (fun t => by unfold atS at t; omega) (fun t => by unfold atS at t; omega)
      have e3 : val σ3 256 = v := by rw [← e2]; exact r2.2.val (fun t => by unfold atS at t; omega) (fun t => by unfold atS at t; omega)
      rw [e_width M256, obn_s, e3]
      rw [e2] at r2
      exact Tr.ret ⟨rfl, σ2, r, r2.1, r2.2⟩
    obtain ⟨r, s, e, rfl, h2⟩ := body
    rw [e, obX_r]
    exact Tr.ret ⟨rfl, h2⟩
  have hY : Tr (obn (f_X7_becomes 0 (nI i) τ1) fun x24 σ23 => some (g' x24, σ23)) (fun b t => b = g' (v 11 - v 10).toInt32 ∧ t.1 0 0 = 0 ∧ ∃ τ2, RemR τ1 τ2 ∧ sd t 2 = setS (sd τ2 2) i v ∧ Fg (fun p => p = 2) (fun _ => False) τ2 t) := by
    unfold f_X7_becomes
    rw [R2.1, R50.1]
    refine Tr.obn (Tr.gd R0 (Tr.obn ((r_remember q2 q5).mono (fun _ τ2 r => ?_))))
    obtain ⟨-, r2, -, r4, -⟩ := r d q2 q5
    have e2 : rv τ2 50 = v := by rw [← hw]; exact rv_of (by rw [r4])
    refine Tr.obn ((r_give R2.2 R50.2 hi (by rw [e2]; exact hf)).mono (fun _ τ3 r5 => ?_))
    have e3 : rv τ3 50 = v := by rw [← e2]; exact rv_of (r5.2.2 50 (fun t => t))
    rw [gd_p (r_gd11 R50.2), gd_p (r_gd10 R50.2), n10, n11, rv_at (show 10 < 12 by decide), rv_at (show 11 < 12 by decide), e3]
    rw [e2] at r5
    exact Tr.ret (Tr.ret ⟨rfl, by rw [r5.2.1 0 (by decide), r2 0 (by decide), t0], τ2, r, r5.1, r5.2⟩)
  rw [hg] at hX
  refine go_ok hX hY ?_
  rintro s t ⟨σ2, c1, c2, c3⟩ ⟨τ2, d1, d2, d3⟩
  have hr := rem_rel h1 c1 d1
  exact hr.1.set hi hf (c3.weak (fun _ t => t) (fun _ t => Or.inl t)) (fun p j hp _ => by rw [d3.1 p hp]) c2 d2
theorem go_set {xs : List Nat} {tl : Int32 → Int64} {σ1 τ1 : St} {v : V} {i : Nat} {k : Int32} {S : Nat → Prop} {g g' : Int32 → Int32} (h : Rel σ τ) (hi : i < 8) (hC : Fr (fun x => 165 ≤ x) σ σ1) (hv : val σ1 256 = v) (hR : Fr S (sI τ 0 0 0) τ1) (hw : rv τ1 50 = v) (hk : k ≠ 0) (hx : ∀ s, wrp xs tl (some (.inl 4, s)) ρ = some (k, s, ρ)) (hg : fitN v 12 → g (v 11 - v 10).toInt32 = g' (v 11 - v 10).toInt32) :
    Go (wst (wrp xs tl (obx (f_X6_settle 0 (nI i) (bI (fitN v 12)) σ1) (fun ex s => some (Sum.inl ex, s)) fun x s => some (Sum.inr (g x), s)) ρ) (if bI (fitN v 12) = 0 then (gd (kR 0 = (0, 7)) <| obn (f_X7_fails 0 1 k τ1) fun x20 σ19 => if x20 = 0 then (gd (kR 0 = (0, 7)) <| obn (f_X7_becomes 0 (nI i) σ19) fun x24 σ23 => some (g' x24, σ23)) else (some ((0 : Int32), σ19))) else (gd (kR 0 = (0, 7)) <| obn (f_X7_fails 0 0 k τ1) fun x20 σ19 => if x20 = 0 then (gd (kR 0 = (0, 7)) <| obn (f_X7_becomes 0 (nI i) σ19) fun x24 σ23 => some (g' x24, σ23)) else (some ((0 : Int32), σ19)))) tl) := by
  by_cases hf : fitN v 12
  · rw [bI_1 hf, if_neg (by decide)]
    exact go_fit h hi hf hC hv hR hw (hg hf)
  · rw [bI_0 hf, if_pos rfl]
    exact go_unfit h hC hR hk hx
theorem at2_165 : ∀ p, at2 256 p → 165 ≤ p := fun p t => by unfold at2 at t; omega
theorem atA_165 : ∀ p, atA 165 256 p → 165 ≤ p := fun p t => by unfold atA at t; omega
theorem tt {S : Nat → Prop} {τ1 τ2 : St} (h : Fr S τ1 τ2) : Fr (fun _ => True) τ1 τ2 := h.weak (fun _ _ => trivial)
theorem go_add {a1 a2 a3 : Int32} (h : Rel σ τ) : Go (wst (f_L_add a1 a2 a3 σ ρ) (f_X7_add 0 a1 a2 a3 τ) Int32.toInt64) := by
  unfold f_L_add f_X6_add f_X7_add
  simp only [bnd_s]
  rw [gd_p R0]
  refine go_ix h (fun t ht et => go_pair h (fun i j τ1 hi hj _ _ hd hd2 e1 e2 hF => ?_))
  subst et
  obtain ⟨b, σ1, e, hv, rfl, hC⟩ := e_addModels (qa := 165) (σ := σ) M256 (M_mp hi) (M_mp hj)
  obtain ⟨c, τ2, e', hw, rfl, hR⟩ := r_add (σ := τ1) R47.2 R48.2 R50.2
  rw [(h.m hi hd).1, (h.m hj hd2).1] at hv
  rw [e1, e2] at hw
  rw [C0.2.2.2.1, C0.2.2.2.2.2, gd_p isA_165.1, e, obn_s, R47.1, R48.1, R50.1, e', obn_s, hv, hw]
  exact go_set (g := fun x => x) (g' := fun x => x) h ht (hC.weak at2_165) hv ((tt hF).tr (tt hR)) hw (by decide) w43 (fun _ => rfl)
theorem go_subtract {a1 a2 a3 : Int32} (h : Rel σ τ) : Go (wst (f_L_subtract a1 a2 a3 σ ρ) (f_X7_subtract 0 a1 a2 a3 τ) Int32.toInt64) := by
  unfold f_L_subtract f_X6_subtract f_X7_subtract
  simp only [bnd_s]
  rw [gd_p R0]
  refine go_ix h (fun t ht et => go_pair h (fun i j τ1 hi hj _ _ hd hd2 e1 e2 hF => ?_))
  subst et
  obtain ⟨b, σ1, e, hv, rfl, hC⟩ := e_subtractModels (qa := 165) (σ := σ) M256 (M_mp hi) (M_mp hj)
  obtain ⟨c, τ2, e', hw, rfl, hR⟩ := r_sub (σ := τ1) R47.2 R48.2 R50.2
  rw [(h.m hi hd).1, (h.m hj hd2).1] at hv
  rw [e1, e2] at hw
  rw [C0.2.2.2.1, C0.2.2.2.2.2, gd_p isA_165.1, e, obn_s, R47.1, R48.1, R50.1, e', obn_s, hv, hw]
  exact go_set (g := fun x => x) (g' := fun x => x) h ht (hC.weak at2_165) hv ((tt hF).tr (tt hR)) hw (by decide) w43 (fun _ => rfl)
theorem go_multiply {a1 a2 a3 : Int32} (h : Rel σ τ) : Go (wst (f_L_multiply a1 a2 a3 σ ρ) (f_X7_multiply 0 a1 a2 a3 τ) Int32.toInt64) := by
  unfold f_L_multiply f_X6_multiply f_X7_multiply
  simp only [bnd_s]
  rw [gd_p R0]
  refine go_ix h (fun t ht et => go_pair h (fun i j τ1 hi hj _ _ hd hd2 e1 e2 hF => ?_))
  subst et
  obtain ⟨b, σ1, e, hv, rfl, hC⟩ := e_multiplyModels (σ := σ) isA_165 M256 (M_mp hi) (M_mp hj)
  obtain ⟨c, τ2, e', hw, rfl, hR⟩ := r_productOf (σ := τ1) R47.2 R48.2 R50.2 (by decide) (by decide) (by rw [e1]; exact (h.m hi hd).2) (by rw [e2]; exact (h.m hj hd2).2)
  rw [mulV_W (fun j hj => val_12 hj), (h.m hi hd).1, (h.m hj hd2).1] at hv
  rw [e1, e2] at hw
  rw [C0.2.2.2.1, C0.2.2.2.2.2, gd_p isA_165.1, e, obn_s, R47.1, R48.1, R50.1, e', obn_s, hv, hw]
  exact go_set (g := fun x => x) (g' := fun x => x) h ht (hC.weak atA_165) hv ((tt hF).tr (tt hR)) hw (by decide) w43 (fun _ => rfl)
theorem go_compose {a1 a2 a3 a4 : Int32} (h : Rel σ τ) : Go (wst (f_L_compose a1 a2 a3 a4 σ ρ) (f_X7_compose 0 a1 a2 a3 a4 τ) Int32.toInt64) := by
  unfold f_L_compose f_X6_compose f_X7_compose
  simp only [bnd_s]
  rw [gd_p R0]
  refine go_ix h (fun t ht et => go_three h (fun i j k τ1 hi hj hk hd hd2 hd3 e1 e2 e3 hF => ?_))
  subst et
  obtain ⟨m1, f1⟩ := h.m hi hd
  obtain ⟨m2, f2⟩ := h.m hj hd2
  obtain ⟨m3, f3⟩ := h.m hk hd3
  obtain ⟨b, σ1, e, hb, hC⟩ := e_composeModels (σ := σ) isA_165 M256 (M_mp hi) (M_mp hj) (M_mp hk) (mp_A hi).1 (mp_A hi).2 (mp_A hj).1 (mp_A hj).2 (mp_A hk).1 (mp_A hk).2
  obtain ⟨c, τ2, e', hc0, hc, hR⟩ := r_compositionOf (σ := τ1) (to := 50) o47.2.2 o47.1 o47.2.1 R50.2 (by rw [e1]; exact f1) (by rw [e2]; exact f2) (by rw [e3]; exact f3)
  rw [m1, m2, m3] at hb
  rw [e1, e2, e3] at hc
  rw [C0.2.2.2.1, C0.2.2.2.2.2, gd_p isA_165.1, e, obn_s, R47.1, R48.1, R49.1, R50.1, e', obn_s]
  rcases hb with ⟨v, hv, rfl, hv1⟩ | ⟨hv, rfl⟩
  · rcases hc with ⟨v', hv', rfl, hv2⟩ | ⟨hv', -⟩
    · rw [hv] at hv'
      obtain rfl := Option.some.inj hv'
      have hf : fitN v 12 := by
        unfold compV at hv
        split at hv
        · unfold cmpV at hv
          split at hv
          · cases hv
          · split at hv
            · cases hv; assumption
            · cases hv
        · cases hv
      rw [if_pos rfl]
      exact go_fit (g := fun x => x) (g' := fun x => x) h ht hf (hC.weak atC_165) hv1 ((tt hF).tr (tt hR)) hv2 rfl
    · rw [hv] at hv'; cases hv'
  · rcases hc with ⟨v', hv', -⟩ | ⟨-, hne⟩
    · rw [hv] at hv'; cases hv'
    · rw [if_neg hne]
      exact go_unfit (g := fun x => x) h (hC.weak atC_165) ((tt hF).tr (tt hR)) (by decide) w43
theorem go_integrate {a1 a2 a3 : Int32} (h : Rel σ τ) : Go (wst (f_L_integrate a1 a2 a3 σ ρ) (f_X7_integrate 0 a1 a2 a3 τ) Int32.toInt64) := by
  unfold f_L_integrate f_X6_integrate f_X7_integrate
  simp only [bnd_s]
  rw [gd_p R0]
  refine go_ix h (fun t ht et => ?_)
  subst et
  have gm := go_model (σ := σ) (τ := τ) (ρ := ρ) (a := a2) (xs' := [3, 4]) (tl := Int32.toInt64) h (KX := fun q9 σ8 => obx (f_X6_requireZeroOrOne a3 σ8) (fun ex σ12 => some (Sum.inl ex, σ12)) fun _ σ12 => gd (kC (rC 0 2) = (0, 0)) <| obn (f_X0_integrateModel (rC 0 2) (rC 0 4) q9 a3 σ12) fun x17 σ16 => obx (f_X6_settle 0 (nI t) x17 σ16) (fun ex σ19 => some (Sum.inl ex, σ19)) fun x20 σ19 => some (Sum.inr x20, σ19))
    (KY := fun σ6 => obn (f_X7_in a3 (0 : Int32) (1 : Int32) σ6) fun x10 σ9 => if x10 = 0 then (gd (kR 0 = (0, 7)) <| obn (f_X7_fails 0 1 (3 : Int32) σ9) fun x22 σ21 => if x22 = 0 then (gd (kR 0 = (0, 7)) <| obn (f_X7_take (rR 0 8) a2 (rR 0 24) σ21) fun _ σ25 => obn (f_X7_integralOf 0 (rR 0 24) a3 (rR 0 27) σ25) fun x28 σ27 => if x28 = 0 then (gd (kR 0 = (0, 7)) <| obn (f_X7_fails 0 1 (4 : Int32) σ27) fun x38 σ37 => if x38 = 0 then (gd (kR 0 = (0, 7)) <| obn (f_X7_becomes 0 (nI t) σ37) fun x42 σ41 => some (x42, σ41)) else (some ((0 : Int32), σ37))) else (gd (kR 0 = (0, 7)) <| obn (f_X7_fails 0 0 (4 : Int32) σ27) fun x38 σ37 => if x38 = 0 then (gd (kR 0 = (0, 7)) <| obn (f_X7_becomes 0 (nI t) σ37) fun x42 σ41 => some (x42, σ41)) else (some ((0 : Int32), σ37)))) else (some ((0 : Int32), σ21))) else (gd (kR 0 = (0, 7)) <| obn (f_X7_fails 0 0 (3 : Int32) σ9) fun x22 σ21 => if x22 = 0 then (gd (kR 0 = (0, 7)) <| obn (f_X7_take (rR 0 8) a2 (rR 0 24) σ21) fun _ σ25 => obn (f_X7_integralOf 0 (rR 0 24) a3 (rR 0 27) σ25) fun x28 σ27 => if x28 = 0 then (gd (kR 0 = (0, 7)) <| obn (f_X7_fails 0 1 (4 : Int32) σ27) fun x38 σ37 => if x38 = 0 then (gd (kR 0 = (0, 7)) <| obn (f_X7_becomes 0 (nI t) σ37) fun x42 σ41 => some (x42, σ41)) else (some ((0 : Int32), σ37))) else (gd (kR 0 = (0, 7)) <| obn (f_X7_fails 0 0 (4 : Int32) σ27) fun x38 σ37 => if x38 = 0 then (gd (kR 0 = (0, 7)) <| obn (f_X7_becomes 0 (nI t) σ37) fun x42 σ41 => some (x42, σ41)) else (some ((0 : Int32), σ37)))) else (some ((0 : Int32), σ21))))
    (fun i hi ea hd => ?_)
  · rw [gd_p R0] at gm
    exact gm
  · subst ea
    obtain ⟨m1, f1⟩ := h.m hi hd
    have ok : ∀ v, (v = 0 ∨ v = 1) → Go (wst (wrp [1, 2, 3, 4] Int32.toInt64 (gd (kC (rC 0 2) = (0, 0)) <| obn (f_X0_integrateModel (rC 0 2) (rC 0 4) (mp i) v σ) fun x17 σ16 => obx (f_X6_settle 0 (nI t) x17 σ16) (fun ex σ19 => some (Sum.inl ex, σ19)) fun x20 σ19 => some (Sum.inr x20, σ19)) ρ) (gd (kR 0 = (0, 7)) <| obn (f_X7_take (rR 0 8) (nI i) (rR 0 24) (sI τ 0 0 0)) fun _ σ25 => obn (f_X7_integralOf 0 (rR 0 24) v (rR 0 27) σ25) fun x28 σ27 => if x28 = 0 then (gd (kR 0 = (0, 7)) <| obn (f_X7_fails 0 1 (4 : Int32) σ27) fun x38 σ37 => if x38 = 0 then (gd (kR 0 = (0, 7)) <| obn (f_X7_becomes 0 (nI t) σ37) fun x42 σ41 => some (x42, σ41)) else (some ((0 : Int32), σ37))) else (gd (kR 0 = (0, 7)) <| obn (f_X7_fails 0 0 (4 : Int32) σ27) fun x38 σ37 => if x38 = 0 then (gd (kR 0 = (0, 7)) <| obn (f_X7_becomes 0 (nI t) σ37) fun x42 σ41 => some (x42, σ41)) else (some ((0 : Int32), σ37)))) Int32.toInt64) := by
      intro v hv
      rw [C0.2.2.2.1, C0.2.2.2.2.2, gd_p isA_165.1, gd_p R0, R2.1, R47.1, R50.1]
      obtain ⟨b, σ1, e, hv1, rfl, hC⟩ := e_integrateModel (v := v) (σ := σ) isA_165 M256 (M_mp hi) (mp_A hi).2
      obtain ⟨u, τ1, e0, he0, hF⟩ := r_take (σ := sI τ 0 0 0) R2.2 R47.2 hi
      rw [dv_z] at he0
      obtain ⟨c, τ2, e', hw, rfl, hR⟩ := r_integralOf (σ := τ1) hv R47.2 (by decide) R50.2 (by rw [he0]; exact f1)
      rw [m1] at hv1
      rw [he0] at hw
      rw [e, obn_s, e0, obn_s, e', obn_s, hv1, hw]
      exact go_set (g := fun x => x) (g' := fun x => x) h ht (hC.weak (fun p t => t.elim (fun t => by unfold at2 at t; omega) (at2_165 p))) hv1 ((tt hF).tr (tt hR)) hw (by decide) w4 (fun _ => rfl)
    rcases zo_cases a3 with rfl | rfl | hb
    · rw [e_zo_0, obX_r, r_zo_0, obn_s, if_neg (by decide), gd_p R0, r_fails0 z00, obn_s, if_pos rfl]
      exact ok 0 (Or.inl rfl)
    · rw [e_zo_1, obX_r, r_zo_1, obn_s, if_neg (by decide), gd_p R0, r_fails0 z00, obn_s, if_pos rfl]
      exact ok 1 (Or.inr rfl)
    · rw [e_zo_bad hb, obX_l, r_zo_bad hb, obn_s, if_pos rfl, gd_p R0, r_fails1 z00 (by decide), obn_s, if_neg (by decide), sz0]
      exact go_thr h w3 (by decide)
end SET
