section COMP
variable {q p a b qa : Nat} {σ : St}
theorem e_terms {K : Nat → Nat → Nat → St → Option (Int32 × St)} {Q : Int32 → St → Prop} {σ0 : St} {vp va vb : V} (hA : isA qa) (hp : isM p) (ha : isM a) (hb : isM b) (p2 : p ≠ qa + 2) (p4 : p ≠ qa + 4) (a2 : a ≠ qa + 2) (a4 : a ≠ qa + 4) (b2 : b ≠ qa + 2) (b4 : b ≠ qa + 4) (evp : val σ0 p = vp) (eva : val σ0 a = va) (evb : val σ0 b = vb)
    (hK : ∀ w σ1, cmpS vp va vb 10 0 (val σ (qa + 4)) = some w → Fr (atP qa) σ0 σ1 → val σ1 (qa + 4) = w → Tr (K qa q p σ1) Q)
    (hN : ∀ σ1, cmpS vp va vb 10 0 (val σ (qa + 4)) = none → Fr (atP qa) σ0 σ1 → Q 0 σ1) (hF : Fr (atP qa) σ0 σ) : Tr (f_X0_composeModels_L28 K FU qa q p a b 0 σ) Q := by
  have op := hp.offA hA p2 p4
  have key : ∀ n k (σ1 : St), k ≤ 10 → 10 < n + k → Fr (atP qa) σ0 σ1 → cmpS vp va vb (10 - k) k (val σ1 (qa + 4)) = cmpS vp va vb 10 0 (val σ (qa + 4)) → Tr (f_X0_composeModels_L28 K n qa q p a b (nI k) σ1) Q := by
    intro n
    induction n with
    | zero => intro k σ1 h1 h2; omega
    | succ n ih =>
      intro k σ1 h1 h2 hF1 h5
      rw [f_X0_composeModels_L28]
      refine Tr.ite (fun h => ?_) (fun h => ?_)
      · rw [ten_le (by omega)] at h
        have : k = 10 := by omega
        subst this
        rw [Nat.sub_self, cmpS] at h5
        exact hK _ σ1 h5.symm hF1 rfl
      · rw [ten_le (by omega)] at h
        have hk : k < 10 := by omega
        have e1 : 10 - k = (10 - (k + 1)) + 1 := by omega
        rw [e1, cmpS] at h5
        have ek : σ1.2 (p + 1) k = vp k := by rw [val_c hk, hF1.vl op.1 op.2, evp]
        rw [hp.2.1, hp.2.2, nI_clamp (by omega), ek]
        refine Tr.gd hp.1 (Tr.gd ⟨rfl, fun t => t.elim (nI_pos (by omega)) (Nat.not_le.mpr hk)⟩ (Tr.ite (fun g => ?_) (fun g => ?_)))
        · rw [if_pos g] at h5
          refine Tr.bnd ?_
          rw [nI_1]
          exact ih (k + 1) σ1 (by omega) (by omega) hF1 h5
        · rw [if_neg g] at h5
          rw [hA.2.2.2.1.1]
          refine Tr.gd hA.1 (Tr.gd hA.2.2.2.2.1.1 (Tr.obn ((e_becomeConstant hA.2.2.2.2.1).mono (fun _ σ2 h6 => ?_))))
          obtain ⟨h6, h7⟩ := h6
          have hF2 : Fr (atP qa) σ0 σ2 := hF1.tr (h7.weak (fun x t => by unfold at2 at t; unfold atP; omega))
          have hw2 : val σ2 (qa + 4) = val σ1 (qa + 4) := h7.vl2 hA.2.2.2.2.1 hA.2.2.2.2.2.1 (by omega)
          refine e_facs (σ0 := σ0) (va := va) (vb := vb) hk hA ha hb a2 a4 b2 b4 eva evb (fun u σ3 g1 hF3 g2 g3 => ?_) (fun σ3 g1 hF3 => ?_) hF2
          · rw [h6] at g1
            rw [g1] at h5
            have hw3 : val σ3 (qa + 4) = val σ1 (qa + 4) := by
              rw [← hw2]; unfold val; rw [g3 _ (Or.inl rfl), g3 _ (Or.inr rfl)]
            refine Tr.gd hA.1 ?_
            rw [hA.2.2.2.1.1, hA.2.2.2.1.2.1]
            refine Tr.obn ((e_addModels hA.2.2.2.2.2.1 hA.2.2.2.2.2.1 hA.2.2.2.2.1).mono (fun r σ4 h8 => ?_))
            obtain ⟨h8, h9, h10⟩ := h8
            rw [hw3, g2] at h8
            have hF4 : Fr (atP qa) σ0 σ4 := hF3.tr (h10.weak (fun x t => by unfold at2 at t; unfold atP; omega))
            by_cases hf : fitN (val σ4 (qa + 4)) 12
            · rw [h9, bI_1 hf, if_neg (by decide)]
              rw [h8] at hf
              dsimp only at h5
              rw [if_pos hf, ← h8] at h5
              refine Tr.bnd ?_
              rw [nI_1]
              exact ih (k + 1) σ4 (by omega) (by omega) hF4 h5
            · rw [h9, bI_0 hf, if_pos rfl]
              rw [h8] at hf
              dsimp only at h5
              rw [if_neg hf] at h5
              exact Tr.ret (hN σ4 h5.symm hF4)
          · rw [h6] at g1
            rw [g1] at h5
            exact hN σ3 h5.symm hF3
  exact key FU 0 σ (by decide) (by decide) hF rfl
def atC (qa q : Nat) : Nat → Prop := fun x => atP qa x ∨ at2 q x
theorem e_composeModels (hA : isA qa) (hq : isM q) (hp : isM p) (ha : isM a) (hb : isM b) (p2 : p ≠ qa + 2) (p4 : p ≠ qa + 4) (a2 : a ≠ qa + 2) (a4 : a ≠ qa + 4) (b2 : b ≠ qa + 2) (b4 : b ≠ qa + 4) :
    Tr (f_X0_composeModels qa q p a b σ) (fun r σ' => ((∃ v, compV (val σ p) (val σ a) (val σ b) = some v ∧ r = 1 ∧ val σ' q = v) ∨ (compV (val σ p) (val σ a) (val σ b) = none ∧ r = 0)) ∧ Fr (atC qa q) σ σ') := by
  have op := hp.offA hA p2 p4
  have w : ∀ {σ1 : St}, Fr (atP qa) σ σ1 → Fr (atC qa q) σ σ1 := fun h => h.weak (fun _ t => Or.inl t)
  unfold f_X0_composeModels compV
  refine Tr.gd ha.1 ?_
  rw [e_staysInSquare ha, obn_s]
  by_cases s1 : sq (val σ a)
  · rw [bI_1 s1, if_neg (by decide)]
    refine Tr.gd hb.1 ?_
    rw [e_staysInSquare hb, obn_s]
    by_cases s2 : sq (val σ b)
    · rw [bI_1 s2, if_neg (by decide), if_pos ⟨s1, s2⟩]
      rw [hA.2.2.2.1.2.1]
      refine Tr.gd hA.1 (Tr.gd hA.2.2.2.2.2.1.1 (Tr.obn ((e_becomeConstant hA.2.2.2.2.2.1).mono (fun _ σ1 h6 => ?_))))
      obtain ⟨h6, h7⟩ := h6
      have hF1 : Fr (atP qa) σ σ1 := h7.weak (fun x t => by unfold at2 at t; unfold atP; omega)
      unfold cmpV
      refine e_terms (σ0 := σ) (vp := val σ p) (va := val σ a) (vb := val σ b) hA hp ha hb p2 p4 a2 a4 b2 b4 rfl rfl rfl (fun u σ2 g1 hF2 g2 => ?_) (fun σ2 g1 hF2 => ?_) hF1
      · rw [h6] at g1
        rw [g1]
        rw [hA.2.2.2.1.2.1]
        refine Tr.gd hA.1 (Tr.gd hA.2.2.2.2.2.1.1 (Tr.gd hp.1 (Tr.bnd (Tr.bnd (Tr.gd hq.1 (Tr.obn ((e_copyFrom hq hA.2.2.2.2.2.1).mono (fun _ σ3 h8 => ?_))))))))
        obtain ⟨h8, h9⟩ := h8
        have ep1 : σ2.2 p = σ.2 p := hF2.2 p op.1
        rw [val_hi', val_lo', sJ_at, if_neg (by omega), sJ_at, if_neg (fun t => p4 t.1), ep1, val_lo, val_hi, val_lo, val_hi, g2] at h8
        have h8 : val σ3 q = cmpE (val σ p) u := h8
        rw [e_fits hq, obn_s]
        have hF3 : Fr (atC qa q) σ σ3 := ((w ((hF2.tr (Fr_J (by unfold atP; omega))).tr (Fr_J (by unfold atP; omega))))).tr (h9.weak (fun _ t => Or.inr t))
        refine Tr.gd (by unfold bI; split <;> simp) (Tr.ret ⟨?_, hF3⟩)
        dsimp only
        by_cases hf : fitN (cmpE (val σ p) u) 12
        · rw [if_pos hf, h8, bI_1 hf]
          exact Or.inl ⟨_, rfl, rfl, rfl⟩
        · rw [if_neg hf, h8, bI_0 hf]
          exact Or.inr ⟨rfl, rfl⟩
      · rw [h6] at g1
        rw [g1]
        exact ⟨Or.inr ⟨rfl, rfl⟩, w hF2⟩
    · rw [bI_0 s2, if_pos rfl, if_neg (fun z => s2 z.2)]
      exact Tr.ret ⟨Or.inr ⟨rfl, rfl⟩, Fr.rf⟩
  · rw [bI_0 s1, if_pos rfl, if_neg (fun z => s1 z.1)]
    exact Tr.ret ⟨Or.inr ⟨rfl, rfl⟩, Fr.rf⟩
end COMP
