/-- lowestOf, as the class tells it -/
def lI (a b : Int32) : Int32 := if a = 0 ∧ b = 0 then 1 else if a &&& 1 = 0 ∧ b &&& 1 = 0 then 0 else -1
theorem e_lowestOf {a b : Int32} {σ : St} : f_X6_lowestOf a b σ = some (lI a b, σ) := by
  unfold f_X6_lowestOf lI
  rw [bnd_s]
  by_cases h1 : a = 0
  · rw [if_pos h1]
    by_cases h2 : b = 0
    · rw [if_pos h2, if_pos ⟨h1, h2⟩]
    · rw [if_neg h2, if_neg (fun z => h2 z.2)]
      dsimp only
      by_cases h3 : a &&& 1 = 0
      · rw [if_pos h3]
        by_cases h4 : b &&& 1 = 0
        · rw [if_pos h4, if_pos ⟨h3, h4⟩]
        · rw [if_neg h4, if_neg (fun z => h4 z.2)]
      · rw [if_neg h3, if_neg (fun z => h3 z.1)]
  · rw [if_neg h1, if_neg (fun z => h1 z.1)]
    dsimp only
    by_cases h3 : a &&& 1 = 0
    · rw [if_pos h3]
      by_cases h4 : b &&& 1 = 0
      · rw [if_pos h4, if_pos ⟨h3, h4⟩]
      · rw [if_neg h4, if_neg (fun z => h4 z.2)]
    · rw [if_neg h3, if_neg (fun z => h3 z.1)]
def gLo (P : Nat → Int64) (i j : Nat) : Int64 := if 3 < i + j then mnJ (P (i * 7 + j) * (lI (nI i) (nI j)).toInt64) (P (i * 7 + j)) else 0
def gHi (P : Nat → Int64) (i j : Nat) : Int64 := if 3 < i + j then mxJ (P (i * 7 + j) * (lI (nI i) (nI j)).toInt64) (P (i * 7 + j)) else 0
def tLo (P : Nat → Int64) : Int64 := sumN (fun i => sumN (gLo P i) (7 - i)) 7
def tHi (P : Nat → Int64) : Int64 := sumN (fun i => sumN (gHi P i) (7 - i)) 7
theorem ix7 : ∀ i, i < 7 → ∀ j, j < 7 → nI i * 7 + nI j = nI (i * 7 + j) := by decide
theorem j07 : ∀ i, i < 7 → mxI 0 (4 - nI i) = nI (4 - i) := by decide
theorem gLo_0 {P : Nat → Int64} {i : Nat} : sumN (gLo P i) (4 - i) = 0 := sumN_zero (fun j hj => by unfold gLo; rw [if_neg (by omega)])
theorem gHi_0 {P : Nat → Int64} {i : Nat} : sumN (gHi P i) (4 - i) = 0 := sumN_zero (fun j hj => by unfold gHi; rw [if_neg (by omega)])
theorem seven_le {k : Nat} (h : k < 2 ^ 31) : ((7 : Int32) ≤ nI k) ↔ 7 ≤ k := nI_leI (by decide) h
section MUL
variable {q p r qa : Nat} {σ : St}
theorem e_mulHigh {X : Nat → Int64} {K : Nat → Nat → Nat → Nat → St → Option (Int32 × St)} {Q : Int32 → St → Prop} (hA : isA qa) (hX : ∀ i, i < 49 → σ.2 (qa + 1) i = X i) (h0 : σ.2 qa 1 = 0 ∧ σ.2 qa 2 = 0)
    (hK : ∀ σ1 : St, Fr (fun a => a = qa) σ σ1 → σ1.2 qa 1 = tLo X → σ1.2 qa 2 = tHi X → Tr (K qa q p r σ1) Q) : Tr (f_X0_multiplyModels_L19 K FU qa q p r 0 σ) Q := by
  have inner : ∀ (K : Nat → Nat → Nat → Nat → Int32 → St → Option (Int32 × St)) (i : Nat) (A B : Int64), i < 7 →
      (∀ σ1 : St, Fr (fun a => a = qa) σ σ1 → σ1.2 qa 1 = A + sumN (gLo X i) (7 - i) → σ1.2 qa 2 = B + sumN (gHi X i) (7 - i) → Tr (K qa q p r (nI i) σ1) Q) →
      ∀ n j (σ1 : St), 4 - i ≤ j → j ≤ 7 - i → 7 < n + j → Fr (fun a => a = qa) σ σ1 → σ1.2 qa 1 = A + sumN (gLo X i) j → σ1.2 qa 2 = B + sumN (gHi X i) j → Tr (f_X0_multiplyModels_L36 K n qa q p r (nI i) (nI j) σ1) Q := by
    intro K i A B hi hK n
    induction n with
    | zero => intro j σ1 h1 h2 h3; omega
    | succ n ih =>
      intro j σ1 h1 h2 h3 hF h5 h6
      rw [f_X0_multiplyModels_L36, nI_add]
      refine Tr.ite (fun h => ?_) (fun h => ?_)
      · rw [seven_le (by omega)] at h
        have : j = 7 - i := by omega
        subst this
        exact hK σ1 hF h5 h6
      · rw [seven_le (by omega)] at h
        rw [hA.2.1, hA.2.2.1, ix7 i hi j (by omega), nI_clamp (by omega), e_lowestOf]
        have hx : σ1.2 (qa + 1) (i * 7 + j) = X (i * 7 + j) := by rw [hF.2 _ (by omega)]; exact hX _ (by omega)
        refine Tr.gd hA.1 (Tr.gd ⟨rfl, fun t => t.elim (nI_pos (by omega)) (Nat.not_le.mpr (by omega))⟩ (Tr.bnd ?_))
        rw [obn_s, hx]
        unfold f_X6_rangeLow f_X6_rangeHigh
        rw [obn_s]
        refine Tr.bnd ?_
        rw [obn_s]
        refine Tr.bnd (Tr.bnd ?_)
        rw [nI_1]
        refine ih (j + 1) _ (by omega) (by omega) (by omega) ((hF.tr (Fr_J rfl)).tr (Fr_J rfl)) ?_ ?_
        · rw [sJ_at, if_neg (by omega), sJ_at, if_pos ⟨rfl, rfl⟩, h5, sumN, Int64.add_assoc]
          congr 2
          unfold gLo
          rw [if_pos (by omega)]
        · rw [sJ_at, if_pos ⟨rfl, rfl⟩, sJ_at, if_neg (by omega), h6, sumN, Int64.add_assoc]
          congr 2
          unfold gHi
          rw [if_pos (by omega)]
  have outer : ∀ n i (σ1 : St), i ≤ 7 → 7 < n + i → Fr (fun a => a = qa) σ σ1 → σ1.2 qa 1 = sumN (fun i => sumN (gLo X i) (7 - i)) i → σ1.2 qa 2 = sumN (fun i => sumN (gHi X i) (7 - i)) i → Tr (f_X0_multiplyModels_L19 K n qa q p r (nI i) σ1) Q := by
    intro n
    induction n with
    | zero => intro i σ1 h1 h2; omega
    | succ n ih =>
      intro i σ1 h1 h2 hF h5 h6
      rw [f_X0_multiplyModels_L19]
      refine Tr.ite (fun h => ?_) (fun h => ?_)
      · rw [seven_le (by omega)] at h
        have : i = 7 := by omega
        subst this
        exact hK σ1 hF h5 h6
      · rw [seven_le (by omega)] at h
        refine Tr.bnd ?_
        rw [j07 i (by omega)]
        refine inner _ i (σ1.2 qa 1) (σ1.2 qa 2) (by omega) (fun σ2 hF2 h7 h8 => ?_) FU (4 - i) σ1 (Nat.le_refl _) (by omega) (by show 7 < 4096 + (4 - i); omega) hF (by rw [gLo_0, Int64.add_zero]) (by rw [gHi_0, Int64.add_zero])
        refine Tr.bnd ?_
        rw [nI_1]
        exact ih (i + 1) σ2 (by omega) (by omega) hF2 (by rw [h7, h5]; rfl) (by rw [h8, h6]; rfl)
  exact outer FU 0 σ (by decide) (by decide) Fr.rf h0.1 h0.2
/-- the product of two intervals, as the class adds it -/
def ipL (a b c d : Int64) : Int64 := mnJ (mnJ (a * c) (a * d)) (mnJ (b * c) (b * d))
def ipH (a b c d : Int64) : Int64 := mxJ (mxJ (a * c) (a * d)) (mxJ (b * c) (b * d))
theorem e_addInterval {a b c d : Int64} (hA : isA qa) : f_X0_addIntervalProduct qa a b c d σ = some ((), sJ (sJ σ qa 1 (σ.2 qa 1 + ipL a b c d)) qa 2 (σ.2 qa 2 + ipH a b c d)) := by
  unfold f_X0_addIntervalProduct
  rw [bnd_s, bnd_s, bnd_s, bnd_s, gd_p hA.1, bnd_s, bnd_s, sJ_at, if_neg (by omega)]
  rfl
def mLo (u w : V) : Int64 := tLo (pr u w) + ipL (sLo u) (sHi u) (w 10) (w 11) + ipL (u 10) (u 11) (sLo w) (sHi w) + ipL (u 10) (u 11) (w 10) (w 11)
def mHi (u w : V) : Int64 := tHi (pr u w) + ipH (sLo u) (sHi u) (w 10) (w 11) + ipH (u 10) (u 11) (sLo w) (sHi w) + ipH (u 10) (u 11) (w 10) (w 11)
def qs (X : Nat → Int64) (v : V) : Nat → V
  | 0 => v
  | k + 1 => pqV (qs X v k) k (X (pl k 0)) 1000
def mulV (u w o : V) : V := qs (pr u w) (setV (setV o 10 (fdv (mLo u w) 1000)) 11 (-fdv (-mHi u w) 1000)) 10
theorem pl7 : ∀ k, k < 10 → (stL 0).getD k 0 * 7 + (stL 1).getD k 0 = nI (pl k 0) := by decide +kernel
theorem e_quotients {X : Nat → Int64} {K : Nat → St → Option (Int32 × St)} {Q : Int32 → St → Prop} (hA : isA qa) (hq : isM q) (hX : ∀ i, i < 49 → σ.2 (qa + 1) i = X i)
    (hK : ∀ σ1 : St, Fr (at2 q) σ σ1 → val σ1 q = qs X (val σ q) 10 → Tr (K q σ1) Q) : Tr (f_X0_multiplyModels_L207 K FU qa q 0 σ) Q := by
  have key : ∀ n k (σ1 : St), k ≤ 10 → 10 < n + k → Fr (at2 q) σ σ1 → val σ1 q = qs X (val σ q) k → Tr (f_X0_multiplyModels_L207 K n qa q (nI k) σ1) Q := by
    intro n
    induction n with
    | zero => intro k σ1 h1 h2; omega
    | succ n ih =>
      intro k σ1 h1 h2 hF h5
      rw [f_X0_multiplyModels_L207]
      refine Tr.ite (fun h => ?_) (fun h => ?_)
      · rw [ten_le (by omega)] at h
        have : k = 10 := by omega
        subst this
        exact hK σ1 hF h5
      · rw [ten_le (by omega)] at h
        have hk : k < 10 := by omega
        have z : ∀ j, j < 10 → ¬ (nI j < 0 ∨ 10 ≤ j) := fun j hj => fun t => t.elim (nI_pos (by omega)) (Nat.not_le.mpr hj)
        have p1 := (pl_ok k hk 0 (by decide)).1
        rw [nI_clamp (n := k) (by omega), hA.2.1, hA.2.2.1, pl7 k hk, nI_clamp (n := pl k 0) (by omega)]
        have hx : σ1.2 (qa + 1) (pl k 0) = X (pl k 0) := by
          rw [hF.2 _ (fun t => ?_)]
          · exact hX _ p1
          · rcases t with t | t
            · exact (hq.neA hA).2.1 t.symm
            · exact (hq.neA hA).1 t.symm
        refine Tr.gd hA.1 (Tr.gd (z k hk) (Tr.gd (z k hk) (Tr.gd ⟨rfl, fun t => t.elim (nI_pos (by omega)) (Nat.not_le.mpr p1)⟩ (Tr.gd hq.1 (Tr.obn ?_)))))
        rw [hx]
        refine (e_putQuotient hq hk (by decide) (by decide)).mono (fun _ σ2 h6 => Tr.bnd ?_)
        rw [nI_1]
        exact ih (k + 1) σ2 (by omega) (by omega) (hF.tr h6.2) (by rw [h6.1, h5]; rfl)
  exact key FU 0 σ (by decide) (by decide) Fr.rf rfl
/-- what the arithmetic at qa may write when it multiplies into q -/
def atA (qa q : Nat) : Nat → Prop := fun a => a = qa ∨ a = qa + 1 ∨ a = q ∨ a = q + 1
theorem e_multiplyModels (hA : isA qa) (hq : isM q) (hp : isM p) (hr : isM r) : Tr (f_X0_multiplyModels qa q p r σ) (fun b σ' => val σ' q = mulV (val σ p) (val σ r) (val σ q) ∧ b = bI (fitN (val σ' q) 12) ∧ Fr (atA qa q) σ σ') := by
  have up : ∀ {m : Nat}, isM m → ∀ {τ : St}, Fr (fun a => a = qa ∨ a = qa + 1) σ τ → val τ m = val σ m := fun hm τ hF => hF.vl (fun t => t.elim (hm.neA hA).2.2 (hm.neA hA).2.1) (fun t => t.elim (fun e => by have := hm.2.2; rw [e, hA.1] at this; cases this) (hm.neA hA).1)
  unfold f_X0_multiplyModels
  refine Tr.gd hA.1 (Tr.obn ((e_collect hA hp hr).mono (fun _ σ1 h1 => Tr.bnd (Tr.bnd ?_))))
  obtain ⟨h1, hF1⟩ := h1
  have hF1 : Fr (fun a => a = qa ∨ a = qa + 1) σ σ1 := hF1.weak (fun _ t => Or.inr t)
  refine e_mulHigh (X := pr (val σ p) (val σ r)) hA (fun i hi => by rw [sJ_at, if_neg (by omega), sJ_at, if_neg (by omega)]; exact h1 i hi) ⟨by rw [sJ_at, if_neg (by omega), sJ_at, if_pos ⟨rfl, rfl⟩], by rw [sJ_at, if_pos ⟨rfl, rfl⟩]⟩ (fun σ2 hF2 h2 h3 => ?_)
  have hF2 : Fr (fun a => a = qa ∨ a = qa + 1) σ σ2 := ((hF1.tr (Fr_J (Or.inl rfl))).tr (Fr_J (Or.inl rfl))).tr (hF2.weak (fun _ t => Or.inl t))
  have hX : ∀ i, i < 49 → σ2.2 (qa + 1) i = pr (val σ p) (val σ r) i := fun i hi => by
    have e : σ2.2 (qa + 1) = σ1.2 (qa + 1) := by rw [(‹Fr (fun a => a = qa) _ σ2›).2 _ (by show ¬ qa + 1 = qa; omega)]; funext j; rw [sJ_at, if_neg (by omega), sJ_at, if_neg (by omega)]
    rw [e]; exact h1 i hi
  have vp2 := up hp hF2
  have vr2 := up hr hF2
  refine Tr.gd hp.1 ?_
  rw [e_spreadLow hp, obn_s, e_spreadHigh hp, obn_s]
  refine Tr.gd hr.1 (Tr.gd hA.1 ?_)
  rw [e_addInterval hA, obn_s, vp2, show σ2.2 r 1 = val σ r 10 by rw [← vr2]; rfl, show σ2.2 r 2 = val σ r 11 by rw [← vr2]; rfl, h2, h3]
  generalize e3 : sJ (sJ σ2 qa 1 _) qa 2 _ = σ3
  have hF3 : Fr (fun a => a = qa ∨ a = qa + 1) σ σ3 := by rw [← e3]; exact (hF2.tr (Fr_J (Or.inl rfl))).tr (Fr_J (Or.inl rfl))
  have l3 : σ3.2 qa 1 = tLo (pr (val σ p) (val σ r)) + ipL (sLo (val σ p)) (sHi (val σ p)) (val σ r 10) (val σ r 11) := by rw [← e3, sJ_at, if_neg (by omega), sJ_at, if_pos ⟨rfl, rfl⟩]
  have u3 : σ3.2 qa 2 = tHi (pr (val σ p) (val σ r)) + ipH (sLo (val σ p)) (sHi (val σ p)) (val σ r 10) (val σ r 11) := by rw [← e3, sJ_at, if_pos ⟨rfl, rfl⟩]
  have x3 : σ3.2 (qa + 1) = σ2.2 (qa + 1) := by rw [← e3]; funext j; rw [sJ_at, if_neg (by omega), sJ_at, if_neg (by omega)]
  have vp3 := up hp hF3
  have vr3 := up hr hF3
  rw [e_spreadLow hr, obn_s, e_spreadHigh hr, obn_s, e_addInterval hA, obn_s, vr3, show σ3.2 p 1 = val σ p 10 by rw [← vp3]; rfl, show σ3.2 p 2 = val σ p 11 by rw [← vp3]; rfl, l3, u3]
  generalize e4 : sJ (sJ σ3 qa 1 _) qa 2 _ = σ4
  have hF4 : Fr (fun a => a = qa ∨ a = qa + 1) σ σ4 := by rw [← e4]; exact (hF3.tr (Fr_J (Or.inl rfl))).tr (Fr_J (Or.inl rfl))
  have l4 : σ4.2 qa 1 = tLo (pr (val σ p) (val σ r)) + ipL (sLo (val σ p)) (sHi (val σ p)) (val σ r 10) (val σ r 11) + ipL (val σ p 10) (val σ p 11) (sLo (val σ r)) (sHi (val σ r)) := by rw [← e4, sJ_at, if_neg (by omega), sJ_at, if_pos ⟨rfl, rfl⟩]
  have u4 : σ4.2 qa 2 = tHi (pr (val σ p) (val σ r)) + ipH (sLo (val σ p)) (sHi (val σ p)) (val σ r 10) (val σ r 11) + ipH (val σ p 10) (val σ p 11) (sLo (val σ r)) (sHi (val σ r)) := by rw [← e4, sJ_at, if_pos ⟨rfl, rfl⟩]
  have x4 : σ4.2 (qa + 1) = σ2.2 (qa + 1) := by rw [← e4, ← x3]; funext j; rw [sJ_at, if_neg (by omega), sJ_at, if_neg (by omega)]
  have vp4 := up hp hF4
  have vr4 := up hr hF4
  rw [e_addInterval hA, obn_s, show σ4.2 p 1 = val σ p 10 by rw [← vp4]; rfl, show σ4.2 p 2 = val σ p 11 by rw [← vp4]; rfl, show σ4.2 r 1 = val σ r 10 by rw [← vr4]; rfl, show σ4.2 r 2 = val σ r 11 by rw [← vr4]; rfl, l4, u4]
  generalize e5 : sJ (sJ σ4 qa 1 _) qa 2 _ = σ5
  have hF5 : Fr (fun a => a = qa ∨ a = qa + 1) σ σ5 := by rw [← e5]; exact (hF4.tr (Fr_J (Or.inl rfl))).tr (Fr_J (Or.inl rfl))
  have l5 : σ5.2 qa 1 = mLo (val σ p) (val σ r) := by rw [← e5, sJ_at, if_neg (by omega), sJ_at, if_pos ⟨rfl, rfl⟩]; rfl
  have u5 : σ5.2 qa 2 = mHi (val σ p) (val σ r) := by rw [← e5, sJ_at, if_pos ⟨rfl, rfl⟩]; rfl
  have x5 : σ5.2 (qa + 1) = σ2.2 (qa + 1) := by rw [← e5, ← x4]; funext j; rw [sJ_at, if_neg (by omega), sJ_at, if_neg (by omega)]
  rw [e_floorDiv (by decide), obn_s, l5]
  refine Tr.gd hq.1 (Tr.bnd ?_)
  rw [e_floorDiv (by decide), obn_s, sJ_at, if_neg (fun t => (hq.neA hA).2.2 t.1.symm), u5]
  refine Tr.bnd (e_quotients (X := pr (val σ p) (val σ r)) hA hq (fun i hi => ?_) (fun σ6 hF6 h6 => ?_))
  · rw [sJ_at, if_neg (fun t => (hq.neA hA).2.1 t.1.symm), sJ_at, if_neg (fun t => (hq.neA hA).2.1 t.1.symm), x5]
    exact hX i hi
  · rw [val_hi', val_lo', up hq hF5] at h6
    rw [e_fits hq]
    refine Tr.gd hq.1 ?_
    rw [obn_s]
    refine Tr.gd (by unfold bI; split <;> simp) (Tr.ret ⟨h6, rfl, ?_⟩)
    have w1 : ∀ a, (a = qa ∨ a = qa + 1) → atA qa q a := fun a t => t.elim (fun t => Or.inl t) (fun t => Or.inr (Or.inl t))
    have w2 : ∀ a, at2 q a → atA qa q a := fun a t => t.elim (fun t => Or.inr (Or.inr (Or.inl t))) (fun t => Or.inr (Or.inr (Or.inr t)))
    exact (((hF5.weak w1).tr (Fr_J (w2 _ at2_0))).tr (Fr_J (w2 _ at2_0))).tr (hF6.weak w2)
end MUL
