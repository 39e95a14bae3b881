def mulW (u w : V) : V := mulV u w (cst 0)
theorem pqV_at {v v' : V} {k j : Nat} {n d : Int64} (h10 : v 10 = v' 10) (h11 : v 11 = v' 11) (hj : v j = v' j ∨ j = k) : pqV v k n d j = pqV v' k n d j := by
  unfold pqV
  by_cases h : fdv n d * d = n
  · rw [if_pos h, if_pos h]
    unfold setV
    rcases hj with hj | hj
    · rw [hj]
    · rw [if_pos hj, if_pos hj]
  · rw [if_neg h, if_neg h, h10, h11]
    unfold setV
    rcases hj with hj | hj
    · rw [hj]
    · rw [if_pos hj, if_pos hj]
theorem qs_at {X : Nat → Int64} {v v' : V} (h : ∀ j, 10 ≤ j → v j = v' j) : ∀ n, ∀ j, (j < n ∨ 10 ≤ j) → qs X v n j = qs X v' n j
  | 0, j, hj => h j (by omega)
  | n + 1, j, hj => by
    rw [qs, qs]
    refine pqV_at (qs_at h n 10 (Or.inr (Nat.le_refl _))) (qs_at h n 11 (Or.inr (by decide))) ?_
    by_cases e : j = n
    · exact Or.inr e
    · exact Or.inl (qs_at h n j (by omega))
theorem mulV_W {u w o : V} (h : ∀ j, 12 ≤ j → o j = 0) : mulV u w o = mulW u w := by
  funext j
  unfold mulW mulV
  refine qs_at (fun j hj => ?_) 10 j (by omega)
  unfold setV
  by_cases h1 : j = 11
  · rw [if_pos h1, if_pos h1]
  · rw [if_neg h1, if_neg h1]
    by_cases h2 : j = 10
    · rw [if_pos h2, if_pos h2]
    · rw [if_neg h2, if_neg h2, h j (by omega)]
      unfold cst; rw [if_neg (by omega)]
def facV (a b : V) (k : Nat) : Nat → Nat → V → Option V
  | 0, _, u => some u
  | n + 1, i, u => if fitN (mulW u (if i < PX k then a else b)) 12 then facV a b k n (i + 1) (mulW u (if i < PX k then a else b)) else none
def cmpS (p a b : V) : Nat → Nat → V → Option V
  | 0, _, w => some w
  | n + 1, k, w => if p k = 0 then cmpS p a b n (k + 1) w else match facV a b k (PX k + PY k) 0 (cst (p k)) with
    | none => none
    | some u => if fitN (addV w u) 12 then cmpS p a b n (k + 1) (addV w u) else none
def cmpE (p w : V) : V := setV (setV w 10 (w 10 + p 10)) 11 (w 11 + p 11)
def cmpV (p a b : V) : Option V := match cmpS p a b 10 0 (cst 0) with
  | none => none
  | some w => if fitN (cmpE p w) 12 then some (cmpE p w) else none
abbrev sq (v : V) : Prop := ¬ sLo v + v 10 < -1000 ∧ ¬ 1000 < sHi v + v 11
def compV (p a b : V) : Option V := if sq a ∧ sq b then cmpV p a b else none
theorem pxy_ok : ∀ k, k < 10 → (stL 0).getD k 0 + (stL 1).getD k 0 = nI (PX k + PY k) ∧ (stL 0).getD k 0 = nI (PX k) ∧ PX k + PY k ≤ 3 ∧ PX k ≤ 3 := by decide +kernel
theorem bI_1 {p : Prop} [Decidable p] (h : p) : bI p = 1 := by unfold bI; rw [if_pos h]
theorem bI_0 {p : Prop} [Decidable p] (h : ¬ p) : bI p = 0 := by unfold bI; rw [if_neg h]
/-- the arithmetic's own places that a composition writes -/
def atP (qa : Nat) : Nat → Prop := fun x => qa ≤ x ∧ x ≤ qa + 5
section COMP
variable {q p a b qa : Nat} {σ : St}
theorem isM.offA {p qa : Nat} (hp : isM p) (hA : isA qa) (h2 : p ≠ qa + 2) (h4 : p ≠ qa + 4) : ¬ atP qa p ∧ ¬ atP qa (p + 1) := by
  have h1 := hp.neA hA
  have e3 : p ≠ qa + 3 := fun e => (hp.ne hA.2.2.2.2.1) e
  have e5 : p ≠ qa + 5 := fun e => (hp.ne hA.2.2.2.2.2.1) e
  have e0 : p + 1 ≠ qa := fun e => by have := hp.2.2; rw [e, hA.1] at this; cases this
  unfold atP
  refine ⟨fun t => ?_, fun t => ?_⟩ <;> omega
theorem e_facs {K : Nat → Nat → Nat → Nat → Nat → Int32 → St → Option (Int32 × St)} {Q : Int32 → St → Prop} {k : Nat} {σ0 : St} {va vb : V} (hk : k < 10) (hA : isA qa) (ha : isM a) (hb : isM b) (a2 : a ≠ qa + 2) (a4 : a ≠ qa + 4) (b2 : b ≠ qa + 2) (b4 : b ≠ qa + 4) (eva : val σ0 a = va) (evb : val σ0 b = vb)
    (hK : ∀ u' σ1, facV va vb k (PX k + PY k) 0 (val σ (qa + 2)) = some u' → Fr (atP qa) σ0 σ1 → val σ1 (qa + 2) = u' → (∀ x, x = qa + 4 ∨ x = qa + 5 → σ1.2 x = σ.2 x) → Tr (K qa q p a b (nI k) σ1) Q)
    (hN : ∀ σ1, facV va vb k (PX k + PY k) 0 (val σ (qa + 2)) = none → Fr (atP qa) σ0 σ1 → Q 0 σ1) (hF : Fr (atP qa) σ0 σ) : Tr (f_X0_composeModels_L64 K FU qa q p a b (nI k) 0 σ) Q := by
  obtain ⟨x1, x2, x3, x4⟩ := pxy_ok k hk
  have z : ∀ j, j < 10 → ¬ (nI j < 0 ∨ 10 ≤ j) := fun j hj => fun t => t.elim (nI_pos (by omega)) (Nat.not_le.mpr hj)
  have key : ∀ n i (σ1 : St), i ≤ PX k + PY k → PX k + PY k < n + i → Fr (atP qa) σ0 σ1 → (∀ x, x = qa + 4 ∨ x = qa + 5 → σ1.2 x = σ.2 x) → facV va vb k (PX k + PY k - i) i (val σ1 (qa + 2)) = facV va vb k (PX k + PY k) 0 (val σ (qa + 2)) → Tr (f_X0_composeModels_L64 K n qa q p a b (nI k) (nI i) σ1) Q := by
    intro n
    induction n with
    | zero => intro i σ1 h1 h2; omega
    | succ n ih =>
      intro i σ1 h1 h2 hF1 hw h5
      rw [f_X0_composeModels_L64, nI_clamp (n := k) (by omega), x1, x2]
      refine Tr.gd (z k hk) (Tr.gd (z k hk) (Tr.ite (fun h => ?_) (fun h => ?_)))
      · rw [nI_leI (by omega) (by omega)] at h
        have : i = PX k + PY k := by omega
        subst this
        rw [Nat.sub_self, facV] at h5
        exact hK _ σ1 h5.symm hF1 rfl hw
      · rw [nI_leI (by omega) (by omega)] at h
        have e1 : PX k + PY k - i = (PX k + PY k - (i + 1)) + 1 := by omega
        rw [e1, facV] at h5
        refine Tr.gd hA.1 (Tr.bnd ?_)
        rw [hA.2.2.2.1.1]
        have oa := ha.offA hA a2 a4
        have ob := hb.offA hA b2 b4
        have step : ∀ c, isM c → val σ1 c = (if i < PX k then va else vb) → Tr (gd (kC qa = (0, 0)) <| obn (f_X0_multiplyModels qa (qa + 2) (qa + 2) c σ1) fun x69 σ68 => if x69 = 0 then (some ((0 : Int32), σ68)) else (bnd (nI i + (1 : Int32)) fun x71 => f_X0_composeModels_L64 K n qa q p a b (nI k) x71 σ68)) Q := by
          intro c hc ec
          refine Tr.gd hA.1 (Tr.obn ((e_multiplyModels hA hA.2.2.2.2.1 hA.2.2.2.2.1 hc).mono (fun r σ2 h6 => ?_)))
          obtain ⟨h6, h7, h8⟩ := h6
          rw [mulV_W (fun j hj => val_12 hj), ec] at h6
          have hF2 : Fr (atP qa) σ0 σ2 := hF1.tr (h8.weak (fun x t => by unfold atA at t; unfold atP; omega))
          refine Tr.ite (fun g => ?_) (fun g => ?_)
          · by_cases hf : fitN (val σ2 (qa + 2)) 12
            · rw [h7, bI_1 hf] at g; cases g
            · rw [h6] at hf
              rw [if_neg hf] at h5
              exact Tr.ret (hN σ2 h5.symm hF2)
          · by_cases hf : fitN (val σ2 (qa + 2)) 12
            · rw [h6] at hf
              rw [if_pos hf] at h5
              refine Tr.bnd ?_
              rw [nI_1]
              refine ih (i + 1) σ2 (by omega) (by omega) hF2 (fun x hx => ?_) (by rw [h6]; exact h5)
              rw [h8.2 x (by unfold atA; omega)]; exact hw x hx
            · rw [h7, bI_0 hf] at g; exact absurd rfl g
        refine Tr.ite (fun h => ?_) (fun h => ?_)
        · rw [nI_leI (by omega) (by omega)] at h
          exact step b hb (by rw [if_neg (by omega), ← evb]; exact hF1.vl ob.1 ob.2)
        · rw [nI_leI (by omega) (by omega)] at h
          exact step a ha (by rw [if_pos (by omega), ← eva]; exact hF1.vl oa.1 oa.2)
  exact key FU 0 σ (Nat.zero_le _) (by show _ < 4096 + 0; omega) hF (fun _ _ => rfl) rfl
end COMP
