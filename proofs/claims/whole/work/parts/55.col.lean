abbrev isA (qa : Nat) : Prop := kC qa = (0, 0) ∧ rC qa 0 = qa + 1 ∧ kC (qa + 1) = (2, 49) ∧ (rC qa 3 = qa + 2 ∧ rC qa 4 = qa + 4 ∧ rC qa 5 = qa + 6 ∧ rC qa 6 = qa + 8 ∧ rC qa 7 = qa + 10) ∧ isM (qa + 2) ∧ isM (qa + 4) ∧ isM (qa + 6) ∧ isM (qa + 8) ∧ isM (qa + 10)
theorem isA_165 : isA 165 := by decide +kernel
theorem isA_200 : isA 200 := by decide +kernel
def PX (k : Nat) : Nat := [0, 0, 0, 0, 1, 1, 1, 2, 2, 3].getD k 0
def PY (k : Nat) : Nat := [0, 1, 2, 3, 0, 1, 2, 0, 1, 0].getD k 0
def pl (k m : Nat) : Nat := 7 * (PX k + PX m) + PY k + PY m
theorem pl_ok : ∀ k, k < 10 → ∀ m, m < 10 → pl k m < 49 ∧ (stL 0).getD k 0 + (stL 0).getD m 0 = nI (PX k + PX m) ∧ ((stL 0).getD k 0 + (stL 0).getD m 0) * 7 + (stL 1).getD k 0 + (stL 1).getD m 0 = nI (pl k m) := by decide +kernel
def pr (u w : V) (p : Nat) : Int64 := sumN (fun k => sumN (fun m => if pl k m = p then u k * w m else 0) 10) 10
theorem sumN_zero {f : Nat → Int64} : ∀ {n : Nat}, (∀ k, k < n → f k = 0) → sumN f n = 0
  | 0, _ => rfl
  | n + 1, h => by rw [sumN, sumN_zero (fun k hk => h k (Nat.lt_succ_of_lt hk)), h n (Nat.lt_succ_self n)]; rfl
theorem i64_0_mul {x : Int64} : (0 : Int64) * x = 0 := Int64.zero_mul
section COL
variable {q p r qa : Nat} {σ : St}
theorem isM.neA {p qa : Nat} (hp : isM p) (hA : isA qa) : p + 1 ≠ qa + 1 ∧ p ≠ qa + 1 ∧ p ≠ qa := by
  refine ⟨fun e => ?_, fun e => ?_, fun e => ?_⟩
  · have := hp.2.2; rw [e, hA.2.2.1] at this; cases this
  · have := hp.1; rw [e, hA.2.2.1] at this; cases this
  · have := hp.1; rw [e, hA.1] at this; cases this
theorem e_collect (hA : isA qa) (hp : isM p) (hr : isM r) : Tr (f_X0_collectProducts qa p r σ) (fun _ σ' => (∀ i, i < 49 → σ'.2 (qa + 1) i = pr (val σ p) (val σ r) i) ∧ Fr (fun a => a = qa + 1) σ σ') := by
  have inner : ∀ (K : Nat → Nat → Nat → Int32 → St → Option (Unit × St)) (P : Unit → St → Prop) (k : Nat) (B : Nat → Int64), k < 10 →
      (∀ σ1 : St, Fr (fun a => a = qa + 1) σ σ1 → (∀ i, i < 49 → σ1.2 (qa + 1) i = B i + sumN (fun m => if pl k m = i then val σ p k * val σ r m else 0) 10) → Tr (K qa p r (nI k) σ1) P) →
      ∀ n m (σ1 : St), m ≤ 10 → 10 < n + m → Fr (fun a => a = qa + 1) σ σ1 → (∀ i, i < 49 → σ1.2 (qa + 1) i = B i + sumN (fun m => if pl k m = i then val σ p k * val σ r m else 0) m) → Tr (f_X0_collectProducts_L19 K n qa p r (nI k) (nI m) σ1) P := by
    intro K P k B hk hK n
    induction n with
    | zero => intro m σ1 h1 h2; omega
    | succ n ih =>
      intro m σ1 h1 h2 hF h5
      have ep : ∀ j, j < 10 → σ1.2 (p + 1) j = val σ p j := fun j hj => by rw [hF.2 _ (hp.neA hA).1]; exact val_c hj
      have er : ∀ j, j < 10 → σ1.2 (r + 1) j = val σ r j := fun j hj => by rw [hF.2 _ (hr.neA hA).1]; exact val_c hj
      have gk := ge_pos (N := 10) (by decide) hk
      rw [f_X0_collectProducts_L19, gd_p hp.1, hp.2.1, hr.2.1, hp.2.2, hr.2.2, hA.2.1, hA.2.2.1, gd_p ⟨rfl, gk⟩, nI_clamp (n := k) (by omega), ep k hk]
      refine Tr.ite (fun h0 => hK σ1 hF (fun i hi => ?_)) (fun h0 => ?_)
      · rw [h5 i hi, sumN_zero, sumN_zero]
        · intro j _; rw [h0, i64_0_mul]; split <;> rfl
        · intro j _; rw [h0, i64_0_mul]; split <;> rfl
      · refine Tr.ite (fun h => ?_) (fun h => ?_)
        · rw [ten_le (by omega)] at h
          have : m = 10 := by omega
          subst this
          exact hK σ1 hF h5
        · rw [ten_le (by omega)] at h
          have hm : m < 10 := by omega
          have gm := ge_pos (N := 10) (by decide) hm
          obtain ⟨p1, -, p3⟩ := pl_ok k hk m hm
          have z : ∀ j, j < 10 → ¬ (nI j < 0 ∨ 10 ≤ j) := fun j hj => fun t => t.elim (nI_pos (by omega)) (Nat.not_le.mpr hj)
          rw [nI_clamp (n := m) (by omega)]
          refine Tr.gd (z k hk) (Tr.gd (z m hm) (Tr.gd (z k hk) (Tr.gd (z m hm) (Tr.bnd (Tr.gd hA.1 ?_)))))
          rw [p3]
          refine Tr.gd ⟨rfl, ge_pos (by decide) p1⟩ (Tr.gd hr.1 (Tr.gd ⟨rfl, z m hm⟩ (Tr.bnd (Tr.bnd ?_))))
          rw [nI_clamp (n := pl k m) (by omega), er m hm, nI_1]
          refine ih (m + 1) _ (by omega) (by omega) (hF.tr (Fr_J rfl)) (fun i hi => ?_)
          rw [sJ_at, sumN]
          by_cases hi2 : i = pl k m
          · rw [if_pos ⟨rfl, hi2⟩, hi2, if_pos rfl, h5 _ p1, Int64.add_assoc]
          · rw [if_neg (fun t => hi2 t.2), if_neg (fun t => hi2 t.symm), Int64.add_zero]
            exact h5 i hi
  have outer : ∀ n k (σ1 : St), k ≤ 10 → 10 < n + k → Fr (fun a => a = qa + 1) σ σ1 → (∀ i, i < 49 → σ1.2 (qa + 1) i = sumN (fun k => sumN (fun m => if pl k m = i then val σ p k * val σ r m else 0) 10) k) → Tr (f_X0_collectProducts_L10 n qa p r (nI k) σ1) (fun _ σ' => (∀ i, i < 49 → σ'.2 (qa + 1) i = pr (val σ p) (val σ r) i) ∧ Fr (fun a => a = qa + 1) σ σ') := by
    intro n
    induction n with
    | zero => intro k σ1 h1 h2; omega
    | succ n ih =>
      intro k σ1 h1 h2 hF h5
      rw [f_X0_collectProducts_L10]
      refine Tr.ite (fun h => ?_) (fun h => ?_)
      · rw [ten_le (by omega)] at h
        have : k = 10 := by omega
        subst this
        exact Tr.ret ⟨h5, hF⟩
      · rw [ten_le (by omega)] at h
        refine inner _ _ k (fun i => sumN (fun k => sumN (fun m => if pl k m = i then val σ p k * val σ r m else 0) 10) k) (by omega) (fun σ2 hF2 h6 => ?_) FU 0 σ1 (by decide) (by decide) hF (fun i hi => ?_)
        · refine Tr.bnd ?_
          rw [nI_1]
          exact ih (k + 1) σ2 (by omega) (by omega) hF2 (fun i hi => by rw [h6 i hi]; rfl)
        · rw [h5 i hi, sumN, Int64.add_zero]
  unfold f_X0_collectProducts
  refine Tr.gd hA.1 (Tr.obn ?_)
  rw [hA.2.1]
  refine (e_fill hA.2.2.1 (by decide)).mono (fun _ σ1 h => ?_)
  exact outer FU 0 σ1 (by decide) (by decide) h.2 (fun i hi => by rw [h.1 i hi, sumN])
end COL
