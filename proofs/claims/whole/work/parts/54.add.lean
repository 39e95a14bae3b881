section ADD
variable {q p r qa : Nat} {σ : St}
def fdv (a b : Int64) : Int64 := if (a ^^^ b) < 0 then if a / b * b = a then a / b else a / b - 1 else a / b
theorem bnd_s {α β : Type} {a : α} {f : α → β} : bnd a f = f a := rfl
theorem e_floorDiv {a b : Int64} (hb : ¬ b = 0) : f_J9_floorDiv_f86c9 a b σ = some (fdv a b, σ) := by
  unfold f_J9_floorDiv_f86c9 fdv
  rw [gd_p hb, bnd_s]
  by_cases h : (a ^^^ b) < 0
  · rw [if_pos h, if_pos h]
    by_cases h2 : a / b * b = a
    · simp only [h2, if_true]
    · simp only [h2, if_false]
  · rw [if_neg h, if_neg h]
theorem lo10 : ∀ k, k < 10 → ((stL 3).getD (nI k).toNatClampNeg 0) = (stL 3).getD k 0 := by decide
def LWm (k : Nat) : Int64 := (mnI ((stL 3).getD k 0) 0).toInt64
def pqV (v : V) (k : Nat) (n d : Int64) : V := if fdv n d * d = n then setV v k (fdv n d) else setV (setV (setV v k (fdv n d)) 10 (v 10 + LWm k)) 11 (v 11 + 1)
theorem setV_ne {v : V} {k j : Nat} {x : Int64} (h : j ≠ k) : setV v k x j = v j := by unfold setV; rw [if_neg h]
theorem setV_eq {v : V} {k : Nat} {x : Int64} : setV v k x k = x := by unfold setV; rw [if_pos rfl]
theorem e_putQuotient {k : Nat} {n d : Int64} (hq : isM q) (hk : k < 10) (hd : 0 < d) (hd0 : ¬ d = 0) : Tr (f_X2_putQuotient q (nI k) n d σ) (fun _ σ' => val σ' q = pqV (val σ q) k n d ∧ Fr (at2 q) σ σ') := by
  unfold f_X2_putQuotient
  rw [if_neg (nI_pos (by omega)), if_neg (by rw [ten_le (by omega)]; omega), if_pos hd, e_floorDiv hd0, obn_s, gd_p hq.1, hq.2.1, gd_p (by rw [hq.2.2]; exact ⟨rfl, ge_pos (by decide) hk⟩), nI_clamp (by omega)]
  refine Tr.bnd (Tr.ite (fun h => Tr.ret ⟨?_, Fr_J at2_1⟩) (fun h => ?_))
  · unfold pqV; rw [if_pos h, val_c' hk]
  · refine Tr.gd (fun z => z.elim (nI_pos (by omega)) (Nat.not_le.mpr hk)) (Tr.bnd (Tr.bnd (Tr.ret ⟨?_, ((Fr_J at2_1).tr (Fr_J at2_0)).tr (Fr_J at2_0)⟩)))
    rw [val_hi', val_lo', val_c' hk, val_lo, val_hi, val_lo', val_c' hk]
    unfold pqV LWm
    rw [if_neg h, setV_ne (show (10 : Nat) ≠ k by omega), setV_ne (show (11 : Nat) ≠ 10 by decide), setV_ne (show (11 : Nat) ≠ k by omega)]
theorem e_addModels (hq : isM q) (hp : isM p) (hr : isM r) : Tr (f_X0_addModels qa q p r σ) (fun b σ' => val σ' q = addV (val σ p) (val σ r) ∧ b = bI (fitN (val σ' q) 12) ∧ Fr (at2 q) σ σ') := by
  have key : ∀ (K : Nat → Nat → Nat → St → Option (Int32 × St)) (P : Int32 → St → Prop), (∀ σ1 : St, σ1.1 = σ.1 → (∀ a, a ≠ q + 1 → σ1.2 a = σ.2 a) → (∀ j, j < 10 → σ1.2 (q + 1) j = σ.2 (p + 1) j + σ.2 (r + 1) j) → Tr (K q p r σ1) P) →
      ∀ n k (σ1 : St), k ≤ 10 → 10 < n + k → σ1.1 = σ.1 → (∀ a, a ≠ q + 1 → σ1.2 a = σ.2 a) → (∀ j, j < k → σ1.2 (q + 1) j = σ.2 (p + 1) j + σ.2 (r + 1) j) → (∀ j, k ≤ j → σ1.2 (q + 1) j = σ.2 (q + 1) j) → Tr (f_X0_addModels_L3 K n q p r (nI k) σ1) P := by
    intro K P hK n
    induction n with
    | zero => intro k σ1 h1 h2; omega
    | succ n ih =>
      intro k σ1 h1 h2 h3 h4 h5 h6
      rw [f_X0_addModels_L3]
      by_cases hk : k = 10
      · subst hk; rw [if_pos (by decide)]; exact hK σ1 h3 h4 h5
      · have hk : k < 10 := by omega
        have g := ge_pos (N := 10) (by decide) hk
        rw [if_neg (by rw [ten_le (by omega)]; omega), gd_p hq.1, gd_p hp.1, hp.2.1, hr.2.1, hq.2.1, hp.2.2, hr.2.2, hq.2.2, gd_p ⟨rfl, g⟩, gd_p hr.1, gd_p ⟨rfl, g⟩, gd_p ⟨rfl, g⟩, nI_clamp (by omega)]
        refine Tr.bnd (Tr.bnd ?_)
        rw [nI_1]
        have e : ∀ a, σ1.2 (a + 1) k = σ.2 (a + 1) k := by
          intro a
          by_cases ha : a + 1 = q + 1
          · rw [ha]; exact h6 k (Nat.le_refl k)
          · rw [h4 _ ha]
        rw [e p, e r]
        refine ih (k + 1) _ (by omega) (by omega) h3 (fun a ha => ?_) (fun j hj => ?_) (fun j hj => ?_)
        · funext i; rw [sJ_at, if_neg (fun z => ha z.1), h4 a ha]
        · rw [sJ_at]
          by_cases hjk : j = k
          · rw [if_pos ⟨rfl, hjk⟩, hjk]
          · rw [if_neg (fun z => hjk z.2)]; exact h5 j (by omega)
        · rw [sJ_at, if_neg (by omega)]; exact h6 j (by omega)
  unfold f_X0_addModels
  refine key _ _ (fun σ1 h3 h4 h5 => ?_) FU 0 σ (by decide) (by decide) rfl (fun _ _ => rfl) (fun j hj => absurd hj (by omega)) (fun _ _ => rfl)
  rw [gd_p hp.1, gd_p hr.1, gd_p hq.1]
  refine Tr.bnd (Tr.bnd ?_)
  have ev : val (sJ (sJ σ1 q 1 (σ1.2 p 1 + σ1.2 r 1)) q 2 ((sJ σ1 q 1 (σ1.2 p 1 + σ1.2 r 1)).2 p 2 + (sJ σ1 q 1 (σ1.2 p 1 + σ1.2 r 1)).2 r 2)) q = addV (val σ p) (val σ r) := by
    rw [val_hi', val_lo', sJ_at, if_neg (by omega), sJ_at, if_neg (by omega), h4 p (hp.ne hq), h4 r (hr.ne hq)]
    funext j
    unfold setV addV
    rcases (show j < 10 ∨ j = 10 ∨ j = 11 ∨ 12 ≤ j by omega) with h | h | h | h
    · rw [if_neg (by omega), if_neg (by omega), if_pos (by omega), ← val_c h, ← val_c h, ← val_c h]; exact h5 j h
    · subst h; rfl
    · subst h; rfl
    · rw [if_neg (by omega), if_neg (by omega), if_neg (by omega)]; exact val_12 h
  rw [e_fits hq, obn_s]
  refine Tr.gd (by unfold bI; split <;> simp) (Tr.ret ⟨ev, rfl, ?_⟩)
  exact ((show Fr (at2 q) σ σ1 from ⟨h3, fun a ha => h4 a (fun z => ha (by rw [z]; exact at2_1))⟩).tr (Fr_J at2_0)).tr (Fr_J at2_0)
theorem e_subtractModels (hq : isM q) (hp : isM p) (hr : isM r) : Tr (f_X0_subtractModels qa q p r σ) (fun b σ' => val σ' q = subV (val σ p) (val σ r) ∧ b = bI (fitN (val σ' q) 12) ∧ Fr (at2 q) σ σ') := by
  have key : ∀ (K : Nat → Nat → Nat → St → Option (Int32 × St)) (P : Int32 → St → Prop), (∀ σ1 : St, σ1.1 = σ.1 → (∀ a, a ≠ q + 1 → σ1.2 a = σ.2 a) → (∀ j, j < 10 → σ1.2 (q + 1) j = σ.2 (p + 1) j - σ.2 (r + 1) j) → Tr (K q p r σ1) P) →
      ∀ n k (σ1 : St), k ≤ 10 → 10 < n + k → σ1.1 = σ.1 → (∀ a, a ≠ q + 1 → σ1.2 a = σ.2 a) → (∀ j, j < k → σ1.2 (q + 1) j = σ.2 (p + 1) j - σ.2 (r + 1) j) → (∀ j, k ≤ j → σ1.2 (q + 1) j = σ.2 (q + 1) j) → Tr (f_X0_subtractModels_L3 K n q p r (nI k) σ1) P := by
    intro K P hK n
    induction n with
    | zero => intro k σ1 h1 h2; omega
    | succ n ih =>
      intro k σ1 h1 h2 h3 h4 h5 h6
      rw [f_X0_subtractModels_L3]
      by_cases hk : k = 10
      · subst hk; rw [if_pos (by decide)]; exact hK σ1 h3 h4 h5
      · have hk : k < 10 := by omega
        have g := ge_pos (N := 10) (by decide) hk
        rw [if_neg (by rw [ten_le (by omega)]; omega), gd_p hq.1, gd_p hp.1, hp.2.1, hr.2.1, hq.2.1, hp.2.2, hr.2.2, hq.2.2, gd_p ⟨rfl, g⟩, gd_p hr.1, gd_p ⟨rfl, g⟩, gd_p ⟨rfl, g⟩, nI_clamp (by omega)]
        refine Tr.bnd (Tr.bnd ?_)
        rw [nI_1]
        have e : ∀ a, σ1.2 (a + 1) k = σ.2 (a + 1) k := by
          intro a
          by_cases ha : a + 1 = q + 1
          · rw [ha]; exact h6 k (Nat.le_refl k)
          · rw [h4 _ ha]
        rw [e p, e r]
        refine ih (k + 1) _ (by omega) (by omega) h3 (fun a ha => ?_) (fun j hj => ?_) (fun j hj => ?_)
        · funext i; rw [sJ_at, if_neg (fun z => ha z.1), h4 a ha]
        · rw [sJ_at]
          by_cases hjk : j = k
          · rw [if_pos ⟨rfl, hjk⟩, hjk]
          · rw [if_neg (fun z => hjk z.2)]; exact h5 j (by omega)
        · rw [sJ_at, if_neg (by omega)]; exact h6 j (by omega)
  unfold f_X0_subtractModels
  refine key _ _ (fun σ1 h3 h4 h5 => ?_) FU 0 σ (by decide) (by decide) rfl (fun _ _ => rfl) (fun j hj => absurd hj (by omega)) (fun _ _ => rfl)
  rw [gd_p hp.1, gd_p hr.1]
  refine Tr.bnd (Tr.bnd (Tr.gd hq.1 (Tr.bnd (Tr.bnd ?_))))
  have ev : val (sJ (sJ σ1 q 1 (σ1.2 p 1 - σ1.2 r 2)) q 2 (σ1.2 p 2 - σ1.2 r 1)) q = subV (val σ p) (val σ r) := by
    rw [val_hi', val_lo', h4 p (hp.ne hq), h4 r (hr.ne hq)]
    funext j
    unfold setV subV
    rcases (show j < 10 ∨ j = 10 ∨ j = 11 ∨ 12 ≤ j by omega) with h | h | h | h
    · rw [if_neg (by omega), if_neg (by omega), if_pos (by omega), ← val_c h, ← val_c h, ← val_c h]; exact h5 j h
    · subst h; rfl
    · subst h; rfl
    · rw [if_neg (by omega), if_neg (by omega), if_neg (by omega), if_neg (by omega), if_neg (by omega)]; exact val_12 h
  rw [e_fits hq, obn_s]
  refine Tr.gd (by unfold bI; split <;> simp) (Tr.ret ⟨ev, rfl, ?_⟩)
  exact ((show Fr (at2 q) σ σ1 from ⟨h3, fun a ha => h4 a (fun z => ha (by rw [z]; exact at2_1))⟩).tr (Fr_J at2_0)).tr (Fr_J at2_0)
end ADD
