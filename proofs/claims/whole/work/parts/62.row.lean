/-! ROWS OF THE REFERENCE -/
abbrev isR (r : Nat) : Prop := kR r = (2, 12)
def rv (σ : St) (r : Nat) : V := fun k => if k < 12 then σ.2 r k else 0
theorem r_gd {r k : Nat} (h : isR r) (hk : k < 12) : (kR r).1 = 2 ∧ ¬ (nI k < 0 ∨ (kR r).2 ≤ (nI k).toNatClampNeg) := by rw [h]; exact ⟨rfl, ge_pos (by decide) hk⟩
theorem r_gd10 {r : Nat} (h : isR r) : (kR r).1 = 2 ∧ ¬ ((10 : Int32) < 0 ∨ (kR r).2 ≤ (10 : Int32).toNatClampNeg) := r_gd (k := 10) h (by decide)
theorem r_gd11 {r : Nat} (h : isR r) : (kR r).1 = 2 ∧ ¬ ((11 : Int32) < 0 ∨ (kR r).2 ≤ (11 : Int32).toNatClampNeg) := r_gd (k := 11) h (by decide)
theorem r_gd00 {r : Nat} (h : isR r) : (kR r).1 = 2 ∧ ¬ ((0 : Int32) < 0 ∨ (kR r).2 ≤ (0 : Int32).toNatClampNeg) := r_gd (k := 0) h (by decide)
theorem n10 : (10 : Int32).toNatClampNeg = 10 := by decide
theorem n11 : (11 : Int32).toNatClampNeg = 11 := by decide
theorem n00 : (0 : Int32).toNatClampNeg = 0 := by decide
theorem twelve_le {k : Nat} (h : k < 2 ^ 31) : ((12 : Int32) ≤ nI k) ↔ 12 ≤ k := nI_leI (by decide) h
theorem lI_tab : ∀ i, i < 8 → ∀ j, j < 8 → lI (nI i) (nI j) = if i = 0 ∧ j = 0 then 1 else if i % 2 = 0 ∧ j % 2 = 0 then 0 else -1 := by decide +kernel
theorem LW_tab : ∀ k, k < 10 → (stL 3).getD k 0 = lI (nI (PX k)) (nI (PY k)) := by decide +kernel
theorem lI_3 {a b : Int32} : lI a b = 1 ∨ lI a b = 0 ∨ lI a b = -1 := by
  unfold lI; split
  · exact Or.inl rfl
  · split
    · exact Or.inr (Or.inl rfl)
    · exact Or.inr (Or.inr rfl)
theorem i32_1 : ((1 : Int32).toInt64) = 1 := by decide
theorem i32_0 : ((0 : Int32).toInt64) = 0 := by decide
theorem i32_m1 : ((-1 : Int32).toInt64) = -1 := by decide
theorem mul_m1 {n : Int64} : n * (-1) = -n := by rw [Int64.mul_neg, Int64.mul_one]
theorem bdd.lI {n : Nat} {x : Int64} {l : Int32} (h : bdd n x) (hn : n < 2 ^ 63) (hl : l = 1 ∨ l = 0 ∨ l = -1) : bdd n (x * l.toInt64) := by
  rcases hl with rfl | rfl | rfl
  · rw [i32_1, Int64.mul_one]; exact h
  · rw [i32_0, Int64.mul_zero]; exact bdd.z
  · rw [i32_m1, mul_m1]; exact h.neg hn
section ROW
variable {q p r : Nat} {σ : St}
theorem rv_at {k : Nat} (h : k < 12) : σ.2 r k = rv σ r k := by unfold rv; rw [if_pos h]
theorem rv_12 {k : Nat} (h : 12 ≤ k) : rv σ r k = 0 := by unfold rv; rw [if_neg (by omega)]
theorem rv_ext {v : V} (h : ∀ k, k < 12 → σ.2 r k = v k) (h0 : ∀ k, 12 ≤ k → v k = 0) : rv σ r = v := by
  funext k
  by_cases hk : k < 12
  · rw [← rv_at hk]; exact h k hk
  · rw [rv_12 (by omega), h0 k (by omega)]
theorem rv_J {k : Nat} {x : Int64} (hk : k < 12) : rv (sJ σ r k x) r = setV (rv σ r) k x := by
  refine rv_ext (fun j hj => ?_) (fun j hj => ?_)
  · rw [sJ_at]; unfold setV
    by_cases h : j = k
    · rw [if_pos ⟨rfl, h⟩, if_pos h]
    · rw [if_neg (fun t => h t.2), if_neg h, rv_at hj]
  · unfold setV; rw [if_neg (by omega), rv_12 hj]
theorem Fr.rv {S : Nat → Prop} {σ' : St} (h : Fr S σ σ') (hr : ¬ S r) : rv σ' r = rv σ r := by
  unfold Jvm.Pilot.CTaylorModelsLaw_law_r5112_b8f7e9.rv; rw [h.2 r hr]
theorem Fr.r1 {σ' : St} (h : Fr (fun a => a = q) σ σ') (hr : r ≠ q) : Jvm.Pilot.CTaylorModelsLaw_law_r5112_b8f7e9.rv σ' r = Jvm.Pilot.CTaylorModelsLaw_law_r5112_b8f7e9.rv σ r := h.rv hr
theorem r_clearRow (hr : isR r) : Tr (f_X7_clearRow r σ) (fun _ σ' => rv σ' r = cst 0 ∧ Fr (fun a => a = r) σ σ') := by
  have key : ∀ m k (σ1 : St), k ≤ 12 → 12 < m + k → Fr (fun a => a = r) σ σ1 → (∀ j, j < k → σ1.2 r j = 0) → Tr (f_X7_clearRow_L2 m r (nI k) σ1) (fun _ σ' => rv σ' r = cst 0 ∧ Fr (fun a => a = r) σ σ') := by
    intro m
    induction m with
    | zero => intro k σ1 h1 h2; omega
    | succ m ih =>
      intro k σ1 h1 h2 hF h5
      rw [f_X7_clearRow_L2]
      refine Tr.ite (fun h => ?_) (fun h => ?_)
      · rw [twelve_le (by omega)] at h
        have : k = 12 := by omega
        subst this
        refine Tr.ret ⟨rv_ext (fun j hj => ?_) (fun j hj => ?_), hF⟩
        · rw [h5 j hj]; unfold cst; split <;> rfl
        · unfold cst; split <;> rfl
      · rw [twelve_le (by omega)] at h
        refine Tr.gd (r_gd hr (by omega)) (Tr.bnd (Tr.bnd ?_))
        rw [nI_1, nI_clamp (by omega)]
        refine ih (k + 1) _ (by omega) (by omega) (hF.tr (Fr_J rfl)) (fun j hj => ?_)
        rw [sJ_at]
        by_cases hjk : j = k
        · rw [if_pos ⟨rfl, hjk⟩]
        · rw [if_neg (fun t => hjk t.2)]; exact h5 j (by omega)
  exact key FU 0 σ (by decide) (by decide) Fr.rf (fun j hj => absurd hj (by omega))
theorem r_copyRow (hq : isR q) (hr : isR r) : Tr (f_X7_copyRow q r σ) (fun _ σ' => rv σ' r = rv σ q ∧ Fr (fun a => a = r) σ σ') := by
  have key : ∀ m k (σ1 : St), k ≤ 12 → 12 < m + k → Fr (fun a => a = r) σ σ1 → (∀ j, j < k → σ1.2 r j = σ.2 q j) → (∀ j, k ≤ j → σ1.2 r j = σ.2 r j) → Tr (f_X7_copyRow_L2 m q r (nI k) σ1) (fun _ σ' => rv σ' r = rv σ q ∧ Fr (fun a => a = r) σ σ') := by
    intro m
    induction m with
    | zero => intro k σ1 h1 h2; omega
    | succ m ih =>
      intro k σ1 h1 h2 hF h5 h6
      rw [f_X7_copyRow_L2]
      refine Tr.ite (fun h => ?_) (fun h => ?_)
      · rw [twelve_le (by omega)] at h
        have : k = 12 := by omega
        subst this
        refine Tr.ret ⟨rv_ext (fun j hj => ?_) (fun j hj => rv_12 hj), hF⟩
        rw [h5 j hj, rv_at hj]
      · rw [twelve_le (by omega)] at h
        refine Tr.gd (r_gd hq (by omega)) (Tr.gd (r_gd hr (by omega)) (Tr.bnd (Tr.bnd ?_)))
        rw [nI_1, nI_clamp (by omega)]
        have e : σ1.2 q k = σ.2 q k := by
          by_cases hqr : q = r
          · subst hqr; exact h6 k (Nat.le_refl _)
          · rw [hF.2 q hqr]
        refine ih (k + 1) _ (by omega) (by omega) (hF.tr (Fr_J rfl)) (fun j hj => ?_) (fun j hj => ?_)
        · rw [sJ_at]
          by_cases hjk : j = k
          · rw [if_pos ⟨rfl, hjk⟩, e, hjk]
          · rw [if_neg (fun t => hjk t.2)]; exact h5 j (by omega)
        · rw [sJ_at, if_neg (by omega)]; exact h6 j (by omega)
  exact key FU 0 σ (by decide) (by decide) Fr.rf (fun j hj => absurd hj (by omega)) (fun _ _ => rfl)
theorem r_smaller {a b : Int64} : f_X7_smaller a b σ = some (if a < b then a else b, σ) := by unfold f_X7_smaller; split <;> rfl
theorem r_greater {a b : Int64} : f_X7_greater a b σ = some (if b < a then a else b, σ) := by unfold f_X7_greater; split <;> rfl
theorem r_low {n : Int64} {i j : Nat} (hi : i < 8) (hj : j < 8) : f_X7_low n (nI i) (nI j) σ = some (mnJ (n * (lI (nI i) (nI j)).toInt64) n, σ) := by
  have e1 : nI i - nI i / (2 : Int32) * (2 : Int32) = nI (i % 2) := pk_rem (d := 2) (by omega) (by decide) (by decide)
  have e2 : nI j - nI j / (2 : Int32) * (2 : Int32) = nI (j % 2) := pk_rem (d := 2) (by omega) (by decide) (by decide)
  have q : ∀ a, a < 8 → (nI a = 0 ↔ a = 0) := fun a ha => nI_eq (b := 0) (by omega) (by decide)
  have tail : ¬ (i = 0 ∧ j = 0) → (bnd (fun (x7 : Int64) (σ6 : St) => obn (f_X7_smaller x7 (-x7) σ6) fun x10 σ9 => some (x10, σ9)) fun J8 => if (nI i - nI i / (2 : Int32) * (2 : Int32)) = 0 then (if (nI j - nI j / (2 : Int32) * (2 : Int32)) = 0 then (obn (f_X7_smaller n (0 : Int64) σ) fun x13 σ12 => some (x13, σ12)) else (J8 n σ)) else (J8 n σ)) = some (mnJ (n * (lI (nI i) (nI j)).toInt64) n, σ) := by
    intro h0
    rw [bnd_s]; dsimp only; rw [e1, e2, r_smaller, r_smaller, obn_s, obn_s, lI_tab i hi j hj, if_neg h0]
    by_cases a2 : i % 2 = 0
    · rw [if_pos ((q _ (by omega)).mpr a2)]
      by_cases b2 : j % 2 = 0
      · rw [if_pos ((q _ (by omega)).mpr b2), show (if i % 2 = 0 ∧ j % 2 = 0 then (0 : Int32) else -1) = 0 from if_pos ⟨a2, b2⟩, i32_0, Int64.mul_zero]; rfl
      · rw [if_neg (fun t => b2 ((q _ (by omega)).mp t)), show (if i % 2 = 0 ∧ j % 2 = 0 then (0 : Int32) else -1) = -1 from if_neg (fun t => b2 t.2), i32_m1, mul_m1]; rfl
    · rw [if_neg (fun t => a2 ((q _ (by omega)).mp t)), show (if i % 2 = 0 ∧ j % 2 = 0 then (0 : Int32) else -1) = -1 from if_neg (fun t => a2 t.1), i32_m1, mul_m1]; rfl
  unfold f_X7_low
  rw [bnd_s]
  by_cases a0 : i = 0
  · rw [if_pos ((q i hi).mpr a0)]
    by_cases b0 : j = 0
    · rw [if_pos ((q j hj).mpr b0), lI_tab i hi j hj, if_pos ⟨a0, b0⟩, i32_1, Int64.mul_one]
      unfold mnJ; split <;> rfl
    · rw [if_neg (fun t => b0 ((q j hj).mp t))]
      exact tail (fun t => b0 t.2)
  · rw [if_neg (fun t => a0 ((q i hi).mp t))]
    exact tail (fun t => a0 t.1)
theorem r_high {n : Int64} {i j : Nat} (hi : i < 8) (hj : j < 8) (hn : bdd (2 ^ 63 - 1) n) : f_X7_high n (nI i) (nI j) σ = some (mxJ (n * (lI (nI i) (nI j)).toInt64) n, σ) := by
  unfold f_X7_high
  rw [r_low hi hj, obn_s, neg_mn ((hn.neg (by decide)).lI (by decide) lI_3) (hn.neg (by decide)), Int64.neg_mul, Int64.neg_neg, Int64.neg_neg]
theorem r_iOf {k : Nat} (hk : k < 10) : f_X7_iOf (nI k) σ = some (nI (PX k), σ) := by
  have h : ∀ k, k < 10 → (if (4 : Int32) ≤ nI k then (if (7 : Int32) ≤ nI k then (if (9 : Int32) ≤ nI k then (3 : Int32) else 2) else 1) else 0) = nI (PX k) := by decide +kernel
  rw [← h k hk]; unfold f_X7_iOf
  split <;> (try split) <;> (try split) <;> rfl
theorem r_jOf {k : Nat} (hk : k < 10) : f_X7_jOf (nI k) σ = some (nI (PY k), σ) := by
  have h : ∀ k, k < 10 → (if (4 : Int32) ≤ nI k then (if (7 : Int32) ≤ nI k then (if (9 : Int32) ≤ nI k then (0 : Int32) else nI k - 7) else nI k - 4) else nI k) = nI (PY k) := by decide +kernel
  rw [← h k hk]; unfold f_X7_jOf
  split <;> (try split) <;> (try split) <;> rfl
theorem r_place {i j : Nat} (h3 : i + j ≤ 3) : f_X7_place (nI i) (nI j) σ = some (nI (sl i j), σ) := by
  have h : i = 0 ∨ i = 1 ∨ i = 2 ∨ i = 3 := by omega
  unfold f_X7_place
  rcases h with rfl | rfl | rfl | rfl
  · rw [if_pos (by decide)]; exact congrArg (fun x => some (nI x, σ)) (Nat.zero_add j).symm
  · rw [if_neg (by decide), if_pos (by decide)]; exact congrArg (fun x => some (x, σ)) (nI_add 4 j)
  · rw [if_neg (by decide), if_neg (by decide), if_pos (by decide)]; exact congrArg (fun x => some (x, σ)) (nI_add 7 j)
  · rw [if_neg (by decide), if_neg (by decide), if_neg (by decide), show j = 0 by omega]; rfl
theorem PX_8 : ∀ k, PX k < 8 ∧ PY k < 8 := by
  intro k
  by_cases h : k < 10
  · obtain ⟨-, -, h1, h2, -⟩ := px_ok k h; omega
  · unfold PX PY; rw [List.getD_eq_getElem?_getD, List.getD_eq_getElem?_getD, List.getElem?_eq_none (by simp; omega), List.getElem?_eq_none (by simp; omega)]; decide
theorem r_spreadLow (hr : isR r) : f_X7_spreadLow r σ = some (sLo (rv σ r), σ) := by
  have key : ∀ n k, k ≤ 10 → 10 < n + k → f_X7_spreadLow_L4 n r (sumN (fun k => mnJ (rv σ r k * LW k) (rv σ r k)) k) (nI k) σ = some (sLo (rv σ r), σ) := by
    intro n
    induction n with
    | zero => intro k h1 h2; omega
    | succ n ih =>
      intro k h1 h2
      rw [f_X7_spreadLow_L4]
      by_cases hk : k = 10
      · subst hk; rw [if_pos (by decide)]; rfl
      · have hk : k < 10 := by omega
        rw [if_neg (by rw [ten_le (by omega)]; omega), gd_p (r_gd hr (by omega)), r_iOf hk, obn_s, r_jOf hk, obn_s, r_low (PX_8 k).1 (PX_8 k).2, obn_s, bnd_s, bnd_s, nI_clamp (by omega), rv_at (show k < 12 by omega), nI_1, ← LW_tab k hk]
        exact ih (k + 1) (by omega) (by omega)
  exact key FU 0 (by decide) (by decide)
theorem r_spreadHigh (hr : isR r) (hb : ∀ k, k < 10 → bdd (2 ^ 63 - 1) (rv σ r k)) : f_X7_spreadHigh r σ = some (sHi (rv σ r), σ) := by
  have key : ∀ n k, k ≤ 10 → 10 < n + k → f_X7_spreadHigh_L4 n r (sumN (fun k => mxJ (rv σ r k * LW k) (rv σ r k)) k) (nI k) σ = some (sHi (rv σ r), σ) := by
    intro n
    induction n with
    | zero => intro k h1 h2; omega
    | succ n ih =>
      intro k h1 h2
      rw [f_X7_spreadHigh_L4]
      by_cases hk : k = 10
      · subst hk; rw [if_pos (by decide)]; rfl
      · have hk : k < 10 := by omega
        rw [if_neg (by rw [ten_le (by omega)]; omega), gd_p (r_gd hr (by omega)), r_iOf hk, obn_s, r_jOf hk, obn_s, r_high (PX_8 k).1 (PX_8 k).2 (by rw [nI_clamp (by omega), rv_at (show k < 12 by omega)]; exact hb k hk), obn_s, bnd_s, bnd_s, nI_clamp (by omega), rv_at (show k < 12 by omega), nI_1, ← LW_tab k hk]
        exact ih (k + 1) (by omega) (by omega)
  exact key FU 0 (by decide) (by decide)
theorem bI_and {p q : Prop} [Decidable p] [Decidable q] : bI p &&& (if q then (1 : Int32) else 0) = bI (p ∧ q) := by
  unfold bI
  by_cases h1 : p <;> by_cases h2 : q <;> simp [h1, h2]
theorem bI_c {p q : Prop} [Decidable p] [Decidable q] (h : p ↔ q) : bI p = bI q := by
  unfold bI
  by_cases h1 : p
  · rw [if_pos h1, if_pos (h.mp h1)]
  · rw [if_neg h1, if_neg (fun t => h1 (h.mpr t))]
theorem bI_01 {p : Prop} [Decidable p] : bI p = 0 ∨ bI p = 1 := by unfold bI; split; exact Or.inr rfl; exact Or.inl rfl
theorem fitN_s {v : V} {k : Nat} : fitN v (k + 1) ↔ fitN v k ∧ fit1 (v k) := by
  constructor
  · intro h; exact ⟨fun j hj => h j (by omega), h k (by omega)⟩
  · rintro ⟨h1, h2⟩ j hj
    rcases (show j < k ∨ j = k by omega) with h | rfl
    · exact h1 j h
    · exact h2
theorem r_isSmall (hr : isR r) : f_X7_isSmall r σ = some (bI (fitN (rv σ r) 12), σ) := by
  have key : ∀ n k, k ≤ 12 → 12 < n + k → f_X7_isSmall_L4 n r (bI (fitN (rv σ r) k)) (nI k) σ = some (bI (fitN (rv σ r) 12), σ) := by
    intro n
    induction n with
    | zero => intro k h1 h2; omega
    | succ n ih =>
      intro k h1 h2
      rw [f_X7_isSmall_L4]
      by_cases hk : k = 12
      · subst hk; rw [if_pos (by decide), gd_p bI_01]
      · have hk : k < 12 := by omega
        rw [if_neg (by rw [twelve_le (by omega)]; omega), gd_p (r_gd hr hk), bnd_s, nI_clamp (by omega), rv_at hk]
        have nx : ∀ x : Int32, x = bI (fitN (rv σ r) (k + 1)) → (bnd x fun x13 => bnd (nI k + (1 : Int32)) fun x14 => f_X7_isSmall_L4 n r x13 x14 σ) = some (bI (fitN (rv σ r) 12), σ) := by
          intro x hx
          rw [bnd_s, bnd_s, nI_1, hx]
          exact ih (k + 1) (by omega) (by omega)
        have z : bI (fitN (rv σ r) k) &&& (0 : Int32) = 0 := Int32.and_zero
        by_cases g1 : rv σ r k < -100000000
        · rw [if_pos g1]
          exact nx _ (by rw [z, bI_0 (fun t => (fitN_s.mp t).2.1 g1)])
        · rw [if_neg g1]
          by_cases g2 : 100000000 < rv σ r k
          · rw [if_pos g2]
            exact nx _ (by rw [z, bI_0 (fun t => (fitN_s.mp t).2.2 g2)])
          · rw [if_neg g2]
            refine nx _ ?_
            have e : bI (fitN (rv σ r) k) &&& (1 : Int32) = bI (fitN (rv σ r) k) := by rcases bI_01 (p := fitN (rv σ r) k) with e | e <;> rw [e] <;> decide
            rw [e]
            exact bI_c ⟨fun t => fitN_s.mpr ⟨t, g1, g2⟩, fun t => (fitN_s.mp t).1⟩
  have h0 : (1 : Int32) = bI (fitN (rv σ r) 0) := (bI_1 (fun j hj => absurd hj (by omega))).symm
  unfold f_X7_isSmall
  rw [h0]
  exact key FU 0 (by decide) (by decide)
theorem fit_bd {v : V} {k : Nat} (h : fitN v 12) (hk : k < 12) : bdd 100000000 (v k) := fit1_bd (h k hk)
theorem fit_bd' {v : V} (h : fitN v 12) : ∀ k, k < 10 → bdd (2 ^ 63 - 1) (v k) := fun k hk => (fit_bd h (by omega)).up (by decide)
theorem r_isWithin (hr : isR r) (hb : fitN (rv σ r) 12) : f_X7_isWithin r σ = some (bI (sq (rv σ r)), σ) := by
  unfold f_X7_isWithin
  rw [r_spreadLow hr, obn_s, gd_p (r_gd10 hr), n10, rv_at (show 10 < 12 by decide), r_spreadHigh hr (fit_bd' hb), obn_s, gd_p (r_gd11 hr), n11, rv_at (show 11 < 12 by decide)]
  unfold bI
  by_cases h1 : sLo (rv σ r) + rv σ r 10 < -1000
  · rw [if_pos h1, if_neg (fun z => z.1 h1)]
  · rw [if_neg h1]
    by_cases h2 : 1000 < sHi (rv σ r) + rv σ r 11
    · rw [if_pos h2, if_neg (fun z => z.2 h2)]
    · rw [if_neg h2, if_pos ⟨h1, h2⟩]
end ROW
