/-! SUMS AND COMPOSITIONS, of the reference -/
theorem R15 : rR 0 14 = 15 ∧ kR 15 = (2, 12) := by decide +kernel
theorem R16 : rR 0 15 = 16 ∧ kR 16 = (2, 12) := by decide +kernel
def atQ : Nat → Prop := fun x => 13 ≤ x ∧ x ≤ 16
theorem rv_of {r : Nat} {σ σ' : St} (h : σ'.2 r = σ.2 r) : rv σ' r = rv σ r := by unfold rv; rw [h]
section RSUM
variable {a b p to : Nat} {σ : St}
theorem r_sumLoop {s : Int32} {lo hi : Int64} {K : Nat → Int64 → Int64 → St → Option (Int32 × St)} {Q : Int32 → St → Prop} (ha : isR a) (hb : isR b) (ht : isR to)
    (hK : ∀ σ1, Fr (fun x => x = to) σ σ1 → (∀ j, j < 10 → σ1.2 to j = σ.2 a j + s.toInt64 * σ.2 b j) → Tr (K to lo hi σ1) Q) : Tr (f_X7_sumOf_L49 K FU a b s to lo hi 0 σ) Q := by
  have key : ∀ n k (σ1 : St), k ≤ 10 → 10 < n + k → Fr (fun x => x = to) σ σ1 → (∀ j, j < k → σ1.2 to j = σ.2 a j + s.toInt64 * σ.2 b j) → (∀ j, k ≤ j → σ1.2 to j = σ.2 to j) → Tr (f_X7_sumOf_L49 K n a b s to lo hi (nI k) σ1) Q := by
    intro n
    induction n with
    | zero => intro k σ1 h1 h2; omega
    | succ n ih =>
      intro k σ1 h1 h2 hF h5 h6
      rw [f_X7_sumOf_L49]
      refine Tr.ite (fun h => ?_) (fun h => ?_)
      · rw [ten_le (by omega)] at h
        have : k = 10 := by omega
        subst this
        exact hK σ1 hF h5
      · rw [ten_le (by omega)] at h
        refine Tr.gd (r_gd ha (by omega)) (Tr.gd (r_gd hb (by omega)) (Tr.gd (r_gd ht (by omega)) (Tr.bnd (Tr.bnd ?_))))
        rw [nI_1, nI_clamp (by omega)]
        have e : ∀ q, σ1.2 q k = σ.2 q k := by
          intro q
          by_cases hq : q = to
          · subst hq; exact h6 k (Nat.le_refl _)
          · rw [hF.2 q hq]
        rw [e a, e b]
        refine ih (k + 1) _ (by omega) (by omega) (hF.tr (Fr_J rfl)) (fun j hj => ?_) (fun j hj => ?_)
        · rw [sJ_at]
          by_cases hjk : j = k
          · rw [if_pos ⟨rfl, hjk⟩, hjk]
          · rw [if_neg (fun t => hjk t.2)]; exact h5 j (by omega)
        · rw [sJ_at, if_neg (by omega)]; exact h6 j (by omega)
  exact key FU 0 σ (by decide) (by decide) Fr.rf (fun j hj => absurd hj (by omega)) (fun _ _ => rfl)
theorem r_sumEnd {v : V} {lo hi : Int64} {σ1 : St} (ht : isR to) (hF : Fr (fun x => x = to) σ σ1) (h : ∀ j, j < 10 → σ1.2 to j = v j) (h10 : lo = v 10) (h11 : hi = v 11) (h0 : ∀ j, 12 ≤ j → v j = 0) :
    Tr (gd ((kR to).1 = 2 ∧ ¬ ((10 : Int32) < 0 ∨ (kR to).2 ≤ (10 : Int32).toNatClampNeg)) <| bnd (sJ σ1 to (10 : Int32).toNatClampNeg lo) fun σ41 => gd ((kR to).1 = 2 ∧ ¬ ((11 : Int32) < 0 ∨ (kR to).2 ≤ (11 : Int32).toNatClampNeg)) <| bnd (sJ σ41 to (11 : Int32).toNatClampNeg hi) fun σ43 => obn (f_X7_isSmall to σ43) fun x45 σ44 => gd (x45 = 0 ∨ x45 = 1) <| some (x45, σ44)) (fun r σ' => rv σ' to = v ∧ r = bI (fitN (rv σ' to) 12) ∧ Fr (fun x => x = to) σ σ') := by
  refine Tr.gd (r_gd10 ht) (Tr.bnd (Tr.gd (r_gd11 ht) (Tr.bnd ?_)))
  rw [r_isSmall ht, obn_s, n10, n11]
  refine Tr.gd bI_01 (Tr.ret ⟨?_, rfl, (hF.tr (Fr_J rfl)).tr (Fr_J rfl)⟩)
  refine rv_ext (fun k hk => ?_) h0
  rw [sJ_at, sJ_at]
  by_cases e1 : k = 11
  · rw [if_pos ⟨rfl, e1⟩, e1, h11]
  · rw [if_neg (fun t => e1 t.2)]
    by_cases e0 : k = 10
    · rw [if_pos ⟨rfl, e0⟩, e0, h10]
    · rw [if_neg (fun t => e0 t.2)]; exact h k (by omega)
theorem r_add (ha : isR a) (hb : isR b) (ht : isR to) : Tr (f_X7_sumOf a b 1 to σ) (fun r σ' => rv σ' to = addV (rv σ a) (rv σ b) ∧ r = bI (fitN (rv σ' to) 12) ∧ Fr (fun x => x = to) σ σ') := by
  unfold f_X7_sumOf
  refine Tr.gd (r_gd10 ha) (Tr.bnd ?_)
  rw [if_neg (by decide)]
  refine Tr.gd (r_gd10 hb) (Tr.bnd (Tr.gd (r_gd11 ha) (Tr.bnd ?_)))
  rw [if_neg (by decide)]
  refine Tr.gd (r_gd11 hb) (Tr.bnd ?_)
  refine r_sumLoop ha hb ht (fun σ1 hF h => r_sumEnd ht hF (fun j hj => ?_) ?_ ?_ (fun j hj => ?_))
  · rw [h j hj, i32_1, Int64.one_mul, rv_at (show j < 12 by omega), rv_at (show j < 12 by omega)]; unfold addV; rw [if_pos (by omega)]
  · rfl
  · rfl
  · unfold addV; rw [if_neg (by omega)]
theorem r_sub (ha : isR a) (hb : isR b) (ht : isR to) : Tr (f_X7_sumOf a b (-1) to σ) (fun r σ' => rv σ' to = subV (rv σ a) (rv σ b) ∧ r = bI (fitN (rv σ' to) 12) ∧ Fr (fun x => x = to) σ σ') := by
  unfold f_X7_sumOf
  refine Tr.gd (r_gd10 ha) (Tr.bnd ?_)
  rw [if_pos (by decide)]
  refine Tr.gd (r_gd11 hb) (Tr.bnd (Tr.gd (r_gd11 ha) (Tr.bnd ?_)))
  rw [if_pos (by decide)]
  refine Tr.gd (r_gd10 hb) (Tr.bnd ?_)
  refine r_sumLoop ha hb ht (fun σ1 hF h => r_sumEnd ht hF (fun j hj => ?_) ?_ ?_ (fun j hj => ?_))
  · rw [h j hj, i32_m1, Int64.neg_mul, Int64.one_mul, ← Int64.sub_eq_add_neg, rv_at (show j < 12 by omega), rv_at (show j < 12 by omega)]; unfold subV; rw [if_pos hj]
  · rw [← Int64.sub_eq_add_neg]; rfl
  · rw [← Int64.sub_eq_add_neg]; rfl
  · unfold subV; rw [if_neg (by omega), if_neg (by omega), if_neg (by omega)]
/-- the rows that a composition may read -/
def off3 (r : Nat) : Prop := isR r ∧ r ≠ 14 ∧ r ≠ 15 ∧ r ≠ 16
theorem off3.q {r : Nat} (h : off3 r) : ¬ atQ r := fun t => by
  have h1 := h.1.n13
  obtain ⟨-, h2, h3, h4⟩ := h
  unfold atQ at t; omega
theorem atQ_3 : atQ 13 ∧ atQ 14 ∧ atQ 15 ∧ atQ 16 := by unfold atQ; decide
theorem off3.rd {r : Nat} {σ' : St} (h : off3 r) (hF : Fr atQ σ σ') : rv σ' r = rv σ r := hF.rv h.q
theorem r_mulP {r : Nat} {u : V} (hr : off3 r) (fr : fitN (rv σ r) 12) (eu : rv σ 16 = u) (fu : fitN u 12) :
    Tr (f_X7_productOf 0 16 r 16 σ) (fun x σ' => rv σ' 16 = mulW u (rv σ r) ∧ x = bI (fitN (mulW u (rv σ r)) 12) ∧ Fr (fun x => x = 13 ∨ x = 14 ∨ x = 16) σ σ') := by
  subst eu
  refine (r_productOf R16.2 hr.1 R16.2 (by decide) hr.2.1 fu fr).mono (fun x σ' h => ?_)
  obtain ⟨h1, h2, h3⟩ := h
  rw [h1] at h2
  exact ⟨h1, h2, h3⟩
theorem w16 : ∀ x, (x = 13 ∨ x = 14 ∨ x = 16) → atQ x := fun x t => by unfold atQ; omega
theorem r_facA {K : Nat → Nat → Nat → Nat → Nat → Int32 → Int32 → St → Option (Int32 × St)} {Q : Int32 → St → Prop} {k : Nat} {σ0 : St} {u : V} {F : Option V} (hk : k < 10) (ha : off3 a) (fa : fitN (rv σ0 a) 12)
    (hK : ∀ u2 σ1, Fr atQ σ0 σ1 → (∀ x, x = 15 → σ1.2 x = σ.2 x) → rv σ1 16 = u2 → fitN u2 12 → facV (rv σ0 a) (rv σ0 b) k (PY k) (PX k) u2 = F → Tr (K 0 p a b to 1 (nI k) σ1) Q)
    (hN : ∀ σ1, Fr atQ σ0 σ1 → F = none → Tr (K 0 p a b to 0 (nI k) σ1) Q)
    (hF : Fr atQ σ0 σ) (hu : rv σ 16 = u) (fu : fitN u 12) (hf : facV (rv σ0 a) (rv σ0 b) k (PX k + PY k) 0 u = F) : Tr (f_X7_compositionOf_L75 K FU 0 p a b to 1 (nI k) 0 σ) Q := by
  obtain ⟨-, -, x1, x2, x3⟩ := px_ok k hk
  have key : ∀ n i (σ1 : St) (u1 : V), i ≤ PX k → PX k < n + i → Fr atQ σ0 σ1 → (∀ x, x = 15 → σ1.2 x = σ.2 x) → rv σ1 16 = u1 → fitN u1 12 → facV (rv σ0 a) (rv σ0 b) k (PX k + PY k - i) i u1 = F → Tr (f_X7_compositionOf_L75 K n 0 p a b to 1 (nI k) (nI i) σ1) Q := by
    intro n
    induction n with
    | zero => intro i σ1 u1 h1 h2; omega
    | succ n ih =>
      intro i σ1 u1 h1 h2 hF1 hw h5 h6 h7
      rw [f_X7_compositionOf_L75, r_iOf hk, obn_s]
      refine Tr.ite (fun h => ?_) (fun h => ?_)
      · rw [nI_leI (by omega) (by omega)] at h
        have : i = PX k := by omega
        subst this
        rw [Nat.add_sub_cancel_left] at h7
        exact hK u1 σ1 hF1 hw h5 h6 h7
      · rw [nI_leI (by omega) (by omega)] at h
        rw [if_neg (by decide), R16.1]
        have ea : rv σ1 a = rv σ0 a := ha.rd hF1
        refine Tr.gd R0 (Tr.obn ((r_mulP ha (by rw [ea]; exact fa) h5 h6).mono (fun x σ2 h8 => ?_)))
        obtain ⟨h8, h9, h10⟩ := h8
        rw [ea] at h8 h9
        have hF2 := hF1.tr (h10.weak w16)
        rw [show PX k + PY k - i = (PX k + PY k - (i + 1)) + 1 by omega, facV, if_pos (show i < PX k by omega)] at h7
        refine Tr.bnd ?_
        rw [nI_1]
        by_cases hf : fitN (mulW u1 (rv σ0 a)) 12
        · rw [if_pos hf] at h7
          rw [h9, bI_1 hf]
          exact ih (i + 1) σ2 _ (by omega) (by omega) hF2 (fun x hx => (h10.2 x (by omega)).trans (hw x hx)) h8 hf h7
        · rw [if_neg hf] at h7
          rw [h9, bI_0 hf]
          -- the loop ends at once
          cases n with
          | zero => omega
          | succ n =>
            rw [f_X7_compositionOf_L75, r_iOf hk, obn_s]
            refine Tr.ite (fun _ => hN σ2 hF2 h7.symm) (fun _ => ?_)
            rw [if_pos rfl]
            exact hN σ2 hF2 h7.symm
  exact key FU 0 σ u (Nat.zero_le _) (by show PX k < 4096 + 0; omega) hF (fun _ _ => rfl) hu fu hf
theorem r_facB {K : Nat → Nat → Nat → Nat → Nat → Int32 → Int32 → St → Option (Int32 × St)} {Q : Int32 → St → Prop} {k : Nat} {σ0 : St} {u : V} {F : Option V} (hk : k < 10) (hb : off3 b) (fb : fitN (rv σ0 b) 12)
    (hK : ∀ u2 σ1, Fr atQ σ0 σ1 → (∀ x, x = 15 → σ1.2 x = σ.2 x) → rv σ1 16 = u2 → fitN u2 12 → F = some u2 → Tr (K 0 p a b to 1 (nI k) σ1) Q)
    (hN : ∀ σ1, Fr atQ σ0 σ1 → F = none → Tr (K 0 p a b to 0 (nI k) σ1) Q)
    (hF : Fr atQ σ0 σ) (hu : rv σ 16 = u) (fu : fitN u 12) (hf : facV (rv σ0 a) (rv σ0 b) k (PY k) (PX k) u = F) : Tr (f_X7_compositionOf_L114 K FU 0 p a b to 1 (nI k) 0 σ) Q := by
  obtain ⟨-, -, x1, x2, x3⟩ := px_ok k hk
  have key : ∀ n i (σ1 : St) (u1 : V), i ≤ PY k → PY k < n + i → Fr atQ σ0 σ1 → (∀ x, x = 15 → σ1.2 x = σ.2 x) → rv σ1 16 = u1 → fitN u1 12 → facV (rv σ0 a) (rv σ0 b) k (PY k - i) (PX k + i) u1 = F → Tr (f_X7_compositionOf_L114 K n 0 p a b to 1 (nI k) (nI i) σ1) Q := by
    intro n
    induction n with
    | zero => intro i σ1 u1 h1 h2; omega
    | succ n ih =>
      intro i σ1 u1 h1 h2 hF1 hw h5 h6 h7
      rw [f_X7_compositionOf_L114, r_jOf hk, obn_s]
      refine Tr.ite (fun h => ?_) (fun h => ?_)
      · rw [nI_leI (by omega) (by omega)] at h
        have : i = PY k := by omega
        subst this
        rw [Nat.sub_self, facV] at h7
        exact hK u1 σ1 hF1 hw h5 h6 h7.symm
      · rw [nI_leI (by omega) (by omega)] at h
        rw [if_neg (by decide), R16.1]
        have eb : rv σ1 b = rv σ0 b := hb.rd hF1
        refine Tr.gd R0 (Tr.obn ((r_mulP hb (by rw [eb]; exact fb) h5 h6).mono (fun x σ2 h8 => ?_)))
        obtain ⟨h8, h9, h10⟩ := h8
        rw [eb] at h8 h9
        have hF2 := hF1.tr (h10.weak w16)
        rw [show PY k - i = (PY k - (i + 1)) + 1 by omega, facV, if_neg (show ¬ PX k + i < PX k by omega)] at h7
        refine Tr.bnd ?_
        rw [nI_1]
        by_cases hf : fitN (mulW u1 (rv σ0 b)) 12
        · rw [if_pos hf] at h7
          rw [h9, bI_1 hf]
          exact ih (i + 1) σ2 _ (by omega) (by omega) hF2 (fun x hx => (h10.2 x (by omega)).trans (hw x hx)) h8 hf h7
        · rw [if_neg hf] at h7
          rw [h9, bI_0 hf]
          cases n with
          | zero => omega
          | succ n =>
            rw [f_X7_compositionOf_L114, r_jOf hk, obn_s]
            refine Tr.ite (fun _ => hN σ2 hF2 h7.symm) (fun _ => ?_)
            rw [if_pos rfl]
            exact hN σ2 hF2 h7.symm
  exact key FU 0 σ u (Nat.zero_le _) (by show PY k < 4096 + 0; omega) hF (fun _ _ => rfl) hu fu hf
theorem r_facB0 {K : Nat → Nat → Nat → Nat → Nat → Int32 → Int32 → St → Option (Int32 × St)} {Q : Int32 → St → Prop} {k : Nat} (hk : k < 10) (h : Tr (K 0 p a b to 0 (nI k) σ) Q) : Tr (f_X7_compositionOf_L114 K FU 0 p a b to 0 (nI k) 0 σ) Q := by
  show Tr (f_X7_compositionOf_L114 K (4095 + 1) 0 p a b to 0 (nI k) 0 σ) Q
  rw [f_X7_compositionOf_L114, r_jOf hk, obn_s]
  refine Tr.ite (fun _ => h) (fun _ => ?_)
  rw [if_pos rfl]
  exact h
theorem fit_cst {c : Int64} (h : fit1 c) : fitN (cst c) 12 := by
  intro k hk
  unfold cst
  split
  · exact h
  · decide
theorem r_terms {K : Nat → Nat → Nat → Int32 → St → Option (Int32 × St)} {Q : Int32 → St → Prop} {σ0 : St} {C : Option V} (hp : off3 p) (ha : off3 a) (hb : off3 b) (fp : fitN (rv σ0 p) 12) (fa : fitN (rv σ0 a) 12) (fb : fitN (rv σ0 b) 12)
    (hK : ∀ w σ1, C = some w → Fr atQ σ0 σ1 → rv σ1 15 = w → Tr (K 0 p to 1 σ1) Q)
    (hN : ∀ σ1, C = none → Fr atQ σ0 σ1 → Tr (K 0 p to 0 σ1) Q) (hF : Fr atQ σ0 σ) (hC : cmpS (rv σ0 p) (rv σ0 a) (rv σ0 b) 10 0 (rv σ 15) = C) : Tr (f_X7_compositionOf_L31 K FU 0 p a b to 1 0 σ) Q := by
  have i15 : isR 15 := R15.2
  have i16 : isR 16 := R16.2
  have key : ∀ n k (σ1 : St), k ≤ 10 → 11 < n + k → Fr atQ σ0 σ1 → cmpS (rv σ0 p) (rv σ0 a) (rv σ0 b) (10 - k) k (rv σ1 15) = C → Tr (f_X7_compositionOf_L31 K n 0 p a b to 1 (nI k) σ1) Q := by
    intro n
    induction n with
    | zero => intro k σ1 h1 h2; omega
    | succ n ih =>
      intro k σ1 h1 h2 hF1 h5
      have bad : ∀ k σ2, Fr atQ σ0 σ2 → C = none → Tr (f_X7_compositionOf_L31 K n 0 p a b to 0 (nI (k + 1)) σ2) Q := by
        intro k σ2 hF2 hc
        cases n with
        | zero => omega
        | succ n =>
          rw [f_X7_compositionOf_L31]
          refine Tr.ite (fun _ => hN σ2 hc hF2) (fun _ => ?_)
          rw [if_pos rfl]; exact hN σ2 hc hF2
      rw [f_X7_compositionOf_L31]
      refine Tr.ite (fun h => ?_) (fun h => ?_)
      · rw [ten_le (by omega)] at h
        have : k = 10 := by omega
        subst this
        rw [Nat.sub_self, cmpS] at h5
        exact hK _ σ1 h5.symm hF1 rfl
      · rw [ten_le (by omega)] at h
        have hk : k < 10 := by omega
        rw [show 10 - k = (10 - (k + 1)) + 1 by omega, cmpS] at h5
        have ek : σ1.2 p k = rv σ0 p k := by rw [rv_at (show k < 12 by omega), hp.rd hF1]
        rw [if_neg (by decide), nI_clamp (by omega), ek]
        refine Tr.gd (by have := r_gd hp.1 (show k < 12 by omega); rw [nI_clamp (by omega)] at this; exact this) (Tr.ite (fun g => ?_) (fun g => ?_))
        · rw [if_pos g] at h5
          refine Tr.bnd ?_
          rw [nI_1]
          exact ih (k + 1) σ1 (by omega) (by omega) hF1 h5
        · rw [if_neg g] at h5
          rw [R16.1]
          refine Tr.gd R0 (Tr.obn ((r_clearRow i16).mono (fun _ σ2 h6 => ?_)))
          obtain ⟨h6, h7⟩ := h6
          have hF2 : Fr atQ σ0 σ2 := hF1.tr (h7.weak (fun x t => by rw [t]; exact atQ_3.2.2.2))
          have ek2 : σ2.2 p k = rv σ0 p k := by rw [rv_at (show k < 12 by omega), hp.rd hF2]
          rw [ek2, n00]
          have g16 := r_gd00 i16
          rw [n00] at g16
          refine Tr.gd g16 (Tr.bnd ?_)
          have hF3 : Fr atQ σ0 (sJ σ2 16 0 (rv σ0 p k)) := hF2.tr (Fr_J atQ_3.2.2.2)
          have hu : rv (sJ σ2 16 0 (rv σ0 p k)) 16 = cst (rv σ0 p k) := by
            rw [rv_J (by decide), h6]; funext j; unfold setV cst; split <;> rfl
          have hw15 : rv (sJ σ2 16 0 (rv σ0 p k)) 15 = rv σ1 15 := by
            rw [(Fr_J (σ := σ2) (p := 16) (k := 0) (x := rv σ0 p k) (S := fun x => x = 16) rfl).r1 (by decide), h7.r1 (by decide)]
          have keep : ∀ {σ4 : St}, (∀ x, x = 15 → σ4.2 x = (sJ σ2 16 0 (rv σ0 p k)).2 x) → rv σ4 15 = rv σ1 15 := fun h => by rw [← hw15]; exact rv_of (h 15 rfl)
          refine r_facA (σ0 := σ0) (b := b) hk ha fa (fun u2 σ4 hF4 hw4 h8 h9 h10 => ?_) (fun σ4 hF4 hn => ?_) hF3 hu (fit_cst (fp k (by omega))) rfl
          · refine r_facB (σ0 := σ0) (a := a) hk hb fb (fun u3 σ5 hF5 hw5 h11 h12 h13 => ?_) (fun σ5 hF5 hn => ?_) hF4 h8 h9 h10
            · rw [if_neg (by decide), R15.1, R16.1]
              rw [h13] at h5
              dsimp only at h5
              refine Tr.gd R0 (Tr.obn ((r_add i15 i16 i15).mono (fun x σ6 h14 => ?_)))
              obtain ⟨h14, h15, h16⟩ := h14
              rw [h11, keep (fun x hx => (hw5 x hx).trans (hw4 x hx))] at h14
              have hF6 : Fr atQ σ0 σ6 := hF5.tr (h16.weak (fun x t => by rw [t]; exact atQ_3.2.2.1))
              by_cases hf : fitN (addV (rv σ1 15) u3) 12
              · rw [if_pos hf, ← h14] at h5
                rw [h15, h14, bI_1 hf, if_neg (by decide)]
                refine Tr.bnd ?_
                rw [nI_1]
                exact ih (k + 1) σ6 (by omega) (by omega) hF6 h5
              · rw [if_neg hf] at h5
                rw [h15, h14, bI_0 hf, if_pos rfl]
                refine Tr.bnd ?_
                rw [nI_1]
                exact bad k σ6 hF6 h5.symm
            · rw [if_pos rfl]
              rw [hn] at h5
              refine Tr.bnd ?_
              rw [nI_1]
              exact bad k σ5 hF5 h5.symm
          · rw [hn] at h5
            refine r_facB0 hk ?_
            rw [if_pos rfl]
            refine Tr.bnd ?_
            rw [nI_1]
            exact bad k σ4 hF4 h5.symm
  exact key FU 0 σ (by decide) (by decide) hF hC
/-- why a composition isn't possible; 0: it is -/
def rsn (p a b : V) : Int32 := if sq a then if sq b then match cmpV p a b with
    | none => 3
    | some _ => 0 else 2 else 1
theorem r_compositionOf (hp : off3 p) (ha : off3 a) (hb : off3 b) (ht : isR to) (fp : fitN (rv σ p) 12) (fa : fitN (rv σ a) 12) (fb : fitN (rv σ b) 12) :
    Tr (f_X7_compositionOf 0 p a b to σ) (fun r σ' => r = rsn (rv σ p) (rv σ a) (rv σ b) ∧ ((∃ v, compV (rv σ p) (rv σ a) (rv σ b) = some v ∧ r = 0 ∧ rv σ' to = v) ∨ (compV (rv σ p) (rv σ a) (rv σ b) = none ∧ r ≠ 0)) ∧ Fr (fun x => atQ x ∨ x = to) σ σ') := by
  have i15 : isR 15 := R15.2
  unfold f_X7_compositionOf rsn compV
  rw [r_isWithin ha.1 fa, obn_s]
  by_cases s1 : sq (rv σ a)
  · rw [bI_1 s1, if_neg (by decide), r_isWithin hb.1 fb, obn_s, if_pos s1]
    by_cases s2 : sq (rv σ b)
    · rw [bI_1 s2, if_neg (by decide), if_pos (show sq (rv σ a) ∧ sq (rv σ b) from ⟨s1, s2⟩), if_pos s2, R15.1]
      refine Tr.gd R0 (Tr.obn ((r_clearRow i15).mono (fun _ σ1 h1 => ?_)))
      obtain ⟨h1, hF1⟩ := h1
      have hF1' : Fr atQ σ σ1 := hF1.weak (fun x t => by rw [t]; exact atQ_3.2.2.1)
      unfold cmpV
      refine r_terms (σ0 := σ) hp ha hb fp fa fb (fun w σ2 hC hF2 h2 => ?_) (fun σ2 hC hF2 => ?_) hF1' rfl
      · rw [h1] at hC
        rw [hC, R15.1, n10, n11]
        dsimp only
        have g15 := r_gd10 i15
        have g15' := r_gd11 i15
        have gp := r_gd10 hp.1
        have gp' := r_gd11 hp.1
        rw [n10] at g15 gp
        rw [n11] at g15' gp'
        refine Tr.gd R0 (Tr.gd g15 (Tr.gd gp (Tr.bnd (Tr.gd g15' (Tr.gd gp' (Tr.bnd ?_))))))
        rw [if_neg (by decide), r_isSmall i15, obn_s]
        have ep : ∀ k, k < 12 → σ2.2 p k = rv σ p k := fun k hk => by rw [rv_at hk, hp.rd hF2]
        have hv : rv (sJ (sJ σ2 15 10 (σ2.2 15 10 + σ2.2 p 10)) 15 11 ((sJ σ2 15 10 (σ2.2 15 10 + σ2.2 p 10)).2 15 11 + (sJ σ2 15 10 (σ2.2 15 10 + σ2.2 p 10)).2 p 11)) 15 = cmpE (rv σ p) w := by
          rw [rv_J (k := 11) (by decide), rv_J (k := 10) (by decide), sJ_at, if_neg (by decide), sJ_at, if_neg (fun t => absurd t.2 (by decide)), ep 10 (by decide), ep 11 (by decide), rv_at (show 10 < 12 by decide), rv_at (show 11 < 12 by decide), h2]
          rfl
        rw [hv]
        have hF3 : ∀ {x y : Int64}, Fr atQ σ (sJ (sJ σ2 15 10 x) 15 11 y) := fun {x y} => (hF2.tr (Fr_J atQ_3.2.2.1)).tr (Fr_J atQ_3.2.2.1)
        by_cases hf : fitN (cmpE (rv σ p) w) 12
        · rw [bI_1 hf, if_neg (by decide), if_pos hf]
          refine Tr.obn ((r_copyRow i15 ht).mono (fun _ σ4 h4 => Tr.ret ⟨rfl, Or.inl ⟨_, rfl, rfl, ?_⟩, ?_⟩))
          · rw [h4.1, hv]
          · exact (hF3.weak (fun _ t => Or.inl t)).tr (h4.2.weak (fun _ t => Or.inr t))
        · rw [bI_0 hf, if_pos rfl, if_neg hf]
          exact Tr.ret ⟨rfl, Or.inr ⟨rfl, by decide⟩, hF3.weak (fun _ t => Or.inl t)⟩
      · rw [h1] at hC
        rw [hC, R15.1, n10, n11]
        dsimp only
        have g15 := r_gd10 i15
        have g15' := r_gd11 i15
        have gp := r_gd10 hp.1
        have gp' := r_gd11 hp.1
        rw [n10] at g15 gp
        rw [n11] at g15' gp'
        refine Tr.gd R0 (Tr.gd g15 (Tr.gd gp (Tr.bnd (Tr.gd g15' (Tr.gd gp' (Tr.bnd ?_))))))
        rw [if_pos rfl]
        refine Tr.ret ⟨rfl, Or.inr ⟨rfl, by decide⟩, ?_⟩
        exact ((hF2.tr (Fr_J atQ_3.2.2.1)).tr (Fr_J atQ_3.2.2.1)).weak (fun _ t => Or.inl t)
    · rw [bI_0 s2, if_pos rfl, if_neg s2, if_neg (show ¬ (sq (rv σ a) ∧ sq (rv σ b)) from fun t => s2 t.2)]
      exact Tr.ret ⟨rfl, Or.inr ⟨rfl, by decide⟩, Fr.rf⟩
  · rw [bI_0 s1, if_pos rfl, if_neg s1, if_neg (show ¬ (sq (rv σ a) ∧ sq (rv σ b)) from fun t => s1 t.1)]
    exact Tr.ret ⟨rfl, Or.inr ⟨rfl, by decide⟩, Fr.rf⟩
end RSUM
