/-! THE PLAIN PART: both classes as functions over stores; what a call comes to -/
def Tr {α : Type} (x : Option (α × St)) (P : α → St → Prop) : Prop := ∃ a σ, x = some (a, σ) ∧ P a σ
section TR
variable {α β : Type} {P : β → St → Prop}
theorem Tr.ret {a : β} {σ : St} (h : P a σ) : Tr (some (a, σ)) P := ⟨a, σ, rfl, h⟩
theorem Tr.gd {c : Prop} [Decidable c] {x : Option (β × St)} (hc : c) (h : Tr x P) : Tr (gd c x) P := by
  unfold Jvm.Pilot.CTaylorModelsLaw_law_r5112_b8f7e9.gd; rw [if_pos hc]; exact h
theorem Tr.bnd {a : α} {f : α → Option (β × St)} (h : Tr (f a) P) : Tr (bnd a f) P := h
theorem Tr.obn {x : Option (α × St)} {f : α → St → Option (β × St)} (h : Tr x (fun a σ => Tr (f a σ) P)) : Tr (obn x f) P := by
  obtain ⟨a, σ, rfl, h⟩ := h
  exact h
theorem Tr.obx {x : Option ((Nat ⊕ α) × St)} {g : Nat → St → Option (β × St)} {f : α → St → Option (β × St)} (h : Tr x (fun a σ => (∀ e, a = .inl e → Tr (g e σ) P) ∧ ∀ v, a = .inr v → Tr (f v σ) P)) : Tr (obx x g f) P := by
  obtain ⟨a, σ, rfl, h1, h2⟩ := h
  rcases a with e | v
  · exact h1 e rfl
  · exact h2 v rfl
theorem Tr.ite {c : Prop} [Decidable c] {x y : Option (β × St)} (h1 : c → Tr x P) (h2 : ¬ c → Tr y P) : Tr (if c then x else y) P := by
  by_cases h : c
  · rw [if_pos h]; exact h1 h
  · rw [if_neg h]; exact h2 h
theorem Tr.mono {x : Option (β × St)} {Q : β → St → Prop} (h : Tr x Q) (hq : ∀ a σ, Q a σ → P a σ) : Tr x P := by
  obtain ⟨a, σ, e, h⟩ := h
  exact ⟨a, σ, e, hq a σ h⟩
theorem Tr.eq {x : Option (β × St)} {a : β} {σ : St} (e : x = some (a, σ)) (h : P a σ) : Tr x P := ⟨a, σ, e, h⟩
end TR
theorem gd_p {β : Type} {c : Prop} [Decidable c] {x : Option β} (h : c) : gd c x = x := by unfold gd; rw [if_pos h]
theorem ge_pos {N k : Nat} (hN : N < 2 ^ 31) (h : k < N) : ¬ (nI k < 0 ∨ N ≤ (nI k).toNatClampNeg) := nI_in h hN
/-- sums of the first n -/
def sumN (f : Nat → Int64) : Nat → Int64
  | 0 => 0
  | n + 1 => sumN f n + f n
theorem sumN_congr {f g : Nat → Int64} : ∀ {n : Nat}, (∀ k, k < n → f k = g k) → sumN f n = sumN g n
  | 0, _ => rfl
  | n + 1, h => by rw [sumN, sumN, sumN_congr (fun k hk => h k (Nat.lt_succ_of_lt hk)), h n (Nat.lt_succ_self n)]
/-- a Model of the class at the place q: its coefficients lie behind it -/
abbrev isM (q : Nat) : Prop := kC q = (0, 2) ∧ rC q 0 = q + 1 ∧ kC (q + 1) = (2, 10)
theorem isM_all : ∀ q, q < 258 → (¬ kC q = (0, 2) ∨ isM q) := by decide +kernel
theorem isM_of {q : Nat} (h : kC q = (0, 2)) : isM q := by
  rcases Nat.lt_or_ge q 258 with hq | hq
  · exact (isM_all q hq).resolve_left (fun z => z h)
  · have := skC_ok q hq
    have h2 : (kC q).1 = 9 := this
    rw [h] at h2
    cases h2
abbrev V : Type := Nat → Int64
def val (σ : St) (q : Nat) : V := fun k => if k < 10 then σ.2 (q + 1) k else if k = 10 then σ.2 q 1 else if k = 11 then σ.2 q 2 else 0
theorem val_c {σ : St} {q k : Nat} (h : k < 10) : σ.2 (q + 1) k = val σ q k := by unfold val; rw [if_pos h]
theorem val_lo {σ : St} {q : Nat} : σ.2 q 1 = val σ q 10 := rfl
theorem val_hi {σ : St} {q : Nat} : σ.2 q 2 = val σ q 11 := rfl
theorem isM.ne {q p : Nat} (hq : isM q) (hp : isM p) : q ≠ p + 1 := by
  intro e
  have h1 := hq.1
  have h2 := hp.2.2
  rw [e, h2] at h1
  cases h1
/-- only long places of S change -/
def Fr (S : Nat → Prop) (σ σ' : St) : Prop := σ'.1 = σ.1 ∧ ∀ p, ¬ S p → σ'.2 p = σ.2 p
theorem Fr.rf {S : Nat → Prop} {σ : St} : Fr S σ σ := ⟨rfl, fun _ _ => rfl⟩
theorem Fr.trans {S T : Nat → Prop} {σ σ1 σ2 : St} (h : Fr S σ σ1) (h' : Fr T σ1 σ2) : Fr (fun p => S p ∨ T p) σ σ2 := ⟨h'.1.trans h.1, fun p hp => (h'.2 p (fun z => hp (Or.inr z))).trans (h.2 p (fun z => hp (Or.inl z)))⟩
theorem Fr.weak {S T : Nat → Prop} {σ σ1 : St} (h : Fr S σ σ1) (hs : ∀ p, S p → T p) : Fr T σ σ1 := ⟨h.1, fun p hp => h.2 p (fun z => hp (hs p z))⟩
def at2 (q : Nat) : Nat → Prop := fun p => p = q ∨ p = q + 1
theorem Fr.vl {S : Nat → Prop} {σ σ' : St} (h : Fr S σ σ') {q : Nat} (h1 : ¬ S q) (h2 : ¬ S (q + 1)) : val σ' q = val σ q := by
  unfold Jvm.Pilot.CTaylorModelsLaw_law_r5112_b8f7e9.val
  rw [h.2 q h1, h.2 (q + 1) h2]
theorem Fr.vl2 {σ σ' : St} {q r : Nat} (h : Fr (at2 q) σ σ') (hq : isM q) (hr : isM r) (hne : r ≠ q) : val σ' r = val σ r := by
  refine h.vl (fun z => ?_) (fun z => ?_)
  · rcases z with z | z
    · exact hne z
    · exact hr.ne hq z
  · rcases z with z | z
    · exact hq.ne hr z.symm
    · exact hne (by omega)
def LW (k : Nat) : Int64 := ((stL 3).getD k 0).toInt64
def sLo (v : V) : Int64 := sumN (fun k => mnJ (v k * LW k) (v k)) 10
def sHi (v : V) : Int64 := sumN (fun k => mxJ (v k * LW k) (v k)) 10
theorem ten_le {k : Nat} (h : k < 2 ^ 31) : ((10 : Int32) ≤ nI k) ↔ 10 ≤ k := nI_leI (by decide) h
section SPREAD
variable {q : Nat} {σ : St}
theorem e_spreadLow (hq : isM q) : f_X2_spreadLow q σ = some (sLo (val σ q), σ) := by
  have key : ∀ n k, k ≤ 10 → 10 < n + k → f_X2_spreadLow_L4 n q (sumN (fun k => mnJ (val σ q k * LW k) (val σ q k)) k) (nI k) σ = some (sLo (val σ q), σ) := by
    intro n
    induction n with
    | zero => intro k h1 h2; omega
    | succ n ih =>
      intro k h1 h2
      rw [f_X2_spreadLow_L4]
      by_cases hk : k = 10
      · subst hk; rw [if_pos (by decide)]; rfl
      · have hk : k < 10 := by omega
        rw [if_neg (by rw [ten_le (by omega)]; omega), gd_p hq.1, hq.2.1, hq.2.2, gd_p ⟨rfl, ge_pos (by decide) hk⟩, gd_p (ge_pos (by decide) (show k < (stL 3).length from hk)), nI_clamp (by omega), val_c hk]
        show f_X2_spreadLow_L4 n q _ (nI k + 1) σ = _
        rw [nI_1]
        exact ih (k + 1) (by omega) (by omega)
  exact key FU 0 (by decide) (by decide)
theorem e_spreadHigh (hq : isM q) : f_X2_spreadHigh q σ = some (sHi (val σ q), σ) := by
  have key : ∀ n k, k ≤ 10 → 10 < n + k → f_X2_spreadHigh_L4 n q (sumN (fun k => mxJ (val σ q k * LW k) (val σ q k)) k) (nI k) σ = some (sHi (val σ q), σ) := by
    intro n
    induction n with
    | zero => intro k h1 h2; omega
    | succ n ih =>
      intro k h1 h2
      rw [f_X2_spreadHigh_L4]
      by_cases hk : k = 10
      · subst hk; rw [if_pos (by decide)]; rfl
      · have hk : k < 10 := by omega
        rw [if_neg (by rw [ten_le (by omega)]; omega), gd_p hq.1, hq.2.1, hq.2.2, gd_p ⟨rfl, ge_pos (by decide) hk⟩, gd_p (ge_pos (by decide) (show k < (stL 3).length from hk)), nI_clamp (by omega), val_c hk]
        show f_X2_spreadHigh_L4 n q _ (nI k + 1) σ = _
        rw [nI_1]
        exact ih (k + 1) (by omega) (by omega)
  exact key FU 0 (by decide) (by decide)
theorem e_boundLow (hq : isM q) : f_X2_boundLow q σ = some (sLo (val σ q) + val σ q 10, σ) := by
  unfold f_X2_boundLow; rw [gd_p hq.1, e_spreadLow hq]; rfl
theorem e_boundHigh (hq : isM q) : f_X2_boundHigh q σ = some (sHi (val σ q) + val σ q 11, σ) := by
  unfold f_X2_boundHigh; rw [gd_p hq.1, e_spreadHigh hq]; rfl
/-- within what a model may hold -/
abbrev fit1 (x : Int64) : Prop := ¬ x < -100000000 ∧ ¬ 100000000 < x
abbrev fitN (v : V) (n : Nat) : Prop := ∀ k, k < n → fit1 (v k)
def bI (p : Prop) [Decidable p] : Int32 := if p then 1 else 0
theorem e_fits (hq : isM q) : f_X2_fits q σ = some (bI (fitN (val σ q) 12), σ) := by
  have key : ∀ n k, k ≤ 10 → 10 < n + k → fitN (val σ q) k → f_X2_fits_L2 (fun (q5 : Nat) (σ4 : St) => gd (kC q5 = (0, 2)) <| if (σ4.2 q5 1) < (-100000000 : Int64) then (some ((0 : Int32), σ4)) else (if (100000000 : Int64) < (σ4.2 q5 1) then (some ((0 : Int32), σ4)) else (if (σ4.2 q5 2) < (-100000000 : Int64) then (some ((0 : Int32), σ4)) else (if (100000000 : Int64) < (σ4.2 q5 2) then (some ((0 : Int32), σ4)) else (some ((1 : Int32), σ4)))))) n q (nI k) σ = some (bI (fitN (val σ q) 12), σ) := by
    intro n
    induction n with
    | zero => intro k h1 h2; omega
    | succ n ih =>
      intro k h1 h2 hf
      have bad : ∀ j, j < 12 → ¬ fit1 (val σ q j) → (some ((0 : Int32), σ) : Option (Int32 × St)) = some (bI (fitN (val σ q) 12), σ) := by
        intro j hj hb
        unfold bI; rw [if_neg (fun z => hb (z j hj))]
      rw [f_X2_fits_L2]
      by_cases hk : k = 10
      · subst hk
        rw [if_pos (by decide), gd_p hq.1, val_lo, val_hi]
        split
        · rename_i h; exact bad 10 (by decide) (fun z => z.1 h)
        · rename_i h
          split
          · rename_i h'; exact bad 10 (by decide) (fun z => z.2 h')
          · rename_i h'
            split
            · rename_i h3; exact bad 11 (by decide) (fun z => z.1 h3)
            · rename_i h3
              split
              · rename_i h4; exact bad 11 (by decide) (fun z => z.2 h4)
              · rename_i h4
                unfold bI
                rw [if_pos]
                intro j hj
                rcases (show j < 10 ∨ j = 10 ∨ j = 11 by omega) with g | rfl | rfl
                · exact hf j g
                · exact ⟨h, h'⟩
                · exact ⟨h3, h4⟩
      · have hk : k < 10 := by omega
        rw [if_neg (by rw [ten_le (by omega)]; omega), gd_p hq.1, hq.2.1, hq.2.2, gd_p ⟨rfl, ge_pos (by decide) hk⟩, nI_clamp (by omega), val_c hk]
        split
        · rename_i h; exact bad k (by omega) (fun z => z.1 h)
        · rename_i h
          split
          · rename_i h'; exact bad k (by omega) (fun z => z.2 h')
          · rename_i h'
            show f_X2_fits_L2 _ n q (nI k + 1) σ = _
            rw [nI_1]
            refine ih (k + 1) (by omega) (by omega) (fun j hj => ?_)
            rcases (show j < k ∨ j = k by omega) with g | rfl
            · exact hf j g
            · exact ⟨h, h'⟩
  exact key FU 0 (by decide) (by decide) (fun j hj => absurd hj (by omega))
end SPREAD
