/-! THE STORE: a world of objects at the addresses b, b + 1, ..; what each place is (sk) stands fast; its ints and longs are the store σ -/
abbrev St : Type := (Nat → Nat → Int32) × (Nat → Nat → Int64)
abbrev Sk : Type := Nat × (Nat → Nat × Nat) × (Nat → Nat → Nat)
def sI (σ : St) (p k : Nat) (v : Int32) : St := (fun q j => if q = p ∧ j = k then v else σ.1 q j, σ.2)
def sJ (σ : St) (p k : Nat) (v : Int64) : St := (σ.1, fun q j => if q = p ∧ j = k then v else σ.2 q j)
def sC (σ : St) (p : Nat) (f : Nat → Int64) : St := (σ.1, fun q => if q = p then f else σ.2 q)
/-- the fields of a class, by its place in vwCl: 0 int, 1 long, 2 a reference -/
def tgL : List (List Nat) := [[2, 1, 1, 2, 2, 2, 2, 2], [2, 0, 0], [2, 1, 1], [2, 0], [2, 2, 2, 2, 2, 2, 2, 0], [2, 0, 2, 2, 0, 0, 0, 0, 0], [2, 2, 2, 2, 2, 0], [0, 2, 0, 0, 0, 0, 0, 0, 2, 2, 2, 0, 2, 2, 2, 2, 2, 0, 2, 2, 2, 2, 2, 0, 2, 2, 2, 2, 2, 2]]
def nF (ci : Nat) : Nat := (tgL.getD ci []).length
def tgF (ci k : Nat) : Nat := (tgL.getD ci []).getD k 0
def fV (sk : Sk) (b : Nat) (fl : Nat → Nat → Bool) (σ : St) (p ci k : Nat) : Value := if tgF ci k = 0 then .int (σ.1 p k) else if tgF ci k = 1 then .long (σ.2 p k) else if fl p k = true then .ref (b + sk.2.2 p k) else .null
def rE (sk : Sk) (b : Nat) (fl : Nat → Nat → Bool) (p : Nat) : Nat → Option Nat := fun j => if fl p j = true then some (b + sk.2.2 p j) else none
def cE (cy : Nat → ClassId) (sk : Sk) (b : Nat) (fl : Nat → Nat → Bool) (σ : St) (p : Nat) : va_E :=
  if (sk.2.1 p).1 = 0 then .inr ((sk.2.1 p).2, (List.range (nF (sk.2.1 p).2)).map (fV sk b fl σ p (sk.2.1 p).2))
  else if (sk.2.1 p).1 = 1 then .inl (cy 1, (sk.2.1 p).2, .inl (σ.1 p))
  else if (sk.2.1 p).1 = 2 then .inl (cy 2, (sk.2.1 p).2, .inr (.inl (σ.2 p)))
  else .inl (cy (sk.2.1 p).1, (sk.2.1 p).2, .inr (.inr (.inr (.inr (rE sk b fl p)))))
def cel (cy : Nat → ClassId) (sk : Sk) (b : Nat) (fl : Nat → Nat → Bool) (N : Nat) (σ : St) : va_W := (List.range N).map (fun p => (b + p, cE cy sk b fl σ p))
abbrev yes : Nat → Nat → Bool := fun _ _ => true
section CELLS
variable {cy : Nat → ClassId} {sk : Sk} {b : Nat} {fl fl' : Nat → Nat → Bool} {N : Nat} {σ σ' : St} {p : Nat}
theorem cE_obj {ci : Nat} (h : sk.2.1 p = (0, ci)) : cE cy sk b fl σ p = .inr (ci, (List.range (nF ci)).map (fV sk b fl σ p ci)) := by
  unfold cE; rw [h]; rfl
theorem cE_int {n : Nat} (h : sk.2.1 p = (1, n)) : cE cy sk b fl σ p = .inl (cy 1, n, .inl (σ.1 p)) := by
  unfold cE; rw [h]; rfl
theorem cE_long {n : Nat} (h : sk.2.1 p = (2, n)) : cE cy sk b fl σ p = .inl (cy 2, n, .inr (.inl (σ.2 p))) := by
  unfold cE; rw [h]; rfl
theorem cE_ref {t n : Nat} (h : sk.2.1 p = (t + 3, n)) : cE cy sk b fl σ p = .inl (cy (t + 3), n, .inr (.inr (.inr (.inr (rE sk b fl p))))) := by
  unfold cE; rw [h]; simp
theorem cel_get (hp : p < N) : (cel cy sk b fl N σ)[p]? = some (b + p, cE cy sk b fl σ p) := by
  simp [cel, hp]
theorem cel_at {k : Nat} {q : Nat × va_E} (h : (cel cy sk b fl N σ)[k]? = some q) : k < N ∧ q = (b + k, cE cy sk b fl σ k) := by
  have hl := (List.getElem?_eq_some_iff.mp h).1
  have hN : k < N := by simpa [cel] using hl
  rw [cel_get hN] at h
  exact ⟨hN, (Option.some.inj h).symm⟩
theorem cel_set {e : va_E} (hp : p < N) (he : cE cy sk b fl' σ' p = e) (ho : ∀ q, q < N → q ≠ p → cE cy sk b fl' σ' q = cE cy sk b fl σ q) : (cel cy sk b fl N σ).set p (b + p, e) = cel cy sk b fl' N σ' := by
  apply List.ext_getElem?
  intro i
  by_cases hi : i < N
  · rw [cel_get hi]
    by_cases hip : i = p
    · subst hip
      rw [List.getElem?_set_self (by simpa [cel] using hi), he]
    · rw [List.getElem?_set_ne (Ne.symm hip), cel_get hi, ho i hi hip]
  · rw [List.getElem?_eq_none (by simpa [cel] using Nat.le_of_not_lt hi), List.getElem?_eq_none (by simpa [cel] using Nat.le_of_not_lt hi)]
theorem cel_D {A : Nat → Prop} (h : ∀ q, q < N → A (b + q)) : va_D A (cel cy sk b fl N σ) := by
  refine ⟨fun i j x y hi hj hxy => ?_, fun k q hk => ?_⟩
  · obtain ⟨-, rfl⟩ := cel_at hi
    obtain ⟨-, rfl⟩ := cel_at hj
    dsimp only at hxy
    omega
  · obtain ⟨h1, rfl⟩ := cel_at hk
    exact h k h1
theorem cel_succ : cel cy sk b fl (N + 1) σ = cel cy sk b fl N σ ++ [(b + N, cE cy sk b fl σ N)] := by
  simp [cel, List.range_succ]
theorem cE_congr (h1 : ∀ k, σ'.1 p k = σ.1 p k) (h2 : ∀ k, σ'.2 p k = σ.2 p k) (h3 : ∀ k, fl' p k = fl p k) : cE cy sk b fl' σ' p = cE cy sk b fl σ p := by
  have e1 : σ'.1 p = σ.1 p := funext h1
  have e2 : σ'.2 p = σ.2 p := funext h2
  have e3 : rE sk b fl' p = rE sk b fl p := by funext j; simp only [rE, h3]
  have e4 : ∀ ci, fV sk b fl' σ' p ci = fV sk b fl σ p ci := by intro ci; funext k; simp only [fV, h1, h2, h3]
  unfold cE
  rw [e1, e2, e3, e4]
theorem cel_congr (h : ∀ q, q < N → cE cy sk b fl' σ' q = cE cy sk b fl σ q) : cel cy sk b fl' N σ' = cel cy sk b fl N σ := by
  apply List.ext_getElem?
  intro i
  by_cases hi : i < N
  · rw [cel_get hi, cel_get hi, h i hi]
  · rw [List.getElem?_eq_none (by simpa [cel] using Nat.le_of_not_lt hi), List.getElem?_eq_none (by simpa [cel] using Nat.le_of_not_lt hi)]
theorem sI_same {k : Nat} {v : Int32} : (sI σ p k v).1 p k = v := by simp [sI]
theorem sI_objset {ci k : Nat} {v : Int32} (h : sk.2.1 p = (0, ci)) (ht : tgF ci k = 0) : cE cy sk b fl (sI σ p k v) p = .inr (ci, ((List.range (nF ci)).map (fV sk b fl σ p ci)).set k (.int v)) := by
  rw [cE_obj h]
  congr 2
  apply List.ext_getElem?
  intro i
  by_cases hi : i < nF ci
  · by_cases hik : i = k
    · subst hik
      rw [List.getElem?_set_self (by simpa using hi)]
      simp [hi, fV, ht, sI]
    · rw [List.getElem?_set_ne (Ne.symm hik)]
      simp [hi, fV, sI, hik]
  · rw [List.getElem?_eq_none (by simpa using Nat.le_of_not_lt hi), List.getElem?_eq_none (by simpa using Nat.le_of_not_lt hi)]
theorem sJ_objset {ci k : Nat} {v : Int64} (h : sk.2.1 p = (0, ci)) (ht : tgF ci k = 1) : cE cy sk b fl (sJ σ p k v) p = .inr (ci, ((List.range (nF ci)).map (fV sk b fl σ p ci)).set k (.long v)) := by
  rw [cE_obj h]
  congr 2
  apply List.ext_getElem?
  intro i
  by_cases hi : i < nF ci
  · by_cases hik : i = k
    · subst hik
      rw [List.getElem?_set_self (by simpa using hi)]
      simp [hi, fV, ht, sJ]
    · rw [List.getElem?_set_ne (Ne.symm hik)]
      simp [hi, fV, sJ, hik]
  · rw [List.getElem?_eq_none (by simpa using Nat.le_of_not_lt hi), List.getElem?_eq_none (by simpa using Nat.le_of_not_lt hi)]
theorem sI_other {k q : Nat} {v : Int32} (h : q ≠ p) : cE cy sk b fl (sI σ p k v) q = cE cy sk b fl σ q := cE_congr (fun j => by simp [sI, h]) (fun j => rfl) (fun _ => rfl)
theorem sJ_other {k q : Nat} {v : Int64} (h : q ≠ p) : cE cy sk b fl (sJ σ p k v) q = cE cy sk b fl σ q := cE_congr (fun j => rfl) (fun j => by simp [sJ, h]) (fun _ => rfl)
theorem sC_other {q : Nat} {f : Nat → Int64} (h : q ≠ p) : cE cy sk b fl (sC σ p f) q = cE cy sk b fl σ q := cE_congr (fun j => rfl) (fun j => by simp [sC, h]) (fun _ => rfl)
theorem sI_arr {n k : Nat} {v : Int32} (h : sk.2.1 p = (1, n)) : cE cy sk b fl (sI σ p k v) p = .inl (cy 1, n, .inl (upd (σ.1 p) k v)) := by
  rw [cE_int h]
  congr 3
  congr 1
  funext j
  simp [sI, upd]
theorem sJ_arr {n k : Nat} {v : Int64} (h : sk.2.1 p = (2, n)) : cE cy sk b fl (sJ σ p k v) p = .inl (cy 2, n, .inr (.inl (vp_updL (σ.2 p) k v))) := by
  rw [cE_long h]
  congr 4
  congr 1
  funext j
  simp [sJ, vp_updL]
theorem sC_arr {n : Nat} {f : Nat → Int64} (h : sk.2.1 p = (2, n)) : cE cy sk b fl (sC σ p f) p = .inl (cy 2, n, .inr (.inl f)) := by
  rw [cE_long h]
  simp [sC]
end CELLS
