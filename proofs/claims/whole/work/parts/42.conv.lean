/-! FROM THE GROWN WORLD TO THE WORLD OF THE METHODS -/
def agrB (sk : Sk) (x : Sg) (σ : St) (p : Nat) : Bool :=
  if (sk.2.1 p).1 = 0 then (List.range (nF (sk.2.1 p).2)).all (fun j => if tgF (sk.2.1 p).2 j = 0 then decide (x.2.2.1 p j = σ.1 p j) else if tgF (sk.2.1 p).2 j = 1 then decide (x.2.2.2 p j = σ.2 p j) else x.2.1 p j)
  else if (sk.2.1 p).1 = 1 then (List.range (sk.2.1 p).2).all (fun j => decide (x.2.2.1 p j = σ.1 p j))
  else if (sk.2.1 p).1 = 2 then (List.range (sk.2.1 p).2).all (fun j => decide (x.2.2.2 p j = σ.2 p j))
  else (List.range (sk.2.1 p).2).all (fun j => x.2.1 p j)
theorem agr_at {D : va_G} {cy : Nat → ClassId} {sk : Sk} {b : Nat} {x : Sg} {σ : St} {p : Nat} {H : Heap} (h : agrB sk x σ p = true) (ha : va_at D vwCl (b + p, cE cy sk b x.2.1 x.2.2 p) H) : va_at D vwCl (b + p, cE cy sk b yes σ p) H := by
  unfold agrB at h
  split at h
  · rename_i h0
    obtain ⟨t, hk⟩ : ∃ ci, sk.2.1 p = (0, ci) := ⟨(sk.2.1 p).2, pr_eq h0⟩
    rw [cE_obj hk] at ha ⊢
    rw [hk] at h
    have e : (List.range (nF t)).map (fV sk b yes σ p t) = (List.range (nF t)).map (fV sk b x.2.1 x.2.2 p t) := by
      apply List.map_congr_left
      intro j hj
      have h1 := List.all_eq_true.mp h j hj
      unfold fV
      by_cases h2 : tgF t j = 0
      · simp only [h2, if_true, decide_eq_true_eq] at h1 ⊢
        rw [h1]
      · by_cases h3 : tgF t j = 1
        · simp only [h2, h3, if_true, if_false, decide_eq_true_eq] at h1 ⊢
          simp only [Nat.one_ne_zero, if_false, if_true, decide_eq_true_eq] at h1 ⊢
          rw [h1]
        · simp only [h2, h3, if_false] at h1 ⊢
          rw [h1]
          simp
    rw [e]
    exact ha
  · split at h
    · rename_i h0
      have hk : sk.2.1 p = (1, (sk.2.1 p).2) := pr_eq h0
      rw [cE_int hk] at ha ⊢
      have ha : H[b + p]? = some (arrV (cy 1) (sk.2.1 p).2 (fun j => Value.int (x.2.2.1 p j))) := ha
      show H[b + p]? = some (arrV (cy 1) (sk.2.1 p).2 (fun j => Value.int (σ.1 p j)))
      rw [ha]
      refine congrArg some (arrV_congr (fun j hj => ?_))
      have h1 := List.all_eq_true.mp h j (List.mem_range.mpr hj)
      rw [decide_eq_true_eq] at h1
      rw [h1]
    · split at h
      · rename_i h0
        have hk : sk.2.1 p = (2, (sk.2.1 p).2) := pr_eq h0
        rw [cE_long hk] at ha ⊢
        have ha : H[b + p]? = some (arrV (cy 2) (sk.2.1 p).2 (fun j => Value.long (x.2.2.2 p j))) := ha
        show H[b + p]? = some (arrV (cy 2) (sk.2.1 p).2 (fun j => Value.long (σ.2 p j)))
        rw [ha]
        refine congrArg some (arrV_congr (fun j hj => ?_))
        have h1 := List.all_eq_true.mp h j (List.mem_range.mpr hj)
        rw [decide_eq_true_eq] at h1
        rw [h1]
      · rename_i h0 h1 h2
        obtain ⟨t, ht⟩ : ∃ t, (sk.2.1 p).1 = t + 3 := ⟨(sk.2.1 p).1 - 3, by omega⟩
        have hk : sk.2.1 p = (t + 3, (sk.2.1 p).2) := pr_eq ht
        rw [cE_ref hk] at ha ⊢
        have ha : H[b + p]? = some (arrV (cy (t + 3)) (sk.2.1 p).2 (fun j => va_rf (rE sk b x.2.1 p j))) := ha
        show H[b + p]? = some (arrV (cy (t + 3)) (sk.2.1 p).2 (fun j => va_rf (rE sk b yes p j)))
        rw [ha]
        refine congrArg some (arrV_congr (fun j hj => ?_))
        have h3 := List.all_eq_true.mp h j (List.mem_range.mpr hj)
        unfold rE
        rw [h3]
def agrA (sk : Sk) (x : Option Sg) (σ : St) : Bool := match x with
  | some x => decide (x.1 = sk.1) && (List.range sk.1).all (agrB sk x σ)
  | none => false
theorem agr_all {D : va_G} {cy : Nat → ClassId} {sk : Sk} {b : Nat} {o : Option Sg} {σ : St} (h : agrA sk o σ = true) : ∃ x, o = some x ∧ x.1 = sk.1 ∧ ∀ {H : Heap}, va_P D vwCl (celK cy sk b x) H → va_P D vwCl (cel cy sk b yes sk.1 σ) H := by
  match o, h with
  | some x, h =>
    simp only [agrA, Bool.and_eq_true, decide_eq_true_eq] at h
    refine ⟨x, rfl, h.1, fun {H} hP k q hq => ?_⟩
    obtain ⟨hk, rfl⟩ := cel_at hq
    exact agr_at (List.all_eq_true.mp h.2 k (List.mem_range.mpr hk)) (hP k _ (cel_get (by rw [h.1]; exact hk)))
/-- nothing yet; the stores that the constructors leave -/
def x00 : Sg := (0, fun _ _ => false, (fun _ _ => 0, fun _ _ => 0))
def σC0 : St := (fun p k => if p = 0 ∧ k = 5 then -1 else 0, fun _ _ => 0)
def σR0 : St := (fun p k => if p = 0 ∧ k = 7 then -1 else 0, fun _ _ => 0)
set_option maxRecDepth 100000 in
theorem agrC_ok : agrA skC (f_X6_init 0 (nwS x00 1 false)) σC0 = true := by decide +kernel
set_option maxRecDepth 100000 in
theorem agrR_ok : agrA skR (f_X7_init 0 (nwS x00 1 false)) σR0 = true := by decide +kernel
