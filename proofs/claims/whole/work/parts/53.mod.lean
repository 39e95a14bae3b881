/-! MODELS OF THE CLASS: what their own methods do -/
def setV (v : V) (k : Nat) (x : Int64) : V := fun j => if j = k then x else v j
def cst (a : Int64) : V := fun k => if k = 0 then a else 0
def addV (u w : V) : V := fun k => if k < 12 then u k + w k else 0
def subV (u w : V) : V := fun k => if k < 10 then u k - w k else if k = 10 then u 10 - w 11 else if k = 11 then u 11 - w 10 else 0
section MOD
variable {q p r : Nat} {σ : St}
theorem val_ext {v : V} (h1 : ∀ k, k < 10 → σ.2 (q + 1) k = v k) (h2 : σ.2 q 1 = v 10) (h3 : σ.2 q 2 = v 11) (h4 : ∀ k, 12 ≤ k → v k = 0) : val σ q = v := by
  funext k
  unfold val
  rcases (show k < 10 ∨ k = 10 ∨ k = 11 ∨ 12 ≤ k by omega) with h | h | h | h
  · rw [if_pos h]; exact h1 k h
  · subst h; exact h2
  · subst h; exact h3
  · rw [if_neg (by omega), if_neg (by omega), if_neg (by omega)]; exact (h4 k h).symm
theorem val_12 {k : Nat} (h : 12 ≤ k) : val σ q k = 0 := by
  unfold val; rw [if_neg (by omega), if_neg (by omega), if_neg (by omega)]
theorem sJ_at {k j : Nat} {x : Int64} : (sJ σ p k x).2 q j = if q = p ∧ j = k then x else σ.2 q j := rfl
theorem val_lo' {x : Int64} : val (sJ σ q 1 x) q = setV (val σ q) 10 x := by
  refine val_ext (fun k hk => ?_) ?_ ?_ (fun k hk => ?_)
  · rw [sJ_at, if_neg (by omega), val_c hk]; unfold setV; rw [if_neg (by omega)]
  · rw [sJ_at, if_pos ⟨rfl, rfl⟩]; rfl
  · rw [sJ_at, if_neg (by omega)]; rfl
  · unfold setV; rw [if_neg (by omega)]; exact val_12 hk
theorem val_hi' {x : Int64} : val (sJ σ q 2 x) q = setV (val σ q) 11 x := by
  refine val_ext (fun k hk => ?_) ?_ ?_ (fun k hk => ?_)
  · rw [sJ_at, if_neg (by omega), val_c hk]; unfold setV; rw [if_neg (by omega)]
  · rw [sJ_at, if_neg (by omega)]; rfl
  · rw [sJ_at, if_pos ⟨rfl, rfl⟩]; rfl
  · unfold setV; rw [if_neg (by omega)]; exact val_12 hk
theorem val_c' {i : Nat} {x : Int64} (hi : i < 10) : val (sJ σ (q + 1) i x) q = setV (val σ q) i x := by
  refine val_ext (fun k hk => ?_) ?_ ?_ (fun k hk => ?_)
  · rw [sJ_at]; unfold setV
    by_cases h : k = i
    · rw [if_pos ⟨rfl, h⟩, if_pos h]
    · rw [if_neg (by omega), if_neg h, val_c hk]
  · rw [sJ_at, if_neg (by omega)]; unfold setV; rw [if_neg (by omega)]; rfl
  · rw [sJ_at, if_neg (by omega)]; unfold setV; rw [if_neg (by omega)]; rfl
  · unfold setV; rw [if_neg (by omega)]; exact val_12 hk
theorem Fr_J {k : Nat} {x : Int64} {S : Nat → Prop} (h : S p) : Fr S σ (sJ σ p k x) := ⟨rfl, fun a ha => by
  funext j
  rw [sJ_at, if_neg (fun z => ha (by rw [z.1]; exact h))]⟩
theorem Fr_C {f : Nat → Int64} {S : Nat → Prop} (h : S p) : Fr S σ (sC σ p f) := ⟨rfl, fun a ha => by
  show (if a = p then f else σ.2 a) = σ.2 a
  rw [if_neg (fun z => ha (by rw [z]; exact h))]⟩
theorem obn_s {α β : Type} {a : α} {f : α → St → Option β} : obn (some (a, σ)) f = f a σ := rfl
theorem at2_0 : at2 q q := Or.inl rfl
theorem at2_1 : at2 q (q + 1) := Or.inr rfl
theorem Fr.tr {S : Nat → Prop} {σ σ1 σ2 : St} (h : Fr S σ σ1) (h' : Fr S σ1 σ2) : Fr S σ σ2 := (h.trans h').weak (fun _ z => z.elim id id)
theorem e_fill {n : Nat} {v : Int64} (hk : kC p = (2, n)) (hn : n < 4096) : Tr (f_J7_fill_d0a16 p v σ) (fun _ σ' => (∀ j, j < n → σ'.2 p j = v) ∧ Fr (fun a => a = p) σ σ') := by
  have key : ∀ m k (σ1 : St), k ≤ n → n < m + k → Fr (fun a => a = p) σ σ1 → (∀ j, j < k → σ1.2 p j = v) → Tr (f_J7_fill_d0a16_L6 m p v (nI k) (nI n) σ1) (fun _ σ' => (∀ j, j < n → σ'.2 p j = v) ∧ Fr (fun a => a = p) σ σ') := by
    intro m
    induction m with
    | zero => intro k σ1 h1 h2; omega
    | succ m ih =>
      intro k σ1 h1 h2 hF hj
      rw [f_J7_fill_d0a16_L6]
      refine Tr.ite (fun h => ?_) (fun h => ?_)
      · rw [nI_leI (by omega) (by omega)] at h
        have : k = n := by omega
        subst this
        exact Tr.ret ⟨hj, hF⟩
      · rw [nI_leI (by omega) (by omega)] at h
        refine Tr.gd (by rw [hk]; exact ⟨rfl, ge_pos (by omega) (by omega)⟩) (Tr.bnd (Tr.bnd ?_))
        rw [nI_1, nI_clamp (by omega)]
        refine ih (k + 1) _ (by omega) (by omega) (hF.tr (Fr_J rfl)) (fun j h3 => ?_)
        rw [sJ_at]
        by_cases h4 : j = k
        · rw [if_pos ⟨rfl, h4⟩]
        · rw [if_neg (fun z => h4 z.2)]; exact hj j (by omega)
  unfold f_J7_fill_d0a16
  refine Tr.gd (by rw [hk]) (Tr.bnd ?_)
  rw [hk]
  exact key FU 0 σ (Nat.zero_le _) (by show n < 4096 + 0; omega) Fr.rf (fun j hj => absurd hj (by omega))
theorem e_becomeConstant {a : Int64} (hq : isM q) : Tr (f_X2_becomeConstant q a σ) (fun _ σ' => val σ' q = cst a ∧ Fr (at2 q) σ σ') := by
  unfold f_X2_becomeConstant
  refine Tr.gd hq.1 (Tr.obn ?_)
  rw [hq.2.1]
  refine (e_fill hq.2.2 (by decide)).mono (fun _ σ1 h => ?_)
  obtain ⟨h1, h2⟩ := h
  refine Tr.gd (by rw [hq.2.2]; exact ⟨rfl, ge_pos (k := 0) (by decide) (by decide)⟩) (Tr.bnd (Tr.bnd (Tr.bnd (Tr.ret ⟨?_, ?_⟩))))
  · refine val_ext (fun k hk => ?_) ?_ ?_ (fun k hk => ?_)
    · rw [sJ_at, if_neg (by omega), sJ_at, if_neg (by omega), sJ_at]
      unfold cst
      by_cases h : k = 0
      · rw [if_pos ⟨rfl, h⟩, if_pos h]
      · rw [if_neg (fun z => h z.2), if_neg h]; exact h1 k hk
    · rw [sJ_at, if_neg (by omega), sJ_at, if_pos ⟨rfl, rfl⟩]; rfl
    · rw [sJ_at, if_pos ⟨rfl, rfl⟩]; rfl
    · unfold cst; rw [if_neg (by omega)]
  · exact (((h2.weak (fun a h => by rw [h]; exact at2_1)).tr (Fr_J at2_1)).tr (Fr_J at2_0)).tr (Fr_J at2_0)
theorem e_copyFrom (hq : isM q) (hp : isM p) : Tr (f_X2_copyFrom q p σ) (fun _ σ' => val σ' q = val σ p ∧ Fr (at2 q) σ σ') := by
  unfold f_X2_copyFrom
  refine Tr.gd hp.1 (Tr.gd hq.1 ?_)
  rw [hq.2.1, hp.2.1, hq.2.2, hp.2.2]
  refine Tr.gd (by decide) (Tr.bnd (Tr.bnd (Tr.bnd (Tr.ret ⟨?_, ?_⟩))))
  · have hne : p ≠ q + 1 := hp.ne hq
    have hne2 : p + 1 = q + 1 ↔ p = q := by omega
    have hc : ∀ k, (sC σ (q + 1) (va_cpy (σ.2 (p + 1)) (σ.2 (q + 1)) (0 : Int32).toNatClampNeg (0 : Int32).toNatClampNeg (10 : Int32).toNatClampNeg)).2 (q + 1) k = if k < 10 then σ.2 (p + 1) k else σ.2 (q + 1) k := by
      intro k
      show (if q + 1 = q + 1 then va_cpy (σ.2 (p + 1)) (σ.2 (q + 1)) 0 0 10 else σ.2 (q + 1)) k = _
      rw [if_pos rfl]
      unfold va_cpy
      simp
    have hp' : ∀ k, (sC σ (q + 1) (va_cpy (σ.2 (p + 1)) (σ.2 (q + 1)) (0 : Int32).toNatClampNeg (0 : Int32).toNatClampNeg (10 : Int32).toNatClampNeg)).2 p k = σ.2 p k := by
      intro k
      show (if p = q + 1 then _ else σ.2 p) k = _
      rw [if_neg hne]
    generalize sC σ (q + 1) (va_cpy (σ.2 (p + 1)) (σ.2 (q + 1)) (0 : Int32).toNatClampNeg (0 : Int32).toNatClampNeg (10 : Int32).toNatClampNeg) = σ1 at hc hp' ⊢
    refine val_ext (fun k hk => ?_) ?_ ?_ (fun k hk => val_12 hk)
    · rw [sJ_at, if_neg (by omega), sJ_at, if_neg (by omega), hc, if_pos hk, val_c hk]
    · rw [sJ_at, if_neg (by omega), sJ_at, if_pos ⟨rfl, rfl⟩, hp', val_lo]
    · rw [sJ_at, if_pos ⟨rfl, rfl⟩, sJ_at, if_neg (by omega), hp', val_hi]
  · exact ((Fr_C at2_1).tr (Fr_J at2_0)).tr (Fr_J at2_0)
theorem e_widen {a : Int64} (hq : isM q) : Tr (f_X2_widen q a σ) (fun _ σ' => val σ' q = setV (setV (val σ q) 10 (val σ q 10 - a)) 11 (val σ q 11 + a) ∧ Fr (at2 q) σ σ') := by
  unfold f_X2_widen
  refine Tr.gd hq.1 (Tr.bnd (Tr.bnd (Tr.ret ⟨?_, (Fr_J at2_0).tr (Fr_J at2_0)⟩)))
  rw [val_hi', val_lo', sJ_at, if_neg (by omega)]
  rfl
theorem e_width (hq : isM q) : f_X2_width q σ = some ((val σ q 11 - val σ q 10).toInt32, σ) := by
  unfold f_X2_width; rw [gd_p hq.1]; rfl
theorem e_setCoefficientAt {k : Nat} {x : Int64} (hq : isM q) (hk : k < 10) : f_X2_setCoefficientAt q (nI k) x σ = some ((), sJ σ (q + 1) k x) := by
  unfold f_X2_setCoefficientAt
  rw [if_neg (nI_pos (by omega)), if_neg (by rw [ten_le (by omega)]; omega), gd_p hq.1, hq.2.1, gd_p (by rw [hq.2.2]; exact ⟨rfl, ge_pos (by decide) hk⟩), nI_clamp (by omega)]
  rfl
theorem e_coefficientAt {k : Nat} (hq : isM q) (hk : k < 10) : f_X2_coefficientAt q (nI k) σ = some (val σ q k, σ) := by
  unfold f_X2_coefficientAt
  rw [if_neg (nI_pos (by omega)), if_neg (by rw [ten_le (by omega)]; omega), gd_p hq.1, hq.2.1, gd_p (by rw [hq.2.2]; exact ⟨rfl, ge_pos (by decide) hk⟩), nI_clamp (by omega), val_c hk]
theorem e_becomeVariable {k : Nat} (hq : isM q) (hk : k < 10) : Tr (f_X2_becomeVariable q (nI k) σ) (fun _ σ' => val σ' q = setV (cst 0) k 1000 ∧ Fr (at2 q) σ σ') := by
  unfold f_X2_becomeVariable
  refine Tr.gd hq.1 (Tr.obn ((e_becomeConstant hq).mono (fun _ σ1 h => Tr.obn (Tr.eq (e_setCoefficientAt hq hk) (Tr.ret ⟨?_, h.2.tr (Fr_J at2_1)⟩)))))
  rw [val_c' hk, h.1]
theorem e_staysInSquare (hq : isM q) : f_X2_staysInSquare q σ = some (bI (¬ sLo (val σ q) + val σ q 10 < -1000 ∧ ¬ 1000 < sHi (val σ q) + val σ q 11), σ) := by
  unfold f_X2_staysInSquare
  rw [gd_p hq.1, e_spreadLow hq, obn_s, e_spreadHigh hq, obn_s, val_lo, val_hi]
  unfold bI
  by_cases h1 : sLo (val σ q) + val σ q 10 < -1000
  · rw [if_pos h1, if_neg (fun z => z.1 h1)]
  · rw [if_neg h1]
    by_cases h2 : 1000 < sHi (val σ q) + val σ q 11
    · rw [if_pos h2, if_neg (fun z => z.2 h2)]
    · rw [if_neg h2, if_pos ⟨h1, h2⟩]
end MOD
