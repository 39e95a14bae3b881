/-! WHAT BOTH HOLD: masks and values of eight models -/
def isS (M : Nat) : Prop := kC M = (0, 3) ∧ rC M 0 = M + 1 ∧ kC (M + 1) = (3, 8) ∧ ∀ i, i < 8 → rC (M + 1) i = M + 2 + 2 * i ∧ isM (M + 2 + 2 * i)
theorem isS_ring' : ∀ j, j < 8 → kC (21 + 18 * j) = (0, 3) ∧ rC (21 + 18 * j) 0 = 21 + 18 * j + 1 ∧ kC (21 + 18 * j + 1) = (3, 8) ∧ ∀ i, i < 8 → rC (21 + 18 * j + 1) i = 21 + 18 * j + 2 + 2 * i ∧ isM (21 + 18 * j + 2 + 2 * i) := by decide +kernel
theorem isS_1' : kC 1 = (0, 3) ∧ rC 1 0 = 2 ∧ kC 2 = (3, 8) ∧ ∀ i, i < 8 → rC 2 i = 1 + 2 + 2 * i ∧ isM (1 + 2 + 2 * i) := by decide +kernel
theorem isS_182' : kC 182 = (0, 3) ∧ rC 182 0 = 183 ∧ kC 183 = (3, 8) ∧ ∀ i, i < 8 → rC 183 i = 182 + 2 + 2 * i ∧ isM (182 + 2 + 2 * i) := by decide +kernel
theorem isS_1 : isS 1 := isS_1'
theorem isS_182 : isS 182 := isS_182'
theorem isS_ring {j : Nat} (h : j < 8) : isS (21 + 18 * j) := isS_ring' j h
theorem isS.k {M : Nat} (h : isS M) : kC M = (0, 3) := h.1
theorem isS.r {M : Nat} (h : isS M) : rC M 0 = M + 1 := h.2.1
theorem isS.k1 {M : Nat} (h : isS M) : kC (M + 1) = (3, 8) := h.2.2.1
theorem isS.ri {M i : Nat} (h : isS M) (hi : i < 8) : rC (M + 1) i = M + 2 + 2 * i := (h.2.2.2 i hi).1
theorem isS.m {M i : Nat} (h : isS M) (hi : i < 8) : isM (M + 2 + 2 * i) := (h.2.2.2 i hi).2
abbrev Snap : Type := Int32 × (Nat → V)
def sn (σ : St) (M : Nat) : Snap := (σ.1 M 1, fun i => if i < 8 then val σ (M + 2 + 2 * i) else cst 0)
def dv (σ : St) (D i : Nat) : V := fun k => if k < 12 then (σ.1 D (1 + 12 * i + k)).toInt64 else 0
def sd (σ : St) (D : Nat) : Snap := (σ.1 D 0, fun i => if i < 8 then dv σ D i else cst 0)
abbrev df (m a : Int32) : Prop := ((m >>> (a &&& 31)) &&& (1 : Int32)) = (1 : Int32)
def SR (s d : Snap) : Prop := s.1 = d.1 ∧ (∃ k, k < 256 ∧ d.1 = nI k) ∧ ∀ i, i < 8 → df d.1 (nI i) → s.2 i = d.2 i ∧ fitN (d.2 i) 12
/-- ints at places of I and longs at places of J may change, no others -/
def Fg (I J : Nat → Prop) (σ σ' : St) : Prop := (∀ p, ¬ I p → σ'.1 p = σ.1 p) ∧ ∀ p, ¬ J p → σ'.2 p = σ.2 p
theorem Fg.rf {I J : Nat → Prop} {σ : St} : Fg I J σ σ := ⟨fun _ _ => rfl, fun _ _ => rfl⟩
theorem Fg.tr {I J : Nat → Prop} {σ σ1 σ2 : St} (h : Fg I J σ σ1) (h' : Fg I J σ1 σ2) : Fg I J σ σ2 := ⟨fun p hp => (h'.1 p hp).trans (h.1 p hp), fun p hp => (h'.2 p hp).trans (h.2 p hp)⟩
theorem Fg.weak {I J I' J' : Nat → Prop} {σ σ1 : St} (h : Fg I J σ σ1) (hi : ∀ p, I p → I' p) (hj : ∀ p, J p → J' p) : Fg I' J' σ σ1 := ⟨fun p hp => h.1 p (fun t => hp (hi p t)), fun p hp => h.2 p (fun t => hp (hj p t))⟩
theorem Fr.fg {I S J : Nat → Prop} {σ σ1 : St} (h : Fr S σ σ1) (hj : ∀ p, S p → J p) : Fg I J σ σ1 := ⟨fun p _ => by rw [h.1], fun p hp => h.2 p (fun t => hp (hj p t))⟩
theorem sI_1 {σ : St} {p k q j : Nat} {v : Int32} : (sI σ p k v).1 q j = if q = p ∧ j = k then v else σ.1 q j := rfl
theorem sI_2 {σ : St} {p k : Nat} {v : Int32} : (sI σ p k v).2 = σ.2 := rfl
theorem sJ_1 {σ : St} {p k : Nat} {v : Int64} : (sJ σ p k v).1 = σ.1 := rfl
theorem Fg_I {I J : Nat → Prop} {σ : St} {p k : Nat} {v : Int32} (h : I p) : Fg I J σ (sI σ p k v) := ⟨fun q hq => by funext j; rw [sI_1, if_neg (fun t => hq (by rw [t.1]; exact h))], fun _ _ => rfl⟩
theorem Fg_J {I J : Nat → Prop} {σ : St} {p k : Nat} {v : Int64} (h : J p) : Fg I J σ (sJ σ p k v) := ⟨fun _ _ => rfl, (Fr_J h).2⟩
theorem Fg.val {I J : Nat → Prop} {σ σ' : St} (h : Fg I J σ σ') {q : Nat} (h1 : ¬ J q) (h2 : ¬ J (q + 1)) : val σ' q = val σ q := by
  unfold Jvm.Pilot.CTaylorModelsLaw_law_r5112_b8f7e9.val; rw [h.2 q h1, h.2 (q + 1) h2]
/-- the places of a Models -/
def atS (M : Nat) : Nat → Prop := fun p => M ≤ p ∧ p ≤ M + 17
theorem Fg.sn {I J : Nat → Prop} {σ σ' : St} {M : Nat} (h : Fg I J σ σ') (h1 : ¬ I M) (h2 : ∀ p, J p → ¬ atS M p) : sn σ' M = sn σ M := by
  unfold Jvm.Pilot.CTaylorModelsLaw_law_r5112_b8f7e9.sn
  rw [h.1 M h1]
  congr 1
  funext i
  by_cases hi : i < 8
  · rw [if_pos hi, if_pos hi, h.val (fun t => h2 _ t (by unfold atS; omega)) (fun t => h2 _ t (by unfold atS; omega))]
  · rw [if_neg hi, if_neg hi]
theorem Fg.sd {I J : Nat → Prop} {σ σ' : St} {D : Nat} (h : Fg I J σ σ') (h1 : ¬ I D) : sd σ' D = sd σ D := by
  unfold Jvm.Pilot.CTaylorModelsLaw_law_r5112_b8f7e9.sd dv; rw [h.1 D h1]
theorem sep_lt {M p : Nat} {N : Nat} (h : M + 18 ≤ N ∨ N + 18 ≤ M) : atS M p → ¬ atS N p := by unfold atS; omega
section SNAP
variable {M N q : Nat} {σ : St}
theorem eight_le {k : Nat} (h : k < 2 ^ 31) : ((8 : Int32) ≤ nI k) ↔ 8 ≤ k := nI_leI (by decide) h
theorem e_has {a : Nat} (hM : isS M) (ha : a < 8) : f_X3_has M (nI a) σ = some (bI (df (σ.1 M 1) (nI a)), σ) := by
  unfold f_X3_has
  rw [if_neg (nI_pos (by omega)), if_neg (by rw [eight_le (by omega)]; omega), gd_p hM.k]
  unfold bI
  split <;> rfl
theorem sn_2 {i : Nat} (hi : i < 8) : (sn σ M).2 i = val σ (M + 2 + 2 * i) := if_pos hi
theorem at2_S {M i : Nat} (hi : i < 8) : ∀ p, at2 (M + 2 + 2 * i) p → atS M p := fun p t => by unfold at2 at t; unfold atS; omega
theorem e_S_copy (hM : isS M) (hN : isS N) (hs : M + 18 ≤ N ∨ N + 18 ≤ M) : Tr (f_X3_copyFrom M N σ) (fun _ σ' => sn σ' M = sn σ N ∧ Fg (fun p => p = M) (atS M) σ σ') := by
  have key : ∀ m k (σ1 : St), k ≤ 8 → 8 < m + k → Fg (fun p => p = M) (atS M) σ σ1 → σ1.1 M 1 = σ.1 N 1 → (∀ i, i < k → val σ1 (M + 2 + 2 * i) = val σ (N + 2 + 2 * i)) → Tr (f_X3_copyFrom_L10 m M N (nI k) σ1) (fun _ σ' => sn σ' M = sn σ N ∧ Fg (fun p => p = M) (atS M) σ σ') := by
    intro m
    induction m with
    | zero => intro k σ1 h1 h2; omega
    | succ m ih =>
      intro k σ1 h1 h2 hF h4 h5
      rw [f_X3_copyFrom_L10]
      refine Tr.ite (fun h => ?_) (fun h => ?_)
      · rw [eight_le (by omega)] at h
        have : k = 8 := by omega
        subst this
        refine Tr.ret ⟨?_, hF⟩
        unfold sn
        rw [h4]
        congr 1
        funext i
        by_cases hi : i < 8
        · rw [if_pos hi, if_pos hi, h5 i hi]
        · rw [if_neg hi, if_neg hi]
      · rw [eight_le (by omega)] at h
        have hk : k < 8 := by omega
        have g : ¬ (nI k < 0 ∨ 8 ≤ (nI k).toNatClampNeg) := ge_pos (N := 8) (by decide) hk
        rw [hM.r, hN.r, hM.k1, hN.k1, nI_clamp (by omega), hM.ri hk, hN.ri hk]
        rw [nI_clamp (by omega)] at g
        refine Tr.gd hM.k (Tr.gd ⟨rfl, g⟩ (Tr.gd hN.k (Tr.gd ⟨rfl, g⟩ (Tr.gd (hM.m hk).1 (Tr.obn ((e_copyFrom (hM.m hk) (hN.m hk)).mono (fun _ σ2 h6 => ?_)))))))
        obtain ⟨h6, h7⟩ := h6
        refine Tr.bnd ?_
        rw [nI_1]
        have eN : val σ1 (N + 2 + 2 * k) = val σ (N + 2 + 2 * k) := hF.val (fun t => sep_lt hs t (by unfold atS; omega)) (fun t => sep_lt hs t (by unfold atS; omega))
        refine ih (k + 1) σ2 (by omega) (by omega) (hF.tr (h7.fg (at2_S hk))) (by rw [h7.1]; exact h4) (fun i hi => ?_)
        by_cases hik : i = k
        · subst hik; rw [h6, eN]
        · rw [h7.vl (fun t => by unfold at2 at t; omega) (fun t => by unfold at2 at t; omega)]; exact h5 i (by omega)
  unfold f_X3_copyFrom
  refine Tr.gd hN.k (Tr.gd hM.k (Tr.bnd ?_))
  exact key FU 0 _ (by decide) (by decide) (Fg_I rfl) (by rw [sI_1, if_pos ⟨rfl, rfl⟩]) (fun i hi => absurd hi (by omega))
/-- a model of a snapshot becomes another -/
def setS (s : Snap) (a : Nat) (v : V) : Snap := (s.1 ||| ((1 : Int32) <<< (nI a &&& 31)), fun i => if i = a then v else s.2 i)
theorem e_define {a : Nat} (hM : isS M) (hq : isM q) (ha : a < 8) (hs : ¬ atS M q) (hs2 : ¬ atS M (q + 1)) : Tr (f_X3_define M (nI a) q σ) (fun _ σ' => sn σ' M = setS (sn σ M) a (val σ q) ∧ Fg (fun p => p = M) (atS M) σ σ') := by
  have g : ¬ (nI a < 0 ∨ 8 ≤ (nI a).toNatClampNeg) := ge_pos (N := 8) (by decide) ha
  unfold f_X3_define
  rw [if_neg (nI_pos (by omega)), if_neg (by rw [eight_le (by omega)]; omega), hM.r, hM.k1, nI_clamp (by omega), hM.ri ha]
  rw [nI_clamp (by omega)] at g
  refine Tr.gd hM.k (Tr.gd ⟨rfl, g⟩ (Tr.gd (hM.m ha).1 (Tr.obn ((e_copyFrom (hM.m ha) hq).mono (fun _ σ1 h6 => Tr.bnd (Tr.ret ⟨?_, ?_⟩))))))
  · obtain ⟨h6, h7⟩ := h6
    unfold sn setS
    rw [sI_1, if_pos ⟨rfl, rfl⟩, h7.1]
    congr 1
    funext i
    have e : val (sI σ1 M 1 (σ.1 M 1 ||| (1 : Int32) <<< (nI a &&& 31))) (M + 2 + 2 * i) = val σ1 (M + 2 + 2 * i) := rfl
    by_cases hi : i < 8
    · rw [if_pos hi, e]
      by_cases hia : i = a
      · rw [if_pos hia, hia, h6]
      · rw [if_neg hia]; dsimp only; rw [if_pos hi, h7.vl (fun t => by unfold at2 at t; omega) (fun t => by unfold at2 at t; omega)]
    · rw [if_neg hi, if_neg (by omega)]; dsimp only; rw [if_neg hi]
  · exact (h6.2.fg (at2_S ha)).tr (Fg_I rfl)
def remS (s : Snap) (a : Nat) : Snap := (s.1 &&& (((1 : Int32) <<< (nI a &&& 31)) ^^^ (-1 : Int32)), s.2)
theorem e_remove {a : Nat} (hM : isS M) (ha : a < 8) : Tr (f_X3_remove M (nI a) σ) (fun _ σ' => sn σ' M = remS (sn σ M) a ∧ Fg (fun p => p = M) (fun _ => False) σ σ') := by
  unfold f_X3_remove
  rw [if_neg (nI_pos (by omega)), if_neg (by rw [eight_le (by omega)]; omega)]
  refine Tr.gd hM.k (Tr.bnd (Tr.ret ⟨?_, Fg_I rfl⟩))
  unfold sn remS
  rw [sI_1, if_pos ⟨rfl, rfl⟩]
  rfl
end SNAP
/-! the reference's arrays -/
abbrev isD (D : Nat) : Prop := kR D = (1, 97)
theorem R2 : rR 0 8 = 2 ∧ kR 2 = (1, 97) := by decide +kernel
theorem R3 : rR 0 9 = 3 ∧ kR 3 = (1, 97) := by decide +kernel
theorem R4 : rR 0 10 = 4 ∧ kR 4 = (5, 8) ∧ ∀ k, k < 8 → rR 4 k = 5 + k ∧ kR (5 + k) = (1, 97) := by decide +kernel
theorem n97_le {k : Nat} (h : k < 2 ^ 31) : ((97 : Int32) ≤ nI k) ↔ 97 ≤ k := nI_leI (by decide) h
section REFS
variable {D E r : Nat} {σ : St}
theorem d_gd {k : Nat} (h : isD D) (hk : k < 97) : (kR D).1 = 1 ∧ ¬ (nI k < 0 ∨ (kR D).2 ≤ (nI k).toNatClampNeg) := by rw [h]; exact ⟨rfl, ge_pos (by decide) hk⟩
theorem d_gd0 (h : isD D) : (kR D).1 = 1 ∧ ¬ ((0 : Int32) < 0 ∨ (kR D).2 ≤ (0 : Int32).toNatClampNeg) := d_gd (k := 0) h (by decide)
theorem d_ix {i k : Nat} : (((1 : Int32) + ((12 : Int32) * nI i)) + nI k) = nI (1 + 12 * i + k) := by
  rw [show (12 : Int32) * nI i = nI (12 * i) from pk_mul 12 i, show (1 : Int32) + nI (12 * i) = nI (1 + 12 * i) from nI_add 1 _, nI_add]
theorem r_copyD (hD : isD D) (hE : isD E) (hne : D ≠ E) : Tr (f_X7_copy D E σ) (fun _ σ' => (∀ k, k < 97 → σ'.1 E k = σ.1 D k) ∧ Fg (fun p => p = E) (fun _ => False) σ σ') := by
  have key : ∀ m k (σ1 : St), k ≤ 97 → 97 < m + k → Fg (fun p => p = E) (fun _ => False) σ σ1 → (∀ j, j < k → σ1.1 E j = σ.1 D j) → Tr (f_X7_copy_L2 m D E (nI k) σ1) (fun _ σ' => (∀ k, k < 97 → σ'.1 E k = σ.1 D k) ∧ Fg (fun p => p = E) (fun _ => False) σ σ') := by
    intro m
    induction m with
    | zero => intro k σ1 h1 h2; omega
    | succ m ih =>
      intro k σ1 h1 h2 hF h5
      rw [f_X7_copy_L2]
      refine Tr.ite (fun h => ?_) (fun h => ?_)
      · rw [n97_le (by omega)] at h
        have : k = 97 := by omega
        subst this
        exact Tr.ret ⟨h5, hF⟩
      · rw [n97_le (by omega)] at h
        refine Tr.gd (d_gd hD (by omega)) (Tr.gd (d_gd hE (by omega)) (Tr.bnd (Tr.bnd ?_)))
        rw [nI_1, nI_clamp (by omega), hF.1 D hne]
        refine ih (k + 1) _ (by omega) (by omega) (hF.tr (Fg_I rfl)) (fun j hj => ?_)
        rw [sI_1]
        by_cases hjk : j = k
        · rw [if_pos ⟨rfl, hjk⟩, hjk]
        · rw [if_neg (fun t => hjk t.2)]; exact h5 j (by omega)
  exact key FU 0 σ (by decide) (by decide) Fg.rf (fun j hj => absurd hj (by omega))
theorem sd_of {σ' : St} (h : ∀ k, k < 97 → σ'.1 E k = σ.1 D k) : sd σ' E = sd σ D := by
  unfold sd dv
  rw [h 0 (by decide)]
  congr 1
  funext i
  by_cases hi : i < 8
  · rw [if_pos hi, if_pos hi]
    funext k
    by_cases hk : k < 12
    · rw [if_pos hk, if_pos hk, h _ (by omega)]
    · rw [if_neg hk, if_neg hk]
  · rw [if_neg hi, if_neg hi]
theorem sd_2 {i : Nat} (hi : i < 8) : (sd σ D).2 i = dv σ D i := if_pos hi
theorem r_isDefined {a : Int32} (hD : isD D) : f_X7_isDefined D a σ = some (bI (df (σ.1 D 0) a), σ) := by
  unfold f_X7_isDefined
  rw [gd_p (d_gd0 hD), n00]
  unfold bI
  split <;> rfl
theorem r_take {i : Nat} (hD : isD D) (hr : isR r) (hi : i < 8) : Tr (f_X7_take D (nI i) r σ) (fun _ σ' => rv σ' r = dv σ D i ∧ Fr (fun p => p = r) σ σ') := by
  have key : ∀ m k (σ1 : St), k ≤ 12 → 12 < m + k → Fr (fun p => p = r) σ σ1 → (∀ j, j < k → σ1.2 r j = dv σ D i j) → Tr (f_X7_take_L2 m D (nI i) r (nI k) σ1) (fun _ σ' => rv σ' r = dv σ D i ∧ Fr (fun p => p = r) σ σ') := by
    intro m
    induction m with
    | zero => intro k σ1 h1 h2; omega
    | succ m ih =>
      intro k σ1 h1 h2 hF h5
      rw [f_X7_take_L2]
      refine Tr.ite (fun h => ?_) (fun h => ?_)
      · rw [twelve_le (by omega)] at h
        have : k = 12 := by omega
        subst this
        exact Tr.ret ⟨rv_ext h5 (fun j hj => by unfold dv; rw [if_neg (by omega)]), hF⟩
      · rw [twelve_le (by omega)] at h
        rw [d_ix]
        refine Tr.gd (d_gd hD (by omega)) (Tr.gd (r_gd hr (by omega)) (Tr.bnd (Tr.bnd ?_)))
        rw [nI_1, nI_clamp (n := k) (by omega), nI_clamp (by omega), hF.1]
        refine ih (k + 1) _ (by omega) (by omega) (hF.tr (Fr_J rfl)) (fun j hj => ?_)
        rw [sJ_at]
        by_cases hjk : j = k
        · rw [if_pos ⟨rfl, hjk⟩, hjk]; unfold dv; rw [if_pos (by omega)]
        · rw [if_neg (fun t => hjk t.2)]; exact h5 j (by omega)
  exact key FU 0 σ (by decide) (by decide) Fr.rf (fun j hj => absurd hj (by omega))
theorem i64_fit {x : Int64} (h : fit1 x) : x.toInt32.toInt64 = x := by
  have b := fit1_bd h
  refine Int64.toInt_inj.mp ?_
  rw [Int32.toInt_toInt64, Int64.toInt_toInt32]
  exact Int.bmod_eq_of_le (by have := b.1; omega) (by have := b.2; omega)
theorem r_give {i : Nat} (hD : isD D) (hr : isR r) (hi : i < 8) (hf : fitN (rv σ r) 12) : Tr (f_X7_give r D (nI i) σ) (fun _ σ' => sd σ' D = setS (sd σ D) i (rv σ r) ∧ Fg (fun p => p = D) (fun _ => False) σ σ') := by
  have key : ∀ (K : Nat → Int32 → St → Option (Unit × St)) (P : Unit → St → Prop), (∀ σ1, Fg (fun p => p = D) (fun _ => False) σ σ1 → (∀ j, σ1.1 D j = if 1 + 12 * i ≤ j ∧ j < 1 + 12 * i + 12 then (rv σ r (j - (1 + 12 * i))).toInt32 else σ.1 D j) → Tr (K D (nI i) σ1) P) →
      ∀ m k (σ1 : St), k ≤ 12 → 12 < m + k → Fg (fun p => p = D) (fun _ => False) σ σ1 → (∀ j, σ1.1 D j = if 1 + 12 * i ≤ j ∧ j < 1 + 12 * i + k then (rv σ r (j - (1 + 12 * i))).toInt32 else σ.1 D j) → Tr (f_X7_give_L2 K m r D (nI i) (nI k) σ1) P := by
    intro K P hK m
    induction m with
    | zero => intro k σ1 h1 h2; omega
    | succ m ih =>
      intro k σ1 h1 h2 hF h5
      rw [f_X7_give_L2]
      refine Tr.ite (fun h => ?_) (fun h => ?_)
      · rw [twelve_le (by omega)] at h
        have : k = 12 := by omega
        subst this
        exact hK σ1 hF h5
      · rw [twelve_le (by omega)] at h
        rw [d_ix]
        refine Tr.gd (r_gd hr (by omega)) (Tr.gd (d_gd hD (by omega)) (Tr.bnd (Tr.bnd ?_)))
        rw [nI_1, nI_clamp (n := k) (by omega), nI_clamp (by omega), hF.2 r id, rv_at (show k < 12 by omega)]
        refine ih (k + 1) _ (by omega) (by omega) (hF.tr (Fg_I rfl)) (fun j => ?_)
        rw [sI_1]
        by_cases hjk : j = 1 + 12 * i + k
        · rw [if_pos ⟨rfl, hjk⟩, if_pos (by omega), hjk, Nat.add_sub_cancel_left]
        · rw [if_neg (fun t => hjk t.2), h5 j]
          by_cases h8 : 1 + 12 * i ≤ j ∧ j < 1 + 12 * i + k
          · rw [if_pos h8, if_pos (by omega)]
          · rw [if_neg h8, if_neg (by omega)]
  unfold f_X7_give
  refine key _ _ (fun σ1 hF h5 => ?_) FU 0 σ (by decide) (by decide) Fg.rf (fun j => by rw [if_neg (by omega)])
  rw [n00]
  have g0 := d_gd0 hD
  rw [n00] at g0
  refine Tr.gd g0 (Tr.bnd (Tr.ret ⟨?_, hF.tr (Fg_I rfl)⟩))
  unfold sd setS dv
  rw [sI_1, if_pos ⟨rfl, rfl⟩, h5 0, if_neg (by omega)]
  congr 1
  funext j
  by_cases hj : j < 8
  · rw [if_pos hj]
    by_cases hji : j = i
    · rw [if_pos hji]
      funext k
      by_cases hk : k < 12
      · rw [if_pos hk, sI_1, if_neg (by omega), h5, hji, if_pos (by omega), Nat.add_sub_cancel_left, i64_fit (hf k hk)]
      · rw [if_neg hk, rv_12 (by omega)]
    · rw [if_neg hji]; dsimp only; rw [if_pos hj]
      funext k
      by_cases hk : k < 12
      · rw [if_pos hk, if_pos hk, sI_1, if_neg (by omega), h5, if_neg (by omega)]
      · rw [if_neg hk, if_neg hk]
  · rw [if_neg hj, if_neg (by omega)]; dsimp only; rw [if_neg hj]
end REFS
/-! masks -/
theorem df_set' : ∀ k, k < 256 → ∀ a, a < 8 → (nI k ||| ((1 : Int32) <<< (nI a &&& 31))) = nI (k ||| (1 <<< a)) ∧ k ||| (1 <<< a) < 256 := by decide +kernel
theorem df_rem' : ∀ k, k < 256 → ∀ a, a < 8 → (nI k &&& (((1 : Int32) <<< (nI a &&& 31)) ^^^ (-1 : Int32))) = nI (k &&& (255 ^^^ (1 <<< a))) ∧ k &&& (255 ^^^ (1 <<< a)) < 256 := by decide +kernel
theorem df_bit : ∀ k, k < 256 → ∀ a, a < 8 → (df (nI k) (nI a) ↔ k.testBit a = true) := by decide +kernel
theorem bit_set : ∀ k, k < 256 → ∀ a, a < 8 → ∀ b, b < 8 → ((k ||| (1 <<< a)).testBit b = true ↔ (b = a ∨ k.testBit b = true)) := by decide +kernel
theorem bit_rem : ∀ k, k < 256 → ∀ a, a < 8 → ∀ b, b < 8 → ((k &&& (255 ^^^ (1 <<< a))).testBit b = true → k.testBit b = true) := by decide +kernel
theorem SR.set {s d : Snap} {a : Nat} {v : V} (h : SR s d) (ha : a < 8) (hv : fitN v 12) : SR (setS s a v) (setS d a v) := by
  obtain ⟨h1, ⟨k, hk, h2⟩, h3⟩ := h
  obtain ⟨e1, e2⟩ := df_set' k hk a ha
  refine ⟨by unfold setS; rw [h1], ⟨_, e2, by unfold setS; rw [h2]; exact e1⟩, fun i hi hd => ?_⟩
  unfold setS at hd ⊢
  dsimp only at hd ⊢
  by_cases hia : i = a
  · rw [if_pos hia, if_pos hia]; exact ⟨rfl, hv⟩
  · rw [if_neg hia, if_neg hia]
    refine h3 i hi ?_
    rw [h2] at hd ⊢
    rw [e1, df_bit _ e2 i hi, bit_set k hk a ha i hi] at hd
    rw [df_bit k hk i hi]
    exact hd.resolve_left hia
theorem SR.rem {s d : Snap} {a : Nat} (h : SR s d) (ha : a < 8) : SR (remS s a) (remS d a) := by
  obtain ⟨h1, ⟨k, hk, h2⟩, h3⟩ := h
  obtain ⟨e1, e2⟩ := df_rem' k hk a ha
  refine ⟨by unfold remS; rw [h1], ⟨_, e2, by unfold remS; rw [h2]; exact e1⟩, fun i hi hd => ?_⟩
  unfold remS at hd ⊢
  dsimp only at hd ⊢
  refine h3 i hi ?_
  rw [h2] at hd ⊢
  rw [e1, df_bit _ e2 i hi] at hd
  rw [df_bit k hk i hi]
  exact bit_rem k hk a ha i hi hd
