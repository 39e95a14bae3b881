/-! BOTH READ: what is kept, signs, parentheses -/
theorem CP : kC 177 = (0, 4) ∧ rC 177 0 = 178 ∧ rC 177 1 = 182 ∧ rC 177 2 = 200 ∧ rC 177 3 = 212 ∧ rC 177 4 = 213 ∧ rC 177 5 = 214 ∧ rC 177 6 = 215 ∧ kC 212 = (3, 5) ∧ kC 213 = (3, 5) ∧ kC 214 = (3, 5) ∧ kC 215 = (3, 5) := by decide +kernel
theorem CL : ∀ l, l < 5 → (rC 212 l = 216 + 8 * l ∧ rC 213 l = 218 + 8 * l ∧ rC 214 l = 220 + 8 * l ∧ rC 215 l = 222 + 8 * l) ∧ isM (216 + 8 * l) ∧ isM (218 + 8 * l) ∧ isM (220 + 8 * l) ∧ isM (222 + 8 * l) := by decide +kernel
theorem RL0 : rR 0 18 = 18 ∧ rR 0 19 = 25 ∧ rR 0 20 = 32 ∧ rR 0 21 = 39 ∧ rR 0 22 = 46 ∧ kR 18 = (6, 6) ∧ kR 25 = (6, 6) ∧ kR 32 = (6, 6) ∧ kR 39 = (6, 6) ∧ kR 46 = (2, 12) := by decide +kernel
theorem RLv : ∀ l, l < 6 → rR 18 l = 19 + l ∧ rR 25 l = 26 + l ∧ rR 32 l = 33 + l ∧ rR 39 l = 40 + l ∧ kR (19 + l) = (2, 12) ∧ kR (26 + l) = (2, 12) ∧ kR (33 + l) = (2, 12) ∧ kR (40 + l) = (2, 12) := by decide +kernel
def GS (c : Nat → Int32) (len last : Nat) (S E : Nat → Nat) (l : Nat) (σ τ : St) (i : Nat) : Prop := TC c len last S E σ i ∧ TR c len S τ i ∧ τ.1 0 23 = nI l ∧ SR (sn σ 182) (sd τ 3)
def ErrS (σ τ : St) : Prop := σ.1 177 7 = τ.1 0 5 ∧ ¬ τ.1 0 5 = 0 ∧ σ.1 178 6 = τ.1 0 6
/-- the class: the text's place, the error, the reader's arithmetic and models from b on -/
def Cf (b : Nat) (σ σ' : St) : Prop := (∀ p j, ¬ (p = 177 ∧ j = 7) → ¬ (p = 178 ∧ 5 ≤ j ∧ j ≤ 8) → σ'.1 p j = σ.1 p j) ∧ ∀ p, ¬ (200 ≤ p ∧ p ≤ 211) → ¬ (b ≤ p ∧ p ≤ 255) → σ'.2 p = σ.2 p
def lvr (a b d p : Nat) : Prop := (13 ≤ p ∧ p ≤ 17) ∨ p = 46 ∨ (19 + a ≤ p ∧ p ≤ 24) ∨ (26 + b ≤ p ∧ p ≤ 31) ∨ (33 + d ≤ p ∧ p ≤ 38) ∨ (40 + d ≤ p ∧ p ≤ 45)
def Rf (a b d : Nat) (τ τ' : St) : Prop := (∀ p j, p ≠ 0 → τ'.1 p j = τ.1 p j) ∧ (∀ j, j ≠ 4 → j ≠ 5 → j ≠ 6 → j ≠ 17 → j ≠ 23 → τ'.1 0 j = τ.1 0 j) ∧ ∀ p, ¬ lvr a b d p → τ'.2 p = τ.2 p
section PAR
variable {σ σ' τ τ' : St} {c : Nat → Int32} {len last : Nat} {S E : Nat → Nat} {i l b a d e : Nat}
theorem Cf.rf : Cf b σ σ := ⟨fun _ _ _ _ => rfl, fun _ _ _ => rfl⟩
theorem Cf.tr {σ1 σ2 : St} (h : Cf b σ σ1) (h' : Cf b σ1 σ2) : Cf b σ σ2 := ⟨fun p j h1 h2 => (h'.1 p j h1 h2).trans (h.1 p j h1 h2), fun p h1 h2 => (h'.2 p h1 h2).trans (h.2 p h1 h2)⟩
theorem Cf.up {b' : Nat} (h : Cf b σ σ') (hb : b' ≤ b) : Cf b' σ σ' := ⟨h.1, fun p h1 h2 => h.2 p h1 (by omega)⟩
theorem Ci.cf (h : Ci σ σ') : Cf b σ σ' := ⟨fun p j _ h2 => h.1 p j h2, fun p _ _ => by rw [h.2]⟩
theorem Fr.cf {T : Nat → Prop} (h : Fr T σ σ') (ht : ∀ p, T p → (200 ≤ p ∧ p ≤ 211) ∨ (b ≤ p ∧ p ≤ 255)) : Cf b σ σ' := ⟨fun p j _ _ => by rw [h.1], fun p h1 h2 => h.2 p (fun t => (ht p t).elim h1 h2)⟩
theorem Cf_e {v : Int32} : Cf b σ (sI σ 177 7 v) := ⟨fun p j h1 _ => by rw [sI_1, if_neg h1], fun _ _ _ => rfl⟩
theorem Rf.rf : Rf a d e τ τ := ⟨fun _ _ _ => rfl, fun _ _ _ _ _ _ => rfl, fun _ _ => rfl⟩
theorem Rf.tr {τ1 τ2 : St} (h : Rf a d e τ τ1) (h' : Rf a d e τ1 τ2) : Rf a d e τ τ2 := ⟨fun p j h1 => (h'.1 p j h1).trans (h.1 p j h1), fun j h1 h2 h3 h4 h5 => (h'.2.1 j h1 h2 h3 h4 h5).trans (h.2.1 j h1 h2 h3 h4 h5), fun p hp => (h'.2.2 p hp).trans (h.2.2 p hp)⟩
theorem Rf.up {a' d' e' : Nat} (h : Rf a d e τ τ') (h1 : a' ≤ a) (h2 : d' ≤ d) (h3 : e' ≤ e) : Rf a' d' e' τ τ' := ⟨h.1, h.2.1, fun p hp => h.2.2 p (fun t => hp (by unfold lvr at t ⊢; omega))⟩
theorem Fr.rF {T : Nat → Prop} (h : Fr T τ τ') (ht : ∀ p, T p → lvr a d e p) : Rf a d e τ τ' := ⟨fun p j _ => by rw [h.1], fun j _ _ _ _ _ => by rw [h.1], fun p hp => h.2 p (fun t => hp (ht p t))⟩
theorem Rf_I {k : Nat} {v : Int32} (h : k = 4 ∨ k = 5 ∨ k = 6 ∨ k = 17 ∨ k = 23) : Rf a d e τ (sI τ 0 k v) := ⟨fun p j hp => by rw [sI_1, if_neg (fun t => hp t.1)], fun j h1 h2 h3 h4 h5 => by rw [sI_1, if_neg (by omega)], fun _ _ => rfl⟩
theorem GS.lo (h : GS c len last S E l σ τ i) (h1 : σ'.1 = σ.1) (h2 : ∀ p, 182 ≤ p → p ≤ 199 → σ'.2 p = σ.2 p) (h3 : τ'.1 = τ.1) : GS c len last S E l σ' τ' i := by
  obtain ⟨g1, g2, g3, g4⟩ := h
  refine ⟨by unfold TC; rw [h1]; exact g1, by unfold TR Txb; rw [h3]; exact g2, by rw [h3]; exact g3, ?_⟩
  have e1 : sn σ' 182 = sn σ 182 := by
    unfold sn
    rw [h1]
    congr 1
    funext j
    by_cases hj : j < 8
    · rw [if_pos hj, if_pos hj]
      unfold val
      rw [h2 _ (by omega) (by omega), h2 _ (by omega) (by omega)]
    · rw [if_neg hj, if_neg hj]
  have e2 : sd τ' 3 = sd τ 3 := by unfold sd dv; rw [h3]
  rw [e1, e2]; exact g4
theorem sn_cf (h : Cf b σ σ') (hb : 216 ≤ b) : sn σ' 182 = sn σ 182 := by
  unfold sn
  rw [h.1 182 1 (by omega) (by omega)]
  congr 1
  funext j
  by_cases hj : j < 8
  · rw [if_pos hj, if_pos hj]
    unfold val
    rw [h.2 _ (by omega) (by omega), h.2 _ (by omega) (by omega)]
  · rw [if_neg hj, if_neg hj]
theorem sd_rf (h : Rf a d e τ τ') : sd τ' 3 = sd τ 3 := sd_of (fun j _ => h.1 3 j (by decide))
theorem val_cf (h : Cf b σ σ') {q : Nat} (h1 : ¬ (200 ≤ q ∧ q ≤ 211) ∧ ¬ (200 ≤ q + 1 ∧ q + 1 ≤ 211)) (h2 : ¬ (b ≤ q ∧ q ≤ 255) ∧ ¬ (b ≤ q + 1 ∧ q + 1 ≤ 255)) : val σ' q = val σ q := by
  unfold val; rw [h.2 q h1.1 h2.1, h.2 (q + 1) h1.2 h2.2]
theorem rv_rf (h : Rf a d e τ τ') {r : Nat} (h1 : ¬ lvr a d e r) : rv τ' r = rv τ r := rv_of (h.2.2 r h1)
theorem e_fail {v : Int32} : f_X4_fail 177 v σ = some (0, sI σ 177 7 v) := by unfold f_X4_fail; rw [gd_p CP.1, bnd_s]
/-- a sign: a token of its own -/
theorem sg_ok (hE : TkE c len last S E) (hi : i ≤ last) {s : Int32} (hs : kd s = 3 ∧ s ≠ -1) (h : c (S i) = s) : i < last ∧ E i = S i + 1 := by
  have hil := hE.lt hi (fun t => hs.2 (h.symm.trans t))
  exact ⟨hil, hE.sgn hil (by rw [h]; exact hs.1)⟩
theorem TR.z {k : Nat} {v : Int32} (h : TR c len S τ i) (hk : k ≠ 3 ∧ k ≠ 6) (h4 : k ≠ 4) (h5 : k ≠ 5) : TR c len S (sI τ 0 k v) i := ⟨h.1.z hk, by rw [sI_1, if_neg (fun t => h5 t.2.symm)]; exact h.2.1, by obtain ⟨p, hp, q⟩ := h.2.2; exact ⟨p, by rw [sI_1, if_neg (fun t => h4 t.2.symm)]; exact hp, q⟩⟩
theorem sd_z3 {k : Nat} {v : Int32} : sd (sI τ 0 k v) 3 = sd τ 3 := sd_of (fun j _ => by rw [sI_1, if_neg (fun t => absurd t.1 (by decide))])
theorem GS.r4 (h : GS c len last S E l σ τ i) (hE : TkE c len last S E) : GS c len last S E l σ (sI τ 0 4 (nI (S i))) i := ⟨h.1, h.2.1.nx hE h.1.2.2.2.1, by rw [sI_1, if_neg (by decide)]; exact h.2.2.1, by rw [sd_z3]; exact h.2.2.2⟩
/-- the class goes on by one token, the reference behind it -/
theorem GS.adv (h : GS c len last S E l σ τ i) (hE : TkE c len last S E) (hi : i < last) : ∃ σ', f_X5_advance 178 σ = some ((), σ') ∧ GS c len last S E l σ' (sI τ 0 4 (nI (E i))) (i + 1) ∧ Ci σ σ' := by
  obtain ⟨σ', h1, h2, h3⟩ := e_advance hE h.1 hi
  refine ⟨σ', h1, ⟨h2, h.2.1.tok hE hi, by rw [sI_1, if_neg (by decide)]; exact h.2.2.1, ?_⟩, h3⟩
  rw [sd_z3]
  have e1 : sn σ' 182 = sn σ 182 := sn_cf (h3.cf (b := 216)) (Nat.le_refl _)
  rw [e1]; exact h.2.2.2
theorem sim_take {s : Int32} (hE : TkE c len last S E) (h : GS c len last S E l σ τ i) (hs : kd s = 3 ∧ s ≠ -1) :
    ∃ x σ' τ', f_X4_take 177 s σ = some (x, σ') ∧ f_X7_expect 0 s τ = some ((), τ') ∧ (∀ b, Cf b σ σ') ∧ (∀ a d e, Rf a d e τ τ') ∧ σ'.2 = σ.2 ∧ τ'.2 = τ.2 ∧ ((x = 1 ∧ i < last ∧ c (S i) = s ∧ GS c len last S E l σ' τ' (i + 1)) ∨ (x = 0 ∧ ErrS σ' τ')) := by
  have hi := h.1.2.2.2.1
  have e4 : (sI τ 0 4 (nI (S i))).1 0 4 = nI (S i) := by rw [sI_1, if_pos ⟨rfl, rfl⟩]
  have e5 : (sI τ 0 4 (nI (S i))).1 0 5 = 0 := by rw [sI_1, if_neg (by decide)]; exact h.2.1.2.1
  unfold f_X4_take f_X7_expect
  rw [gd_p CP.1, CP.2.1, gd_p C178.1, h.1.2.2.2.2.2.2.2, gd_p R0, r_isGood h.2.1.2.1, obn_s, if_neg (show ¬ (1 : Int32) = 0 by decide), r_next hE hi h.2.1, obn_s, e4]
  by_cases hc : c (S i) = s
  · obtain ⟨hil, hEi⟩ := sg_ok hE hi hs hc
    obtain ⟨σ', a1, a2, a3⟩ := h.adv hE hil
    rw [if_pos hc, if_pos hc, a1, obn_s, bnd_s, nI_1, sI_two]
    refine ⟨1, σ', _, rfl, rfl, fun b => a3.cf, fun a d e => Rf_I (Or.inl rfl), a3.2, rfl, Or.inl ⟨rfl, hil, hc, ?_⟩⟩
    rw [← hEi]; exact a2
  · rw [if_neg hc, if_neg hc, e_fail, obn_s, gd_p (Or.inl rfl), r_report e5, obn_s]
    refine ⟨0, _, _, rfl, rfl, fun b => Cf_e, fun a d e => ((Rf_I (Or.inl rfl)).tr (Rf_I (Or.inr (Or.inl rfl)))).tr (Rf_I (Or.inr (Or.inr (Or.inl rfl)))), rfl, rfl, Or.inr ⟨rfl, ?_, ?_, ?_⟩⟩
    · rw [sI_1, if_pos ⟨rfl, rfl⟩, sI_1, if_neg (by decide), sI_1, if_pos ⟨rfl, rfl⟩]
    · rw [sI_1, if_neg (by decide), sI_1, if_pos ⟨rfl, rfl⟩]; decide
    · rw [sI_1, if_neg (by decide), sI_1, if_pos ⟨rfl, rfl⟩]; exact h.1.2.2.2.2.2.1
/-- the class refuses, and the reference -/
theorem sim_refuse (hE : TkE c len last S E) (h : GS c len last S E l σ τ i) : f_X7_refuse 0 0 τ = some ((), sI (sI (sI τ 0 4 (nI (S i))) 0 5 (-5)) 0 6 (nI (S i))) ∧ ErrS (sI σ 177 7 (-5)) (sI (sI (sI τ 0 4 (nI (S i))) 0 5 (-5)) 0 6 (nI (S i))) := by
  have hi := h.1.2.2.2.1
  have e4 : (sI τ 0 4 (nI (S i))).1 0 4 = nI (S i) := by rw [sI_1, if_pos ⟨rfl, rfl⟩]
  have e5 : (sI τ 0 4 (nI (S i))).1 0 5 = 0 := by rw [sI_1, if_neg (by decide)]; exact h.2.1.2.1
  constructor
  · unfold f_X7_refuse
    rw [gd_p R0, r_isGood h.2.1.2.1, obn_s, if_neg (show ¬ (1 : Int32) = 0 by decide), r_next hE hi h.2.1, obn_s, if_pos rfl, e4, r_report e5, obn_s]
  · refine ⟨?_, ?_, ?_⟩
    · rw [sI_1, if_pos ⟨rfl, rfl⟩, sI_1, if_neg (by decide), sI_1, if_pos ⟨rfl, rfl⟩]
    · rw [sI_1, if_neg (by decide), sI_1, if_pos ⟨rfl, rfl⟩]; decide
    · rw [sI_1, if_neg (by decide), sI_1, if_pos ⟨rfl, rfl⟩]; exact h.1.2.2.2.2.2.1
theorem sim_accept (hE : TkE c len last S E) (h : GS c len last S E l σ τ i) : f_X7_refuse 0 1 τ = some ((), sI τ 0 4 (nI (S i))) := by
  unfold f_X7_refuse
  rw [gd_p R0, r_isGood h.2.1.2.1, obn_s, if_neg (show ¬ (1 : Int32) = 0 by decide), r_next hE h.1.2.2.2.1 h.2.1, obn_s, if_neg (by decide)]
theorem Rf_3 {x y z : Int32} : Rf a d e τ (sI (sI (sI τ 0 4 x) 0 5 y) 0 6 z) := ((Rf_I (Or.inl rfl)).tr (Rf_I (Or.inr (Or.inl rfl)))).tr (Rf_I (Or.inr (Or.inr (Or.inl rfl))))
/-- what an opened sum does, one level deeper -/
def SimR (c : Nat → Int32) (len last : Nat) (S E : Nat → Nat) (l : Nat) (rc : Nat → Int32 → St → Option (Int32 × St)) (rr : Nat → Int32 → St → Option (Unit × St)) : Prop :=
  (l ≤ 4 → ∀ σ τ i, GS c len last S E l σ τ i → ∃ x σ' τ', rc 177 (nI l) σ = some (x, σ') ∧ rr 0 (nI l) τ = some ((), τ') ∧ Cf (216 + 8 * l) σ σ' ∧ Rf l l l τ τ' ∧ ((x = 1 ∧ ∃ i', i < i' ∧ GS c len last S E l σ' τ' i' ∧ val σ' (216 + 8 * l) = rv τ' (19 + l) ∧ fitN (rv τ' (19 + l)) 12) ∨ (x = 0 ∧ ErrS σ' τ'))) ∧ ∀ τ : St, ¬ τ.1 0 5 = 0 → rr 0 (nI l) τ = some ((), τ)
/-- opening -/
theorem sim_open {s : Int32} (hE : TkE c len last S E) (h : GS c len last S E l σ τ i) (hs : kd s = 3 ∧ s ≠ -1) (hl : l ≤ 4) :
    ∃ x σ' τ', f_X4_open 177 s (nI l) σ = some (x, σ') ∧ f_X7_open 0 s τ = some ((), τ') ∧ (∀ b, Cf b σ σ') ∧ (∀ a d e, Rf a d e τ τ') ∧ σ'.2 = σ.2 ∧ τ'.2 = τ.2 ∧ ((x = 1 ∧ i < last ∧ c (S i) = s ∧ l < 4 ∧ GS c len last S E (l + 1) σ' τ' (i + 1)) ∨ (x = 0 ∧ ErrS σ' τ')) := by
  have hi := h.1.2.2.2.1
  have e4 : (sI τ 0 4 (nI (S i))).1 0 4 = nI (S i) := by rw [sI_1, if_pos ⟨rfl, rfl⟩]
  have e5 : (sI τ 0 4 (nI (S i))).1 0 5 = 0 := by rw [sI_1, if_neg (by decide)]; exact h.2.1.2.1
  have e23 : (sI τ 0 4 (nI (S i))).1 0 23 = nI l := by rw [sI_1, if_neg (by decide)]; exact h.2.2.1
  have bad : ∀ v : Int32, ¬ v = 0 → ∃ τ', (gd (kR 0 = (0, 7)) <| some ((), sI (sI (sI (sI (sI τ 0 4 (nI (S i))) 0 5 v) 0 6 (nI (S i))) 0 4 ((sI (sI (sI τ 0 4 (nI (S i))) 0 5 v) 0 6 (nI (S i))).1 0 4 + 1)) 0 23 ((sI (sI (sI (sI τ 0 4 (nI (S i))) 0 5 v) 0 6 (nI (S i))) 0 4 ((sI (sI (sI τ 0 4 (nI (S i))) 0 5 v) 0 6 (nI (S i))).1 0 4 + 1)).1 0 23 + 1))) = some ((), τ') ∧ (∀ a d e, Rf a d e τ τ') ∧ τ'.2 = τ.2 ∧ ErrS (sI σ 177 7 v) τ' := by
    intro v hv
    refine ⟨_, gd_p R0, fun a d e => (Rf_3.tr (Rf_I (Or.inl rfl))).tr (Rf_I (by omega)), rfl, ?_, ?_, ?_⟩
    · rw [sI_1, if_pos ⟨rfl, rfl⟩, sI_1, if_neg (by decide), sI_1, if_neg (by decide), sI_1, if_neg (by decide), sI_1, if_pos ⟨rfl, rfl⟩]
    · rw [sI_1, if_neg (by decide), sI_1, if_neg (by decide), sI_1, if_neg (by decide), sI_1, if_pos ⟨rfl, rfl⟩]; exact hv
    · rw [sI_1, if_neg (by decide), sI_1, if_neg (by decide), sI_1, if_neg (by decide), sI_1, if_pos ⟨rfl, rfl⟩]; exact h.1.2.2.2.2.2.1
  unfold f_X4_open f_X7_open
  simp only [bnd_s]
  rw [gd_p CP.1, CP.2.1, gd_p C178.1, h.1.2.2.2.2.2.2.2, gd_p R0, r_isGood h.2.1.2.1, obn_s, if_neg (show ¬ (1 : Int32) = 0 by decide), r_next hE hi h.2.1, obn_s, e4, e23]
  by_cases hc : c (S i) = s
  · obtain ⟨hil, hEi⟩ := sg_ok hE hi hs hc
    rw [if_pos hc, if_pos hc]
    by_cases h4 : l = 4
    · subst h4
      obtain ⟨τ', b1, b2, b3, b4⟩ := bad (-6) (by decide)
      rw [if_neg (by decide), e_fail, obn_s, gd_p (Or.inl rfl), if_pos (by decide), r_report e5, obn_s]
      exact ⟨0, _, τ', rfl, b1, fun b => Cf_e, b2, rfl, b3, Or.inr ⟨rfl, b4⟩⟩
    · obtain ⟨σ', a1, a2, a3⟩ := h.adv hE hil
      rw [if_pos (show nI l < 4 from (nI_ltI (b := 4) (by omega) (by decide)).mpr (by omega)), a1, obn_s, if_neg (show ¬ nI l = 4 from fun t => h4 ((nI_eq (b := 4) (by omega) (by decide)).mp t)), gd_p R0, nI_1, sI_two]
      have e23' : (sI τ 0 4 (nI (S i + 1))).1 0 23 + 1 = nI (l + 1) := by rw [sI_1, if_neg (by decide), h.2.2.1, nI_1]
      rw [e23']
      refine ⟨1, σ', _, rfl, rfl, fun b => a3.cf, fun a d e => (Rf_I (Or.inl rfl)).tr (Rf_I (by omega)), a3.2, rfl, Or.inl ⟨rfl, hil, hc, by omega, ?_⟩⟩
      rw [← hEi]
      exact ⟨a2.1, a2.2.1.z (by decide) (by decide) (by decide), by rw [sI_1, if_pos ⟨rfl, rfl⟩], by rw [sd_z3]; exact a2.2.2.2⟩
  · obtain ⟨τ', b1, b2, b3, b4⟩ := bad (-2) (by decide)
    rw [if_neg hc, if_neg hc, e_fail, obn_s, gd_p (Or.inl rfl), r_report e5, obn_s]
    exact ⟨0, _, τ', rfl, b1, fun b => Cf_e, b2, rfl, b3, Or.inr ⟨rfl, b4⟩⟩
/-- closing -/
theorem sim_close {s : Int32} (hE : TkE c len last S E) (h : GS c len last S E (l + 1) σ τ i) (hs : kd s = 3 ∧ s ≠ -1) :
    ∃ x σ' τ', f_X4_take 177 s σ = some (x, σ') ∧ f_X7_close 0 s τ = some ((), τ') ∧ (∀ b, Cf b σ σ') ∧ (∀ a d e, Rf a d e τ τ') ∧ σ'.2 = σ.2 ∧ τ'.2 = τ.2 ∧ ((x = 1 ∧ GS c len last S E l σ' τ' (i + 1)) ∨ (x = 0 ∧ ErrS σ' τ')) := by
  obtain ⟨x, σ', τ', t1, t2, t3, t4, t5, t6, t7⟩ := sim_take hE h hs
  refine ⟨x, σ', sI τ' 0 23 (τ'.1 0 23 - 1), t1, ?_, t3, fun a d e => (t4 a d e).tr (Rf_I (by omega)), t5, t6, ?_⟩
  · unfold f_X7_close; rw [gd_p R0, t2, obn_s, bnd_s]
  · rcases t7 with ⟨hx, -, -, g⟩ | ⟨hx, g⟩
    · left
      exact ⟨hx, g.1, g.2.1.z (by decide) (by decide) (by decide), by rw [sI_1, if_pos ⟨rfl, rfl⟩, g.2.2.1, nI_pred], by rw [sd_z3]; exact g.2.2.2⟩
    · right
      refine ⟨hx, ?_, ?_, ?_⟩
      · rw [sI_1, if_neg (by decide)]; exact g.1
      · rw [sI_1, if_neg (by decide)]; exact g.2.1
      · rw [sI_1, if_neg (by decide)]; exact g.2.2
theorem ErrS.z {k : Nat} {v : Int32} (h : ErrS σ τ) (h5 : k ≠ 5) (h6 : k ≠ 6) : ErrS σ (sI τ 0 k v) := ⟨by rw [sI_1, if_neg (fun t => h5 t.2.symm)]; exact h.1, by rw [sI_1, if_neg (fun t => h5 t.2.symm)]; exact h.2.1, by rw [sI_1, if_neg (fun t => h6 t.2.symm)]; exact h.2.2⟩
theorem ErrS.lo (h : ErrS σ τ) (h1 : σ'.1 = σ.1) (h2 : τ'.1 = τ.1) : ErrS σ' τ' := by unfold ErrS; rw [h1, h2]; exact h
theorem sim_paren {rc : Nat → Int32 → St → Option (Int32 × St)} {rr : Nat → Int32 → St → Option (Unit × St)} (hE : TkE c len last S E) (hl : l ≤ 4) (hR : SimR c len last S E (l + 1) rc rr) (h : GS c len last S E l σ τ i) :
    ∃ x σ' τ1 τ2 τ', f_X4_readParenthesis rc 177 (nI l) σ = some (x, σ') ∧ f_X7_open 0 40 τ = some ((), τ1) ∧ rr 0 (nI l + 1) τ1 = some ((), τ2) ∧ f_X7_close 0 41 τ2 = some ((), τ') ∧ Cf (222 + 8 * l) σ σ' ∧ Rf (l + 1) (l + 1) (l + 1) τ τ' ∧ ((x = 1 ∧ c (S i) = 40 ∧ ∃ i', i < i' ∧ GS c len last S E l σ' τ' i' ∧ val σ' (222 + 8 * l) = rv τ' (19 + (l + 1)) ∧ fitN (rv τ' (19 + (l + 1))) 12) ∨ (x = 0 ∧ ErrS σ' τ')) := by
  obtain ⟨x1, σ1, τ1, o1, o2, o3, o4, o5, o6, o7⟩ := sim_open hE h (s := 40) (by decide) hl
  rw [nI_1]
  unfold f_X4_readParenthesis
  rw [gd_p CP.1, o1, obn_s, nI_1]
  rcases o7 with ⟨rfl, hil, hc, hl4, g1⟩ | ⟨rfl, er⟩
  · obtain ⟨x2, σ2, τ2, s1, s2, s3, s4, s5⟩ := hR.1 (by omega) σ1 τ1 (i + 1) g1
    rw [if_neg (by decide), s1, obn_s]
    rcases s5 with ⟨rfl, i', hi', g2, ev, fv⟩ | ⟨rfl, er⟩
    · obtain ⟨x3, σ3, τ3, t1, t2, t3, t4, t5, t6, t7⟩ := sim_close hE g2 (s := 41) (by decide)
      rw [if_neg (by decide), t1, obn_s]
      rcases t7 with ⟨rfl, g3⟩ | ⟨rfl, er⟩
      · obtain ⟨⟨p1, p2, p3, p4⟩, m1, m2, m3, m4⟩ := CL l (by omega)
        obtain ⟨⟨q1, q2, q3, q4⟩, n1, n2, n3, n4⟩ := CL (l + 1) (by omega)
        have g5 : ¬ (nI l < 0 ∨ 5 ≤ (nI l).toNatClampNeg) := ge_pos (N := 5) (by decide) (by omega)
        have g6 : ¬ (nI (l + 1) < 0 ∨ 5 ≤ (nI (l + 1)).toNatClampNeg) := ge_pos (N := 5) (by decide) (by omega)
        obtain ⟨k1, k2, k3, k4, k5, k6, k7, k8, k9, k10, k11, k12⟩ := CP
        obtain ⟨u, σ4, c1, c2, c3⟩ := e_copyFrom (σ := σ3) m4 n1
        rw [if_neg (by decide), k8, k5, k12, k9, gd_p ⟨rfl, g5⟩, gd_p ⟨rfl, g6⟩, nI_clamp (by omega), nI_clamp (by omega), p4, q1, gd_p m4.1, c1, obn_s]
        have cf4 : Cf (222 + 8 * l) σ3 σ4 := c3.cf (fun p t => by unfold at2 at t; omega)
        refine ⟨1, σ4, τ1, τ2, τ3, rfl, o2, s2, t2, (((o3 _).tr (s3.up (by omega))).tr (t3 _)).tr cf4, ((o4 _ _ _).tr s4).tr (t4 _ _ _), Or.inl ⟨rfl, hc, i' + 1, by omega, g3.lo c3.1 (fun p h1 h2 => cf4.2 p (by omega) (by omega)) rfl, ?_, ?_⟩⟩
        · rw [c2, show val σ3 (216 + 8 * (l + 1)) = val σ2 (216 + 8 * (l + 1)) from by unfold val; rw [t5], ev]
          exact (rv_of (by rw [t6])).symm
        · rw [show rv τ3 (19 + (l + 1)) = rv τ2 (19 + (l + 1)) from rv_of (by rw [t6])]; exact fv
      · rw [if_pos rfl]
        exact ⟨0, σ3, τ1, τ2, τ3, rfl, o2, s2, t2, ((o3 _).tr (s3.up (by omega))).tr (t3 _), ((o4 _ _ _).tr s4).tr (t4 _ _ _), Or.inr ⟨rfl, er⟩⟩
    · rw [if_pos rfl]
      exact ⟨0, σ2, τ1, τ2, _, rfl, o2, s2, r_closeBad er.2.1, (o3 _).tr (s3.up (by omega)), ((o4 _ _ _).tr s4).tr (Rf_I (by omega)), Or.inr ⟨rfl, er.z (by decide) (by decide)⟩⟩
  · rw [if_pos rfl]
    exact ⟨0, σ1, τ1, τ1, _, rfl, o2, hR.2 τ1 er.2.1, r_closeBad er.2.1, o3 _, (o4 _ _ _).tr (Rf_I (by omega)), Or.inr ⟨rfl, er.z (by decide) (by decide)⟩⟩
end PAR
