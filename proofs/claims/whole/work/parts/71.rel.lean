/-! THE RELATION -/
def Hs (σ τ : St) : Prop := ∃ n d, n < 8 ∧ d ≤ 8 ∧ σ.1 19 1 = nI n ∧ σ.1 19 2 = nI d ∧ τ.1 0 11 = nI d ∧ ∀ k, k < d → SR (sn σ (21 + 18 * ((n + 8 - d + k) % 8))) (sd τ (5 + k))
def Bf (σ τ : St) : Prop := (∃ f, f ≤ 700 ∧ σ.1 178 1 = nI f ∧ τ.1 0 2 = nI f) ∧ ∀ k, k < 700 → σ.1 179 k = τ.1 1 k ∧ ∃ b, b < 256 ∧ τ.1 1 k = nI b
def Rel (σ τ : St) : Prop := SR (sn σ 1) (sd τ 2) ∧ Hs σ τ ∧ Bf σ τ ∧ σ.1 0 5 = τ.1 0 7
theorem C19 : kC 19 = (0, 1) ∧ rC 19 0 = 20 ∧ kC 20 = (4, 8) ∧ ∀ j, j < 8 → rC 20 j = 21 + 18 * j := by decide +kernel
theorem C0 : kC 0 = (0, 6) ∧ rC 0 0 = 1 ∧ rC 0 1 = 19 ∧ rC 0 2 = 165 ∧ rC 0 3 = 177 ∧ rC 0 4 = 256 := by decide +kernel
theorem C1 : kC 1 = (0, 3) ∧ rC 1 0 = 2 ∧ kC 2 = (3, 8) := by decide +kernel
theorem M256 : isM 256 := by decide +kernel
section REL
variable {σ σ' τ τ' : St}
/-- the reference: nothing but its longs, its first int and its data may change -/
def Tf (τ τ' : St) : Prop := ∀ p j, p ≠ 2 → ¬ (p = 0 ∧ j = 0) → τ'.1 p j = τ.1 p j
theorem Tf.rf : Tf τ τ := fun _ _ _ _ => rfl
theorem Tf.tr {τ1 τ2 : St} (h : Tf τ τ1) (h' : Tf τ1 τ2) : Tf τ τ2 := fun p j h1 h2 => (h' p j h1 h2).trans (h p j h1 h2)
theorem Fr.tf {S : Nat → Prop} (h : Fr S τ τ') : Tf τ τ' := fun p j _ _ => by rw [h.1]
theorem Tf_0 {v : Int32} : Tf τ (sI τ 0 0 v) := fun p j _ h => by rw [sI_1, if_neg h]
theorem Rel.gen (h : Rel σ τ) (hC : Fg (fun p => p = 1) (fun p => atS 1 p ∨ 165 ≤ p) σ σ') (hR : Tf τ τ') (hS : SR (sn σ' 1) (sd τ' 2)) : Rel σ' τ' := by
  obtain ⟨-, ⟨n, d, h1, h2, h3, h4, h5, h6⟩, ⟨⟨f, f1, f2, f3⟩, h7⟩, h8⟩ := h
  refine ⟨hS, ⟨n, d, h1, h2, by rw [hC.1 19 (by decide)]; exact h3, by rw [hC.1 19 (by decide)]; exact h4, by rw [hR 0 11 (by decide) (by decide)]; exact h5, fun k hk => ?_⟩, ⟨⟨f, f1, by rw [hC.1 178 (by decide)]; exact f2, by rw [hR 0 2 (by decide) (by decide)]; exact f3⟩, fun k hk => ?_⟩, by rw [hC.1 0 (by decide), hR 0 7 (by decide) (by decide)]; exact h8⟩
  · have e1 : sn σ' (21 + 18 * ((n + 8 - d + k) % 8)) = sn σ (21 + 18 * ((n + 8 - d + k) % 8)) := by
      have hl : (n + 8 - d + k) % 8 < 8 := Nat.mod_lt _ (by decide)
      generalize (n + 8 - d + k) % 8 = j at hl ⊢
      refine hC.sn (by omega) (fun p t t2 => ?_)
      unfold atS at t t2
      omega
    have e2 : sd τ' (5 + k) = sd τ (5 + k) := by
      have e : ∀ j, τ'.1 (5 + k) j = τ.1 (5 + k) j := fun j => hR _ j (by omega) (by omega)
      exact sd_of (D := 5 + k) (E := 5 + k) (fun j _ => e j)
    rw [e1, e2]
    exact h6 k hk
  · rw [hC.1 179 (by decide), hR 1 k (by decide) (fun t => absurd t.1 (by decide))]
    exact h7 k hk
theorem Rel.q (h : Rel σ τ) (hC : Fg (fun _ => False) (fun p => 165 ≤ p) σ σ') (hR : ∀ p j, ¬ (p = 0 ∧ j = 0) → τ'.1 p j = τ.1 p j) : Rel σ' τ' := by
  refine h.gen (hC.weak (fun _ t => t.elim) (fun _ t => Or.inr t)) (fun p j _ h => hR p j h) ?_
  have e1 : sn σ' 1 = sn σ 1 := hC.sn (fun t => t) (fun p t t2 => by unfold atS at t2; omega)
  have e2 : sd τ' 2 = sd τ 2 := sd_of (fun j _ => hR 2 j (fun t => absurd t.1 (by decide)))
  rw [e1, e2]
  exact h.1
/-! histories -/
def RemC (σ σ' : St) : Prop := ∀ n d, n < 8 → d ≤ 8 → σ.1 19 1 = nI n → σ.1 19 2 = nI d → sn σ' (21 + 18 * n) = sn σ 1 ∧ σ'.1 19 1 = nI ((n + 1) % 8) ∧ σ'.1 19 2 = nI (min (d + 1) 8) ∧ Fg (fun p => p = 19 ∨ p = 21 + 18 * n) (atS (21 + 18 * n)) σ σ'
theorem nx8 : ∀ n, n < 8 → (if nI n + 1 = 8 then (0 : Int32) else nI n + 1) = nI ((n + 1) % 8) := by decide +kernel
theorem mn8 : ∀ d, d < 9 → mnI (nI d + 1) 8 = nI (min (d + 1) 8) := by decide +kernel
theorem e_remember {n d : Nat} (hn : n < 8) (hd : d ≤ 8) (h1 : σ.1 19 1 = nI n) (h2 : σ.1 19 2 = nI d) : Tr (f_X1_remember 19 1 σ) (fun _ σ' => RemC σ σ') := by
  obtain ⟨c1, c2, c3, c4⟩ := C19
  have hl := c4 n hn
  have g : ¬ (nI n < 0 ∨ 8 ≤ (nI n).toNatClampNeg) := ge_pos (N := 8) (by decide) hn
  have hr := isS_ring hn
  unfold f_X1_remember
  rw [bnd_s, bnd_s, h1, if_neg (nI_pos (by omega)), if_pos (show nI n < 8 from (nI_ltI (by omega) (by decide)).mpr hn)]
  dsimp only
  refine Tr.gd c1 (Tr.gd c1 ?_)
  rw [c2, c3, h1, nI_clamp (by omega), hl]
  rw [nI_clamp (by omega)] at g
  refine Tr.gd ⟨rfl, g⟩ (Tr.gd hr.k (Tr.obn ((e_S_copy hr isS_1 (by omega)).mono (fun _ σ1 h3 => ?_))))
  obtain ⟨h3, h4⟩ := h3
  have e1 : σ1.1 19 = σ.1 19 := h4.1 19 (by omega)
  rw [e1, h1]
  have fin : ∀ x, x = nI ((n + 1) % 8) → Tr (gd (kC 19 = (0, 1)) <| bnd (sI σ1 19 1 x) fun σ17 => gd (kC 19 = (0, 1)) <| bnd (sI σ17 19 2 (mnI ((σ17.1 19 2) + (1 : Int32)) (8 : Int32))) fun σ19 => some ((), σ19)) (fun _ σ' => RemC σ σ') := by
    intro x hx
    refine Tr.gd c1 (Tr.bnd (Tr.gd c1 (Tr.bnd (Tr.ret (fun n' d' hn' hd' q1 q2 => ?_)))))
    have en : n' = n := (nI_eq (by omega) (by omega)).mp (q1.symm.trans h1)
    have ed : d' = d := (nI_eq (by omega) (by omega)).mp (q2.symm.trans h2)
    subst en ed
    refine ⟨?_, ?_, ?_, ?_⟩
    · rw [← h3]; unfold sn; rw [sI_1, if_neg (by omega), sI_1, if_neg (by omega)]; rfl
    · rw [sI_1, if_neg (by omega), sI_1, if_pos ⟨rfl, rfl⟩, hx]
    · rw [sI_1, if_pos ⟨rfl, rfl⟩, sI_1, if_neg (by omega), e1, h2, mn8 d' (by omega)]
    · have w : Fg (fun p => p = 19 ∨ p = 21 + 18 * n') (atS (21 + 18 * n')) σ σ1 := h4.weak (fun _ t => Or.inr t) (fun _ t => t)
      exact (w.tr (Fg_I (Or.inl rfl))).tr (Fg_I (Or.inl rfl))
  refine Tr.bnd ?_
  have e := nx8 n hn
  by_cases h9 : nI n + 1 = 8
  · rw [if_pos h9] at e ⊢
    exact fin _ e
  · rw [if_neg h9] at e ⊢
    exact fin _ e
def RemR (τ τ' : St) : Prop := ∀ d, d ≤ 8 → τ.1 0 11 = nI d → τ'.1 0 11 = nI (min (d + 1) 8) ∧ (∀ j, j ≠ 11 → τ'.1 0 j = τ.1 0 j) ∧ (∀ p, p ≠ 0 → ¬ (5 ≤ p ∧ p ≤ 12) → τ'.1 p = τ.1 p) ∧ τ'.2 = τ.2 ∧ ∀ k, k < min (d + 1) 8 → sd τ' (5 + k) = if k + 1 < min (d + 1) 8 then sd τ (5 + (k + (d + 1 - min (d + 1) 8))) else sd τ 2
theorem r_remEnd {d0 : Nat} {τ0 : St} (hd : d0 ≤ 8) (h0 : τ0.1 0 11 = nI d0) {e : Nat} (he : e + 1 = min (d0 + 1) 8) (h1 : τ.1 0 11 = nI e) (h2 : ∀ j, j ≠ 11 → τ.1 0 j = τ0.1 0 j) (h3 : ∀ p, p ≠ 0 → ¬ (5 ≤ p ∧ p ≤ 12) → τ.1 p = τ0.1 p) (h4 : τ.2 = τ0.2) (h5 : ∀ k, k < e → sd τ (5 + k) = sd τ0 (5 + (k + (d0 - e)))) :
    Tr (gd (kR 0 = (0, 7)) <| gd ((kR (rR 0 10)).1 = 5 ∧ ¬ ((τ.1 0 11) < 0 ∨ (kR (rR 0 10)).2 ≤ (τ.1 0 11).toNatClampNeg)) <| obn (f_X7_copy (rR 0 8) (rR (rR 0 10) (τ.1 0 11).toNatClampNeg) τ) fun _ σ7 => bnd (sI σ7 0 11 ((σ7.1 0 11) + (1 : Int32))) fun σ9 => some ((), σ9)) (fun _ τ' => RemR τ0 τ') := by
  obtain ⟨r1, r2, r3⟩ := R4
  have he8 : e < 8 := by omega
  obtain ⟨r4, r5⟩ := r3 e he8
  have g : ¬ (nI e < 0 ∨ 8 ≤ (nI e).toNatClampNeg) := ge_pos (N := 8) (by decide) he8
  rw [h1, r1, r2, R2.1, nI_clamp (by omega), r4]
  rw [nI_clamp (by omega)] at g
  refine Tr.gd R0 (Tr.gd ⟨rfl, g⟩ (Tr.obn ((r_copyD R2.2 r5 (by omega)).mono (fun _ τ1 h6 => Tr.bnd (Tr.ret (fun d hd' q => ?_))))))
  obtain ⟨h6, h7⟩ := h6
  have ed : d = d0 := (nI_eq (by omega) (by omega)).mp (q.symm.trans h0)
  subst ed
  have e0 : τ1.1 0 = τ.1 0 := h7.1 0 (by omega)
  have s2 : sd τ1 (5 + e) = sd τ 2 := sd_of h6
  have s3 : sd τ 2 = sd τ0 2 := by unfold sd dv; rw [h3 2 (by decide) (by decide)]
  have s4 : ∀ k, sd (sI τ1 0 11 (τ1.1 0 11 + 1)) (5 + k) = sd τ1 (5 + k) := fun k => by
    unfold sd dv
    simp only [sI_1, show ¬ (5 + k = 0) from by omega, false_and, if_false]
  refine ⟨?_, fun j hj => ?_, fun p hp hq => ?_, ?_, fun k hk => ?_⟩
  · rw [sI_1, if_pos ⟨rfl, rfl⟩, e0, h1, nI_1, he]
  · rw [sI_1, if_neg (fun t => hj t.2), e0]; exact h2 j hj
  · funext j; rw [sI_1, if_neg (fun t => hp t.1), h7.1 p (by omega), h3 p hp hq]
  · rw [sI_2]; exact (funext (fun p => h7.2 p (fun t => t))).trans h4
  · rw [s4]
    by_cases hke : k + 1 < min (d + 1) 8
    · rw [if_pos hke, h7.sd (D := 5 + k) (by omega), h5 k (by omega)]
      congr 2
      omega
    · rw [if_neg hke, show k = e by omega, s2, s3]
theorem r_remember {d : Nat} (hd : d ≤ 8) (h : τ.1 0 11 = nI d) : Tr (f_X7_remember 0 τ) (fun _ τ' => RemR τ τ') := by
  obtain ⟨r1, r2, r3⟩ := R4
  unfold f_X7_remember
  refine Tr.gd R0 (Tr.bnd ?_)
  rw [h]
  by_cases h8 : d = 8
  · subst h8
    rw [if_pos (by decide)]
    have key : ∀ (K : Nat → St → Option (Unit × St)) (P : Unit → St → Prop), (∀ τ1, τ1.1 0 = τ.1 0 → (∀ p, ¬ (5 ≤ p ∧ p ≤ 12) → τ1.1 p = τ.1 p) → τ1.2 = τ.2 → (∀ k, k < 7 → sd τ1 (5 + k) = sd τ (5 + (k + 1))) → Tr (K 0 τ1) P) →
        ∀ m k (τ1 : St), 1 ≤ k → k ≤ 8 → 8 < m + k → (∀ p, ¬ (5 ≤ p ∧ p ≤ 12) → τ1.1 p = τ.1 p) → τ1.2 = τ.2 → (∀ j, j + 1 < k → sd τ1 (5 + j) = sd τ (5 + (j + 1))) → (∀ j, k ≤ j + 1 → j < 8 → sd τ1 (5 + j) = sd τ (5 + j)) → Tr (f_X7_remember_L11 K m 0 (nI k) τ1) P := by
      intro K P hK m
      induction m with
      | zero => intro k τ1 h1 h2 h3; omega
      | succ m ih =>
        intro k τ1 h1 h2 h3 h4 h5 h6 h7
        rw [f_X7_remember_L11]
        refine Tr.ite (fun h => ?_) (fun h => ?_)
        · rw [eight_le (by omega)] at h
          have : k = 8 := by omega
          subst this
          exact hK τ1 (h4 0 (by decide)) h4 h5 (fun j hj => h6 j (by omega))
        · rw [eight_le (by omega)] at h
          have e1 : nI k - 1 = nI (k - 1) := by
            obtain ⟨j, rfl⟩ : ∃ j, k = j + 1 := ⟨k - 1, by omega⟩
            rw [nI_pred]; rfl
          have g : ¬ (nI k < 0 ∨ 8 ≤ (nI k).toNatClampNeg) := ge_pos (N := 8) (by decide) (by omega)
          have g' : ¬ (nI (k - 1) < 0 ∨ 8 ≤ (nI (k - 1)).toNatClampNeg) := ge_pos (N := 8) (by decide) (by omega)
          rw [nI_clamp (by omega)] at g g'
          rw [e1, r1, r2, nI_clamp (by omega), nI_clamp (by omega), (r3 k (by omega)).1, (r3 (k - 1) (by omega)).1]
          refine Tr.gd R0 (Tr.gd ⟨rfl, g⟩ (Tr.gd ⟨rfl, g'⟩ (Tr.obn ((r_copyD (r3 k (by omega)).2 (r3 (k - 1) (by omega)).2 (by omega)).mono (fun _ τ2 h8 => Tr.bnd ?_)))))
          obtain ⟨h8, h9⟩ := h8
          rw [nI_1]
          have s : sd τ2 (5 + (k - 1)) = sd τ1 (5 + k) := sd_of h8
          refine ih (k + 1) τ2 (by omega) (by omega) (by omega) (fun p hp => (h9.1 p (by omega)).trans (h4 p hp)) ((funext (fun p => h9.2 p (fun t => t))).trans h5) (fun j hj => ?_) (fun j hj hj8 => ?_)
          · by_cases hjk : j = k - 1
            · rw [hjk, s, h7 k (by omega) (by omega)]; congr 2; omega
            · rw [h9.sd (D := 5 + j) (by omega)]; exact h6 j (by omega)
          · rw [h9.sd (D := 5 + j) (by omega)]; exact h7 j (by omega) hj8
    refine key _ _ (fun τ1 h1 h2 h3 h4 => ?_) FU 1 τ (Nat.le_refl _) (by decide) (by decide) (fun _ _ => rfl) rfl (fun j hj => absurd hj (by omega)) (fun _ _ _ => rfl)
    refine Tr.gd R0 (Tr.bnd ?_)
    refine r_remEnd (d0 := 8) (e := 7) (by omega) h (by decide) ?_ (fun j hj => ?_) (fun p hp hq => ?_) ?_ (fun k hk => ?_)
    · rw [sI_1, if_pos ⟨rfl, rfl⟩, h1, h]; decide
    · rw [sI_1, if_neg (fun t => hj t.2), h1]
    · funext j; rw [sI_1, if_neg (fun t => hp t.1), h2 p hq]
    · exact h3
    · rw [← h4 k hk]
      unfold sd dv
      simp only [sI_1, show ¬ (5 + k = 0) from by omega, false_and, if_false]
  · rw [if_neg (show ¬ nI d = 8 from fun t => h8 ((nI_eq (b := 8) (by omega) (by decide)).mp t))]
    exact r_remEnd hd h (e := d) (by omega) h (fun _ _ => rfl) (fun _ _ _ => rfl) rfl (fun k hk => by rw [Nat.sub_self]; rfl)
theorem rem_rel (h : Rel σ τ) (hC : RemC σ σ') (hR : RemR τ τ') : Rel σ' τ' ∧ sn σ' 1 = sn σ 1 ∧ sd τ' 2 = sd τ 2 ∧ τ'.2 = τ.2 ∧ (∀ j, j ≠ 11 → τ'.1 0 j = τ.1 0 j) ∧ Fg (fun p => 19 ≤ p ∧ p < 165) (fun p => 19 ≤ p ∧ p < 165) σ σ' := by
  obtain ⟨hS, ⟨n, d, h1, h2, h3, h4, h5, h6⟩, ⟨⟨f, f1, f2, f3⟩, h7⟩, h8⟩ := h
  obtain ⟨c1, c2, c3, c4⟩ := hC n d h1 h2 h3 h4
  obtain ⟨r1, r2, r3, r4, r5⟩ := hR d h2 h5
  have s1 : sn σ' 1 = sn σ 1 := c4.sn (by omega) (fun p t t2 => by unfold atS at t t2; omega)
  have s2 : sd τ' 2 = sd τ 2 := by unfold sd dv; rw [r3 2 (by decide) (by decide)]
  refine ⟨⟨by rw [s1, s2]; exact hS, ⟨(n + 1) % 8, min (d + 1) 8, Nat.mod_lt _ (by decide), by omega, c2, c3, r1, fun k hk => ?_⟩, ⟨⟨f, f1, by rw [c4.1 178 (by omega)]; exact f2, by rw [r2 2 (by decide)]; exact f3⟩, fun k hk => by rw [c4.1 179 (by omega), r3 1 (by decide) (by decide)]; exact h7 k hk⟩, by rw [c4.1 0 (by omega), r2 7 (by decide)]; exact h8⟩, s1, s2, r4, r2, c4.weak (fun p t => by omega) (fun p t => by unfold atS at t; omega)⟩
  rw [r5 k hk]
  by_cases hk1 : k + 1 < min (d + 1) 8
  · rw [if_pos hk1]
    have hix : ((n + 1) % 8 + 8 - min (d + 1) 8 + k) % 8 = (n + 8 - d + (k + (d + 1 - min (d + 1) 8))) % 8 := by omega
    have hne : ((n + 1) % 8 + 8 - min (d + 1) 8 + k) % 8 ≠ n := by omega
    have hl : ((n + 1) % 8 + 8 - min (d + 1) 8 + k) % 8 < 8 := Nat.mod_lt _ (by decide)
    have hsn : sn σ' (21 + 18 * (((n + 1) % 8 + 8 - min (d + 1) 8 + k) % 8)) = sn σ (21 + 18 * (((n + 1) % 8 + 8 - min (d + 1) 8 + k) % 8)) := by
      generalize ((n + 1) % 8 + 8 - min (d + 1) 8 + k) % 8 = j at hne hl ⊢
      exact c4.sn (by omega) (fun p t t2 => by unfold atS at t t2; omega)
    rw [hsn, hix]
    exact h6 _ (by omega)
  · rw [if_neg hk1]
    have hix : ((n + 1) % 8 + 8 - min (d + 1) 8 + k) % 8 = n := by omega
    rw [hix, c1]
    exact hS
end REL
