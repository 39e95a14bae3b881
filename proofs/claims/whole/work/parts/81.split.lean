/-! THE TEXT IS SPLIT -/
theorem e_kindOf {x : Int32} {σ : St} : f_X5_kindOf x σ = some (kd x, σ) := by
  unfold f_X5_kindOf kd
  simp only [bnd_s]
  by_cases h0 : x = 32
  · rw [if_pos h0, if_pos h0]
  rw [if_neg h0, if_neg h0]
  have tail : (if x < (97 : Int32) then (some ((3 : Int32), σ)) else (if (122 : Int32) < x then (some ((3 : Int32), σ)) else (some ((2 : Int32), σ)))) = some (if ¬ x < 97 ∧ ¬ 122 < x then (2 : Int32) else 3, σ) := by
    by_cases h3 : x < 97
    · rw [if_pos h3, if_neg (fun t => t.1 h3)]
    · by_cases h4 : 122 < x
      · rw [if_neg h3, if_pos h4, if_neg (fun t => t.2 h4)]
      · rw [if_neg h3, if_neg h4, if_pos ⟨h3, h4⟩]
  by_cases h1 : x < 48
  · rw [if_pos h1, tail, show (if ¬ x < 48 ∧ ¬ 57 < x then (1 : Int32) else if ¬ x < 97 ∧ ¬ 122 < x then 2 else 3) = _ from if_neg (fun t => t.1 h1)]
  · by_cases h2 : 57 < x
    · rw [if_neg h1, if_pos h2, tail, show (if ¬ x < 48 ∧ ¬ 57 < x then (1 : Int32) else if ¬ x < 97 ∧ ¬ 122 < x then 2 else 3) = _ from if_neg (fun t => t.2 h2)]
    · rw [if_neg h1, if_neg h2, show (if ¬ x < 48 ∧ ¬ 57 < x then (1 : Int32) else if ¬ x < 97 ∧ ¬ 122 < x then 2 else 3) = _ from if_pos ⟨h1, h2⟩]
theorem kd_32 {x : Int32} : kd x = 0 ↔ x = 32 := by
  unfold kd
  constructor
  · intro h
    by_cases h0 : x = 32
    · exact h0
    · rw [if_neg h0] at h
      split at h
      · cases h
      · split at h <;> cases h
  · intro h; rw [if_pos h]
theorem kd_4 {x : Int32} : kd x = 0 ∨ kd x = 1 ∨ kd x = 2 ∨ kd x = 3 := by
  unfold kd; split
  · exact Or.inl rfl
  · split
    · exact Or.inr (Or.inl rfl)
    · split
      · exact Or.inr (Or.inr (Or.inl rfl))
      · exact Or.inr (Or.inr (Or.inr rfl))
/-- where the split stands: a bytes read, n tokens, b the kind of the byte before -/
def Spl (c : Nat → Int32) (len : Nat) (S E : Nat → Nat) (a n : Nat) (b : Int32) : Prop := n ≤ a ∧ (n = 0 → ∀ k, k < a → c k = 32) ∧ (0 < n → (∀ k, k < S 0 → c k = 32) ∧ (∀ j, j < n → kd (c (S j)) ≠ 0 ∧ S j < a ∧ E j ≤ a) ∧ (∀ j, j + 1 < n → Te c (S j) (E j) ∧ Skp c (E j) (S (j + 1))) ∧ S (n - 1) < E (n - 1) ∧ (∀ k, S (n - 1) ≤ k → k < E (n - 1) → kd (c k) = kd (c (S (n - 1)))) ∧ (kd (c (S (n - 1))) = 3 → E (n - 1) = S (n - 1) + 1) ∧ (∀ k, E (n - 1) ≤ k → k < a → c k = 32)) ∧ (a = 0 → b = 0) ∧ (0 < a → b = kd (c (a - 1)))
theorem Spl.touch {c : Nat → Int32} {len a n : Nat} {S E : Nat → Nat} {b : Int32} (h : Spl c len S E a n b) (hn : 0 < n) (hk : kd (c a) = b) (h12 : kd (c a) = 1 ∨ kd (c a) = 2) : E (n - 1) = a ∧ kd (c a) = kd (c (S (n - 1))) := by
  obtain ⟨h1, -, h3, -, h5⟩ := h
  obtain ⟨-, q2, -, q4, q5, -, q7⟩ := h3 hn
  obtain ⟨r1, r2, r3⟩ := q2 (n - 1) (by omega)
  have hb := h5 (by omega)
  have he : E (n - 1) = a := by
    rcases Nat.lt_or_ge (E (n - 1)) a with g | g
    · have := q7 (a - 1) (by omega) (by omega)
      rw [this] at hb
      rw [hk, hb] at h12
      rcases h12 with e | e
      · exact absurd e (by decide)
      · exact absurd e (by decide)
    · omega
  refine ⟨he, ?_⟩
  rw [hk, hb]
  exact q5 (a - 1) (by omega) (by omega)
theorem Spl.fin {c : Nat → Int32} {len a n : Nat} {S E : Nat → Nat} {b : Int32} (h : Spl c len S E a n b) (hn : 0 < n) (hno : ¬ (kd (c a) = b ∧ (kd (c a) = 1 ∨ kd (c a) = 2))) (hs : c a ≠ 32) : Te c (S (n - 1)) (E (n - 1)) ∧ Skp c (E (n - 1)) a := by
  obtain ⟨h1, -, h3, -, h5⟩ := h
  obtain ⟨-, q2, -, q4, q5, q6, q7⟩ := h3 hn
  obtain ⟨r1, r2, r3⟩ := q2 (n - 1) (by omega)
  have hb := h5 (by omega)
  refine ⟨⟨q4, q5, fun h12 he => ?_, q6⟩, r3, q7, hs⟩
  rcases Nat.lt_or_ge (E (n - 1)) a with g | g
  · have := q7 (E (n - 1)) (Nat.le_refl _) g
    rw [this] at he
    rw [← he] at h12
    rcases h12 with e | e
    · exact absurd e (by decide)
    · exact absurd e (by decide)
  · have e : E (n - 1) = a := by omega
    rw [e] at he
    have := q5 (a - 1) (by omega) (by omega)
    rw [← hb] at this
    refine hno ⟨he.trans this.symm, ?_⟩
    rw [he]; exact h12
section SPLIT
variable {σ : St} {c : Nat → Int32} {len : Nat}
theorem e_splitLoop (hl : len ≤ 700) : ∀ (m a n : Nat) (b : Int32) (S E : Nat → Nat) (σ : St), a ≤ len → len < m + a → (∀ k, k < len → σ.1 179 k = c k) → (∀ j, j < n → σ.1 180 j = nI (S j) ∧ σ.1 181 j = nI (E j)) → Spl c len S E a n b →
    ∃ n' b' S' E' σ', Spl c len S' E' len n' b' ∧ (∀ j, j < n' → σ'.1 180 j = nI (S' j) ∧ σ'.1 181 j = nI (E' j)) ∧ (∀ p j, p ≠ 180 → p ≠ 181 → σ'.1 p j = σ.1 p j) ∧ σ'.2 = σ.2 ∧ ∀ K, f_X5_split_L7 K m 178 (nI len) (nI n) b (nI a) σ = K 178 (nI len) (nI n') σ' := by
  obtain ⟨k0, k1, k2, k3, k4, k5, k6⟩ := C178
  intro m
  induction m with
  | zero => intro a n b S E σ h1 h2; omega
  | succ m ih =>
    intro a n b S E σ h1 h2 h3 h4 h5
    by_cases ha : a = len
    · subst ha
      exact ⟨n, b, S, E, σ, h5, h4, fun _ _ _ _ => rfl, rfl, fun K => by rw [f_X5_split_L7, if_pos (Int32.le_refl _)]⟩
    · have ha : a < len := by omega
      have hna := h5.1
      have g : ¬ (nI a < 0 ∨ 700 ≤ (nI a).toNatClampNeg) := ge_pos (N := 700) (by decide) (by omega)
      have hd1 : ¬ nI len ≤ nI a := fun t => absurd ((nI_leI (by omega) (by omega)).mp t) (by omega)
      have hd2 : ¬ (700 : Int32) ≤ nI a := fun t => absurd ((nI_leI (a := 700) (by decide) (by omega)).mp t) (by omega)
      -- the head of a round
      have head : ∀ K, f_X5_split_L7 K (m + 1) 178 (nI len) (nI n) b (nI a) σ = (if nI n ≤ 0 then (if kd (c a) = 0 then (f_X5_split_L7 K m 178 (nI len) (nI n) (kd (c a)) (nI a + 1) σ) else (if (700 : Int32) ≤ nI n then (f_X5_split_L7 K m 178 (nI len) (nI n) (kd (c a)) (nI a + 1) σ) else (gd (kC 178 = (0, 5)) <| gd ((kC (rC 178 2)).1 = 1 ∧ ¬ (nI n < 0 ∨ (kC (rC 178 2)).2 ≤ (nI n).toNatClampNeg)) <| gd ((kC (rC 178 3)).1 = 1 ∧ ¬ (nI n < 0 ∨ (kC (rC 178 3)).2 ≤ (nI n).toNatClampNeg)) <| f_X5_split_L7 K m 178 (nI len) (nI n + 1) (kd (c a)) (nI a + 1) (sI (sI σ (rC 178 2) (nI n).toNatClampNeg (nI a)) (rC 178 3) (nI n).toNatClampNeg (nI a + 1))))) else if kd (c a) = b then (if kd (c a) = 1 then (gd (kC 178 = (0, 5)) <| gd ((kC (rC 178 3)).1 = 1 ∧ ¬ ((nI n - 1) < 0 ∨ (kC (rC 178 3)).2 ≤ (nI n - 1).toNatClampNeg)) <| f_X5_split_L7 K m 178 (nI len) (nI n) (kd (c a)) (nI a + 1) (sI σ (rC 178 3) (nI n - 1).toNatClampNeg (nI a + 1))) else if kd (c a) = 2 then (gd (kC 178 = (0, 5)) <| gd ((kC (rC 178 3)).1 = 1 ∧ ¬ ((nI n - 1) < 0 ∨ (kC (rC 178 3)).2 ≤ (nI n - 1).toNatClampNeg)) <| f_X5_split_L7 K m 178 (nI len) (nI n) (kd (c a)) (nI a + 1) (sI σ (rC 178 3) (nI n - 1).toNatClampNeg (nI a + 1))) else (if kd (c a) = 0 then (f_X5_split_L7 K m 178 (nI len) (nI n) (kd (c a)) (nI a + 1) σ) else (if (700 : Int32) ≤ nI n then (f_X5_split_L7 K m 178 (nI len) (nI n) (kd (c a)) (nI a + 1) σ) else (gd (kC 178 = (0, 5)) <| gd ((kC (rC 178 2)).1 = 1 ∧ ¬ (nI n < 0 ∨ (kC (rC 178 2)).2 ≤ (nI n).toNatClampNeg)) <| gd ((kC (rC 178 3)).1 = 1 ∧ ¬ (nI n < 0 ∨ (kC (rC 178 3)).2 ≤ (nI n).toNatClampNeg)) <| f_X5_split_L7 K m 178 (nI len) (nI n + 1) (kd (c a)) (nI a + 1) (sI (sI σ (rC 178 2) (nI n).toNatClampNeg (nI a)) (rC 178 3) (nI n).toNatClampNeg (nI a + 1)))))) else (if kd (c a) = 0 then (f_X5_split_L7 K m 178 (nI len) (nI n) (kd (c a)) (nI a + 1) σ) else (if (700 : Int32) ≤ nI n then (f_X5_split_L7 K m 178 (nI len) (nI n) (kd (c a)) (nI a + 1) σ) else (gd (kC 178 = (0, 5)) <| gd ((kC (rC 178 2)).1 = 1 ∧ ¬ (nI n < 0 ∨ (kC (rC 178 2)).2 ≤ (nI n).toNatClampNeg)) <| gd ((kC (rC 178 3)).1 = 1 ∧ ¬ (nI n < 0 ∨ (kC (rC 178 3)).2 ≤ (nI n).toNatClampNeg)) <| f_X5_split_L7 K m 178 (nI len) (nI n + 1) (kd (c a)) (nI a + 1) (sI (sI σ (rC 178 2) (nI n).toNatClampNeg (nI a)) (rC 178 3) (nI n).toNatClampNeg (nI a + 1)))))) := by
        intro K
        rw [f_X5_split_L7]
        simp only [bnd_s]
        rw [if_neg hd1, if_neg hd2, gd_p k0, k1, k2, gd_p ⟨rfl, g⟩, nI_clamp (n := a) (by omega), h3 a ha, e_kindOf, obn_s]
      have hn700 : ¬ (700 : Int32) ≤ nI n := fun t => absurd ((nI_leI (a := 700) (by decide) (by omega)).mp t) (by omega)
      have gn : ¬ (nI n < 0 ∨ 701 ≤ (nI n).toNatClampNeg) := ge_pos (N := 701) (by decide) (by omega)
      -- a space
      have sp : kd (c a) = 0 → ∃ n' b' S' E' σ', Spl c len S' E' len n' b' ∧ (∀ j, j < n' → σ'.1 180 j = nI (S' j) ∧ σ'.1 181 j = nI (E' j)) ∧ (∀ p j, p ≠ 180 → p ≠ 181 → σ'.1 p j = σ.1 p j) ∧ σ'.2 = σ.2 ∧ ∀ K, f_X5_split_L7 K m 178 (nI len) (nI n) (kd (c a)) (nI a + 1) σ = K 178 (nI len) (nI n') σ' := by
        intro hz
        have hsp := kd_32.mp hz
        have h := ih (a + 1) n (kd (c a)) S E σ (by omega) (by omega) h3 h4 ?_
        · rw [← nI_1] at h; exact h
        · obtain ⟨p1, p2, p3, p4, p5⟩ := h5
          refine ⟨by omega, fun h0 k hk => ?_, fun hn => ?_, fun h => by omega, fun _ => rfl⟩
          · by_cases hka : k = a
            · rw [hka]; exact hsp
            · exact p2 h0 k (by omega)
          · obtain ⟨q1, q2, q3, q4, q5, q6, q7⟩ := p3 hn
            refine ⟨q1, fun j hj => ?_, q3, q4, q5, q6, fun k hk hk2 => ?_⟩
            · obtain ⟨r1, r2, r3⟩ := q2 j hj; exact ⟨r1, by omega, by omega⟩
            · by_cases hka : k = a
              · rw [hka]; exact hsp
              · exact q7 k hk (by omega)
      -- a new token
      have nw : kd (c a) ≠ 0 → ¬ (0 < n ∧ kd (c a) = b ∧ (kd (c a) = 1 ∨ kd (c a) = 2)) → ∃ n' b' S' E' σ', Spl c len S' E' len n' b' ∧ (∀ j, j < n' → σ'.1 180 j = nI (S' j) ∧ σ'.1 181 j = nI (E' j)) ∧ (∀ p j, p ≠ 180 → p ≠ 181 → σ'.1 p j = σ.1 p j) ∧ σ'.2 = σ.2 ∧ ∀ K, (gd (kC 178 = (0, 5)) <| gd ((kC (rC 178 2)).1 = 1 ∧ ¬ (nI n < 0 ∨ (kC (rC 178 2)).2 ≤ (nI n).toNatClampNeg)) <| gd ((kC (rC 178 3)).1 = 1 ∧ ¬ (nI n < 0 ∨ (kC (rC 178 3)).2 ≤ (nI n).toNatClampNeg)) <| f_X5_split_L7 K m 178 (nI len) (nI n + 1) (kd (c a)) (nI a + 1) (sI (sI σ (rC 178 2) (nI n).toNatClampNeg (nI a)) (rC 178 3) (nI n).toNatClampNeg (nI a + 1))) = K 178 (nI len) (nI n') σ' := by
        intro hz hno
        have hs := kd0 hz
        have h := ih (a + 1) (n + 1) (kd (c a)) (fun j => if j = n then a else S j) (fun j => if j = n then a + 1 else E j) (sI (sI σ 180 n (nI a)) 181 n (nI (a + 1))) (by omega) (by omega) (fun k hk => by rw [sI_1, if_neg (by omega), sI_1, if_neg (by omega)]; exact h3 k hk) (fun j hj => ?_) ?_
        · obtain ⟨n', b', S', E', σ', w1, w2, w3, w4, w5⟩ := h
          refine ⟨n', b', S', E', σ', w1, w2, fun p j hp hp2 => ?_, w4, fun K => ?_⟩
          · rw [w3 p j hp hp2, sI_1, if_neg (fun t => hp2 t.1), sI_1, if_neg (fun t => hp t.1)]
          · rw [gd_p k0, k3, k5, k4, k6, gd_p ⟨rfl, gn⟩, gd_p ⟨rfl, gn⟩, nI_clamp (n := n) (by omega), nI_1, nI_1]
            exact w5 K
        · by_cases hjn : j = n
          · rw [if_pos hjn, if_pos hjn, hjn]
            exact ⟨by rw [sI_1, if_neg (by omega), sI_1, if_pos ⟨rfl, rfl⟩], by rw [sI_1, if_pos ⟨rfl, rfl⟩]⟩
          · rw [if_neg hjn, if_neg hjn]
            exact ⟨by rw [sI_1, if_neg (by omega), sI_1, if_neg (by omega)]; exact (h4 j (by omega)).1, by rw [sI_1, if_neg (by omega), sI_1, if_neg (by omega)]; exact (h4 j (by omega)).2⟩
        · have h5' := h5
          obtain ⟨p1, p2, p3, p4, p5⟩ := h5
          refine ⟨by omega, fun h0 => by omega, fun _ => ?_, fun h => by omega, fun _ => rfl⟩
          have en : n + 1 - 1 = n := by omega
          rw [en]
          dsimp only
          rw [if_pos rfl, if_pos rfl]
          refine ⟨fun k hk => ?_, fun j hj => ?_, fun j hj => ?_, by omega, fun k hk hk2 => by rw [show k = a by omega], fun _ => rfl, fun k hk hk2 => by omega⟩
          · by_cases h0 : n = 0
            · rw [if_pos h0.symm] at hk; exact p2 h0 k hk
            · rw [if_neg (fun t => h0 t.symm)] at hk; exact (p3 (by omega)).1 k hk
          · by_cases hjn : j = n
            · rw [if_pos hjn, if_pos hjn]; exact ⟨hz, by omega, by omega⟩
            · rw [if_neg hjn, if_neg hjn]
              obtain ⟨r1, r2, r3⟩ := (p3 (by omega)).2.1 j (by omega)
              exact ⟨r1, by omega, by omega⟩
          · rw [if_neg (show ¬ j = n by omega), if_neg (show ¬ j = n by omega)]
            by_cases hj1 : j + 1 = n
            · rw [if_pos hj1]
              have f := h5'.fin (by omega) (fun t => hno ⟨by omega, t⟩) hs
              rw [show n - 1 = j by omega] at f
              exact f
            · rw [if_neg hj1]
              exact (p3 (by omega)).2.2.1 j (by omega)
      -- a run goes on
      have go : 0 < n → kd (c a) = b → (kd (c a) = 1 ∨ kd (c a) = 2) → ∃ n' b' S' E' σ', Spl c len S' E' len n' b' ∧ (∀ j, j < n' → σ'.1 180 j = nI (S' j) ∧ σ'.1 181 j = nI (E' j)) ∧ (∀ p j, p ≠ 180 → p ≠ 181 → σ'.1 p j = σ.1 p j) ∧ σ'.2 = σ.2 ∧ ∀ K, (gd (kC 178 = (0, 5)) <| gd ((kC (rC 178 3)).1 = 1 ∧ ¬ ((nI n - 1) < 0 ∨ (kC (rC 178 3)).2 ≤ (nI n - 1).toNatClampNeg)) <| f_X5_split_L7 K m 178 (nI len) (nI n) (kd (c a)) (nI a + 1) (sI σ (rC 178 3) (nI n - 1).toNatClampNeg (nI a + 1))) = K 178 (nI len) (nI n') σ' := by
        intro hn hb h12
        obtain ⟨t1, t2⟩ := h5.touch hn hb h12
        have e1 : nI n - 1 = nI (n - 1) := by
          obtain ⟨j, rfl⟩ : ∃ j, n = j + 1 := ⟨n - 1, by omega⟩
          rw [nI_pred]; rfl
        have g1 : ¬ (nI (n - 1) < 0 ∨ 701 ≤ (nI (n - 1)).toNatClampNeg) := ge_pos (N := 701) (by decide) (by omega)
        have h := ih (a + 1) n (kd (c a)) S (fun j => if j = n - 1 then a + 1 else E j) (sI σ 181 (n - 1) (nI (a + 1))) (by omega) (by omega) (fun k hk => by rw [sI_1, if_neg (by omega)]; exact h3 k hk) (fun j hj => ?_) ?_
        · obtain ⟨n', b', S', E', σ', w1, w2, w3, w4, w5⟩ := h
          refine ⟨n', b', S', E', σ', w1, w2, fun p j hp hp2 => ?_, w4, fun K => ?_⟩
          · rw [w3 p j hp hp2, sI_1, if_neg (fun t => hp2 t.1)]
          · rw [gd_p k0, k5, k6, e1, gd_p ⟨rfl, g1⟩, nI_clamp (n := n - 1) (by omega), nI_1]
            exact w5 K
        · refine ⟨by rw [sI_1, if_neg (by omega)]; exact (h4 j hj).1, ?_⟩
          by_cases hjn : j = n - 1
          · rw [if_pos hjn, hjn, sI_1, if_pos ⟨rfl, rfl⟩]
          · rw [if_neg hjn, sI_1, if_neg (by omega)]; exact (h4 j hj).2
        · obtain ⟨p1, p2, p3, p4, p5⟩ := h5
          obtain ⟨q1, q2, q3, q4, q5, q6, q7⟩ := p3 hn
          refine ⟨by omega, fun h0 => by omega, fun _ => ?_, fun h => by omega, fun _ => rfl⟩
          dsimp only
          rw [if_pos rfl]
          refine ⟨q1, fun j hj => ?_, fun j hj => ?_, by have := (q2 (n - 1) (by omega)).2.1; omega, fun k hk hk2 => ?_, fun h3' => ?_, fun k hk hk2 => by omega⟩
          · obtain ⟨r1, r2, r3⟩ := q2 j hj
            refine ⟨r1, by omega, ?_⟩
            split <;> omega
          · rw [if_neg (by omega)]; exact q3 j hj
          · by_cases hka : k = a
            · rw [hka]; exact t2
            · exact q5 k hk (by omega)
          · rw [← t2] at h3'
            rw [h3'] at h12
            rcases h12 with e | e
            · exact absurd e (by decide)
            · exact absurd e (by decide)
      by_cases hz : kd (c a) = 0
      · obtain ⟨n', b', S', E', σ', w1, w2, w3, w4, w5⟩ := sp hz
        refine ⟨n', b', S', E', σ', w1, w2, w3, w4, fun K => ?_⟩
        rw [head K, if_pos hz, if_neg (show ¬ kd (c a) = 1 by rw [hz]; decide), if_neg (show ¬ kd (c a) = 2 by rw [hz]; decide), w5 K]
        split
        · rfl
        · split <;> rfl
      · by_cases ht : 0 < n ∧ kd (c a) = b ∧ (kd (c a) = 1 ∨ kd (c a) = 2)
        · obtain ⟨n', b', S', E', σ', w1, w2, w3, w4, w5⟩ := go ht.1 ht.2.1 ht.2.2
          refine ⟨n', b', S', E', σ', w1, w2, w3, w4, fun K => ?_⟩
          rw [head K, if_neg (nI_nle ht.1 (by omega)), if_pos ht.2.1, w5 K]
          rcases ht.2.2 with e | e
          · rw [if_pos e]
          · rw [if_neg (show ¬ kd (c a) = 1 by rw [e]; decide), if_pos e]
        · obtain ⟨n', b', S', E', σ', w1, w2, w3, w4, w5⟩ := nw hz ht
          refine ⟨n', b', S', E', σ', w1, w2, w3, w4, fun K => ?_⟩
          rw [head K, if_neg hz, if_neg hn700, w5 K]
          by_cases hn0 : nI n ≤ 0
          · rw [if_pos hn0]
          · rw [if_neg hn0]
            have hn : 0 < n := by
              rcases Nat.eq_zero_or_pos n with e | e
              · subst e; exact absurd (by decide) hn0
              · exact e
            by_cases hb : kd (c a) = b
            · rw [if_pos hb, if_neg (show ¬ kd (c a) = 1 from fun t => ht ⟨hn, hb, Or.inl t⟩), if_neg (show ¬ kd (c a) = 2 from fun t => ht ⟨hn, hb, Or.inr t⟩)]
            · rw [if_neg hb]
theorem e_split (hl : len ≤ 700) (hc : ∀ k, len ≤ k → c k = -1) (hb : ∀ k, k < len → ∃ b, b < 256 ∧ c k = nI b) (h3 : ∀ k, k < len → σ.1 179 k = c k) :
    ∃ last S E σ', f_X5_split 178 (nI len) σ = some ((), σ') ∧ TkE c len last S E ∧ Skp c 0 (S 0) ∧ TC c len last S E σ' 0 ∧ (∀ p j, p ≠ 180 → p ≠ 181 → ¬ (p = 178 ∧ 4 ≤ j ∧ j ≤ 8) → σ'.1 p j = σ.1 p j) ∧ σ'.2 = σ.2 := by
  obtain ⟨k0, k1, k2, k3, k4, k5, k6⟩ := C178
  obtain ⟨n, b, S, E, σ1, w1, w2, w3, w4, w5⟩ := e_splitLoop (c := c) hl FU 0 0 0 (fun _ => 0) (fun _ => 0) σ (Nat.zero_le _) (by show len < 4096 + 0; omega) h3 (fun j hj => absurd hj (by omega)) ⟨Nat.le_refl _, fun _ k hk => absurd hk (by omega), fun h => absurd h (by omega), fun _ => rfl, fun h => absurd h (by omega)⟩
  have hn : n ≤ len := w1.1
  have gn : ¬ (nI n < 0 ∨ 701 ≤ (nI n).toNatClampNeg) := ge_pos (N := 701) (by decide) (by omega)
  have hE : TkE c len n (fun j => if j = n then len else S j) (fun j => if j = n then len else E j) := by
    refine ⟨hl, hn, hc, hb, if_pos rfl, if_pos rfl, fun j hj => ?_⟩
    dsimp only
    rw [if_neg (show ¬ j = n by omega), if_neg (show ¬ j = n by omega)]
    have w1' := w1
    obtain ⟨p1, p2, p3, p4, p5⟩ := w1
    obtain ⟨q1, q2, q3, q4, q5, q6, q7⟩ := p3 (by omega)
    obtain ⟨r1, r2, r3⟩ := q2 j hj
    refine ⟨r2, r3, r1, ?_⟩
    by_cases hj1 : j + 1 = n
    · rw [if_pos hj1]
      have f := w1'.fin (by omega) (fun t => by rw [hc len (Nat.le_refl _)] at t; rcases t.2 with e | e <;> exact absurd e (by decide)) (by rw [hc len (Nat.le_refl _)]; decide)
      rw [show n - 1 = j by omega] at f
      exact f
    · rw [if_neg hj1]
      exact q3 j (by omega)
  have hS0 : Skp c 0 (if 0 = n then len else S 0) := by
    obtain ⟨p1, p2, p3, p4, p5⟩ := w1
    by_cases h0 : 0 = n
    · rw [if_pos h0]
      exact ⟨Nat.zero_le _, fun k _ hk => p2 h0.symm k hk, by rw [hc len (Nat.le_refl _)]; decide⟩
    · rw [if_neg h0]
      obtain ⟨q1, q2, -⟩ := p3 (by omega)
      exact ⟨Nat.zero_le _, fun k _ hk => q1 k hk, kd0 (q2 0 (by omega)).1⟩
  have v180 : ∀ j, (sI (sI (sI (sI σ1 180 n (nI len)) 181 n (nI len)) 178 4 (nI n)) 178 5 (-1)).1 180 j = if j = n then nI len else σ1.1 180 j := fun j => by simp only [sI_1, show ¬ (180 : Nat) = 178 from by decide, show ¬ (180 : Nat) = 181 from by decide, false_and, if_false, true_and]
  have v181 : ∀ j, (sI (sI (sI (sI σ1 180 n (nI len)) 181 n (nI len)) 178 4 (nI n)) 178 5 (-1)).1 181 j = if j = n then nI len else σ1.1 181 j := fun j => by simp only [sI_1, show ¬ (181 : Nat) = 178 from by decide, show ¬ (181 : Nat) = 180 from by decide, false_and, if_false, true_and]
  have v179 : ∀ j, (sI (sI (sI (sI σ1 180 n (nI len)) 181 n (nI len)) 178 4 (nI n)) 178 5 (-1)).1 179 j = σ1.1 179 j := fun j => by simp only [sI_1, show ¬ (179 : Nat) = 178 from by decide, show ¬ (179 : Nat) = 180 from by decide, show ¬ (179 : Nat) = 181 from by decide, false_and, if_false]
  obtain ⟨σ2, a1, a2, a3⟩ := e_advance' (σ := sI (sI (sI (sI σ1 180 n (nI len)) 181 n (nI len)) 178 4 (nI n)) 178 5 (-1)) (x := -1) (j := 0) hE (fun k hk => by rw [v179, w3 179 k (by decide) (by decide)]; exact h3 k hk) (fun j hj => by
      rw [v180, v181]
      by_cases hjn : j = n
      · rw [if_pos hjn, if_pos hjn, if_pos hjn, if_pos hjn]; exact ⟨rfl, rfl⟩
      · rw [if_neg hjn, if_neg hjn, if_neg hjn, if_neg hjn]
        exact w2 j (by omega)) (by rw [sI_1, if_neg (by omega), sI_1, if_pos ⟨rfl, rfl⟩]) (by rw [sI_1, if_pos ⟨rfl, rfl⟩]) (fun t => by
      rw [Int32.le_iff_toInt_le, nI_toInt (by omega)] at t
      have : (-1 : Int32).toInt = -1 := by decide
      omega) (by decide) (Nat.zero_le _)
  refine ⟨n, _, _, σ2, ?_, hE, hS0, a2, fun p j hp hp2 hp3 => ?_, ?_⟩
  · unfold f_X5_split
    have w := w5 (fun (q8 : Nat) (x9 : Int32) (x10 : Int32) (σ7 : St) => gd (kC q8 = (0, 5)) <| gd ((kC (rC q8 2)).1 = 1 ∧ ¬ (x10 < 0 ∨ (kC (rC q8 2)).2 ≤ x10.toNatClampNeg)) <| bnd (sI σ7 (rC q8 2) x10.toNatClampNeg x9) fun σ46 => gd ((kC (rC q8 3)).1 = 1 ∧ ¬ (x10 < 0 ∨ (kC (rC q8 3)).2 ≤ x10.toNatClampNeg)) <| bnd (sI σ46 (rC q8 3) x10.toNatClampNeg x9) fun σ48 => bnd (sI σ48 q8 4 x10) fun σ49 => bnd (sI σ49 q8 5 (-1 : Int32)) fun σ50 => obn (f_X5_advance q8 σ50) fun _ σ51 => some ((), σ51))
    refine w.trans ?_
    rw [gd_p k0, k3, k5, k4, k6, gd_p ⟨rfl, gn⟩, bnd_s, gd_p ⟨rfl, gn⟩, bnd_s, bnd_s, bnd_s, nI_clamp (n := n) (by omega), a1, obn_s]
  · rw [a3.1 p j (by omega), sI_1, if_neg (by omega), sI_1, if_neg (by omega), sI_1, if_neg (by omega), sI_1, if_neg (by omega)]
    exact w3 p j hp hp2
  · rw [a3.2]; exact w4
end SPLIT
