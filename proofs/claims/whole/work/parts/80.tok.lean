/-! THE TEXT: tokens of the class, the reference's position -/
theorem C178 : kC 178 = (0, 5) ∧ rC 178 0 = 179 ∧ kC 179 = (1, 700) ∧ rC 178 2 = 180 ∧ kC 180 = (1, 701) ∧ rC 178 3 = 181 ∧ kC 181 = (1, 701) := by decide +kernel
/-- what kind of byte -/
def kd (x : Int32) : Int32 := if x = 32 then 0 else if ¬ x < 48 ∧ ¬ 57 < x then 1 else if ¬ x < 97 ∧ ¬ 122 < x then 2 else 3
/-- from p, spaces up to q -/
def Skp (c : Nat → Int32) (p q : Nat) : Prop := p ≤ q ∧ (∀ k, p ≤ k → k < q → c k = 32) ∧ c q ≠ 32
/-- the token at s ends at e -/
def Te (c : Nat → Int32) (s e : Nat) : Prop := s < e ∧ (∀ k, s ≤ k → k < e → kd (c k) = kd (c s)) ∧ ((kd (c s) = 1 ∨ kd (c s) = 2) → kd (c e) ≠ kd (c s)) ∧ (kd (c s) = 3 → e = s + 1)
def TkE (c : Nat → Int32) (len last : Nat) (S E : Nat → Nat) : Prop := len ≤ 700 ∧ last ≤ len ∧ (∀ k, len ≤ k → c k = -1) ∧ (∀ k, k < len → ∃ b, b < 256 ∧ c k = nI b) ∧ S last = len ∧ E last = len ∧ ∀ j, j < last → S j < len ∧ E j ≤ len ∧ kd (c (S j)) ≠ 0 ∧ Te c (S j) (E j) ∧ Skp c (E j) (S (j + 1))
def TC (c : Nat → Int32) (len last : Nat) (S E : Nat → Nat) (σ : St) (i : Nat) : Prop := (∀ k, k < len → σ.1 179 k = c k) ∧ (∀ j, j ≤ last → σ.1 180 j = nI (S j) ∧ σ.1 181 j = nI (E j)) ∧ σ.1 178 4 = nI last ∧ i ≤ last ∧ σ.1 178 5 = nI i ∧ σ.1 178 6 = nI (S i) ∧ σ.1 178 7 = nI (E i) ∧ σ.1 178 8 = c (S i)
def Txb (c : Nat → Int32) (len : Nat) (τ : St) : Prop := (∀ k, k < len → τ.1 1 k = c k) ∧ τ.1 0 3 = nI len ∧ τ.1 0 6 = -1
def TR (c : Nat → Int32) (len : Nat) (S : Nat → Nat) (τ : St) (i : Nat) : Prop := Txb c len τ ∧ τ.1 0 5 = 0 ∧ ∃ p, τ.1 0 4 = nI p ∧ Skp c p (S i)
/-- the class: nothing but the place in the text has changed -/
def Ci (σ σ' : St) : Prop := (∀ p j, ¬ (p = 178 ∧ 5 ≤ j ∧ j ≤ 8) → σ'.1 p j = σ.1 p j) ∧ σ'.2 = σ.2
theorem kd0 {x : Int32} (h : kd x ≠ 0) : x ≠ 32 := fun e => h (by rw [e]; decide)
theorem kd_m1 : kd (-1) = 3 := by decide
section TOK
variable {σ τ : St} {c : Nat → Int32} {len last : Nat} {S E : Nat → Nat}
theorem TkE.le (hE : TkE c len last S E) {i : Nat} (hi : i ≤ last) : S i ≤ len ∧ E i ≤ len ∧ len ≤ 700 ∧ last ≤ 700 := by
  obtain ⟨e1, e2, e3, e4, e5, e6, e7⟩ := hE
  by_cases h : i < last
  · have := e7 i h; omega
  · have : i = last := by omega
    subst this
    omega
theorem TkE.end' (hE : TkE c len last S E) : c (S last) = -1 := by
  obtain ⟨e1, e2, e3, e4, e5, e6, e7⟩ := hE
  rw [e5]; exact e3 len (Nat.le_refl _)
theorem TkE.ne (hE : TkE c len last S E) {i : Nat} (hi : i ≤ last) : c (S i) ≠ 32 := by
  by_cases h : i < last
  · exact kd0 (hE.2.2.2.2.2.2 i h).2.2.1
  · have : i = last := by omega
    subst this
    rw [hE.end']; decide
theorem TkE.lt (hE : TkE c len last S E) {i : Nat} (hi : i ≤ last) (h : c (S i) ≠ -1) : i < last := by
  rcases Nat.lt_or_ge i last with g | g
  · exact g
  · have : i = last := by omega
    subst this
    exact absurd hE.end' h
theorem TkE.nn (hE : TkE c len last S E) {i : Nat} (hi : i < last) : ∃ b, b < 256 ∧ c (S i) = nI b := hE.2.2.2.1 _ (hE.2.2.2.2.2.2 i hi).1
theorem TkE.neg (hE : TkE c len last S E) {i : Nat} (hi : i ≤ last) : c (S i) < 0 ↔ i = last := by
  constructor
  · intro h
    rcases Nat.lt_or_ge i last with g | g
    · obtain ⟨b, hb, e⟩ := hE.nn g
      rw [e] at h
      exact absurd h (nI_pos (by omega))
    · omega
  · intro h
    rw [h, hE.end']; decide
theorem Ci.rf : Ci σ σ := ⟨fun _ _ _ => rfl, rfl⟩
theorem Ci.tr {σ1 σ2 : St} (h : Ci σ σ1) (h' : Ci σ1 σ2) : Ci σ σ2 := ⟨fun p j hp => (h'.1 p j hp).trans (h.1 p j hp), h'.2.trans h.2⟩
theorem e_advance' {x : Int32} {j : Nat} (hE : TkE c len last S E) (h1 : ∀ k, k < len → σ.1 179 k = c k) (h2 : ∀ j, j ≤ last → σ.1 180 j = nI (S j) ∧ σ.1 181 j = nI (E j)) (h3 : σ.1 178 4 = nI last) (h4 : σ.1 178 5 = x) (h5 : ¬ nI last ≤ x) (h6 : x + 1 = nI j) (hj : j ≤ last) :
    ∃ σ', f_X5_advance 178 σ = some ((), σ') ∧ TC c len last S E σ' j ∧ Ci σ σ' := by
  obtain ⟨k0, k1, k2, k3, k4, k5, k6⟩ := C178
  obtain ⟨l1, l2, l3, l4⟩ := hE.le hj
  have g : ¬ (nI j < 0 ∨ 701 ≤ (nI j).toNatClampNeg) := ge_pos (N := 701) (by decide) (by omega)
  have body : ∀ y, y = c (S j) → ∃ σ', some ((), sI (sI (sI (sI σ 178 5 (nI j)) 178 6 (nI (S j))) 178 7 (nI (E j))) 178 8 y) = some ((), σ') ∧ TC c len last S E σ' j ∧ Ci σ σ' := by
    intro y hy
    refine ⟨_, rfl, ⟨fun k hk => ?_, fun k hk => ?_, ?_, hj, ?_, ?_, ?_, ?_⟩, fun p q hp => ?_, rfl⟩
    · simp only [sI_1, show ¬ (179 : Nat) = 178 from by decide, false_and, if_false]; exact h1 k hk
    · simp only [sI_1, show ¬ (180 : Nat) = 178 from by decide, show ¬ (181 : Nat) = 178 from by decide, false_and, if_false]; exact h2 k hk
    · simp only [sI_1, show ¬ (4 : Nat) = 5 from by decide, show ¬ (4 : Nat) = 6 from by decide, show ¬ (4 : Nat) = 7 from by decide, show ¬ (4 : Nat) = 8 from by decide, and_false, if_false]; exact h3
    · rw [sI_1, if_neg (by decide), sI_1, if_neg (by decide), sI_1, if_neg (by decide), sI_1, if_pos ⟨rfl, rfl⟩]
    · rw [sI_1, if_neg (by decide), sI_1, if_neg (by decide), sI_1, if_pos ⟨rfl, rfl⟩]
    · rw [sI_1, if_neg (by decide), sI_1, if_pos ⟨rfl, rfl⟩]
    · rw [sI_1, if_pos ⟨rfl, rfl⟩]; exact hy
    · rw [sI_1, if_neg (by omega), sI_1, if_neg (by omega), sI_1, if_neg (by omega), sI_1, if_neg (by omega)]
  have r180 : (sI σ 178 5 (nI j)).1 180 j = nI (S j) := by rw [sI_1, if_neg (by omega)]; exact (h2 j hj).1
  have r5 : ∀ (s : St) (a b : Int32), (sI (sI (sI s 178 5 (nI j)) 178 6 a) 178 7 b).1 178 5 = nI j := fun s a b => by rw [sI_1, if_neg (by decide), sI_1, if_neg (by decide), sI_1, if_pos ⟨rfl, rfl⟩]
  unfold f_X5_advance
  simp only [bnd_s]
  have r5a : (sI σ 178 5 (nI j)).1 178 5 = nI j := by rw [sI_1, if_pos ⟨rfl, rfl⟩]
  rw [gd_p k0, h3, h4, if_neg h5, h6, gd_p k0, gd_p k0, r5a, if_neg (nI_pos (by omega)), if_neg (show ¬ (700 : Int32) < nI j from fun t => absurd ((nI_ltI (a := 700) (by decide) (by omega)).mp t) (by omega)), k3, k4, gd_p ⟨rfl, g⟩, nI_clamp (by omega), r180]
  have r5' : (sI (sI σ 178 5 (nI j)) 178 6 (nI (S j))).1 178 5 = nI j := by rw [sI_1, if_neg (by decide), sI_1, if_pos ⟨rfl, rfl⟩]
  have r181 : (sI (sI σ 178 5 (nI j)) 178 6 (nI (S j))).1 181 j = nI (E j) := by rw [sI_1, if_neg (by omega), sI_1, if_neg (by omega)]; exact (h2 j hj).2
  rw [r5', k5, k6, gd_p ⟨rfl, g⟩, nI_clamp (by omega), r181]
  have r4 : (sI (sI (sI σ 178 5 (nI j)) 178 6 (nI (S j))) 178 7 (nI (E j))).1 178 4 = nI last := by rw [sI_1, if_neg (by decide), sI_1, if_neg (by decide), sI_1, if_neg (by decide)]; exact h3
  have r6 : (sI (sI (sI σ 178 5 (nI j)) 178 6 (nI (S j))) 178 7 (nI (E j))).1 178 6 = nI (S j) := by rw [sI_1, if_neg (by decide), sI_1, if_pos ⟨rfl, rfl⟩]
  rw [r4, r5, r6]
  by_cases hl : j = last
  · rw [if_pos (by rw [hl]; exact Int32.le_refl _)]
    exact body _ (by rw [hl, hE.end'])
  · have hjl : j < last := by omega
    have hS := (hE.2.2.2.2.2.2 j hjl).1
    have g7 : ¬ (nI (S j) < 0 ∨ 700 ≤ (nI (S j)).toNatClampNeg) := ge_pos (N := 700) (by decide) (by omega)
    rw [if_neg (fun t => absurd ((nI_leI (by omega) (by omega)).mp t) (by omega)), if_neg (nI_pos (by omega)), if_neg (show ¬ (700 : Int32) ≤ nI (S j) from fun t => absurd ((nI_leI (a := 700) (by decide) (by omega)).mp t) (by omega)), k1, k2, gd_p (show (1, 700).1 = 1 ∧ ¬ (nI (S j) < 0 ∨ (1, 700).2 ≤ (nI (S j)).toNatClampNeg) from ⟨rfl, g7⟩), nI_clamp (by omega)]
    refine body _ ?_
    rw [sI_1, if_neg (by omega), sI_1, if_neg (by omega), sI_1, if_neg (by omega)]
    exact h1 _ hS
theorem e_advance {i : Nat} (hE : TkE c len last S E) (h : TC c len last S E σ i) (hi : i < last) : ∃ σ', f_X5_advance 178 σ = some ((), σ') ∧ TC c len last S E σ' (i + 1) ∧ Ci σ σ' := by
  have l := hE.le h.2.2.2.1
  exact e_advance' hE h.1 h.2.1 h.2.2.1 h.2.2.2.2.1 (fun t => absurd ((nI_leI (by omega) (by omega)).mp t) (by omega)) (nI_1 i) hi
/-! the reference -/
theorem siSame {p k : Nat} {v : Int32} (h : τ.1 p k = v) : sI τ p k v = τ := by
  refine Prod.ext ?_ rfl
  funext q j
  show (sI τ p k v).1 q j = _
  rw [sI_1]
  by_cases hq : q = p ∧ j = k
  · rw [if_pos hq, hq.1, hq.2, h]
  · rw [if_neg hq]
theorem sI_two {p k : Nat} {v w : Int32} : sI (sI τ p k v) p k w = sI τ p k w := by
  refine Prod.ext ?_ rfl
  funext q j
  show (sI (sI τ p k v) p k w).1 q j = (sI τ p k w).1 q j
  rw [sI_1, sI_1, sI_1]
  by_cases hq : q = p ∧ j = k
  · rw [if_pos hq, if_pos hq]
  · rw [if_neg hq, if_neg hq, if_neg hq]
theorem r_byteAt {k : Nat} (hE : TkE c len last S E) (h : Txb c len τ) (hk : k < 2000) : f_X7_byteAt 0 (nI k) τ = some (c k, τ) := by
  have l := hE.1
  unfold f_X7_byteAt
  rw [gd_p R0, h.2.1]
  by_cases hl : len ≤ k
  · rw [if_pos ((nI_leI (by omega) (by omega)).mpr hl), hE.2.2.1 k hl]
  · have g : ¬ (nI k < 0 ∨ 700 ≤ (nI k).toNatClampNeg) := ge_pos (N := 700) (by decide) (by omega)
    rw [if_neg (fun t => hl ((nI_leI (by omega) (by omega)).mp t)), R1.1, R1.2, gd_p ⟨rfl, g⟩, nI_clamp (by omega), h.1 k (by omega)]
theorem Txb.z {k : Nat} {v : Int32} (h : Txb c len τ) (hk : k ≠ 3 ∧ k ≠ 6) : Txb c len (sI τ 0 k v) := ⟨fun j hj => by rw [sI_1, if_neg (fun t => absurd t.1 (by decide))]; exact h.1 j hj, by rw [sI_1, if_neg (fun t => hk.1 t.2.symm)]; exact h.2.1, by rw [sI_1, if_neg (fun t => hk.2 t.2.symm)]; exact h.2.2⟩
theorem r_next {i : Nat} (hE : TkE c len last S E) (hi : i ≤ last) (h : TR c len S τ i) : f_X7_next 0 τ = some (c (S i), sI τ 0 4 (nI (S i))) := by
  obtain ⟨hB, h5, p, hp, s1, s2, s3⟩ := h
  have l := hE.le hi
  have key : ∀ n d (τ1 : St), d ≤ S i → d < n → τ1.1 0 4 = nI (S i - d) → Txb c len τ1 → (∀ k, S i - d ≤ k → k < S i → c k = 32) → f_X7_next_L0 (fun (q4 : Nat) (σ3 : St) => gd (kR q4 = (0, 7)) <| obn (f_X7_byteAt q4 (σ3.1 q4 4) σ3) fun x13 σ12 => some (x13, σ12)) n 0 τ1 = some (c (S i), sI τ1 0 4 (nI (S i))) := by
    intro n
    induction n with
    | zero => intro d τ1 h0 h1; omega
    | succ n ih =>
      intro d τ1 h0 h1 h2 h3 h4
      rw [f_X7_next_L0, gd_p R0, h2, r_byteAt hE h3 (by omega), obn_s]
      by_cases hd : d = 0
      · subst hd
        rw [if_neg (by rw [Nat.sub_zero]; exact s3), gd_p R0, h2, r_byteAt hE h3 (by omega), obn_s, Nat.sub_zero, siSame (by rw [h2, Nat.sub_zero])]
      · rw [if_pos (h4 _ (Nat.le_refl _) (by omega)), bnd_s, h2, nI_1, show S i - d + 1 = S i - (d - 1) by omega]
        rw [ih (d - 1) _ (by omega) (by omega) (by rw [sI_1, if_pos ⟨rfl, rfl⟩]) (h3.z (by decide)) (fun k hk hk2 => h4 k (by omega) hk2), sI_two]
  unfold f_X7_next
  exact key FU (S i - p) τ (by omega) (by show S i - p < 4096; omega) (by rw [hp]; congr 1; omega) hB (fun k hk hk2 => s2 k (by omega) hk2)
theorem TR.nx {i : Nat} (hE : TkE c len last S E) (hi : i ≤ last) (h : TR c len S τ i) : TR c len S (sI τ 0 4 (nI (S i))) i :=
  ⟨h.1.z (by decide), by rw [sI_1, if_neg (by decide)]; exact h.2.1, S i, by rw [sI_1, if_pos ⟨rfl, rfl⟩], Nat.le_refl _, fun k hk hk2 => absurd hk2 (by omega), hE.ne hi⟩
/-- a sign is taken: the position goes behind it -/
theorem TR.sign {i : Nat} (hE : TkE c len last S E) (hi : i < last) (h : Txb c len τ) (h5 : τ.1 0 5 = 0) (h4 : τ.1 0 4 = nI (E i)) : TR c len S τ (i + 1) :=
  ⟨h, h5, E i, h4, (hE.2.2.2.2.2.2 i hi).2.2.2.2⟩
theorem TkE.sgn (hE : TkE c len last S E) {i : Nat} (hi : i < last) (h : kd (c (S i)) = 3) : E i = S i + 1 := (hE.2.2.2.2.2.2 i hi).2.2.2.1.2.2.2 h
theorem r_isGood (h : τ.1 0 5 = 0) : f_X7_isGood 0 τ = some (1, τ) := by unfold f_X7_isGood; rw [gd_p R0, if_pos h]
theorem r_isBad (h : ¬ τ.1 0 5 = 0) : f_X7_isGood 0 τ = some (0, τ) := by unfold f_X7_isGood; rw [gd_p R0, if_neg h]
theorem r_report {e o : Int32} (h : τ.1 0 5 = 0) : f_X7_report 0 e o τ = some ((), sI (sI τ 0 5 e) 0 6 o) := by unfold f_X7_report; rw [gd_p R0, if_pos h, bnd_s, bnd_s]
theorem r_reportBad {e o : Int32} (h : ¬ τ.1 0 5 = 0) : f_X7_report 0 e o τ = some ((), τ) := by unfold f_X7_report; rw [gd_p R0, if_neg h]
theorem r_expectBad {s : Int32} (h : ¬ τ.1 0 5 = 0) : f_X7_expect 0 s τ = some ((), τ) := by unfold f_X7_expect; rw [gd_p R0, r_isBad h, obn_s, if_pos rfl]
theorem r_closeBad {s : Int32} (h : ¬ τ.1 0 5 = 0) : f_X7_close 0 s τ = some ((), sI τ 0 23 (τ.1 0 23 - 1)) := by unfold f_X7_close; rw [gd_p R0, r_expectBad h, obn_s, bnd_s]
theorem r_refuseBad {s : Int32} (h : ¬ τ.1 0 5 = 0) : f_X7_refuse 0 s τ = some ((), τ) := by unfold f_X7_refuse; rw [gd_p R0, r_isBad h, obn_s, if_pos rfl]
theorem r_sumBad {n : Nat} {a : Int32} (h : ¬ τ.1 0 5 = 0) : f_X7_sum_RS (n + 1) 0 a τ = some ((), τ) := by rw [f_X7_sum_RS, f_X7_sum, gd_p R0, r_isBad h, obn_s, if_pos rfl]
theorem r_factorBad {rc : Nat → Int32 → St → Option (Unit × St)} {a : Int32} (h : ¬ τ.1 0 5 = 0) : f_X7_factor rc 0 a τ = some ((), τ) := by unfold f_X7_factor; rw [gd_p R0, r_isBad h, obn_s, if_pos rfl]
end TOK
