/-! WORDS, NAMES, NUMBERS -/
abbrev isW (c : Nat → Int32) (S E : Nat → Nat) (i w : Nat) : Prop := E i = S i + (strB w).length ∧ ∀ k, k < (strB w).length → c (S i + k) = (strB w).getD k 0
theorem str_ok : ∀ w, w < 10 → 1 ≤ (strB w).length ∧ (strB w).length < 10 ∧ ∀ k, k < (strB w).length → kd ((strB w).getD k 0) = 2 := by decide +kernel
theorem str_5 : ∀ w, w < 5 → strB (w + 5) = strB w := by decide +kernel
theorem kd_1 {x : Int32} : kd x = 1 ↔ ¬ x < 48 ∧ ¬ 57 < x := by
  unfold kd
  constructor
  · intro h
    split at h
    · cases h
    · split at h
      · assumption
      · split at h <;> cases h
  · intro h
    rw [if_neg (fun e => by rw [e] at h; exact h.1 (by decide)), if_pos h]
theorem kd_2 {x : Int32} : kd x = 2 ↔ ¬ x < 97 ∧ ¬ 122 < x := by
  unfold kd
  constructor
  · intro h
    split at h
    · cases h
    · split at h
      · cases h
      · split at h
        · assumption
        · cases h
  · intro h
    have h1 := h.1
    have h57 : 57 < x := by
      rw [Int32.lt_iff_toInt_lt] at h1 ⊢
      have a : (97 : Int32).toInt = 97 := by decide
      have b : (57 : Int32).toInt = 57 := by decide
      omega
    rw [if_neg (fun e => by rw [e] at h; exact h.1 (by decide)), if_neg (fun t => t.2 h57), if_pos h]
def nm (c : Nat → Int32) (S E : Nat → Nat) (i : Nat) : Int32 := if E i = S i + 1 ∧ ¬ c (S i) < 97 ∧ ¬ 105 ≤ c (S i) then c (S i) - 97 else -1
def nuV (c : Nat → Int32) (s : Nat) : Nat → Int32
  | 0 => 0
  | k + 1 => mnI ((10 : Int32) * nuV c s k + c (s + k) - 48) 1000000
section WORD
variable {σ τ : St} {c : Nat → Int32} {len last : Nat} {S E : Nat → Nat} {i : Nat}
theorem TkE.SE (hE : TkE c len last S E) (hi : i ≤ last) : S i ≤ E i := by
  obtain ⟨e1, e2, e3, e4, e5, e6, e7⟩ := hE
  by_cases h : i < last
  · have := (e7 i h).2.2.2.1.1; omega
  · have : i = last := by omega
    subst this
    omega
theorem TC.se (hE : TkE c len last S E) (h : TC c len last S E σ i) : σ.1 178 7 - σ.1 178 6 = nI (E i - S i) := by
  have l := hE.le h.2.2.2.1
  rw [h.2.2.2.2.2.1, h.2.2.2.2.2.2.1, pk_sub (hE.SE h.2.2.2.1)]
theorem e_isWord {w : Nat} (hE : TkE c len last S E) (h : TC c len last S E σ i) (hw : w < 10) : f_X5_isWord 178 w σ = some (bI (isW c S E i w), σ) := by
  obtain ⟨k0, k1, k2, -⟩ := C178
  obtain ⟨s1, s2, -⟩ := str_ok w hw
  have hi := h.2.2.2.1
  have l := hE.le hi
  have se := hE.SE hi
  have key : E i = S i + (strB w).length → ∀ n k, k ≤ (strB w).length → (strB w).length < n + k → (∀ j, j < k → c (S i + j) = (strB w).getD j 0) → f_X5_isWord_L20 n 178 w (nI k) σ = some (bI (isW c S E i w), σ) := by
    intro hL n
    induction n with
    | zero => intro k h1 h2; omega
    | succ n ih =>
      intro k h1 h2 h3
      rw [f_X5_isWord_L20, gd_p hw]
      by_cases hk : k = (strB w).length
      · rw [if_pos (by rw [hk]; exact Int32.le_refl _), bI_1 ⟨hL, by rw [← hk]; exact h3⟩]
      · have hk : k < (strB w).length := by omega
        have g : ¬ (nI (S i + k) < 0 ∨ 700 ≤ (nI (S i + k)).toNatClampNeg) := ge_pos (N := 700) (by decide) (by omega)
        have g2 : ¬ (nI k < 0 ∨ (strB w).length ≤ (nI k).toNatClampNeg) := ge_pos (by omega) hk
        rw [if_neg (fun t => absurd ((nI_leI (by omega) (by omega)).mp t) (by omega)), gd_p k0, h.2.2.2.2.2.1, nI_add, if_neg (nI_pos (by omega)), if_neg (show ¬ (700 : Int32) ≤ nI (S i + k) from fun t => absurd ((nI_leI (a := 700) (by decide) (by omega)).mp t) (by omega)), k1, k2, gd_p ⟨rfl, g⟩, gd_p ⟨hw, g2⟩, nI_clamp (by omega), nI_clamp (by omega), h.1 _ (by omega), bnd_s, nI_1]
        by_cases he : c (S i + k) = (strB w).getD k 0
        · rw [if_pos he]
          refine ih (k + 1) (by omega) (by omega) (fun j hj => ?_)
          by_cases hjk : j = k
          · rw [hjk]; exact he
          · exact h3 j (by omega)
        · rw [if_neg he, bI_0 (fun t => he (t.2 k hk))]
  unfold f_X5_isWord
  rw [gd_p k0, gd_p hw, h.se hE]
  by_cases hL : E i = S i + (strB w).length
  · rw [if_pos (by rw [hL, Nat.add_sub_cancel_left])]
    exact key hL FU 0 (Nat.zero_le _) (by show _ < 4096 + 0; omega) (fun j hj => absurd hj (by omega))
  · rw [if_neg (fun t => hL (by have := (nI_eq (by omega) (by omega)).mp t; omega)), bI_0 (fun t => hL t.1)]
theorem r_in2 {x : Int32} : f_X7_in x 97 122 τ = some (bI (kd x = 2), τ) := by
  unfold f_X7_in bI
  simp only [kd_2]
  by_cases h1 : x < 97
  · rw [if_pos h1, if_neg (fun t => t.1 h1)]
  · by_cases h2 : 122 < x
    · rw [if_neg h1, if_pos h2, if_neg (fun t => t.2 h2)]
    · rw [if_neg h1, if_neg h2, if_pos ⟨h1, h2⟩]
theorem r_isDigit {x : Int32} : f_X7_isDigit x τ = some (bI (kd x = 1), τ) := by
  unfold f_X7_isDigit f_X7_in bI
  simp only [kd_1]
  by_cases h1 : x < 48
  · rw [if_pos h1, obn_s, gd_p (Or.inl rfl), if_neg (fun t => t.1 h1)]
  · by_cases h2 : 57 < x
    · rw [if_neg h1, if_pos h2, obn_s, gd_p (Or.inl rfl), if_neg (fun t => t.2 h2)]
    · rw [if_neg h1, if_neg h2, obn_s, gd_p (Or.inr rfl), if_pos ⟨h1, h2⟩]
/-- the run of letters that starts with a word is the word -/
theorem run_word (hE : TkE c len last S E) (hi : i < last) {L : Nat} (hL : 1 ≤ L) (h : ∀ k, k < L → kd (c (S i + k)) = 2) : E i = S i + L ↔ ¬ kd (c (S i + L)) = 2 := by
  obtain ⟨a1, a2, a3, ⟨t1, t2, t3, t4⟩, a5⟩ := hE.2.2.2.2.2.2 i hi
  have h0 : kd (c (S i)) = 2 := h 0 (by omega)
  have ge : ¬ E i < S i + L := fun t => by
    have := h (E i - S i) (by omega)
    rw [show S i + (E i - S i) = E i by omega] at this
    exact t3 (Or.inr h0) (this.trans h0.symm)
  constructor
  · intro e t
    rw [← e] at t
    exact t3 (Or.inr h0) (t.trans h0.symm)
  · intro t
    rcases Nat.lt_or_ge (S i + L) (E i) with g | g
    · exact absurd ((t2 _ (by omega) g).trans h0) t
    · omega
theorem r_takeWord {w : Nat} (hE : TkE c len last S E) (hi : i ≤ last) (h : TR c len S τ i) (hw : w < 10) :
    f_X7_takeWord 0 w τ = if isW c S E i w then some (1, sI τ 0 4 (nI (E i))) else some (0, sI τ 0 4 (nI (S i))) := by
  obtain ⟨s1, s2, s3⟩ := str_ok w hw
  have l := hE.le hi
  have hB : Txb c len (sI τ 0 4 (nI (S i))) := h.1.z (by decide)
  have e4 : (sI τ 0 4 (nI (S i))).1 0 4 = nI (S i) := by rw [sI_1, if_pos ⟨rfl, rfl⟩]
  have key : ∀ n k, k ≤ (strB w).length → (strB w).length < n + k → (∀ j, j < k → c (S i + j) = (strB w).getD j 0) → f_X7_takeWord_L16 (fun (q13 : Nat) (q14 : Nat) (x15 : Int32) (σ12 : St) => gd (q14 < 10) <| if x15 < (nI (strB q14).length) then (some ((0 : Int32), σ12)) else (gd (kR q13 = (0, 7)) <| obn (f_X7_byteAt q13 ((σ12.1 q13 4) + x15) σ12) fun x27 σ26 => obn (f_X7_in x27 (97 : Int32) (122 : Int32) σ26) fun x30 σ29 => if x30 = 0 then (bnd (sI σ29 q13 4 ((σ29.1 q13 4) + x15)) fun σ32 => some ((1 : Int32), σ32)) else (some ((0 : Int32), σ29)))) n 0 w (nI k) (sI τ 0 4 (nI (S i))) = if isW c S E i w then some (1, sI τ 0 4 (nI (E i))) else some (0, sI τ 0 4 (nI (S i))) := by
    intro n
    induction n with
    | zero => intro k h1 h2; omega
    | succ n ih =>
      intro k h1 h2 h3
      rw [f_X7_takeWord_L16, gd_p hw]
      by_cases hk : k = (strB w).length
      · subst hk
        have hil : i < last := hE.lt hi (fun e => by
          have := h3 0 (by omega)
          rw [Nat.add_zero, e] at this
          have k2 := s3 0 (by omega)
          rw [← this] at k2
          exact absurd k2 (by decide))
        have rw' := run_word hE hil s1 (fun k hk => by rw [h3 k hk]; exact s3 k hk)
        rw [if_pos (Int32.le_refl _), gd_p hw, if_neg (fun t => absurd ((nI_ltI (by omega) (by omega)).mp t) (by omega)), gd_p R0, e4, nI_add, r_byteAt hE hB (by omega), obn_s, r_in2, obn_s]
        by_cases hd : kd (c (S i + (strB w).length)) = 2
        · rw [bI_1 hd, if_neg (by decide), if_neg (show ¬ isW c S E i w from fun t => rw'.mp t.1 hd)]
        · have hL := rw'.mpr hd
          rw [bI_0 hd, if_pos rfl, bnd_s, e4, nI_add, if_pos (show isW c S E i w from ⟨hL, h3⟩), sI_two, hL]
      · have hk : k < (strB w).length := by omega
        have g2 : ¬ (nI k < 0 ∨ (strB w).length ≤ (nI k).toNatClampNeg) := ge_pos (by omega) hk
        rw [if_neg (fun t => absurd ((nI_leI (by omega) (by omega)).mp t) (by omega)), gd_p R0, e4, nI_add, r_byteAt hE hB (by omega), obn_s, gd_p ⟨hw, g2⟩, nI_clamp (by omega), bnd_s, nI_1]
        by_cases he : c (S i + k) = (strB w).getD k 0
        · rw [if_pos he]
          refine ih (k + 1) (by omega) (by omega) (fun j hj => ?_)
          by_cases hjk : j = k
          · rw [hjk]; exact he
          · exact h3 j (by omega)
        · rw [if_neg he, gd_p hw, if_pos ((nI_ltI (by omega) (by omega)).mpr hk), if_neg (show ¬ isW c S E i w from fun t => he (t.2 k hk))]
  unfold f_X7_takeWord
  rw [gd_p R0, r_isGood h.2.1, obn_s, if_neg (by decide), r_next hE hi h, obn_s]
  exact key FU 0 (Nat.zero_le _) (by show _ < 4096 + 0; omega) (fun j hj => absurd hj (by omega))
theorem TR.tok (hE : TkE c len last S E) (hi : i < last) (h : TR c len S τ i) : TR c len S (sI τ 0 4 (nI (E i))) (i + 1) :=
  TR.sign hE hi (h.1.z (by decide)) (by rw [sI_1, if_neg (by decide)]; exact h.2.1) (by rw [sI_1, if_pos ⟨rfl, rfl⟩])
theorem isW.lt {w : Nat} (hE : TkE c len last S E) (hi : i ≤ last) (hw : w < 10) (h : isW c S E i w) : i < last ∧ kd (c (S i)) = 2 := by
  obtain ⟨s1, s2, s3⟩ := str_ok w hw
  have h0 := h.2 0 (by omega)
  have k2 := s3 0 (by omega)
  rw [Nat.add_zero] at h0
  rw [← h0] at k2
  exact ⟨hE.lt hi (fun e => by rw [e] at k2; exact absurd k2 (by decide)), k2⟩
theorem e_name (hE : TkE c len last S E) (h : TC c len last S E σ i) : f_X5_name 178 σ = some (nm c S E i, σ) := by
  obtain ⟨k0, -⟩ := C178
  have hi := h.2.2.2.1
  have l := hE.le hi
  have se := hE.SE hi
  unfold f_X5_name nm
  simp only [bnd_s]
  rw [gd_p k0, h.se hE, h.2.2.2.2.2.2.2]
  by_cases h1 : E i = S i + 1
  · rw [if_pos (by rw [h1, Nat.add_sub_cancel_left]; rfl)]
    by_cases h2 : c (S i) < 97
    · rw [if_pos h2, if_pos trivial, if_neg (fun t => t.2.1 h2)]
    · by_cases h3 : 105 ≤ c (S i)
      · rw [if_neg h2, if_pos h3, if_pos trivial, if_neg (fun t => t.2.2 h3)]
      · rw [if_neg h2, if_neg h3, if_neg (by decide), if_pos ⟨h1, h2, h3⟩, gd_p k0]
  · rw [if_neg (show ¬ nI (E i - S i) = 1 from fun t => h1 (by have := (nI_eq (b := 1) (by omega) (by decide)).mp t; omega)), if_pos trivial, if_neg (fun t => h1 t.1)]
theorem nm_cases (hE : TkE c len last S E) (hi : i ≤ last) : nm c S E i = -1 ∨ ∃ m, m < 8 ∧ nm c S E i = nI m ∧ i < last ∧ E i = S i + 1 ∧ kd (c (S i)) = 2 ∧ c (S i) = nI (m + 97) := by
  unfold nm
  by_cases h : E i = S i + 1 ∧ ¬ c (S i) < 97 ∧ ¬ 105 ≤ c (S i)
  · rw [if_pos h]
    obtain ⟨h1, h2, h3⟩ := h
    have hil : i < last := hE.lt hi (fun e => by rw [e] at h2; exact h2 (by decide))
    obtain ⟨b, hb, e⟩ := hE.nn hil
    have b1 : 97 ≤ b := by
      rcases Nat.lt_or_ge b 97 with g | g
      · exact absurd (by rw [e]; exact (nI_ltI (b := 97) (by omega) (by decide)).mpr g) h2
      · exact g
    have b2 : b < 105 := by
      rcases Nat.lt_or_ge b 105 with g | g
      · exact g
      · exact absurd (by rw [e]; exact (nI_leI (a := 105) (by decide) (by omega)).mpr g) h3
    refine Or.inr ⟨b - 97, by omega, ?_, hil, h1, ?_, ?_⟩
    · rw [e]; exact pk_sub (b := 97) b1
    · rw [kd_2]
      refine ⟨h2, fun t => ?_⟩
      rw [e] at t
      have := (nI_ltI (a := 122) (by decide) (by omega)).mp t
      omega
    · rw [show b - 97 + 97 = b by omega]; exact e
  · rw [if_neg h]; exact Or.inl rfl
theorem r_takeName (hE : TkE c len last S E) (hi : i ≤ last) (h : TR c len S τ i) :
    f_X7_takeName 0 τ = if nm c S E i = -1 then some (-1, sI τ 0 4 (nI (S i))) else some (nm c S E i, sI τ 0 4 (nI (E i))) := by
  have l := hE.le hi
  have hB : Txb c len (sI τ 0 4 (nI (S i))) := h.1.z (by decide)
  have e4 : (sI τ 0 4 (nI (S i))).1 0 4 = nI (S i) := by rw [sI_1, if_pos ⟨rfl, rfl⟩]
  have n1 : ∀ {P : Prop} [Decidable P] {x y : Option (Int32 × St)}, ¬ P → nm c S E i = (if P then c (S i) - 97 else -1) → (if nm c S E i = -1 then x else y) = x := fun hp e => by rw [e, if_neg hp, if_pos rfl]
  unfold f_X7_takeName
  rw [gd_p R0, r_next hE hi h, obn_s]
  by_cases h2 : c (S i) < 97
  · rw [show f_X7_in (c (S i)) 97 104 (sI τ 0 4 (nI (S i))) = some (0, sI τ 0 4 (nI (S i))) from by unfold f_X7_in; rw [if_pos h2], obn_s, if_pos rfl]
    exact (n1 (fun t => t.2.1 h2) rfl).symm
  · by_cases h3 : 104 < c (S i)
    · have h3' : 105 ≤ c (S i) := by
        rw [Int32.lt_iff_toInt_lt] at h3
        rw [Int32.le_iff_toInt_le]
        have a : (104 : Int32).toInt = 104 := by decide
        have b : (105 : Int32).toInt = 105 := by decide
        omega
      rw [show f_X7_in (c (S i)) 97 104 (sI τ 0 4 (nI (S i))) = some (0, sI τ 0 4 (nI (S i))) from by unfold f_X7_in; rw [if_neg h2, if_pos h3], obn_s, if_pos rfl]
      exact (n1 (fun t => t.2.2 h3') rfl).symm
    · have h3' : ¬ 105 ≤ c (S i) := fun t => h3 (by
        rw [Int32.le_iff_toInt_le] at t
        rw [Int32.lt_iff_toInt_lt]
        have a : (104 : Int32).toInt = 104 := by decide
        have b : (105 : Int32).toInt = 105 := by decide
        omega)
      have k2 : kd (c (S i)) = 2 := by
        rw [kd_2]
        refine ⟨h2, fun t => h3 ?_⟩
        rw [Int32.lt_iff_toInt_lt] at t ⊢
        have a : (104 : Int32).toInt = 104 := by decide
        have b : (122 : Int32).toInt = 122 := by decide
        omega
      have hil : i < last := hE.lt hi (fun e => by rw [e] at h2; exact h2 (by decide))
      have rw' := run_word hE hil (L := 1) (Nat.le_refl _) (fun k hk => by rw [show k = 0 by omega]; exact k2)
      rw [show f_X7_in (c (S i)) 97 104 (sI τ 0 4 (nI (S i))) = some (1, sI τ 0 4 (nI (S i))) from by unfold f_X7_in; rw [if_neg h2, if_neg h3], obn_s, if_neg (by decide), e4, nI_1, r_byteAt hE hB (by omega), obn_s, show f_X7_in (c (S i + 1)) 97 122 (sI τ 0 4 (nI (S i))) = some (bI (kd (c (S i + 1)) = 2), sI τ 0 4 (nI (S i))) from r_in2, obn_s]
      by_cases hd : kd (c (S i + 1)) = 2
      · rw [bI_1 hd, if_neg (by decide)]
        exact (n1 (fun t => rw'.mp t.1 hd) rfl).symm
      · have hL := rw'.mpr hd
        have en : nm c S E i = c (S i) - 97 := by unfold nm; rw [if_pos ⟨hL, h2, h3'⟩]
        have hne : ¬ nm c S E i = -1 := by
          rcases nm_cases hE hi with e | ⟨m, hm, e, -⟩
          · exfalso
            rw [en] at e
            have e := congrArg (· + 97) e
            rw [Int32.sub_add_cancel] at e
            exact h2 (by rw [e]; decide)
          · rw [e]; intro t
            have := congrArg Int32.toInt t
            rw [nI_toInt (by omega)] at this
            have z : (-1 : Int32).toInt = -1 := by decide
            omega
        rw [bI_0 hd, if_pos rfl, bnd_s, e4, nI_1, sI_two, if_neg hne, en, hL]
/-! numbers -/
theorem nu_ok (hE : TkE c len last S E) (hi : i < last) (h1 : kd (c (S i)) = 1) : ∀ k, k ≤ E i - S i → ∃ m, m ≤ 1000000 ∧ nuV c (S i) k = nI m := by
  intro k
  induction k with
  | zero => intro _; exact ⟨0, by decide, rfl⟩
  | succ k ih =>
    intro hk
    obtain ⟨m, hm, e⟩ := ih (by omega)
    obtain ⟨a1, a2, a3, ⟨t1, t2, t3, t4⟩, a5⟩ := hE.2.2.2.2.2.2 i hi
    have hd := (t2 (S i + k) (by omega) (by omega)).trans h1
    obtain ⟨b, hb, eb⟩ := hE.2.2.2.1 (S i + k) (by omega)
    have hk1 := kd_1.mp hd
    rw [eb] at hk1
    have b1 : 48 ≤ b := by
      rcases Nat.lt_or_ge b 48 with g | g
      · exact absurd ((nI_ltI (b := 48) (by omega) (by decide)).mpr g) hk1.1
      · exact g
    rw [nuV, e, eb]
    have e1 : (10 : Int32) * nI m + nI b - 48 = nI (10 * m + b - 48) := by
      rw [show (10 : Int32) * nI m = nI (10 * m) from pk_mul 10 m, nI_add]
      exact pk_sub (b := 48) (by omega)
    rw [e1]
    unfold mnI
    by_cases hc : (1000000 : Int32) < nI (10 * m + b - 48)
    · rw [if_pos hc]; exact ⟨1000000, by decide, rfl⟩
    · rw [if_neg hc]
      refine ⟨_, ?_, rfl⟩
      rcases Nat.lt_or_ge 1000000 (10 * m + b - 48) with g | g
      · exact absurd ((nI_ltI (a := 1000000) (by decide) (by omega)).mpr g) hc
      · exact g
theorem e_number (hE : TkE c len last S E) (h : TC c len last S E σ i) : f_X5_number 178 σ = some (nuV c (S i) (E i - S i), σ) := by
  obtain ⟨k0, k1, k2, -⟩ := C178
  have hi := h.2.2.2.1
  have l := hE.le hi
  have se := hE.SE hi
  have key : ∀ n k, k ≤ E i - S i → E i - S i < n + k → f_X5_number_L7 n 178 (nuV c (S i) k) (nI (S i + k)) σ = some (nuV c (S i) (E i - S i), σ) := by
    intro n
    induction n with
    | zero => intro k h1 h2; omega
    | succ n ih =>
      intro k h1 h2
      rw [f_X5_number_L7, gd_p k0, h.2.2.2.2.2.2.1]
      by_cases hk : k = E i - S i
      · subst hk
        rw [if_pos (by rw [show S i + (E i - S i) = E i by omega]; exact Int32.le_refl _)]
      · have g : ¬ (nI (S i + k) < 0 ∨ 700 ≤ (nI (S i + k)).toNatClampNeg) := ge_pos (N := 700) (by decide) (by omega)
        rw [if_neg (fun t => absurd ((nI_leI (by omega) (by omega)).mp t) (by omega)), if_neg (nI_pos (by omega)), if_neg (show ¬ (700 : Int32) ≤ nI (S i + k) from fun t => absurd ((nI_leI (a := 700) (by decide) (by omega)).mp t) (by omega)), k1, k2, gd_p ⟨rfl, g⟩, nI_clamp (by omega), h.1 _ (by omega), bnd_s, bnd_s, nI_1]
        exact ih (k + 1) (by omega) (by omega)
  unfold f_X5_number
  rw [gd_p k0, bnd_s, h.2.2.2.2.2.1]
  exact key FU 0 (Nat.zero_le _) (by show _ < 4096 + 0; omega)
theorem e_isNumber (hE : TkE c len last S E) (h : TC c len last S E σ i) : f_X5_isNumber 178 σ = some (bI (kd (c (S i)) = 1), σ) := by
  unfold f_X5_isNumber bI
  simp only [kd_1]
  rw [gd_p C178.1, h.2.2.2.2.2.2.2]
  by_cases h1 : c (S i) < 48
  · rw [if_pos h1, if_neg (fun t => t.1 h1)]
  · by_cases h2 : 57 < c (S i)
    · rw [if_neg h1, if_pos h2, if_neg (fun t => t.2 h2)]
    · rw [if_neg h1, if_neg h2, if_pos ⟨h1, h2⟩]
theorem kd1_lt (hE : TkE c len last S E) (hi : i ≤ last) (h : kd (c (S i)) = 1) : i < last := hE.lt hi (fun e => by rw [e] at h; exact absurd h (by decide))
theorem r_number_no (hE : TkE c len last S E) (hi : i ≤ last) (h : TR c len S τ i) (h1 : ¬ kd (c (S i)) = 1) : f_X7_number 0 0 100000 τ = some (0, sI (sI (sI τ 0 4 (nI (S i))) 0 5 (-2)) 0 6 (nI (S i))) := by
  have e4 : (sI τ 0 4 (nI (S i))).1 0 4 = nI (S i) := by rw [sI_1, if_pos ⟨rfl, rfl⟩]
  unfold f_X7_number
  rw [gd_p R0, r_isGood h.2.1, obn_s, if_neg (by decide), r_next hE hi h, obn_s, r_isDigit, obn_s, bI_0 h1, if_pos rfl, e4, r_report (by rw [sI_1, if_neg (by decide)]; exact h.2.1), obn_s]
theorem r_number_ok (hE : TkE c len last S E) (hi : i ≤ last) (h : TR c len S τ i) (h1 : kd (c (S i)) = 1) : f_X7_number 0 0 100000 τ = if nuV c (S i) (E i - S i) ≤ 100000 then some (nuV c (S i) (E i - S i), sI (sI (sI τ 0 4 (nI (S i))) 0 17 (nI (S i))) 0 4 (nI (E i))) else some (nuV c (S i) (E i - S i), sI (sI (sI (sI (sI τ 0 4 (nI (S i))) 0 17 (nI (S i))) 0 4 (nI (E i))) 0 5 (-3)) 0 6 (nI (S i))) := by
  have hil := kd1_lt hE hi h1
  have l := hE.le hi
  have se := hE.SE hi
  have e4 : (sI τ 0 4 (nI (S i))).1 0 4 = nI (S i) := by rw [sI_1, if_pos ⟨rfl, rfl⟩]
  obtain ⟨a1, a2, a3, ⟨t1, t2, t3, t4⟩, a5⟩ := hE.2.2.2.2.2.2 i hil
  generalize eτ : sI (sI τ 0 4 (nI (S i))) 0 17 (nI (S i)) = τ0
  have hB : Txb c len τ0 := by rw [← eτ]; exact (h.1.z (by decide)).z (by decide)
  have key : ∀ (K : Nat → Int32 → Int32 → Int32 → St → Option (Int32 × St)) n k (τ1 : St), k ≤ E i - S i → E i - S i < n + k → τ1 = sI τ0 0 4 (nI (S i + k)) → f_X7_number_L41 K n 0 0 100000 (nuV c (S i) k) τ1 = K 0 0 100000 (nuV c (S i) (E i - S i)) (sI τ0 0 4 (nI (E i))) := by
    intro K n
    induction n with
    | zero => intro k τ1 h1 h2; omega
    | succ n ih =>
      intro k τ1 h1' h2 h3
      subst h3
      have hB1 : Txb c len (sI τ0 0 4 (nI (S i + k))) := hB.z (by decide)
      have e41 : (sI τ0 0 4 (nI (S i + k))).1 0 4 = nI (S i + k) := by rw [sI_1, if_pos ⟨rfl, rfl⟩]
      rw [f_X7_number_L41, gd_p R0, e41, r_byteAt hE hB1 (by omega), obn_s, r_isDigit, obn_s]
      by_cases hk : k = E i - S i
      · have hd : ¬ kd (c (S i + k)) = 1 := fun t => by
          rw [show S i + k = E i by omega] at t
          exact t3 (Or.inl h1) (t.trans h1.symm)
        rw [bI_0 hd, if_pos rfl, hk, show S i + (E i - S i) = E i by omega]
      · have hd : kd (c (S i + k)) = 1 := (t2 _ (by omega) (by omega)).trans h1
        have em : f_X7_min 1000000 ((10 : Int32) * nuV c (S i) k + c (S i + k) - 48) (sI τ0 0 4 (nI (S i + k))) = some (nuV c (S i) (k + 1), sI τ0 0 4 (nI (S i + k))) := by
          unfold f_X7_min
          rw [nuV]
          unfold mnI
          by_cases hc : (1000000 : Int32) < (10 : Int32) * nuV c (S i) k + c (S i + k) - 48
          · rw [if_pos hc, if_neg (fun t => by rw [Int32.lt_iff_toInt_lt] at hc; rw [Int32.le_iff_toInt_le] at t; omega)]
          · rw [if_neg hc, if_pos (by rw [Int32.lt_iff_toInt_lt] at hc; rw [Int32.le_iff_toInt_le]; omega)]
        rw [bI_1 hd, if_neg (by decide), e41, r_byteAt hE hB1 (by omega), obn_s, em, obn_s, bnd_s, e41, nI_1, sI_two]
        exact ih (k + 1) _ (by omega) (by omega) rfl
  obtain ⟨m, hm, em⟩ := nu_ok hE hil h1 (E i - S i) (Nat.le_refl _)
  unfold f_X7_number
  rw [gd_p R0, r_isGood h.2.1, obn_s, if_neg (by decide), r_next hE hi h, obn_s, r_isDigit, obn_s, bI_1 h1, if_neg (by decide), bnd_s, e4, eτ]
  have e40 : τ0.1 0 4 = nI (S i + 0) := by rw [← eτ, sI_1, if_neg (by decide), sI_1, if_pos ⟨rfl, rfl⟩]; rfl
  have k := key (fun (q18 : Nat) (x19 : Int32) (x20 : Int32) (x21 : Int32) (σ17 : St) => obn (f_X7_in x21 x19 x20 σ17) fun x38 σ37 => if x38 = 0 then (gd (kR q18 = (0, 7)) <| obn (f_X7_report q18 (-3 : Int32) (σ37.1 q18 17) σ37) fun _ σ41 => some (x21, σ41)) else (some (x21, σ37))) FU 0 τ0 (Nat.zero_le _) (by show _ < 4096 + 0; omega) (siSame e40).symm
  have e17 : (sI τ0 0 4 (nI (E i))).1 0 17 = nI (S i) := by rw [sI_1, if_neg (by decide), ← eτ, sI_1, if_pos ⟨rfl, rfl⟩]
  have e5 : (sI τ0 0 4 (nI (E i))).1 0 5 = 0 := by rw [sI_1, if_neg (by decide), ← eτ, sI_1, if_neg (by decide), sI_1, if_neg (by decide)]; exact h.2.1
  refine k.trans ?_
  unfold f_X7_in
  rw [em, if_neg (nI_pos (by omega))]
  by_cases hle : nI m ≤ 100000
  · rw [if_neg (show ¬ (100000 : Int32) < nI m from fun t => by rw [Int32.lt_iff_toInt_lt] at t; rw [Int32.le_iff_toInt_le] at hle; omega), obn_s, if_neg (by decide), if_pos hle]
  · rw [if_pos (show (100000 : Int32) < nI m from by rw [Int32.lt_iff_toInt_lt]; rw [Int32.le_iff_toInt_le] at hle; omega), obn_s, if_pos rfl, gd_p R0, e17, r_report e5, obn_s, if_neg hle]
end WORD
