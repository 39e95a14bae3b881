/-! BOUNDS OF LONGS -/
def bdd (n : Nat) (x : Int64) : Prop := -(n : Int) ≤ x.toInt ∧ x.toInt ≤ n
theorem bdd.up {m n : Nat} {x : Int64} (h : bdd m x) (hm : m ≤ n) : bdd n x := ⟨by have := h.1; omega, by have := h.2; omega⟩
theorem i64_rng {v : Int} (h1 : -(2 ^ 63) ≤ v) (h2 : v < 2 ^ 63) : v.bmod (2 ^ 64) = v := Int.bmod_eq_of_le (by omega) (by omega)
theorem i64_add {x y : Int64} (h1 : -(2 ^ 63) ≤ x.toInt + y.toInt) (h2 : x.toInt + y.toInt < 2 ^ 63) : (x + y).toInt = x.toInt + y.toInt := by
  rw [Int64.toInt_add]; exact i64_rng h1 h2
theorem i64_sub {x y : Int64} (h1 : -(2 ^ 63) ≤ x.toInt - y.toInt) (h2 : x.toInt - y.toInt < 2 ^ 63) : (x - y).toInt = x.toInt - y.toInt := by
  rw [Int64.toInt_sub]; exact i64_rng h1 h2
theorem i64_neg {x : Int64} (h1 : -(2 ^ 63) < x.toInt) : (-x).toInt = -x.toInt := by
  rw [Int64.toInt_neg]; exact i64_rng (by have := x.toInt_lt; omega) (by omega)
theorem bdd.neg {n : Nat} {x : Int64} (h : bdd n x) (hn : n < 2 ^ 63) : bdd n (-x) := by
  have e := i64_neg (x := x) (by have := h.1; omega)
  unfold bdd at *; omega
theorem bdd.add {m n : Nat} {x y : Int64} (h : bdd m x) (h' : bdd n y) (hn : m + n < 2 ^ 63) : bdd (m + n) (x + y) := by
  have e := i64_add (x := x) (y := y) (by have := h.1; have := h'.1; omega) (by have := h.2; have := h'.2; omega)
  unfold bdd at *; omega
theorem bdd.sub {m n : Nat} {x y : Int64} (h : bdd m x) (h' : bdd n y) (hn : m + n < 2 ^ 63) : bdd (m + n) (x - y) := by
  have e := i64_sub (x := x) (y := y) (by have := h.1; have := h'.2; omega) (by have := h.2; have := h'.1; omega)
  unfold bdd at *; omega
theorem int_mul_bd {a b : Int} {m n : Nat} (h1 : -(m : Int) ≤ a) (h2 : a ≤ m) (h3 : -(n : Int) ≤ b) (h4 : b ≤ n) : -((m * n : Nat) : Int) ≤ a * b ∧ a * b ≤ ((m * n : Nat) : Int) := by
  have ha : a.natAbs ≤ m := by omega
  have hb : b.natAbs ≤ n := by omega
  have h := Nat.mul_le_mul ha hb
  rw [← Int.natAbs_mul] at h
  omega
theorem bdd.mul {m n : Nat} {x y : Int64} (h : bdd m x) (h' : bdd n y) (hn : m * n < 2 ^ 63) : bdd (m * n) (x * y) := by
  have k := int_mul_bd h.1 h.2 h'.1 h'.2
  have e : (x * y).toInt = x.toInt * y.toInt := by rw [Int64.toInt_mul]; exact i64_rng (by omega) (by omega)
  unfold bdd; rw [e]; exact k
theorem bdd.mn {n : Nat} {x y : Int64} (h : bdd n x) (h' : bdd n y) : bdd n (mnJ x y) := by unfold mnJ; split <;> assumption
theorem bdd.mx {n : Nat} {x y : Int64} (h : bdd n x) (h' : bdd n y) : bdd n (mxJ x y) := by unfold mxJ; split <;> assumption
theorem bdd.z {n : Nat} : bdd n 0 := ⟨by rw [Int64.toInt_zero]; omega, by rw [Int64.toInt_zero]; omega⟩
theorem bdd.sum {f : Nat → Int64} {b : Nat} : ∀ {n : Nat}, (∀ k, k < n → bdd b (f k)) → n * b < 2 ^ 63 → bdd (n * b) (sumN f n)
  | 0, _, _ => bdd.z
  | n + 1, h, hn => by
    have e : (n + 1) * b = n * b + b := Nat.succ_mul n b
    rw [e] at hn ⊢
    exact (bdd.sum (fun k hk => h k (Nat.lt_succ_of_lt hk)) (by omega)).add (h n (Nat.lt_succ_self n)) hn
theorem bdd.sumP {f : Nat → Int64} {b : Nat → Nat} {B : Nat → Nat} (hB : ∀ n, B (n + 1) = B n + b n) : ∀ {n : Nat}, (∀ k, k < n → bdd (b k) (f k)) → B n < 2 ^ 63 → bdd (B n) (sumN f n)
  | 0, _, _ => bdd.z
  | n + 1, h, hn => by
    rw [hB] at hn ⊢
    exact (bdd.sumP hB (fun k hk => h k (Nat.lt_succ_of_lt hk)) (by omega)).add (h n (Nat.lt_succ_self n)) hn
theorem fit1_bd {x : Int64} (h : fit1 x) : bdd 100000000 x := by
  obtain ⟨h1, h2⟩ := h
  rw [Int64.lt_iff_toInt_lt] at h1 h2
  have e1 : (-100000000 : Int64).toInt = -100000000 := by decide
  have e2 : (100000000 : Int64).toInt = 100000000 := by decide
  unfold bdd; omega
theorem lN_bd {x : Int64} {n : Nat} (hn : n < 2 ^ 31) (h : bdd n x) : ¬ x < -lN n ∧ ¬ lN n < x := by
  have e := lN_toInt (n := n) (by omega)
  have e2 : (-lN n).toInt = -(n : Int) := by rw [i64_neg (by omega), e]
  rw [Int64.lt_iff_toInt_lt, Int64.lt_iff_toInt_lt, e, e2]
  have := h.1; have := h.2; omega
/-! least and greatest -/
theorem neg_mn {a b : Int64} (ha : bdd (2 ^ 63 - 1) a) (hb : bdd (2 ^ 63 - 1) b) : -(mnJ a b) = mxJ (-a) (-b) := by
  unfold mnJ mxJ
  have e1 := i64_neg (x := a) (by have := ha.1; omega)
  have e2 := i64_neg (x := b) (by have := hb.1; omega)
  by_cases h : b < a
  · have h' := h
    rw [Int64.lt_iff_toInt_lt] at h'
    rw [if_pos h, if_neg (by rw [Int64.lt_iff_toInt_lt, e1, e2]; omega)]
  · have h' := h
    rw [Int64.lt_iff_toInt_lt] at h'
    rw [if_neg h]
    by_cases h2 : -b < -a
    · rw [if_pos h2]
    · rw [if_neg h2]
      rw [Int64.lt_iff_toInt_lt, e1, e2] at h2
      have : a = b := Int64.toInt_inj.mp (by omega)
      rw [this]
theorem mn_cases {a b : Int64} : mnJ a b = a ∨ mnJ a b = b := by unfold mnJ; split; exact Or.inr rfl; exact Or.inl rfl
/-! rounding: both ways -/
theorem xor_neg {v d : Int64} (hd : 0 < d.toInt) : (v ^^^ d) < 0 ↔ v < 0 := by
  have key : ∀ x : Int64, x < 0 ↔ x.toBitVec.msb = true := by
    intro x
    rw [Int64.lt_iff_toInt_lt, Int64.toInt_zero, ← Int64.toInt_toBitVec, BitVec.msb_eq_toInt]
    simp
  have hd' : d.toBitVec.msb = false := by
    rw [BitVec.msb_eq_toInt, Int64.toInt_toBitVec]; simp; omega
  rw [key, key, Int64.toBitVec_xor, BitVec.msb_xor, hd', Bool.xor_false]
theorem nat_ceil {n D : Nat} (hD : 0 < D) : (n + (D - 1)) / D = if n % D = 0 then n / D else n / D + 1 := by
  have h1 := Nat.div_add_mod n D
  have h2 := Nat.mod_lt n hD
  by_cases h : n % D = 0
  · rw [if_pos h]
    rw [Nat.div_eq_iff hD]
    rw [h] at h1
    have : n / D * D = n := by rw [Nat.mul_comm]; omega
    rw [this]; omega
  · rw [if_neg h]
    rw [Nat.div_eq_iff hD]
    have : (n / D + 1) * D = D * (n / D) + D := by rw [Nat.add_mul, Nat.one_mul, Nat.mul_comm]
    rw [this]; omega
theorem div_nn {v d : Int64} {n D : Nat} (hn : v.toInt = (n : Int)) (hD : d.toInt = D) : (v / d).toInt = ((n / D : Nat) : Int) := by
  have hq : n / D ≤ n := Nat.div_le_self n D
  rw [Int64.toInt_div, hn, hD, ← Int.ofNat_tdiv]
  generalize n / D = Q at *
  have := v.toInt_lt
  exact i64_rng (by omega) (by omega)
theorem div_nP {v d : Int64} {n D : Nat} (hn : v.toInt = -(n : Int)) (hD : d.toInt = D) (hb : n < 2 ^ 63) : (v / d).toInt = -((n / D : Nat) : Int) := by
  have hq : n / D ≤ n := Nat.div_le_self n D
  rw [Int64.toInt_div, hn, hD, Int.neg_tdiv, ← Int.ofNat_tdiv]
  generalize n / D = Q at *
  exact i64_rng (by omega) (by omega)
theorem down_fdv {v d : Int64} (hv : bdd (2 ^ 63 - 2 ^ 32) v) (hd : 0 < d.toInt) (hd2 : d.toInt < 2 ^ 31) : (if v < 0 then -(((d - 1) - v) / d) else v / d) = fdv v d := by
  obtain ⟨D, hD⟩ : ∃ D : Nat, d.toInt = D := ⟨d.toInt.toNat, by omega⟩
  unfold fdv
  by_cases h : v < 0
  · rw [if_pos h, if_pos ((xor_neg hd).mpr h)]
    have hv0 : v.toInt < 0 := by rw [Int64.lt_iff_toInt_lt, Int64.toInt_zero] at h; exact h
    obtain ⟨n, hn⟩ : ∃ n : Nat, v.toInt = -(n : Int) := ⟨(-v.toInt).toNat, by omega⟩
    have hb := hv.1
    have hq : n / D ≤ n := Nat.div_le_self n D
    have q := div_nP hn hD (by omega)
    have o : (1 : Int64).toInt = 1 := by decide
    have e1 : (d - 1).toInt = (D : Int) - 1 := by rw [i64_sub (by omega) (by omega)]; omega
    have e2 : ((d - 1) - v).toInt = ((n + (D - 1) : Nat) : Int) := by rw [i64_sub (by omega) (by omega)]; omega
    have e3 := div_nn e2 hD
    have hq2 : (n + (D - 1)) / D ≤ n + (D - 1) := Nat.div_le_self _ D
    have hle : n / D * D ≤ n := Nat.div_mul_le_self n D
    have e5 : (v / d * d).toInt = -((n / D * D : Nat) : Int) := by
      rw [Int64.toInt_mul, q, hD, Int.neg_mul, ← Int.natCast_mul]
      generalize n / D * D = Q at *
      exact i64_rng (by omega) (by omega)
    have hm := Nat.div_add_mod n D
    rw [Nat.mul_comm] at hm
    rw [nat_ceil (by omega)] at e3 hq2
    by_cases hz : n % D = 0
    · rw [if_pos hz] at e3
      rw [hz] at hm
      rw [if_pos (Int64.toInt_inj.mp (by rw [e5, hn]; omega))]
      generalize n / D = Q at *
      exact Int64.toInt_inj.mp (by rw [i64_neg (by omega), e3, q])
    · rw [if_neg hz] at e3
      have hml := Nat.mod_lt n (show 0 < D by omega)
      rw [if_neg (fun t => by have t := congrArg Int64.toInt t; rw [e5, hn] at t; generalize n / D * D = Q at *; generalize n % D = R at *; omega)]
      refine Int64.toInt_inj.mp ?_
      generalize n / D = Q at *
      rw [i64_neg (by omega), e3, i64_sub (by omega) (by omega), q, o]
      omega
  · rw [if_neg h, if_neg (fun t => h ((xor_neg hd).mp t))]
theorem rem0 {v d : Int64} : v - v / d * d = 0 ↔ v / d * d = v := by
  constructor
  · intro h
    have h := congrArg (· + v / d * d) h
    rw [Int64.sub_add_cancel, Int64.zero_add] at h
    exact h.symm
  · intro h; rw [h]; exact Int64.sub_self v
theorem fdv_rem {v d : Int64} (hv : bdd (2 ^ 63 - 2 ^ 32) v) (hd : 0 < d.toInt) (hd2 : d.toInt < 2 ^ 31) : fdv v d * d = v ↔ v - v / d * d = 0 := by
  rw [rem0]
  unfold fdv
  by_cases h : (v ^^^ d) < 0
  · rw [if_pos h]
    by_cases h2 : v / d * d = v
    · rw [if_pos h2]
    · rw [if_neg h2]
      refine ⟨fun t => ?_, fun t => absurd t h2⟩
      exfalso
      have e : (v / d - 1) * d = v / d * d - d := by rw [Int64.sub_mul, Int64.one_mul]
      rw [e] at t
      have t : v / d * d = v + d := by
        have t := congrArg (· + d) t
        rw [Int64.sub_add_cancel] at t
        exact t
      have hb := hv.1
      have hb2 := hv.2
      have hn : v < 0 := (xor_neg hd).mp h
      rw [Int64.lt_iff_toInt_lt, Int64.toInt_zero] at hn
      obtain ⟨D, hD⟩ : ∃ D : Nat, d.toInt = D := ⟨d.toInt.toNat, by omega⟩
      obtain ⟨n, hn'⟩ : ∃ n : Nat, v.toInt = -(n : Int) := ⟨(-v.toInt).toNat, by omega⟩
      have q := div_nP hn' hD (by omega)
      have hle : n / D * D ≤ n := Nat.div_mul_le_self n D
      have e5 : (v / d * d).toInt = -((n / D * D : Nat) : Int) := by
        rw [Int64.toInt_mul, q, hD, Int.neg_mul, ← Int.natCast_mul]
        generalize n / D * D = Q at *
        exact i64_rng (by omega) (by omega)
      have hm := Nat.div_add_mod n D
      rw [Nat.mul_comm] at hm
      have hlt := Nat.mod_lt n (show 0 < D by omega)
      have t2 := congrArg Int64.toInt t
      rw [e5, i64_add (by omega) (by omega), hn', hD] at t2
      generalize n / D * D = Q at *
      generalize n % D = R at *
      omega
  · rw [if_neg h]
