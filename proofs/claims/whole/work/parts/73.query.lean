/-! CALLS: values, degrees, covers, reasons, checksums -/
def vf (k n : Nat) (x y : Int64) : Int64 := if PX k ≤ n then if PX k + PY k ≤ n then 1000 else y else x
def valV (p : V) (x y : Int64) : Int64 := sumN (fun k => p k * vf k 0 x y * vf k 1 x y * vf k 2 x y) 10
def pw (a : Int64) (n : Nat) : Int64 := if n = 0 then 1 else if n = 1 then a else if n = 2 then a * a else a * a * a
theorem pw_vf {p x y : Int64} {k : Nat} (hk : k < 10) : p * pw x (PX k) * pw y (PY k) * pw 1000 (3 - PX k - PY k) = p * vf k 0 x y * vf k 1 x y * vf k 2 x y := by
  rcases (show k = 0 ∨ k = 1 ∨ k = 2 ∨ k = 3 ∨ k = 4 ∨ k = 5 ∨ k = 6 ∨ k = 7 ∨ k = 8 ∨ k = 9 by omega) with rfl | rfl | rfl | rfl | rfl | rfl | rfl | rfl | rfl | rfl <;>
  simp [pw, vf, PX, PY, Int64.mul_assoc]
theorem vf_bd {x y : Int64} {k n : Nat} (hx : bdd 1000 x) (hy : bdd 1000 y) : bdd 1000 (vf k n x y) := by
  unfold vf
  split
  · split
    · unfold bdd; decide
    · exact hy
  · exact hx
theorem valV_bd {p : V} {x y : Int64} (hp : fitN p 12) (hx : bdd 1000 x) (hy : bdd 1000 y) : bdd 1000000000000000000 (valV p x y) := by
  unfold valV
  refine (bdd.sum (b := 100000000000000000) (n := 10) (fun k hk => ?_) (by decide)).up (by decide)
  exact ((((fit_bd hp (show k < 12 by omega)).mul (vf_bd hx hy) (by decide)).mul (vf_bd hx hy) (by decide)).mul (vf_bd hx hy) (by decide)).up (by decide)
theorem three_le {k : Nat} (h : k < 2 ^ 31) : ((3 : Int32) ≤ nI k) ↔ 3 ≤ k := nI_leI (by decide) h
section QUERY
variable {σ τ ρ : St}
theorem e_value {q : Nat} {x y : Int64} (hq : isM q) : f_X2_valueInBillionths q x y σ = some (valV (val σ q) x y, σ) := by
  have step : ∀ (K : Nat → Int64 → Int64 → Int64 → Int32 → Int64 → St → Option (Int64 × St)) (n k i : Nat) (s acc : Int64), k < 10 → i < 3 → f_X2_valueInBillionths_L25 K (n + 1) q x y s (nI k) acc (nI i) σ = f_X2_valueInBillionths_L25 K n q x y s (nI k) (acc * vf k i x y) (nI (i + 1)) σ := by
    intro K n k i s acc hk hi
    obtain ⟨x1, x2, x3, x4, x5⟩ := px_ok k hk
    have g : ¬ (nI k < 0 ∨ 10 ≤ (nI k).toNatClampNeg) := ge_pos (N := 10) (by decide) hk
    rw [f_X2_valueInBillionths_L25, if_neg (by rw [three_le (by omega)]; omega), gd_p (show ¬ (nI k < 0 ∨ (stL 0).length ≤ (nI k).toNatClampNeg) from g), gd_p (show ¬ (nI k < 0 ∨ (stL 1).length ≤ (nI k).toNatClampNeg) from g), nI_clamp (by omega), x1, x2, nI_add, nI_1]
    unfold vf
    by_cases h1 : PX k ≤ i
    · rw [if_pos ((nI_leI (by omega) (by omega)).mpr h1), if_pos h1]
      by_cases h2 : PX k + PY k ≤ i
      · rw [if_pos ((nI_leI (by omega) (by omega)).mpr h2), if_pos h2]; rfl
      · rw [if_neg (fun t => h2 ((nI_leI (by omega) (by omega)).mp t)), if_neg h2]; rfl
    · rw [if_neg (fun t => h1 ((nI_leI (by omega) (by omega)).mp t)), if_neg h1]; rfl
  have inner : ∀ (K : Nat → Int64 → Int64 → Int64 → Int32 → Int64 → St → Option (Int64 × St)) (k : Nat) (s acc : Int64), k < 10 → f_X2_valueInBillionths_L25 K FU q x y s (nI k) acc 0 σ = K q x y s (nI k) (acc * vf k 0 x y * vf k 1 x y * vf k 2 x y) σ := by
    intro K k s acc hk
    show f_X2_valueInBillionths_L25 K (4092 + 1 + 1 + 1 + 1) q x y s (nI k) acc (nI 0) σ = _
    rw [step K _ k 0 s acc hk (by decide), step K _ k 1 s _ hk (by decide), step K _ k 2 s _ hk (by decide), f_X2_valueInBillionths_L25, if_pos (by decide)]
  have key : ∀ n k, k ≤ 10 → 10 < n + k → f_X2_valueInBillionths_L6 n q x y (sumN (fun k => val σ q k * vf k 0 x y * vf k 1 x y * vf k 2 x y) k) (nI k) σ = some (valV (val σ q) x y, σ) := by
    intro n
    induction n with
    | zero => intro k h1 h2; omega
    | succ n ih =>
      intro k h1 h2
      rw [f_X2_valueInBillionths_L6]
      by_cases hk : k = 10
      · subst hk; rw [if_pos (by decide)]; rfl
      · have hk : k < 10 := by omega
        rw [if_neg (by rw [ten_le (by omega)]; omega), gd_p hq.1, hq.2.1, hq.2.2, gd_p ⟨rfl, ge_pos (by decide) hk⟩, nI_clamp (by omega), val_c hk, bnd_s, inner _ k _ _ hk, bnd_s, bnd_s, nI_1]
        exact ih (k + 1) (by omega) (by omega)
  exact key FU 0 (by decide) (by decide)
theorem r_power {a : Int64} {n : Nat} (hn : n < 4) : f_X7_power a (nI n) τ = some (pw a n, τ) := by
  unfold f_X7_power pw
  rcases (show n = 0 ∨ n = 1 ∨ n = 2 ∨ n = 3 by omega) with rfl | rfl | rfl | rfl
  · rw [if_pos (by decide), if_pos rfl]
  · rw [if_neg (by decide), if_pos (by decide), if_neg (by decide), if_pos rfl]
  · rw [if_neg (by decide), if_neg (by decide), if_pos (by decide), if_neg (by decide), if_neg (by decide), if_pos rfl]
  · rw [if_neg (by decide), if_neg (by decide), if_neg (by decide), if_neg (by decide), if_neg (by decide), if_neg (by decide)]
theorem r_valueLoop {K : Nat → Int32 → Int64 → Int64 → St → Option (Int32 × St)} {a b w : Int32} {z : Int64} {p : V} (hp : ∀ k, k < 10 → τ.2 47 k = p k) : f_X7_value_L91 K FU 0 a b w 0 z 0 τ = K 0 w (valV p a.toInt64 b.toInt64) z τ := by
  have key : ∀ n k, k ≤ 10 → 10 < n + k → f_X7_value_L91 K n 0 a b w (sumN (fun k => p k * vf k 0 a.toInt64 b.toInt64 * vf k 1 a.toInt64 b.toInt64 * vf k 2 a.toInt64 b.toInt64) k) z (nI k) τ = K 0 w (valV p a.toInt64 b.toInt64) z τ := by
    intro n
    induction n with
    | zero => intro k h1 h2; omega
    | succ n ih =>
      intro k h1 h2
      rw [f_X7_value_L91]
      by_cases hk : k = 10
      · subst hk; rw [if_pos (by decide)]; rfl
      · have hk : k < 10 := by omega
        obtain ⟨-, -, x1, x2, x3⟩ := px_ok k hk
        have e3 : (3 : Int32) - nI (PX k) - nI (PY k) = nI (3 - PX k - PY k) := by
          rw [show (3 : Int32) - nI (PX k) = nI (3 - PX k) from pk_sub (a := 3) (by omega), pk_sub (by omega)]
        rw [if_neg (by rw [ten_le (by omega)]; omega), gd_p R0, R47.1, gd_p (r_gd R47.2 (by omega)), r_iOf hk, obn_s, r_power x1, obn_s, r_jOf hk, obn_s, r_power x2, obn_s, r_iOf hk, obn_s, r_jOf hk, obn_s, e3, r_power (by omega), obn_s, bnd_s, bnd_s, nI_clamp (by omega), hp k hk, pw_vf hk, nI_1]
        exact ih (k + 1) (by omega) (by omega)
  exact key FU 0 (by decide) (by decide)
theorem bt_cases (a lo hi : Int32) : (¬ a < lo ∧ ¬ hi < a ∧ (∀ σ : St, f_X6_requireBetween a.toInt64 lo.toInt64 hi.toInt64 σ = some (.inr (), σ)) ∧ ∀ τ : St, f_X7_in a lo hi τ = some (1, τ)) ∨ ((a < lo ∨ hi < a) ∧ (∀ σ : St, f_X6_requireBetween a.toInt64 lo.toInt64 hi.toInt64 σ = some (.inl 3, σ)) ∧ ∀ τ : St, f_X7_in a lo hi τ = some (0, τ)) := by
  have c : ∀ x y : Int32, x.toInt64 < y.toInt64 ↔ x < y := fun x y => by rw [Int64.lt_iff_toInt_lt, Int32.lt_iff_toInt_lt, Int32.toInt_toInt64, Int32.toInt_toInt64]
  unfold f_X6_requireBetween f_X7_in
  simp only [bnd_s, c]
  by_cases h1 : a < lo
  · exact Or.inr ⟨Or.inl h1, fun σ => by rw [if_pos h1], fun τ => by rw [if_pos h1]⟩
  · by_cases h2 : hi < a
    · exact Or.inr ⟨Or.inr h2, fun σ => by rw [if_neg h1, if_pos h2], fun τ => by rw [if_neg h1, if_pos h2]⟩
    · exact Or.inl ⟨h1, h2, fun σ => by rw [if_neg h1, if_neg h2], fun τ => by rw [if_neg h1, if_neg h2]⟩
theorem k1000 : (-1000 : Int32).toInt64 = -1000 ∧ (1000 : Int32).toInt64 = 1000 := by decide
theorem bd1000 {a : Int32} (h1 : ¬ a < -1000) (h2 : ¬ 1000 < a) : bdd 1000 a.toInt64 := by
  rw [Int32.lt_iff_toInt_lt] at h1 h2
  have e1 : (-1000 : Int32).toInt = -1000 := by decide
  have e2 : (1000 : Int32).toInt = 1000 := by decide
  unfold bdd
  rw [Int32.toInt_toInt64]
  omega
theorem nine : (0 : Int) < (1000000000 : Int64).toInt ∧ (1000000000 : Int64).toInt < 2 ^ 31 ∧ ¬ (1000000000 : Int64) = 0 ∧ pw 1000 3 = 1000000000 := by decide
theorem go_value {a1 a2 a3 a4 : Int32} (h : Rel σ τ) : Go (wst (f_L_value a1 a2 a3 a4 σ ρ) (f_X7_value 0 a1 a2 a3 a4 τ) Int32.toInt64) := by
  unfold f_L_value f_X6_value f_X7_value
  simp only [bnd_s]
  refine go_model h (fun i hi ea hd => ?_)
  subst ea
  obtain ⟨hm, hf⟩ := h.m hi hd
  have thr : ∀ {Y : Option (Int32 × St)}, Y = some (0, sI τ 0 0 3) → Go (wst (wrp [1, 2, 3] Int32.toInt64 (some (Sum.inl 3, σ)) ρ) Y Int32.toInt64) := fun e => by rw [e]; exact go_thr h w3 (by decide)
  have bx := bt_cases a2 (-1000) 1000
  have bY := bt_cases a3 (-1000) 1000
  rw [k1000.1, k1000.2] at bx bY
  rcases bx with ⟨x1, x2, x3, x4⟩ | ⟨-, x3, x4⟩
  · rw [x3, obX_r, x4, obn_s, if_neg (by decide)]
    rcases bY with ⟨y1, y2, y3, y4⟩ | ⟨-, y3, y4⟩
    · rw [y3, obX_r, y4, obn_s, if_neg (by decide)]
      have bV := valV_bd hf (bd1000 x1 x2) (bd1000 y1 y2)
      have e3 : ∀ τ1 : St, f_X7_power 1000 3 τ1 = some (1000000000, τ1) := fun τ1 => by rw [← nine.2.2.2]; exact r_power (n := 3) (by decide)
      rcases zo_cases a4 with rfl | rfl | hb
      · rw [e_zo_0, obX_r, gd_p (M_mp hi).1, e_value (M_mp hi), obn_s, if_pos rfl, e_floorDiv nine.2.2.1, obn_s, r_zo_0, obn_s, if_neg (by decide), gd_p R0, r_fails0 z00, obn_s, if_pos rfl, gd_p R0, R2.1, R47.1, hm, val_lo, hm]
        refine go_okF (S := fun p => p = 47) h (Tr.obn ((r_take R2.2 R47.2 hi).mono (fun _ τ1 h1 => ?_)))
        rw [dv_z] at h1
        rw [e3, obn_s, r_valueLoop (p := dv τ 2 i) (fun k hk => by rw [rv_at (show k < 12 by omega), h1.1]), if_pos rfl, r_down (bV.up (by decide)) nine.1 nine.2.1, obn_s, gd_p R0, R47.1, gd_p (r_gd10 R47.2), n10, rv_at (show 10 < 12 by decide), h1.1]
        exact Tr.ret ⟨by rw [Int64.add_comm], h1.2⟩
      · rw [e_zo_1, obX_r, gd_p (M_mp hi).1, e_value (M_mp hi), obn_s, if_neg (by decide), e_floorDiv nine.2.2.1, obn_s, r_zo_1, obn_s, if_neg (by decide), gd_p R0, r_fails0 z00, obn_s, if_pos rfl, gd_p R0, R2.1, R47.1, hm, val_hi, hm]
        refine go_okF (S := fun p => p = 47) h (Tr.obn ((r_take R2.2 R47.2 hi).mono (fun _ τ1 h1 => ?_)))
        rw [dv_z] at h1
        rw [e3, obn_s, r_valueLoop (p := dv τ 2 i) (fun k hk => by rw [rv_at (show k < 12 by omega), h1.1]), if_neg (by decide), r_up (bV.up (by decide)) nine.1 nine.2.1, obn_s, gd_p R0, R47.1, gd_p (r_gd11 R47.2), n11, rv_at (show 11 < 12 by decide), h1.1]
        exact Tr.ret ⟨by rw [Int64.sub_eq_add_neg, Int64.add_comm], h1.2⟩
      · rw [e_zo_bad hb, obX_l, r_zo_bad hb, obn_s, if_pos rfl, gd_p R0, r_fails1 z00 (by decide), obn_s, if_neg (by decide), sz0]
        exact thr rfl
    · rw [y3, obX_l, y4, obn_s, if_pos rfl, gd_p R0, r_fails1 z00 (by decide), obn_s, if_neg (by decide), sz0]
      exact thr rfl
  · rw [x3, obX_l, x4, obn_s, if_pos rfl, gd_p R0, r_fails1 z00 (by decide), obn_s, if_neg (by decide), sz0]
    exact thr rfl
def dgV (p : V) : Nat → Int32
  | 0 => -1
  | n + 1 => if p n = 0 then dgV p n else mxI (dgV p n) (nI (PX n + PY n))
theorem e_degree {q : Nat} (hq : isM q) : f_X2_highestDegree q σ = some (dgV (val σ q) 10, σ) := by
  have key : ∀ n k, k ≤ 10 → 10 < n + k → f_X2_highestDegree_L4 n q (dgV (val σ q) k) (nI k) σ = some (dgV (val σ q) 10, σ) := by
    intro n
    induction n with
    | zero => intro k h1 h2; omega
    | succ n ih =>
      intro k h1 h2
      rw [f_X2_highestDegree_L4]
      by_cases hk : k = 10
      · subst hk; rw [if_pos (by decide)]
      · have hk : k < 10 := by omega
        have g : ¬ (nI k < 0 ∨ 10 ≤ (nI k).toNatClampNeg) := ge_pos (N := 10) (by decide) hk
        obtain ⟨x1, x2, -⟩ := px_ok k hk
        have i := ih (k + 1) (by omega) (by omega)
        rw [dgV] at i
        rw [if_neg (by rw [ten_le (by omega)]; omega), gd_p hq.1, hq.2.1, hq.2.2, gd_p ⟨rfl, g⟩, gd_p (show ¬ (nI k < 0 ∨ (stL 0).length ≤ (nI k).toNatClampNeg) from g), gd_p (show ¬ (nI k < 0 ∨ (stL 1).length ≤ (nI k).toNatClampNeg) from g), nI_clamp (by omega), val_c hk, x1, x2, nI_add, bnd_s, bnd_s, bnd_s, nI_1]
        by_cases h : val σ q k = 0
        · rw [if_pos h] at i ⊢; exact i
        · rw [if_neg h] at i ⊢; exact i
  exact key FU 0 (by decide) (by decide)
theorem i32_0' {x : Int32} : x.toInt64 = 0 ↔ x = 0 := by
  constructor
  · intro h
    have := congrArg Int64.toInt32 h
    rw [Int32.toInt32_toInt64] at this
    exact this
  · intro h; rw [h]; rfl
theorem go_degree {a1 : Int32} (h : Rel σ τ) : Go (wst (f_L_degree a1 σ ρ) (f_X7_degree 0 a1 τ) Int32.toInt64) := by
  unfold f_L_degree f_X6_degree f_X7_degree
  simp only [bnd_s]
  refine go_model h (fun i hi ea hd => ?_)
  subst ea
  have hm := (h.m hi hd).1
  rw [gd_p (M_mp hi).1, e_degree (M_mp hi), obn_s, hm]
  have key : ∀ n k, k ≤ 10 → 10 < n + k → f_X7_degree_L19 n 0 (nI i) (dgV (dv τ 2 i) k) (nI k) (sI τ 0 0 0) = some (dgV (dv τ 2 i) 10, sI τ 0 0 0) := by
    intro n
    induction n with
    | zero => intro k h1 h2; omega
    | succ n ih =>
      intro k h1 h2
      rw [f_X7_degree_L19]
      by_cases hk : k = 10
      · subst hk; rw [if_pos (by decide)]
      · have hk : k < 10 := by omega
        have i' := ih (k + 1) (by omega) (by omega)
        rw [dgV] at i'
        have ed : dv τ 2 i k = 0 ↔ τ.1 2 (1 + 12 * i + k) = 0 := by unfold dv; rw [if_pos (by omega)]; exact i32_0'
        rw [if_neg (by rw [ten_le (by omega)]; omega), gd_p R0, R2.1, d_ix, gd_p (d_gd R2.2 (by omega)), nI_clamp (by omega), z_2, r_iOf hk, obn_s, r_jOf hk, obn_s, nI_add, r_iOf hk, obn_s, r_jOf hk, obn_s, bnd_s, bnd_s, bnd_s, nI_1, nI_add]
        by_cases h0 : dv τ 2 i k = 0
        · rw [if_pos h0] at i'; rw [if_pos (ed.mp h0)]; exact i'
        · rw [if_neg h0] at i'; rw [if_neg (fun t => h0 (ed.mpr t))]
          unfold mxI at i'
          by_cases h3 : dgV (dv τ 2 i) k < nI (PX k + PY k)
          · rw [if_pos h3] at i'; rw [if_neg (fun t => by rw [Int32.lt_iff_toInt_lt] at h3; rw [Int32.le_iff_toInt_le] at t; omega)]; exact i'
          · rw [if_neg h3] at i'; rw [if_pos (by rw [Int32.lt_iff_toInt_lt] at h3; rw [Int32.le_iff_toInt_le]; omega)]; exact i'
  have k := key FU 0 (by decide) (by decide)
  have k : f_X7_degree_L19 FU 0 (nI i) (-1) 0 (sI τ 0 0 0) = some (dgV (dv τ 2 i) 10, sI τ 0 0 0) := k
  rw [k]
  exact go_val h rfl
theorem go_ix {a : Int32} {xs' : List Nat} {tl : Int32 → Int64} {KX : St → Option ((Nat ⊕ Int32) × St)} {KY : St → Option (Int32 × St)} (h : Rel σ τ) (hk : ∀ i, i < 8 → a = nI i → Go (wst (wrp (1 :: xs') tl (KX σ) ρ) (KY (sI τ 0 0 0)) tl)) :
    Go (wst (wrp (1 :: xs') tl (obx (f_X6_requireIndex a σ) (fun ex σ1 => some (Sum.inl ex, σ1)) fun _ σ1 => KX σ1) ρ) (obn (f_X7_noIndex 0 a (sI τ 0 0 0)) fun x4 σ3 => if x4 = 0 then KY σ3 else some ((0 : Int32), σ3)) tl) := by
  rcases ix_cases a with hb | ⟨i, hi, rfl⟩
  · rw [e_ix_bad hb, obX_l, r_ix_bad z00 hb, obn_s, if_neg (by decide), sz0]
    exact go_thr h w1 (by decide)
  · rw [e_ix_ok hi, obX_r, r_ix_ok z00 hi, obn_s, if_pos rfl]
    exact hk i hi rfl
theorem np_bad1 {τ0 : St} {a b : Int32} (h0 : τ0.1 0 0 = 0) (h : bad8 a) : f_X7_noPair 0 a b τ0 = some (1, sI τ0 0 0 1) := by
  unfold f_X7_noPair; rw [gd_p R0, r_ix_bad h0 h, obn_s, if_neg (by decide)]
theorem np_bad2 {τ0 : St} {i : Nat} {b : Int32} (h0 : τ0.1 0 0 = 0) (hi : i < 8) (h : bad8 b) : f_X7_noPair 0 (nI i) b τ0 = some (1, sI τ0 0 0 1) := by
  unfold f_X7_noPair; rw [gd_p R0, r_ix_ok h0 hi, obn_s, if_pos rfl, r_ix_bad h0 h, obn_s, if_neg (by decide)]
theorem np_no1 {τ0 : St} {i j : Nat} (h0 : τ0.1 0 0 = 0) (hi : i < 8) (hj : j < 8) (h : ¬ df (τ0.1 2 0) (nI i)) : f_X7_noPair 0 (nI i) (nI j) τ0 = some (1, sI τ0 0 0 2) := by
  unfold f_X7_noPair; rw [gd_p R0, r_ix_ok h0 hi, obn_s, if_pos rfl, r_ix_ok h0 hj, obn_s, if_pos rfl, r_nm_no h0 hi h, obn_s, if_neg (by decide)]
theorem np_no2 {τ0 : St} {i j : Nat} (h0 : τ0.1 0 0 = 0) (hi : i < 8) (hj : j < 8) (h : df (τ0.1 2 0) (nI i)) (h2 : ¬ df (τ0.1 2 0) (nI j)) : f_X7_noPair 0 (nI i) (nI j) τ0 = some (1, sI τ0 0 0 2) := by
  unfold f_X7_noPair; rw [gd_p R0, r_ix_ok h0 hi, obn_s, if_pos rfl, r_ix_ok h0 hj, obn_s, if_pos rfl, r_nm_ok h0 hi h, obn_s, if_pos rfl, r_nm_no h0 hj h2, obn_s, if_neg (by decide)]
theorem dv_Fr {S : Nat → Prop} {τ0 τ1 : St} {i : Nat} (h : Fr S τ0 τ1) : dv τ1 2 i = dv τ0 2 i := by unfold dv; rw [h.1]
theorem np_ok {τ0 : St} {i j : Nat} (h0 : τ0.1 0 0 = 0) (hi : i < 8) (hj : j < 8) (h : df (τ0.1 2 0) (nI i)) (h2 : df (τ0.1 2 0) (nI j)) : Tr (f_X7_noPair 0 (nI i) (nI j) τ0) (fun b τ1 => b = 0 ∧ rv τ1 47 = dv τ0 2 i ∧ rv τ1 48 = dv τ0 2 j ∧ Fr (fun p => p = 47 ∨ p = 48) τ0 τ1) := by
  unfold f_X7_noPair
  rw [gd_p R0, r_ix_ok h0 hi, obn_s, if_pos rfl, r_ix_ok h0 hj, obn_s, if_pos rfl, r_nm_ok h0 hi h, obn_s, if_pos rfl, r_nm_ok h0 hj h2, obn_s, if_pos rfl, R2.1, R47.1, R48.1]
  refine Tr.obn ((r_take R2.2 R47.2 hi).mono (fun _ τ1 h1 => Tr.obn ((r_take R2.2 R48.2 hj).mono (fun _ τ2 h3 => Tr.ret ⟨rfl, ?_, ?_, ?_⟩))))
  · rw [h3.2.r1 (by decide), h1.1]
  · rw [h3.1, dv_Fr h1.2]
  · exact (h1.2.weak (fun _ t => Or.inl t)).tr (h3.2.weak (fun _ t => Or.inr t))
theorem go_pair {a b : Int32} {xs' : List Nat} {tl : Int32 → Int64} {KX : Nat → Nat → St → Option ((Nat ⊕ Int32) × St)} {KY : St → Option (Int32 × St)} (h : Rel σ τ) (hk : ∀ i j τ1, i < 8 → j < 8 → a = nI i → b = nI j → df (σ.1 1 1) (nI i) → df (σ.1 1 1) (nI j) → rv τ1 47 = dv τ 2 i → rv τ1 48 = dv τ 2 j → Fr (fun p => p = 47 ∨ p = 48) (sI τ 0 0 0) τ1 → Go (wst (wrp (1 :: 2 :: xs') tl (KX (mp i) (mp j) σ) ρ) (KY τ1) tl)) :
    Go (wst (wrp (1 :: 2 :: xs') tl (obx (f_X6_requireIndex a σ) (fun ex σ1 => some (Sum.inl ex, σ1)) fun _ σ1 => obx (f_X6_requireIndex b σ1) (fun ex σ1 => some (Sum.inl ex, σ1)) fun _ σ1 => gd (kC 0 = (0, 6)) <| obx (f_X6_requireDefined 0 a σ1) (fun ex σ5 => some (Sum.inl ex, σ5)) fun q6 σ5 => obx (f_X6_requireDefined 0 b σ5) (fun ex σ5 => some (Sum.inl ex, σ5)) fun q7 σ7 => KX q6 q7 σ7) ρ) (obn (f_X7_noPair 0 a b (sI τ 0 0 0)) fun x4 σ3 => if x4 = 0 then KY σ3 else some ((0 : Int32), σ3)) tl) := by
  rcases ix_cases a with hb | ⟨i, hi, rfl⟩
  · rw [e_ix_bad hb, obX_l, np_bad1 z00 hb, obn_s, if_neg (by decide), sz0]
    exact go_thr h w1 (by decide)
  · rw [e_ix_ok hi, obX_r]
    rcases ix_cases b with hb | ⟨j, hj, rfl⟩
    · rw [e_ix_bad hb, obX_l, np_bad2 z00 hi hb, obn_s, if_neg (by decide), sz0]
      exact go_thr h w1 (by decide)
    · rw [e_ix_ok hj, obX_r, gd_p C0.1]
      by_cases hd : df (σ.1 1 1) (nI i)
      · rw [e_df_ok hi hd, obX_r]
        by_cases hd2 : df (σ.1 1 1) (nI j)
        · rw [e_df_ok hj hd2, obX_r]
          obtain ⟨x, τ1, e, rfl, h1, h2, h3⟩ := np_ok (τ0 := sI τ 0 0 0) z00 hi hj (by rw [z_2, ← h.mask]; exact hd) (by rw [z_2, ← h.mask]; exact hd2)
          rw [e, obn_s, if_pos rfl]
          rw [dv_z] at h1 h2
          exact hk i j τ1 hi hj rfl rfl hd hd2 h1 h2 h3
        · rw [e_df_no hj hd2, obX_l, np_no2 z00 hi hj (by rw [z_2, ← h.mask]; exact hd) (by rw [z_2, ← h.mask]; exact hd2), obn_s, if_neg (by decide), sz0]
          exact go_thr h w2 (by decide)
      · rw [e_df_no hi hd, obX_l, np_no1 z00 hi hj (by rw [z_2, ← h.mask]; exact hd), obn_s, if_neg (by decide), sz0]
        exact go_thr h w2 (by decide)
end QUERY
