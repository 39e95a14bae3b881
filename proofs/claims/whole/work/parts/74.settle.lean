/-! CALLS: covers, reasons, checksums; what settles -/
def difV (u w : V) : V := fun k => w k - u k
def cvV (u w : V) : Int32 := if sLo (difV u w) + w 10 < u 10 then 0 else if u 11 < sHi (difV u w) + w 11 then 0 else 1
theorem sLo_congr {u w : V} (h : ∀ k, k < 10 → u k = w k) : sLo u = sLo w := sumN_congr (fun k hk => by rw [h k hk])
theorem sHi_congr {u w : V} (h : ∀ k, k < 10 → u k = w k) : sHi u = sHi w := sumN_congr (fun k hk => by rw [h k hk])
section SETTLE
variable {σ τ ρ : St}
theorem e_contains {q p : Nat} (hq : isM q) (hp : isM p) : f_X2_contains q p σ = some (cvV (val σ q) (val σ p), σ) := by
  have key : ∀ (K : Nat → Int64 → Int64 → St → Option (Int32 × St)) (lo hi : Int64) n k, k ≤ 10 → 10 < n + k → f_X2_contains_L14 K n q p (lo + sumN (fun k => mnJ (difV (val σ q) (val σ p) k * LW k) (difV (val σ q) (val σ p) k)) k) (hi + sumN (fun k => mxJ (difV (val σ q) (val σ p) k * LW k) (difV (val σ q) (val σ p) k)) k) (nI k) σ = K q (lo + sLo (difV (val σ q) (val σ p))) (hi + sHi (difV (val σ q) (val σ p))) σ := by
    intro K lo hi n
    induction n with
    | zero => intro k h1 h2; omega
    | succ n ih =>
      intro k h1 h2
      rw [f_X2_contains_L14]
      by_cases hk : k = 10
      · subst hk; rw [if_pos (by decide)]; rfl
      · have hk : k < 10 := by omega
        have g : ¬ (nI k < 0 ∨ 10 ≤ (nI k).toNatClampNeg) := ge_pos (N := 10) (by decide) hk
        rw [if_neg (by rw [ten_le (by omega)]; omega), gd_p hp.1, gd_p hq.1, hp.2.1, hq.2.1, hp.2.2, hq.2.2, gd_p ⟨rfl, g⟩, gd_p ⟨rfl, g⟩, bnd_s, gd_p (show ¬ (nI k < 0 ∨ (stL 3).length ≤ (nI k).toNatClampNeg) from g), nI_clamp (by omega), val_c hk, val_c hk, e_rangeLow, obn_s, bnd_s, e_rangeHigh, obn_s, bnd_s, bnd_s, nI_1, Int64.add_assoc, Int64.add_assoc]
        exact ih (k + 1) (by omega) (by omega)
  unfold f_X2_contains
  rw [gd_p hp.1, bnd_s, bnd_s, val_lo, val_hi]
  have k := key (fun (q11 : Nat) (x12 : Int64) (x13 : Int64) (σ10 : St) => gd (kC q11 = (0, 2)) <| if x12 < (σ10.2 q11 1) then (some ((0 : Int32), σ10)) else (if (σ10.2 q11 2) < x13 then (some ((0 : Int32), σ10)) else (some ((1 : Int32), σ10)))) (val σ p 10) (val σ p 11) FU 0 (by decide) (by decide)
  rw [sumN, sumN, Int64.add_zero, Int64.add_zero] at k
  refine k.trans ?_
  rw [gd_p hq.1, val_lo, val_hi]
  unfold cvV
  rw [Int64.add_comm (val σ p 10), Int64.add_comm (val σ p 11)]
  split
  · rfl
  · split <;> rfl
theorem r_coversLoop {K : Nat → St → Option (Int32 × St)} {Q : Int32 → St → Prop} (hK : ∀ τ1, Fr (fun p => p = 49) τ τ1 → (∀ k, k < 10 → rv τ1 49 k = difV (rv τ 47) (rv τ 48) k) → Tr (K 0 τ1) Q) : Tr (f_X7_covers_L18 K FU 0 0 τ) Q := by
  have key : ∀ n k (τ1 : St), k ≤ 10 → 10 < n + k → Fr (fun p => p = 49) τ τ1 → (∀ j, j < k → rv τ1 49 j = difV (rv τ 47) (rv τ 48) j) → Tr (f_X7_covers_L18 K n 0 (nI k) τ1) Q := by
    intro n
    induction n with
    | zero => intro k τ1 h1 h2; omega
    | succ n ih =>
      intro k τ1 h1 h2 hF h5
      rw [f_X7_covers_L18]
      refine Tr.ite (fun h => ?_) (fun h => ?_)
      · rw [ten_le (by omega)] at h
        have : k = 10 := by omega
        subst this
        exact hK τ1 hF h5
      · rw [ten_le (by omega)] at h
        rw [R47.1, R48.1, R49.1]
        refine Tr.gd R0 (Tr.gd (r_gd R48.2 (by omega)) (Tr.gd (r_gd R47.2 (by omega)) (Tr.gd (r_gd R49.2 (by omega)) (Tr.bnd (Tr.bnd ?_)))))
        rw [nI_1, nI_clamp (by omega), rv_at (show k < 12 by omega), rv_at (show k < 12 by omega), hF.r1 (by decide), hF.r1 (by decide)]
        refine ih (k + 1) _ (by omega) (by omega) (hF.tr (Fr_J rfl)) (fun j hj => ?_)
        rw [rv_J (by omega)]
        unfold setV
        by_cases hjk : j = k
        · rw [if_pos hjk, hjk]; rfl
        · rw [if_neg hjk]; exact h5 j (by omega)
  exact key FU 0 τ (by decide) (by decide) Fr.rf (fun j hj => absurd hj (by omega))
theorem go_covers {a1 a2 : Int32} (h : Rel σ τ) : Go (wst (f_L_covers a1 a2 σ ρ) (f_X7_covers 0 a1 a2 τ) tz) := by
  unfold f_L_covers f_X6_covers f_X7_covers
  simp only [bnd_s]
  rw [gd_p R0]
  refine go_pair h (fun i j τ1 hi hj ea eb hd hd2 e1 e2 hF => ?_)
  obtain ⟨m1, f1⟩ := h.m hi hd
  obtain ⟨m2, f2⟩ := h.m hj hd2
  rw [gd_p (M_mp hi).1, e_contains (M_mp hi) (M_mp hj), obn_s, gd_p (by unfold cvV; split; exact Or.inl rfl; split; exact Or.inl rfl; exact Or.inr rfl), m1, m2]
  refine go_okF (S := fun p => p = 47 ∨ p = 48 ∨ p = 49) h ?_
  refine r_coversLoop (fun τ2 hF2 h3 => ?_)
  rw [e1, e2] at h3
  have hF3 : Fr (fun p => p = 47 ∨ p = 48 ∨ p = 49) (sI τ 0 0 0) τ2 := (hF.weak (fun p t => t.elim Or.inl (fun t => Or.inr (Or.inl t)))).tr (hF2.weak (fun p t => Or.inr (Or.inr t)))
  have b49 : ∀ k, k < 10 → bdd (2 ^ 63 - 1) (rv τ2 49 k) := fun k hk => by
    rw [h3 k hk]
    exact ((fit_bd f2 (show k < 12 by omega)).sub (fit_bd f1 (show k < 12 by omega)) (by decide)).up (by decide)
  rw [gd_p R0, R49.1, R47.1, R48.1, r_spreadLow R49.2, obn_s, gd_p (r_gd10 R48.2), gd_p (r_gd10 R47.2), n10, n11, r_spreadHigh R49.2 b49, obn_s, rv_at (r := 48) (show 10 < 12 by decide), rv_at (r := 47) (show 10 < 12 by decide), rv_at (r := 48) (show 11 < 12 by decide), rv_at (r := 47) (show 11 < 12 by decide), hF2.r1 (r := 47) (by decide), hF2.r1 (r := 48) (by decide), e1, e2, sLo_congr h3, sHi_congr h3]
  have g11 := r_gd11 R48.2
  have g11' := r_gd11 R47.2
  rw [n11] at g11 g11'
  rw [gd_p g11, gd_p g11']
  unfold cvV
  split
  · exact Tr.ret ⟨rfl, hF3⟩
  · split
    · exact Tr.ret ⟨rfl, hF3⟩
    · exact Tr.ret ⟨rfl, hF3⟩
/-! three models -/
theorem n3_b1 {τ0 : St} {a b c : Int32} (h0 : τ0.1 0 0 = 0) (h : bad8 a) : f_X7_noThree 0 a b c τ0 = some (1, sI τ0 0 0 1) := by
  unfold f_X7_noThree; rw [gd_p R0, r_ix_bad h0 h, obn_s, if_neg (by decide)]
theorem n3_b2 {τ0 : St} {i : Nat} {b c : Int32} (h0 : τ0.1 0 0 = 0) (hi : i < 8) (h : bad8 b) : f_X7_noThree 0 (nI i) b c τ0 = some (1, sI τ0 0 0 1) := by
  unfold f_X7_noThree; rw [gd_p R0, r_ix_ok h0 hi, obn_s, if_pos rfl, r_ix_bad h0 h, obn_s, if_neg (by decide)]
theorem n3_b3 {τ0 : St} {i j : Nat} {c : Int32} (h0 : τ0.1 0 0 = 0) (hi : i < 8) (hj : j < 8) (h : bad8 c) : f_X7_noThree 0 (nI i) (nI j) c τ0 = some (1, sI τ0 0 0 1) := by
  unfold f_X7_noThree; rw [gd_p R0, r_ix_ok h0 hi, obn_s, if_pos rfl, r_ix_ok h0 hj, obn_s, if_pos rfl, r_ix_bad h0 h, obn_s, if_neg (by decide)]
theorem n3_n1 {τ0 : St} {i j k : Nat} (h0 : τ0.1 0 0 = 0) (hi : i < 8) (hj : j < 8) (hk : k < 8) (h : ¬ df (τ0.1 2 0) (nI i)) : f_X7_noThree 0 (nI i) (nI j) (nI k) τ0 = some (1, sI τ0 0 0 2) := by
  unfold f_X7_noThree; rw [gd_p R0, r_ix_ok h0 hi, obn_s, if_pos rfl, r_ix_ok h0 hj, obn_s, if_pos rfl, r_ix_ok h0 hk, obn_s, if_pos rfl, r_nm_no h0 hi h, obn_s, if_neg (by decide)]
theorem n3_n2 {τ0 : St} {i j k : Nat} (h0 : τ0.1 0 0 = 0) (hi : i < 8) (hj : j < 8) (hk : k < 8) (h : df (τ0.1 2 0) (nI i)) (h2 : ¬ df (τ0.1 2 0) (nI j)) : f_X7_noThree 0 (nI i) (nI j) (nI k) τ0 = some (1, sI τ0 0 0 2) := by
  unfold f_X7_noThree; rw [gd_p R0, r_ix_ok h0 hi, obn_s, if_pos rfl, r_ix_ok h0 hj, obn_s, if_pos rfl, r_ix_ok h0 hk, obn_s, if_pos rfl, r_nm_ok h0 hi h, obn_s, if_pos rfl, np_no1 h0 hj hk h2, obn_s, if_neg (by decide)]
theorem n3_n3 {τ0 : St} {i j k : Nat} (h0 : τ0.1 0 0 = 0) (hi : i < 8) (hj : j < 8) (hk : k < 8) (h : df (τ0.1 2 0) (nI i)) (h2 : df (τ0.1 2 0) (nI j)) (h3 : ¬ df (τ0.1 2 0) (nI k)) : f_X7_noThree 0 (nI i) (nI j) (nI k) τ0 = some (1, sI τ0 0 0 2) := by
  unfold f_X7_noThree; rw [gd_p R0, r_ix_ok h0 hi, obn_s, if_pos rfl, r_ix_ok h0 hj, obn_s, if_pos rfl, r_ix_ok h0 hk, obn_s, if_pos rfl, r_nm_ok h0 hi h, obn_s, if_pos rfl, np_no2 h0 hj hk h2 h3, obn_s, if_neg (by decide)]
theorem n3_ok {τ0 : St} {i j k : Nat} (h0 : τ0.1 0 0 = 0) (hi : i < 8) (hj : j < 8) (hk : k < 8) (h : df (τ0.1 2 0) (nI i)) (h2 : df (τ0.1 2 0) (nI j)) (h3 : df (τ0.1 2 0) (nI k)) : Tr (f_X7_noThree 0 (nI i) (nI j) (nI k) τ0) (fun b τ1 => b = 0 ∧ rv τ1 49 = dv τ0 2 i ∧ rv τ1 47 = dv τ0 2 j ∧ rv τ1 48 = dv τ0 2 k ∧ Fr (fun p => p = 47 ∨ p = 48 ∨ p = 49) τ0 τ1) := by
  unfold f_X7_noThree
  rw [gd_p R0, r_ix_ok h0 hi, obn_s, if_pos rfl, r_ix_ok h0 hj, obn_s, if_pos rfl, r_ix_ok h0 hk, obn_s, if_pos rfl, r_nm_ok h0 hi h, obn_s, if_pos rfl]
  refine Tr.obn ((np_ok h0 hj hk h2 h3).mono (fun b τ1 h1 => ?_))
  obtain ⟨rfl, e1, e2, hF⟩ := h1
  rw [if_pos rfl, R2.1, R49.1]
  refine Tr.obn ((r_take R2.2 R49.2 hi).mono (fun _ τ2 h4 => Tr.ret ⟨rfl, ?_, ?_, ?_, ?_⟩))
  · rw [h4.1, dv_Fr hF]
  · rw [h4.2.r1 (by decide), e1]
  · rw [h4.2.r1 (by decide), e2]
  · exact (hF.weak (fun p t => t.elim Or.inl (fun t => Or.inr (Or.inl t)))).tr (h4.2.weak (fun p t => Or.inr (Or.inr t)))
theorem go_three {a b c : Int32} {xs' : List Nat} {tl : Int32 → Int64} {KX : Nat → Nat → Nat → St → Option ((Nat ⊕ Int32) × St)} {KY : St → Option (Int32 × St)} (h : Rel σ τ) (hk : ∀ i j k τ1, i < 8 → j < 8 → k < 8 → df (σ.1 1 1) (nI i) → df (σ.1 1 1) (nI j) → df (σ.1 1 1) (nI k) → rv τ1 49 = dv τ 2 i → rv τ1 47 = dv τ 2 j → rv τ1 48 = dv τ 2 k → Fr (fun p => p = 47 ∨ p = 48 ∨ p = 49) (sI τ 0 0 0) τ1 → Go (wst (wrp (1 :: 2 :: xs') tl (KX (mp i) (mp j) (mp k) σ) ρ) (KY τ1) tl)) :
    Go (wst (wrp (1 :: 2 :: xs') tl (obx (f_X6_requireIndex a σ) (fun ex σ1 => some (Sum.inl ex, σ1)) fun _ σ1 => obx (f_X6_requireIndex b σ1) (fun ex σ1 => some (Sum.inl ex, σ1)) fun _ σ1 => obx (f_X6_requireIndex c σ1) (fun ex σ1 => some (Sum.inl ex, σ1)) fun _ σ1 => gd (kC 0 = (0, 6)) <| obx (f_X6_requireDefined 0 a σ1) (fun ex σ5 => some (Sum.inl ex, σ5)) fun q6 σ5 => obx (f_X6_requireDefined 0 b σ5) (fun ex σ5 => some (Sum.inl ex, σ5)) fun q7 σ7 => obx (f_X6_requireDefined 0 c σ7) (fun ex σ5 => some (Sum.inl ex, σ5)) fun q8 σ8 => KX q6 q7 q8 σ8) ρ) (obn (f_X7_noThree 0 a b c (sI τ 0 0 0)) fun x4 σ3 => if x4 = 0 then KY σ3 else some ((0 : Int32), σ3)) tl) := by
  have dm : ∀ {i : Nat}, df (σ.1 1 1) (nI i) → df ((sI τ 0 0 0).1 2 0) (nI i) := fun t => by rw [z_2, ← h.mask]; exact t
  have nm : ∀ {i : Nat}, ¬ df (σ.1 1 1) (nI i) → ¬ df ((sI τ 0 0 0).1 2 0) (nI i) := fun t => by rw [z_2, ← h.mask]; exact t
  rcases ix_cases a with hb | ⟨i, hi, rfl⟩
  · rw [e_ix_bad hb, obX_l, n3_b1 z00 hb, obn_s, if_neg (by decide), sz0]
    exact go_thr h w1 (by decide)
  rw [e_ix_ok hi, obX_r]
  rcases ix_cases b with hb | ⟨j, hj, rfl⟩
  · rw [e_ix_bad hb, obX_l, n3_b2 z00 hi hb, obn_s, if_neg (by decide), sz0]
    exact go_thr h w1 (by decide)
  rw [e_ix_ok hj, obX_r]
  rcases ix_cases c with hb | ⟨k, hk', rfl⟩
  · rw [e_ix_bad hb, obX_l, n3_b3 z00 hi hj hb, obn_s, if_neg (by decide), sz0]
    exact go_thr h w1 (by decide)
  rw [e_ix_ok hk', obX_r, gd_p C0.1]
  by_cases hd : df (σ.1 1 1) (nI i)
  · rw [e_df_ok hi hd, obX_r]
    by_cases hd2 : df (σ.1 1 1) (nI j)
    · rw [e_df_ok hj hd2, obX_r]
      by_cases hd3 : df (σ.1 1 1) (nI k)
      · rw [e_df_ok hk' hd3, obX_r]
        obtain ⟨x, τ1, e, rfl, h1, h2, h3, h4⟩ := n3_ok (τ0 := sI τ 0 0 0) z00 hi hj hk' (dm hd) (dm hd2) (dm hd3)
        rw [e, obn_s, if_pos rfl]
        rw [dv_z] at h1 h2 h3
        exact hk i j k τ1 hi hj hk' hd hd2 hd3 h1 h2 h3 h4
      · rw [e_df_no hk' hd3, obX_l, n3_n3 z00 hi hj hk' (dm hd) (dm hd2) (nm hd3), obn_s, if_neg (by decide), sz0]
        exact go_thr h w2 (by decide)
    · rw [e_df_no hj hd2, obX_l, n3_n2 z00 hi hj hk' (dm hd) (nm hd2), obn_s, if_neg (by decide), sz0]
      exact go_thr h w2 (by decide)
  · rw [e_df_no hi hd, obX_l, n3_n1 z00 hi hj hk' (nm hd), obn_s, if_neg (by decide), sz0]
    exact go_thr h w2 (by decide)
theorem mp_off {i : Nat} (hi : i < 8) : mp i + 1 < 165 ∧ mp i < 165 := by unfold mp; omega
theorem mp_A {i : Nat} (hi : i < 8) : mp i ≠ 165 + 2 ∧ mp i ≠ 165 + 4 := by unfold mp; omega
theorem atC_165 : ∀ x, atC 165 256 x → 165 ≤ x := fun x t => by
  rcases t with t | t
  · unfold atP at t; omega
  · unfold at2 at t; omega
theorem o47 : off3 47 ∧ off3 48 ∧ off3 49 := ⟨⟨R47.2, by decide, by decide, by decide⟩, ⟨R48.2, by decide, by decide, by decide⟩, ⟨R49.2, by decide, by decide, by decide⟩⟩
def atR : Nat → Prop := fun x => 13 ≤ x
theorem go_reason {a1 a2 a3 : Int32} (h : Rel σ τ) : Go (wst (f_L_reason a1 a2 a3 σ ρ) (f_X7_reason 0 a1 a2 a3 τ) Int32.toInt64) := by
  unfold f_L_reason f_X6_reason f_X7_reason
  simp only [bnd_s]
  rw [gd_p R0]
  refine go_three h (KX := fun q12 q16 q20 σ19 => gd (kC q16 = (0, 2)) <| obn (f_X2_staysInSquare q16 σ19) fun x25 σ24 => if x25 = 0 then (some (Sum.inr (1 : Int32), σ24)) else (gd (kC q20 = (0, 2)) <| obn (f_X2_staysInSquare q20 σ24) fun x29 σ28 => if x29 = 0 then (some (Sum.inr (2 : Int32), σ28)) else (gd (kC (rC 0 2) = (0, 0)) <| obn (f_X0_composeModels (rC 0 2) (rC 0 4) q12 q16 q20 σ28) fun x33 σ32 => if x33 = 0 then (some (Sum.inr (3 : Int32), σ32)) else (some (Sum.inr (0 : Int32), σ32))))) (fun i j k τ1 hi hj hk hd hd2 hd3 e1 e2 e3 hF => ?_)
  obtain ⟨m1, f1⟩ := h.m hi hd
  obtain ⟨m2, f2⟩ := h.m hj hd2
  obtain ⟨m3, f3⟩ := h.m hk hd3
  rw [R49.1, R47.1, R48.1, R50.1]
  have hY := r_compositionOf (σ := τ1) (to := 50) o47.2.2 o47.1 o47.2.1 R50.2 (by rw [e1]; exact f1) (by rw [e2]; exact f2) (by rw [e3]; exact f3)
  rw [e1, e2, e3] at hY
  have hY2 : Tr (f_X7_compositionOf 0 49 47 48 50 τ1) (fun b τ2 => b = rsn (dv τ 2 i) (dv τ 2 j) (dv τ 2 k) ∧ τ2.1 0 0 = 0 ∧ Fr (fun _ => True) (sI τ 0 0 0) τ2) := hY.mono (fun b τ2 t => ⟨t.1, by rw [t.2.2.1, hF.1, z00], (hF.weak (fun _ _ => trivial)).tr (t.2.2.weak (fun _ _ => trivial))⟩)
  have fin : ∀ {X : Option ((Nat ⊕ Int32) × St)}, Tr X (fun r σ1 => r = .inr (rsn (dv τ 2 i) (dv τ 2 j) (dv τ 2 k)) ∧ Fr (fun x => 165 ≤ x) σ σ1) → Go (wst (wrp [1, 2] Int32.toInt64 X ρ) (obn (f_X7_compositionOf 0 49 47 48 50 τ1) fun x7 σ6 => some (x7, σ6)) Int32.toInt64) :=
    fun hX => go_ok hX (Tr.obn (hY2.mono (fun b τ2 t => Tr.ret t))) (fun σ1 τ2 t t2 => h.q (t.fg (fun _ t => t)) (fun p j hp => by rw [t2.1, sI_1, if_neg hp]))
  refine fin ?_
  rw [gd_p (M_mp hj).1, e_staysInSquare (M_mp hj), obn_s, m2]
  unfold rsn
  by_cases s1 : sq (dv τ 2 j)
  · rw [bI_1 s1, if_neg (by decide), if_pos s1, gd_p (M_mp hk).1, e_staysInSquare (M_mp hk), obn_s, m3]
    by_cases s2 : sq (dv τ 2 k)
    · rw [bI_1 s2, if_neg (by decide), if_pos s2, C0.2.2.2.1, C0.2.2.2.2.2, gd_p isA_165.1]
      refine Tr.obn ((e_composeModels isA_165 M256 (M_mp hi) (M_mp hj) (M_mp hk) (mp_A hi).1 (mp_A hi).2 (mp_A hj).1 (mp_A hj).2 (mp_A hk).1 (mp_A hk).2).mono (fun r σ1 h1 => ?_))
      obtain ⟨h1, hF1⟩ := h1
      rw [m1, m2, m3] at h1
      unfold compV at h1
      rw [if_pos ⟨s1, s2⟩] at h1
      rcases h1 with ⟨v, hv, rfl, -⟩ | ⟨hv, rfl⟩
      · rw [if_neg (by decide), hv]; exact Tr.ret ⟨rfl, hF1.weak atC_165⟩
      · rw [if_pos rfl, hv]; exact Tr.ret ⟨rfl, hF1.weak atC_165⟩
    · rw [bI_0 s2, if_pos rfl, if_neg s2]; exact Tr.ret ⟨rfl, Fr.rf⟩
  · rw [bI_0 s1, if_pos rfl, if_neg s1]; exact Tr.ret ⟨rfl, Fr.rf⟩
/-! checksums -/
def ckV (p : V) (s : Int64) : Nat → Int64
  | 0 => s
  | n + 1 => 31 * ckV p s n + p n
def csV (m : Int32) (f : Nat → V) (s : Int64) : Nat → Int64
  | 0 => s
  | n + 1 => if df m (nI n) then ckV (f n) (csV m f s n) 12 else csV m f s n
theorem e_addTo {q : Nat} {s : Int64} (hq : isM q) : f_X2_addToChecksum q s σ = some (ckV (val σ q) s 12, σ) := by
  have key : ∀ (K : Nat → Int64 → St → Option (Int64 × St)) n k, k ≤ 10 → 10 < n + k → f_X2_addToChecksum_L5 K n q (ckV (val σ q) s k) (nI k) σ = K q (ckV (val σ q) s 10) σ := by
    intro K n
    induction n with
    | zero => intro k h1 h2; omega
    | succ n ih =>
      intro k h1 h2
      rw [f_X2_addToChecksum_L5]
      by_cases hk : k = 10
      · subst hk; rw [if_pos (by decide)]
      · have hk : k < 10 := by omega
        have g : ¬ (nI k < 0 ∨ 10 ≤ (nI k).toNatClampNeg) := ge_pos (N := 10) (by decide) hk
        rw [if_neg (by rw [ten_le (by omega)]; omega), gd_p hq.1, hq.2.1, hq.2.2, gd_p ⟨rfl, g⟩, bnd_s, bnd_s, nI_clamp (by omega), val_c hk, nI_1]
        exact ih (k + 1) (by omega) (by omega)
  unfold f_X2_addToChecksum
  refine (key _ FU 0 (by decide) (by decide)).trans ?_
  rw [gd_p hq.1, bnd_s]
  rfl
theorem csV_congr {m : Int32} {f g : Nat → V} {s : Int64} : ∀ {n : Nat}, (∀ i, i < n → df m (nI i) → f i = g i) → csV m f s n = csV m g s n
  | 0, _ => rfl
  | n + 1, h => by
    rw [csV, csV, csV_congr (fun i hi => h i (by omega))]
    by_cases hd : df m (nI n)
    · rw [if_pos hd, if_pos hd, h n (by omega) hd]
    · rw [if_neg hd, if_neg hd]
theorem e_checksum : f_X6_checksum 0 σ = some (csV (σ.1 1 1) (fun i => val σ (mp i)) (σ.1 1 1).toInt64 8, σ) := by
  have key : ∀ n k, k ≤ 8 → 8 < n + k → f_X6_checksum_L11 n 0 (csV (σ.1 1 1) (fun i => val σ (mp i)) (σ.1 1 1).toInt64 k) (nI k) σ = some (csV (σ.1 1 1) (fun i => val σ (mp i)) (σ.1 1 1).toInt64 8, σ) := by
    intro n
    induction n with
    | zero => intro k h1 h2; omega
    | succ n ih =>
      intro k h1 h2
      rw [f_X6_checksum_L11]
      by_cases hk : k = 8
      · subst hk; rw [if_pos (by decide)]
      · have hk : k < 8 := by omega
        have g : ¬ (nI k < 0 ∨ 8 ≤ (nI k).toNatClampNeg) := ge_pos (N := 8) (by decide) hk
        have i := ih (k + 1) (by omega) (by omega)
        rw [csV] at i
        rw [if_neg (by rw [eight_le (by omega)]; omega), gd_p C0.1, C0.2.1, gd_p C1.1, e_has isS_1 hk, obn_s]
        by_cases hd : df (σ.1 1 1) (nI k)
        · rw [if_pos hd] at i
          rw [bI_1 hd, if_neg (by decide), C1.2.1, C1.2.2, gd_p ⟨rfl, g⟩, nI_clamp (by omega), show rC 2 k = mp k from isS_1.ri hk, gd_p (M_mp hk).1, e_addTo (M_mp hk), obn_s, bnd_s, nI_1]
          exact i
        · rw [if_neg hd] at i
          rw [bI_0 hd, if_pos rfl, bnd_s, nI_1]
          exact i
  unfold f_X6_checksum
  rw [gd_p C0.1, C0.2.1, gd_p C1.1, bnd_s]
  exact key FU 0 (by decide) (by decide)
theorem r_checksum : f_X7_checksum 0 τ = some (csV (τ.1 2 0) (fun i => dv τ 2 i) (τ.1 2 0).toInt64 8, sI τ 0 0 0) := by
  have inner : ∀ (K : Nat → Int64 → Int32 → St → Option (Int64 × St)) (i : Nat) (s : Int64), i < 8 → ∀ n k, k ≤ 12 → 12 < n + k → f_X7_checksum_L24 K n 0 (if df (τ.1 2 0) (nI i) then ckV (dv τ 2 i) s k else s) (nI i) (nI k) (sI τ 0 0 0) = K 0 (if df (τ.1 2 0) (nI i) then ckV (dv τ 2 i) s 12 else s) (nI i) (sI τ 0 0 0) := by
    intro K i s hi n
    induction n with
    | zero => intro k h1 h2; omega
    | succ n ih =>
      intro k h1 h2
      rw [f_X7_checksum_L24]
      by_cases hk : k = 12
      · subst hk; rw [if_pos (by decide)]
      · have hk : k < 12 := by omega
        have i' := ih (k + 1) (by omega) (by omega)
        rw [if_neg (by rw [twelve_le (by omega)]; omega), gd_p R0, R2.1, r_isDefined R2.2, obn_s, z_2]
        by_cases hd : df (τ.1 2 0) (nI i)
        · rw [if_pos hd, if_pos hd] at i' ⊢
          rw [bI_1 hd, if_neg (by decide), d_ix, gd_p (d_gd R2.2 (by omega)), bnd_s, bnd_s, nI_clamp (by omega), nI_1, z_2]
          rw [ckV] at i'
          have e : (τ.1 2 (1 + 12 * i + k)).toInt64 = dv τ 2 i k := by unfold dv; rw [if_pos hk]
          rw [e]
          exact i'
        · rw [if_neg hd, if_neg hd, bI_0 hd, if_pos rfl]
  have key : ∀ n k, k ≤ 8 → 8 < n + k → f_X7_checksum_L15 n 0 (csV (τ.1 2 0) (fun i => dv τ 2 i) (τ.1 2 0).toInt64 k) (nI k) (sI τ 0 0 0) = some (csV (τ.1 2 0) (fun i => dv τ 2 i) (τ.1 2 0).toInt64 8, sI τ 0 0 0) := by
    intro n
    induction n with
    | zero => intro k h1 h2; omega
    | succ n ih =>
      intro k h1 h2
      rw [f_X7_checksum_L15]
      by_cases hk : k = 8
      · subst hk; rw [if_pos (by decide)]
      · have hk : k < 8 := by omega
        rw [if_neg (by rw [eight_le (by omega)]; omega)]
        have i' := inner (fun (q16 : Nat) (x17 : Int64) (x18 : Int32) (σ15 : St) => bnd (x18 + (1 : Int32)) fun x27 => f_X7_checksum_L15 n q16 x17 x27 σ15) k (csV (τ.1 2 0) (fun i => dv τ 2 i) (τ.1 2 0).toInt64 k) hk FU 0 (by decide) (by decide)
        have e0 : (if df (τ.1 2 0) (nI k) then ckV (dv τ 2 k) (csV (τ.1 2 0) (fun i => dv τ 2 i) (τ.1 2 0).toInt64 k) 0 else csV (τ.1 2 0) (fun i => dv τ 2 i) (τ.1 2 0).toInt64 k) = csV (τ.1 2 0) (fun i => dv τ 2 i) (τ.1 2 0).toInt64 k := by split <;> rfl
        rw [e0] at i'
        refine i'.trans ?_
        rw [bnd_s, nI_1]
        exact ih (k + 1) (by omega) (by omega)
  unfold f_X7_checksum
  rw [gd_p R0, bnd_s, R2.1, gd_p (d_gd0 R2.2), bnd_s, n00, z_2]
  exact key FU 0 (by decide) (by decide)
theorem go_checksum (h : Rel σ τ) : Go (dst (f_X6_checksum 0 σ) (f_X7_checksum 0 τ) ρ) := by
  rw [e_checksum, r_checksum]
  refine go_dst (P := fun a s => a = csV (σ.1 1 1) (fun i => val σ (mp i)) (σ.1 1 1).toInt64 8 ∧ s = σ) (Q := fun a t => a = csV (τ.1 2 0) (fun i => dv τ 2 i) (τ.1 2 0).toInt64 8 ∧ t = sI τ 0 0 0) (Tr.ret ⟨rfl, rfl⟩) (Tr.ret ⟨rfl, rfl⟩) ?_
  rintro a σ1 b τ1 ⟨rfl, rfl⟩ ⟨rfl, rfl⟩
  refine ⟨?_, h.z⟩
  rw [h.mask]
  exact csV_congr (fun i hi hd => (h.m hi (by rw [h.mask]; exact hd)).1)
end SETTLE
