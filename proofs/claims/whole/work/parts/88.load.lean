/-! LOADING -/
section LOAD
variable {σ σ' τ τ' ρ : St} {c : Nat → Int32} {len last : Nat} {S E : Nat → Nat} {i : Nat}
theorem sim_loop (hE : TkE c len last S E) : ∀ (n k : Nat) (σ τ : St) (i : Nat), k ≤ i → last + 2 ≤ n + i → GS c len last S E 0 σ τ i →
    ∃ (x : Int32) (σ' τ' : St), f_X4_readSetup_L55 (fun (q19 : Nat) (σ18 : St) => gd (kC q19 = (0, 4)) <| obn (f_X4_fail q19 (-2 : Int32) σ18) fun x47 σ46 => gd (x47 = 0 ∨ x47 = 1) <| some (x47, σ46)) n 177 (nI k) σ = some (x, σ') ∧ (∀ K : Nat → St → Option (Int32 × St), f_X7_load_L109 K n 0 τ = K 0 τ') ∧ Cs σ σ' ∧ Rs τ τ' ∧ ((x = 1 ∧ ∃ i', GS c len last S E 0 σ' τ' i') ∨ (x = 0 ∧ ErrS σ' τ')) := by
  obtain ⟨k1, k2, k3, k4, k5, k6, k7, k8, k9, k10, k11, k12⟩ := CP
  intro n
  induction n with
  | zero => intro k σ τ i h1 h2 h3; have := h3.1.2.2.2.1; omega
  | succ n ih =>
    intro k σ τ i h1 h2 h3
    have hi := h3.1.2.2.2.1
    have le := hE.le hi
    have hfirst : σ.1 178 8 = c (S i) := h3.1.2.2.2.2.2.2.2
    have done : i = last → ∀ X, X = some ((1 : Int32), σ) → ∃ (x : Int32) (σ' τ' : St), X = some (x, σ') ∧ (∀ K : Nat → St → Option (Int32 × St), f_X7_load_L109 K (n + 1) 0 τ = K 0 τ') ∧ Cs σ σ' ∧ Rs τ τ' ∧ ((x = 1 ∧ ∃ i', GS c len last S E 0 σ' τ' i') ∨ (x = 0 ∧ ErrS σ' τ')) := by
      intro hl X hX
      refine ⟨1, σ, sI τ 0 4 (nI (S i)), hX, fun K => ?_, (Cf.rf (b := 216)).cs, (Rf_I (a := 0) (d := 0) (e := 0) (Or.inl rfl)).rs, Or.inl ⟨rfl, i, h3.r4 hE⟩⟩
      rw [f_X7_load_L109, gd_p R0, r_isGood h3.2.1.2.1, obn_s, if_neg (show ¬ (1 : Int32) = 0 by decide), r_next hE hi h3.2.1, obn_s, if_pos (by rw [hl]; exact hE.end')]
    rw [f_X4_readSetup_L55]
    by_cases hk : 700 ≤ k
    · rw [if_pos (show (700 : Int32) ≤ nI k from (nI_leI (a := 700) (by decide) (by omega)).mpr hk)]
      exact done (by omega) _ rfl
    · rw [if_neg (show ¬ (700 : Int32) ≤ nI k from fun t => hk ((nI_leI (a := 700) (by decide) (by omega)).mp t)), gd_p k1, k2, gd_p C178.1, hfirst]
      by_cases hl : i = last
      · rw [if_pos ((hE.neg hi).mpr hl)]
        exact done hl _ rfl
      · have hil : i < last := by omega
        have hn1 : ¬ c (S i) = -1 := fun t => hl ((hE.neg hi).mp (by rw [t]; decide))
        rw [if_neg (fun t => hl ((hE.neg hi).mp t)), k3, k5]
        obtain ⟨x, σ1, τ1, a1, a2, a3, a4, a5⟩ := sim_stmt hE (h3.r4 hE) hil
        have rs1 : Rs τ τ1 := (Rf_I (a := 0) (d := 0) (e := 0) (Or.inl rfl)).rs.tr a4
        have ref : ∀ K : Nat → St → Option (Int32 × St), f_X7_load_L109 K (n + 1) 0 τ = f_X7_load_L109 K n 0 τ1 := fun K => by
          rw [f_X7_load_L109, gd_p R0, r_isGood h3.2.1.2.1, obn_s, if_neg (show ¬ (1 : Int32) = 0 by decide), r_next hE hi h3.2.1, obn_s, if_neg hn1, a2, obn_s]
        have cls := a1 (fun σ42 => bnd (nI k + (1 : Int32)) fun x44 => f_X4_readSetup_L55 (fun (q19 : Nat) (σ18 : St) => gd (kC q19 = (0, 4)) <| obn (f_X4_fail q19 (-2 : Int32) σ18) fun x47 σ46 => gd (x47 = 0 ∨ x47 = 1) <| some (x47, σ46)) n 177 x44 σ42)
        rw [cls]
        rcases a5 with ⟨rfl, i', hi', g⟩ | ⟨rfl, er⟩
        · obtain ⟨x2, σ2, τ2, b1, b2, b3, b4, b5⟩ := ih (k + 1) σ1 τ1 i' (by omega) (by omega) g
          rw [if_neg (show ¬ (1 : Int32) = 0 by decide), bnd_s, nI_1]
          exact ⟨x2, σ2, τ2, b1, fun K => (ref K).trans (b2 K), a3.tr b3, rs1.tr b4, b5⟩
        · rw [if_pos (show (0 : Int32) = 0 from rfl)]
          refine ⟨0, σ1, τ1, rfl, fun K => ?_, a3, rs1, Or.inr ⟨rfl, er⟩⟩
          obtain ⟨n', rfl⟩ : ∃ n', n = n' + 1 := ⟨n - 1, by omega⟩
          rw [ref K, f_X7_load_L109, gd_p R0, r_isBad er.2.1, obn_s, if_pos (show (0 : Int32) = 0 from rfl)]
/-- what reading leaves alone in the class -/
def Ct (σ σ' : St) : Prop := (∀ p j, p ≠ 180 → p ≠ 181 → p ≠ 182 → ¬ (p = 177 ∧ j = 7) → ¬ (p = 178 ∧ 4 ≤ j ∧ j ≤ 8) → σ'.1 p j = σ.1 p j) ∧ ∀ p, p < 182 → σ'.2 p = σ.2 p
theorem Ct.tr {σ1 σ2 : St} (h : Ct σ σ1) (h' : Ct σ1 σ2) : Ct σ σ2 := ⟨fun p j h1 h2 h3 h4 h5 => (h'.1 p j h1 h2 h3 h4 h5).trans (h.1 p j h1 h2 h3 h4 h5), fun p h1 => (h'.2 p h1).trans (h.2 p h1)⟩
theorem Cs.ct (h : Cs σ σ') : Ct σ σ' := ⟨fun p j _ _ h3 h4 h5 => h.1 p j h3 h4 (by omega), h.2⟩
theorem sim_setup {c : Nat → Int32} {len : Nat} (hl : len ≤ 700) (hc : ∀ k, len ≤ k → c k = -1) (hb : ∀ k, k < len → ∃ b, b < 256 ∧ c k = nI b) (h3 : ∀ k, k < len → σ.1 179 k = c k) (ht : ∀ k, k < len → τ.1 1 k = c k) (t3 : τ.1 0 3 = nI len) (t4 : τ.1 0 4 = 0) (t5 : τ.1 0 5 = 0) (t6 : τ.1 0 6 = -1) (t23 : τ.1 0 23 = 0) (td : ∀ k, k < 97 → τ.1 3 k = 0) :
    ∃ (x : Int32) (σ' τ' : St), f_X4_readSetup 177 (nI len) σ = some (x, σ') ∧ (∀ K : Nat → St → Option (Int32 × St), (obn (f_X7_takeWord 0 5 τ) fun x35 σ34 => if x35 = 0 then (obn (f_X7_report 0 (-2 : Int32) (σ34.1 0 4) σ34) fun _ σ75 => gd (kR 0 = (0, 7)) <| obn (f_X7_expect 0 (59 : Int32) σ75) fun _ σ41 => f_X7_load_L109 K FU 0 σ41) else (gd (kR 0 = (0, 7)) <| obn (f_X7_expect 0 (59 : Int32) σ34) fun _ σ41 => f_X7_load_L109 K FU 0 σ41)) = K 0 τ') ∧ Ct σ σ' ∧ Rs τ τ' ∧ ((x = 1 ∧ τ'.1 0 5 = 0 ∧ τ'.1 0 6 = -1 ∧ SR (sn σ' 182) (sd τ' 3)) ∨ (x = 0 ∧ ErrS σ' τ')) := by
  obtain ⟨k1, k2, k3, k4, k5, k6, k7, k8, k9, k10, k11, k12⟩ := CP
  obtain ⟨last, S, E, σ1, a1, hE, hS0, a2, a3, a4⟩ := e_split (σ := sI σ 182 1 0) (c := c) hl hc hb (fun k hk => by rw [sI_1, if_neg (fun t => absurd t.1 (by decide))]; exact h3 k hk)
  have ct1 : Ct σ σ1 := ⟨fun p j h1 h2 h3 _ h5 => by rw [a3 p j h1 h2 h5, sI_1, if_neg (fun t => h3 t.1)], fun p _ => by rw [a4]; rfl⟩
  have hmask : σ1.1 182 1 = 0 := by rw [a3 182 1 (by decide) (by decide) (by decide), sI_1, if_pos ⟨rfl, rfl⟩]
  have hsr : SR (sn σ1 182) (sd τ 3) := by
    refine ⟨?_, ⟨0, by decide, td 0 (by decide)⟩, fun j hj hd => ?_⟩
    · show σ1.1 182 1 = τ.1 3 0
      rw [hmask, td 0 (by decide)]
    · have hd : df (τ.1 3 0) (nI j) := hd
      rw [td 0 (by decide)] at hd
      have := (df_bit 0 (by decide) j hj).mp hd
      rw [Nat.zero_testBit] at this
      cases this
  have g : GS c len last S E 0 σ1 τ 0 := ⟨a2, ⟨⟨ht, t3, t6⟩, t5, 0, t4, hS0⟩, t23, hsr⟩
  have hi := g.1.2.2.2.1
  have tw : f_X7_takeWord 0 5 τ = if isW c S E 0 0 then some (1, sI τ 0 4 (nI (E 0))) else some (0, sI τ 0 4 (nI (S 0))) := by
    rw [r_takeWord hE hi g.2.1 (by decide)]
    unfold isW
    rw [str_5 0 (by decide)]
  have e5 : (sI τ 0 4 (nI (S 0))).1 0 5 = 0 := by rw [sI_1, if_neg (by decide)]; exact t5
  unfold f_X4_readSetup
  rw [gd_p k1, k2, k3, gd_p isS_182.k, bnd_s, gd_p C178.1, a1, obn_s, e_isWord hE g.1 (by decide), obn_s]
  have bad : ∀ σ2 τ2, ErrS σ2 τ2 → ∀ K : Nat → St → Option (Int32 × St), f_X7_load_L109 K FU 0 τ2 = K 0 τ2 := fun σ2 τ2 er K => by
    rw [show FU = 4095 + 1 from rfl, f_X7_load_L109, gd_p R0, r_isBad er.2.1, obn_s, if_pos (show (0 : Int32) = 0 from rfl)]
  by_cases hw : isW c S E 0 0
  · have hil := (hw.lt hE hi (by decide)).1
    obtain ⟨σ2, b1, b2, b3⟩ := g.adv hE hil
    obtain ⟨x3, σ3, τ3, d1, d2, d3, d4, d5, d6, d7⟩ := sim_take hE b2 (s := 59) (by decide)
    have ct3 : Ct σ σ3 := (ct1.tr (b3.cf (b := 216)).cs.ct).tr (d3 216).cs.ct
    have rs3 : Rs τ τ3 := (Rf_I (a := 0) (d := 0) (e := 0) (Or.inl rfl)).rs.tr (d4 0 0 0).rs
    have ref : ∀ K : Nat → St → Option (Int32 × St), (obn (f_X7_takeWord 0 5 τ) fun x35 σ34 => if x35 = 0 then (obn (f_X7_report 0 (-2 : Int32) (σ34.1 0 4) σ34) fun _ σ75 => gd (kR 0 = (0, 7)) <| obn (f_X7_expect 0 (59 : Int32) σ75) fun _ σ41 => f_X7_load_L109 K FU 0 σ41) else (gd (kR 0 = (0, 7)) <| obn (f_X7_expect 0 (59 : Int32) σ34) fun _ σ41 => f_X7_load_L109 K FU 0 σ41)) = f_X7_load_L109 K FU 0 τ3 := fun K => by
      rw [tw, if_pos hw, obn_s, if_neg (show ¬ (1 : Int32) = 0 by decide), gd_p R0, d2, obn_s]
    rw [bI_1 hw, if_neg (show ¬ (1 : Int32) = 0 by decide), b1, obn_s, d1, obn_s]
    rcases d7 with ⟨rfl, hl1, -, g3⟩ | ⟨rfl, er⟩
    · have le := hE.le g3.1.2.2.2.1
      obtain ⟨x4, σ4, τ4, q1, q2, q3, q4, q5⟩ := sim_loop hE FU 0 σ3 τ3 _ (Nat.zero_le _) (by show last + 2 ≤ 4096 + _; omega) g3
      rw [if_neg (show ¬ (1 : Int32) = 0 by decide)]
      refine ⟨x4, σ4, τ4, q1, fun K => (ref K).trans (q2 K), ct3.tr q3.ct, rs3.tr q4, ?_⟩
      rcases q5 with ⟨hx, i', g4⟩ | q
      · exact Or.inl ⟨hx, g4.2.1.2.1, g4.2.1.1.2.2, g4.2.2.2⟩
      · exact Or.inr q
    · rw [if_pos (show (0 : Int32) = 0 from rfl)]
      exact ⟨0, σ3, τ3, rfl, fun K => (ref K).trans (bad _ _ er K), ct3, rs3, Or.inr ⟨rfl, er⟩⟩
  · have er : ErrS (sI σ1 177 7 (-2)) (sI (sI (sI τ 0 4 (nI (S 0))) 0 5 (-2)) 0 6 (nI (S 0))) := by
      refine ⟨?_, ?_, ?_⟩
      · rw [sI_1, if_pos ⟨rfl, rfl⟩, sI_1, if_neg (by decide), sI_1, if_pos ⟨rfl, rfl⟩]
      · rw [sI_1, if_neg (by decide), sI_1, if_pos ⟨rfl, rfl⟩]; decide
      · rw [sI_1, if_neg (by decide), sI_1, if_pos ⟨rfl, rfl⟩]; exact g.1.2.2.2.2.2.1
    rw [bI_0 hw, if_pos (show (0 : Int32) = 0 from rfl), e_fail, obn_s, gd_p (Or.inl rfl)]
    refine ⟨0, _, _, rfl, fun K => ?_, ct1.tr (Cf_e (b := 216)).cs.ct, (Rf_3 (a := 0) (d := 0) (e := 0)).rs, Or.inr ⟨rfl, er⟩⟩
    rw [tw, if_neg hw, obn_s, if_pos (show (0 : Int32) = 0 from rfl), show (sI τ 0 4 (nI (S 0))).1 0 4 = nI (S 0) from by rw [sI_1, if_pos ⟨rfl, rfl⟩], r_report e5, obn_s, gd_p R0, r_expectBad er.2.1, obn_s]
    exact bad _ _ er K
theorem r_zero : ∃ τ', (∀ K : Nat → St → Option (Int32 × St), f_X7_load_L64 K FU 0 0 τ = K 0 τ') ∧ (∀ k, k < 97 → τ'.1 3 k = 0) ∧ Fg (fun p => p = 3) (fun _ => False) τ τ' := by
  have key : ∀ m k (τ1 : St), k ≤ 97 → 97 < m + k → Fg (fun p => p = 3) (fun _ => False) τ τ1 → (∀ j, j < k → τ1.1 3 j = 0) → ∃ τ', (∀ K : Nat → St → Option (Int32 × St), f_X7_load_L64 K m 0 (nI k) τ1 = K 0 τ') ∧ (∀ k, k < 97 → τ'.1 3 k = 0) ∧ Fg (fun p => p = 3) (fun _ => False) τ τ' := by
    intro m
    induction m with
    | zero => intro k τ1 h1 h2; omega
    | succ m ih =>
      intro k τ1 h1 h2 hF h5
      by_cases hk : k = 97
      · subst hk
        exact ⟨τ1, fun K => by rw [f_X7_load_L64, if_pos (by decide)], h5, hF⟩
      · have hk : k < 97 := by omega
        obtain ⟨τ', q1, q2, q3⟩ := ih (k + 1) (sI τ1 3 k 0) (by omega) (by omega) (hF.tr (Fg_I rfl)) (fun j hj => by
          rw [sI_1]
          by_cases hjk : j = k
          · rw [if_pos ⟨rfl, hjk⟩]
          · rw [if_neg (fun t => hjk t.2)]; exact h5 j (by omega))
        refine ⟨τ', fun K => ?_, q2, q3⟩
        rw [f_X7_load_L64, if_neg (show ¬ (97 : Int32) ≤ nI k from fun t => by have := (n97_le (by omega)).mp t; omega), gd_p R0, R3.1, gd_p (d_gd R3.2 hk), bnd_s, bnd_s, nI_clamp (by omega), nI_1]
        exact q1 K
  exact key FU 0 τ (by decide) (by decide) Fg.rf (fun j hj => absurd hj (by omega))
/-! how many models are there -/
def bcI (a0 : Int32) : Int32 := let x1 := (a0 - ((a0.toUInt32 >>> ((1 : Int32).toUInt32 &&& Int32.toUInt32 31)).toInt32 &&& (1431655765 : Int32))); let x2 := ((x1 &&& (858993459 : Int32)) + ((x1.toUInt32 >>> ((2 : Int32).toUInt32 &&& Int32.toUInt32 31)).toInt32 &&& (858993459 : Int32))); let x3 := ((x2 + (x2.toUInt32 >>> ((4 : Int32).toUInt32 &&& Int32.toUInt32 31)).toInt32) &&& (252645135 : Int32)); let x4 := (x3 + (x3.toUInt32 >>> ((8 : Int32).toUInt32 &&& Int32.toUInt32 31)).toInt32); let x5 := (x4 + (x4.toUInt32 >>> ((16 : Int32).toUInt32 &&& Int32.toUInt32 31)).toInt32); x5 &&& (63 : Int32)
def cnI (m : Int32) : Nat → Int32
  | 0 => 0
  | n + 1 => cnI m n + ((m >>> (nI n &&& 31)) &&& 1)
theorem bc_cn : ∀ k, k < 256 → bcI (nI k) = cnI (nI k) 8 := by decide +kernel
theorem e_count {M : Nat} (hM : isS M) : f_X3_count M σ = some (bcI (σ.1 M 1), σ) := by
  unfold f_X3_count
  rw [gd_p hM.k]
  rfl
theorem r_count : f_X7_load_L170 FU 0 0 0 τ = some (cnI (τ.1 2 0) 8, τ) := by
  have key : ∀ n k, k ≤ 8 → 8 < n + k → f_X7_load_L170 n 0 (cnI (τ.1 2 0) k) (nI k) τ = some (cnI (τ.1 2 0) 8, τ) := by
    intro n
    induction n with
    | zero => intro k h1 h2; omega
    | succ n ih =>
      intro k h1 h2
      rw [f_X7_load_L170]
      by_cases hk : k = 8
      · subst hk; rw [if_pos (by decide)]
      · rw [if_neg (by rw [eight_le (by omega)]; omega), gd_p R0, R2.1, gd_p (d_gd0 R2.2), bnd_s, bnd_s, n00, nI_1]
        exact ih (k + 1) (by omega) (by omega)
  exact key FU 0 (by decide) (by decide)
theorem go_load {a1 : Int32} (h : Rel σ τ) : Go (wst (f_L_load a1 σ ρ) (f_X7_load 0 a1 τ) Int32.toInt64) := by
  obtain ⟨hS, ⟨n, d, h1, h2, h3, h4, h5, h6⟩, ⟨⟨f, f1, f2, f3⟩, h7⟩, h8⟩ := h
  have h : Rel σ τ := ⟨hS, ⟨n, d, h1, h2, h3, h4, h5, h6⟩, ⟨⟨f, f1, f2, f3⟩, h7⟩, h8⟩
  have z2 : (sI τ 0 0 0).1 0 2 = nI f := by rw [sI_1, if_neg (by decide)]; exact f3
  have w31 : ∀ s : St, wrp [3] Int32.toInt64 (some (Sum.inl 3, s)) ρ = some (1, s, ρ) := fun _ => rfl
  unfold f_L_load f_X6_load f_X7_load f_X7_in
  simp only [bnd_s]
  rw [gd_p R0, z2]
  by_cases hneg : a1 < 0
  · rw [if_pos hneg, if_pos hneg, obn_s, if_pos (show (0 : Int32) = 0 from rfl), gd_p R0, r_fails1 z00 (by decide), obn_s, if_neg (show ¬ (1 : Int32) = 0 by decide), sz0]
    exact go_thr h w31 (by decide)
  obtain ⟨len, hlen, rfl⟩ := nI_of hneg
  rw [if_neg hneg, if_neg hneg, gd_p C0.1, C0.2.2.2.2.1, gd_p CP.1, CP.2.1, gd_p C178.1, f2]
  by_cases hle : len ≤ f
  · have hnot : ¬ nI f < nI len := fun t => by have := (nI_ltI (by omega) hlen).mp t; omega
    rw [if_pos ((nI_leI hlen (by omega)).mpr hle), if_neg hnot, obn_s, if_neg (show ¬ (1 : Int32) = 0 by decide), gd_p R0, r_fails0 z00, obn_s, if_pos (show (0 : Int32) = 0 from rfl), gd_p R0]
    generalize eτ0 : sI (sI (sI (sI (sI (sI (sI τ 0 0 0) 0 2 0) 0 3 (nI len)) 0 4 0) 0 5 0) 0 6 (-1)) 0 23 0 = τ0
    have i0 : ∀ j, j ≠ 0 → j ≠ 2 → j ≠ 3 → j ≠ 4 → j ≠ 5 → j ≠ 6 → j ≠ 23 → τ0.1 0 j = τ.1 0 j := fun j j0 j2 j3 j4 j5 j6 j23 => by
      rw [← eτ0]
      simp only [sI_1, j0, j2, j3, j4, j5, j6, j23, and_false, if_false]
    have ip : ∀ p j, p ≠ 0 → τ0.1 p j = τ.1 p j := fun p j hp => by
      rw [← eτ0]
      simp only [sI_1, hp, false_and, if_false]
    have v0 : τ0.1 0 0 = 0 ∧ τ0.1 0 2 = 0 ∧ τ0.1 0 3 = nI len ∧ τ0.1 0 4 = 0 ∧ τ0.1 0 5 = 0 ∧ τ0.1 0 6 = -1 ∧ τ0.1 0 23 = 0 := by
      rw [← eτ0]
      refine ⟨?_, ?_, ?_, ?_, ?_, ?_, ?_⟩ <;> simp [sI_1]
    obtain ⟨u0, u2, u3, u4, u5, u6, u23⟩ := v0
    obtain ⟨τ1, q1, q2, q3⟩ := r_zero (τ := τ0)
    have j0 : ∀ p j, p ≠ 3 → τ1.1 p j = τ0.1 p j := fun p j hp => by rw [q3.1 p hp]
    have hl700 : len ≤ 700 := by omega
    obtain ⟨x, σ2, τ2, s1, s2, s3, s4, s5⟩ := sim_setup (σ := σ) (τ := τ1) (c := fun k => if k < len then τ.1 1 k else -1) (len := len) hl700 (fun k hk => if_neg (by omega)) (fun k hk => by
        obtain ⟨-, b, hb, e⟩ := h7 k (by omega)
        exact ⟨b, hb, (if_pos hk).trans e⟩) (fun k hk => (h7 k (by omega)).1.trans (if_pos hk).symm) (fun k hk => by rw [j0 1 k (by decide), ip 1 k (by decide)]; exact (if_pos hk).symm) (by rw [j0 0 3 (by decide)]; exact u3) (by rw [j0 0 4 (by decide)]; exact u4) (by rw [j0 0 5 (by decide)]; exact u5) (by rw [j0 0 6 (by decide)]; exact u6) (by rw [j0 0 23 (by decide)]; exact u23) q2
    rw [s1, obn_s]
    -- the reference up to the end of the text
    have ref := (q1 (fun (q27 : Nat) (σ26 : St) => gd (kR q27 = (0, 7)) <| obn (f_X7_takeWord q27 5 σ26) fun x35 σ34 => if x35 = 0 then (obn (f_X7_report q27 (-2 : Int32) (σ34.1 q27 4) σ34) fun _ σ75 => gd (kR q27 = (0, 7)) <| obn (f_X7_expect q27 (59 : Int32) σ75) fun _ σ41 => f_X7_load_L109 (fun (q46 : Nat) (σ45 : St) => gd (kR q46 = (0, 7)) <| obn (f_X7_isGood q46 (sI σ45 q46 7 (σ45.1 q46 6))) fun x60 σ59 => if x60 = 0 then (some ((σ59.1 q46 5), σ59)) else (obn (f_X7_remember q46 σ59) fun _ σ62 => obn (f_X7_copy (rR q46 9) (rR q46 8) σ62) fun _ σ64 => f_X7_load_L170 FU q46 (0 : Int32) (0 : Int32) σ64)) FU q27 σ41) else (gd (kR q27 = (0, 7)) <| obn (f_X7_expect q27 (59 : Int32) σ34) fun _ σ41 => f_X7_load_L109 (fun (q46 : Nat) (σ45 : St) => gd (kR q46 = (0, 7)) <| obn (f_X7_isGood q46 (sI σ45 q46 7 (σ45.1 q46 6))) fun x60 σ59 => if x60 = 0 then (some ((σ59.1 q46 5), σ59)) else (obn (f_X7_remember q46 σ59) fun _ σ62 => obn (f_X7_copy (rR q46 9) (rR q46 8) σ62) fun _ σ64 => f_X7_load_L170 FU q46 (0 : Int32) (0 : Int32) σ64)) FU q27 σ41)))
    rw [gd_p R0] at ref
    have ref2 := ref.trans (s2 _)
    rw [ref2, gd_p R0]
    -- both, with the buffer emptied
    have t7 : ∀ v w : Int32, Rel (sI (sI σ2 178 1 0) 0 5 v) (sI τ2 0 7 w) ↔ v = w := by
      intro v w
      have sin : ∀ p j, p < 177 ∨ p = 179 ∨ (p = 178 ∧ j < 4) → σ2.1 p j = σ.1 p j := fun p j hp => s3.1 p j (by omega) (by omega) (by omega) (by omega) (by omega)
      have tin : ∀ p j, p ≠ 0 → p ≠ 3 → τ2.1 p j = τ.1 p j := fun p j hp hp3 => by rw [s4.1 p j hp hp3, j0 p j hp3, ip p j hp]
      have sns : ∀ M, M < 177 → M ≠ 0 → M + 17 < 182 → sn (sI (sI σ2 178 1 0) 0 5 v) M = sn σ M := fun M hM hM0 hM1 => by
        unfold sn
        rw [sI_1, if_neg (fun t => hM0 t.1), sI_1, if_neg (by omega), sin M 1 (Or.inl hM)]
        refine congrArg (Prod.mk _) ?_
        funext j
        by_cases hj : j < 8
        · rw [if_pos hj, if_pos hj]
          show val σ2 _ = val σ _
          unfold val
          rw [s3.2 _ (by omega), s3.2 _ (by omega)]
        · rw [if_neg hj, if_neg hj]
      have sds : ∀ D, D ≠ 0 → D ≠ 3 → sd (sI τ2 0 7 w) D = sd τ D := fun D hD hD3 => sd_of (fun j _ => by rw [sI_1, if_neg (fun t => hD t.1), tin D j hD hD3])
      constructor
      · intro r
        have := r.2.2.2
        rw [sI_1, if_pos ⟨rfl, rfl⟩, sI_1, if_pos ⟨rfl, rfl⟩] at this
        exact this
      · intro e
        subst e
        refine ⟨by rw [sns 1 (by decide) (by decide) (by decide), sds 2 (by decide) (by decide)]; exact hS, ⟨n, d, h1, h2, ?_, ?_, ?_, fun k hk => ?_⟩, ⟨⟨0, by decide, ?_, ?_⟩, fun k hk => ?_⟩, ?_⟩
        · rw [sI_1, if_neg (by decide), sI_1, if_neg (by decide), sin 19 1 (Or.inl (by decide))]; exact h3
        · rw [sI_1, if_neg (by decide), sI_1, if_neg (by decide), sin 19 2 (Or.inl (by decide))]; exact h4
        · rw [sI_1, if_neg (by decide), s4.2 11 (by decide) (by decide) (by decide) (by decide) (by decide), j0 0 11 (by decide), i0 11 (by decide) (by decide) (by decide) (by decide) (by decide) (by decide) (by decide)]; exact h5
        · have hll : (n + 8 - d + k) % 8 < 8 := Nat.mod_lt _ (by decide)
          rw [sns _ (by omega) (by omega) (by omega), sds _ (by omega) (by omega)]
          exact h6 k hk
        · rw [sI_1, if_neg (by decide), sI_1, if_pos ⟨rfl, rfl⟩]; rfl
        · rw [sI_1, if_neg (by decide), s4.2 2 (by decide) (by decide) (by decide) (by decide) (by decide), j0 0 2 (by decide), u2]; rfl
        · rw [sI_1, if_neg (fun t => absurd t.1 (by decide)), sI_1, if_neg (fun t => absurd t.1 (by decide)), sin 179 k (Or.inr (Or.inl rfl)), sI_1, if_neg (fun t => absurd t.1 (by decide)), tin 1 k (by decide) (by decide)]
          exact h7 k hk
        · rw [sI_1, if_pos ⟨rfl, rfl⟩, sI_1, if_pos ⟨rfl, rfl⟩]
    have th : ∀ w : Int32, (sI τ2 0 7 w).1 0 0 = 0 := fun w => by
      rw [sI_1, if_neg (by decide), s4.2 0 (by decide) (by decide) (by decide) (by decide) (by decide), j0 0 0 (by decide)]; exact u0
    rcases s5 with ⟨rfl, g5, g6, gs⟩ | ⟨rfl, er⟩
    · have g7 : (sI τ2 0 7 (τ2.1 0 6)).1 0 5 = 0 := by rw [sI_1, if_neg (by decide)]; exact g5
      have hr := (t7 (-1) (τ2.1 0 6)).mpr g6.symm
      obtain ⟨n', d', m1, m2, m3, m4, m5, -⟩ := hr.2.1
      obtain ⟨ua, σ3, e1, r1⟩ := e_remember m1 m2 m3 m4
      obtain ⟨ub, τ3, e2, r2⟩ := r_remember m2 m5
      obtain ⟨b1, b2, b3, b4, b5, b6⟩ := rem_rel hr r1 r2
      obtain ⟨-, -, c3, -, -⟩ := r2 d' m2 m5
      have dr : SR (sn σ3 182) (sd τ3 3) := by
        have x1 : sn σ3 182 = sn σ2 182 := (b6.sn (M := 182) (by omega) (fun p t t2 => by unfold atS at t2; omega)).trans (by unfold sn; rfl)
        have x2 : sd τ3 3 = sd τ2 3 := by
          refine sd_of (fun j _ => ?_)
          rw [c3 3 (by decide) (by decide), sI_1, if_neg (fun t => absurd t.1 (by decide))]
        rw [x1, x2]; exact gs
      obtain ⟨uc, σ4, e3, w1, w2⟩ := e_S_copy (σ := σ3) isS_1 isS_182 (by omega)
      obtain ⟨ud, τ4, e4, w3, w4⟩ := r_copyD (σ := τ3) R3.2 R2.2 (by decide)
      have hfin : Rel σ4 τ4 := by
        refine b1.gen (w2.weak (fun _ t => t) (fun _ t => Or.inl t)) (fun p j hp _ => by rw [w4.1 p hp]) ?_
        rw [w1, sd_of w3]; exact dr
      have hcount : bcI (σ4.1 1 1) = cnI (τ4.1 2 0) 8 := by
        rw [hfin.mask]
        obtain ⟨k, hk, e⟩ := hfin.1.2.1
        have e : τ4.1 2 0 = nI k := e
        rw [e]; exact bc_cn k hk
      rw [if_neg (show ¬ (1 : Int32) = 0 by decide), C0.2.1, C0.2.2.1, gd_p C19.1, e1, obn_s, gd_p C1.1, CP.2.2.1, e3, obn_s, e_count isS_1, obn_s, r_isGood g7, obn_s, if_neg (show ¬ (1 : Int32) = 0 by decide), e2, obn_s, R2.1, R3.1, e4, obn_s, r_count]
      refine go_ok (P := fun s => s = σ4) (Q := fun t => t = τ4) (Tr.ret ⟨rfl, rfl⟩) (Tr.ret ⟨hcount.symm, ?_, rfl⟩) (fun s t hs ht => by rw [hs, ht]; exact hfin)
      rw [w4.1 0 (by decide), b5 0 (by decide)]; exact th _
    · have e5' : (sI σ2 178 1 0).1 178 6 = τ2.1 0 6 := by rw [sI_1, if_neg (by decide)]; exact er.2.2
      have hr := (t7 (τ2.1 0 6) (τ2.1 0 6)).mpr rfl
      have g7 : ¬ (sI τ2 0 7 (τ2.1 0 6)).1 0 5 = 0 := by rw [sI_1, if_neg (by decide)]; exact er.2.1
      rw [if_pos (show (0 : Int32) = 0 from rfl), e5', r_isBad g7, obn_s, if_pos (show (0 : Int32) = 0 from rfl)]
      refine go_ok (P := fun s => s = sI (sI σ2 178 1 0) 0 5 (τ2.1 0 6)) (Q := fun t => t = sI τ2 0 7 (τ2.1 0 6)) (Tr.ret ⟨rfl, rfl⟩) (Tr.ret ⟨?_, th _, rfl⟩) (fun s t hs ht => by rw [hs, ht]; exact hr)
      rw [sI_1, if_neg (by decide), sI_1, if_neg (by decide), sI_1, if_neg (by decide)]
      exact er.1.symm
  · have hnot : ¬ nI len ≤ nI f := fun t => hle ((nI_leI hlen (by omega)).mp t)
    rw [if_neg hnot, if_pos (show nI f < nI len from (nI_ltI (by omega) hlen).mpr (by omega)), obn_s, if_pos (show (0 : Int32) = 0 from rfl), gd_p R0, r_fails1 z00 (by decide), obn_s, if_neg (show ¬ (1 : Int32) = 0 by decide), sz0]
    exact go_thr h w31 (by decide)
end LOAD
