/-! APPENDING -/
theorem C177 : kC 177 = (0, 4) ∧ rC 177 0 = 178 ∧ kC 178 = (0, 5) ∧ rC 178 0 = 179 ∧ kC 179 = (1, 700) := by decide +kernel
theorem R1 : rR 0 1 = 1 ∧ kR 1 = (1, 700) := by decide +kernel
/-- the i-th byte of a word -/
def bw (w : Int32) (i : Nat) : Int32 := (w >>> (nI (24 - 8 * i) &&& 31)) &&& 255
theorem b255 (x : Int32) : ∃ b, b < 256 ∧ x &&& 255 = nI b := by
  refine ⟨(x &&& 255).toBitVec.toNat, ?_, ?_⟩
  · rw [Int32.toBitVec_and, BitVec.toNat_and]
    exact Nat.lt_of_le_of_lt Nat.and_le_right (by decide)
  · apply Int32.toBitVec_inj.mp
    unfold nI
    rw [Int32.toBitVec_ofNat']
    rw [BitVec.ofNat_toNat, BitVec.setWidth_eq]
section APP
variable {σ τ ρ : St}
theorem m255 : ∀ k, k < 32 → 8 ≤ k → (255#32).getLsbD k = false := by decide
theorem ush : ∀ i, i < 4 → ∀ w : Int32, ((w.toUInt32 >>> ((nI (24 - 8 * i)).toUInt32 &&& Int32.toUInt32 31)).toInt32 &&& (255 : Int32)) = bw w i := by
  intro i hi w
  unfold bw
  apply Int32.toBitVec_inj.mp
  rcases (show i = 0 ∨ i = 1 ∨ i = 2 ∨ i = 3 by omega) with rfl | rfl | rfl | rfl
  all_goals
    apply BitVec.eq_of_getLsbD_eq
    intro k hk
    rcases Nat.lt_or_ge k 8 with h8 | h8
    · have a1 : ¬ 32 ≤ k := by omega
      have a2 : 24 + k < 32 := by omega
      have a3 : 16 + k < 32 := by omega
      have a4 : 8 + k < 32 := by omega
      simp [nI, BitVec.getLsbD_sshiftRight, Int32.toBitVec_shiftRight, a1, a2, a3, a4]
    · have z := m255 k hk h8
      simp [nI, BitVec.getLsbD_sshiftRight, Int32.toBitVec_shiftRight, z]
theorem k178 : (24 : Int32) = nI (24 - 8 * 0) ∧ nI (24 - 8 * 0) + (-8) = nI (24 - 8 * 1) ∧ nI (24 - 8 * 1) + (-8) = nI (24 - 8 * 2) ∧ nI (24 - 8 * 2) + (-8) = nI (24 - 8 * 3) ∧ nI (24 - 8 * 3) + (-8) < 0 := by decide
theorem pw_step {f i n : Nat} {w x : Int32} (hi : i < 4) (hf : f < 700) (h : σ.1 178 1 = nI f) (hx : nI (24 - 8 * i) + (-8) = x) : f_X5_putWord_L3 (n + 1) 178 w (nI (24 - 8 * i)) σ = f_X5_putWord_L3 n 178 w x (sI (sI σ 179 f (bw w i)) 178 1 (nI (f + 1))) := by
  obtain ⟨-, -, c3, c4, c5⟩ := C177
  have g : ¬ (nI f < 0 ∨ 700 ≤ (nI f).toNatClampNeg) := ge_pos (N := 700) (by decide) hf
  rw [f_X5_putWord_L3]
  simp only [bnd_s]
  rw [if_neg (nI_pos (by omega)), gd_p c3, h, if_neg (nI_pos (by omega)), if_neg (show ¬ (700 : Int32) ≤ nI f from fun t => by have := (nI_leI (a := 700) (by decide) (by omega)).mp t; omega), c4, c5, gd_p ⟨rfl, g⟩, ush i hi, nI_clamp (by omega), hx, sI_1, if_neg (fun t => absurd t.1 (by decide)), h, nI_1]
theorem e_putWord {f : Nat} {w : Int32} (hf : f + 4 ≤ 700) (h : σ.1 178 1 = nI f) : ∃ σ', f_X5_putWord 178 w σ = some ((), σ') ∧ σ'.1 178 1 = nI (f + 4) ∧ (∀ j, σ'.1 179 j = if f ≤ j ∧ j < f + 4 then bw w (j - f) else σ.1 179 j) ∧ (∀ p j, p ≠ 179 → ¬ (p = 178 ∧ j = 1) → σ'.1 p j = σ.1 p j) ∧ σ'.2 = σ.2 := by
  obtain ⟨k0, k1, k2, k3, k4⟩ := k178
  have hz : ∀ (σ : St) (f : Nat), (sI (sI σ 179 f (bw w 0)) 178 1 (nI (f + 1))).1 178 1 = nI (f + 1) := fun σ f => by rw [sI_1, if_pos ⟨rfl, rfl⟩]
  refine ⟨sI (sI (sI (sI (sI (sI (sI (sI σ 179 f (bw w 0)) 178 1 (nI (f + 1))) 179 (f + 1) (bw w 1)) 178 1 (nI (f + 2))) 179 (f + 2) (bw w 2)) 178 1 (nI (f + 3))) 179 (f + 3) (bw w 3)) 178 1 (nI (f + 4)), ?_, ?_, fun j => ?_, fun p j hp hj => ?_, rfl⟩
  · unfold f_X5_putWord
    show f_X5_putWord_L3 (4091 + 1 + 1 + 1 + 1 + 1) 178 w 24 σ = _
    rw [k0, pw_step (i := 0) (f := f) (by decide) (by omega) h k1, pw_step (i := 1) (f := f + 1) (by decide) (by omega) (by rw [sI_1, if_pos ⟨rfl, rfl⟩]) k2, pw_step (i := 2) (f := f + 2) (by decide) (by omega) (by rw [sI_1, if_pos ⟨rfl, rfl⟩]) k3, pw_step (i := 3) (f := f + 3) (by decide) (by omega) (by rw [sI_1, if_pos ⟨rfl, rfl⟩]) rfl, f_X5_putWord_L3, if_pos k4]
  · rw [sI_1, if_pos ⟨rfl, rfl⟩]
  · simp only [sI_1, show ¬ (179 : Nat) = 178 from by decide, false_and, if_false, true_and]
    rcases (show j = f ∨ j = f + 1 ∨ j = f + 2 ∨ j = f + 3 ∨ ¬ (f ≤ j ∧ j < f + 4) by omega) with rfl | rfl | rfl | rfl | hj
    · rw [if_neg (by omega), if_neg (by omega), if_neg (by omega), if_pos rfl, if_pos (by omega), Nat.sub_self]
    · rw [if_neg (by omega), if_neg (by omega), if_pos rfl, if_pos (by omega), Nat.add_sub_cancel_left]
    · rw [if_neg (by omega), if_pos rfl, if_pos (by omega), Nat.add_sub_cancel_left]
    · rw [if_pos rfl, if_pos (by omega), Nat.add_sub_cancel_left]
    · rw [if_neg (by omega), if_neg (by omega), if_neg (by omega), if_neg (by omega), if_neg hj]
  · simp only [sI_1, hp, hj, false_and, if_false]
/-- the byte at k of five words -/
def b5 (w0 w1 w2 w3 w4 : Int32) (k : Nat) : Int32 := bw (if k < 4 then w0 else if k < 8 then w1 else if k < 12 then w2 else if k < 16 then w3 else w4) (k % 4)
theorem r_appLoop {w0 w1 w2 w3 w4 : Int32} {f : Nat} (hf : f + 20 ≤ 700) (h : τ.1 0 2 = nI f) : ∃ τ', f_X7_append_L23 FU 0 w0 w1 w2 w3 w4 0 τ = some (nI (f + 20), τ') ∧ τ'.1 0 2 = nI (f + 20) ∧ (∀ j, τ'.1 1 j = if f ≤ j ∧ j < f + 20 then b5 w0 w1 w2 w3 w4 (j - f) else τ.1 1 j) ∧ (∀ p j, p ≠ 1 → ¬ (p = 0 ∧ j = 2) → τ'.1 p j = τ.1 p j) := by
  have key : ∀ n k (τ1 : St), k ≤ 20 → 20 < n + k → τ1.1 0 2 = nI (f + k) → (∀ j, τ1.1 1 j = if f ≤ j ∧ j < f + k then b5 w0 w1 w2 w3 w4 (j - f) else τ.1 1 j) → (∀ p j, p ≠ 1 → ¬ (p = 0 ∧ j = 2) → τ1.1 p j = τ.1 p j) → ∃ τ', f_X7_append_L23 n 0 w0 w1 w2 w3 w4 (nI k) τ1 = some (nI (f + 20), τ') ∧ τ'.1 0 2 = nI (f + 20) ∧ (∀ j, τ'.1 1 j = if f ≤ j ∧ j < f + 20 then b5 w0 w1 w2 w3 w4 (j - f) else τ.1 1 j) ∧ (∀ p j, p ≠ 1 → ¬ (p = 0 ∧ j = 2) → τ'.1 p j = τ.1 p j) := by
    intro n
    induction n with
    | zero => intro k τ1 h1 h2; omega
    | succ n ih =>
      intro k τ1 h1 h2 h3 h4 h5
      have le : ∀ c : Nat, c < 2 ^ 31 → ((nI c) ≤ nI k ↔ c ≤ k) := fun c hc => nI_leI hc (by omega)
      by_cases hk : k = 20
      · subst hk
        refine ⟨τ1, ?_, h3, h4, h5⟩
        rw [f_X7_append_L23, if_pos (by decide), gd_p R0, h3]
      · have hk : k < 20 := by omega
        have em : nI k - nI k / (4 : Int32) * (4 : Int32) = nI (k % 4) := pk_rem (d := 4) (by omega) (by decide) (by decide)
        have e8 : (24 : Int32) - (8 : Int32) * nI (k % 4) = nI (24 - 8 * (k % 4)) := by
          rw [show (8 : Int32) * nI (k % 4) = nI (8 * (k % 4)) from pk_mul 8 _]
          exact pk_sub (a := 24) (by omega)
        have g : ¬ (nI (f + k) < 0 ∨ 700 ≤ (nI (f + k)).toNatClampNeg) := ge_pos (N := 700) (by decide) (by omega)
        obtain ⟨τ', q1, q2⟩ := ih (k + 1) (sI (sI τ1 1 (f + k) (b5 w0 w1 w2 w3 w4 k)) 0 2 (nI (f + k + 1))) (by omega) (by omega) (by rw [sI_1, if_pos ⟨rfl, rfl⟩]; rfl) (fun j => by
          rw [sI_1, if_neg (by omega), sI_1]
          by_cases hj : j = f + k
          · rw [if_pos ⟨rfl, hj⟩, if_pos (by omega), hj, Nat.add_sub_cancel_left]
          · rw [if_neg (fun t => hj t.2), h4]
            by_cases hj2 : f ≤ j ∧ j < f + k
            · rw [if_pos hj2, if_pos (by omega)]
            · rw [if_neg hj2, if_neg (by omega)]) (fun p j hp hj => by rw [sI_1, if_neg hj, sI_1, if_neg (fun t => hp t.1)]; exact h5 p j hp hj)
        refine ⟨τ', ?_, q2⟩
        rw [← q1, f_X7_append_L23]
        simp only [bnd_s]
        have tail : ∀ w, w = (if k < 4 then w0 else if k < 8 then w1 else if k < 12 then w2 else if k < 16 then w3 else w4) → (gd (kR 0 = (0, 7)) <| gd ((kR (rR 0 1)).1 = 1 ∧ ¬ ((τ1.1 0 2) < 0 ∨ (kR (rR 0 1)).2 ≤ (τ1.1 0 2).toNatClampNeg)) <| f_X7_append_L23 n 0 w0 w1 w2 w3 w4 (nI k + (1 : Int32)) (sI (sI τ1 (rR 0 1) (τ1.1 0 2).toNatClampNeg ((w >>> (((24 : Int32) - ((8 : Int32) * (nI k - nI k / (4 : Int32) * (4 : Int32)))) &&& 31)) &&& (255 : Int32))) 0 2 (((sI τ1 (rR 0 1) (τ1.1 0 2).toNatClampNeg ((w >>> (((24 : Int32) - ((8 : Int32) * (nI k - nI k / (4 : Int32) * (4 : Int32)))) &&& 31)) &&& (255 : Int32))).1 0 2) + (1 : Int32)))) = f_X7_append_L23 n 0 w0 w1 w2 w3 w4 (nI (k + 1)) (sI (sI τ1 1 (f + k) (b5 w0 w1 w2 w3 w4 k)) 0 2 (nI (f + k + 1))) := by
          intro w hw
          rw [gd_p R0, R1.1, R1.2, h3, gd_p ⟨rfl, g⟩, em, e8, nI_clamp (by omega), sI_1, if_neg (fun t => absurd t.1 (by decide)), h3, nI_1, nI_1]
          have : ((w >>> ((nI (24 - 8 * (k % 4))) &&& 31)) &&& (255 : Int32)) = b5 w0 w1 w2 w3 w4 k := by unfold b5 bw; rw [hw]
          rw [this]
        rw [if_neg (show ¬ (20 : Int32) ≤ nI k from fun t => by have := (le 20 (by decide)).mp t; omega)]
        by_cases k4 : 4 ≤ k
        · rw [if_pos (show (4 : Int32) ≤ nI k from (le 4 (by decide)).mpr k4)]
          by_cases k8 : 8 ≤ k
          · rw [if_pos (show (8 : Int32) ≤ nI k from (le 8 (by decide)).mpr k8)]
            by_cases k12 : 12 ≤ k
            · rw [if_pos (show (12 : Int32) ≤ nI k from (le 12 (by decide)).mpr k12)]
              by_cases k16 : 16 ≤ k
              · rw [if_pos (show (16 : Int32) ≤ nI k from (le 16 (by decide)).mpr k16)]
                exact tail w4 (by rw [if_neg (by omega), if_neg (by omega), if_neg (by omega), if_neg (by omega)])
              · rw [if_neg (show ¬ (16 : Int32) ≤ nI k from fun t => k16 ((le 16 (by decide)).mp t))]
                exact tail w3 (by rw [if_neg (by omega), if_neg (by omega), if_neg (by omega), if_pos (by omega)])
            · rw [if_neg (show ¬ (12 : Int32) ≤ nI k from fun t => k12 ((le 12 (by decide)).mp t))]
              exact tail w2 (by rw [if_neg (by omega), if_neg (by omega), if_pos (by omega)])
          · rw [if_neg (show ¬ (8 : Int32) ≤ nI k from fun t => k8 ((le 8 (by decide)).mp t))]
            exact tail w1 (by rw [if_neg (by omega), if_pos (by omega)])
        · rw [if_neg (show ¬ (4 : Int32) ≤ nI k from fun t => k4 ((le 4 (by decide)).mp t))]
          exact tail w0 (by rw [if_pos (by omega)])
  exact key FU 0 τ (by decide) (by decide) h (fun j => by rw [if_neg (by omega)]) (fun _ _ _ _ => rfl)
theorem go_append {w0 w1 w2 w3 w4 : Int32} (h : Rel σ τ) : Go (dst (f_X6_append 0 w0 w1 w2 w3 w4 σ) (f_X7_append 0 w0 w1 w2 w3 w4 τ) ρ) := by
  obtain ⟨c1, c2, c3, c4, c5⟩ := C177
  obtain ⟨hS, hH, ⟨⟨f, f1, f2, f3⟩, h7⟩, h8⟩ := h
  have h : Rel σ τ := ⟨hS, hH, ⟨⟨f, f1, f2, f3⟩, h7⟩, h8⟩
  unfold f_X6_append f_X7_append
  have e2 : (sI τ 0 0 0).1 0 2 = nI f := by rw [sI_1, if_neg (by decide)]; exact f3
  rw [gd_p C0.1, C0.2.2.2.2.1, gd_p c1, c2, gd_p c3, f2, gd_p R0, bnd_s, e2]
  have e20 : nI f + (20 : Int32) = nI (f + 20) := nI_add f 20
  rw [e20]
  by_cases hle : f ≤ 680
  · rw [if_pos (show nI f ≤ (680 : Int32) from (nI_leI (b := 680) (by omega) (by decide)).mpr hle), if_pos (show nI (f + 20) ≤ (700 : Int32) from (nI_leI (b := 700) (by omega) (by decide)).mpr (by omega))]
    obtain ⟨σ1, a1, a2, a3, a4, a5⟩ := e_putWord (σ := σ) (w := w0) (by omega) f2
    obtain ⟨σ2, b1, b2, b3, b4, b5'⟩ := e_putWord (σ := σ1) (w := w1) (by omega) a2
    obtain ⟨σ3, d1, d2, d3, d4, d5⟩ := e_putWord (σ := σ2) (w := w2) (by omega) b2
    obtain ⟨σ4, e1, e2, e3, e4, e5⟩ := e_putWord (σ := σ3) (w := w3) (by omega) d2
    obtain ⟨σ5, g1, g2, g3, g4, g5⟩ := e_putWord (σ := σ4) (w := w4) (by omega) e2
    obtain ⟨τ1, q1, q2, q3, q4⟩ := r_appLoop (τ := sI τ 0 0 0) (w0 := w0) (w1 := w1) (w2 := w2) (w3 := w3) (w4 := w4) (f := f) (by omega) (by rw [sI_1, if_neg (by decide)]; exact f3)
    rw [a1, obn_s, b1, obn_s, d1, obn_s, e1, obn_s, g1, obn_s, g2, q1]
    refine go_dst (P := fun a s => a = nI (f + 4 + 4 + 4 + 4 + 4) ∧ s = σ5) (Q := fun a t => a = nI (f + 20) ∧ t = τ1) (Tr.ret ⟨rfl, rfl⟩) (Tr.ret ⟨rfl, rfl⟩) ?_
    rintro a s b t ⟨rfl, hs⟩ ⟨rfl, ht⟩
    rw [hs, ht]
    refine ⟨rfl, ?_⟩
    have sin : ∀ p j, p ≠ 179 → ¬ (p = 178 ∧ j = 1) → σ5.1 p j = σ.1 p j := fun p j hp hj => by rw [g4 p j hp hj, e4 p j hp hj, d4 p j hp hj, b4 p j hp hj, a4 p j hp hj]
    have slo : σ5.2 = σ.2 := by rw [g5, e5, d5, b5', a5]
    have tin : ∀ p j, p ≠ 1 → ¬ (p = 0 ∧ j = 2) → ¬ (p = 0 ∧ j = 0) → τ1.1 p j = τ.1 p j := fun p j hp hj h0 => by rw [q4 p j hp hj, sI_1, if_neg h0]
    have sns : ∀ M, M ≠ 179 → M ≠ 178 → sn σ5 M = sn σ M := fun M hM hM2 => by
      unfold sn val
      rw [sin M 1 hM (fun t => hM2 t.1), slo]
    have sds : ∀ D, D ≠ 0 → D ≠ 1 → sd τ1 D = sd τ D := fun D hD hD1 => sd_of (fun j _ => tin D j hD1 (fun t => hD t.1) (fun t => hD t.1))
    obtain ⟨n, d, p1, p2, p3, p4, p5, p6⟩ := hH
    refine ⟨by rw [sns 1 (by decide) (by decide), sds 2 (by decide) (by decide)]; exact hS, ⟨n, d, p1, p2, by rw [sin 19 1 (by decide) (by decide)]; exact p3, by rw [sin 19 2 (by decide) (by decide)]; exact p4, by rw [tin 0 11 (by decide) (by decide) (by decide)]; exact p5, fun k hk => ?_⟩, ⟨⟨f + 20, by omega, g2, q2⟩, fun k hk => ?_⟩, by rw [sin 0 5 (by decide) (by decide), tin 0 7 (by decide) (by decide) (by decide)]; exact h8⟩
    · have hl : (n + 8 - d + k) % 8 < 8 := Nat.mod_lt _ (by decide)
      rw [sns _ (by omega) (by omega), sds _ (by omega) (by omega)]
      exact p6 k hk
    · have hs5 : σ5.1 179 k = if f ≤ k ∧ k < f + 20 then b5 w0 w1 w2 w3 w4 (k - f) else σ.1 179 k := by
        rw [g3, e3, d3, b3, a3]
        unfold b5
        by_cases hk0 : f ≤ k ∧ k < f + 20
        · rw [if_pos hk0]
          obtain ⟨m, rfl⟩ : ∃ m, k = f + m := ⟨k - f, by omega⟩
          rw [Nat.add_sub_cancel_left]
          by_cases m4 : m < 4
          · rw [if_neg (by omega), if_neg (by omega), if_neg (by omega), if_neg (by omega), if_pos (by omega), if_pos m4, show m % 4 = m by omega]
          · by_cases m8 : m < 8
            · rw [if_neg (by omega), if_neg (by omega), if_neg (by omega), if_pos (by omega), if_neg m4, if_pos m8, show m % 4 = f + m - (f + 4) by omega]
            · by_cases m12 : m < 12
              · rw [if_neg (by omega), if_neg (by omega), if_pos (by omega), if_neg m4, if_neg m8, if_pos m12, show m % 4 = f + m - (f + 4 + 4) by omega]
              · by_cases m16 : m < 16
                · rw [if_neg (by omega), if_pos (by omega), if_neg m4, if_neg m8, if_neg m12, if_pos m16, show m % 4 = f + m - (f + 4 + 4 + 4) by omega]
                · rw [if_pos (by omega), if_neg m4, if_neg m8, if_neg m12, if_neg m16, show m % 4 = f + m - (f + 4 + 4 + 4 + 4) by omega]
        · rw [if_neg hk0, if_neg (by omega), if_neg (by omega), if_neg (by omega), if_neg (by omega), if_neg (by omega)]
      have ht1 : τ1.1 1 k = if f ≤ k ∧ k < f + 20 then b5 w0 w1 w2 w3 w4 (k - f) else τ.1 1 k := by
        rw [q3, show (sI τ 0 0 0).1 1 k = τ.1 1 k from by rw [sI_1, if_neg (fun t => absurd t.1 (by decide))]]
      rw [hs5, ht1]
      by_cases hk0 : f ≤ k ∧ k < f + 20
      · rw [if_pos hk0, if_pos hk0]
        exact ⟨rfl, b255 _⟩
      · rw [if_neg hk0, if_neg hk0]
        exact h7 k hk
  · rw [if_neg (show ¬ nI f ≤ (680 : Int32) from fun t => hle ((nI_leI (b := 680) (by omega) (by decide)).mp t)), if_neg (show ¬ nI (f + 20) ≤ (700 : Int32) from fun t => by have := (nI_leI (b := 700) (by omega) (by decide)).mp t; omega)]
    refine go_dst (P := fun a s => a = -1 ∧ s = σ) (Q := fun a t => a = -1 ∧ t = sI τ 0 0 0) (Tr.ret ⟨rfl, rfl⟩) (Tr.ret ⟨rfl, rfl⟩) ?_
    rintro a s b t ⟨rfl, hs⟩ ⟨rfl, ht⟩
    rw [hs, ht]
    exact ⟨rfl, h.z⟩
end APP
