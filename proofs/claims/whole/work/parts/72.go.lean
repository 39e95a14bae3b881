/-! CALLS: what both answer -/
def Go (x : Option (St × St × St)) : Prop := ∃ σ1 τ1 ρ1, x = some (σ1, τ1, ρ1) ∧ Rel σ1 τ1
section GO
variable {σ τ ρ : St}
theorem go_dst {α : Type} [DecidableEq α] {X Y : Option (α × St)} {P Q : α → St → Prop} (hX : Tr X P) (hY : Tr Y Q) (h : ∀ a σ1 b τ1, P a σ1 → Q b τ1 → a = b ∧ Rel σ1 τ1) : Go (dst X Y ρ) := by
  obtain ⟨a, σ1, rfl, hp⟩ := hX
  obtain ⟨b, τ1, rfl, hq⟩ := hY
  obtain ⟨rfl, hr⟩ := h a σ1 b τ1 hp hq
  exact ⟨σ1, τ1, ρ, by simp [dst], hr⟩
theorem r_thrown : f_X7_thrown 0 τ = some (τ.1 0 0, τ) := by unfold f_X7_thrown; rw [gd_p R0]
theorem go_ok {xs : List Nat} {tl : Int32 → Int64} {X : Option ((Nat ⊕ Int32) × St)} {Y : Option (Int32 × St)} {v : Int32} {P Q : St → Prop} (hX : Tr X (fun r σ1 => r = .inr v ∧ P σ1)) (hY : Tr Y (fun b τ1 => b = v ∧ τ1.1 0 0 = 0 ∧ Q τ1)) (h : ∀ σ1 τ1, P σ1 → Q τ1 → Rel σ1 τ1) : Go (wst (wrp xs tl X ρ) Y tl) := by
  obtain ⟨r, σ1, rfl, rfl, hp⟩ := hX
  obtain ⟨b, τ1, rfl, rfl, h0, hq⟩ := hY
  refine ⟨σ1, τ1, sJ ρ 0 0 (tl b), ?_, h σ1 τ1 hp hq⟩
  have e : (sJ ρ 0 0 (tl b)).2 0 0 = tl b := by rw [sJ_at, if_pos ⟨rfl, rfl⟩]
  simp [wst, wrp, r_thrown, h0, e]
theorem go_no {xs : List Nat} {tl : Int32 → Int64} {X : Option ((Nat ⊕ Int32) × St)} {Y : Option (Int32 × St)} {e : Nat} {k : Int32} {P Q : St → Prop} (hw : ∀ σ1, wrp xs tl (some (.inl e, σ1)) ρ = some (k, σ1, ρ)) (hk : k ≠ 0) (hX : Tr X (fun r σ1 => r = .inl e ∧ P σ1)) (hY : Tr Y (fun _ τ1 => τ1.1 0 0 = k ∧ Q τ1)) (h : ∀ σ1 τ1, P σ1 → Q τ1 → Rel σ1 τ1) : Go (wst (wrp xs tl X ρ) Y tl) := by
  obtain ⟨r, σ1, rfl, rfl, hp⟩ := hX
  obtain ⟨b, τ1, rfl, h0, hq⟩ := hY
  refine ⟨σ1, τ1, ρ, ?_, h σ1 τ1 hp hq⟩
  rw [hw]
  simp [wst, r_thrown, h0, hk]
theorem Rel.z {v : Int32} (h : Rel σ τ) : Rel σ (sI τ 0 0 v) := h.q Fg.rf (fun p j hp => by rw [sI_1, if_neg hp])
theorem z00 {v : Int32} : (sI τ 0 0 v).1 0 0 = v := by rw [sI_1, if_pos ⟨rfl, rfl⟩]
theorem sz0 {v w : Int32} : sI (sI τ 0 0 v) 0 0 w = sI τ 0 0 w := by
  refine Prod.ext ?_ rfl
  funext p j
  show (sI (sI τ 0 0 v) 0 0 w).1 p j = _
  rw [sI_1, sI_1]
  by_cases h : p = 0 ∧ j = 0
  · rw [if_pos h, sI_1, if_pos h]
  · rw [if_neg h, if_neg h, sI_1, if_neg h]
/-- a call that throws and has changed nothing -/
theorem go_thr {xs : List Nat} {tl : Int32 → Int64} {e : Nat} {k b : Int32} (h : Rel σ τ) (hw : ∀ σ1, wrp xs tl (some (.inl e, σ1)) ρ = some (k, σ1, ρ)) (hk : k ≠ 0) : Go (wst (wrp xs tl (some (.inl e, σ)) ρ) (some (b, sI τ 0 0 k)) tl) :=
  go_no (P := fun s => s = σ) (Q := fun t => t = sI τ 0 0 k) hw hk (Tr.ret ⟨rfl, rfl⟩) (Tr.ret ⟨z00, rfl⟩) (fun σ1 τ1 h1 h2 => by rw [h1, h2]; exact h.z)
/-- a call that answers and has changed nothing -/
theorem go_val {xs : List Nat} {tl : Int32 → Int64} {v w : Int32} (h : Rel σ τ) (hv : w = v) : Go (wst (wrp xs tl (some (.inr v, σ)) ρ) (some (w, sI τ 0 0 0)) tl) :=
  go_ok (P := fun s => s = σ) (Q := fun t => t = sI τ 0 0 0) (Tr.ret ⟨rfl, rfl⟩) (Tr.ret ⟨hv, z00, rfl⟩) (fun σ1 τ1 h1 h2 => by rw [h1, h2]; exact h.z)
def bad8 (a : Int32) : Prop := a < 0 ∨ (¬ a < 0 ∧ ¬ a < 8 ∧ 7 < a)
theorem ix_cases (a : Int32) : bad8 a ∨ ∃ i, i < 8 ∧ a = nI i := by
  by_cases h : a < 0
  · exact Or.inl (Or.inl h)
  · obtain ⟨j, hj, rfl⟩ := nI_of h
    by_cases h8 : j < 8
    · exact Or.inr ⟨j, h8, rfl⟩
    · refine Or.inl (Or.inr ⟨h, fun t => h8 ((nI_ltI (b := 8) hj (by decide)).mp t), ?_⟩)
      exact (nI_ltI (a := 7) (by decide) hj).mpr (by omega)
theorem obX_l {α β : Type} {e : Nat} {s : St} {g : Nat → St → Option β} {f : α → St → Option β} : obx (some (Sum.inl e, s)) g f = g e s := rfl
theorem obX_r {α β : Type} {a : α} {s : St} {g : Nat → St → Option β} {f : α → St → Option β} : obx (some (Sum.inr a, s)) g f = f a s := rfl
theorem e_ix_bad {a : Int32} (h : bad8 a) : f_X6_requireIndex a σ = some (.inl 1, σ) := by
  unfold f_X6_requireIndex
  simp only [bnd_s]
  skip
  rcases h with h | ⟨h, h2, -⟩
  · rw [if_pos h]
  · rw [if_neg h, if_neg h2]
theorem e_ix_ok {i : Nat} (h : i < 8) : f_X6_requireIndex (nI i) σ = some (.inr (), σ) := by
  unfold f_X6_requireIndex
  simp only [bnd_s]
  rw [if_neg (nI_pos (by omega)), if_pos (show nI i < 8 from (nI_ltI (b := 8) (by omega) (by decide)).mpr h)]
def mp (i : Nat) : Nat := 1 + 2 + 2 * i
theorem M_mp {i : Nat} (h : i < 8) : isM (mp i) := isS_1.m h
theorem e_df_no {i : Nat} (hi : i < 8) (h : ¬ df (σ.1 1 1) (nI i)) : f_X6_requireDefined 0 (nI i) σ = some (.inl 2, σ) := by
  unfold f_X6_requireDefined
  rw [C0.2.1, gd_p C0.1, gd_p C1.1, e_has isS_1 hi, obn_s, bI_0 h, if_pos rfl]
theorem e_df_ok {i : Nat} (hi : i < 8) (h : df (σ.1 1 1) (nI i)) : f_X6_requireDefined 0 (nI i) σ = some (.inr (mp i), σ) := by
  unfold f_X6_requireDefined
  have g : ¬ (nI i < 0 ∨ 8 ≤ (nI i).toNatClampNeg) := ge_pos (N := 8) (by decide) hi
  rw [C0.2.1, gd_p C0.1, gd_p C1.1, e_has isS_1 hi, obn_s, bI_1 h, if_neg (by decide), C1.2.1, C1.2.2, gd_p ⟨rfl, g⟩, nI_clamp (by omega), show rC 2 i = mp i from isS_1.ri hi]
theorem r_fails0 {e : Int32} (h : τ.1 0 0 = 0) : f_X7_fails 0 0 e τ = some (0, τ) := by
  unfold f_X7_fails
  simp only [bnd_s]
  rw [if_pos trivial, gd_p R0, if_pos h]
theorem r_fails1 {e : Int32} (h : τ.1 0 0 = 0) (he : ¬ e = 0) : f_X7_fails 0 1 e τ = some (1, sI τ 0 0 e) := by
  unfold f_X7_fails
  simp only [bnd_s]
  rw [if_neg (by decide), gd_p R0, if_pos h, gd_p R0, z00, if_neg he]
theorem r_ix_bad {a : Int32} (h0 : τ.1 0 0 = 0) (h : bad8 a) : f_X7_noIndex 0 a τ = some (1, sI τ 0 0 1) := by
  unfold f_X7_noIndex f_X7_in
  simp only [bnd_s]
  rcases h with h | ⟨h, -, h2⟩
  · rw [if_pos h, obn_s, if_pos rfl, gd_p R0, r_fails1 h0 (by decide), obn_s, gd_p (Or.inr rfl)]
  · rw [if_neg h, if_pos h2, obn_s, if_pos rfl, gd_p R0, r_fails1 h0 (by decide), obn_s, gd_p (Or.inr rfl)]
theorem r_ix_ok {i : Nat} (h0 : τ.1 0 0 = 0) (h : i < 8) : f_X7_noIndex 0 (nI i) τ = some (0, τ) := by
  unfold f_X7_noIndex f_X7_in
  simp only [bnd_s]
  rw [if_neg (nI_pos (by omega)), if_neg (show ¬ (7 : Int32) < nI i from fun t => absurd ((nI_ltI (a := 7) (by decide) (by omega)).mp t) (by omega)), obn_s, if_neg (by decide), gd_p R0, r_fails0 h0, obn_s, gd_p (Or.inl rfl)]
theorem r_nm_bad {a : Int32} (h0 : τ.1 0 0 = 0) (h : bad8 a) : f_X7_noModel 0 a τ = some (1, sI τ 0 0 1) := by
  unfold f_X7_noModel
  simp only [bnd_s]
  rw [gd_p R0, r_ix_bad h0 h, obn_s, if_neg (by decide)]
theorem r_nm_no {i : Nat} (h0 : τ.1 0 0 = 0) (hi : i < 8) (h : ¬ df (τ.1 2 0) (nI i)) : f_X7_noModel 0 (nI i) τ = some (1, sI τ 0 0 2) := by
  unfold f_X7_noModel
  simp only [bnd_s]
  rw [gd_p R0, r_ix_ok h0 hi, obn_s, if_pos rfl, R2.1, r_isDefined R2.2, obn_s, bI_0 h, if_pos rfl, gd_p R0, r_fails1 h0 (by decide), obn_s, if_neg (by decide)]
theorem r_nm_ok {i : Nat} (h0 : τ.1 0 0 = 0) (hi : i < 8) (h : df (τ.1 2 0) (nI i)) : f_X7_noModel 0 (nI i) τ = some (0, τ) := by
  unfold f_X7_noModel
  simp only [bnd_s]
  rw [gd_p R0, r_ix_ok h0 hi, obn_s, if_pos rfl, R2.1, r_isDefined R2.2, obn_s, bI_1 h, if_neg (by decide), gd_p R0, r_fails0 h0, obn_s, if_pos rfl]
theorem Rel.mask (h : Rel σ τ) : σ.1 1 1 = τ.1 2 0 := h.1.1
theorem Rel.m (h : Rel σ τ) {i : Nat} (hi : i < 8) (hd : df (σ.1 1 1) (nI i)) : val σ (mp i) = dv τ 2 i ∧ fitN (dv τ 2 i) 12 := by
  have e := h.1.2.2 i hi (by rw [← h.1.1]; exact hd)
  rw [sn_2 hi, sd_2 hi] at e
  exact e
theorem dvI {D i k : Nat} (hk : k < 12) : (dv τ D i k).toInt32 = τ.1 D (1 + 12 * i + k) := by unfold dv; rw [if_pos hk]; exact Int32.toInt32_toInt64 _
theorem dv_z {v : Int32} {i : Nat} : dv (sI τ 0 0 v) 2 i = dv τ 2 i := by unfold dv; simp only [sI_1, show ¬ ((2 : Nat) = 0) from by decide, false_and, if_false]
theorem z_2 {v : Int32} {j : Nat} : (sI τ 0 0 v).1 2 j = τ.1 2 j := by rw [sI_1, if_neg (fun t => absurd t.1 (by decide))]
theorem w1 {xs : List Nat} {tl : Int32 → Int64} : ∀ σ1, wrp (1 :: xs) tl (some (.inl 1, σ1)) ρ = some (1, σ1, ρ) := fun _ => rfl
theorem w2 {xs : List Nat} {tl : Int32 → Int64} : ∀ σ1, wrp (1 :: 2 :: xs) tl (some (.inl 2, σ1)) ρ = some (2, σ1, ρ) := fun _ => rfl
theorem w3 {xs : List Nat} {tl : Int32 → Int64} : ∀ σ1, wrp (1 :: 2 :: 3 :: xs) tl (some (.inl 3, σ1)) ρ = some (3, σ1, ρ) := fun _ => rfl
theorem w4 {xs : List Nat} {tl : Int32 → Int64} : ∀ σ1, wrp (1 :: 2 :: 3 :: 4 :: xs) tl (some (.inl 4, σ1)) ρ = some (4, σ1, ρ) := fun _ => rfl
theorem w43 {xs : List Nat} {tl : Int32 → Int64} : ∀ σ1, wrp (1 :: 2 :: 4 :: xs) tl (some (.inl 4, σ1)) ρ = some (3, σ1, ρ) := fun _ => rfl
theorem go_model {a : Int32} {xs' : List Nat} {tl : Int32 → Int64} {KX : Nat → St → Option ((Nat ⊕ Int32) × St)} {KY : St → Option (Int32 × St)} (h : Rel σ τ) (hk : ∀ i, i < 8 → a = nI i → df (σ.1 1 1) (nI i) → Go (wst (wrp (1 :: 2 :: xs') tl (KX (mp i) σ) ρ) (KY (sI τ 0 0 0)) tl)) :
    Go (wst (wrp (1 :: 2 :: xs') tl (obx (f_X6_requireIndex a σ) (fun ex σ1 => some (Sum.inl ex, σ1)) fun _ σ1 => gd (kC 0 = (0, 6)) <| obx (f_X6_requireDefined 0 a σ1) (fun ex σ5 => some (Sum.inl ex, σ5)) fun q6 σ5 => KX q6 σ5) ρ) (gd (kR 0 = (0, 7)) <| obn (f_X7_noModel 0 a (sI τ 0 0 0)) fun x4 σ3 => if x4 = 0 then KY σ3 else some ((0 : Int32), σ3)) tl) := by
  rw [gd_p R0]
  rcases ix_cases a with hb | ⟨i, hi, rfl⟩
  · rw [e_ix_bad hb, obX_l, r_nm_bad z00 hb, obn_s, if_neg (by decide), sz0]
    exact go_thr h w1 (by decide)
  · rw [e_ix_ok hi, obX_r, gd_p C0.1]
    by_cases hd : df (σ.1 1 1) (nI i)
    · rw [e_df_ok hi hd, obX_r, r_nm_ok z00 hi (by rw [z_2, ← h.mask]; exact hd), obn_s, if_pos rfl]
      exact hk i hi rfl hd
    · rw [e_df_no hi hd, obX_l, r_nm_no z00 hi (by rw [z_2, ← h.mask]; exact hd), obn_s, if_neg (by decide), sz0]
      exact go_thr h w2 (by decide)
theorem go_append0 : True := trivial
theorem go_errorOffset (h : Rel σ τ) : Go (dst (f_X6_errorOffset 0 σ) (f_X7_errorOffset 0 τ) ρ) := by
  unfold f_X6_errorOffset f_X7_errorOffset
  simp only [bnd_s]
  rw [gd_p C0.1, gd_p R0]
  refine go_dst (P := fun a s => a = σ.1 0 5 ∧ s = σ) (Q := fun a t => a = τ.1 0 7 ∧ t = sI τ 0 0 0) (Tr.ret ⟨rfl, rfl⟩) (Tr.ret ⟨?_, rfl⟩) ?_
  · rw [sI_1, if_neg (by decide)]
  · rintro a σ1 b τ1 ⟨rfl, rfl⟩ ⟨rfl, rfl⟩
    exact ⟨h.2.2.2, h.z⟩
theorem go_defined (h : Rel σ τ) : Go (dst (f_X6_defined 0 σ) (f_X7_defined 0 τ) ρ) := by
  unfold f_X6_defined f_X7_defined
  simp only [bnd_s]
  rw [gd_p C0.1, gd_p R0, C0.2.1, gd_p C1.1, R2.1, gd_p (d_gd0 R2.2), n00, z_2]
  refine go_dst (P := fun a s => a = σ.1 1 1 ∧ s = σ) (Q := fun a t => a = τ.1 2 0 ∧ t = sI τ 0 0 0) (Tr.ret ⟨rfl, rfl⟩) (Tr.ret ⟨rfl, rfl⟩) ?_
  rintro a σ1 b τ1 ⟨rfl, rfl⟩ ⟨rfl, rfl⟩
  exact ⟨h.mask, h.z⟩
/-! slots -/
theorem pl_cases (a b : Int32) : (∃ i j, i + j ≤ 3 ∧ a = nI i ∧ b = nI j) ∨ (slI a b = -1 ∧ ∀ τ : St, f_X7_isPlace a b τ = some (0, τ)) := by
  unfold slI f_X7_isPlace
  by_cases h1 : a < 0
  · rw [if_pos h1]; exact Or.inr ⟨rfl, fun τ => by rw [if_pos h1]⟩
  by_cases h2 : b < 0
  · rw [if_neg h1, if_pos h2]; exact Or.inr ⟨rfl, fun τ => by rw [if_neg h1, if_pos h2]⟩
  by_cases h3 : 3 < a
  · rw [if_neg h1, if_neg h2, if_pos h3]; exact Or.inr ⟨rfl, fun τ => by rw [if_neg h1, if_neg h2, if_pos h3]⟩
  obtain ⟨i, hi, rfl⟩ := nI_of h1
  obtain ⟨j, hj, rfl⟩ := nI_of h2
  have h3' : i ≤ 3 := by
    have : ¬ nI 3 < nI i := h3
    rw [nI_ltI (by decide) hi] at this; omega
  have e : (3 : Int32) - nI i = nI (3 - i) := pk_sub (a := 3) h3'
  rw [if_neg h1, if_neg h2, if_neg h3, e]
  by_cases h4 : i + j ≤ 3
  · exact Or.inl ⟨i, j, h4, rfl, rfl⟩
  · refine Or.inr ⟨by rw [if_neg (fun t => h4 (by have := (nI_leI hj (by omega)).mp t; omega))], fun τ => ?_⟩
    rw [if_neg h1, if_neg h2, if_neg h3, if_pos ((nI_ltI (by omega) hj).mpr (by omega))]
theorem r_pl_ok {i j : Nat} (h : i + j ≤ 3) : f_X7_isPlace (nI i) (nI j) τ = some (1, τ) := by
  unfold f_X7_isPlace
  have e : (3 : Int32) - nI i = nI (3 - i) := pk_sub (a := 3) (by omega)
  rw [if_neg (nI_pos (by omega)), if_neg (nI_pos (by omega)), if_neg (show ¬ (3 : Int32) < nI i from fun t => absurd ((nI_ltI (a := 3) (by decide) (by omega)).mp t) (by omega)), e, if_neg (fun t => absurd ((nI_ltI (by omega) (by omega)).mp t) (by omega))]
theorem e_slot_ok {i j : Nat} (h : i + j ≤ 3) : f_X6_requireSlot (nI i) (nI j) σ = some (.inr (nI (sl i j)), σ) := by
  unfold f_X6_requireSlot
  have hs := sl_lt i (by omega) j (by omega) h
  rw [e_slotOf, obn_s, sl_ok i (by omega) j (by omega), if_pos h, if_pos (nI_pos' (by omega))]
theorem e_slot_bad {a b : Int32} (h : slI a b = -1) : f_X6_requireSlot a b σ = some (.inl 3, σ) := by
  unfold f_X6_requireSlot
  rw [e_slotOf, obn_s, h, if_neg (by decide)]
theorem go_coefficient {a1 a2 a3 : Int32} (h : Rel σ τ) : Go (wst (f_L_coefficient a1 a2 a3 σ ρ) (f_X7_coefficient 0 a1 a2 a3 τ) Int32.toInt64) := by
  unfold f_L_coefficient f_X6_coefficient f_X7_coefficient
  simp only [bnd_s]
  refine go_model h (fun i hi ea hd => ?_)
  subst ea
  rcases pl_cases a2 a3 with ⟨u, w, hu, rfl, rfl⟩ | ⟨hb, hb2⟩
  · have hs := sl_lt u (by omega) w (by omega) hu
    rw [e_slot_ok hu, obX_r, gd_p (M_mp hi).1, e_coefficientAt (M_mp hi) hs, obn_s, r_pl_ok hu, obn_s, if_neg (by decide), gd_p R0, r_fails0 z00, obn_s, if_pos rfl, gd_p R0, r_place hu, obn_s, R2.1, d_ix, gd_p (d_gd R2.2 (by omega)), nI_clamp (by omega), z_2, (h.m hi hd).1]
    exact go_val h (dvI (by omega)).symm
  · rw [e_slot_bad hb, obX_l, hb2, obn_s, if_pos rfl, gd_p R0, r_fails1 z00 (by decide), obn_s, if_neg (by decide), sz0]
    exact go_thr h w3 (by decide)
def bad2 (a : Int32) : Prop := ¬ a = 0 ∧ ¬ a = 1 ∧ (a < 0 ∨ (¬ a < 0 ∧ 1 < a))
theorem zo_cases (a : Int32) : a = 0 ∨ a = 1 ∨ bad2 a := by
  by_cases h : a < 0
  · exact Or.inr (Or.inr ⟨fun t => by rw [t] at h; exact absurd h (by decide), fun t => by rw [t] at h; exact absurd h (by decide), Or.inl h⟩)
  · obtain ⟨j, hj, rfl⟩ := nI_of h
    by_cases h0 : j = 0
    · subst h0; exact Or.inl rfl
    · by_cases h1 : j = 1
      · subst h1; exact Or.inr (Or.inl rfl)
      · refine Or.inr (Or.inr ⟨fun t => h0 ((nI_eq (b := 0) hj (by decide)).mp t), fun t => h1 ((nI_eq (b := 1) hj (by decide)).mp t), Or.inr ⟨h, (nI_ltI (a := 1) (by decide) hj).mpr (by omega)⟩⟩)
theorem e_zo_bad {a : Int32} (h : bad2 a) : f_X6_requireZeroOrOne a σ = some (.inl 3, σ) := by
  unfold f_X6_requireZeroOrOne; rw [if_neg h.1, if_neg h.2.1]
theorem e_zo_0 : f_X6_requireZeroOrOne 0 σ = some (.inr (), σ) := by unfold f_X6_requireZeroOrOne; rw [if_pos rfl]
theorem e_zo_1 : f_X6_requireZeroOrOne 1 σ = some (.inr (), σ) := by unfold f_X6_requireZeroOrOne; rw [if_neg (by decide), if_pos rfl]
theorem r_zo_bad {a : Int32} (h : bad2 a) : f_X7_in a 0 1 τ = some (0, τ) := by
  unfold f_X7_in
  rcases h.2.2 with h | ⟨h, h2⟩
  · rw [if_pos h]
  · rw [if_neg h, if_pos h2]
theorem r_zo_0 : f_X7_in 0 0 1 τ = some (1, τ) := by unfold f_X7_in; rw [if_neg (by decide), if_neg (by decide)]
theorem r_zo_1 : f_X7_in 1 0 1 τ = some (1, τ) := by unfold f_X7_in; rw [if_neg (by decide), if_neg (by decide)]
theorem d_ix10 {i : Nat} : (((1 : Int32) + ((12 : Int32) * nI i)) + (10 : Int32)) = nI (1 + 12 * i + 10) := d_ix (k := 10)
theorem go_remainder {a1 a2 : Int32} (h : Rel σ τ) : Go (wst (f_L_remainder a1 a2 σ ρ) (f_X7_remainder 0 a1 a2 τ) Int32.toInt64) := by
  unfold f_L_remainder f_X6_remainder f_X7_remainder
  simp only [bnd_s]
  refine go_model h (fun i hi ea hd => ?_)
  subst ea
  have hm := (h.m hi hd).1
  rcases zo_cases a2 with rfl | rfl | hb
  · rw [e_zo_0, obX_r, if_pos rfl, gd_p (M_mp hi).1, r_zo_0, obn_s, if_neg (by decide), gd_p R0, r_fails0 z00, obn_s, if_pos rfl, gd_p R0, R2.1, d_ix10, Int32.add_zero, gd_p (d_gd R2.2 (by omega)), nI_clamp (by omega), z_2, val_lo, hm]
    exact go_val h (dvI (by omega)).symm
  · rw [e_zo_1, obX_r, if_neg (by decide), gd_p (M_mp hi).1, r_zo_1, obn_s, if_neg (by decide), gd_p R0, r_fails0 z00, obn_s, if_pos rfl, gd_p R0, R2.1, d_ix10, nI_1, gd_p (d_gd R2.2 (by omega)), nI_clamp (by omega), z_2, val_hi, hm]
    exact go_val h (dvI (k := 11) (by omega)).symm
  · rw [e_zo_bad hb, obX_l, r_zo_bad hb, obn_s, if_pos rfl, gd_p R0, r_fails1 z00 (by decide), obn_s, if_neg (by decide), sz0]
    exact go_thr h w3 (by decide)
theorem R47 : rR 0 24 = 47 ∧ kR 47 = (2, 12) := by decide +kernel
theorem R48 : rR 0 25 = 48 ∧ kR 48 = (2, 12) := by decide +kernel
theorem R49 : rR 0 26 = 49 ∧ kR 49 = (2, 12) := by decide +kernel
theorem R50 : rR 0 27 = 50 ∧ kR 50 = (2, 12) := by decide +kernel
theorem R51 : rR 0 28 = 51 ∧ kR 51 = (2, 12) := by decide +kernel
theorem R52 : rR 0 29 = 52 ∧ kR 52 = (2, 12) := by decide +kernel
/-- the reference has changed its longs and its first int alone -/
theorem Rel.fr {S : Nat → Prop} {τ' : St} {v : Int32} (h : Rel σ τ) (hF : Fr S (sI τ 0 0 v) τ') : Rel σ τ' := h.q Fg.rf (fun p j hp => by rw [hF.1, sI_1, if_neg hp])
theorem go_okF {S : Nat → Prop} {xs : List Nat} {tl : Int32 → Int64} {v : Int32} {Y : Option (Int32 × St)} (h : Rel σ τ) (hY : Tr Y (fun b τ1 => b = v ∧ Fr S (sI τ 0 0 0) τ1)) : Go (wst (wrp xs tl (some (.inr v, σ)) ρ) Y tl) :=
  go_ok (P := fun s => s = σ) (Q := fun t => Fr S (sI τ 0 0 0) t) (Tr.ret ⟨rfl, rfl⟩) (hY.mono (fun b τ1 hb => ⟨hb.1, by rw [hb.2.1, z00], hb.2⟩)) (fun σ1 τ1 h1 h2 => by rw [h1]; exact h.fr h2)
theorem go_bound {a1 a2 : Int32} (h : Rel σ τ) : Go (wst (f_L_bound a1 a2 σ ρ) (f_X7_bound 0 a1 a2 τ) Int32.toInt64) := by
  unfold f_L_bound f_X6_bound f_X7_bound
  simp only [bnd_s]
  refine go_model h (fun i hi ea hd => ?_)
  subst ea
  obtain ⟨hm, hf⟩ := h.m hi hd
  rcases zo_cases a2 with rfl | rfl | hb
  · rw [e_zo_0, obX_r, if_pos rfl, gd_p (M_mp hi).1, e_boundLow (M_mp hi), obn_s, r_zo_0, obn_s, if_neg (by decide), gd_p R0, r_fails0 z00, obn_s, if_pos rfl, gd_p R0, R2.1, R47.1, hm]
    refine go_okF (S := fun p => p = 47) h (Tr.obn ((r_take R2.2 R47.2 hi).mono (fun _ τ1 h1 => ?_)))
    rw [dv_z] at h1
    rw [if_pos rfl, r_spreadLow R47.2, obn_s, gd_p (r_gd10 R47.2), n10, rv_at (show 10 < 12 by decide), h1.1]
    exact Tr.ret ⟨rfl, h1.2⟩
  · rw [e_zo_1, obX_r, if_neg (by decide), gd_p (M_mp hi).1, e_boundHigh (M_mp hi), obn_s, r_zo_1, obn_s, if_neg (by decide), gd_p R0, r_fails0 z00, obn_s, if_pos rfl, gd_p R0, R2.1, R47.1, hm]
    refine go_okF (S := fun p => p = 47) h (Tr.obn ((r_take R2.2 R47.2 hi).mono (fun _ τ1 h1 => ?_)))
    rw [dv_z] at h1
    rw [if_neg (by decide), r_spreadHigh R47.2 (by rw [h1.1]; exact fit_bd' hf), obn_s, gd_p (r_gd11 R47.2), n11, rv_at (show 11 < 12 by decide), h1.1]
    exact Tr.ret ⟨rfl, h1.2⟩
  · rw [e_zo_bad hb, obX_l, r_zo_bad hb, obn_s, if_pos rfl, gd_p R0, r_fails1 z00 (by decide), obn_s, if_neg (by decide), sz0]
    exact go_thr h w3 (by decide)
end GO
