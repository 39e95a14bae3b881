/-! STEPS -/
def soW (h : Int64) (its : V) : Option V → Option V
  | some u => if fitN (mulW (cst h) u) 12 then if fitN (addV its (mulW (cst h) u)) 12 then some (addV its (mulW (cst h) u)) else none else none
  | none => none
theorem soW_s {h : Int64} {its u : V} : soW h its (some u) = if fitN (mulW (cst h) u) 12 then if fitN (addV its (mulW (cst h) u)) 12 then some (addV its (mulW (cst h) u)) else none else none := rfl
def soV (h : Int64) (its p x y : V) : Option V := soW h its (compV p x y)
theorem st_so {h : Int64} {x y : V} {o o' : Option V} : (soW h x o = none → stW h x y o o' = none) ∧ (soW h y o' = none → stW h x y o o' = none) ∧ ∀ u v, soW h x o = some u → soW h y o' = some v → stW h x y o o' = some (u, v) ∧ fitN u 12 ∧ fitN v 12 := by
  rcases o with _ | a
  · exact ⟨fun _ => rfl, fun _ => rfl, fun u v e => nomatch e⟩
  rcases o' with _ | b
  · exact ⟨fun _ => rfl, fun _ => rfl, fun u v _ e => nomatch e⟩
  rw [soW_s, soW_s, stW_s]
  by_cases h1 : fitN (mulW (cst h) a) 12
  · by_cases h2 : fitN (mulW (cst h) b) 12
    · by_cases h3 : fitN (addV x (mulW (cst h) a)) 12
      · by_cases h4 : fitN (addV y (mulW (cst h) b)) 12
        · rw [if_pos h1, if_pos h2, if_pos h3, if_pos h4, if_pos (show fitN (mulW (cst h) a) 12 ∧ fitN (mulW (cst h) b) 12 ∧ fitN (addV x (mulW (cst h) a)) 12 ∧ fitN (addV y (mulW (cst h) b)) 12 from ⟨h1, h2, h3, h4⟩)]
          exact ⟨(fun e => nomatch e), (fun e => nomatch e), fun u v e e' => by cases e; cases e'; exact ⟨rfl, h3, h4⟩⟩
        · rw [if_pos h1, if_pos h2, if_pos h3, if_neg h4, if_neg (fun t => h4 t.2.2.2)]
          exact ⟨fun e => rfl, fun e => rfl, fun u v e e' => nomatch e'⟩
      · rw [if_pos h1, if_neg h3, if_neg (show ¬ (fitN (mulW (cst h) a) 12 ∧ fitN (mulW (cst h) b) 12 ∧ fitN (addV x (mulW (cst h) a)) 12 ∧ fitN (addV y (mulW (cst h) b)) 12) from fun t => h3 t.2.2.1)]
        exact ⟨fun e => rfl, fun e => rfl, fun u v e => nomatch e⟩
    · rw [if_neg h2, if_neg (show ¬ (fitN (mulW (cst h) a) 12 ∧ fitN (mulW (cst h) b) 12 ∧ fitN (addV x (mulW (cst h) a)) 12 ∧ fitN (addV y (mulW (cst h) b)) 12) from fun t => h2 t.2.1)]
      exact ⟨fun e => rfl, fun e => rfl, fun u v _ e => nomatch e⟩
  · rw [if_neg h1, if_neg (show ¬ (fitN (mulW (cst h) a) 12 ∧ fitN (mulW (cst h) b) 12 ∧ fitN (addV x (mulW (cst h) a)) 12 ∧ fitN (addV y (mulW (cst h) b)) 12) from fun t => h1 t.1)]
    exact ⟨fun e => rfl, fun e => rfl, fun u v e => nomatch e⟩
/-- the rows that a step of the reference writes -/
def atT (to : Nat) : Nat → Prop := fun x => (13 ≤ x ∧ x ≤ 16) ∨ (47 ≤ x ∧ x ≤ 50) ∨ x = to
theorem fit1_h {a : Int32} (h1 : ¬ a < -1000) (h2 : ¬ 1000 < a) : fit1 a.toInt64 := by
  have b := bd1000 h1 h2
  have e1 : (-100000000 : Int64).toInt = -100000000 := by decide
  have e2 : (100000000 : Int64).toInt = 100000000 := by decide
  constructor
  · rw [Int64.lt_iff_toInt_lt, e1]; have := b.1; omega
  · rw [Int64.lt_iff_toInt_lt, e2]; have := b.2; omega
theorem compV_fit {p x y v : V} (hv : compV p x y = some v) : fitN v 12 := by
  unfold compV at hv
  split at hv
  · unfold cmpV at hv
    split at hv
    · cases hv
    · split at hv
      · cases hv; assumption
      · cases hv
  · cases hv
section STEP
variable {σ τ ρ : St}
theorem r_stepOf {its b to : Nat} {h : Int32} (hi : its < 8) (hb : b < 8) (ht : isR to) (f0 : fitN (dv τ 2 0) 12) (f1 : fitN (dv τ 2 1) 12) (fb : fitN (dv τ 2 b) 12) (fi : fitN (dv τ 2 its) 12) (fh : fit1 h.toInt64) :
    Tr (f_X7_stepOf 0 (nI its) (nI b) h to τ) (fun r τ' => ((∃ u, soV h.toInt64 (dv τ 2 its) (dv τ 2 b) (dv τ 2 0) (dv τ 2 1) = some u ∧ r = 1 ∧ rv τ' to = u) ∨ (soV h.toInt64 (dv τ 2 its) (dv τ 2 b) (dv τ 2 0) (dv τ 2 1) = none ∧ r = 0)) ∧ Fr (atT to) τ τ') := by
  unfold f_X7_stepOf
  rw [R2.1, R47.1, R48.1, R49.1, R50.1]
  refine Tr.gd R0 (Tr.obn ((r_take (i := 0) R2.2 R47.2 (by decide)).mono (fun _ τ1 h1 => Tr.obn ((r_take (i := 1) R2.2 R48.2 (by decide)).mono (fun _ τ2 h2 => Tr.obn ((r_take R2.2 R49.2 hb).mono (fun _ τ3 h3 => ?_)))))))
  rw [dv_Fr h1.2] at h2
  rw [dv_Fr h2.2, dv_Fr h1.2] at h3
  have w : ∀ {S : Nat → Prop} {a b : St}, (∀ x, S x → (13 ≤ x ∧ x ≤ 16) ∨ (47 ≤ x ∧ x ≤ 50)) → Fr S a b → Fr (atT to) a b := fun hS hF => hF.weak (fun x t => (hS x t).elim Or.inl (fun t => Or.inr (Or.inl t)))
  have hF3 : Fr (atT to) τ τ3 := ((w (fun x t => by omega) h1.2).tr (w (fun x t => by omega) h2.2)).tr (w (fun x t => by omega) h3.2)
  have e47 : rv τ3 47 = dv τ 2 0 := by rw [h3.2.r1 (by decide), h2.2.r1 (by decide), h1.1]
  have e48 : rv τ3 48 = dv τ 2 1 := by rw [h3.2.r1 (by decide), h2.1]
  have e49 := h3.1
  have hY := r_compositionOf (σ := τ3) (to := 50) o47.2.2 o47.1 o47.2.1 R50.2 (by rw [e49]; exact fb) (by rw [e47]; exact f0) (by rw [e48]; exact f1)
  rw [e47, e48, e49] at hY
  unfold soV
  refine Tr.obn (hY.mono (fun r τ4 h4 => ?_))
  obtain ⟨-, h4, hF4⟩ := h4
  have hF4 : Fr (atT to) τ τ4 := hF3.tr (w (fun x t => by unfold atQ at t; omega) hF4)
  rcases h4 with ⟨u, hu, rfl, v50⟩ | ⟨hu, hne⟩
  · rw [if_pos rfl]
    have fu := compV_fit hu
    rw [hu]
    refine Tr.obn ((r_clearRow R49.2).mono (fun _ τ5 h5 => ?_))
    refine Tr.gd (r_gd00 R49.2) (Tr.bnd ?_)
    rw [n00]
    have hF6 : Fr (fun x => x = 49) τ4 (sJ τ5 49 0 h.toInt64) := h5.2.tr (Fr_J rfl)
    have hF6' : Fr (atT to) τ (sJ τ5 49 0 h.toInt64) := hF4.tr (w (fun x t => by omega) hF6)
    refine Tr.obn ((r_take R2.2 R47.2 hi).mono (fun _ τ7 h7 => ?_))
    rw [dv_Fr hF6'] at h7
    have hF7 : Fr (atT to) τ τ7 := hF6'.tr (w (fun x t => by omega) h7.2)
    have w49 : rv τ7 49 = cst h.toInt64 := by
      rw [h7.2.r1 (by decide), rv_J (by decide), h5.1]; funext j; unfold setV cst; split <;> rfl
    have w50 : rv τ7 50 = u := by rw [h7.2.r1 (by decide), hF6.r1 (by decide), v50]
    refine Tr.obn ((r_productOf (σ := τ7) R49.2 R50.2 R50.2 (by decide) (by decide) (by rw [w49]; exact fit_cst fh) (by rw [w50]; exact fu)).mono (fun c τ8 h8 => ?_))
    obtain ⟨h8, h9, hF8⟩ := h8
    rw [w49, w50] at h8
    rw [h8] at h9
    have hF8' : Fr (atT to) τ τ8 := hF7.tr (w (fun x t => by omega) hF8)
    rw [soW_s]
    by_cases g1 : fitN (mulW (cst h.toInt64) u) 12
    · rw [h9, bI_1 g1, if_neg (by decide), if_pos g1]
      refine Tr.obn ((r_add (σ := τ8) R47.2 R50.2 ht).mono (fun c2 τ9 ha => ?_))
      obtain ⟨ha, hb2, hF9⟩ := ha
      have w47 : rv τ8 47 = dv τ 2 its := by rw [hF8.rv (by omega), h7.1]
      rw [w47, h8] at ha
      rw [ha] at hb2
      have hF9' : Fr (atT to) τ τ9 := hF8'.tr (hF9.weak (fun x t => Or.inr (Or.inr t)))
      by_cases g2 : fitN (addV (dv τ 2 its) (mulW (cst h.toInt64) u)) 12
      · rw [hb2, bI_1 g2, if_neg (by decide), if_pos g2]
        exact Tr.ret ⟨Or.inl ⟨_, rfl, rfl, ha⟩, hF9'⟩
      · rw [hb2, bI_0 g2, if_pos rfl, if_neg g2]
        exact Tr.ret ⟨Or.inr ⟨rfl, rfl⟩, hF9'⟩
    · rw [h9, bI_0 g1, if_pos rfl, if_neg g1]
      exact Tr.ret ⟨Or.inr ⟨rfl, rfl⟩, hF8'⟩
  · rw [if_neg hne, hu]
    exact Tr.ret ⟨Or.inr ⟨rfl, rfl⟩, hF4⟩
theorem or_set : ∀ k, k < 256 → ∀ a, a < 8 → df (nI k) (nI a) → (nI k ||| ((1 : Int32) <<< (nI a &&& 31))) = nI k := by decide +kernel
theorem setS_upd {s : Snap} {a : Nat} {v : V} (hk : ∃ k, k < 256 ∧ s.1 = nI k) (ha : a < 8) (hd : df s.1 (nI a)) : setS s a v = updS s a v := by
  obtain ⟨k, hk, e⟩ := hk
  unfold setS updS
  rw [e] at hd ⊢
  rw [or_set k hk a ha hd]
theorem mask4 : ∀ k, k < 256 → ((nI k &&& 15) = 15 ↔ df (nI k) (nI 0) ∧ df (nI k) (nI 1) ∧ df (nI k) (nI 2) ∧ df (nI k) (nI 3)) := by decide +kernel
def d4 (m : Int32) : Prop := df m (nI 0) ∧ df m (nI 1) ∧ df m (nI 2) ∧ df m (nI 3)
theorem step_loop {a1 : Int32} {mm : Nat} (hm : mm ≤ 20) (fh : fit1 a1.toInt64) : ∀ (n k : Nat) (σ τ : St), k ≤ mm → mm < n + k → Rel σ τ → τ.1 0 0 = 0 → d4 (σ.1 1 1) → ∃ c σ1 τ1, f_X6_step_L61 n 0 a1 (nI mm) (mp 0) (mp 1) (mp 2) (mp 3) (nI k) σ = some (Sum.inr c, σ1) ∧ f_X7_step_L76 n 0 a1 (nI mm) (nI k) τ = some (c, τ1) ∧ Rel σ1 τ1 ∧ τ1.1 0 0 = 0 := by
  intro n
  induction n with
  | zero => intro k σ τ h1 h2; omega
  | succ n ih =>
    intro k σ τ h1 h2 h t0 hd
    rw [f_X6_step_L61, f_X7_step_L76]
    by_cases hk : k = mm
    · subst hk
      rw [if_pos (show nI k ≤ nI k from Int32.le_refl _), if_pos (show nI k ≤ nI k from Int32.le_refl _)]
      exact ⟨nI k, σ, τ, rfl, rfl, h, t0⟩
    · have hnk : ¬ nI mm ≤ nI k := fun t => by have := (nI_leI (by omega) (by omega)).mp t; omega
      obtain ⟨d0, d1, d2, d3⟩ := hd
      obtain ⟨m0, f0⟩ := h.m (i := 0) (by decide) d0
      obtain ⟨m1, f1⟩ := h.m (i := 1) (by decide) d1
      obtain ⟨m2, f2⟩ := h.m (i := 2) (by decide) d2
      obtain ⟨m3, f3⟩ := h.m (i := 3) (by decide) d3
      obtain ⟨c, σ1, e1, q⟩ := e_moveModels (σ := σ) (h := a1.toInt64) isA_165 (M_mp (i := 0) (by decide)) (M_mp (i := 1) (by decide)) (M_mp (i := 2) (by decide)) (M_mp (i := 3) (by decide)) (by decide) (by decide) (by decide) (by decide) (by decide)
      rw [m0, m1, m2, m3] at q
      obtain ⟨c1, τ1, e2, p1, hF1⟩ := r_stepOf (τ := τ) (its := 0) (b := 2) (to := 51) (h := a1) (by decide) (by decide) R51.2 f0 f1 f2 f0 fh
      rw [if_neg hnk, if_neg hnk, gd_p C0.1, C0.2.2.2.1, gd_p isA_165.1, e1, obn_s, gd_p R0, R51.1, R52.1, R2.1, show f_X7_stepOf 0 0 2 a1 51 τ = some (c1, τ1) from e2, obn_s]
      have so := st_so (h := a1.toInt64) (x := dv τ 2 0) (y := dv τ 2 1) (o := compV (dv τ 2 2) (dv τ 2 0) (dv τ 2 1)) (o' := compV (dv τ 2 3) (dv τ 2 0) (dv τ 2 1))
      unfold soV at p1
      unfold stV at q
      generalize compV (dv τ 2 2) (dv τ 2 0) (dv τ 2 1) = o at so p1 q
      have bad : stW a1.toInt64 (dv τ 2 0) (dv τ 2 1) o (compV (dv τ 2 3) (dv τ 2 0) (dv τ 2 1)) = none → c = 0 ∧ Fr (atM 165) σ σ1 := fun e => by
        rcases q with ⟨u, v, hq, -⟩ | ⟨-, hc, hF⟩
        · rw [e] at hq; cases hq
        · exact ⟨hc, hF⟩
      have stop : ∀ τ2, Fr (fun _ => True) τ τ2 → c = 0 → Fr (atM 165) σ σ1 → Rel σ1 τ2 ∧ τ2.1 0 0 = 0 := fun τ2 hF _ hC => ⟨h.q (hC.fg (fun p t => by unfold atM at t; omega)) (fun p j _ => by rw [hF.1]), by rw [hF.1]; exact t0⟩
      rcases p1 with ⟨u, hu, rfl, v51⟩ | ⟨hu, rfl⟩
      · rw [if_neg (show ¬ (1 : Int32) = 0 by decide)]
        obtain ⟨c2, τ2, e3, p2, hF2⟩ := r_stepOf (τ := τ1) (its := 1) (b := 3) (to := 52) (h := a1) (by decide) (by decide) R52.2 (by rw [dv_Fr hF1]; exact f0) (by rw [dv_Fr hF1]; exact f1) (by rw [dv_Fr hF1]; exact f3) (by rw [dv_Fr hF1]; exact f1) fh
        rw [dv_Fr hF1, dv_Fr hF1, dv_Fr hF1] at p2
        rw [show f_X7_stepOf 0 1 3 a1 52 τ1 = some (c2, τ2) from e3, obn_s]
        unfold soV at p2
        generalize compV (dv τ 2 3) (dv τ 2 0) (dv τ 2 1) = o' at so p2 q bad
        rcases p2 with ⟨v, hv, rfl, v52⟩ | ⟨hv, rfl⟩
        · obtain ⟨hs, fu, fv⟩ := so.2.2 u v hu hv
          rcases q with ⟨u', v', hq, rfl, x0, x1, hC⟩ | ⟨hq, -⟩
          · rw [hs] at hq
            have hu' : u = u' ∧ v = v' := by cases hq; exact ⟨rfl, rfl⟩
            obtain ⟨rfl, rfl⟩ := hu'
            have w51 : rv τ2 51 = u := by rw [hF2.rv (by unfold atT; omega), v51]
            obtain ⟨_, τ3, e4, g1, g2⟩ := r_give (σ := τ2) (i := 0) R2.2 R51.2 (by decide) (by rw [w51]; exact fu)
            have w52 : rv τ3 52 = v := by rw [rv_of (g2.2 52 (fun t => t)), v52]
            obtain ⟨_, τ4, e5, g3, g4⟩ := r_give (σ := τ3) (i := 1) R2.2 R52.2 (by decide) (by rw [w52]; exact fv)
            rw [if_neg (show ¬ (1 : Int32) = 0 by decide), if_neg (show ¬ (1 : Int32) = 0 by decide), show f_X7_give 51 2 0 τ2 = some ((), τ3) from e4, obn_s, show f_X7_give 52 2 1 τ3 = some ((), τ4) from e5, obn_s, bnd_s, bnd_s, nI_1]
            have hT : Tf τ τ4 := fun p j hp _ => by rw [g4.1 p hp, g2.1 p hp, hF2.1, hF1.1]
            have sdd : sd τ2 2 = sd τ 2 := by unfold sd dv; rw [hF2.1, hF1.1]
            rw [sdd, w51] at g1
            rw [g1, w52] at g3
            have hsn : sn σ1 1 = updS (updS (sn σ 1) 0 u) 1 v := by
              unfold sn updS
              rw [hC.1]
              congr 1
              funext i
              dsimp only
              by_cases hi : i < 8
              · rw [if_pos hi]
                by_cases i1 : i = 1
                · rw [if_pos i1, i1]; exact x1
                · rw [if_neg i1]
                  by_cases i0 : i = 0
                  · rw [if_pos i0, i0]; exact x0
                  · rw [if_neg i0, if_pos hi]
                    exact hC.vl (fun t => by unfold atM at2 mp at t; omega) (fun t => by unfold atM at2 mp at t; omega)
              · rw [if_neg hi, if_neg (by omega), if_neg (by omega), if_neg hi]
            have hmask : ∃ k, k < 256 ∧ (sn σ 1).1 = nI k := by obtain ⟨k, a, b⟩ := h.1.2.1; exact ⟨k, a, h.1.1.trans b⟩
            have es : setS (setS (sn σ 1) 0 u) 1 v = sn σ1 1 := by
              rw [hsn, setS_upd hmask (by decide) d0]
              exact setS_upd (s := updS (sn σ 1) 0 u) hmask (by decide) d1
            have hS : SR (sn σ1 1) (sd τ4 2) := by
              rw [← es, g3]
              exact (h.1.set (by decide) fu).set (by decide) fv
            have hrel : Rel σ1 τ4 := h.gen (hC.fg (fun p t => by
              rcases t with t | t | t
              · unfold atM at t; exact Or.inr (by omega)
              · unfold at2 mp at t; left; unfold atS; omega
              · unfold at2 mp at t; left; unfold atS; omega)) hT hS
            refine ih (k + 1) σ1 τ4 (by omega) (by omega) hrel (by rw [g4.1 0 (by decide), g2.1 0 (by decide), hF2.1, hF1.1]; exact t0) ?_
            rw [hC.1]; exact ⟨d0, d1, d2, d3⟩
          · rw [hs] at hq; cases hq
        · obtain ⟨rfl, hC⟩ := bad (so.2.1 hv)
          rw [if_pos rfl, if_pos rfl]
          obtain ⟨a, b⟩ := stop τ2 ((tt hF1).tr (tt hF2)) rfl hC
          exact ⟨_, _, _, rfl, rfl, a, b⟩
      · obtain ⟨rfl, hC⟩ := bad (so.1 hu)
        rw [if_pos rfl, if_pos rfl]
        obtain ⟨a, b⟩ := stop τ1 (tt hF1) rfl hC
        exact ⟨_, _, _, rfl, rfl, a, b⟩
theorem w21 {xs : List Nat} {tl : Int32 → Int64} : ∀ σ1, wrp (2 :: xs) tl (some (.inl 2, σ1)) ρ = some (1, σ1, ρ) := fun _ => rfl
theorem w32 {xs : List Nat} {tl : Int32 → Int64} : ∀ σ1, wrp (2 :: 3 :: xs) tl (some (.inl 3, σ1)) ρ = some (2, σ1, ρ) := fun _ => rfl
theorem k20 : (1 : Int32).toInt64 = 1 ∧ (20 : Int32).toInt64 = 20 := by decide
theorem go_step {a1 a2 : Int32} (h : Rel σ τ) : Go (wst (f_L_step a1 a2 σ ρ) (f_X7_step 0 a1 a2 τ) Int32.toInt64) := by
  unfold f_L_step f_X6_step f_X7_step
  simp only [bnd_s]
  have hm := h.mask
  obtain ⟨km, hk1, hk2⟩ := h.1.2.1
  have hk2 : τ.1 2 0 = nI km := hk2
  have m4 := mask4 km hk1
  rw [gd_p C0.1, gd_p R0, R2.1, gd_p (d_gd0 R2.2), n00, z_2]
  have no : ¬ d4 (σ.1 1 1) → ∀ X, X = some ((Sum.inl 2 : Nat ⊕ Int32), σ) → Go (wst (wrp [2, 3] Int32.toInt64 X ρ) (some (0, sI τ 0 0 1)) Int32.toInt64) := fun _ X hX => by rw [hX]; exact go_thr h w21 (by decide)
  by_cases hd : d4 (σ.1 1 1)
  · have hd' := hd
    obtain ⟨d0, d1, d2, d3⟩ := hd'
    have hb : (τ.1 2 0 &&& 15) = 15 := by rw [hk2]; exact m4.mpr (by rw [← hk2, ← hm]; exact hd)
    rw [if_pos hb, show f_X6_requireDefined 0 0 σ = some (.inr (mp 0), σ) from e_df_ok (i := 0) (by decide) d0, obX_r, show f_X6_requireDefined 0 1 σ = some (.inr (mp 1), σ) from e_df_ok (i := 1) (by decide) d1, obX_r, show f_X6_requireDefined 0 2 σ = some (.inr (mp 2), σ) from e_df_ok (i := 2) (by decide) d2, obX_r, show f_X6_requireDefined 0 3 σ = some (.inr (mp 3), σ) from e_df_ok (i := 3) (by decide) d3, obX_r, gd_p R0, r_fails0 z00, obn_s, if_pos rfl]
    have bx := bt_cases a1 (-1000) 1000
    have bm := bt_cases a2 1 20
    rw [k1000.1, k1000.2] at bx
    rw [k20.1, k20.2] at bm
    rcases bx with ⟨x1, x2, x3, x4⟩ | ⟨-, x3, x4⟩
    · rw [x3, obX_r, x4, obn_s, if_neg (by decide)]
      rcases bm with ⟨y1, y2, y3, y4⟩ | ⟨-, y3, y4⟩
      · obtain ⟨mm, hmm, rfl⟩ : ∃ mm, mm ≤ 20 ∧ a2 = nI mm := by
          have hn : ¬ a2 < 0 := fun t => y1 (by rw [Int32.lt_iff_toInt_lt] at t ⊢; have e1 : (1 : Int32).toInt = 1 := by decide
                                                have e0 : (0 : Int32).toInt = 0 := by decide
                                                omega)
          obtain ⟨j, hj, rfl⟩ := nI_of hn
          refine ⟨j, ?_, rfl⟩
          have : ¬ nI 20 < nI j := y2
          rw [nI_ltI (by decide) hj] at this
          omega
        obtain ⟨σ1, τ1, e1, e2, hr, s1, s2, t0⟩ := rem_both h
        have hd1 : d4 (σ1.1 1 1) := by
          have e : σ1.1 1 1 = σ.1 1 1 := congrArg Prod.fst s1
          rw [e]; exact hd
        obtain ⟨c, σ2, τ2, e3, e4, hr2, t2⟩ := step_loop hmm (fit1_h x1 x2) FU 0 σ1 τ1 (Nat.zero_le _) (by show mm < 4096 + 0; omega) hr t0 hd1
        rw [y3, obX_r, C0.2.2.1, C0.2.1, gd_p C19.1, e1, obn_s, y4, obn_s, if_neg (by decide), gd_p R0, r_fails0 z00, obn_s, if_pos rfl, gd_p R0, e2, obn_s, show f_X6_step_L61 FU 0 a1 (nI mm) (mp 0) (mp 1) (mp 2) (mp 3) 0 σ1 = some (Sum.inr c, σ2) from e3, show f_X7_step_L76 FU 0 a1 (nI mm) 0 τ1 = some (c, τ2) from e4]
        exact go_ok (P := fun s => s = σ2) (Q := fun t => t = τ2) (Tr.ret ⟨rfl, rfl⟩) (Tr.ret ⟨rfl, t2, rfl⟩) (fun s t hs ht => by rw [hs, ht]; exact hr2)
      · rw [y3, obX_l, y4, obn_s, if_pos rfl, gd_p R0, r_fails1 z00 (by decide), obn_s, if_neg (by decide), sz0]
        exact go_thr h w32 (by decide)
    · rw [x3, obX_l, x4, obn_s, if_pos rfl, gd_p R0, r_fails1 z00 (by decide), obn_s, if_neg (by decide), sz0]
      exact go_thr h w32 (by decide)
  · have hb : ¬ (τ.1 2 0 &&& 15) = 15 := fun t => hd (by rw [hk2] at t; have := m4.mp t; rw [← hk2, ← hm] at this; exact this)
    rw [if_neg hb, gd_p R0, r_fails1 z00 (by decide), obn_s, if_neg (by decide), sz0]
    refine no hd _ ?_
    by_cases d0 : df (σ.1 1 1) (nI 0)
    · rw [show f_X6_requireDefined 0 0 σ = some (.inr (mp 0), σ) from e_df_ok (i := 0) (by decide) d0, obX_r]
      by_cases d1 : df (σ.1 1 1) (nI 1)
      · rw [show f_X6_requireDefined 0 1 σ = some (.inr (mp 1), σ) from e_df_ok (i := 1) (by decide) d1, obX_r]
        by_cases d2 : df (σ.1 1 1) (nI 2)
        · rw [show f_X6_requireDefined 0 2 σ = some (.inr (mp 2), σ) from e_df_ok (i := 2) (by decide) d2, obX_r]
          have d3 : ¬ df (σ.1 1 1) (nI 3) := fun d3 => hd ⟨d0, d1, d2, d3⟩
          rw [show f_X6_requireDefined 0 3 σ = some (.inl 2, σ) from e_df_no (i := 3) (by decide) d3, obX_l]
        · rw [show f_X6_requireDefined 0 2 σ = some (.inl 2, σ) from e_df_no (i := 2) (by decide) d2, obX_l]
      · rw [show f_X6_requireDefined 0 1 σ = some (.inl 2, σ) from e_df_no (i := 1) (by decide) d1, obX_l]
    · rw [show f_X6_requireDefined 0 0 σ = some (.inl 2, σ) from e_df_no (i := 0) (by decide) d0, obX_l]
end STEP
