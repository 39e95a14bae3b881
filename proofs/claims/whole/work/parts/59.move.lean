def stW (h : Int64) (x y : V) : Option V → Option V → Option (V × V)
  | some u, some v => if fitN (mulW (cst h) u) 12 ∧ fitN (mulW (cst h) v) 12 ∧ fitN (addV x (mulW (cst h) u)) 12 ∧ fitN (addV y (mulW (cst h) v)) 12 then some (addV x (mulW (cst h) u), addV y (mulW (cst h) v)) else none
  | none, _ => none
  | some _, none => none
def stV (h : Int64) (x y f g : V) : Option (V × V) := stW h x y (compV f x y) (compV g x y)
/-- all places of the arithmetic at qa -/
def atM (qa : Nat) : Nat → Prop := fun x => qa ≤ x ∧ x ≤ qa + 11
theorem stW_n2 {h : Int64} {x y : V} {o : Option V} : stW h x y o none = none := by cases o <;> rfl
theorem stV_n1 {h : Int64} {x y f g : V} (e : compV f x y = none) : stV h x y f g = none := (congrArg (fun o => stW h x y o (compV g x y)) e).trans rfl
theorem stV_n2 {h : Int64} {x y f g : V} (e : compV g x y = none) : stV h x y f g = none := (congrArg (fun o => stW h x y (compV f x y) o) e).trans stW_n2
theorem stW_s {h : Int64} {x y u v : V} : stW h x y (some u) (some v) = if fitN (mulW (cst h) u) 12 ∧ fitN (mulW (cst h) v) 12 ∧ fitN (addV x (mulW (cst h) u)) 12 ∧ fitN (addV y (mulW (cst h) v)) 12 then some (addV x (mulW (cst h) u), addV y (mulW (cst h) v)) else none := by rw [stW]
theorem stV_s {h : Int64} {x y f g u v : V} (e : compV f x y = some u) (e' : compV g x y = some v) : stV h x y f g = if fitN (mulW (cst h) u) 12 ∧ fitN (mulW (cst h) v) 12 ∧ fitN (addV x (mulW (cst h) u)) 12 ∧ fitN (addV y (mulW (cst h) v)) 12 then some (addV x (mulW (cst h) u), addV y (mulW (cst h) v)) else none := by
  rw [← stW_s]; exact (congrArg (fun o => stW h x y o (compV g x y)) e).trans (congrArg (fun o => stW h x y (some u) o) e')
theorem n_off {m qa : Nat} (h : m + 1 < qa ∨ qa + 11 < m) : ¬ atM qa m ∧ ¬ atM qa (m + 1) ∧ m ≠ qa + 2 ∧ m ≠ qa + 4 := by
  unfold atM; refine ⟨?_, ?_, ?_, ?_⟩ <;> omega
theorem n_wC {qa q : Nat} (h1 : qa + 6 ≤ q) (h2 : q ≤ qa + 10) : ∀ a, atC qa q a → atM qa a := fun a t => by
  rcases t with t | t
  · unfold atP at t; unfold atM; omega
  · unfold at2 at t; unfold atM; omega
theorem n_wA {qa q : Nat} (h1 : qa + 6 ≤ q) (h2 : q ≤ qa + 10) : ∀ a, atA qa q a → atM qa a := fun a t => by unfold atA at t; unfold atM; omega
theorem n_w2 {qa q : Nat} (h1 : qa + 6 ≤ q) (h2 : q ≤ qa + 10) : ∀ a, at2 q a → atM qa a := fun a t => by unfold at2 at t; unfold atM; omega
theorem n_C {qa q b : Nat} (h1 : qa + 5 < b) (h2 : b ≠ q) (h3 : b ≠ q + 1) (h4 : b + 1 ≠ q) : ¬ atC qa q b ∧ ¬ atC qa q (b + 1) := by
  refine ⟨fun t => ?_, fun t => ?_⟩ <;> rcases t with t | t
  · unfold atP at t; omega
  · unfold at2 at t; omega
  · unfold atP at t; omega
  · unfold at2 at t; omega
theorem n_A {qa q b : Nat} (h1 : qa + 5 < b) (h2 : b ≠ q) (h3 : b ≠ q + 1) (h4 : b + 1 ≠ q) : ¬ atA qa q b ∧ ¬ atA qa q (b + 1) := by
  refine ⟨fun t => ?_, fun t => ?_⟩ <;> unfold atA at t <;> omega
theorem n6_10 (qa : Nat) : qa + 6 ≠ qa + 8 ∧ qa + 6 ≠ qa + 9 ∧ qa + 7 ≠ qa + 8 ∧ qa + 6 ≠ qa + 10 ∧ qa + 6 ≠ qa + 11 ∧ qa + 7 ≠ qa + 10 ∧ qa + 8 ≠ qa + 10 ∧ qa + 8 ≠ qa + 11 ∧ qa + 9 ≠ qa + 10 ∧ qa + 10 ≠ qa + 8 ∧ qa + 10 ≠ qa + 9 ∧ qa + 11 ≠ qa + 8 := by omega
theorem n_le (qa : Nat) : qa + 6 ≤ qa + 6 ∧ qa + 6 ≤ qa + 8 ∧ qa + 6 ≤ qa + 10 ∧ qa + 6 ≤ qa + 10 ∧ qa + 8 ≤ qa + 10 ∧ qa + 10 ≤ qa + 10 ∧ qa + 5 < qa + 6 ∧ qa + 5 < qa + 8 ∧ qa + 5 < qa + 10 := by omega
theorem n_68 (qa : Nat) : (¬ atC qa (qa + 8) (qa + 6) ∧ ¬ atC qa (qa + 8) (qa + 6 + 1)) ∧ (¬ atC qa (qa + 10) (qa + 6) ∧ ¬ atC qa (qa + 10) (qa + 6 + 1)) ∧ (¬ atC qa (qa + 10) (qa + 8) ∧ ¬ atC qa (qa + 10) (qa + 8 + 1)) ∧ (¬ atA qa (qa + 8) (qa + 6) ∧ ¬ atA qa (qa + 8) (qa + 6 + 1)) ∧ (¬ atA qa (qa + 8) (qa + 10) ∧ ¬ atA qa (qa + 8) (qa + 10 + 1)) ∧ (¬ atA qa (qa + 10) (qa + 8) ∧ ¬ atA qa (qa + 10) (qa + 8 + 1)) :=
  ⟨n_C (by omega) (by omega) (by omega) (by omega), n_C (by omega) (by omega) (by omega) (by omega), n_C (by omega) (by omega) (by omega) (by omega), n_A (by omega) (by omega) (by omega) (by omega), n_A (by omega) (by omega) (by omega) (by omega), n_A (by omega) (by omega) (by omega) (by omega)⟩
section MOVE
variable {x y f g qa : Nat} {h : Int64} {σ : St}
theorem e_moveModels (hA : isA qa) (hx : isM x) (hy : isM y) (hf : isM f) (hg : isM g) (hxy : x ≠ y) (ox : x + 1 < qa ∨ qa + 11 < x) (oy : y + 1 < qa ∨ qa + 11 < y) (of : f + 1 < qa ∨ qa + 11 < f) (og : g + 1 < qa ∨ qa + 11 < g) :
    Tr (f_X0_moveModels qa x y f g h σ) (fun r σ' => (∃ u v, stV h (val σ x) (val σ y) (val σ f) (val σ g) = some (u, v) ∧ r = 1 ∧ val σ' x = u ∧ val σ' y = v ∧ Fr (fun a => atM qa a ∨ at2 x a ∨ at2 y a) σ σ') ∨ (stV h (val σ x) (val σ y) (val σ f) (val σ g) = none ∧ r = 0 ∧ Fr (atM qa) σ σ')) := by
  have mS := hA.2.2.2.2.2.2.1
  have mX := hA.2.2.2.2.2.2.2.1
  have mY := hA.2.2.2.2.2.2.2.2
  have off : ∀ {m : Nat}, (m + 1 < qa ∨ qa + 11 < m) → ∀ {τ : St}, Fr (atM qa) σ τ → val τ m = val σ m := fun ho τ hF => hF.vl (n_off ho).1 (n_off ho).2.1
  obtain ⟨c86, c106, c108, a86, a810, a108⟩ := n_68 qa
  obtain ⟨l66, l68, l610, -, l810, l1010, -, -, -⟩ := n_le qa
  have nx := n_off ox
  have ny := n_off oy
  have nf := n_off of
  have ng := n_off og
  have n10x : qa + 10 ≠ x := fun e => nx.1 (by rw [← e]; exact ⟨Nat.le_add_right _ _, Nat.add_le_add_left (by decide) _⟩)
  have ne810 : qa + 8 ≠ qa + 10 := (n6_10 qa).2.2.2.2.2.2.1
  unfold f_X0_moveModels
  rw [hA.2.2.2.1.2.2.1, hA.2.2.2.1.2.2.2.1, hA.2.2.2.1.2.2.2.2]
  refine Tr.gd hA.1 (Tr.gd mS.1 (Tr.obn ((e_becomeConstant mS).mono (fun _ σ1 h1 => ?_))))
  obtain ⟨s1, hF1⟩ := h1
  have hF1 : Fr (atM qa) σ σ1 := hF1.weak (n_w2 l66 l610)
  have hc1 := e_composeModels (σ := σ1) (q := qa + 8) (p := f) (a := x) (b := y) hA mX hf hx hy nf.2.2.1 nf.2.2.2 nx.2.2.1 nx.2.2.2 ny.2.2.1 ny.2.2.2
  refine Tr.obn (Tr.mono hc1 (fun r σ2 h2 => ?_))
  obtain ⟨h2, hF2⟩ := h2
  rw [off of hF1, off ox hF1, off oy hF1] at h2
  have s2 : val σ2 (qa + 6) = cst h := by rw [← s1]; exact hF2.vl c86.1 c86.2
  have hF2 : Fr (atM qa) σ σ2 := hF1.tr (hF2.weak (n_wC l68 l810))
  rcases h2.symm with ⟨e1, rfl⟩ | ⟨u, e1, rfl, v2⟩
  · rw [if_pos rfl]; exact Tr.ret (Or.inr ⟨stV_n1 e1, rfl, hF2⟩)
  rw [if_neg (by decide)]
  have hc2 := e_composeModels (σ := σ2) (q := qa + 10) (p := g) (a := x) (b := y) hA mY hg hx hy ng.2.2.1 ng.2.2.2 nx.2.2.1 nx.2.2.2 ny.2.2.1 ny.2.2.2
  refine Tr.obn (Tr.mono hc2 (fun r σ3 h3 => ?_))
  obtain ⟨h3, hF3⟩ := h3
  rw [off og hF2, off ox hF2, off oy hF2] at h3
  have s3 : val σ3 (qa + 6) = cst h := by rw [← s2]; exact hF3.vl c106.1 c106.2
  have v3 : val σ3 (qa + 8) = u := by rw [← v2]; exact hF3.vl c108.1 c108.2
  have hF3 : Fr (atM qa) σ σ3 := hF2.tr (hF3.weak (n_wC l610 l1010))
  rcases h3.symm with ⟨e2, rfl⟩ | ⟨v, e2, rfl, y3⟩
  · rw [if_pos rfl]; exact Tr.ret (Or.inr ⟨stV_n2 e2, rfl, hF3⟩)
  rw [if_neg (by decide), stV_s e1 e2]
  refine Tr.obn ((e_multiplyModels (σ := σ3) hA mX mS mX).mono (fun r σ4 h4 => ?_))
  obtain ⟨v4, h4, hF4⟩ := h4
  rw [mulV_W (fun j hj => val_12 hj), s3, v3] at v4
  have s4 : val σ4 (qa + 6) = cst h := by rw [← s3]; exact hF4.vl a86.1 a86.2
  have y4 : val σ4 (qa + 10) = v := by rw [← y3]; exact hF4.vl a810.1 a810.2
  have hF4 : Fr (atM qa) σ σ4 := hF3.tr (hF4.weak (n_wA l68 l810))
  rw [v4] at h4
  rcases Decidable.em (¬ fitN (mulW (cst h) u) 12) with t1 | t1
  · rw [h4, bI_0 t1, if_pos rfl, if_neg (fun z => t1 z.1)]; exact Tr.ret (Or.inr ⟨rfl, rfl, hF4⟩)
  have t1 := Decidable.not_not.mp t1
  rw [h4, bI_1 t1, if_neg (by decide)]
  refine Tr.obn ((e_multiplyModels (σ := σ4) hA mY mS mY).mono (fun r σ5 h5 => ?_))
  obtain ⟨y5, h5, hF5⟩ := h5
  rw [mulV_W (fun j hj => val_12 hj), s4, y4] at y5
  have v5 : val σ5 (qa + 8) = mulW (cst h) u := by rw [← v4]; exact hF5.vl a108.1 a108.2
  have hF5 : Fr (atM qa) σ σ5 := hF4.tr (hF5.weak (n_wA l610 l1010))
  rw [y5] at h5
  rcases Decidable.em (¬ fitN (mulW (cst h) v) 12) with t2 | t2
  · rw [h5, bI_0 t2, if_pos rfl, if_neg (fun z => t2 z.2.1)]; exact Tr.ret (Or.inr ⟨rfl, rfl, hF5⟩)
  have t2 := Decidable.not_not.mp t2
  rw [h5, bI_1 t2, if_neg (by decide)]
  refine Tr.obn ((e_addModels (σ := σ5) mX hx mX).mono (fun r σ6 h6 => ?_))
  obtain ⟨v6, h6, hF6⟩ := h6
  rw [v5, off ox hF5] at v6
  have y6 : val σ6 (qa + 10) = mulW (cst h) v := by rw [← y5]; exact hF6.vl2 mX mY ne810.symm
  have hF6 : Fr (atM qa) σ σ6 := hF5.tr (hF6.weak (n_w2 l68 l810))
  rw [v6] at h6
  rcases Decidable.em (¬ fitN (addV (val σ x) (mulW (cst h) u)) 12) with t3 | t3
  · rw [h6, bI_0 t3, if_pos rfl, if_neg (fun z => t3 z.2.2.1)]; exact Tr.ret (Or.inr ⟨rfl, rfl, hF6⟩)
  have t3 := Decidable.not_not.mp t3
  rw [h6, bI_1 t3, if_neg (by decide)]
  refine Tr.obn ((e_addModels (σ := σ6) mY hy mY).mono (fun r σ7 h7 => ?_))
  obtain ⟨y7, h7, hF7⟩ := h7
  rw [y6, off oy hF6] at y7
  have v7 : val σ7 (qa + 8) = addV (val σ x) (mulW (cst h) u) := by rw [← v6]; exact hF7.vl2 mY mX ne810
  have hF7 : Fr (atM qa) σ σ7 := hF6.tr (hF7.weak (n_w2 l610 l1010))
  rw [y7] at h7
  rcases Decidable.em (¬ fitN (addV (val σ y) (mulW (cst h) v)) 12) with t4 | t4
  · rw [h7, bI_0 t4, if_pos rfl, if_neg (fun z => t4 z.2.2.2)]; exact Tr.ret (Or.inr ⟨rfl, rfl, hF7⟩)
  have t4 := Decidable.not_not.mp t4
  rw [h7, bI_1 t4, if_neg (by decide), if_pos ⟨t1, t2, t3, t4⟩]
  refine Tr.gd hx.1 (Tr.obn ((e_copyFrom hx mX).mono (fun _ σ8 h8 => ?_)))
  obtain ⟨v8, hF8⟩ := h8
  have y8 : val σ8 (qa + 10) = addV (val σ y) (mulW (cst h) v) := by rw [← y7]; exact hF8.vl2 hx mY n10x
  refine Tr.gd hy.1 (Tr.obn ((e_copyFrom hy mY).mono (fun _ σ9 h9 => ?_)))
  obtain ⟨y9, hF9⟩ := h9
  refine Tr.ret (Or.inl ⟨_, _, rfl, rfl, ?_, ?_, ?_⟩)
  · rw [hF9.vl2 hy hx hxy, v8, v7]
  · rw [y9, y8]
  · exact ((hF7.weak (fun a t => Or.inl t)).tr (hF8.weak (fun a t => Or.inr (Or.inl t)))).tr (hF9.weak (fun a t => Or.inr (Or.inr t)))
end MOVE
