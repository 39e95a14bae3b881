/-! EVERY RUN OF CALLS -/
theorem go_stp {σ τ ρ : St} {a1 a2 a3 a4 a5 : Int32} (h : Rel σ τ) : ∀ j : Nat, Go (stp j a1 a2 a3 a4 a5 σ τ ρ)
  | 0 => go_append h
  | 1 => go_load h
  | 2 => go_errorOffset h
  | 3 => go_defined h
  | 4 => go_coefficient h
  | 5 => go_remainder h
  | 6 => go_bound h
  | 7 => go_value h
  | 8 => go_degree h
  | 9 => go_covers h
  | 10 => go_reason h
  | 11 => go_add h
  | 12 => go_subtract h
  | 13 => go_multiply h
  | 14 => go_compose h
  | 15 => go_integrate h
  | 16 => go_step h
  | 17 => go_sweep h
  | 18 => go_wrap h
  | 19 => go_setCoefficient h
  | 20 => go_setRemainder h
  | 21 => go_clear h
  | 22 => go_undo h
  | 23 => go_checksum h
  | _ + 24 => ⟨σ, τ, ρ, rfl, h⟩
theorem rel0 : Rel σC0 σR0 := by
  have c0 : ∀ p k, ¬ (p = 0 ∧ k = 5) → σC0.1 p k = 0 := fun p k h => if_neg h
  have r0 : ∀ p k, ¬ (p = 0 ∧ k = 7) → σR0.1 p k = 0 := fun p k h => if_neg h
  refine ⟨⟨?_, ⟨0, by decide, ?_⟩, fun i hi hd => ?_⟩, ⟨0, 0, by decide, by decide, ?_, ?_, ?_, fun k hk => absurd hk (by omega)⟩, ⟨⟨0, by decide, ?_, ?_⟩, fun k hk => ⟨?_, 0, by decide, ?_⟩⟩, ?_⟩
  · show σC0.1 1 1 = σR0.1 2 0
    rw [c0 1 1 (by decide), r0 2 0 (by decide)]
  · show σR0.1 2 0 = nI 0
    rw [r0 2 0 (by decide)]; rfl
  · exfalso
    have hd : df (σR0.1 2 0) (nI i) := hd
    rw [r0 2 0 (by decide)] at hd
    have := (df_bit 0 (by decide) i hi).mp hd
    rw [Nat.zero_testBit] at this
    cases this
  · rw [c0 19 1 (by decide)]; rfl
  · rw [c0 19 2 (by decide)]; rfl
  · rw [r0 0 11 (by decide)]; rfl
  · rw [c0 178 1 (by decide)]; rfl
  · rw [r0 0 2 (by decide)]; rfl
  · rw [c0 179 k (fun t => absurd t.1 (by decide)), r0 1 k (fun t => absurd t.1 (by decide))]
  · rw [r0 1 k (fun t => absurd t.1 (by decide))]; rfl
  · have e1 : σC0.1 0 5 = -1 := by decide
    have e2 : σR0.1 0 7 = -1 := by decide
    rw [e1, e2]
theorem plain {xs : Nat → Int32} : ∀ (n i : Nat) (σ τ ρ : St), Rel σ τ → ∃ r, rn xs n i σ τ ρ = some r
  | 0, _, σ, τ, ρ, _ => ⟨(σ, τ, ρ), rfl⟩
  | n + 1, i, σ, τ, ρ, h => by
    obtain ⟨σ1, τ1, ρ1, e, h1⟩ := go_stp (a1 := xs (i + 1)) (a2 := xs (i + 2)) (a3 := xs (i + 3)) (a4 := xs (i + 4)) (a5 := xs (i + 5)) (ρ := ρ) h (xs i &&& 31).toNatClampNeg
    obtain ⟨r, hr⟩ := plain n (i + 6) σ1 τ1 ρ1 h1
    refine ⟨r, ?_⟩
    rw [rn, e]
    exact hr
