/-! THE START: both sides, as the constructors leave them; the loop from there -/
set_option maxRecDepth 1000000 in
theorem z_9 (i : Nat) : nu Mfin 6 i = 0 := rfl
theorem start_IV : IV 0 Mfin Mfin := by
  refine ⟨0, 0, 0, none, ⟨by decide +kernel, by decide +kernel⟩, ⟨⟨by decide, by decide⟩, ⟨by decide +kernel, by decide +kernel⟩, ⟨by decide +kernel, by decide +kernel⟩, fun w i h1 h2 => ?_, fun i _ => z_9 i⟩, ⟨0, 0, Nat.le_refl _, by decide, by decide +kernel, by decide +kernel, by decide +kernel, by decide +kernel, fun i h => absurd h (Nat.not_lt_zero i)⟩, ⟨0, by decide, by decide +kernel, by decide +kernel, fun i h => absurd h (Nat.not_lt_zero i)⟩, ⟨Or.inl ⟨by decide +kernel, by decide +kernel⟩, by decide +kernel, by decide +kernel⟩, fun q hq => Or.inl ?_, ⟨⟨by decide, by decide +kernel, by decide +kernel⟩, fun i h => absurd h (Nat.not_lt_zero i), 0, by decide, by decide +kernel, by decide +kernel, fun i h => absurd h (Nat.not_lt_zero i)⟩, ⟨by decide +kernel, Or.inl ⟨by decide +kernel, by decide +kernel⟩⟩, ⟨Or.inl ⟨by decide +kernel, by decide +kernel⟩, ⟨by decide +kernel, by decide +kernel, by decide +kernel⟩, fun z => ?_⟩, ⟨Or.inl ⟨by decide +kernel, by decide +kernel⟩, Or.inl ⟨by decide +kernel, by decide +kernel⟩, by decide +kernel⟩⟩
  · have q : ∀ w, w < 10 → ∀ i, i < lim 0 0 w → mu Mfin w i = nu Mfin w i ∧ lo w ≤ nu Mfin w i ∧ nu Mfin w i ≤ hi 0 w := by decide +kernel
    exact q w h1 i h2
  · have z : ∀ q, q < 6 → gI Mfin 20 q = -1 ∧ gI Mfin 93 q = -1 := by decide +kernel
    exact z q hq
  · have q : ¬ gI Mfin 34 5 = gI Mfin 1 3 := by decide +kernel
    exact absurd z q
theorem pure_law : ∀ (L : Nat) (xs : Nat → Int), L ≤ 3072 → (∀ i, r32 (xs i)) → g_law_L18 L xs FU 0 Mfin Mfin = some () := fun L xs hL hx => loop_l hL hx 513 0 FU Mfin Mfin rfl (by unfold FU; decide) start_IV
