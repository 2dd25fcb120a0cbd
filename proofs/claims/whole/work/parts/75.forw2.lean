/-! THE FORWARD TABLE: one word -/
theorem okG_s {nW p a s w : Nat} {so se : Nat → Nat} {pr : Nat → Nat → Nat → Nat} {T T' : Mem} {v : Int} (hw : w < nW) (hp : p ≤ 5) (hso : ∀ w, w < nW → so w < 3) (hpr : ∀ w a p, w < nW → pr w a p ≤ 99) (hf : fol a (so w) = true) (hx : s ||| se w < 64) (hX : IsQ (pco so pr 3 0) (fun t' => ∃ t, t' = t ++ [w] ∧ Xn nW so se p a s t) v) (h : okG nW so se pr p a s w T) (h1 : gI T' 82 (128 * so w + 64 * wh (so w) + (s ||| se w)) = if gI T 82 (128 * so w + 64 * wh (so w) + (s ||| se w)) ≤ v then gI T 82 (128 * so w + 64 * wh (so w) + (s ||| se w)) else v) (h2 : ∀ j, j ≠ 128 * so w + 64 * wh (so w) + (s ||| se w) → gI T' 82 j = gI T 82 j) : okG nW so se pr p a s (w + 1) T' := by
  have s3 := hso w hw
  have wb : wh (so w) < 2 := by unfold wh; split <;> omega
  intro b wh' x hb hwh hx'
  by_cases e : b = so w ∧ wh' = wh b ∧ x = s ||| se w
  · obtain ⟨rfl, rfl, rfl⟩ := e
    rw [h1]
    refine IsQ_u (h _ _ _ hb hwh hx') hX (fun t ht => ?_) (fun t => ?_)
    · have hc : ∃ b, chn nW so 3 t b ∧ t.length = p + 1 := by
        rcases ht with ⟨-, u, v, c, rfl, z1, z2, z3, z4, z5, -⟩ | ⟨u, rfl, z1, z2, -⟩
        · exact ⟨_, (chn_a u 3).mpr ⟨c, z2, z3, z4, z5⟩, by rw [List.length_append, z1]; rfl⟩
        · exact ⟨so w, (chn_a u 3).mpr ⟨a, z2, hw, hf, rfl⟩, by rw [List.length_append, z1]; rfl⟩
      obtain ⟨b, c1, c2⟩ := hc
      have := pco_le (so := so) hpr t 3 0 (chn_w t 3 b c1)
      omega
    · rw [Zg_s hw]
      constructor
      · rintro ⟨q1, q2 | ⟨-, -, -, q3⟩⟩
        · exact Or.inl ⟨q1, q2⟩
        · exact Or.inr q3
      · rintro (⟨q1, q2⟩ | q3)
        · exact ⟨q1, Or.inl q2⟩
        · exact ⟨rfl, Or.inr ⟨hf, rfl, rfl, q3⟩⟩
  · have ne : 128 * b + 64 * wh' + x ≠ 128 * so w + 64 * wh (so w) + (s ||| se w) := fun q => by
      have hb' : b = so w := by omega
      subst hb'
      exact e ⟨rfl, by omega, by omega⟩
    rw [h2 _ ne]
    refine IsQ_same (h b wh' x hb hwh hx') (fun t => ?_)
    rw [Zg_s hw]
    constructor
    · rintro ⟨q1, q2 | ⟨-, q3, q4, -⟩⟩
      · exact ⟨q1, q2⟩
      · exact absurd ⟨q3.symm, q1, q4.symm⟩ e
    · rintro ⟨q1, q2⟩
      exact ⟨q1, Or.inl q2⟩
