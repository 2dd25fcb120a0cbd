/-! THE FORWARD TABLE: the cells of one row -/
def nowP (nW : Nat) (so se : Nat → Nat) (pr : Nat → Nat → Nat → Nat) (p : Nat) (T : Mem) : Prop := ∀ a wh' s, a < 4 → wh' < 2 → s < 64 → IsQ (pco so pr 3 0) (fun t => wh' = wh a ∧ Xn nW so se p a s t) (gI T 81 (128 * a + 64 * wh' + s))
theorem Zg_n {nW p a s b x : Nat} {so se : Nat → Nat} {t' : List Nat} : Zg nW so se p a s nW b x t' ↔ Zg nW so se p a (s + 1) 0 b x t' := by
  constructor
  · rintro ⟨t, v, c, h0, h1, h2, h3, h4, h5, h6, h7⟩
    exact ⟨t, v, c, h0, h1, h2, h3, h4, h5, h6, by omega⟩
  · rintro ⟨t, v, c, h0, h1, h2, h3, h4, h5, h6, h7⟩
    exact ⟨t, v, c, h0, h1, h2, h3, h4, h5, h6, by omega⟩
/-- an empty cell adds nothing -/
theorem Zg_z {nW p a s b x : Nat} {so se : Nat → Nat} {t' : List Nat} (h : ∀ t, ¬ Xn nW so se p a s t) : Zg nW so se p a s 0 b x t' ↔ Zg nW so se p a (s + 1) 0 b x t' := by
  constructor
  · rintro ⟨t, v, c, h0, h1, h2, h3, h4, h5, h6, h7⟩
    exact ⟨t, v, c, h0, h1, h2, h3, h4, h5, h6, by omega⟩
  · rintro ⟨t, v, c, h0, h1, h2, h3, h4, h5, h6, h7⟩
    refine ⟨t, v, c, h0, h1, h2, h3, h4, h5, h6, ?_⟩
    by_cases e : c = a ∧ sen se t = s
    · obtain ⟨rfl, rfl⟩ := e
      exact absurd ⟨h1, h2, rfl⟩ (h t)
    · omega
theorem okG_i {nW p a s w a' s' w' : Nat} {so se : Nat → Nat} {pr : Nat → Nat → Nat → Nat} {T : Mem} (h : okG nW so se pr p a s w T) (e : ∀ b x t, Zg nW so se p a' s' w' b x t ↔ Zg nW so se p a s w b x t) : okG nW so se pr p a' s' w' T := fun b wh' x h1 h2 h3 => IsQ_same (h b wh' x h1 h2 h3) (fun t => by
  constructor
  · rintro ⟨q1, q2⟩
    exact ⟨q1, (e b x t).mp q2⟩
  · rintro ⟨q1, q2⟩
    exact ⟨q1, (e b x t).mpr q2⟩)
