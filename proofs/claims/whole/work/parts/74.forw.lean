/-! THE FORWARD TABLE: from one cell, word by word -/
def KG (T T' : Mem) : Prop := ∀ c, c ≠ 75 → c ≠ 76 → c ≠ 82 → gI T' c = gI T c
theorem KG.rf (T : Mem) : KG T T := fun _ _ _ _ => rfl
theorem KG.tr {S S' S'' : Mem} (h : KG S S') (g : KG S' S'') : KG S S'' := fun c h1 h2 h3 => (g c h1 h2 h3).trans (h c h1 h2 h3)
theorem OM.g {N : Nat → Nat → Int} {nW nP : Nat} {S S' : Mem} (h : OM N nW nP S) (k : KG S S') : OM N nW nP S' := OM_of h (fun c hc => k c (by omega) (by omega) (by omega)) (by rw [k 56 (by decide) (by decide) (by decide)]) (by rw [k 56 (by decide) (by decide) (by decide)])
theorem LM.g {law : Option (List Lin)} {S S' : Mem} (h : LM law S) (k : KG S S') : LM law S' := LM_of h (fun c hc => k c (by omega) (by omega) (by omega)) (by rw [k 56 (by decide) (by decide) (by decide)])
/-- one word more, from the cells before (a, s), and from (a, s) the words before w -/
def Zg (nW : Nat) (so se : Nat → Nat) (p a s w b x : Nat) (t' : List Nat) : Prop := ∃ t v c, t' = t ++ [v] ∧ t.length = p ∧ chn nW so 3 t c ∧ v < nW ∧ fol c (so v) = true ∧ so v = b ∧ sen se t ||| se v = x ∧ (c < a ∨ (c = a ∧ (sen se t < s ∨ (sen se t = s ∧ v < w))))
theorem Zg_s {nW p a s w b x : Nat} {so se : Nat → Nat} {t' : List Nat} (hw : w < nW) : Zg nW so se p a s (w + 1) b x t' ↔ Zg nW so se p a s w b x t' ∨ (fol a (so w) = true ∧ so w = b ∧ s ||| se w = x ∧ ∃ t, t' = t ++ [w] ∧ Xn nW so se p a s t) := by
  constructor
  · rintro ⟨t, v, c, rfl, h1, h2, h3, h4, h5, h6, h7⟩
    by_cases e : c = a ∧ sen se t = s ∧ v = w
    · obtain ⟨rfl, rfl, rfl⟩ := e
      exact Or.inr ⟨h4, h5, h6, t, rfl, h1, h2, rfl⟩
    · exact Or.inl ⟨t, v, c, rfl, h1, h2, h3, h4, h5, h6, by omega⟩
  · rintro (⟨t, v, c, h0, h1, h2, h3, h4, h5, h6, h7⟩ | ⟨h4, h5, h6, t, rfl, h1, h2, h3⟩)
    · exact ⟨t, v, c, h0, h1, h2, h3, h4, h5, h6, by omega⟩
    · exact ⟨t, w, a, rfl, h1, h2, hw, h4, h5, by rw [h3]; exact h6, by omega⟩
def okG (nW : Nat) (so se : Nat → Nat) (pr : Nat → Nat → Nat → Nat) (p a s w : Nat) (T : Mem) : Prop := ∀ b wh' x, b < 4 → wh' < 2 → x < 64 → IsQ (pco so pr 3 0) (fun t => wh' = wh b ∧ Zg nW so se p a s w b x t) (gI T 82 (128 * b + 64 * wh' + x))
theorem IsQ_x {nW p a s w : Nat} {so se : Nat → Nat} {pr : Nat → Nat → Nat → Nat} {v : Int} (h : IsQ (pco so pr 3 0) (Xn nW so se p a s) v) (h9 : v < 9999999) : IsQ (pco so pr 3 0) (fun t' => ∃ t, t' = t ++ [w] ∧ Xn nW so se p a s t) (v + (pr w a p : Nat)) := by
  have e : ∀ t, Xn nW so se p a s t → pco so pr 3 0 (t ++ [w]) = pco so pr 3 0 t + pr w a p := fun t h => by
    rw [pco_p t [w] 3 0 a h.2.1, h.1, Nat.zero_add]
    rfl
  rcases h with ⟨h1, -⟩ | ⟨t, h1, h2, h3⟩
  · omega
  · refine Or.inr ⟨t ++ [w], ⟨t, rfl, h1⟩, by rw [e t h1, h2]; rfl, ?_⟩
    rintro t' ⟨u, rfl, hu⟩
    rw [e t h1, e u hu]
    have := h3 u hu
    omega
