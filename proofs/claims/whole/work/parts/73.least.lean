/-! THE LEAST PRICES, reference: the forward table -/
/-- the least of a set by e, or 9999999 where the set is empty -/
def IsQ (e : List Nat → Nat) (X : List Nat → Prop) (v : Int) : Prop := (v = 9999999 ∧ ∀ t, ¬ X t) ∨ ∃ t, X t ∧ v = ((e t : Nat) : Int) ∧ ∀ t', X t' → e t ≤ e t'
theorem IsQ_same {e : List Nat → Nat} {X Z : List Nat → Prop} {v : Int} (h : IsQ e X v) (hZ : ∀ t, Z t ↔ X t) : IsQ e Z v := by
  rcases h with ⟨h1, h2⟩ | ⟨t, h1, h2, h3⟩
  · exact Or.inl ⟨h1, fun t q => h2 t ((hZ t).mp q)⟩
  · exact Or.inr ⟨t, (hZ t).mpr h1, h2, fun t' q => h3 t' ((hZ t').mp q)⟩
theorem IsQ_u {e : List Nat → Nat} {X Y Z : List Nat → Prop} {v v' : Int} (hX : IsQ e X v) (hY : IsQ e Y v') (he : ∀ t, X t ∨ Y t → e t < 9999999) (hZ : ∀ t, Z t ↔ X t ∨ Y t) : IsQ e Z (if v ≤ v' then v else v') := by
  rcases hX with ⟨rfl, x2⟩ | ⟨t, x1, rfl, x3⟩
  · rcases hY with ⟨rfl, y2⟩ | ⟨u, y1, rfl, y3⟩
    · rw [if_pos (Int.le_refl _)]
      exact Or.inl ⟨rfl, fun t q => ((hZ t).mp q).elim (x2 t) (y2 t)⟩
    · have := he u (Or.inr y1)
      rw [if_neg (by omega)]
      exact Or.inr ⟨u, (hZ u).mpr (Or.inr y1), rfl, fun t' q => ((hZ t').mp q).elim (fun z => absurd z (x2 t')) (y3 t')⟩
  · have ht := he t (Or.inl x1)
    rcases hY with ⟨rfl, y2⟩ | ⟨u, y1, rfl, y3⟩
    · rw [if_pos (by omega)]
      exact Or.inr ⟨t, (hZ t).mpr (Or.inl x1), rfl, fun t' q => ((hZ t').mp q).elim (x3 t') (fun z => absurd z (y2 t'))⟩
    · by_cases c : e t ≤ e u
      · rw [if_pos (by omega)]
        exact Or.inr ⟨t, (hZ t).mpr (Or.inl x1), rfl, fun t' q => ((hZ t').mp q).elim (x3 t') (fun z => Nat.le_trans c (y3 t' z))⟩
      · rw [if_neg (by omega)]
        exact Or.inr ⟨u, (hZ u).mpr (Or.inr y1), rfl, fun t' q => ((hZ t').mp q).elim (fun z => by have := x3 t' z; omega) (y3 t')⟩
theorem LT_of {nW : Nat} {so se : Nat → Nat} {pr : Nat → Nat → Nat → Nat} {T : Mem} (h : ∀ s, s < 64 → IsQ (pco so pr 3 0) (Bs nW so se 6 s) (gI T 83 s)) : LT nW so se pr T := fun s hs => by
  rcases h s hs with ⟨h1, h2⟩ | h2
  · exact Or.inl ⟨h2, h1⟩
  · exact Or.inr h2
theorem nowAt_v {a wh s : Nat} (ha : a < 4) (hw : wh < 2) (hs : s < 64) : g_X10_nowAt (a : Int) (wh : Int) (s : Int) = ((128 * a + 64 * wh + s : Nat) : Int) := by
  unfold g_X10_nowAt
  rw [w32s (i := (a : Int) * 2) (by omega) (by omega), w32s (i := (a : Int) * 2 + (wh : Int)) (by omega) (by omega), w32s (i := ((a : Int) * 2 + (wh : Int)) * 64) (by omega) (by omega), w32s (by omega) (by omega)]
  omega
theorem f83_l {K : Mem → Option Mem} : ∀ (r x fu : Nat) (T : Mem), x + r = 64 → r < fu → (∀ i, i < x → gI T 83 i = 9999999) → ∃ T', g_X10_findLeast_L2 K fu (x : Int) T = K T' ∧ (∀ c, c ≠ 83 → gI T' c = gI T c) ∧ ∀ i, i < 64 → gI T' 83 i = 9999999 := by
  intro r
  induction r with
  | zero =>
    intro x fu T hx hf h
    obtain ⟨fu, rfl⟩ : ∃ k, fu = k + 1 := ⟨fu - 1, by omega⟩
    have hx : x = 64 := hx
    subst hx
    rw [g_X10_findLeast_L2.eq_2, if_pos (by decide)]
    exact ⟨T, rfl, fun _ _ => rfl, h⟩
  | succ r ih =>
    intro x fu T hx hf h
    obtain ⟨fu, rfl⟩ : ∃ k, fu = k + 1 := ⟨fu - 1, by omega⟩
    have hx64 : x < 64 := by omega
    obtain ⟨T', h1, h2, h3⟩ := ih (x + 1) fu (sI T 83 x 9999999) (by omega) (by omega) (fun i hi => by
      by_cases e : i = x
      · rw [e, gI_eq]
      · rw [gI_ek e]; exact h i (by omega))
    rw [g_X10_findLeast_L2.eq_2, if_neg (show ¬ (64 : Int) ≤ (x : Int) by omega), stk_c hx64, bS, w32_a x (by omega), h1]
    exact ⟨T', rfl, fun c hc => by rw [h2 c hc, gI_ne hc], h3⟩
theorem f81_l {K : Mem → Option Mem} : ∀ (r x fu : Nat) (T : Mem), x + r = 512 → r < fu → (∀ i, i < x → gI T 81 i = 9999999) → ∃ T', g_X10_findLeast_L25 K fu (x : Int) T = K T' ∧ (∀ c, c ≠ 81 → gI T' c = gI T c) ∧ ∀ i, i < 512 → gI T' 81 i = 9999999 := by
  intro r
  induction r with
  | zero =>
    intro x fu T hx hf h
    obtain ⟨fu, rfl⟩ : ∃ k, fu = k + 1 := ⟨fu - 1, by omega⟩
    have hx : x = 512 := hx
    subst hx
    rw [g_X10_findLeast_L25.eq_2, if_pos (by decide)]
    exact ⟨T, rfl, fun _ _ => rfl, h⟩
  | succ r ih =>
    intro x fu T hx hf h
    obtain ⟨fu, rfl⟩ : ∃ k, fu = k + 1 := ⟨fu - 1, by omega⟩
    have hx64 : x < 512 := by omega
    obtain ⟨T', h1, h2, h3⟩ := ih (x + 1) fu (sI T 81 x 9999999) (by omega) (by omega) (fun i hi => by
      by_cases e : i = x
      · rw [e, gI_eq]
      · rw [gI_ek e]; exact h i (by omega))
    rw [g_X10_findLeast_L25.eq_2, if_neg (show ¬ (512 : Int) ≤ (x : Int) by omega), stk_c hx64, bS, w32_a x (by omega), h1]
    exact ⟨T', rfl, fun c hc => by rw [h2 c hc, gI_ne hc], h3⟩
theorem f82_l {K : Mem → Option Mem} {v1 : Int} : ∀ (r x fu : Nat) (T : Mem), x + r = 512 → r < fu → (∀ i, i < x → gI T 82 i = 9999999) → ∃ T', g_X10_goPlace_L2 K v1 fu (x : Int) T = K T' ∧ (∀ c, c ≠ 82 → gI T' c = gI T c) ∧ ∀ i, i < 512 → gI T' 82 i = 9999999 := by
  intro r
  induction r with
  | zero =>
    intro x fu T hx hf h
    obtain ⟨fu, rfl⟩ : ∃ k, fu = k + 1 := ⟨fu - 1, by omega⟩
    have hx : x = 512 := hx
    subst hx
    rw [g_X10_goPlace_L2.eq_2, if_pos (by decide)]
    exact ⟨T, rfl, fun _ _ => rfl, h⟩
  | succ r ih =>
    intro x fu T hx hf h
    obtain ⟨fu, rfl⟩ : ∃ k, fu = k + 1 := ⟨fu - 1, by omega⟩
    have hx64 : x < 512 := by omega
    obtain ⟨T', h1, h2, h3⟩ := ih (x + 1) fu (sI T 82 x 9999999) (by omega) (by omega) (fun i hi => by
      by_cases e : i = x
      · rw [e, gI_eq]
      · rw [gI_ek e]; exact h i (by omega))
    rw [g_X10_goPlace_L2.eq_2, if_neg (show ¬ (512 : Int) ≤ (x : Int) by omega), stk_c hx64, bS, w32_a x (by omega), h1]
    exact ⟨T', rfl, fun c hc => by rw [h2 c hc, gI_ne hc], h3⟩
theorem cp81_l : ∀ (r x fu : Nat) (T : Mem), x + r = 512 → r < fu → (∀ i, i < x → gI T 81 i = gI T 82 i) → ∃ T', g_X10_goPlace_L95 fu (x : Int) T = some T' ∧ (∀ c, c ≠ 81 → gI T' c = gI T c) ∧ ∀ i, i < 512 → gI T' 81 i = gI T 82 i := by
  intro r
  induction r with
  | zero =>
    intro x fu T hx hf h
    obtain ⟨fu, rfl⟩ : ∃ k, fu = k + 1 := ⟨fu - 1, by omega⟩
    have hx : x = 512 := hx
    subst hx
    rw [g_X10_goPlace_L95.eq_2, if_pos (by decide)]
    exact ⟨T, rfl, fun _ _ => rfl, h⟩
  | succ r ih =>
    intro x fu T hx hf h
    obtain ⟨fu, rfl⟩ : ∃ k, fu = k + 1 := ⟨fu - 1, by omega⟩
    have hx64 : x < 512 := by omega
    obtain ⟨T', h1, h2, h3⟩ := ih (x + 1) fu (sI T 81 x (gI T 82 x)) (by omega) (by omega) (fun i hi => by
      rw [gI_ne (show (82 : Nat) ≠ 81 by decide)]
      by_cases e : i = x
      · rw [e, gI_eq]
      · rw [gI_ek e]; exact h i (by omega))
    rw [g_X10_goPlace_L95.eq_2, if_neg (show ¬ (512 : Int) ≤ (x : Int) by omega), ldk_c hx64, bS, stk_c hx64, bS, w32_a x (by omega), h1]
    exact ⟨T', rfl, fun c hc => by rw [h2 c hc, gI_ne hc], fun i hi => by rw [h3 i hi, gI_ne (show (82 : Nat) ≠ 81 by decide)]⟩
