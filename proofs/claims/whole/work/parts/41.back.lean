/-! THE IMAGE LAID BACK -/
theorem backL (kC kM : Mem → Option (Int × Mem)) {nW nP nB p : Nat} {law : Option (List Lin)} (hp : p ≤ nP) : ∀ (m fu : Nat) (S T : Mem) (b : Nat), m ≤ p → m < fu → Inv b nW nP nB law S T → gI S 43 3 = p → gI T 56 47 = p → (∀ i, i < p → gI T 88 i = gI S 45 i ∧ gI T 89 i = gI S 46 i ∧ (0 ≤ gI S 45 i ∧ gI S 45 i ≤ 999) ∧ 0 ≤ gI S 46 i ∧ gI S 46 i ≤ 63) → b + 2 * m < 1000000 → ∃ S' T', g_X2_layBack_L26 kC fu ((p - m : Nat) : Int) S = kC S' ∧ g_X10_back_L22 kM fu ((p - m : Nat) : Int) T = kM T' ∧ Inv (b + 2 * m) nW nP nB law S' T' ∧ (∀ c, 43 ≤ c → c ≤ 47 → gI S' c = gI S c) ∧ (∀ c, 87 ≤ c → c ≤ 90 → gI T' c = gI T c) ∧ gI T' 56 = gI T 56 ∧ ∀ c, gR S' c = gR S c := by
  intro m
  induction m with
  | zero =>
    intro fu S T b _ hf h h3 h7 _ _
    obtain ⟨fu, rfl⟩ : ∃ k, fu = k + 1 := ⟨fu - 1, by omega⟩
    unfold g_X2_layBack_L26 g_X10_back_L22
    rw [h3, h7, if_pos (show (p : Int) ≤ ((p - 0 : Nat) : Int) from Int.le_refl _), if_pos (show (p : Int) ≤ ((p - 0 : Nat) : Int) from Int.le_refl _)]
    exact ⟨S, T, rfl, rfl, h, fun _ _ _ => rfl, fun _ _ _ => rfl, rfl, fun _ => rfl⟩
  | succ m ih =>
    intro fu S T b hm hf h h3 h7 hr hb
    obtain ⟨fu, rfl⟩ : ∃ k, fu = k + 1 := ⟨fu - 1, by omega⟩
    obtain ⟨g0, ⟨o1, o2, o3, o4, o5⟩, -⟩ := id h
    have v1 : ¬ (p : Int) ≤ ((p - (m + 1) : Nat) : Int) := by omega
    have v2 : ¬ (6 : Int) ≤ ((p - (m + 1) : Nat) : Int) := by omega
    have v3 : p - (m + 1) < 6 := by omega
    have v4 : p - m = p - (m + 1) + 1 := by omega
    have v5 : p - (m + 1) ≤ 1000000 := by omega
    have v6 : p - (m + 1) < p := by omega
    have l5 : p - (m + 1) < lim nW nP 5 := by show _ < nP; omega
    have l6 : p - (m + 1) < lim nW nP 6 := by show _ < nP; omega
    obtain ⟨r1, r2, r3, r4⟩ := hr _ v6
    unfold g_X2_layBack_L26 g_X10_back_L22
    rw [h3, h7, if_neg v1, if_neg v1, if_neg v2, ldk_c v3, bS, ldk_c v3, bS, stk_c v3, bS, ldk_c v3, bS, stk_c v3, bS, w32_a _ v5, ← v4, r1, gI_ne (c' := 89) (by decide), r2]
    generalize p - (m + 1) = k at *
    have i1 := Inv_set (n := k) (w := 5) (v := gI S 45 k) h (by decide) l5 r3 (by omega)
    have s1 := set_n g0 o1 o2.1 o2.2 (n := k) (w := 5) (gI S 45 k) (by decide) l5
    rw [show ((5 : Nat) : Int) = 5 from rfl] at s1
    have e46 : gI (setO S k 5 (gI S 45 k)) 46 = gI S 46 := setO_ne (by decide) (by omega)
    have s2 := set_n (S := setO S k 5 (gI S 45 k)) (Shp_set g0) o1 (by rw [setO_1 (by decide)]; exact o2.1) (by rw [setO_1 (by decide)]; exact o2.2) (n := k) (w := 6) (gI S 46 k) (by decide) l6
    rw [show ((6 : Nat) : Int) = 6 from rfl] at s2
    have i2 := Inv_set (n := k) (w := 6) (v := gI S 46 k) i1 (by decide) l6 r4 (by omega)
    rw [s1, bS, ldk_c v3, bS, e46, s2, bS]
    have cS : ∀ c, 43 ≤ c → gI (setO (setO S k 5 (gI S 45 k)) k 6 (gI S 46 k)) c = gI S c := fun c hc => by rw [setO_ne (by decide) (by omega), setO_ne (by decide) (by omega)]
    have cT : ∀ c, (c < 57 ∨ 64 < c) → gI (setM (setM T k 5 (gI S 45 k)) k 6 (gI S 46 k)) c = gI T c := fun c hc => by rw [setM_ne (by decide) hc, setM_ne (by decide) hc]
    have eT : sI (sI T 62 k (gI S 45 k)) 63 k (gI S 46 k) = setM (setM T k 5 (gI S 45 k)) k 6 (gI S 46 k) := rfl
    rw [eT]
    obtain ⟨S', T', j1, j2, j3, j4, j5, j6, j7⟩ := ih fu (setO (setO S k 5 (gI S 45 k)) k 6 (gI S 46 k)) (setM (setM T k 5 (gI S 45 k)) k 6 (gI S 46 k)) (b + 1 + 1) (by omega) (by omega) i2 (by rw [cS 43 (by omega)]; exact h3) (by rw [cT 56 (by omega)]; exact h7) (fun i hi => by rw [cS 45 (by omega), cS 46 (by omega), cT 88 (by omega), cT 89 (by omega)]; exact hr i hi) (by omega)
    refine ⟨S', T', j1, j2, ?_, fun c h1 h2 => by rw [j4 c h1 h2, cS c h1], fun c h1 h2 => by rw [j5 c h1 h2, cT c (by omega)], by rw [j6, cT 56 (by omega)], fun c => by rw [j7 c]; rfl⟩
    rw [show b + 2 * (m + 1) = b + 1 + 1 + 2 * m by omega]
    exact j3
theorem ledB : ∀ (m fu : Nat) (S : Mem), m ≤ 5 → m < fu → ∃ S', g_X10_back_L62 fu ((5 - m : Nat) : Int) S = some (gI S' 87 0, S') ∧ (∀ c, c ≠ 87 → gI S' c = gI S c) ∧ (∀ i, gI S' 87 i = if 5 - m ≤ i ∧ i < 5 then gI S 90 i else gI S 87 i) := by
  intro m
  induction m with
  | zero =>
    intro fu S _ hf
    obtain ⟨fu, rfl⟩ : ∃ k, fu = k + 1 := ⟨fu - 1, by omega⟩
    unfold g_X10_back_L62
    rw [if_pos (show (5 : Int) ≤ ((5 - 0 : Nat) : Int) from Int.le_refl _)]
    exact ⟨S, rfl, fun _ _ => rfl, fun i => by rw [if_neg (by omega)]⟩
  | succ m ih =>
    intro fu S hm hf
    obtain ⟨fu, rfl⟩ : ∃ k, fu = k + 1 := ⟨fu - 1, by omega⟩
    have v1 : ¬ (5 : Int) ≤ ((5 - (m + 1) : Nat) : Int) := by omega
    have v3 : 5 - (m + 1) < 5 := by omega
    have v4 : 5 - m = 5 - (m + 1) + 1 := by omega
    unfold g_X10_back_L62
    rw [if_neg v1, ldk_c v3, bS, stk_c v3, bS, w32_a _ (by omega), ← v4]
    obtain ⟨S', h1, h2, h5⟩ := ih fu (sI S 87 (5 - (m + 1)) (gI S 90 (5 - (m + 1)))) (by omega) (by omega)
    refine ⟨S', h1, fun c hc => by rw [h2 c hc, gI_ne hc], fun i => ?_⟩
    rw [h5]
    simp only [gI_sI]
    by_cases z : i = 5 - (m + 1)
    · subst z
      simp
      omega
    · simp [z]
      (repeat' split) <;> first | rfl | omega
