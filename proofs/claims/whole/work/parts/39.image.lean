/-! THE IMAGE: kept, and laid back -/
theorem Inv_RD {b nW nP nB : Nat} {law : Option (List Lin)} {Sc Sm Sc' Sm' : Mem} (h : Inv b nW nP nB law Sc Sm) (hc : ∀ c, (c < 43 ∨ 47 < c) → gI Sc' c = gI Sc c) (hr : ∀ c, gR Sc' c = gR Sc c) (hm : ∀ c, (c < 56 ∨ (56 < c ∧ c < 87) ∨ 90 < c) → gI Sm' c = gI Sm c) (h56 : ∀ k, (k < 46 ∨ 48 < k) → gI Sm' 56 k = gI Sm 56 k) (hn : RD nP Sc' Sm') : Inv b nW nP nB law Sc' Sm' := by
  obtain ⟨g0, g1, g2, g3, g4, g5, g6, g7, g8, g9⟩ := h
  have e13 := hc 13 (by decide)
  have e53 := hc 53 (by decide)
  exact ⟨Shp_of g0 (hr 2) (hr 23), RO_of g1 (fun c h => hc c (by omega)) (fun c h => hm c (by omega)) (h56 1 (by decide)) (h56 7 (by decide)), RC_of g2 (fun c h => hc c (by omega)) (fun c h => hm c (by omega)) (h56 _ (by decide)) (h56 _ (by decide)), RT_of g3 (by rw [e13]) (hc 14 (by decide)) (h56 _ (by decide)) (hm 69 (by decide)), RL_of g4 (by rw [e13]) (hc 15 (by decide)) (hc 16 (by decide)) (hr 13) (h56 30 (by decide)) (hm 70 (by decide)) (hm 71 (by decide)) (hm 72 (by decide)) (hm 73 (by decide)) (hm 74 (by decide)), RS_of g5 (fun c h => hc c (by omega)) (fun c h => hm c (by omega)), RB_of g6 (by rw [e53]) (by rw [e53]) (hc 54 (by decide)) (hc 55 (by decide)) (h56 _ (by decide)) (h56 _ (by decide)) (hm 91 (by decide)) (hm 92 (by decide)), hn, RY_of g8 (Nat.le_refl b) (fun c h => hc c (by omega)) (hr 34), RH_of g9 (hr 38) (hc 33 (by omega))⟩
theorem keepC (K : Mem → Option (Int × Mem)) {nW nP : Nat} (hb : nW ≤ 12 ∧ nP ≤ 6) : ∀ (m fu : Nat) (S : Mem), m ≤ nP → m < fu → Shp S → gI S 1 1 = nW → gI S 1 2 = nP → gI S 43 3 = nP → ∃ S', g_X2_keepImage_L32 K fu ((nP - m : Nat) : Int) S = K S' ∧ (∀ c, c ≠ 45 → c ≠ 46 → gI S' c = gI S c) ∧ (∀ c, gR S' c = gR S c) ∧ (∀ i, gI S' 45 i = if nP - m ≤ i ∧ i < nP then nu S 5 i else gI S 45 i) ∧ ∀ i, gI S' 46 i = if nP - m ≤ i ∧ i < nP then nu S 6 i else gI S 46 i := by
  intro m
  induction m with
  | zero =>
    intro fu S _ hf _ _ _ h3
    obtain ⟨fu, rfl⟩ : ∃ k, fu = k + 1 := ⟨fu - 1, by omega⟩
    unfold g_X2_keepImage_L32
    rw [h3, if_pos (show (nP : Int) ≤ ((nP - 0 : Nat) : Int) from Int.le_refl _)]
    exact ⟨S, rfl, fun _ _ _ => rfl, fun _ => rfl, fun i => by rw [if_neg (by omega)], fun i => by rw [if_neg (by omega)]⟩
  | succ m ih =>
    intro fu S hm hf hS hW hP h3
    obtain ⟨fu, rfl⟩ : ∃ k, fu = k + 1 := ⟨fu - 1, by omega⟩
    have v1 : ¬ (nP : Int) ≤ ((nP - (m + 1) : Nat) : Int) := by omega
    have v2 : ¬ (6 : Int) ≤ ((nP - (m + 1) : Nat) : Int) := by omega
    have v3 : nP - (m + 1) < 6 := by omega
    have v4 : nP - m = nP - (m + 1) + 1 := by omega
    have l5 : nP - (m + 1) < lim nW nP 5 := by show _ < nP; omega
    have l6 : nP - (m + 1) < lim nW nP 6 := by show _ < nP; omega
    unfold g_X2_keepImage_L32
    have a1 := val_n hS hb hW hP (w := 5) (by decide) l5
    have a2 := val_n (S := sI S 45 (nP - (m + 1)) (nu S 5 (nP - (m + 1)))) (Shp_of hS rfl rfl) hb (by rw [gI_ne (by decide)]; exact hW) (by rw [gI_ne (by decide)]; exact hP) (w := 6) (by decide) l6
    rw [show ((5 : Nat) : Int) = 5 from rfl] at a1
    rw [show ((6 : Nat) : Int) = 6 from rfl] at a2
    rw [h3, if_neg v1, if_neg v2, a1, bS, stk_c v3, bS, a2, bS, stk_c v3, bS, w32_a _ (by omega), ← v4]
    obtain ⟨S', h1, h2, h4, h5, h6⟩ := ih fu (sI (sI S 45 (nP - (m + 1)) (nu S 5 (nP - (m + 1)))) 46 (nP - (m + 1)) (nu (sI S 45 (nP - (m + 1)) (nu S 5 (nP - (m + 1)))) 6 (nP - (m + 1)))) (by omega) (by omega) (Shp_of hS rfl rfl) (by rw [gI_ne (by decide), gI_ne (by decide)]; exact hW) (by rw [gI_ne (by decide), gI_ne (by decide)]; exact hP) (by rw [gI_ne (by decide), gI_ne (by decide)]; exact h3)
    refine ⟨S', h1, fun c hc hc' => by rw [h2 c hc hc', gI_ne hc', gI_ne hc], h4, fun i => ?_, fun i => ?_⟩
    · rw [h5]
      unfold nu
      simp only [gI_sI]
      by_cases z : i = nP - (m + 1)
      · subst z
        simp
        omega
      · simp [z]
        (repeat' split) <;> first | rfl | omega
    · rw [h6]
      unfold nu
      simp only [gI_sI]
      by_cases z : i = nP - (m + 1)
      · subst z
        simp
        omega
      · simp [z]
        (repeat' split) <;> first | rfl | omega
theorem keepM (K : Mem → Option (Int × Mem)) {nP : Nat} (hb : nP ≤ 6) : ∀ (m fu : Nat) (S : Mem), m ≤ nP → m < fu → gI S 56 7 = nP → ∃ S', g_X10_image_L25 K fu ((nP - m : Nat) : Int) S = K S' ∧ (∀ c, c ≠ 88 → c ≠ 89 → gI S' c = gI S c) ∧ (∀ i, gI S' 88 i = if nP - m ≤ i ∧ i < nP then gI S 62 i else gI S 88 i) ∧ ∀ i, gI S' 89 i = if nP - m ≤ i ∧ i < nP then gI S 63 i else gI S 89 i := by
  intro m
  induction m with
  | zero =>
    intro fu S _ hf h3
    obtain ⟨fu, rfl⟩ : ∃ k, fu = k + 1 := ⟨fu - 1, by omega⟩
    unfold g_X10_image_L25
    rw [h3, if_pos (show (nP : Int) ≤ ((nP - 0 : Nat) : Int) from Int.le_refl _)]
    exact ⟨S, rfl, fun _ _ _ => rfl, fun i => by rw [if_neg (by omega)], fun i => by rw [if_neg (by omega)]⟩
  | succ m ih =>
    intro fu S hm hf h3
    obtain ⟨fu, rfl⟩ : ∃ k, fu = k + 1 := ⟨fu - 1, by omega⟩
    have v1 : ¬ (nP : Int) ≤ ((nP - (m + 1) : Nat) : Int) := by omega
    have v3 : nP - (m + 1) < 6 := by omega
    have v4 : nP - m = nP - (m + 1) + 1 := by omega
    unfold g_X10_image_L25
    rw [h3, if_neg v1, ldk_c v3, bS, stk_c v3, bS, ldk_c v3, bS, stk_c v3, bS, w32_a _ (by omega), ← v4]
    obtain ⟨S', h1, h2, h5, h6⟩ := ih fu (sI (sI S 88 (nP - (m + 1)) (gI S 62 (nP - (m + 1)))) 89 (nP - (m + 1)) (gI (sI S 88 (nP - (m + 1)) (gI S 62 (nP - (m + 1)))) 63 (nP - (m + 1)))) (by omega) (by omega) (by rw [gI_ne (by decide), gI_ne (by decide)]; exact h3)
    refine ⟨S', h1, fun c hc hc' => by rw [h2 c hc hc', gI_ne hc', gI_ne hc], fun i => ?_, fun i => ?_⟩
    · rw [h5]
      simp only [gI_sI]
      by_cases z : i = nP - (m + 1)
      · subst z
        simp
        omega
      · simp [z]
        (repeat' split) <;> first | rfl | omega
    · rw [h6]
      simp only [gI_sI]
      by_cases z : i = nP - (m + 1)
      · subst z
        simp
        omega
      · simp [z]
        (repeat' split) <;> first | rfl | omega
theorem ledM : ∀ (m fu : Nat) (S : Mem), m ≤ 5 → m < fu → ∃ S', g_X10_image_L65 fu ((5 - m : Nat) : Int) S = some (gI S 87 0, S') ∧ (∀ c, c ≠ 90 → gI S' c = gI S c) ∧ (∀ i, gI S' 90 i = if 5 - m ≤ i ∧ i < 5 then gI S 87 i else gI S 90 i) := by
  intro m
  induction m with
  | zero =>
    intro fu S _ hf
    obtain ⟨fu, rfl⟩ : ∃ k, fu = k + 1 := ⟨fu - 1, by omega⟩
    unfold g_X10_image_L65
    rw [if_pos (show (5 : Int) ≤ ((5 - 0 : Nat) : Int) from Int.le_refl _)]
    exact ⟨S, rfl, fun _ _ => rfl, fun i => by rw [if_neg (by omega)]⟩
  | succ m ih =>
    intro fu S hm hf
    obtain ⟨fu, rfl⟩ : ∃ k, fu = k + 1 := ⟨fu - 1, by omega⟩
    have v1 : ¬ (5 : Int) ≤ ((5 - (m + 1) : Nat) : Int) := by omega
    have v3 : 5 - (m + 1) < 5 := by omega
    have v4 : 5 - m = 5 - (m + 1) + 1 := by omega
    unfold g_X10_image_L65
    rw [if_neg v1, ldk_c v3, bS, stk_c v3, bS, w32_a _ (by omega), ← v4]
    obtain ⟨S', h1, h2, h5⟩ := ih fu _ (by omega) (by omega)
    refine ⟨S', by rw [h1, gI_ne (by decide)], fun c hc => by rw [h2 c hc, gI_ne hc], fun i => ?_⟩
    rw [h5]
    simp only [gI_sI]
    by_cases z : i = 5 - (m + 1)
    · subst z
      simp
      omega
    · simp [z]
      (repeat' split) <;> first | rfl | omega
