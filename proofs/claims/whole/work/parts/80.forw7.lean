/-! THE FORWARD TABLE: a row with nothing in it -/
theorem gPz_l {nW p a wh' : Nat} {so se : Nat → Nat} {pr : Nat → Nat → Nat → Nat} {K : Mem → Option Mem} (ha : a < 4) (hw : wh' < 2) (hne : wh' ≠ wh a) : ∀ (r s fu : Nat) (T : Mem), s + r = 64 → r < fu → nowP nW so se pr p T → g_X10_goPlace_L41 K (p : Int) (a : Int) (wh' : Int) fu (s : Int) T = K T := by
  intro r
  induction r with
  | zero =>
    intro s fu T hs hf hB
    obtain ⟨fu, rfl⟩ : ∃ k, fu = k + 1 := ⟨fu - 1, by omega⟩
    have hs : s = 64 := hs
    subst hs
    rw [g_X10_goPlace_L41.eq_2, if_pos (by decide)]
  | succ r ih =>
    intro s fu T hs hf hB
    obtain ⟨fu, rfl⟩ : ∃ k, fu = k + 1 := ⟨fu - 1, by omega⟩
    have hs64 : s < 64 := by omega
    have ia : 128 * a + 64 * wh' + s < 512 := by omega
    have e : gI T 81 (128 * a + 64 * wh' + s) = 9999999 := by
      rcases hB a wh' s ha hw hs64 with q | ⟨t, q, -⟩
      · exact q.1
      · exact absurd q.1 hne
    rw [g_X10_goPlace_L41.eq_2, if_neg (show ¬ (64 : Int) ≤ (s : Int) by omega), nowAt_v ha hw hs64, ldk_c ia, bS, w32_a s (by omega), e, if_pos (Int.le_refl _)]
    exact ih (s + 1) fu T (by omega) (by omega) hB
