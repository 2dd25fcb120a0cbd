/-! THE IMAGE LAID BACK: the call -/
theorem m_back {b : Nat} {Sc Sm : Mem} (h : IV b Sc Sm) (hb : b < 900000) : Sim (b + 100) (g_X9_back Sc) (g_X10_back Sm) := by
  obtain ⟨nW, nP, nB, law, h⟩ := h
  obtain ⟨g0, ⟨o1, o2, o3, o4, o5⟩, g2, g3, g4, g5, g6, ⟨g7, g8⟩, -⟩ := id h
  unfold g_X9_back g_X10_back g_X2_layBack
  rcases g8 with ⟨q1, q2⟩ | ⟨q1, q2, p, hp, q3, q4, q5, q6, q7, q8⟩
  · rw [q1, q2, i00, i00, bd2S]
    exact Sim.same ⟨nW, nP, nB, law, h⟩ (by omega)
  · rw [q1, q2, i10, i10]
    simp only [ap]
    have hl : 0 < lim nW nP 7 := by show 0 < 1; decide
    have s1 := set_n g0 o1 o2.1 o2.2 (n := 0) (w := 7) (gI Sc 43 4) (by decide) hl
    rw [show ((0 : Nat) : Int) = 0 from rfl, show ((7 : Nat) : Int) = 7 from rfl] at s1
    have i1 := Inv_set (n := 0) (w := 7) (v := gI Sc 43 4) h (by decide) hl q6 (by omega)
    have eM : sI Sm 64 0 (gI Sc 43 4) = setM Sm 0 7 (gI Sc 43 4) := rfl
    rw [s1, bS, q5, eM]
    have cS : ∀ c, 43 ≤ c → gI (setO Sc 0 7 (gI Sc 43 4)) c = gI Sc c := fun c hc => setO_ne (by decide) (by omega)
    have cT : ∀ c, (c < 57 ∨ 64 < c) → gI (setM Sm 0 7 (gI Sc 43 4)) c = gI Sm c := fun c hc => setM_ne (by decide) hc
    have p6 : p ≤ 6 := Nat.le_trans hp o1.2
    obtain ⟨S', T', j1, j2, j3, j4, j5, j6, j7⟩ := backL (fun S6 => (cpk S6 47 5 0 44 5 0 5).bind fun S7 => some (gI S7 44 0, S7)) (fun S6 => g_X10_back_L62 FU 0 S6) hp p FU _ _ (b + 1) (Nat.le_refl _) (by unfold FU; omega) i1 (by rw [cS 43 (by omega)]; exact q3) (by rw [cT 56 (by omega)]; exact q4) (fun i hi => by rw [cS 45 (by omega), cS 46 (by omega), cT 88 (by omega), cT 89 (by omega)]; exact q7 i hi) (by omega)
    rw [Nat.sub_self, show ((0 : Nat) : Int) = 0 from rfl] at j1 j2
    obtain ⟨T2, c1, c2, c3⟩ := ledB 5 FU T' (Nat.le_refl _) (by unfold FU; decide)
    rw [show ((5 - 5 : Nat) : Int) = 0 from rfl] at c1
    rw [j1, j2, cpk_5, bS, c1, bd2S]
    have cc : ∀ c, c ≠ 44 → gI (cpI S' 47 0 44 0 5) c = gI S' c := fun c hc => by funext k; rw [gI_cpI, if_neg (by omega)]
    have a47 : gI S' 47 = gI Sc 47 := by rw [j4 47 (by decide) (by decide), cS 47 (by decide)]
    have a43 : gI S' 43 = gI Sc 43 := by rw [j4 43 (by decide) (by decide), cS 43 (by decide)]
    have a45 : gI S' 45 = gI Sc 45 := by rw [j4 45 (by decide) (by decide), cS 45 (by decide)]
    have a46 : gI S' 46 = gI Sc 46 := by rw [j4 46 (by decide) (by decide), cS 46 (by decide)]
    have b90 : gI T' 90 = gI Sm 90 := by rw [j5 90 (by decide) (by decide), cT 90 (by decide)]
    have b88 : gI T' 88 = gI Sm 88 := by rw [j5 88 (by decide) (by decide), cT 88 (by decide)]
    have b89 : gI T' 89 = gI Sm 89 := by rw [j5 89 (by decide) (by decide), cT 89 (by decide)]
    have b56 : gI T' 56 = gI Sm 56 := by rw [j6, cT 56 (by decide)]
    have a44 : ∀ k, k < 5 → gI (cpI S' 47 0 44 0 5) 44 k = gI Sc 47 k := fun k hk => by rw [gI_cpI, if_pos (by omega), Nat.zero_add, Nat.sub_zero, a47]
    have b87 : ∀ k, k < 5 → gI T2 87 k = gI Sc 47 k := fun k hk => by rw [c3, if_pos (by omega), b90]; exact q8 k hk
    rw [a44 0 (by decide), b87 0 (by decide)]
    refine ⟨_, _, _, rfl, rfl, nW, nP, nB, law, Inv_up (Inv_RD j3 (fun c hc => cc c (by omega)) (fun c => rfl) (fun c hc => c2 c (by omega)) (fun k hk => by rw [c2 56 (by decide)]) ⟨fun k hk => by rw [a44 k hk, b87 k hk], Or.inr ?_⟩) (show b + 1 + 2 * p ≤ b + 100 by omega)⟩
    rw [cc 43 (by decide), cc 45 (by decide), cc 46 (by decide), cc 47 (by decide), a43, a45, a46, a47, c2 56 (by decide), c2 88 (by decide), c2 89 (by decide), c2 90 (by decide), b56, b88, b89, b90]
    exact ⟨q1, q2, p, hp, q3, q4, q5, q6, q7, q8⟩
