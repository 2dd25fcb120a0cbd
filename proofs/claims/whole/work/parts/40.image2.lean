/-! THE IMAGE: the calls -/
theorem cpk_5 (S : Mem) (a b : Nat) : cpk S a 5 0 b 5 0 5 = some (cpI S a 0 b 0 5) := cpk_n (i := 0) (j := 0) (n := 5) (by decide) (by decide)
theorem m_image {b : Nat} {Sc Sm : Mem} (h : IV b Sc Sm) (hb : b < 900000) : Sim (b + 100) (g_X9_image Sc) (g_X10_image Sm) := by
  obtain ⟨nW, nP, nB, law, h⟩ := h
  have h' := h
  obtain ⟨g0, ⟨o1, o2, o3, o4, o5⟩, g2, g3, g4, g5, g6, ⟨g7, -⟩, -⟩ := h'
  unfold g_X9_image g_X10_image g_X2_keepImage
  simp only [ap]
  have hl : 0 < lim nW nP 7 := by show 0 < 1; decide
  have p1 : gI (sI Sc 43 2 1) 1 2 = nP := by rw [gI_ne (by decide)]; exact o2.2
  have p2 : gI (sI Sm 56 46 1) 56 7 = nP := by rw [gI_ek (by decide)]; exact o3.2
  rw [p1, p2]
  have v7 := val_n (S := sI (sI Sc 43 2 1) 43 3 (nP : Int)) (Shp_of g0 rfl rfl) o1 (by rw [gI_ne (by decide), gI_ne (by decide)]; exact o2.1) (by rw [gI_ne (by decide), gI_ne (by decide)]; exact o2.2) (n := 0) (w := 7) (by decide) hl
  rw [show ((0 : Nat) : Int) = 0 from rfl, show ((7 : Nat) : Int) = 7 from rfl] at v7
  have n7 : nu (sI (sI Sc 43 2 1) 43 3 (nP : Int)) 7 0 = nu Sc 7 0 := rfl
  have m7 : gI (sI (sI Sm 56 46 1) 56 47 (nP : Int)) 64 0 = nu Sc 7 0 := (o4 7 0 (by decide) hl).1
  rw [v7, bS, n7, m7]
  obtain ⟨S1, a1, a2, a3, a4, a5⟩ := keepC (fun S9 => (cpk S9 44 5 0 47 5 0 5).bind fun S10 => some (gI S10 44 0, S10)) o1 nP FU (sI (sI (sI Sc 43 2 1) 43 3 (nP : Int)) 43 4 (nu Sc 7 0)) (Nat.le_refl _) (by unfold FU; omega) (Shp_of g0 rfl rfl) (by rw [gI_ne (by decide), gI_ne (by decide), gI_ne (by decide)]; exact o2.1) (by rw [gI_ne (by decide), gI_ne (by decide), gI_ne (by decide)]; exact o2.2) (by rw [gI_ek (by decide), gI_eq])
  obtain ⟨S2, b1, b2, b4, b5⟩ := keepM (fun S9 => g_X10_image_L65 FU 0 S9) o1.2 nP FU (sI (sI (sI Sm 56 46 1) 56 47 (nP : Int)) 56 48 (nu Sc 7 0)) (Nat.le_refl _) (by unfold FU; omega) (by rw [gI_ek (by decide), gI_ek (by decide), gI_ek (by decide)]; exact o3.2)
  rw [Nat.sub_self, show ((0 : Nat) : Int) = 0 from rfl] at a1 b1
  obtain ⟨S3, c1, c2, c3⟩ := ledM 5 FU S2 (Nat.le_refl _) (by unfold FU; decide)
  rw [show ((5 - 5 : Nat) : Int) = 0 from rfl] at c1
  rw [a1, b1, cpk_5, bS, c1, bd2S]
  have e44 : gI (cpI S1 44 0 47 0 5) 44 0 = gI Sc 44 0 := by
    rw [gI_cpI, if_neg (by omega), a2 44 (by decide) (by decide), gI_ne (by decide), gI_ne (by decide), gI_ne (by decide)]
  have e87 : gI S2 87 = gI Sm 87 := by rw [b2 87 (by decide) (by decide), gI_ne (by decide), gI_ne (by decide), gI_ne (by decide)]
  rw [e44, e87, g7 0 (by decide)]
  have cc : ∀ c, c ≠ 47 → gI (cpI S1 44 0 47 0 5) c = gI S1 c := fun c hc => by funext k; rw [gI_cpI, if_neg (by omega)]
  have s43 : gI (cpI S1 44 0 47 0 5) 43 = gI (sI (sI (sI Sc 43 2 1) 43 3 (nP : Int)) 43 4 (nu Sc 7 0)) 43 := by rw [cc 43 (by decide), a2 43 (by decide) (by decide)]
  have s56 : gI S3 56 = gI (sI (sI (sI Sm 56 46 1) 56 47 (nP : Int)) 56 48 (nu Sc 7 0)) 56 := by rw [c2 56 (by decide), b2 56 (by decide) (by decide)]
  have r7 := (o4 7 0 (by decide) hl).2
  refine ⟨_, _, _, rfl, rfl, nW, nP, nB, law, Inv_up (Inv_RD h (fun c hc => ?_) (fun c => by rw [gR_cpI]; exact a3 c) (fun c hc => ?_) (fun k hk => ?_) ⟨fun k hk => ?_, Or.inr ⟨?_, ?_, nP, Nat.le_refl _, ?_, ?_, ?_, ?_, fun i hi => ?_, fun k hk => ?_⟩⟩) (show b ≤ b + 100 by omega)⟩
  · rw [cc c (by omega), a2 c (by omega) (by omega), gI_ne (by omega), gI_ne (by omega), gI_ne (by omega)]
  · rw [c2 c (by omega), b2 c (by omega) (by omega), gI_ne (by omega), gI_ne (by omega), gI_ne (by omega)]
  · rw [s56, gI_ek (by omega), gI_ek (by omega), gI_ek (by omega)]
  · rw [c2 87 (by decide), e87, cc 44 (by decide), a2 44 (by decide) (by decide)]
    exact g7 k hk
  · rw [s43, gI_ek (by decide), gI_ek (by decide), gI_eq]
  · rw [s56, gI_ek (by decide), gI_ek (by decide), gI_eq]
  · rw [s43, gI_ek (by decide), gI_eq]
  · rw [s56, gI_ek (by decide), gI_eq]
  · rw [s56, s43, gI_eq, gI_eq]
  · rw [s43, gI_eq]
    exact r7
  · have q1 : gI S3 88 i = gI Sm 62 i := by rw [c2 88 (by decide), b4, if_pos (by omega)]; rfl
    have q2 : gI S3 89 i = gI Sm 63 i := by rw [c2 89 (by decide), b5, if_pos (by omega)]; rfl
    have q3 : gI (cpI S1 44 0 47 0 5) 45 i = nu Sc 5 i := by rw [cc 45 (by decide), a4, if_pos (by omega)]; rfl
    have q4 : gI (cpI S1 44 0 47 0 5) 46 i = nu Sc 6 i := by rw [cc 46 (by decide), a5, if_pos (by omega)]; rfl
    rw [q1, q2, q3, q4]
    have y5 := o4 5 i (by decide) hi
    have y6 := o4 6 i (by decide) hi
    exact ⟨y5.1, y6.1, y5.2, y6.2⟩
  · have q1 : gI (cpI S1 44 0 47 0 5) 47 k = gI Sc 44 k := by rw [gI_cpI, if_pos (by omega), Nat.zero_add, Nat.sub_zero, a2 44 (by decide) (by decide)]; rfl
    rw [q1, c3, if_pos (by omega), e87]
    exact g7 k hk
