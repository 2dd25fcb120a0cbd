/-! FOR HOW MANY, TOO DEAR: both, from what the reference's least prices are (FL) -/
def FL : Prop := ∀ (nW nP : Nat) (law : Option (List Lin)) (N : Nat → Nat → Int) (T : Mem), NR N nW nP → OM N nW nP T → LM law T → ∃ T', g_X10_findLeast T = some T' ∧ KM T T' ∧ LT nW (soN N) (seN N) (prN law N) T'
theorem x63 : ∀ v, v < 64 → o_and (o_xor ((v : Nat) : Int) (-1)) 63 = o_and 63 (o_xor ((v : Nat) : Int) (-1)) := by decide +kernel
theorem m_allFor (hF : FL) {b : Nat} {Sc Sm : Mem} (h : IV b Sc Sm) (x y : Int) : Sim (b + 100) (g_X9_allFor x y Sc) (g_X10_allFor x y Sm) := by
  obtain ⟨nW, nP, nB, law, h⟩ := h
  have same : ∀ r, Sim (b + 100) (some (r, Sc)) (some (r, Sm)) := fun r => Sim.same ⟨nW, nP, nB, law, h⟩ (by omega)
  obtain ⟨hN, hO, hM, hL, hLm⟩ := ask_of h
  unfold g_X9_allFor g_X10_allFor
  rw [btw, inn, btw, inn]
  by_cases c1 : 0 ≤ x ∧ x ≤ 999
  · rw [if_pos c1, i10, i10]
    by_cases c2 : 0 ≤ y ∧ y ≤ 1
    · rw [if_pos c2, i10, i10]
      obtain ⟨a, rfl⟩ := nat_of c1.1
      obtain ⟨S1, s1, s2, s3, s4⟩ := fresh_c hN hO hL h.2.2.2.2.2.2.2.2.1
      obtain ⟨T1, t1, t2, t3⟩ := hF nW nP law (nu Sc) Sm hN hM hLm
      have kc : ∀ (r : Int), Sim (b + 100) (some (r, S1)) (some (r, T1)) := fun r => ⟨r, S1, T1, rfl, rfl, nW, nP, nB, law, Inv_up (Inv_RY (Inv_keep h (KC.rf Sc) t2) s2 s3) (by omega)⟩
      obtain ⟨vc, vm, w1, w2, w3⟩ := wide_l (S := S1) (T := T1) (a := a) (a2 := y) (K := fun y6 S5 => if y6 < 0 then some (y6, S5) else if y = 1 then some (y6, S5) else (g_X10_bitsOf y6).bind fun x7 => some (x7, S5)) (fun s hs => isFor_c hN hs (by omega) (s4 s hs) t3) 64 0 FU FU (-1) (-2) rfl (by unfold FU; decide) (by unfold FU; decide) (Or.inl ⟨rfl, rfl⟩)
      rw [show ((0 : Nat) : Int) = 0 from rfl] at w1 w2
      unfold g_X6_widest
      rw [s1, bS, w1, bd2S, t1, bS, w2]
      rcases w3 with ⟨rfl, rfl⟩ | ⟨q, q1, rfl, rfl⟩
      · rw [if_neg (show ¬ (0 : Int) ≤ -1 by decide), if_pos (show (-2 : Int) < 0 by decide)]
        exact kc _
      · obtain ⟨p1, p2, -, -⟩ := pcN_v q q1
        rw [if_pos (show (0 : Int) ≤ (q : Int) by omega), if_neg (show ¬ (q : Int) < 0 by omega), p1, p2, bS]
        by_cases d : y = 0
        · rw [if_pos d, if_neg (show ¬ y = 1 by omega)]
          exact kc _
        · rw [if_neg d, if_pos (show y = 1 by omega)]
          exact kc _
    · rw [if_neg c2, i00, i00]
      exact same _
  · rw [if_neg c1, i00, i00]
    exact same _
theorem m_tooDear (hF : FL) {b : Nat} {Sc Sm : Mem} (h : IV b Sc Sm) (x : Int) : Sim (b + 100) (g_X9_tooDear x Sc) (g_X10_tooDear x Sm) := by
  obtain ⟨nW, nP, nB, law, h⟩ := h
  have same : ∀ r, Sim (b + 100) (some (r, Sc)) (some (r, Sm)) := fun r => Sim.same ⟨nW, nP, nB, law, h⟩ (by omega)
  obtain ⟨hN, hO, hM, hL, hLm⟩ := ask_of h
  unfold g_X9_tooDear g_X10_tooDear
  rw [hasp hN.1.2 hO.2.1.2 x (Or.inl rfl), isper hN.1.2 hM.1.2 x, bS]
  by_cases c1 : 0 ≤ x ∧ x < (nP : Int)
  · rw [if_pos c1, i10, i10]
    obtain ⟨p, rfl⟩ := nat_of c1.1
    have hp : p < nP := by omega
    have nP6 := hN.1.2
    obtain ⟨e5, l5⟩ := puN_i hN hp
    obtain ⟨S1, s1, s2, s3, s4⟩ := fresh_c hN hO hL h.2.2.2.2.2.2.2.2.1
    obtain ⟨T1, t1, t2, t3⟩ := hF nW nP law (nu Sc) Sm hN hM hLm
    have m5 : gI T1 62 p = ((puN (nu Sc) p : Nat) : Int) := by
      rw [← e5, t2.1 62 (by decide)]
      exact hM.2 5 p (by decide) hp
    obtain ⟨v, v1, v2, v3⟩ := with_l (S := S1) (T := T1) (a := puN (nu Sc) p) (p := p) (by omega) m5 (fun s hs => isFor_c hN hs l5 (s4 s hs) t3) 64 0 FU FU 0 rfl (by unfold FU; decide) (by unfold FU; decide) (by decide)
    rw [show ((0 : Nat) : Int) = 0 from rfl] at v2 v3
    unfold g_X6_within
    rw [show (5 : Int) = ((5 : Nat) : Int) from rfl, val_o hN hO (w := 5) (n := p) (by decide) hp, bS, e5, s1, bS, v2, bd2S, t1, bS, v3, x63 v v1]
    exact ⟨_, S1, T1, rfl, rfl, nW, nP, nB, law, Inv_up (Inv_RY (Inv_keep h (KC.rf Sc) t2) s2 s3) (by omega)⟩
  · rw [if_neg c1, i00, i00]
    exact same _
