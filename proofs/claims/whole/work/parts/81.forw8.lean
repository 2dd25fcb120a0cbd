/-! THE FORWARD TABLE: both rows of a word ahead -/
theorem gPw_l {N : Nat → Nat → Int} {nW nP p a : Nat} {law : Option (List Lin)} {K : Mem → Option Mem} {T : Mem} (hN : NR N nW nP) (hp : p ≤ 5) (ha : a < 4) (hM : OM N nW nP T) (hL : LM law T) (hB : nowP nW (soN N) (seN N) (prN law N) p T) (h : okG nW (soN N) (seN N) (prN law N) p a 0 0 T) (fu : Nat) : ∃ T', g_X10_goPlace_L33 K (p : Int) (a : Int) (fu + 3) 0 T = K T' ∧ KG T T' ∧ okG nW (soN N) (seN N) (prN law N) p a 64 0 T' := by
  have f64 : 64 < FU := by unfold FU; decide
  have wa : wh a = 0 ∨ wh a = 1 := by unfold wh; split <;> omega
  rw [g_X10_goPlace_L33.eq_2, if_neg (by decide), show w32 (0 + 1) = 1 from rfl]
  rcases wa with e | e
  · obtain ⟨T1, u1, u2, u3⟩ := gPs_l (K := fun S5 => g_X10_goPlace_L33 K (p : Int) (a : Int) (fu + 2) 1 S5) hN hp ha 64 0 FU T rfl f64 hM hL hB h
    rw [e, show ((0 : Nat) : Int) = 0 from rfl] at u1
    have e81 : gI T1 81 = gI T 81 := u2 81 (by decide) (by decide) (by decide)
    have z := gPz_l (K := fun S5 => g_X10_goPlace_L33 K (p : Int) (a : Int) (fu + 1) 2 S5) ha (show 1 < 2 by decide) (by omega) 64 0 FU T1 rfl f64 (fun a' wh' s' h1 h2 h3 => by rw [e81]; exact hB a' wh' s' h1 h2 h3)
    rw [show ((0 : Nat) : Int) = 0 from rfl, show ((1 : Nat) : Int) = 1 from rfl] at z
    rw [u1]
    show ∃ T', g_X10_goPlace_L33 K (p : Int) (a : Int) (fu + 2) 1 T1 = K T' ∧ _
    rw [g_X10_goPlace_L33.eq_2, if_neg (by decide), show w32 (1 + 1) = 2 from rfl, z, g_X10_goPlace_L33.eq_2, if_pos (by decide)]
    exact ⟨T1, rfl, u2, u3⟩
  · have z := gPz_l (K := fun S5 => g_X10_goPlace_L33 K (p : Int) (a : Int) (fu + 2) 1 S5) ha (show 0 < 2 by decide) (by omega) 64 0 FU T rfl f64 hB
    rw [show ((0 : Nat) : Int) = 0 from rfl] at z
    obtain ⟨T1, u1, u2, u3⟩ := gPs_l (K := fun S5 => g_X10_goPlace_L33 K (p : Int) (a : Int) (fu + 1) 2 S5) hN hp ha 64 0 FU T rfl f64 hM hL hB h
    rw [e, show ((0 : Nat) : Int) = 0 from rfl, show ((1 : Nat) : Int) = 1 from rfl] at u1
    rw [z, g_X10_goPlace_L33.eq_2, if_neg (by decide), show w32 (1 + 1) = 2 from rfl, u1]
    refine ⟨T1, ?_, u2, u3⟩
    show g_X10_goPlace_L33 K (p : Int) (a : Int) (fu + 1) 2 T1 = K T1
    rw [g_X10_goPlace_L33.eq_2, if_pos (by decide)]
