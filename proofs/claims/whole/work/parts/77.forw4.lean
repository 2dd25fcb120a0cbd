/-! THE FORWARD TABLE: the loop over the words -/
theorem goF_l {N : Nat → Nat → Int} {nW nP p a s : Nat} {law : Option (List Lin)} (hN : NR N nW nP) (hp : p ≤ 5) (ha : a < 4) (hs : s < 64) : ∀ (r w fu : Nat) (T : Mem), w + r = nW → r < fu → OM N nW nP T → LM law T → IsQ (pco (soN N) (prN law N) 3 0) (Xn nW (soN N) (seN N) p a s) (gI T 81 (128 * a + 64 * wh a + s)) → gI T 81 (128 * a + 64 * wh a + s) < 9999999 → okG nW (soN N) (seN N) (prN law N) p a s w T → ∃ T', g_X10_goFrom_L3 (p : Int) (a : Int) ((wh a : Nat) : Int) (s : Int) fu (w : Int) T = some T' ∧ KG T T' ∧ okG nW (soN N) (seN N) (prN law N) p a s nW T' := by
  have nW12 := hN.1.1
  intro r
  induction r with
  | zero =>
    intro w fu T hw hf hM hL hV h9 h
    obtain ⟨fu, rfl⟩ : ∃ k, fu = k + 1 := ⟨fu - 1, by omega⟩
    have hw : w = nW := hw
    subst hw
    rw [g_X10_goFrom_L3.eq_2, hM.1.1, if_pos (Int.le_refl _)]
    exact ⟨T, rfl, KG.rf T, h⟩
  | succ r ih =>
    intro w fu T hw hf hM hL hV h9 h
    obtain ⟨fu, rfl⟩ : ∃ k, fu = k + 1 := ⟨fu - 1, by omega⟩
    have hwW : w < nW := by omega
    have w12 : w < 12 := by omega
    have m2 : gI T 59 w = ((soN N w : Nat) : Int) := by rw [← (soN_i hN hwW).1]; exact hM.2 2 _ (by decide) hwW
    have so3 := (soN_i hN hwW).2
    rw [g_X10_goFrom_L3.eq_2, hM.1.1, if_neg (show ¬ (nW : Int) ≤ (w : Int) by omega), ldk_c w12, bS, m2, fol_m a ha _ so3, w32_a w (by omega)]
    cases hf' : fol a (soN N w) with
    | false =>
      rw [bF, i00]
      refine ih (w + 1) fu T (by omega) (by omega) hM hL hV h9 (fun b wh' x hb hwh hx => IsQ_same (h b wh' x hb hwh hx) (fun t => ?_))
      rw [Zg_s hwW]
      constructor
      · rintro ⟨q1, q2 | ⟨q3, -⟩⟩
        · exact ⟨q1, q2⟩
        · rw [hf'] at q3
          cases q3
      · rintro ⟨q1, q2⟩
        exact ⟨q1, Or.inl q2⟩
    | true =>
      rw [bT, i10, bS, bS]
      obtain ⟨T1, u1, u2, u3⟩ := j52_m (c := g_X10_goFrom_L3 (p : Int) (a : Int) ((wh a : Nat) : Int) (s : Int) fu) hN hp ha hs hwW hM hL hf' hV h9 h
      have e81 : gI T1 81 = gI T 81 := u2 81 (by decide) (by decide) (by decide)
      obtain ⟨T2, v1, v2, v3⟩ := ih (w + 1) fu T1 (by omega) (by omega) (hM.g u2) (hL.g u2) (by rw [e81]; exact hV) (by rw [e81]; exact h9) u3
      have hh := wh_s a ha _ so3 hf'
      refine ⟨T2, ?_, u2.tr v2, v3⟩
      by_cases c : soN N w = 1
      · rw [if_pos c] at hh
        rw [hh] at u1
        rw [if_pos (show ((soN N w : Nat) : Int) = 1 by omega), ← v1]
        exact u1
      · rw [if_neg c] at hh
        rw [hh] at u1
        rw [if_neg (show ¬ ((soN N w : Nat) : Int) = 1 by omega), ← v1]
        exact u1
