/-! THE FORWARD TABLE: the loop over the senses of a row -/
theorem gPs_l {N : Nat → Nat → Int} {nW nP p a : Nat} {law : Option (List Lin)} {K : Mem → Option Mem} (hN : NR N nW nP) (hp : p ≤ 5) (ha : a < 4) : ∀ (r s fu : Nat) (T : Mem), s + r = 64 → r < fu → OM N nW nP T → LM law T → nowP nW (soN N) (seN N) (prN law N) p T → okG nW (soN N) (seN N) (prN law N) p a s 0 T → ∃ T', g_X10_goPlace_L41 K (p : Int) (a : Int) ((wh a : Nat) : Int) fu (s : Int) T = K T' ∧ KG T T' ∧ okG nW (soN N) (seN N) (prN law N) p a 64 0 T' := by
  have nW12 := hN.1.1
  have wa : wh a < 2 := by unfold wh; split <;> omega
  intro r
  induction r with
  | zero =>
    intro s fu T hs hf hM hL hB h
    obtain ⟨fu, rfl⟩ : ∃ k, fu = k + 1 := ⟨fu - 1, by omega⟩
    have hs : s = 64 := hs
    subst hs
    rw [g_X10_goPlace_L41.eq_2, if_pos (by decide)]
    exact ⟨T, rfl, KG.rf T, h⟩
  | succ r ih =>
    intro s fu T hs hf hM hL hB h
    obtain ⟨fu, rfl⟩ : ∃ k, fu = k + 1 := ⟨fu - 1, by omega⟩
    have hs64 : s < 64 := by omega
    have ia : 128 * a + 64 * wh a + s < 512 := by omega
    have hV : IsQ (pco (soN N) (prN law N) 3 0) (Xn nW (soN N) (seN N) p a s) (gI T 81 (128 * a + 64 * wh a + s)) := IsQ_same (hB a (wh a) s ha wa hs64) (fun t => ⟨fun q => ⟨rfl, q⟩, fun q => q.2⟩)
    rw [g_X10_goPlace_L41.eq_2, if_neg (show ¬ (64 : Int) ≤ (s : Int) by omega), nowAt_v ha wa hs64, ldk_c ia, bS, w32_a s (by omega)]
    by_cases c : 9999999 ≤ gI T 81 (128 * a + 64 * wh a + s)
    · rw [if_pos c]
      refine ih (s + 1) fu T (by omega) (by omega) hM hL hB (okG_i h (fun b x t => (Zg_z (fun t ht => ?_)).symm))
      rcases hV with ⟨-, q⟩ | ⟨u, q1, q2, -⟩
      · exact q t ht
      · have := pco_le (so := soN N) (pr := prN law N) (fun w a p h => (prN_i hN h).2) u 3 0 (chn_w u 3 a q1.2.1)
        rw [q1.1] at this
        omega
    · rw [if_neg c]
      obtain ⟨T1, u1, u2, u3⟩ := goF_l hN hp ha hs64 nW 0 FU T (Nat.zero_add _) (Nat.lt_of_le_of_lt nW12 (by unfold FU; decide)) hM hL hV (by omega) h
      rw [show ((0 : Nat) : Int) = 0 from rfl] at u1
      have e81 : gI T1 81 = gI T 81 := u2 81 (by decide) (by decide) (by decide)
      obtain ⟨T2, v1, v2, v3⟩ := ih (s + 1) fu T1 (by omega) (by omega) (hM.g u2) (hL.g u2) (fun a' wh' s' h1 h2 h3 => by rw [e81]; exact hB a' wh' s' h1 h2 h3) (okG_i u3 (fun b x t => Zg_n.symm))
      unfold g_X10_goFrom
      rw [u1, bS, v1]
      exact ⟨T2, rfl, u2.tr v2, v3⟩
