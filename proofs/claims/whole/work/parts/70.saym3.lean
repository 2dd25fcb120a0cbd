/-! SAY, m_say -/
theorem m_say {b : Nat} {Sc Sm : Mem} (h : IV b Sc Sm) (x y : Int) : Sim (b + 100) (g_X9_say x y Sc) (g_X10_say x y Sm) := by
  obtain ⟨nW, nP, nB, law, h⟩ := h
  have same : ∀ r, Sim (b + 100) (some (r, Sc)) (some (r, Sm)) := fun r => Sim.same ⟨nW, nP, nB, law, h⟩ (by omega)
  obtain ⟨hN, hO, hM, hL, hLm⟩ := ask_of h
  have nW12 := hN.1.1
  unfold g_X9_say g_X10_say
  rw [btw, inn]
  by_cases c1 : 0 ≤ x ∧ x ≤ 4095
  · rw [if_pos c1, i10, i10]
    by_cases c2 : -2 ≤ y
    · rw [if_pos c2, if_pos c2]
      obtain ⟨X, rfl⟩ := nat_of c1.1
      have d1 : w32 (Int.tdiv (X : Int) 64) = ((X / 64 : Nat) : Int) := by
        rw [tdn 64 (by omega), w32s (by omega) (by omega)]
        omega
      have d2 : Int.tmod (X : Int) 64 = ((X % 64 : Nat) : Int) := tmodn X 64
      rw [d1, d2]
      clear d1 d2
      have hy64 : X / 64 < 64 := by omega
      have hn64 : X % 64 < 64 := by omega
      generalize X / 64 = yes at *
      generalize X % 64 = no at *
      obtain ⟨S1, s1, s2, s3, s4⟩ := fresh_c hN hO hL h.2.2.2.2.2.2.2.2.1
      obtain ⟨v, v1, v2⟩ := chp_c (no := no) (fun w hw => (seN_i hN hw).2) hy64 s4 64 0 FU (-1) rfl (by unfold FU; decide) (Or.inl ⟨rfl, fun t ht => Nat.not_lt_zero _ ht.2⟩)
      rw [show ((0 : Nat) : Int) = 0 from rfl] at v1
      obtain ⟨T1, t1, t2, t3, t4⟩ := findSay_m hN hM hLm hy64 hn64
      have cell := t4 0 3 0 0 (by decide) (by decide) (by decide) (by decide)
      unfold okY at cell
      have cell : gI T1 80 384 = ((SB law (nu Sc) yes no nW 6 3 0 0 : Nat) : Int) := cell
      have kc : ∀ (r : Int) (T : Mem), KM Sm T → Sim (b + 100) (some (r, S1)) (some (r, T)) := fun r T hm => ⟨r, S1, T, rfl, rfl, nW, nP, nB, law, Inv_up (Inv_RY (Inv_keep h (KC.rf Sc) hm) s2 s3) (by omega)⟩
      unfold g_X6_cheapest
      rw [s1, bS, v1, bd2S, t1, bS, show g_X10_sayAt 0 3 0 0 = ((384 : Nat) : Int) by decide +kernel, ldk_c (show 384 < 3584 by decide), bS, cell]
      have at6 := SB_at (law := law) (yes := yes) (no := no) hN 6 3 0 (Nat.le_refl _) (by decide)
      rw [show wh 3 = 0 from rfl] at at6
      rcases v2 with ⟨rfl, z⟩ | ⟨t, z1, z2, z3⟩
      · have e : SB law (nu Sc) yes no nW 6 3 0 0 = 9999999 := by
          rcases SB_b (law := law) (yes := yes) (no := no) hN 6 3 0 0 with q | q
          · exact q
          · obtain ⟨u, u1, u2, u3, u4, -⟩ := at6 (by omega)
            rw [Nat.zero_or] at u4
            exact absurd ⟨u1, u2, u4, (sen_no u).mpr u3⟩ (z u)
        rw [e, show lcm (-1) 0 = -1 by decide, if_neg (show ¬ (0 : Int) ≤ -1 by decide), if_pos (show (9999999 : Int) ≤ ((9999999 : Nat) : Int) by omega)]
        exact kc _ _ t2
      · have hno := (sen_no t).mp z1.2.2.2
        have le := SB_le (law := law) (yes := yes) (no := no) hN t 6 3 0 z1.1 (Nat.le_refl _) (by decide) z1.2.1 hno (by rw [Nat.zero_or]; exact z1.2.2.1)
        rw [show wh 3 = 0 from rfl, Nat.sub_self] at le
        have pl := pco_le (so := soN (nu Sc)) (pr := prN law (nu Sc)) (fun w a p h => (prN_i hN h).2) t 3 0 (Vp_w z1.2.1)
        have l6 := z1.1
        obtain ⟨u, u1, u2, u3, u4, u5⟩ := at6 (by omega)
        rw [Nat.zero_or] at u4
        rw [Nat.sub_self] at u5
        have ek := (enc_k (so := soN (nu Sc)) (pr := prN law (nu Sc)) ⟨z1.1, w6 nW12 z1.1 (Vp_w z1.2.1)⟩ ⟨u1, w6 nW12 u1 (Vp_w u2)⟩ (z3 u ⟨u1, u2, u4, (sen_no u).mpr u3⟩)).1
        have ho : SB law (nu Sc) yes no nW 6 3 0 0 = 16 * pco (soN (nu Sc)) (prN law (nu Sc)) 3 0 t + t.length := by omega
        have hP : pco (soN (nu Sc)) (prN law (nu Sc)) 3 0 t ≤ 594 := by omega
        have hW := w6 nW12 z1.1 (Vp_w z1.2.1)
        have walk := fun (k : Nat) (hk : k < t.length) => walkY (k := k) hN hn64 l6 z1.2.1 hno z1.2.2.1 ho z3 hk k 0 FU T1 (Nat.zero_add _) (Nat.lt_of_lt_of_le hk (Nat.le_trans l6 (by unfold FU; decide))) ⟨t3, t4⟩
        have l16 : ∀ w ∈ t, w < 16 := fun w q => by have := Vp_w z1.2.1 w q; omega
        have hE : encT (soN (nu Sc)) (prN law (nu Sc)) t = pco (soN (nu Sc)) (prN law (nu Sc)) 3 0 t * 2 ^ 28 + t.length * 2 ^ 24 + wds 0 t := rfl
        rw [z2, lcm_p, if_pos (show (0 : Int) ≤ (if encT (soN (nu Sc)) (prN law (nu Sc)) t = 0 then 0 else 1) by split <;> decide), cl_p hE hP l6 hW, cl_m hE hP l6 hW, ho]
        have word : ∀ k, k < t.length → g_X6_wordIn ((encT (soN (nu Sc)) (prN law (nu Sc)) t : Nat) : Int) (k : Int) = ((t.getD k 0 : Nat) : Int) := fun k hk => by
          rw [cl_w hE hP l6 hW hk, wds_dig hk l16]
        clear hE z3 z2 ek le ho
        generalize pco (soN (nu Sc)) (prN law (nu Sc)) 3 0 t = P at *
        have n9 : ¬ (9999999 : Int) ≤ ((16 * P + t.length : Nat) : Int) := by omega
        have q1 : Int.tmod ((16 * P + t.length : Nat) : Int) 16 = ((t.length : Nat) : Int) := by
          rw [show (16 : Int) = ((16 : Nat) : Int) from rfl, tmodn, Nat.mul_add_mod, Nat.mod_eq_of_lt (by omega)]
        have q2 : w32 (Int.tdiv ((16 * P + t.length : Nat) : Int) 16) = (P : Int) := by
          rw [tdn 16 (by omega), w32s (by omega) (by omega)]
          omega
        rw [if_neg n9, q1, q2]
        clear q1 q2
        by_cases c3 : y = -1
        · rw [if_pos c3, if_pos (show y < ((t.length : Nat) : Int) by omega), if_pos c3]
          exact kc _ _ t2
        · by_cases c4 : y = -2
          · rw [if_neg c3, if_pos c4, if_pos (show y < ((t.length : Nat) : Int) by omega), if_neg c3, if_pos c4]
            exact kc _ _ t2
          · obtain ⟨k, rfl⟩ := nat_of (show 0 ≤ y by omega)
            rw [if_neg c3, if_neg c4, if_neg c3, if_neg c4]
            by_cases c5 : k < t.length
            · obtain ⟨T2, w1, w2⟩ := walk k c5
              rw [if_neg (show ¬ ((t.length : Nat) : Int) ≤ (k : Int) by omega), if_pos (show (k : Int) < ((t.length : Nat) : Int) by omega), word k c5]
              rw [show ((ah (nu Sc) t 0 : Nat) : Int) = 3 from rfl, show ((wh (ah (nu Sc) t 0) : Nat) : Int) = 0 from rfl, show ((sen (seN (nu Sc)) (t.take 0) : Nat) : Int) = 0 from rfl, show ((0 : Nat) : Int) = 0 from rfl] at w1
              rw [w1]
              exact kc _ _ (t2.tr (KM_q w2))
            · rw [if_pos (show ((t.length : Nat) : Int) ≤ (k : Int) by omega), if_neg (show ¬ (k : Int) < ((t.length : Nat) : Int) by omega)]
              exact kc _ _ t2
    · rw [if_neg c2, if_neg c2]
      exact same _
  · rw [if_neg c1, i00, i00]
    exact same _
