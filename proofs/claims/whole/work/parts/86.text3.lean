/-! THE LAW'S TEXT: the grammar's levels -/
theorem w_neg {x : Int} (h : bop x) : w32 (-x) = -x := by
  have r := bop_r h
  exact w32s (by omega) (by omega)
theorem chk1 {α : Type} {a : Option α} : chk ((1 : Int) = 0 ∨ (1 : Int) = 1) a = a := chk_t (Or.inr rfl)
theorem chk0 {α : Type} {a : Option α} : chk ((0 : Int) = 0 ∨ (0 : Int) = 1) a = a := chk_t (Or.inl rfl)
theorem pd_l {f q o : Nat} {tp : Nat → Int} {rO : Int → Mem → Option (Int × Mem)} {rm : Mem → Option Mem} (ht : tpO f q tp) (hR : Rl f q tp o (rO (o : Int)) rm) : Rl f q tp o (g_X4_readProduct rO (o : Int)) (g_X10_product rm) := by
  refine lv_l (LC := g_X4_readProduct_L8 rO (o : Int)) (LM' := g_X10_product_L4 rm) ht hR (lp_l (sg := fun c => c = 42 ∨ c = 47 ∨ c = 37) ht hR ?_ ?_ ?_ ?_ ?_ ?_ ?_)
  · rintro c (rfl | rfl | rfl) <;> (unfold bop; decide)
  · intro fu v S x hv hn hx
    rw [g_X4_readProduct_L8.eq_2, if_neg (show ¬ (120 : Int) ≤ v by omega), if_neg (show ¬ (1 : Int) = 0 by decide), hn, bS]
    unfold g_X4_readProduct_J45
    rw [hn]
    repeat rw [bS]
    by_cases c1 : x = 42
    · rw [if_pos c1]
    · rw [if_neg c1]
      by_cases c2 : x = 47
      · rw [if_pos c2]
      · rw [if_neg c2, if_pos (show x = 37 by omega)]
  · intro fu v S x hn hx
    rw [g_X4_readProduct_L8.eq_2, hn]
    repeat rw [bS]
    rw [if_neg (show ¬ x = 42 by omega), if_neg (show ¬ x = 47 by omega), if_neg (show ¬ x = 37 by omega), if_neg (show ¬ (1 : Int) = 0 by decide), chk1]
    split <;> rfl
  · intro fu v S
    rw [g_X4_readProduct_L8.eq_2, if_pos (show (0 : Int) = 0 from rfl), chk0]
    split <;> rfl
  · intro fu T y hf hn hy
    rw [g_X10_product_L4.eq_2, if_neg (show ¬ 0 ≤ gI T 56 20 by omega), hn]
    repeat rw [bS]
    by_cases c1 : y = 42
    · rw [if_pos c1]
    · rw [if_neg c1]
      by_cases c2 : y = 47
      · rw [if_pos c2]
      · rw [if_neg c2, if_pos (show y = 37 by omega)]
  · intro fu T y hn hy
    rw [g_X10_product_L4.eq_2, hn]
    repeat rw [bS]
    rw [if_neg (show ¬ y = 42 by omega), if_neg (show ¬ y = 47 by omega), if_neg (show ¬ y = 37 by omega)]
    split <;> rfl
  · intro fu T hf
    rw [g_X10_product_L4.eq_2, if_pos hf]
theorem sm_l {f q o : Nat} {tp : Nat → Int} {rO : Int → Mem → Option (Int × Mem)} {rm : Mem → Option Mem} (ht : tpO f q tp) (hR0 : Rl f q tp o (rO (o : Int)) rm) : Rl f q tp o (g_X4_readSum rO (o : Int)) (g_X10_sum rm) := by
  have hR := pd_l ht hR0
  refine lv_l (LC := g_X4_readSum_L8 rO (o : Int)) (LM' := g_X10_sum_L4 rm) ht hR (lp_l (sg := fun c => c = 43 ∨ c = 45) ht hR ?_ ?_ ?_ ?_ ?_ ?_ ?_)
  · rintro c (rfl | rfl) <;> (unfold bop; decide)
  · intro fu v S x hv hn hx
    rw [g_X4_readSum_L8.eq_2, if_neg (show ¬ (120 : Int) ≤ v by omega), if_neg (show ¬ (1 : Int) = 0 by decide), hn, bS]
    unfold g_X4_readSum_J36
    rw [hn]
    repeat rw [bS]
    by_cases c1 : x = 43
    · rw [if_pos c1]
    · rw [if_neg c1, if_pos (show x = 45 by omega)]
  · intro fu v S x hn hx
    rw [g_X4_readSum_L8.eq_2, hn]
    repeat rw [bS]
    rw [if_neg (show ¬ x = 43 by omega), if_neg (show ¬ x = 45 by omega), if_neg (show ¬ (1 : Int) = 0 by decide), chk1]
    split <;> rfl
  · intro fu v S
    rw [g_X4_readSum_L8.eq_2, if_pos (show (0 : Int) = 0 from rfl), chk0]
    split <;> rfl
  · intro fu T y hf hn hy
    rw [g_X10_sum_L4.eq_2, if_neg (show ¬ 0 ≤ gI T 56 20 by omega), hn]
    repeat rw [bS]
    by_cases c1 : y = 43
    · rw [if_pos c1]
    · rw [if_neg c1, if_pos (show y = 45 by omega)]
  · intro fu T y hn hy
    rw [g_X10_sum_L4.eq_2, hn]
    repeat rw [bS]
    rw [if_neg (show ¬ y = 43 by omega), if_neg (show ¬ y = 45 by omega)]
    split <;> rfl
  · intro fu T hf
    rw [g_X10_sum_L4.eq_2, if_pos hf]
theorem cm_l {f q o : Nat} {tp : Nat → Int} {rO : Int → Mem → Option (Int × Mem)} {rm : Mem → Option Mem} (ht : tpO f q tp) (hR0 : Rl f q tp o (rO (o : Int)) rm) : Rl f q tp o (g_X4_readCompared rO (o : Int)) (g_X10_compared rm) := by
  have hR := sm_l ht hR0
  have f120 := ht.1
  intro a e es S T ha he hes hC hM hS hT
  obtain ⟨x, S1, T1, h1, h2, k1, k2, h5⟩ := hR a e es S T ha he hes hC hM hS hT
  unfold g_X4_readCompared g_X10_compared
  rw [h1, h2, bd2S, bS]
  rcases h5 with ⟨rfl, a', e1, g1, g2, g3, g4, g5, g6⟩ | h5
  · have hC1 := hC.k ht.2.1 k1
    have hM1 := hM.k k2
    have n1 := next_c hC1 f120 g4.1
    have n2 := look_m hM1 f120 g5.1
    rw [n1, n2, bS, bS, if_neg (show ¬ (1 : Int) = 0 by decide), if_neg (show ¬ 0 ≤ gI T1 56 20 by rw [g5.2.1]; decide)]
    by_cases c : nx f tp a' = 60 ∨ nx f tp a' = 61 ∨ nx f tp a' = 62
    · have cb : bop (nx f tp a') := by rcases c with c | c | c <;> (rw [c]; unfold bop; decide)
      have r0 := bop_r cb
      have haf : a' < f := by
        by_cases z : a' < f
        · exact z
        · unfold nx at r0
          rw [if_neg z] at r0
          omega
      have el : lk f tp a' = nx f tp a' := by
        rcases nx_lk ht a' with z | z
        · exact z.2.2.2
        · omega
      obtain ⟨x, S2, S3, T2, T3, y1, y2, y3, y4, y5⟩ := stp_l ht hR cb haf (e := e ++ e1.map enc) (es := es ++ e1) (by rw [List.length_append, List.length_map]; omega) (by rw [List.length_append]; omega) hC1 hM1 g4 g5
      have hx : x = 0 ∨ x = 1 := by
        rcases y5 with ⟨-, -, ⟨z, -⟩ | ⟨p, n, -, -, -, -, -, -, -, z⟩⟩
        · exact Or.inr z
        · exact z.elim Or.inl (fun w => Or.inr w.1)
      have fin := sq_l k1 k2 (b := a + 1) g1 (by omega) g3 g6 (by
        obtain ⟨z1, z2, z3⟩ := y5
        refine ⟨z1, z2, ?_⟩
        rcases z3 with ⟨w1, w2, w3, w4, w5⟩ | z3
        · exact Or.inl ⟨w1, w2, w3, by omega, w5⟩
        · exact Or.inr z3)
      refine ⟨x, S3, T3, ?_, ?_, fin⟩
      · simp only [ap]
        rw [y1]
        repeat rw [bd2S]
        rw [y2]
        repeat rw [bS]
        rw [chk_t hx]
        by_cases c1 : nx f tp a' = 60
        · rw [if_pos c1]
        · rw [if_neg c1]
          by_cases c2 : nx f tp a' = 61
          · rw [if_pos c2]
          · rw [if_neg c2, if_pos (show nx f tp a' = 62 by omega)]
      · simp only [ap]
        rw [el, y3]
        repeat rw [bS]
        rw [y4]
        repeat rw [bS]
        by_cases c1 : nx f tp a' = 60
        · rw [if_pos c1]
        · rw [if_neg c1]
          by_cases c2 : nx f tp a' = 61
          · rw [if_pos c2]
          · rw [if_neg c2, if_pos (show nx f tp a' = 62 by omega)]
    · have c' : ¬ (lk f tp a' = 60 ∨ lk f tp a' = 61 ∨ lk f tp a' = 62) := by
        rcases nx_lk ht a' with w | w
        · rw [w.2.2.2]
          exact c
        · omega
      rw [if_neg (show ¬ nx f tp a' = 60 by omega), if_neg (show ¬ nx f tp a' = 61 by omega), if_neg (show ¬ nx f tp a' = 62 by omega), if_neg (show ¬ lk f tp a' = 60 by omega), if_neg (show ¬ lk f tp a' = 61 by omega), if_neg (show ¬ lk f tp a' = 62 by omega)]
      exact ⟨1, S1, T1, rfl, rfl, k1, k2, Or.inl ⟨rfl, a', e1, g1, g2, g3, g4, g5, g6⟩⟩
  · obtain ⟨p, n, g1, g2, g3, g4, g5, g6, g7, g8⟩ := id h5
    have n2 := look_m (hM.k k2) f120 g5
    have n1 := next_c (hC.k ht.2.1 k1) f120 g4
    rw [n1, n2, bS, bS, if_pos (show 0 ≤ gI T1 56 20 by rw [g6]; omega)]
    rcases g8 with rfl | ⟨rfl, d1, d2⟩
    · rw [if_pos (show (0 : Int) = 0 from rfl)]
      exact ⟨0, S1, T1, rfl, rfl, k1, k2, Or.inr h5⟩
    · rw [if_neg (show ¬ (1 : Int) = 0 by decide), if_neg (show ¬ nx f tp p = 60 by omega), if_neg (show ¬ nx f tp p = 61 by omega), if_neg (show ¬ nx f tp p = 62 by omega)]
      exact ⟨1, S1, T1, rfl, rfl, k1, k2, Or.inr h5⟩
theorem takes_y {S : Mem} {c : Int} (h : g_X4_next S = some c) : g_X4_takes c S = some (1, sI S 13 7 (w32 (gI S 13 7 + 1))) := by
  unfold g_X4_takes
  rw [h, bS, if_pos rfl]
theorem takes_n {S : Mem} {c x : Int} (h : g_X4_next S = some x) (hx : ¬ x = c) : g_X4_takes c S = some (0, S) := by
  unfold g_X4_takes
  rw [h, bS, if_neg hx]
theorem bo_l {f q o : Nat} {tp : Nat → Int} {rO : Int → Mem → Option (Int × Mem)} {rm : Mem → Option Mem} (ht : tpO f q tp) (hR0 : Rl f q tp o (rO (o : Int)) rm) : Rl f q tp o (g_X4_readBoth rO (o : Int)) (g_X10_both rm) := by
  have hR := cm_l ht hR0
  refine lv_l (LC := g_X4_readBoth_L8 rO (o : Int)) (LM' := g_X10_both_L4 rm) ht hR (lp_l (sg := fun c => c = 38) ht hR ?_ ?_ ?_ ?_ ?_ ?_ ?_)
  · rintro c rfl
    unfold bop
    decide
  · intro fu v S x hv hn hx
    have hx : x = 38 := hx
    subst hx
    rw [g_X4_readBoth_L8.eq_2, if_neg (show ¬ (120 : Int) ≤ v by omega), if_neg (show ¬ (1 : Int) = 0 by decide), takes_y hn, bd2S, if_neg (show ¬ (1 : Int) = 0 by decide)]
    rfl
  · intro fu v S x hn hx
    rw [g_X4_readBoth_L8.eq_2, takes_n hn hx, bd2S, if_pos (show (0 : Int) = 0 from rfl), if_neg (show ¬ (1 : Int) = 0 by decide), chk1]
    split <;> rfl
  · intro fu v S
    rw [g_X4_readBoth_L8.eq_2, if_pos (show (0 : Int) = 0 from rfl), chk0]
    split <;> rfl
  · intro fu T y hf hn hy
    have hy : y = 38 := hy
    subst hy
    rw [g_X10_both_L4.eq_2, if_neg (show ¬ 0 ≤ gI T 56 20 by omega), hn, bS, if_pos rfl]
  · intro fu T y hn hy
    rw [g_X10_both_L4.eq_2, hn, bS, if_neg hy]
    split <;> rfl
  · intro fu T hf
    rw [g_X10_both_L4.eq_2, if_pos hf]
theorem ei_l {f q o : Nat} {tp : Nat → Int} {rO : Int → Mem → Option (Int × Mem)} {rm : Mem → Option Mem} (ht : tpO f q tp) (hR0 : Rl f q tp o (rO (o : Int)) rm) : Rl f q tp o (g_X4_readEither rO (o : Int)) (g_X10_either rm) := by
  have hR := bo_l ht hR0
  refine lv_l (LC := g_X4_readEither_L8 rO (o : Int)) (LM' := g_X10_either_L4 rm) ht hR (lp_l (sg := fun c => c = 124) ht hR ?_ ?_ ?_ ?_ ?_ ?_ ?_)
  · rintro c rfl
    unfold bop
    decide
  · intro fu v S x hv hn hx
    have hx : x = 124 := hx
    subst hx
    rw [g_X4_readEither_L8.eq_2, if_neg (show ¬ (120 : Int) ≤ v by omega), if_neg (show ¬ (1 : Int) = 0 by decide), takes_y hn, bd2S, if_neg (show ¬ (1 : Int) = 0 by decide)]
    rfl
  · intro fu v S x hn hx
    rw [g_X4_readEither_L8.eq_2, takes_n hn hx, bd2S, if_pos (show (0 : Int) = 0 from rfl), if_neg (show ¬ (1 : Int) = 0 by decide), chk1]
    split <;> rfl
  · intro fu v S
    rw [g_X4_readEither_L8.eq_2, if_pos (show (0 : Int) = 0 from rfl), chk0]
    split <;> rfl
  · intro fu T y hf hn hy
    have hy : y = 124 := hy
    subst hy
    rw [g_X10_either_L4.eq_2, if_neg (show ¬ 0 ≤ gI T 56 20 by omega), hn, bS, if_pos rfl]
  · intro fu T y hn hy
    rw [g_X10_either_L4.eq_2, hn, bS, if_neg hy]
    split <;> rfl
  · intro fu T hf
    rw [g_X10_either_L4.eq_2, if_pos hf]
