/-! THE LAW'S TEXT: all its lines -/
theorem sgs_s (ls : List Lin) (l : Lin) : sgs (ls ++ [l]) = sgs ls ++ sgL l := by
  unfold sgs
  rw [List.flatMap_append]
  show _ ++ (sgL l ++ []) = _
  rw [List.append_nil]
theorem stL_s (ls : List Lin) (l : Lin) : (ls ++ [l]).flatMap stL = ls.flatMap stL ++ stL l := by
  rw [List.flatMap_append]
  show _ ++ (stL l ++ []) = _
  rw [List.append_nil]
theorem endsT_s : ∀ (ls : List Lin) (i : Nat) (l : Lin), endsT i (ls ++ [l]) = endsT i ls ++ [((i + (ls.flatMap stL).length + (l.1.getD []).length : Nat) : Int)]
  | [], i, l => rfl
  | m :: ls, i, l => by
    have e : i + (stL m).length + (ls.flatMap stL).length + (l.1.getD []).length = i + ((stL m).length + (ls.flatMap stL).length) + (l.1.getD []).length := by omega
    show ((i + (m.1.getD []).length : Nat) : Int) :: endsT (i + (stL m).length) (ls ++ [l]) = ((i + (m.1.getD []).length : Nat) : Int) :: (endsT (i + (stL m).length) ls ++ _)
    rw [endsT_s ls (i + (stL m).length) l, e, List.flatMap_cons, List.length_append]
theorem endsL_s : ∀ (ls : List Lin) (i : Nat) (l : Lin), endsL i (ls ++ [l]) = endsL i ls ++ [((i + (ls.flatMap stL).length + (stL l).length : Nat) : Int)]
  | [], i, l => rfl
  | m :: ls, i, l => by
    have e : i + (stL m).length + (ls.flatMap stL).length + (stL l).length = i + ((stL m).length + (ls.flatMap stL).length) + (stL l).length := by omega
    show ((i + (stL m).length : Nat) : Int) :: endsL (i + (stL m).length) (ls ++ [l]) = ((i + (stL m).length : Nat) : Int) :: (endsL (i + (stL m).length) ls ++ _)
    rw [endsL_s ls (i + (stL m).length) l, e, List.flatMap_cons, List.length_append]
theorem endsT_n : ∀ (ls : List Lin) (i : Nat), (endsT i ls).length = ls.length
  | [], i => rfl
  | m :: ls, i => by
    show (endsT (i + (stL m).length) ls).length + 1 = ls.length + 1
    rw [endsT_n ls]
theorem endsL_n : ∀ (ls : List Lin) (i : Nat), (endsL i ls).length = ls.length
  | [], i => rfl
  | m :: ls, i => by
    show (endsL (i + (stL m).length) ls).length + 1 = ls.length + 1
    rw [endsL_n ls]
theorem stL_t (l : Lin) : (l.1.getD []).length ≤ (stL l).length := by
  obtain ⟨t, x⟩ := l
  cases t with
  | none => exact Nat.zero_le _
  | some t =>
    show t.length ≤ (t ++ x).length
    rw [List.length_append]
    omega
theorem endsT_m : ∀ (ls : List Lin) (i : Nat), ∀ x ∈ endsT i ls, 0 ≤ x ∧ x ≤ ((i + (ls.flatMap stL).length : Nat) : Int)
  | [], i, x, h => by cases h
  | m :: ls, i, x, h => by
    have ht := stL_t m
    rw [List.flatMap_cons, List.length_append]
    rcases List.mem_cons.mp h with h | h
    · rw [h]
      omega
    · have := endsT_m ls (i + (stL m).length) x h
      omega
theorem endsL_m : ∀ (ls : List Lin) (i : Nat), ∀ x ∈ endsL i ls, 0 ≤ x ∧ x ≤ ((i + (ls.flatMap stL).length : Nat) : Int)
  | [], i, x, h => by cases h
  | m :: ls, i, x, h => by
    rw [List.flatMap_cons, List.length_append]
    rcases List.mem_cons.mp h with h | h
    · rw [h]
      omega
    · have := endsL_m ls (i + (stL m).length) x h
      omega
theorem tx_l {f q : Nat} {tp : Nat → Int} {K : Mem → Option (Int × Mem)} {v1 : Int} (ht : tpO f q tp) : ∀ (r a fu fm : Nat) (ls : List Lin) (S T : Mem), f < a + r → a ≤ f → r < fu → r < fm → (sgs ls).length ≤ a → (ls.flatMap stL).length ≤ a → 2 * ls.length ≤ a → (∀ l ∈ ls, okL l) → cxC f q tp S → cxM f tp T → stC q a (sgs ls) S → stM a 0 (ls.flatMap stL) T → gI T 72 1 = ((ls.length : Nat) : Int) → At (gI T 73) 61 (endsT 0 ls) → At (gI T 74) 61 (endsL 0 ls) → ∃ x S' T', g_X4_readText_L12 fu ((ls.length : Nat) : Int) S = some (x, S') ∧ ((g_X10_line T).bind fun T1 => g_X10_readText_L31 K v1 fm T1) = K T' ∧ kC q S S' ∧ kL 61 T T' ∧ ((x = 1 ∧ ∃ ls' : List Lin, ls' ≠ [] ∧ (∀ l ∈ ls', okL l) ∧ (sgs ls').length ≤ 121 ∧ ls'.length ≤ 61 ∧ (ls'.flatMap stL).length ≤ 120 ∧ stC q f (sgs ls') S' ∧ stM f 0 (ls'.flatMap stL) T' ∧ gI T' 72 1 = ((ls'.length : Nat) : Int) ∧ At (gI T' 73) 61 (endsT 0 ls') ∧ At (gI T' 74) 61 (endsL 0 ls')) ∨ (x = 0 ∧ ∃ p : Nat, p ≤ f ∧ gI S' 13 7 = (p : Int) ∧ gI T' 56 19 = (p : Int) ∧ (gI T' 56 20 = (p : Int) ∨ (gI T' 56 20 = -1 ∧ p < f)))) := by
  have f120 := ht.1
  intro r
  induction r with
  | zero =>
    intro a fu fm ls S T hr ha
    omega
  | succ r ih =>
    intro a fu fm ls S T hr ha hf hm h1 h2 h3 h4 hC hM hS hT h72 h73 h74
    obtain ⟨fu, rfl⟩ : ∃ k, fu = k + 1 := ⟨fu - 1, by omega⟩
    obtain ⟨fm, rfl⟩ : ∃ k, fm = k + 1 := ⟨fm - 1, by omega⟩
    have hk : ls.length ≤ 60 := by omega
    obtain ⟨x, S1, T1, y1, y2, y3, y4, y5, y6⟩ := ln_l (k := ls.length) ht ha h1 h2 hk hC hM hS hT h72
    have hC1 := hC.k ht.2.1 y3
    have hM1 := hM.l y4
    have kL1 : kL 61 T T1 := y4.le (by omega)
    rw [g_X4_readText_L12.eq_2, if_neg (show ¬ (121 : Int) ≤ ((ls.length : Nat) : Int) by omega), y1, y2, bd2S, bS, g_X10_readText_L31.eq_2]
    rcases y6 with ⟨rfl, a', l, g1, g2, g3, g4, g5, g6, g7, g8, g9⟩ | ⟨p, g1, g2, g3, g4, g5⟩
    · have n1 := next_c hC1 f120 g6.1
      have n2 := look_m hM1 f120 g7.1
      have hok : ∀ m ∈ ls ++ [l], okL m := fun m hm' => (List.mem_append.mp hm').elim (h4 m) (fun z => by rw [List.mem_singleton.mp z]; exact g3)
      have l1 : (ls ++ [l]).length = ls.length + 1 := by rw [List.length_append]; rfl
      have a73 : At (gI T1 73) 61 (endsT 0 (ls ++ [l])) := by
        rw [endsT_s]
        refine At_sn (At_c h73 (fun j hj => y4.2.2.2.1 73 (61 + j) (Or.inl rfl) (by rw [endsT_n] at hj; omega))) ?_
        rw [endsT_n, g8, Nat.zero_add]
      have a74 : At (gI T1 74) 61 (endsL 0 (ls ++ [l])) := by
        rw [endsL_s]
        refine At_sn (At_c h74 (fun j hj => y4.2.2.2.1 74 (61 + j) (Or.inr rfl) (by rw [endsL_n] at hj; omega))) ?_
        rw [endsL_n, g9, Nat.zero_add]
      rw [i10, if_neg (show ¬ 0 ≤ gI T1 56 20 by rw [g7.2.1]; decide), n2, bS, g6.1, hC1.1]
      by_cases c : a' < f
      · rw [if_pos (show (a' : Int) < (f : Int) by omega)]
        by_cases d : nx f tp a' = 59
        · have hz : lk f tp a' = nx f tp a' := by
            rcases nx_lk ht a' with z | z
            · exact z.2.2.2
            · omega
          rw [d] at n1
          rw [hz, if_pos d, takes_y n1, bd2S, i10]
          simp only [ap]
          rw [w32_a ls.length (by omega)]
          obtain ⟨x, S2, T2, z1, z2, z3, z4, z5⟩ := ih (a' + 1) fu fm (ls ++ [l]) (sI S1 13 7 (w32 (gI S1 13 7 + 1))) (sI T1 56 19 (w32 (gI T1 56 19 + 1))) (by omega) c (by omega) (by omega) (by rw [sgs_s, List.length_append]; omega) (by rw [stL_s, List.length_append]; omega) (by omega) hok (hC1.k ht.2.1 (kC_s (Or.inr rfl))) (hM1.k (kM_s (Or.inl rfl))) (by rw [sgs_s]; exact stC_a ht.2.1 (by omega) g6) (by rw [stL_s]; exact stM_a (by omega) g7) (by rw [gI_ne (by decide), y5, l1]) (by rw [gI_ne (by decide)]; exact a73) (by rw [gI_ne (by decide)]; exact a74)
          rw [l1] at z1
          exact ⟨x, S2, T2, z1, z2, (y3.tr (kC_s (Or.inr rfl))).tr z3, (kL1.tr (kL.m (kM_s (Or.inl rfl)))).tr z4, z5⟩
        · have hz : ¬ lk f tp a' = 59 := by
            rcases nx_lk ht a' with z | z
            · rw [z.2.2.2]
              exact d
            · omega
          rw [if_neg hz, takes_n n1 d, bd2S, i00]
          exact ⟨0, S1, T1, rfl, rfl, y3, kL1, Or.inr ⟨rfl, a', g2, g6.1, g7.1, Or.inr ⟨g7.2.1, c⟩⟩⟩
      · have ea : a' = f := by omega
        subst ea
        have hz : lk a' tp a' = -1 := by unfold lk; rw [if_neg (by omega)]
        rw [if_neg (show ¬ (a' : Int) < (a' : Int) by omega), hz, if_neg (show ¬ (-1 : Int) = 59 by decide)]
        refine ⟨1, S1, T1, rfl, rfl, y3, kL1, Or.inl ⟨rfl, ls ++ [l], fun z => ?_, hok, by rw [sgs_s, List.length_append]; omega, by omega, by rw [stL_s, List.length_append]; omega, by rw [sgs_s]; exact g6, by rw [stL_s]; exact g7, by rw [y5, l1], a73, a74⟩⟩
        rw [z] at l1
        exact absurd l1 (by show ¬ 0 = ls.length + 1; omega)
    · rw [if_pos (show 0 ≤ gI T1 56 20 by rw [g4]; omega)]
      rcases g5 with rfl | ⟨rfl, d1, d2⟩
      · rw [i00]
        exact ⟨0, S1, T1, rfl, rfl, y3, kL1, Or.inr ⟨rfl, p, g1, g2, g3, Or.inl g4⟩⟩
      · have pf : p < f := by
          by_cases z : p < f
          · exact z
          · unfold nx at d1
            rw [if_neg z] at d1
            omega
        rw [i10, g2, hC1.1, if_pos (show (p : Int) < (f : Int) by omega), takes_n (next_c hC1 f120 g2) (show ¬ nx f tp p = 59 by omega), bd2S, i00]
        exact ⟨0, S1, T1, rfl, rfl, y3, kL1, Or.inr ⟨rfl, p, g1, g2, g3, Or.inl g4⟩⟩
