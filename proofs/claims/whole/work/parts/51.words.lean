/-! WORDS FROM A ROW; ELEMENTS SHIFTED -/
theorem w_1 (n k : Nat) (hn : n ≤ 1000) (hk : k ≤ 1000) : w32 ((n : Int) - w32 (3 * w32 ((k : Int) + 1))) = (n : Int) - 3 * ((k : Int) + 1) := by
  rw [w32s (i := (k : Int) + 1) (by omega) (by omega), w32s (i := 3 * ((k : Int) + 1)) (by omega) (by omega), w32s (by omega) (by omega)]
theorem w_2 (i k : Nat) (hi : i ≤ 2147483647) (hk : k ≤ 1000) : w64 ((i : Int) + w32 (3 * (k : Int))) = ((i + 3 * k : Nat) : Int) := by
  rw [w32s (i := 3 * (k : Int)) (by omega) (by omega), w64s (by omega) (by omega)]
  omega
theorem w_3 (i : Nat) (hi : i ≤ 4147483647) : w64 ((i : Int) + 2) = ((i + 2 : Nat) : Int) := by
  rw [w64s (by omega) (by omega)]
  omega
theorem w_4 (i k : Nat) (hi : i ≤ 1000) (hk : k ≤ 1000) : w32 ((i : Int) + w32 (3 * (k : Int))) = ((i + 3 * k : Nat) : Int) := by
  rw [w32s (i := 3 * (k : Int)) (by omega) (by omega), w32s (by omega) (by omega)]
  omega
theorem w_5 (q p : Nat) (hq : q < 6) (hp : p ≤ 1000) : w32 (w32 (60 * (q : Int)) + w32 (p : Int)) = ((60 * q + p : Nat) : Int) := by
  rw [w32s (i := 60 * (q : Int)) (by omega) (by omega), w32s (i := (p : Int)) (by omega) (by omega), w32s (by omega) (by omega)]
  omega
theorem w_6 (p : Nat) (hp : p ≤ 1000) : w32 ((p : Int) + 2) = ((p + 2 : Nat) : Int) := by
  rw [w32s (by omega) (by omega)]
  omega
theorem w_7 (q i k : Nat) (hq : q < 6) (hp : i + k ≤ 1000) : w32 (w32 (w32 (60 * (q : Int)) + (i : Int)) + (k : Int)) = ((60 * q + (i + k) : Nat) : Int) := by
  rw [w32s (i := 60 * (q : Int)) (by omega) (by omega), w32s (i := 60 * (q : Int) + (i : Int)) (by omega) (by omega), w32s (by omega) (by omega)]
  omega
theorem w_8 (n k : Nat) (hn : n ≤ 1000) (hk : k ≤ 2147483647) : w32 ((n : Int) - (k : Int)) = (n : Int) - (k : Int) := w32s (by omega) (by omega)
theorem lcm_n (a b : Nat) : lcm (a : Int) (b : Int) = if a < b then -1 else if a = b then 0 else 1 := by
  unfold lcm
  (repeat' split) <;> first | rfl | omega
theorem Inv_of_RS {b nW nP nB : Nat} {law : Option (List Lin)} {Sc Sm : Mem} (h : Inv b nW nP nB law Sc Sm) : RS nB Sc Sm := h.2.2.2.2.2.1
/-- three elements as they may be -/
abbrev okW (c s k : Int) : Prop := (1 ≤ c ∧ c ≤ 9) ∧ (0 ≤ s ∧ s ≤ 63) ∧ (0 ≤ k ∧ k ≤ 2)
theorem wf_c {b nW nP nB : Nat} {law : Option (List Lin)} {Sc Sm : Mem} (h : Inv b nW nP nB law Sc Sm) {q p n : Nat} (hq : q < 6) (hn : gI Sc 21 q = (n : Nat)) (h60 : n ≤ 60) (hp : p + 2 < n) : g_X9_wordFrom (q : Int) (p : Int) Sc = if okW (w32 (gI Sc (24 + q) p)) (w32 (gI Sc (24 + q) (p + 1))) (w32 (gI Sc (24 + q) (p + 2))) ∧ nW < 12 then some (1, awC Sc nW (w32 (gI Sc (24 + q) p)) (w32 (gI Sc (24 + q) (p + 1))) (w32 (gI Sc (24 + q) (p + 2)))) else some (0, Sc) := by
  obtain ⟨g0, ⟨o1, o2, o3, o4, o5⟩, -⟩ := h
  unfold g_X9_wordFrom
  rw [at_c g0 hq hn h60 (by omega), bS, w32_a p (by omega), at_c g0 hq hn h60 (by omega), bS, w_6 p (by omega), at_c g0 hq hn h60 (by omega), bS]
  generalize w32 (gI Sc (24 + q) p) = c
  generalize w32 (gI Sc (24 + q) (p + 1)) = s
  generalize w32 (gI Sc (24 + q) (p + 2)) = k
  have f0 := fits_v o1.1 o2.1 c 0 (by decide)
  have f1 := fits_v o1.1 o2.1 s 1 (by decide)
  have f2 := fits_v o1.1 o2.1 k 2 (by decide)
  rw [show ((0 : Nat) : Int) = 0 from rfl, show lo 0 = 1 from rfl, show hi nW 0 = 9 from rfl] at f0
  rw [show ((1 : Nat) : Int) = 1 from rfl, show lo 1 = 0 from rfl, show hi nW 1 = 63 from rfl] at f1
  rw [show ((2 : Nat) : Int) = 2 from rfl, show lo 2 = 0 from rfl, show hi nW 2 = 2 from rfl] at f2
  rw [f0, bS]
  by_cases c1 : 1 ≤ c ∧ c ≤ 9
  · rw [if_pos c1, i10, f1, bS]
    by_cases c2 : 0 ≤ s ∧ s ≤ 63
    · rw [if_pos c2, i10, f2, bS]
      by_cases c3 : 0 ≤ k ∧ k ≤ 2
      · rw [if_pos c3, i10]
        by_cases c4 : nW < 12
        · rw [if_pos ⟨⟨c1, c2, c3⟩, c4⟩, addW_c c s k g0 o1 o2.1 o2.2 c4, bd2S, if_neg (by omega)]
        · rw [if_neg (fun z => c4 z.2)]
          unfold g_X5_addWord
          rw [o2.1, if_neg (by omega), bd2S, if_pos (by decide)]
      · rw [if_neg c3, i00, if_neg (fun z => c3 z.1.2.2)]
    · rw [if_neg c2, i00, if_neg (fun z => c2 z.1.2.1)]
  · rw [if_neg c1, i00, if_neg (fun z => c1 z.1.1)]
theorem words_l {q n i N : Nat} {law : Option (List Lin)} {nP nB : Nat} (hq : q < 6) (h60 : n ≤ 60) (hi : i ≤ 2147483647) (hN : N ≤ 12) : ∀ (m k fu b nW : Nat) (Sc Sm : Mem), Inv b nW nP nB law Sc Sm → gI Sc 21 q = (n : Nat) → gI Sm 94 q = (n : Nat) → (∀ j, j < 60 → gI Sm 95 (60 * q + j) = gI Sc (24 + q) j) → k + m = N → b + 3 * m < 900000 → m < fu → Sim (b + 3 * m) (g_X9_words_L55 (q : Int) (i : Int) (N : Int) fu (k : Int) Sc) (g_X10_words_L58 (q : Int) (i : Int) (N : Int) fu (k : Int) Sm) := by
  intro m
  induction m with
  | zero =>
    intro k fu b nW Sc Sm h hn hn' hE hk hb hf
    obtain ⟨fu, rfl⟩ : ∃ k, fu = k + 1 := ⟨fu - 1, by omega⟩
    rw [g_X9_words_L55.eq_2, g_X10_words_L58.eq_2, if_pos (by omega), if_pos (by omega)]
    exact Sim.same ⟨nW, nP, nB, law, h⟩ (Nat.le_refl _)
  | succ m ih =>
    intro k fu b nW Sc Sm h hn hn' hE hk hb hf
    obtain ⟨fu, rfl⟩ : ∃ k, fu = k + 1 := ⟨fu - 1, by omega⟩
    have same : ∀ r, Sim (b + 3 * (m + 1)) (some (r, Sc)) (some (r, Sm)) := fun r => Sim.same ⟨nW, nP, nB, law, h⟩ (by omega)
    have z5 : ¬ (if i + 3 * k < 0 then (-1 : Int) else if i + 3 * k = 0 then 0 else 1) < 0 := by
      rw [if_neg (by omega)]
      split <;> decide
    have z6 : 0 ≤ (q : Int) ∧ (q : Int) < 6 := by omega
    have z7 : ¬ (N : Int) ≤ (k : Int) := by omega
    rw [g_X9_words_L55.eq_2, g_X10_words_L58.eq_2, if_neg z7, if_neg z7]
    unfold g_X7_sizeOf
    rw [has7, if_pos z6, i10, ldk_c hq, bS, bS, hn, w_1 n k (by omega) (by omega), w_2 i k hi (by omega)]
    simp only [ap]
    rw [show (0 : Int) = ((0 : Nat) : Int) from rfl, lcm_n, show ((0 : Nat) : Int) = (0 : Int) from rfl, if_neg z5, ldk_c hq, bS, hn', w_3 (i + 3 * k) (by omega), lcm_n]
    by_cases c : i + 3 * k + 2 < n
    · rw [if_neg (show ¬ (n : Int) - 3 * ((k : Int) + 1) < (i : Int) by omega), if_pos c, if_neg (by decide), w_4 i k (by omega) (by omega), wf_c h hq hn h60 c, w_5 q (i + 3 * k) hq (by omega)]
      obtain ⟨g0, ⟨o1, o2, o3, o4, o5⟩, -⟩ := id h
      generalize hp : i + 3 * k = p
      rw [hp] at c
      have d0 : 60 * q + p < 360 := by omega
      have d1 : 60 * q + (p + 1) < 360 := by omega
      have d2 : 60 * q + (p + 2) < 360 := by omega
      have g3 : w32 (((60 * q + p : Nat) : Int) + 1) = ((60 * q + (p + 1) : Nat) : Int) := w32_a (60 * q + p) (by omega)
      rw [o3.1, g3, w_6 (60 * q + p) (by clear g3; omega), show 60 * q + p + 2 = 60 * q + (p + 2) from rfl, ldk_c d0, bS, ldk_c d1, bS, ldk_c d2, bS, bS, bS, bS, hE p (by clear g3; omega), hE (p + 1) (by clear g3; omega), hE (p + 2) (by clear g3; omega), inn, inn, inn]
      clear g3
      have hE2 : ∀ c s k j, j < 60 → gI (awM Sm nW c s k) 95 (60 * q + j) = gI (awC Sc nW c s k) (24 + q) j := fun c s k j hj => by rw [awM_ne (by omega), awC_ne (by omega)]; exact hE j hj
      generalize w32 (gI Sc (24 + q) p) = c0
      generalize w32 (gI Sc (24 + q) (p + 1)) = s0
      generalize w32 (gI Sc (24 + q) (p + 2)) = k0
      by_cases c4 : nW < 12
      · rw [if_neg (show ¬ (nW : Int) = 12 by omega)]
        by_cases c1 : 1 ≤ c0 ∧ c0 ≤ 9
        · rw [if_pos c1, i10]
          by_cases c2 : 0 ≤ s0 ∧ s0 ≤ 63
          · rw [if_pos c2, i10]
            by_cases c3 : 0 ≤ k0 ∧ k0 ≤ 2
            · rw [if_pos c3, i10, if_pos ⟨⟨c1, c2, c3⟩, c4⟩, bd2S, i10, addW_m c0 s0 k0 o3.1 c4, bd2S, w32_a k (by omega)]
              have h2 := Inv_word (c := c0) (s := s0) (k := k0) h c4 c1 c2 c3 (by omega)
              have := ih (k + 1) fu (b + 3) (nW + 1) _ _ h2 (by rw [awC_ne (by omega)]; exact hn) (by rw [awM_ne (by omega)]; exact hn') (hE2 c0 s0 k0) (by omega) (by omega) (by omega)
              rw [show b + 3 + 3 * m = b + 3 * (m + 1) by omega] at this
              exact this
            · rw [if_neg c3, i00, if_neg (fun z => c3 z.1.2.2), bd2S, i00]
              exact same _
          · rw [if_neg c2, i00, if_neg (fun z => c2 z.1.2.1), bd2S, i00]
            exact same _
        · rw [if_neg c1, i00, if_neg (fun z => c1 z.1.1), bd2S, i00]
          exact same _
      · rw [if_pos (show (nW : Int) = 12 by omega), if_neg (fun z => c4 z.2), bd2S, i00]
        exact same _
    · rw [if_pos (show (n : Int) - 3 * ((k : Int) + 1) < (i : Int) by omega), if_neg c]
      have e : (0 : Int) ≤ (if i + 3 * k + 2 = n then 0 else 1) := by split <;> decide
      rw [if_pos e]
      exact same _
theorem m_words {b : Nat} {Sc Sm : Mem} (h : IV b Sc Sm) (hb : b < 800000) (x y z : Int) (hy : r32 y) : Sim (b + 100) (g_X9_words x y z Sc) (g_X10_words x y z Sm) := by
  obtain ⟨nW, nP, nB, law, h⟩ := h
  have same : ∀ r, Sim (b + 100) (some (r, Sc)) (some (r, Sm)) := fun r => Sim.same ⟨nW, nP, nB, law, h⟩ (by omega)
  have g5 := Inv_of_RS h
  unfold g_X9_words g_X10_words
  rw [btw, inn]
  by_cases c : 1 ≤ z ∧ z ≤ 12
  · obtain ⟨N, rfl⟩ := nat_of (show 0 ≤ z by omega)
    rw [if_pos c, i10, i10]
    unfold g_X7_refusal
    rw [has7, shelf_v, bS]
    by_cases c1 : 0 ≤ x ∧ x < 6
    · obtain ⟨q, rfl⟩ := nat_of c1.1
      have hq : q < 6 := by omega
      rw [if_pos c1, i10, i10]
      simp only [ldk_c hq, bS]
      rcases g5 q hq with ⟨z1, z2⟩ | ⟨b', z1, z2, z3, z4⟩ | ⟨u, n, z1, z2, z3, z4, z5, z6, z7⟩
      · rw [z1, z2]
        exact same _
      · rw [z2, z4, if_neg (show ¬ (b' : Int) = -1 by omega), if_neg (show ¬ (b' : Int) = -2 by omega)]
        exact same _
      · rw [z3, z4, if_neg (show ¬ (u : Int) = -1 by omega), if_neg (show ¬ (-2 - (u : Int)) = -1 by omega)]
        by_cases e : u = 0
        · subst e
          rw [if_pos (show ((0 : Nat) : Int) = 0 from rfl), bS, if_neg (by decide), if_neg (by decide), if_neg (by decide), if_pos (show (-2 - ((0 : Nat) : Int)) = -2 from rfl), if_neg (show ¬ (-2 - ((0 : Nat) : Int)) = -1 by decide)]
          by_cases c2 : 0 ≤ y
          · obtain ⟨i, rfl⟩ := nat_of c2
            rw [if_pos c2]
            obtain ⟨r, S', T', s1, s2, s3⟩ := words_l (q := q) (n := n) (i := i) (N := N) (law := law) (nP := nP) (nB := nB) hq z2 (by unfold r32 at hy; omega) (by omega) N 0 FU b nW Sc Sm h z5 z6 z7 (Nat.zero_add _) (by omega) (by unfold FU; omega)
            obtain ⟨nW', nP', nB', law', h'⟩ := s3
            exact ⟨r, S', T', s1, s2, nW', nP', nB', law', Inv_up h' (by omega)⟩
          · rw [if_neg c2, show FU = 99999 + 1 from rfl, g_X10_words_L58.eq_2, if_neg (by omega)]
            simp only [ap]
            have e1 : w64 (y + w32 (3 * 0)) = y := by
              unfold r32 at hy
              rw [show w32 (3 * 0) = 0 from rfl, Int.add_zero, w64s (by omega) (by omega)]
            have e2 : lcm y 0 < 0 := by
              clear e1
              unfold lcm
              rw [if_neg (by omega), if_neg (by omega)]
              decide
            rw [e1, if_pos e2]
            exact same _
        · rw [if_neg (show ¬ (u : Int) = 0 by omega), bS, if_neg (by decide), if_pos rfl, if_neg (show ¬ (-2 - (u : Int)) = -2 by omega)]
          exact same _
    · rw [if_neg c1, i00, i00, bS, if_pos rfl]
      exact same _
  · rw [if_neg c, i00, i00, shelf_v, bS]
    split <;> exact same _
theorem sh_1 {q i n : Nat} {E : Nat → Int} {K : Mem → Option (Int × Mem)} {a3 a4 : Int} (hq : q < 6) (hi : i + n ≤ 60) : ∀ (m k fu : Nat) (S : Mem), (∀ j, j < 60 → gI S 95 (60 * q + j) = E j) → (∀ j, j < k → gI S 96 j = E (i + j)) → k + m = n → m < fu → ∃ S', g_X10_shift_L113 K (q : Int) (i : Int) a3 a4 (n : Int) fu (k : Int) S = K S' ∧ (∀ c, c ≠ 96 → gI S' c = gI S c) ∧ ∀ j, j < n → gI S' 96 j = E (i + j) := by
  intro m
  induction m with
  | zero =>
    intro k fu S hE hF hk hf
    obtain ⟨fu, rfl⟩ : ∃ k, fu = k + 1 := ⟨fu - 1, by omega⟩
    rw [g_X10_shift_L113.eq_2, if_pos (by omega)]
    exact ⟨S, rfl, fun _ _ => rfl, fun j hj => hF j (by omega)⟩
  | succ m ih =>
    intro k fu S hE hF hk hf
    obtain ⟨fu, rfl⟩ : ∃ k, fu = k + 1 := ⟨fu - 1, by omega⟩
    have d1 : 60 * q + (i + k) < 360 := by omega
    have d2 : k < 60 := by omega
    rw [g_X10_shift_L113.eq_2, if_neg (by omega), w_7 q i k hq (by omega), ldk_c d1, bS, stk_c d2, bS, w32_a k (by omega), hE (i + k) (by omega)]
    obtain ⟨S', a1, a2, a5⟩ := ih (k + 1) fu (sI S 96 k (E (i + k))) (fun j hj => by rw [gI_ne (by decide)]; exact hE j hj) (fun j hj => by
      rw [gI_sI]
      by_cases z : j = k
      · rw [if_pos ⟨rfl, z⟩, z]
      · rw [if_neg (fun t => z t.2)]; exact hF j (by omega)) (by omega) (by omega)
    exact ⟨S', a1, fun c hc => by rw [a2 c hc, gI_ne hc], a5⟩
theorem sh_2 {p j0 n : Nat} {E : Nat → Int} (hp : p < 6) (hj : j0 + n ≤ 60) : ∀ (m k fu : Nat) (S : Mem), (∀ j, j < n → gI S 96 j = E j) → k + m = n → m < fu → ∃ S', g_X10_shift_L150 (p : Int) (j0 : Int) (n : Int) fu (k : Int) S = some ((n : Int), S') ∧ (∀ c, c ≠ 95 → gI S' c = gI S c) ∧ ∀ x, gI S' 95 x = if 60 * p + j0 + k ≤ x ∧ x < 60 * p + j0 + n then E (x - (60 * p + j0)) else gI S 95 x := by
  intro m
  induction m with
  | zero =>
    intro k fu S hE hk hf
    obtain ⟨fu, rfl⟩ : ∃ k, fu = k + 1 := ⟨fu - 1, by omega⟩
    rw [g_X10_shift_L150.eq_2, if_pos (by omega)]
    exact ⟨S, rfl, fun _ _ => rfl, fun x => by rw [if_neg (by omega)]⟩
  | succ m ih =>
    intro k fu S hE hk hf
    obtain ⟨fu, rfl⟩ : ∃ k, fu = k + 1 := ⟨fu - 1, by omega⟩
    have d1 : 60 * p + (j0 + k) < 360 := by omega
    have d2 : k < 60 := by omega
    rw [g_X10_shift_L150.eq_2, if_neg (by omega), ldk_c d2, bS, w_7 p j0 k hp (by omega), stk_c d1, bS, w32_a k (by omega), hE k (by omega), ← Nat.add_assoc]
    obtain ⟨S', a1, a2, a3⟩ := ih (k + 1) fu (sI S 95 (60 * p + j0 + k) (E k)) (fun j hj => by rw [gI_ne (by decide)]; exact hE j hj) (by omega) (by omega)
    refine ⟨S', a1, fun c hc => by rw [a2 c hc, gI_ne hc], fun x => ?_⟩
    rw [a3, gI_sI]
    by_cases z : x = 60 * p + j0 + k
    · rw [if_neg (by omega), if_pos ⟨rfl, z⟩, if_pos (by omega), show x - (60 * p + j0) = k by omega]
    · by_cases z2 : 60 * p + j0 + (k + 1) ≤ x ∧ x < 60 * p + j0 + n
      · rw [if_pos z2, if_pos (by omega)]
      · rw [if_neg z2, if_neg (fun t => z t.2), if_neg (by omega)]
theorem m_shift {b : Nat} {Sc Sm : Mem} (h : IV b Sc Sm) (x y u v z : Int) (hz : r32 z) : Sim (b + 100) (g_X9_shift x y u v z Sc) (g_X10_shift x y u v z Sm) := by
  obtain ⟨nW, nP, nB, law, h⟩ := h
  have same : ∀ r, Sim (b + 100) (some (r, Sc)) (some (r, Sm)) := fun r => Sim.same ⟨nW, nP, nB, law, h⟩ (by omega)
  have g5 := Inv_of_RS h
  have g0 : Shp Sc := h.1
  unfold g_X9_shift g_X10_shift g_X7_move
  rw [has7, has7, shelf_v, shelf_v, bS, bS]
  by_cases c1 : 0 ≤ x ∧ x < 6
  · by_cases c2 : 0 ≤ u ∧ u < 6
    · obtain ⟨q, rfl⟩ := nat_of c1.1
      obtain ⟨p, rfl⟩ := nat_of c2.1
      have hq : q < 6 := by omega
      have hp : p < 6 := by omega
      rw [if_pos c1, if_pos c2, i10, i10, i10, i10]
      simp only [ldk_c hq, ldk_c hp, bS]
      rcases g5 q hq with ⟨z1, z2⟩ | ⟨b', z1, z2, z3, z4⟩ | ⟨t, n, z1, z2, z3, z4, z5, z6, z7⟩
      · rw [z1, z2]
        exact same _
      · rcases g5 p hp with ⟨y1, y2⟩ | ⟨b2, y1, y2, y3, y4⟩ | ⟨t2, n2, y1, y2, y3, y4, y5, y6, y7⟩
        · rw [z2, z4, y1, y2, if_neg (show ¬ (b' : Int) = -1 by omega)]
          exact same _
        · rw [z2, z4, y2, y4, if_neg (show ¬ (b' : Int) = -1 by omega), if_neg (show ¬ (b2 : Int) = -1 by omega), if_pos (show 0 ≤ (b' : Int) by omega)]
          exact same _
        · rw [z2, z4, y3, y4, if_neg (show ¬ (b' : Int) = -1 by omega), if_neg (show ¬ (t2 : Int) = -1 by omega), if_neg (show ¬ (-2 - (t2 : Int)) = -1 by omega), if_pos (show 0 ≤ (b' : Int) by omega)]
          exact same _
      · rcases g5 p hp with ⟨y1, y2⟩ | ⟨b2, y1, y2, y3, y4⟩ | ⟨t2, n2, y1, y2, y3, y4, y5, y6, y7⟩
        · rw [z3, z4, y1, y2, if_neg (show ¬ (t : Int) = -1 by omega), if_neg (show ¬ (-2 - (t : Int)) = -1 by omega)]
          exact same _
        · rw [z3, z4, y2, y4, if_neg (show ¬ (t : Int) = -1 by omega), if_neg (show ¬ (-2 - (t : Int)) = -1 by omega), if_neg (show ¬ (b2 : Int) = -1 by omega), if_neg (show ¬ (5 : Int) = -1 by decide), if_neg (show ¬ (t : Int) = 5 by omega), if_neg (show ¬ (t : Int) = 5 by omega), if_neg (show ¬ (0 : Int) ≤ -2 - (t : Int) by omega), if_neg (show ¬ (-2 - (t : Int)) = (b2 : Int) by omega)]
          exact same _
        · rw [z3, z4, y3, y4, if_neg (show ¬ (t : Int) = -1 by omega), if_neg (show ¬ (-2 - (t : Int)) = -1 by omega), if_neg (show ¬ (t2 : Int) = -1 by omega), if_neg (show ¬ (-2 - (t2 : Int)) = -1 by omega), if_neg (show ¬ (t : Int) = 5 by omega), if_neg (show ¬ (0 : Int) ≤ -2 - (t : Int) by omega)]
          by_cases e : t = t2
          · rw [if_pos (show (t : Int) = (t2 : Int) by omega), if_pos (show (-2 - (t : Int)) = -2 - (t2 : Int) by omega)]
            by_cases d1 : z < 0
            · rw [if_pos d1, if_pos d1]; exact same _
            · rw [if_neg d1, if_neg d1]
              by_cases d2 : y < 0
              · rw [if_pos d2, if_pos d2]; exact same _
              · rw [if_neg d2, if_neg d2]
                by_cases d3 : v < 0
                · rw [if_pos d3, if_pos d3]; exact same _
                · obtain ⟨k, rfl⟩ := nat_of (show 0 ≤ z by omega)
                  obtain ⟨i, rfl⟩ := nat_of (show 0 ≤ y by omega)
                  obtain ⟨j, rfl⟩ := nat_of (show 0 ≤ v by omega)
                  have hk : k ≤ 2147483647 := by unfold r32 at hz; omega
                  rw [if_neg d3, if_neg d3, z5, z6, y5, y6, w_8 n k (by omega) hk, w_8 n2 k (by omega) hk]
                  by_cases d4 : (n : Int) - (k : Int) < (i : Int)
                  · rw [if_pos d4, if_pos d4]; exact same _
                  · rw [if_neg d4, if_neg d4]
                    by_cases d5 : (j : Int) ≤ (n2 : Int) - (k : Int)
                    · rw [if_pos d5, if_pos d5, ldr_n hq (g0.2 q hq), bS, ldr_n hp (g0.2 p hp), bS]
                      unfold cpd
                      rw [tye q hq, tye p hp, if_pos ⟨rfl, rfl, by omega, by omega⟩]
                      unfold cpk
                      rw [if_pos (show 0 ≤ (i : Int) ∧ 0 ≤ (j : Int) ∧ 0 ≤ (k : Int) ∧ (i : Int) + k ≤ ((60 : Nat) : Int) ∧ (j : Int) + k ≤ ((60 : Nat) : Int) by omega), bS, bd2S, Int.toNat_natCast, Int.toNat_natCast, Int.toNat_natCast]
                      obtain ⟨T1, a1, a2, a3⟩ := sh_1 (q := q) (i := i) (n := k) (E := gI Sc (24 + q)) (K := fun S12 => g_X10_shift_L150 (p : Int) (j : Int) (k : Int) FU 0 S12) (a3 := (p : Int)) (a4 := (j : Int)) hq (by omega) k 0 FU Sm z7 (fun _ h => absurd h (Nat.not_lt_zero _)) (Nat.zero_add _) (by unfold FU; omega)
                      obtain ⟨T2, b1, b2, b3⟩ := sh_2 (p := p) (j0 := j) (n := k) (E := fun j => gI Sc (24 + q) (i + j)) hp (by omega) k 0 FU T1 a3 (Nat.zero_add _) (by unfold FU; omega)
                      rw [show ((0 : Nat) : Int) = 0 from rfl] at a1 b1
                      rw [a1]
                      try simp only []
                      rw [b1]
                      refine ⟨_, _, _, rfl, rfl, nW, nP, nB, law, Inv_up (Inv_RS h (fun c hc => funext fun w => by rw [gI_cpI, if_neg (by omega)]) (fun c => rfl) (fun c hc => by rw [b2 c (by omega), a2 c (by omega)]) (fun s hs => ?_)) (show b ≤ b + 100 by omega)⟩
                      have k20 : ∀ c, c < 24 → gI (cpI Sc (24 + q) i (24 + p) j k) c = gI Sc c := fun c hc => funext fun w => by rw [gI_cpI, if_neg (by omega)]
                      rw [k20 20 (by decide), k20 21 (by decide), k20 22 (by decide), b2 93 (by decide), b2 94 (by decide), a2 93 (by decide), a2 94 (by decide)]
                      have el : ∀ w, w < 60 → gI T2 95 (60 * s + w) = gI (cpI Sc (24 + q) i (24 + p) j k) (24 + s) w ∨ ¬ gI Sm 95 (60 * s + w) = gI Sc (24 + s) w := by
                        intro w hw
                        rw [b3, a2 95 (by decide), gI_cpI]
                        by_cases f : s = p ∧ j ≤ w ∧ w < j + k
                        · obtain ⟨f1, f2, f3⟩ := f
                          subst f1
                          rw [if_pos (by omega), if_pos ⟨rfl, f2, f3⟩, show 60 * s + w - (60 * s + j) = w - j by omega]
                          exact Or.inl rfl
                        · rw [if_neg (by omega), if_neg (by omega)]
                          exact Classical.em _
                      rcases g5 s hs with w1 | w1 | ⟨t', n', w1, w2, w3, w4, w5, w6, w7⟩
                      · exact Or.inl w1
                      · exact Or.inr (Or.inl w1)
                      · exact Or.inr (Or.inr ⟨t', n', w1, w2, w3, w4, w5, w6, fun w hw => (el w hw).resolve_right (fun z => z (w7 w hw))⟩)
                    · rw [if_neg d5, if_neg d5]; exact same _
          · rw [if_neg (show ¬ (t : Int) = (t2 : Int) by omega), if_neg (show ¬ (-2 - (t : Int)) = -2 - (t2 : Int) by omega)]
            exact same _
    · rw [if_pos c1, if_neg c2, i10, i10, i00, i00]
      exact same _
  · rw [if_neg c1, i00, i00]
    exact same _
