/-! THE SHELF: what a body is, a row laid, an element put -/
def M0 : Mem := (fun _ _ => 0, fun _ _ => none)
theorem und_S (v : Int) (S T : Mem) : ∀ (fu : Nat) (a b : Int), g_X0_isUnder_L4 v S fu a b = g_X0_isUnder_L4 v T fu a b := by
  intro fu
  induction fu with
  | zero => intro a b; rfl
  | succ fu ih =>
    intro a b
    have e : g_X0_above a S = g_X0_above a T := rfl
    unfold g_X0_isUnder_L4
    simp only [e, ih]
theorem und_0 : ∀ k, k < 8 → ∀ y, y < 8 → g_X0_isUnder (k : Nat) (y : Nat) M0 = some (g_X10_isUnder (k : Nat) (y : Nat)) := by decide +kernel
theorem und_v {S : Mem} {k y : Nat} (hk : k < 8) (hy : y < 8) : g_X0_isUnder (k : Int) (y : Int) S = some (g_X10_isUnder (k : Int) (y : Int)) := by
  rw [← und_0 k hk y hy]
  exact und_S _ _ _ _ _ _
theorem m_taken {b : Nat} {Sc Sm : Mem} (h : IV b Sc Sm) (x y : Int) : ∃ r, g_X9_taken x y Sc = some r ∧ g_X10_taken x y Sm = some r := by
  obtain ⟨nW, nP, nB, law, g0, o, g2, g3, g4, g5, ⟨⟨k1, k2, k3⟩, k4, -⟩, -⟩ := h
  unfold g_X9_taken g_X10_taken g_X7_refusal g_X7_bodyOn
  rw [btw, inn, shelf_v, bS, has7]
  by_cases c1 : 0 ≤ x ∧ x < 6
  · obtain ⟨q, rfl⟩ := nat_of c1.1
    have hq : q < 6 := by omega
    rw [if_pos c1, i10, i10, i10]
    by_cases c2 : 0 ≤ y ∧ y ≤ 7
    · obtain ⟨y, rfl⟩ := nat_of c2.1
      rw [if_pos c2, i10, i10]
      simp only [ldk_c hq, bS]
      rcases g5 q hq with ⟨z1, z2⟩ | ⟨b, z1, z2, z3, z4⟩ | ⟨t, n, z1, z2, z3, z4, z5, z6, z7⟩
      · rw [z1, z2]
        exact ⟨_, rfl, rfl⟩
      · obtain ⟨u1, u2, u3⟩ := k4 b z1
        obtain ⟨k, hk⟩ := nat_of u2
        have v1 : ¬ (b : Int) < 0 := by omega
        have v2 : ¬ (b : Int) = -1 := by omega
        have v3 : ¬ (nB : Int) ≤ (b : Int) := by omega
        have v4 : ¬ (50 : Int) ≤ (b : Int) := by omega
        have v5 : b < 50 := by omega
        rw [z2, z3, z4, if_neg v2, if_neg v1, ldk_c v5, bS, bS, u1, hk]
        rw [show (if (5 : Int) = -1 then some (-11 : Int) else if (5 : Int) = 5 then some 0 else some (-12)) = some 0 from rfl, bS, i00]
        unfold g_X0_kindOf
        rw [k2, if_neg v1, if_neg v3, if_neg v4, ldk_c v5, bS, bS, hk, und_v (by omega) (by omega), bS]
        by_cases w : g_X10_isUnder (k : Int) (y : Int) = 0
        · rw [if_pos w]
          exact ⟨_, rfl, rfl⟩
        · rw [if_neg w]
          exact ⟨_, rfl, rfl⟩
      · have v1 : ¬ (t : Int) = -1 := by omega
        have v2 : ¬ (t : Int) = 5 := by omega
        have v3 : ¬ (-2 - (t : Int)) = -1 := by omega
        have v4 : (-2 - (t : Int)) < 0 := by omega
        rw [z3, z4, if_neg v1, if_neg v2, if_neg v3, if_pos v4]
        exact ⟨_, rfl, rfl⟩
    · rw [if_neg c2, i00, i00]
      exact ⟨_, rfl, rfl⟩
  · rw [if_neg c1, i00, i00]
    by_cases c2 : 0 ≤ y ∧ y ≤ 7
    · rw [if_pos c2, i10]
      exact ⟨_, rfl, rfl⟩
    · rw [if_neg c2, i00]
      exact ⟨_, rfl, rfl⟩
theorem fillC (q : Nat) (hq : q < 6) : ∀ (m fu : Nat) (S : Mem), m ≤ 60 → m < fu → ∃ S', g_J7_fill_d0a16_L6 (24 + q) 0 60 fu ((60 - m : Nat) : Int) S = some S' ∧ (∀ c, c ≠ 24 + q → gI S' c = gI S c) ∧ (∀ c, gR S' c = gR S c) ∧ ∀ i, gI S' (24 + q) i = if 60 - m ≤ i ∧ i < 60 then 0 else gI S (24 + q) i := by
  intro m
  induction m with
  | zero =>
    intro fu S _ hf
    obtain ⟨fu, rfl⟩ : ∃ k, fu = k + 1 := ⟨fu - 1, by omega⟩
    unfold g_J7_fill_d0a16_L6
    rw [if_pos (by decide)]
    exact ⟨S, rfl, fun _ _ => rfl, fun _ => rfl, fun i => by rw [if_neg (by omega)]⟩
  | succ m ih =>
    intro fu S hm hf
    obtain ⟨fu, rfl⟩ : ∃ k, fu = k + 1 := ⟨fu - 1, by omega⟩
    unfold g_J7_fill_d0a16_L6
    have v1 : ¬ (60 : Int) ≤ ((60 - (m + 1) : Nat) : Int) := by omega
    have v2 : 60 - (m + 1) < 60 := by omega
    have v3 : 60 - m = 60 - (m + 1) + 1 := by omega
    rw [if_neg v1, std_c (tye q hq) (by omega) v2, bS, w32_a _ (by omega), ← v3]
    obtain ⟨S', h1, h2, h3, h4⟩ := ih fu (sI S (24 + q) (60 - (m + 1)) 0) (by omega) (by omega)
    refine ⟨S', h1, fun c hc => by rw [h2 c hc, gI_ne hc], h3, fun i => ?_⟩
    rw [h4, gI_sI]
    (repeat' split) <;> first | rfl | omega
theorem fillR (q : Nat) (hq : q < 6) : ∀ (m fu : Nat) (S : Mem), m ≤ 60 → m < fu → ∃ S', g_X10_row_L54 (q : Int) fu ((60 * q + 60 - m : Nat) : Int) S = some (1, S') ∧ (∀ c, c ≠ 95 → gI S' c = gI S c) ∧ ∀ i, gI S' 95 i = if 60 * q + 60 - m ≤ i ∧ i < 60 * q + 60 then 0 else gI S 95 i := by
  have e : w32 (w32 (60 * (q : Int)) + 60) = ((60 * q + 60 : Nat) : Int) := by
    rw [w32s (i := 60 * (q : Int)) (by omega) (by omega), w32s (by omega) (by omega)]
    omega
  intro m
  induction m with
  | zero =>
    intro fu S _ hf
    obtain ⟨fu, rfl⟩ : ∃ k, fu = k + 1 := ⟨fu - 1, by clear e; omega⟩
    unfold g_X10_row_L54
    rw [e, if_pos (show ((60 * q + 60 : Nat) : Int) ≤ ((60 * q + 60 - 0 : Nat) : Int) from Int.le_refl _)]
    exact ⟨S, rfl, fun _ _ => rfl, fun i => by rw [if_neg (by clear e; omega)]⟩
  | succ m ih =>
    intro fu S hm hf
    obtain ⟨fu, rfl⟩ : ∃ k, fu = k + 1 := ⟨fu - 1, by clear e; omega⟩
    have v1 : ¬ ((60 * q + 60 : Nat) : Int) ≤ ((60 * q + 60 - (m + 1) : Nat) : Int) := by clear e; omega
    have v2 : 60 * q + 60 - (m + 1) < 360 := by clear e; omega
    have v3 : 60 * q + 60 - m = 60 * q + 60 - (m + 1) + 1 := by clear e; omega
    unfold g_X10_row_L54
    rw [e, if_neg v1, stk_c v2, bS, w32_a _ (by clear e; omega), ← v3]
    obtain ⟨S', h1, h2, h3⟩ := ih fu (sI S 95 (60 * q + 60 - (m + 1)) 0) (by clear e; omega) (by clear e; omega)
    refine ⟨S', h1, fun c hc => by rw [h2 c hc, gI_ne hc], fun i => ?_⟩
    rw [h3, gI_sI]
    clear e
    (repeat' split) <;> first | rfl | omega
theorem m_row {b : Nat} {Sc Sm : Mem} (h : IV b Sc Sm) (hb : b < 900000) (x y z : Int) : Sim (b + 100) (g_X9_row x y z Sc) (g_X10_row x y z Sm) := by
  obtain ⟨nW, nP, nB, law, h⟩ := h
  have h' := h
  obtain ⟨g0, o, g2, g3, g4, g5, -⟩ := h'
  have same : ∀ r, Sim (b + 100) (some (r, Sc)) (some (r, Sm)) := fun r => Sim.same ⟨nW, nP, nB, law, h⟩ (by omega)
  unfold g_X9_row g_X10_row g_X7_lay
  rw [has7, shelf_v, bS, btw, inn]
  by_cases c : 0 ≤ x ∧ x < 6
  · obtain ⟨q, rfl⟩ := nat_of c.1
    have hq : q < 6 := by omega
    rw [if_pos c, i10, i10, i10]
    by_cases c1 : 0 ≤ y ∧ y ≤ 4
    · obtain ⟨t, rfl⟩ := nat_of c1.1
      rw [if_pos c1, i10, i10]
      by_cases c2 : z ≤ 60
      · rw [if_pos c2, if_pos c2]
        by_cases c3 : 0 ≤ z
        · obtain ⟨n, rfl⟩ := nat_of c3
          rw [if_pos c3, if_pos c3, if_neg (show ¬ (n : Int) < 0 by omega), if_neg (show ¬ (60 : Int) < (n : Int) by omega), stk_c hq, bS, stk_c hq, bS, ldr_n (S := sI (sI Sc 20 q (t : Int)) 21 q (n : Int)) (v := 24 + q) hq (g0.2 q hq), bS, stk_c hq, bS, stk_c hq, bS]
          unfold g_J7_fill_d0a16 lnd
          rw [tye q hq, if_pos ⟨rfl, by decide⟩, bS]
          have e : w32 (-2 - (t : Int)) = -2 - (t : Int) := w32s (by omega) (by omega)
          have e2 : w32 (60 * (q : Int)) = ((60 * q + 60 - 60 : Nat) : Int) := by
            rw [w32s (by clear e; omega) (by clear e; omega)]
            clear e
            omega
          obtain ⟨S1, f1, f2, f3, f4⟩ := fillC q hq 60 FU (sI (sI Sc 20 q (t : Int)) 21 q (n : Int)) (Nat.le_refl _) (by unfold FU; decide)
          obtain ⟨S2, d1, d2, d3⟩ := fillR q hq 60 FU (sI (sI Sm 93 q (-2 - (t : Int))) 94 q (n : Int)) (Nat.le_refl _) (by unfold FU; decide)
          rw [e, e2, d1, show ((60 : Nat) : Int) = 60 from rfl, show (0 : Int) = ((60 - 60 : Nat) : Int) from rfl] 
          rw [show g_J7_fill_d0a16_L6 (24 + q) ((60 - 60 : Nat) : Int) 60 FU ((60 - 60 : Nat) : Int) (sI (sI Sc 20 q (t : Int)) 21 q (n : Int)) = some S1 from f1, bS, bS]
          clear e e2
          refine ⟨_, _, _, rfl, rfl, nW, nP, nB, law, Inv_up (Inv_RS h (fun c hc => by rw [f2 c (by omega), gI_ne (by omega), gI_ne (by omega)]) (fun c => f3 c) (fun c hc => by rw [d2 c (by omega), gI_ne (by omega), gI_ne (by omega)]) (fun j hj => ?_)) (show b ≤ b + 100 by omega)⟩
          rw [f2 20 (by omega), f2 21 (by omega), f2 22 (by omega), d2 93 (by decide), d2 94 (by decide), gI_ne (c' := 20) (c := 21) (by decide), gI_ne (c' := 22) (c := 21) (by decide), gI_ne (c' := 22) (c := 20) (by decide), gI_ne (c' := 93) (c := 94) (by decide)]
          by_cases w : j = q
          · subst w
            refine Or.inr (Or.inr ⟨t, n, by omega, by omega, gI_eq, gI_eq, gI_eq, gI_eq, fun k hk => ?_⟩)
            rw [d3, f4, if_pos (by omega), if_pos (by omega)]
          · have e24 : gI S1 (24 + j) = gI Sc (24 + j) := by rw [f2 _ (by omega), gI_ne (by omega), gI_ne (by omega)]
            have e95 : ∀ k, k < 60 → gI S2 95 (60 * j + k) = gI Sm 95 (60 * j + k) := fun k hk => by rw [d3, if_neg (by omega), gI_ne (by decide), gI_ne (by decide)]
            rw [e24, gI_ek w, gI_ek w, gI_ek w, gI_ek w, gI_ne (by decide), gI_ne (by decide)]
            rcases g5 j hj with z1 | z1 | ⟨t', n', z1, z2, z3, z4, z5, z6, z7⟩
            · exact Or.inl z1
            · exact Or.inr (Or.inl z1)
            · exact Or.inr (Or.inr ⟨t', n', z1, z2, z3, z4, z5, z6, fun k hk => by rw [e95 k hk]; exact z7 k hk⟩)
        · rw [if_neg c3, if_neg c3]
          exact same _
      · rw [if_neg c2, if_neg c2]
        exact same _
    · rw [if_neg c1, i00, i00]
      exact same _
  · rw [if_neg c, i00, i00]
    exact same _
theorem m_put {b : Nat} {Sc Sm : Mem} (h : IV b Sc Sm) (hb : b < 900000) (x y v : Int) : Sim (b + 100) (g_X9_put x y v Sc) (g_X10_put x y v Sm) := by
  obtain ⟨nW, nP, nB, law, h⟩ := h
  have h' := h
  obtain ⟨g0, o, g2, g3, g4, g5, -⟩ := h'
  have same : ∀ r, Sim (b + 100) (some (r, Sc)) (some (r, Sm)) := fun r => Sim.same ⟨nW, nP, nB, law, h⟩ (by omega)
  unfold g_X9_put g_X10_put g_X7_store
  rcases why_v g5 x y with ⟨r, r0, r1, r2⟩ | ⟨q, k, t, n, hq, ht, hn, hk, rfl, rfl, z1, z2, z3, z4, r1, r2⟩
  · have v1 : ¬ r = 0 := by omega
    have v2 : ¬ 0 ≤ r := by omega
    rw [r1, r2, bS, bS, if_neg v1, if_neg v2]
    exact same _
  · have e0 : w32 (w32 (60 * (q : Int)) + (k : Int)) = ((60 * q + k : Nat) : Int) := by
      rw [w32s (i := 60 * (q : Int)) (by omega) (by omega), w32s (by omega) (by omega)]
      omega
    have e1 : w32 (-2 - (-2 - (t : Int))) = t := by
      clear e0
      rw [w32s (by omega) (by omega)]
      omega
    have v1 : ¬ (k : Int) < 0 := by clear e0 e1; omega
    have v2 : ¬ (n : Int) ≤ (k : Int) := by clear e0 e1; omega
    have v3 : ¬ 60 ≤ (k : Int) := by clear e0 e1; omega
    have v4 : 60 * q + k < 360 := by clear e0 e1; omega
    have v5 : k < 60 := by clear e0 e1; omega
    have v6 : 0 ≤ (q : Int) ∧ (q : Int) < 6 := by clear e0 e1; omega
    rw [r1, r2, bS, bS, i00, if_pos (show (0 : Int) ≤ 0 by decide), has7, if_pos v6, i10, if_neg v1, ldk_c hq, bS, z2, if_neg v2, if_neg v3, ldr_n hq (g0.2 q hq), bS, ldk_c hq, bS, z1, std_c (tye q hq) (by clear e0 e1; omega) v5, bS, bS, ldk_c hq, bS, z3, e1, e0]
    rw [stk_c v4, stk_c v4, stk_c v4, stk_c v4, stk_c v4, stk_c v4, bS, bS, bS, bS, bS, bS]
    have key : (if (t : Int) = 0 then some ((1 : Int), sI Sm 95 (60 * q + k) (w8 (w32 v))) else if (t : Int) = 1 then some (1, sI Sm 95 (60 * q + k) (w16 (w32 v))) else if (t : Int) = 2 then some (1, sI Sm 95 (60 * q + k) (w32 v)) else if (t : Int) = 3 then some (1, sI Sm 95 (60 * q + k) v) else if lcm v 0 = 0 then some (1, sI Sm 95 (60 * q + k) 0) else some (1, sI Sm 95 (60 * q + k) 1)) = some (1, sI Sm 95 (60 * q + k) (g_X7_cut (t : Int) v)) := by
      clear e0 e1
      unfold g_X7_cut
      (repeat' split) <;> first | rfl | omega
    refine Eq.mpr (congrArg (Sim _ _) key) ?_
    clear e0 e1 key
    refine ⟨_, _, _, rfl, rfl, nW, nP, nB, law, Inv_up (Inv_RS h (fun c hc => gI_ne (by omega)) (fun c => rfl) (fun c hc => gI_ne (by omega)) (fun j hj => ?_)) (show b ≤ b + 100 by omega)⟩
    rw [gI_ne (c' := 20) (by omega), gI_ne (c' := 21) (by omega), gI_ne (c' := 22) (by omega), gI_ne (c' := 93) (by omega), gI_ne (c' := 94) (by omega)]
    rcases g5 j hj with y1 | y1 | ⟨t', n', y1, y2, y3, y4, y5, y6, y7⟩
    · exact Or.inl y1
    · exact Or.inr (Or.inl y1)
    · refine Or.inr (Or.inr ⟨t', n', y1, y2, y3, y4, y5, y6, fun i hi => ?_⟩)
      rw [gI_sI, gI_sI]
      by_cases w : j = q ∧ i = k
      · rw [if_pos (by omega), if_pos (by omega)]
      · rw [if_neg (by omega), if_neg (by omega)]
        exact y7 i hi
