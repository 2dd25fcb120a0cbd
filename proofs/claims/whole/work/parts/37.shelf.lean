/-! THE TAPE, THE BODIES, THE SHELF -/
theorem i10 {α : Type} {a b : α} : (if (1 : Int) = 0 then a else b) = b := if_neg (by decide)
theorem i00 {α : Type} {a b : α} : (if (0 : Int) = 0 then a else b) = a := if_pos rfl
theorem has7 (a : Int) : g_X7_has a = if 0 ≤ a ∧ a < 6 then 1 else 0 := by
  unfold g_X7_has
  (repeat' split) <;> first | rfl | omega
theorem shelf_v (a : Int) : g_X10_isShelf a = some (if 0 ≤ a ∧ a < 6 then 1 else 0) := by
  unfold g_X10_isShelf
  rw [inn, chk_b]
  congr 1
  (repeat' split) <;> first | rfl | omega
theorem m_count {b : Nat} {Sc Sm : Mem} (h : IV b Sc Sm) (x : Int) : g_X9_count x Sc = g_X10_count x Sm := by
  obtain ⟨nW, nP, nB, law, g0, ⟨o1, o2, o3, o4, o5⟩, ⟨d, z, a1, a2, a3, a4, a5, a6, a7⟩, ⟨f, f1, f2, f3, f4⟩, g4, g5, ⟨⟨k1, k2, k3⟩, k4, r, k5, k6, k7, k8⟩, -⟩ := h
  unfold g_X9_count g_X10_count
  rw [o2.1, o2.2, o3.1, o3.2, a3, a5, f2, f3, k2, k3, k6, k7]
theorem Inv_RT {b nW nP nB : Nat} {law : Option (List Lin)} {Sc Sm Sc' Sm' : Mem} (h : Inv b nW nP nB law Sc Sm) (hc : ∀ c, c ≠ 13 → c ≠ 14 → gI Sc' c = gI Sc c) (h13 : ∀ k, k ≠ 2 → gI Sc' 13 k = gI Sc 13 k) (hr : ∀ c, gR Sc' c = gR Sc c) (hm : ∀ c, c ≠ 56 → c ≠ 69 → gI Sm' c = gI Sm c) (h56 : ∀ k, k ≠ 18 → gI Sm' 56 k = gI Sm 56 k) (hn : RT Sc' Sm') : Inv b nW nP nB law Sc' Sm' := by
  obtain ⟨g0, g1, g2, g3, g4, g5, g6, g7, g8, g9⟩ := h
  exact ⟨Shp_of g0 (hr 2) (hr 23), RO_of g1 (fun c h => hc c (by omega) (by omega)) (fun c h => hm c (by omega) (by omega)) (h56 1 (by decide)) (h56 7 (by decide)), RC_of g2 (fun c h => hc c (by omega) (by omega)) (fun c h => hm c (by omega) (by omega)) (h56 _ (by decide)) (h56 _ (by decide)), hn, RL_of g4 (h13 4 (by decide)) (hc 15 (by decide) (by decide)) (hc 16 (by decide) (by decide)) (hr 13) (h56 30 (by decide)) (hm 70 (by decide) (by decide)) (hm 71 (by decide) (by decide)) (hm 72 (by decide) (by decide)) (hm 73 (by decide) (by decide)) (hm 74 (by decide) (by decide)), RS_of g5 (fun c h => hc c (by omega) (by omega)) (fun c h => hm c (by omega) (by omega)), RB_of g6 (by rw [hc 53 (by decide) (by decide)]) (by rw [hc 53 (by decide) (by decide)]) (hc 54 (by decide) (by decide)) (hc 55 (by decide) (by decide)) (h56 52 (by decide)) (h56 54 (by decide)) (hm 91 (by decide) (by decide)) (hm 92 (by decide) (by decide)), RD_of g7 (fun c h => hc c (by omega) (by omega)) (fun c h => hm c (by omega) (by omega)) (h56 46 (by decide)) (h56 47 (by decide)) (h56 48 (by decide)), RY_of g8 (Nat.le_refl b) (fun c h => hc c (by omega) (by omega)) (hr 34), RH_of g9 (hr 38) (hc 33 (by decide) (by decide))⟩
theorem Inv_RS {b nW nP nB : Nat} {law : Option (List Lin)} {Sc Sm Sc' Sm' : Mem} (h : Inv b nW nP nB law Sc Sm) (hc : ∀ c, (c < 20 ∨ 29 < c) → gI Sc' c = gI Sc c) (hr : ∀ c, gR Sc' c = gR Sc c) (hm : ∀ c, (c < 93 ∨ 96 < c) → gI Sm' c = gI Sm c) (hn : RS nB Sc' Sm') : Inv b nW nP nB law Sc' Sm' := by
  obtain ⟨g0, g1, g2, g3, g4, g5, g6, g7, g8, g9⟩ := h
  have e13 := hc 13 (by decide)
  have e53 := hc 53 (by decide)
  have e56 := hm 56 (by decide)
  exact ⟨Shp_of g0 (hr 2) (hr 23), RO_of g1 (fun c h => hc c (by omega)) (fun c h => hm c (by omega)) (by rw [e56]) (by rw [e56]), RC_of g2 (fun c h => hc c (by omega)) (fun c h => hm c (by omega)) (by rw [e56]) (by rw [e56]), RT_of g3 (by rw [e13]) (hc 14 (by decide)) (by rw [e56]) (hm 69 (by decide)), RL_of g4 (by rw [e13]) (hc 15 (by decide)) (hc 16 (by decide)) (hr 13) (by rw [e56]) (hm 70 (by decide)) (hm 71 (by decide)) (hm 72 (by decide)) (hm 73 (by decide)) (hm 74 (by decide)), hn, RB_of g6 (by rw [e53]) (by rw [e53]) (hc 54 (by decide)) (hc 55 (by decide)) (by rw [e56]) (by rw [e56]) (hm 91 (by decide)) (hm 92 (by decide)), RD_of g7 (fun c h => hc c (by omega)) (fun c h => hm c (by omega)) (by rw [e56]) (by rw [e56]) (by rw [e56]), RY_of g8 (Nat.le_refl b) (fun c h => hc c (by omega)) (hr 34), RH_of g9 (hr 38) (hc 33 (by omega))⟩
theorem RS_up {nB nB' : Nat} {Sc Sm : Mem} (h : RS nB Sc Sm) (hb : nB ≤ nB') : RS nB' Sc Sm := fun q hq => by
  rcases h q hq with z | ⟨y, y1, y2⟩ | z
  · exact Or.inl z
  · exact Or.inr (Or.inl ⟨y, by omega, y2⟩)
  · exact Or.inr (Or.inr z)
theorem Inv_RB {b nW nP nB nB' : Nat} {law : Option (List Lin)} {Sc Sm Sc' Sm' : Mem} (h : Inv b nW nP nB law Sc Sm) (hb : nB ≤ nB') (hc : ∀ c, (c < 53 ∨ 55 < c) → gI Sc' c = gI Sc c) (hr : ∀ c, gR Sc' c = gR Sc c) (hm : ∀ c, c ≠ 56 → c ≠ 91 → c ≠ 92 → gI Sm' c = gI Sm c) (h56 : ∀ k, k ≠ 52 → k ≠ 54 → gI Sm' 56 k = gI Sm 56 k) (hn : RB nB' Sc' Sm') : Inv b nW nP nB' law Sc' Sm' := by
  obtain ⟨g0, g1, g2, g3, g4, g5, g6, g7, g8, g9⟩ := h
  have e13 := hc 13 (by decide)
  exact ⟨Shp_of g0 (hr 2) (hr 23), RO_of g1 (fun c h => hc c (by omega)) (fun c h => hm c (by omega) (by omega) (by omega)) (h56 1 (by decide) (by decide)) (h56 7 (by decide) (by decide)), RC_of g2 (fun c h => hc c (by omega)) (fun c h => hm c (by omega) (by omega) (by omega)) (h56 _ (by decide) (by decide)) (h56 _ (by decide) (by decide)), RT_of g3 (by rw [e13]) (hc 14 (by decide)) (h56 _ (by decide) (by decide)) (hm 69 (by decide) (by decide) (by decide)), RL_of g4 (by rw [e13]) (hc 15 (by decide)) (hc 16 (by decide)) (hr 13) (h56 30 (by decide) (by decide)) (hm 70 (by decide) (by decide) (by decide)) (hm 71 (by decide) (by decide) (by decide)) (hm 72 (by decide) (by decide) (by decide)) (hm 73 (by decide) (by decide) (by decide)) (hm 74 (by decide) (by decide) (by decide)), RS_up (RS_of g5 (fun c h => hc c (by omega)) (fun c h => hm c (by omega) (by omega) (by omega))) hb, hn, RD_of g7 (fun c h => hc c (by omega)) (fun c h => hm c (by omega) (by omega) (by omega)) (h56 46 (by decide) (by decide)) (h56 47 (by decide) (by decide)) (h56 48 (by decide) (by decide)), RY_of g8 (Nat.le_refl b) (fun c h => hc c (by omega)) (hr 34), RH_of g9 (hr 38) (hc 33 (by omega))⟩
theorem w8_w8 (a : Int) : w8 (w8 a) = w8 a := by
  unfold w8
  omega
theorem m_feed {b : Nat} {Sc Sm : Mem} (h : IV b Sc Sm) (hb : b < 900000) (x : Int) : Sim (b + 100) (g_X9_feed x Sc) (g_X10_feed x Sm) := by
  obtain ⟨nW, nP, nB, law, h⟩ := h
  have h' := h
  obtain ⟨g0, o, g2, ⟨f, f1, f2, f3, f4⟩, -⟩ := h'
  have same : ∀ r, Sim (b + 100) (some (r, Sc)) (some (r, Sm)) := fun r => Sim.same ⟨nW, nP, nB, law, h⟩ (by omega)
  unfold g_X9_feed g_X10_feed g_X4_feedOne
  rw [btw, inn]
  by_cases c : 0 ≤ x ∧ x ≤ 255
  · rw [if_pos c, i10, i10, f2, f3, if_neg (show ¬ (f : Int) < 0 by omega)]
    by_cases q : f < 120
    · rw [if_pos (by omega), if_neg (by omega)]
      simp only [ap]
      rw [w32_a f (by omega), stk_c q, bS, stk_c q, bS, gI_ne (by decide), gI_eq, gI_eq, gI_ne (by decide), f3, w32_a f (by omega), bd2S, w8_w8]
      refine ⟨_, _, _, rfl, rfl, nW, nP, nB, law, Inv_up (Inv_RT h (fun c h1 h2 => by rw [gI_ne h2, gI_ne h1]) (fun k hk => by rw [gI_ne (by decide), gI_ek hk]) (fun c => rfl) (fun c h1 h2 => by rw [gI_ne h1, gI_ne h2]) (fun k hk => by rw [gI_ek hk, gI_ne (by decide)]) ⟨f + 1, by omega, by rw [gI_ne (by decide), gI_eq], gI_eq, fun i hi => ?_⟩) (show b ≤ b + 100 by omega)⟩
      rw [gI_ne (c' := 69) (by decide)]
      by_cases z : i = f
      · subst z
        rw [gI_eq, gI_eq]
        exact ⟨c.1, c.2, rfl⟩
      · rw [gI_ek z, gI_ek z, gI_ne (by decide)]
        exact f4 i (by omega)
    · rw [if_neg (by omega), if_pos (by omega)]
      exact same _
  · rw [if_neg c, i00, i00]
    exact same _
theorem m_body {b : Nat} {Sc Sm : Mem} (h : IV b Sc Sm) (hb : b < 900000) (x : Int) : Sim (b + 100) (g_X9_body x Sc) (g_X10_body x Sm) := by
  obtain ⟨nW, nP, nB, law, h⟩ := h
  have h' := h
  obtain ⟨g0, o, g2, g3, g4, g5, ⟨⟨k1, k2, k3⟩, k4, r, k5, k6, k7, k8⟩, -⟩ := h'
  have same : ∀ r, Sim (b + 100) (some (r, Sc)) (some (r, Sm)) := fun r => Sim.same ⟨nW, nP, nB, law, h⟩ (by omega)
  unfold g_X9_body g_X10_body g_X0_add
  rw [btw, inn]
  by_cases c : 0 ≤ x ∧ x ≤ 7
  · rw [if_pos c, i10, i10, k2, k3, if_neg (show ¬ (nB : Int) < 0 by omega)]
    by_cases q : nB < 50
    · rw [if_pos (by omega), if_neg (by omega), stk_c q, bS, stk_c q, bS]
      simp only [ap]
      rw [gI_ne (by decide), k2, gI_eq, gI_ne (by decide), k3, w32_a nB (by omega), w32_m nB (by omega), bd2S]
      refine ⟨_, _, _, rfl, rfl, nW, nP, nB + 1, law, Inv_up (Inv_RB h (Nat.le_succ _) (fun c hc => by rw [gI_ne (by omega), gI_ne (by omega)]) (fun c => rfl) (fun c h1 h2 h3 => by rw [gI_ne h1, gI_ne h2]) (fun k h1 h2 => by rw [gI_ek h1, gI_ne (by decide)]) ⟨⟨by omega, gI_eq, gI_eq⟩, fun i hi => ?_, r, k5, by rw [gI_ek (by decide), gI_ne (by decide)]; exact k6, by rw [gI_ek (by decide), gI_ne (by decide)]; exact k7, fun i h1 h2 => by rw [gI_ne (by decide), gI_ne (by decide), gI_ne (by decide), gI_ne (by decide)]; exact k8 i h1 h2⟩) (show b ≤ b + 100 by omega)⟩
      rw [gI_ne (c' := 91) (by decide), gI_ne (c' := 54) (by decide)]
      by_cases z : i = nB
      · subst z
        rw [gI_eq, gI_eq]
        exact ⟨rfl, c⟩
      · rw [gI_ek z, gI_ek z]
        exact k4 i (by omega)
    · rw [if_neg (by omega), if_pos (by omega)]
      exact same _
  · rw [if_neg c, i00, i00]
    exact same _
theorem lcn {k : Nat} {a : Int} (h1 : 0 ≤ a) (h2 : a < 6) (hk : a = k) {S : Mem} {c : Nat} : ldk S c 6 a = some (gI S c k) := by
  subst hk
  exact ldk_c (by omega)
theorem m_keep {b : Nat} {Sc Sm : Mem} (h : IV b Sc Sm) (hb : b < 900000) (x y : Int) : Sim (b + 100) (g_X9_keep x y Sc) (g_X10_keep x y Sm) := by
  obtain ⟨nW, nP, nB, law, h⟩ := h
  have h' := h
  obtain ⟨g0, o, g2, g3, g4, g5, ⟨⟨k1, k2, k3⟩, k4, r, k5, k6, k7, k8⟩, -⟩ := h'
  have same : ∀ r, Sim (b + 100) (some (r, Sc)) (some (r, Sm)) := fun r => Sim.same ⟨nW, nP, nB, law, h⟩ (by omega)
  unfold g_X9_keep g_X10_keep g_X10_isBody g_X7_hold
  rw [has7, shelf_v, bS, k2, k3, w32s (i := (nB : Int) - 1) (by omega) (by omega)]
  by_cases c : 0 ≤ x ∧ x < 6
  · obtain ⟨q, rfl⟩ := nat_of c.1
    have hq : q < 6 := by omega
    rw [if_pos c, i10, i10, i10, btw, inn, chk_b, bS]
    by_cases c1 : -1 ≤ y ∧ y ≤ (nB : Int) - 1
    · rw [if_pos c1, i10]
      by_cases c2 : y = -1
      · subst c2
        rw [if_neg (by decide), if_pos rfl, stk_c hq, bS, stk_c hq, bS, stk_c hq, bS, bS, stk_c hq, bS]
        refine ⟨_, _, _, rfl, rfl, nW, nP, nB, law, Inv_up (Inv_RS h (fun c hc => by rw [gI_ne (by omega), gI_ne (by omega), gI_ne (by omega)]) (fun c => rfl) (fun c hc => gI_ne (by omega)) (fun j hj => ?_)) (show b ≤ b + 100 by omega)⟩
        by_cases z : j = q
        · subst z
          exact Or.inl ⟨by rw [gI_ne (by decide), gI_ne (by decide), gI_eq], gI_eq⟩
        · have e20 : gI (sI (sI (sI Sc 20 q (-1)) 21 q 0) 22 q (-1)) 20 j = gI Sc 20 j := by rw [gI_ne (by decide), gI_ne (by decide), gI_ek z]
          have e21 : gI (sI (sI (sI Sc 20 q (-1)) 21 q 0) 22 q (-1)) 21 j = gI Sc 21 j := by rw [gI_ne (by decide), gI_ek z, gI_ne (by decide)]
          have e22 : gI (sI (sI (sI Sc 20 q (-1)) 21 q 0) 22 q (-1)) 22 j = gI Sc 22 j := by rw [gI_ek z, gI_ne (by decide), gI_ne (by decide)]
          have e24 : gI (sI (sI (sI Sc 20 q (-1)) 21 q 0) 22 q (-1)) (24 + j) = gI Sc (24 + j) := by rw [gI_ne (by omega), gI_ne (by omega), gI_ne (by omega)]
          rw [e20, e21, e22, e24, gI_ek z, gI_ne (by decide), gI_ne (by decide)]
          exact g5 j hj
      · rw [if_neg c2, if_pos (show 0 ≤ y ∧ y ≤ (nB : Int) - 1 by omega), i10, if_pos (show 0 ≤ y by omega)]
        rw [stk_c hq, bS, stk_c hq, bS, stk_c hq, bS, bS, stk_c hq, bS]
        obtain ⟨y, rfl⟩ := nat_of (show 0 ≤ y by omega)
        refine ⟨_, _, _, rfl, rfl, nW, nP, nB, law, Inv_up (Inv_RS h (fun c hc => by rw [gI_ne (by omega), gI_ne (by omega), gI_ne (by omega)]) (fun c => rfl) (fun c hc => gI_ne (by omega)) (fun j hj => ?_)) (show b ≤ b + 100 by omega)⟩
        by_cases z : j = q
        · subst z
          exact Or.inr (Or.inl ⟨y, by omega, by rw [gI_ne (by decide), gI_ne (by decide), gI_eq], gI_eq, gI_eq⟩)
        · have e20 : gI (sI (sI (sI Sc 20 q 5) 21 q 0) 22 q (y : Int)) 20 j = gI Sc 20 j := by rw [gI_ne (by decide), gI_ne (by decide), gI_ek z]
          have e21 : gI (sI (sI (sI Sc 20 q 5) 21 q 0) 22 q (y : Int)) 21 j = gI Sc 21 j := by rw [gI_ne (by decide), gI_ek z, gI_ne (by decide)]
          have e22 : gI (sI (sI (sI Sc 20 q 5) 21 q 0) 22 q (y : Int)) 22 j = gI Sc 22 j := by rw [gI_ek z, gI_ne (by decide), gI_ne (by decide)]
          have e24 : gI (sI (sI (sI Sc 20 q 5) 21 q 0) 22 q (y : Int)) (24 + j) = gI Sc (24 + j) := by rw [gI_ne (by omega), gI_ne (by omega), gI_ne (by omega)]
          rw [e20, e21, e22, e24, gI_ek z, gI_ne (by decide), gI_ne (by decide)]
          exact g5 j hj
    · rw [if_neg c1, i00, if_neg (show ¬ y = -1 by omega), if_neg (show ¬ (0 ≤ y ∧ y ≤ (nB : Int) - 1) by omega), i00]
      exact same _
  · rw [if_neg c, i00, i00]
    exact same _
theorem tye : ∀ q, q < 6 → tyc (24 + q) = (2, 60) := by decide +kernel
/-- why a place isn't there: alike -/
theorem why_v {nB : Nat} {Sc Sm : Mem} (h : RS nB Sc Sm) (x y : Int) : (∃ r : Int, r < 0 ∧ g_X7_placeRefusal x y Sc = some r ∧ g_X10_whyNoPlace x y Sm = some r) ∨ ∃ q k t n : Nat, q < 6 ∧ t < 5 ∧ n ≤ 60 ∧ k < n ∧ x = q ∧ y = k ∧ gI Sc 20 q = t ∧ gI Sc 21 q = n ∧ gI Sm 93 q = -2 - (t : Int) ∧ gI Sm 94 q = n ∧ g_X7_placeRefusal x y Sc = some 0 ∧ g_X10_whyNoPlace x y Sm = some 0 := by
  unfold g_X7_placeRefusal g_X10_whyNoPlace
  rw [has7, shelf_v, bS]
  by_cases c : 0 ≤ x ∧ x < 6
  · obtain ⟨q, rfl⟩ := nat_of c.1
    have hq : q < 6 := by omega
    rw [if_pos c, i10, i10]
    simp only [ldk_c hq, bS]
    rcases h q hq with ⟨z1, z2⟩ | ⟨b, z1, z2, z3, z4⟩ | ⟨t, n, z1, z2, z3, z4, z5, z6, z7⟩
    · rw [z1, z2]
      exact Or.inl ⟨-11, by decide, rfl, rfl⟩
    · rw [z2, z4]
      exact Or.inl ⟨-12, by decide, rfl, by rw [if_neg (by omega), if_neg (by omega)]⟩
    · have u1 : ¬ (t : Int) = -1 := by omega
      have u2 : ¬ (t : Int) = 5 := by omega
      have u3 : ¬ (-2 - (t : Int)) = -1 := by omega
      have u4 : (-2 - (t : Int)) < 0 := by omega
      rw [z3, z4, z5, if_neg u1, if_neg u2, if_neg u3, if_pos u4, inn]
      by_cases c2 : 0 ≤ y ∧ y < n
      · obtain ⟨k, rfl⟩ := nat_of c2.1
        refine Or.inr ⟨q, k, t, n, hq, z1, z2, by omega, rfl, rfl, z3, z5, z4, z6, ?_, ?_⟩
        · rw [if_neg (by omega), if_neg (by omega)]
        · rw [z6, w32s (i := (n : Int) - 1) (by omega) (by omega), if_pos (show 0 ≤ (k : Int) ∧ (k : Int) ≤ (n : Int) - 1 by omega), i10]
      · refine Or.inl ⟨-13, by decide, ?_, ?_⟩
        · (repeat' split) <;> first | rfl | omega
        · rw [z6, w32s (i := (n : Int) - 1) (by omega) (by omega), if_neg (show ¬ (0 ≤ y ∧ y ≤ (n : Int) - 1) by omega), i00]
  · rw [if_neg c, i00, i00]
    exact Or.inl ⟨-1, by decide, rfl, rfl⟩
theorem m_element {b : Nat} {Sc Sm : Mem} (h : IV b Sc Sm) (x y : Int) : ∃ r, g_X9_element x y Sc = some r ∧ g_X10_element x y Sm = some r := by
  obtain ⟨nW, nP, nB, law, g0, o, g2, g3, g4, g5, -⟩ := h
  unfold g_X9_element g_X10_element g_X7_at
  rcases why_v g5 x y with ⟨r, r0, r1, r2⟩ | ⟨q, k, t, n, hq, ht, hn, hk, rfl, rfl, z1, z2, z3, z4, r1, r2⟩
  · rw [r1, r2, bS, bS, if_neg (by omega), if_neg (by omega)]
    exact ⟨_, rfl, rfl⟩
  · have e0 : w32 (w32 (60 * (q : Int)) + (k : Int)) = ((60 * q + k : Nat) : Int) := by
      rw [w32s (i := 60 * (q : Int)) (by omega) (by omega), w32s (by omega) (by omega)]
      omega
    have e1 : gI Sm 95 (60 * q + k) = gI Sc (24 + q) k := by
      rcases g5 q hq with ⟨y1, y2⟩ | ⟨b, y1, y2, y3, y4⟩ | ⟨t', n', y1, y2, y3, y4, y5, y6, y7⟩
      · omega
      · omega
      · exact y7 k (by omega)
    have v1 : ¬ (k : Int) < 0 := by omega
    have v2 : ¬ (n : Int) ≤ (k : Int) := by omega
    have v3 : ¬ 60 ≤ (k : Int) := by omega
    rw [r1, r2, bS, bS, i00, if_pos (show (0 : Int) ≤ 0 by decide), has7, if_pos (show 0 ≤ (q : Int) ∧ (q : Int) < 6 by omega), i10, if_neg v1, ldk_c hq, bS, z2, if_neg v2, if_neg v3, ldr_n hq (g0.2 q hq), bS, ldd_c (tye q hq) (by omega) (by omega), bS, bS, e0, ldk_c (by omega), bS, e1]
    exact ⟨_, rfl, rfl⟩
theorem m_led {b : Nat} {Sc Sm : Mem} (h : IV b Sc Sm) (x : Int) : ∃ r, g_X9_led x Sc = some r ∧ g_X10_led x Sm = some r := by
  obtain ⟨nW, nP, nB, law, g0, o, g2, g3, g4, g5, g6, ⟨g7, -⟩, -⟩ := h
  unfold g_X9_led g_X10_led
  rw [btw, inn]
  by_cases c : 0 ≤ x ∧ x ≤ 4
  · obtain ⟨k, rfl⟩ := nat_of c.1
    have hk : k < 5 := by omega
    rw [if_pos c, i10, i10, ldk_c hk, bS, ldk_c hk, bS, g7 k hk]
    exact ⟨_, rfl, rfl⟩
  · rw [if_neg c, i00, i00]
    exact ⟨_, rfl, rfl⟩
theorem m_trace {b : Nat} {Sc Sm : Mem} (h : IV b Sc Sm) (x : Int) : ∃ r, g_X9_trace x Sc = some r ∧ g_X10_trace x Sm = some r := by
  obtain ⟨nW, nP, nB, law, g0, o, g2, g3, g4, g5, ⟨⟨k1, k2, k3⟩, k4, r, k5, k6, k7, k8⟩, -⟩ := h
  unfold g_X9_trace g_X10_trace g_X0_ranAt
  rw [k6, k7]
  by_cases c : 0 ≤ x ∧ x < r ∧ x < 24
  · obtain ⟨k, rfl⟩ := nat_of c.1
    have hk : k < 24 := by omega
    have v1 : ¬ (k : Int) < 0 := by omega
    have v2 : ¬ (r : Int) ≤ (k : Int) := by omega
    have v3 : ¬ 24 ≤ (k : Int) := by omega
    rw [if_neg v1, if_neg v2, if_neg v3, if_neg v1, if_neg v2, if_neg v3, ldk_c hk, bS, ldk_c hk, bS, bS, k8 k (by omega) hk]
    exact ⟨_, rfl, rfl⟩
  · by_cases c1 : x < 0
    · rw [if_pos c1, if_pos c1]
      exact ⟨_, rfl, rfl⟩
    · rw [if_neg c1, if_neg c1]
      by_cases c2 : (r : Int) ≤ x
      · rw [if_pos c2, if_pos c2]
        exact ⟨_, rfl, rfl⟩
      · have c3 : 24 ≤ x := by omega
        rw [if_neg c2, if_neg c2, if_pos c3, if_pos c3]
        exact ⟨_, rfl, rfl⟩
