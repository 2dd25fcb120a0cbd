/-! law(): the copy, what stays, what is new -/
theorem ld0 {T : Mem} {a N : Nat} (h : 0 < N) : ldk T a N 0 = some (gI T a 0) := ldk_c (k := 0) h
theorem st0 {T : Mem} {a N : Nat} {v : Int} (h : 0 < N) : stk T a N 0 v = some (sI T a 0 v) := stk_c (k := 0) h
theorem w32_c (x i : Nat) (hx : x ≤ 1000) (hi : i ≤ 1000) : w32 ((x : Int) + (i : Int)) = ((x + i : Nat) : Int) := by
  rw [w32s (by omega) (by omega)]
  omega
theorem w32_z (x : Int) (i : Nat) (hx : w32 (x * 0) = 0) (hi : i ≤ 1000) : w32 (w32 (x * 0) + (i : Int)) = (i : Int) := by
  rw [hx, w32s (by omega) (by omega)]
  omega
theorem cp7_l {n : Nat} {F G : Nat → Int} {K : Mem → Option (Int × Mem)} (hn : n ≤ 125) : ∀ (r i fu : Nat) (T : Mem), i + r = n → r < fu → gI T 56 22 = (n : Int) → (∀ j, j < n → gI T 70 (130 + j) = F j ∧ gI T 71 (130 + j) = G j) → (∀ j, j < i → gI T 70 j = w8 (F j) ∧ gI T 71 j = G j) → ∃ T', g_X10_readText_L105 K 0 fu (i : Int) T = K T' ∧ (∀ c, c ≠ 70 → c ≠ 71 → gI T' c = gI T c) ∧ ∀ j, j < n → gI T' 70 j = w8 (F j) ∧ gI T' 71 j = G j := by
  intro r
  induction r with
  | zero =>
    intro i fu T hi hf h22 hF hG
    obtain ⟨fu, rfl⟩ : ∃ k, fu = k + 1 := ⟨fu - 1, by omega⟩
    have hi : i = n := hi
    subst hi
    rw [g_X10_readText_L105.eq_2, h22, if_pos (Int.le_refl _)]
    exact ⟨T, rfl, fun _ _ _ => rfl, hG⟩
  | succ r ih =>
    intro i fu T hi hf h22 hF hG
    obtain ⟨fu, rfl⟩ : ∃ k, fu = k + 1 := ⟨fu - 1, by omega⟩
    have a1 : w32 (130 + (i : Int)) = ((130 + i : Nat) : Int) := w32_c 130 i (by decide) (by omega)
    have a2 : w32 (w32 (130 * 0) + (i : Int)) = (i : Int) := w32_z 130 i (by decide) (by omega)
    rw [g_X10_readText_L105.eq_2, h22, if_neg (show ¬ (n : Int) ≤ (i : Int) by omega), a1, a2, ldk_c (show 130 + i < 260 by omega), bS, stk_c (show i < 260 by omega), bS, ldk_c (show 130 + i < 260 by omega), bS, stk_c (show i < 260 by omega), bS, w32_a i (by omega), gI_ne (show (71 : Nat) ≠ 70 by decide)]
    clear a1 a2
    obtain ⟨T', z1, z2, z3⟩ := ih (i + 1) fu (sI (sI T 70 i (w8 (gI T 70 (130 + i)))) 71 i (gI T 71 (130 + i))) (by omega) (by omega) (by rw [gI_ne (by decide), gI_ne (by decide), h22]) (fun j hj => by
      rw [gI_ne (show (70 : Nat) ≠ 71 by decide), gI_ek (show 130 + j ≠ i by omega), gI_ek (show 130 + j ≠ i by omega), gI_ne (show (71 : Nat) ≠ 70 by decide)]
      exact hF j hj) (fun j hj => by
      rw [gI_ne (show (70 : Nat) ≠ 71 by decide)]
      by_cases e : j = i
      · subst e
        rw [gI_eq, gI_eq, (hF j (by omega)).1, (hF j (by omega)).2]
        exact ⟨rfl, rfl⟩
      · rw [gI_ek e, gI_ek e, gI_ne (show (71 : Nat) ≠ 70 by decide)]
        exact hG j (by omega))
    exact ⟨T', z1, fun c h1 h2 => by rw [z2 c h1 h2, gI_ne h2, gI_ne h1], z3⟩
theorem cp8_l {m : Nat} {F G : Nat → Int} (hm : m ≤ 61) : ∀ (r i fu : Nat) (T : Mem), i + r = m → r < fu → gI T 72 0 = (m : Int) → (∀ j, j < m → gI T 73 (61 + j) = F j ∧ gI T 74 (61 + j) = G j) → (∀ j, j < i → gI T 73 j = w16 (F j) ∧ gI T 74 j = w16 (G j)) → ∃ T', g_X10_readText_L177 0 fu (i : Int) T = some (-1, T') ∧ (∀ c, c ≠ 73 → c ≠ 74 → gI T' c = gI T c) ∧ ∀ j, j < m → gI T' 73 j = w16 (F j) ∧ gI T' 74 j = w16 (G j) := by
  intro r
  induction r with
  | zero =>
    intro i fu T hi hf h72 hF hG
    obtain ⟨fu, rfl⟩ : ∃ k, fu = k + 1 := ⟨fu - 1, by omega⟩
    have hi : i = m := hi
    subst hi
    rw [g_X10_readText_L177.eq_2, ld0 (by decide), bS, h72, if_pos (Int.le_refl _)]
    exact ⟨T, rfl, fun _ _ _ => rfl, hG⟩
  | succ r ih =>
    intro i fu T hi hf h72 hF hG
    obtain ⟨fu, rfl⟩ : ∃ k, fu = k + 1 := ⟨fu - 1, by omega⟩
    have a1 : w32 (61 + (i : Int)) = ((61 + i : Nat) : Int) := w32_c 61 i (by decide) (by omega)
    have a2 : w32 (w32 (61 * 0) + (i : Int)) = (i : Int) := w32_z 61 i (by decide) (by omega)
    rw [g_X10_readText_L177.eq_2, ld0 (by decide), bS, h72, if_neg (show ¬ (m : Int) ≤ (i : Int) by omega), a1, a2, ldk_c (show 61 + i < 122 by omega), bS, stk_c (show i < 122 by omega), bS, ldk_c (show 61 + i < 122 by omega), bS, stk_c (show i < 122 by omega), bS, w32_a i (by omega), gI_ne (show (74 : Nat) ≠ 73 by decide)]
    clear a1 a2
    obtain ⟨T', z1, z2, z3⟩ := ih (i + 1) fu (sI (sI T 73 i (w16 (gI T 73 (61 + i)))) 74 i (w16 (gI T 74 (61 + i)))) (by omega) (by omega) (by rw [gI_ne (by decide), gI_ne (by decide), h72]) (fun j hj => by
      rw [gI_ne (show (73 : Nat) ≠ 74 by decide), gI_ek (show 61 + j ≠ i by omega), gI_ek (show 61 + j ≠ i by omega), gI_ne (show (74 : Nat) ≠ 73 by decide)]
      exact hF j hj) (fun j hj => by
      rw [gI_ne (show (73 : Nat) ≠ 74 by decide)]
      by_cases e : j = i
      · subst e
        rw [gI_eq, gI_eq, (hF j (by omega)).1, (hF j (by omega)).2]
        exact ⟨rfl, rfl⟩
      · rw [gI_ek e, gI_ek e, gI_ne (show (74 : Nat) ≠ 73 by decide)]
        exact hG j (by omega))
    exact ⟨T', z1, fun c h1 h2 => by rw [z2 c h1 h2, gI_ne h2, gI_ne h1], z3⟩
theorem j64_f {f p : Nat} {T : Mem} (h18 : gI T 56 18 = (f : Int)) (h19 : gI T 56 19 = (p : Int)) (h : gI T 56 20 = (p : Int) ∨ (gI T 56 20 = -1 ∧ p < f)) : ∃ T', g_X10_readText_J64 0 T = some ((p : Int), T') ∧ (∀ c, c ≠ 56 → gI T' c = gI T c) ∧ (∀ k, k ≠ 18 → k ≠ 20 → gI T' 56 k = gI T 56 k) ∧ gI T' 56 18 = 0 := by
  unfold g_X10_readText_J64
  rcases h with h | ⟨h, hp⟩
  · rw [if_pos (show 0 ≤ gI T 56 20 by rw [h]; omega)]
    simp only [ap]
    rw [gI_ek (show (20 : Nat) ≠ 18 by decide), h, if_neg (show ¬ (p : Int) < 0 by omega)]
    exact ⟨_, rfl, fun c hc => gI_ne hc, fun k h1 h2 => gI_ek h1, gI_eq⟩
  · rw [if_neg (show ¬ 0 ≤ gI T 56 20 by rw [h]; decide), h18, h19, if_neg (show ¬ (f : Int) ≤ (p : Int) by omega), wrong_m h h19, bS]
    simp only [ap]
    rw [gI_ek (show (20 : Nat) ≠ 18 by decide), gI_eq, if_neg (show ¬ (p : Int) < 0 by omega)]
    exact ⟨_, rfl, fun c hc => by rw [gI_ne hc, gI_ne hc], fun k h1 h2 => by rw [gI_ek h1, gI_ek h2], gI_eq⟩
theorem okS_b {x : TSt} (h : okS x) : 0 ≤ x.1 ∧ x.1 ≤ 127 := by
  unfold okS at h
  rcases h with h | h | h | h | h
  · omega
  · omega
  · omega
  · omega
  · have := bop_r (c := x.1) h
    omega
theorem okL_s {ls : List Lin} (h : ∀ l ∈ ls, okL l) : ∀ x ∈ ls.flatMap stL, okS x := by
  intro x hx
  obtain ⟨l, hl, hx⟩ := List.mem_flatMap.mp hx
  obtain ⟨h1, h2⟩ := h l hl
  obtain ⟨t, y⟩ := l
  cases t with
  | none => exact h2.1 x hx
  | some t =>
    rcases List.mem_append.mp hx with hx | hx
    · exact (h1 t rfl).1 x hx
    · exact h2.1 x hx
theorem getD_p {P : Int → Prop} {l : List Int} (h : ∀ x ∈ l, P x) {j : Nat} (hj : j < l.length) : P (l.getD j 0) := by
  rw [List.getD_eq_getElem?_getD, List.getElem?_eq_getElem hj]
  exact h _ (List.getElem_mem hj)
theorem j64_s {f : Nat} {ls : List Lin} {T : Mem} (h18 : gI T 56 18 = (f : Int)) (hT : stM f 0 (ls.flatMap stL) T) (hok : ∀ l ∈ ls, okL l) (hn : (ls.flatMap stL).length ≤ 120) (hl : ls.length ≤ 61) (h72 : gI T 72 1 = ((ls.length : Nat) : Int)) (h73 : At (gI T 73) 61 (endsT 0 ls)) (h74 : At (gI T 74) 61 (endsL 0 ls)) : ∃ T', g_X10_readText_J64 0 T = some (-1, T') ∧ (∀ c, c ≠ 56 → c ≠ 70 → c ≠ 71 → c ≠ 72 → c ≠ 73 → c ≠ 74 → gI T' c = gI T c) ∧ (∀ k, k ≠ 18 → gI T' 56 k = gI T 56 k) ∧ gI T' 56 18 = 0 ∧ gI T' 72 0 = ((ls.length : Nat) : Int) ∧ At (gI T' 70) 0 ((ls.flatMap stL).map Prod.fst) ∧ At (gI T' 71) 0 ((ls.flatMap stL).map Prod.snd) ∧ At (gI T' 73) 0 (endsT 0 ls) ∧ At (gI T' 74) 0 (endsL 0 ls) := by
  obtain ⟨t1, t2, t3, t4, t5, t6⟩ := hT
  have l1 : ((ls.flatMap stL).map Prod.fst).length = (ls.flatMap stL).length := List.length_map ..
  have l2 : ((ls.flatMap stL).map Prod.snd).length = (ls.flatMap stL).length := List.length_map ..
  obtain ⟨T1, a1, a2, a3⟩ := cp7_l (n := (ls.flatMap stL).length) (F := fun j => ((ls.flatMap stL).map Prod.fst).getD j 0) (G := fun j => ((ls.flatMap stL).map Prod.snd).getD j 0) (K := fun S25 => (stk S25 72 2 0 (gI S25 72 1)).bind fun S27 => g_X10_readText_L177 0 FU 0 S27) (by omega) (ls.flatMap stL).length 0 FU (sI T 56 18 0) (by omega) (by unfold FU; omega) (by rw [gI_ek (by decide)]; exact t4) (fun j hj => by
    rw [gI_ne (show (70 : Nat) ≠ 56 by decide), gI_ne (show (71 : Nat) ≠ 56 by decide)]
    exact ⟨t5 j (by omega), t6 j (by omega)⟩) (fun j hj => absurd hj (Nat.not_lt_zero j))
  have e72 : gI T1 72 1 = ((ls.length : Nat) : Int) := by rw [a2 72 (by decide) (by decide), gI_ne (by decide), h72]
  obtain ⟨T2, b1, b2, b3⟩ := cp8_l (m := ls.length) (F := fun j => (endsT 0 ls).getD j 0) (G := fun j => (endsL 0 ls).getD j 0) hl ls.length 0 FU (sI T1 72 0 ((ls.length : Nat) : Int)) (by omega) (by unfold FU; omega) gI_eq (fun j hj => by
    rw [gI_ne (show (73 : Nat) ≠ 72 by decide), gI_ne (show (74 : Nat) ≠ 72 by decide), a2 73 (by decide) (by decide), a2 74 (by decide) (by decide), gI_ne (show (73 : Nat) ≠ 56 by decide), gI_ne (show (74 : Nat) ≠ 56 by decide)]
    exact ⟨h73 j (by rw [endsT_n]; exact hj), h74 j (by rw [endsL_n]; exact hj)⟩) (fun j hj => absurd hj (Nat.not_lt_zero j))
  rw [show ((0 : Nat) : Int) = 0 from rfl] at a1 b1
  refine ⟨T2, ?_, fun c h1 h2 h3 h4 h5 h6 => ?_, fun k hk => ?_, ?_, ?_, fun j hj => ?_, fun j hj => ?_, fun j hj => ?_, fun j hj => ?_⟩
  · unfold g_X10_readText_J64
    rw [t2, if_neg (show ¬ (0 : Int) ≤ -1 by decide), h18, t1, if_pos (Int.le_refl _)]
    simp only [ap]
    rw [gI_ek (show (20 : Nat) ≠ 18 by decide), t2, if_pos (show (-1 : Int) < 0 by decide), a1, e72, st0 (by decide), bS, b1]
  · rw [b2 c h5 h6, gI_ne h4, a2 c h2 h3, gI_ne h1]
  · rw [b2 56 (by decide) (by decide), gI_ne (by decide), a2 56 (by decide) (by decide), gI_ek hk]
  · rw [b2 56 (by decide) (by decide), gI_ne (by decide), a2 56 (by decide) (by decide), gI_eq]
  · rw [b2 72 (by decide) (by decide), gI_eq]
  · have hp : (fun x : Int => w8 x = x) (((ls.flatMap stL).map Prod.fst).getD j 0) := getD_p (P := fun x => w8 x = x) (fun x hx => by
      obtain ⟨y, hy, rfl⟩ := List.mem_map.mp hx
      have := okS_b (okL_s hok y hy)
      unfold w8
      omega) hj
    rw [Nat.zero_add, b2 70 (by decide) (by decide), gI_ne (by decide), (a3 j (by omega)).1]
    exact hp
  · rw [Nat.zero_add, b2 71 (by decide) (by decide), gI_ne (by decide), (a3 j (by omega)).2]
  · have hp : (fun x : Int => w16 x = x) ((endsT 0 ls).getD j 0) := getD_p (P := fun x => w16 x = x) (fun x hx => by
      have := endsT_m ls 0 x hx
      unfold w16
      omega) hj
    rw [endsT_n] at hj
    rw [Nat.zero_add, (b3 j hj).1]
    exact hp
  · have hp : (fun x : Int => w16 x = x) ((endsL 0 ls).getD j 0) := getD_p (P := fun x => w16 x = x) (fun x hx => by
      have := endsL_m ls 0 x hx
      unfold w16
      omega) hj
    rw [endsL_n] at hj
    rw [Nat.zero_add, (b3 j hj).2]
    exact hp
theorem sgL_n (l : Lin) : (stL l).length ≤ (sgL l).length := by
  obtain ⟨t, x⟩ := l
  cases t with
  | none =>
    show x.length ≤ (x.map enc ++ [-59]).length
    rw [List.length_append, List.length_map]
    omega
  | some t =>
    show (t ++ x).length ≤ (t.map enc ++ [-63] ++ x.map enc ++ [-59]).length
    rw [List.length_append, List.length_append, List.length_append, List.length_append, List.length_map, List.length_map]
    omega
theorem sgs_n : ∀ ls : List Lin, (ls.flatMap stL).length ≤ (sgs ls).length
  | [] => Nat.le_refl _
  | l :: ls => by
    have h1 := sgL_n l
    have h2 := sgs_n ls
    have h3 : sgs (l :: ls) = sgL l ++ sgs ls := rfl
    rw [h3, List.flatMap_cons, List.length_append, List.length_append]
    omega
/-- the text was wrong: the old law stays, the tape is empty -/
theorem Inv_LF {b nW nP nB q : Nat} {law : Option (List Lin)} {Sc Sm Sc' Sm' : Mem} (h : Inv b nW nP nB law Sc Sm) (hq : gR Sc 13 5 = some q) (c1 : ∀ c, c ≠ 13 → c ≠ q → gI Sc' c = gI Sc c) (c2 : ∀ k, k ≠ 2 → k ≠ 6 → k ≠ 7 → gI Sc' 13 k = gI Sc 13 k) (c3 : ∀ c, gR Sc' c = gR Sc c) (c4 : gI Sc' 13 2 = 0) (m1 : ∀ c, c ≠ 56 → c ≠ 70 → c ≠ 71 → c ≠ 72 → c ≠ 73 → c ≠ 74 → gI Sm' c = gI Sm c) (m2 : ∀ k, k ≠ 18 → k ≠ 19 → k ≠ 20 → k ≠ 21 → k ≠ 22 → gI Sm' 56 k = gI Sm 56 k) (m3 : ∀ c k, c = 70 ∨ c = 71 → k < 130 → gI Sm' c k = gI Sm c k) (m4 : ∀ c k, c = 73 ∨ c = 74 → k < 61 → gI Sm' c k = gI Sm c k) (m5 : gI Sm' 72 0 = gI Sm 72 0) (m6 : gI Sm' 56 18 = 0) : Inv b nW nP nB law Sc' Sm' := by
  obtain ⟨g0, g1, g2, g3, ⟨r0, r⟩, g5, g6, g7, g8, g9⟩ := h
  have hq2 : q = 15 ∨ q = 16 := by
    rcases r0 with z | z
    · rw [z.2] at hq; cases hq; exact Or.inr rfl
    · rw [z.2] at hq; cases hq; exact Or.inl rfl
  have d1 : ∀ c, c ≠ 13 → c ≠ 15 → c ≠ 16 → gI Sc' c = gI Sc c := fun c h1 h2 h3 => c1 c h1 (by omega)
  refine ⟨Shp_of g0 (c3 2) (c3 23), RO_of g1 (fun c h => d1 c (by omega) (by omega) (by omega)) (fun c h => m1 c (by omega) (by omega) (by omega) (by omega) (by omega) (by omega)) (m2 1 (by decide) (by decide) (by decide) (by decide) (by decide)) (m2 7 (by decide) (by decide) (by decide) (by decide) (by decide)), RC_of g2 (fun c h => d1 c (by omega) (by omega) (by omega)) (fun c h => m1 c (by omega) (by omega) (by omega) (by omega) (by omega) (by omega)) (m2 11 (by decide) (by decide) (by decide) (by decide) (by decide)) (m2 12 (by decide) (by decide) (by decide) (by decide) (by decide)), ⟨0, Nat.zero_le _, c4, m6, fun i hi => absurd hi (Nat.not_lt_zero i)⟩, ⟨by rw [c3 13]; exact r0, ?_⟩, RS_of g5 (fun c h => d1 c (by omega) (by omega) (by omega)) (fun c h => m1 c (by omega) (by omega) (by omega) (by omega) (by omega) (by omega)), RB_of g6 (by rw [d1 53 (by decide) (by decide) (by decide)]) (by rw [d1 53 (by decide) (by decide) (by decide)]) (d1 54 (by decide) (by decide) (by decide)) (d1 55 (by decide) (by decide) (by decide)) (m2 52 (by decide) (by decide) (by decide) (by decide) (by decide)) (m2 54 (by decide) (by decide) (by decide) (by decide) (by decide)) (m1 91 (by decide) (by decide) (by decide) (by decide) (by decide) (by decide)) (m1 92 (by decide) (by decide) (by decide) (by decide) (by decide) (by decide)), RD_of g7 (fun c h => d1 c (by omega) (by omega) (by omega)) (fun c h => m1 c (by omega) (by omega) (by omega) (by omega) (by omega) (by omega)) (m2 46 (by decide) (by decide) (by decide) (by decide) (by decide)) (m2 47 (by decide) (by decide) (by decide) (by decide) (by decide)) (m2 48 (by decide) (by decide) (by decide) (by decide) (by decide)), RY_of g8 (Nat.le_refl b) (fun c h => d1 c (by omega) (by omega) (by omega)) (c3 34), RH_of g9 (c3 38) (d1 33 (by decide) (by decide) (by decide))⟩
  cases law with
  | none => exact ⟨by rw [c2 4 (by decide) (by decide) (by decide)]; exact r.1, by rw [m2 30 (by decide) (by decide) (by decide) (by decide) (by decide)]; exact r.2⟩
  | some ls =>
    obtain ⟨a1, a2, a3, a4, a5, a6, a7, a8, a9, a10, a11, a12⟩ := r
    have n3 := sgs_n ls
    refine ⟨a1, a2, a3, a4, by rw [c2 4 (by decide) (by decide) (by decide)]; exact a5, fun p hp => ?_, by rw [m2 30 (by decide) (by decide) (by decide) (by decide) (by decide)]; exact a7, by rw [m5]; exact a8, At_c a9 (fun k hk => m3 70 _ (Or.inl rfl) (by rw [List.length_map] at hk; omega)), At_c a10 (fun k hk => m3 71 _ (Or.inr rfl) (by rw [List.length_map] at hk; omega)), At_c a11 (fun k hk => m4 73 _ (Or.inl rfl) (by rw [endsT_n] at hk; omega)), At_c a12 (fun k hk => m4 74 _ (Or.inr rfl) (by rw [endsL_n] at hk; omega))⟩
    rw [c3 13] at hp
    have e : gI Sc' p = gI Sc p := by
      rcases r0 with z | z
      · rw [z.1] at hp; rw [z.2] at hq; cases hp; cases hq; exact c1 15 (by decide) (by decide)
      · rw [z.1] at hp; rw [z.2] at hq; cases hp; cases hq; exact c1 16 (by decide) (by decide)
    rw [e]
    exact a6 p hp
/-- the text was right: the new law -/
theorem Inv_LS {b nW nP nB q p : Nat} {law : Option (List Lin)} {ls : List Lin} {Sc Sm Sc' Sm' : Mem} (h : Inv b nW nP nB law Sc Sm) (hq : gR Sc 13 5 = some q) (hp : gR Sc 13 3 = some p) (c1 : ∀ c, c ≠ 1 → c ≠ 13 → c ≠ q → gI Sc' c = gI Sc c) (c2 : ∀ k, k ≠ 3 → gI Sc' 1 k = gI Sc 1 k) (c2' : gI Sc' 1 3 = gI Sc 1 3 + 1) (c3 : ∀ c, c ≠ 13 → gR Sc' c = gR Sc c) (c3' : gR Sc' 13 3 = some q ∧ gR Sc' 13 5 = some p) (c4 : gI Sc' 13 2 = 0) (c5 : gI Sc' 13 4 = ((sgs ls).length : Int)) (c6 : At (gI Sc' q) 0 (sgs ls)) (m1 : ∀ c, c ≠ 56 → c ≠ 70 → c ≠ 71 → c ≠ 72 → c ≠ 73 → c ≠ 74 → gI Sm' c = gI Sm c) (m2 : ∀ k, k ≠ 18 → k ≠ 19 → k ≠ 20 → k ≠ 21 → k ≠ 22 → k ≠ 30 → gI Sm' 56 k = gI Sm 56 k) (m6 : gI Sm' 56 18 = 0) (m7 : gI Sm' 56 30 = 1) (hne : ls ≠ []) (hok : ∀ l ∈ ls, okL l) (h121 : (sgs ls).length ≤ 121) (h61 : ls.length ≤ 61) (m8 : gI Sm' 72 0 = ((ls.length : Nat) : Int)) (m9 : At (gI Sm' 70) 0 ((ls.flatMap stL).map Prod.fst)) (m10 : At (gI Sm' 71) 0 ((ls.flatMap stL).map Prod.snd)) (m11 : At (gI Sm' 73) 0 (endsT 0 ls)) (m12 : At (gI Sm' 74) 0 (endsL 0 ls)) : Inv (b + 1) nW nP nB (some ls) Sc' Sm' := by
  obtain ⟨g0, g1, g2, g3, ⟨r0, r⟩, g5, g6, g7, g8, g9⟩ := h
  have hq2 : (q = 15 ∧ p = 16) ∨ (q = 16 ∧ p = 15) := by
    rcases r0 with z | z
    · rw [z.2] at hq; rw [z.1] at hp; cases hq; cases hp; exact Or.inr ⟨rfl, rfl⟩
    · rw [z.2] at hq; rw [z.1] at hp; cases hq; cases hp; exact Or.inl ⟨rfl, rfl⟩
  have d1 : ∀ c, c ≠ 1 → c ≠ 13 → c ≠ 15 → c ≠ 16 → gI Sc' c = gI Sc c := fun c h0 h1 h2 h3 => c1 c h0 h1 (by omega)
  have e1 : ∀ w i, w < 10 → nu Sc' w i = nu Sc w i := fun w i hw => by unfold nu; rw [d1 (3 + w) (by omega) (by omega) (by omega) (by omega)]
  have e2 : ∀ w i, w < 10 → mu Sm' w i = mu Sm w i := fun w i hw => by
    unfold mu
    by_cases z : w < 7
    · rw [if_pos z, if_pos z, m1 (57 + w) (by omega) (by omega) (by omega) (by omega) (by omega) (by omega)]
    · rw [if_neg z, if_neg z, m1 64 (by omega) (by omega) (by omega) (by omega) (by omega) (by omega)]
  refine ⟨Shp_of g0 (c3 2 (by decide)) (c3 23 (by decide)), ?_, RC_of g2 (fun c h => d1 c (by omega) (by omega) (by omega) (by omega)) (fun c h => m1 c (by omega) (by omega) (by omega) (by omega) (by omega) (by omega)) (m2 11 (by decide) (by decide) (by decide) (by decide) (by decide) (by decide)) (m2 12 (by decide) (by decide) (by decide) (by decide) (by decide) (by decide)), ⟨0, Nat.zero_le _, c4, m6, fun i hi => absurd hi (Nat.not_lt_zero i)⟩, ⟨?_, hne, hok, h121, h61, c5, fun q' hq' => ?_, m7, m8, m9, m10, m11, m12⟩, RS_of g5 (fun c h => d1 c (by omega) (by omega) (by omega) (by omega)) (fun c h => m1 c (by omega) (by omega) (by omega) (by omega) (by omega) (by omega)), RB_of g6 (by rw [d1 53 (by decide) (by decide) (by decide) (by decide)]) (by rw [d1 53 (by decide) (by decide) (by decide) (by decide)]) (d1 54 (by decide) (by decide) (by decide) (by decide)) (d1 55 (by decide) (by decide) (by decide) (by decide)) (m2 52 (by decide) (by decide) (by decide) (by decide) (by decide) (by decide)) (m2 54 (by decide) (by decide) (by decide) (by decide) (by decide) (by decide)) (m1 91 (by decide) (by decide) (by decide) (by decide) (by decide) (by decide)) (m1 92 (by decide) (by decide) (by decide) (by decide) (by decide) (by decide)), RD_of g7 (fun c h => d1 c (by omega) (by omega) (by omega) (by omega)) (fun c h => m1 c (by omega) (by omega) (by omega) (by omega) (by omega) (by omega)) (m2 46 (by decide) (by decide) (by decide) (by decide) (by decide) (by decide)) (m2 47 (by decide) (by decide) (by decide) (by decide) (by decide) (by decide)) (m2 48 (by decide) (by decide) (by decide) (by decide) (by decide) (by decide)), ?_, RH_of g9 (c3 38 (by decide)) (d1 33 (by decide) (by decide) (by decide) (by decide))⟩
  · obtain ⟨hb, hw, hv, hn, hz⟩ := g1
    refine ⟨hb, ⟨by rw [c2 1 (by decide)]; exact hw.1, by rw [c2 2 (by decide)]; exact hw.2⟩, ⟨by rw [m2 1 (by decide) (by decide) (by decide) (by decide) (by decide) (by decide)]; exact hv.1, by rw [m2 7 (by decide) (by decide) (by decide) (by decide) (by decide) (by decide)]; exact hv.2⟩, fun w i q1 q2 => ?_, fun i hi => by rw [e1 6 i (by decide)]; exact hz i hi⟩
    rw [e1 w i q1, e2 w i q1]
    exact hn w i q1 q2
  · rcases hq2 with ⟨rfl, rfl⟩ | ⟨rfl, rfl⟩
    · exact Or.inl c3'
    · exact Or.inr c3'
  · rw [c3'.1] at hq'
    cases hq'
    exact c6
  · obtain ⟨y0, ⟨y1, y2, y3⟩, y4⟩ := g8
    refine ⟨by rw [c3 34 (by decide)]; exact y0, ⟨by rw [d1 34 (by decide) (by decide) (by decide) (by decide)]; exact y1, by rw [d1 34 (by decide) (by decide) (by decide) (by decide), c2']; omega, by rw [c2']; omega⟩, fun z => ?_⟩
    rw [d1 34 (by decide) (by decide) (by decide) (by decide), c2'] at z
    omega
theorem m_law {b : Nat} {Sc Sm : Mem} (h : IV b Sc Sm) (hb : b < 900000) : Sim (b + 100) (g_X9_law Sc) (g_X10_law Sm) := by
  obtain ⟨nW, nP, nB, law, h⟩ := h
  have h' := h
  obtain ⟨g0, g1, g2, ⟨f, f1, f2, f3, f4⟩, ⟨r0, r⟩, g5, g6, g7, ⟨y0, ⟨ya, yb, yc⟩, yd⟩, g9⟩ := h'
  obtain ⟨q, p, hq, hp, hqp⟩ : ∃ q p, gR Sc 13 5 = some q ∧ gR Sc 13 3 = some p ∧ ((q = 15 ∧ p = 16) ∨ (q = 16 ∧ p = 15)) := by
    rcases r0 with z | z
    · exact ⟨16, 15, z.2, z.1, Or.inr ⟨rfl, rfl⟩⟩
    · exact ⟨15, 16, z.2, z.1, Or.inl ⟨rfl, rfl⟩⟩
  have ht : tpO f q (gI Sc 14) := ⟨f1, by omega, fun i hi => ⟨(f4 i hi).1, (f4 i hi).2.1⟩⟩
  have hC : cxC f q (gI Sc 14) Sc := ⟨f2, fun i hi => rfl, hq⟩
  have hM : cxM f (gI Sc 14) Sm := ⟨f3, fun i hi => (f4 i hi).2.2⟩
  have kc : kC q Sc (sI (sI Sc 13 7 0) 13 6 0) := (kC_s (Or.inr rfl)).tr (kC_s (Or.inl rfl))
  have km : kL 61 Sm (sI (sI (sI (sI (sI Sm 56 19 0) 56 20 (-1)) 56 21 0) 56 22 0) 72 1 0) := (kL.m ((((kM_s (Or.inl rfl)).tr (kM_s (Or.inr (Or.inl rfl)))).tr (kM_s (Or.inr (Or.inr (Or.inl rfl))))).tr (kM_s (Or.inr (Or.inr (Or.inr rfl)))))).tr kL_n
  obtain ⟨x, S1, T1, z1, z2, z3, z4, z5⟩ := tx_l (K := fun S10 => g_X10_readText_J64 0 S10) (v1 := 0) ht 121 0 FU FU [] _ _ (by omega) (Nat.zero_le _) (by unfold FU; decide) (by unfold FU; decide) (Nat.zero_le _) (Nat.zero_le _) (Nat.zero_le _) (fun l hl => by cases hl) (hC.k ht.2.1 kc) (hM.l km) (show stC q 0 [] _ from ⟨by rw [gI_ek (by decide), gI_eq]; rfl, by rw [gI_eq]; rfl, fun k hk => absurd hk (Nat.not_lt_zero k)⟩) (show stM 0 0 [] _ from ⟨by rw [gI_ne (by decide), gI_ek (by decide), gI_ek (by decide), gI_ek (by decide), gI_eq]; rfl, by rw [gI_ne (by decide), gI_ek (by decide), gI_ek (by decide), gI_eq], by rw [gI_ne (by decide), gI_ek (by decide), gI_eq]; rfl, by rw [gI_ne (by decide), gI_eq]; rfl, fun k hk => absurd hk (Nat.not_lt_zero k), fun k hk => absurd hk (Nat.not_lt_zero k)⟩) (by rw [gI_eq]; rfl) (fun k hk => absurd hk (Nat.not_lt_zero k)) (fun k hk => absurd hk (Nat.not_lt_zero k))
  have kc1 := kc.tr z3
  have km1 := km.tr z4
  have Ec : g_X4_readText Sc = some (x, S1) := by
    unfold g_X4_readText
    simp only [ap]
    exact z1
  have Em : g_X10_readText 0 Sm = g_X10_readText_J64 0 T1 := by
    unfold g_X10_readText
    simp only [ap]
    exact z2
  have h18 : gI T1 56 18 = (f : Int) := by rw [km1.2.1 18 (by decide) (by decide) (by decide) (by decide), f3]
  have h13 : (13 : Nat) ≠ q := by omega
  rcases z5 with ⟨rfl, ls, w1, w2, w3, w4, w5, w6, w7, w8', w9, w10⟩ | ⟨rfl, p', w1, w2, w3, w4⟩
  · obtain ⟨T2, t1, t2, t3, t4, t5, t6, t7, t8, t9⟩ := j64_s h18 w7 w2 w5 w4 w8' w9 w10
    have e3 : gR S1 13 3 = some p := by rw [kc1.2.2 13, hp]
    have e5 : gR S1 13 5 = some q := by rw [kc1.2.2 13, hq]
    have ea : w32 (gI S1 1 3 + 1) = gI Sc 1 3 + 1 := by rw [kc1.1 1 (by decide) (by omega)]; exact w32s (by omega) (by omega)
    have Lc : g_X9_law Sc = some (1, sI (sI (sI (sR (sR S1 13 3 (some q)) 13 5 (some p)) 13 4 (gI S1 13 6)) 1 3 (w32 (gI S1 1 3 + 1))) 13 2 0) := by
      unfold g_X9_law g_X4_adopt
      rw [Ec, bd2S, if_neg (show ¬ (1 : Int) = 0 by decide)]
      unfold g_X4_adopt_J20
      rw [if_neg (show ¬ (1 : Int) = 0 by decide), e3, e5, bS, bS]
      simp only [ap]
      rw [bd2S, gI_sR, gI_sR, gI_ne (show (1 : Nat) ≠ 13 by decide), gI_sR, gI_sR]
    have Lm : g_X10_law Sm = some (1, sI T2 56 30 1) := by
      unfold g_X10_law
      rw [Em, t1, bd2S, if_pos (show (-1 : Int) < 0 by decide)]
    refine ⟨1, _, _, Lc, Lm, nW, nP, nB, some ls, Inv_up (Inv_LS h hq hp (fun c h1 h2 h3 => ?_) (fun k hk => ?_) ?_ (fun c hc => ?_) ⟨?_, ?_⟩ gI_eq ?_ ?_ (fun c h1 h2 h3 h4 h5 h6 => ?_) (fun k h1 h2 h3 h4 h5 h6 => ?_) ?_ gI_eq w1 w2 w3 w4 ?_ ?_ ?_ ?_ ?_) (show b + 1 ≤ b + 100 by omega)⟩
    · rw [gI_ne h2, gI_ne h1, gI_ne h2]
      exact kc1.1 c h2 h3
    · rw [gI_ne (show (1 : Nat) ≠ 13 by decide), gI_ek hk, gI_ne (show (1 : Nat) ≠ 13 by decide)]
      show gI S1 1 k = _
      rw [kc1.1 1 (by decide) (by omega)]
    · rw [gI_ne (show (1 : Nat) ≠ 13 by decide), gI_eq, ea]
    · funext k
      rw [gR_sI, gR_sI, gR_sI, gR_sR, if_neg (fun z => hc z.1), gR_sR, if_neg (fun z => hc z.1), kc1.2.2 c]
    · rw [gR_sI, gR_sI, gR_sI, gR_sR, if_neg (by decide), gR_sR, if_pos ⟨rfl, rfl⟩]
    · rw [gR_sI, gR_sI, gR_sI, gR_sR, if_pos ⟨rfl, rfl⟩]
    · rw [gI_ek (by decide), gI_ne (by decide), gI_eq]
      exact w6.2.1
    · rw [gI_ne (Ne.symm h13), gI_ne (show q ≠ 1 by omega), gI_ne (Ne.symm h13)]
      exact w6.2.2
    · rw [gI_ne h1, t2 c h1 h2 h3 h4 h5 h6]
      exact km1.1 c h1 h2 h3 h4 h5 h6
    · rw [gI_ek h6, t3 k h1]
      exact km1.2.1 k h2 h3 h4 h5
    · rw [gI_ek (by decide)]
      exact t4
    · rw [gI_ne (by decide)]
      exact t5
    · rw [gI_ne (by decide)]
      exact t6
    · rw [gI_ne (by decide)]
      exact t7
    · rw [gI_ne (by decide)]
      exact t8
    · rw [gI_ne (by decide)]
      exact t9
  · obtain ⟨T2, t1, t2, t3, t4⟩ := j64_f h18 w3 w4
    have Lc : g_X9_law Sc = some (w32 (-100 - (p' : Int)), sI S1 13 2 0) := by
      unfold g_X9_law g_X4_adopt
      rw [Ec, bd2S, if_pos (show (0 : Int) = 0 from rfl)]
      unfold g_X4_adopt_J20
      rw [if_pos (show (0 : Int) = 0 from rfl), w2]
      simp only [ap]
      rw [bd2S]
    have Lm : g_X10_law Sm = some (w32 (-100 - (p' : Int)), T2) := by
      unfold g_X10_law
      rw [Em, t1, bd2S, if_neg (show ¬ (p' : Int) < 0 by omega)]
    refine ⟨_, _, _, Lc, Lm, nW, nP, nB, law, Inv_up (Inv_LF h hq (fun c h1 h2 => ?_) (fun k h1 h2 h3 => ?_) (fun c => ?_) gI_eq (fun c h1 h2 h3 h4 h5 h6 => ?_) (fun k h1 h2 h3 h4 h5 => ?_) (fun c k h1 h2 => ?_) (fun c k h1 h2 => ?_) ?_ t4) (show b ≤ b + 100 by omega)⟩
    · rw [gI_ne h1]
      exact kc1.1 c h1 h2
    · rw [gI_ek h1]
      exact kc1.2.1 k h2 h3
    · exact kc1.2.2 c
    · rw [t2 c h1]
      exact km1.1 c h1 h2 h3 h4 h5 h6
    · rw [t3 k h1 h3]
      exact km1.2.1 k h2 h3 h4 h5
    · rw [t2 c (by omega)]
      exact km1.2.2.1 c k h1 h2
    · rw [t2 c (by omega)]
      exact km1.2.2.2.1 c k h1 h2
    · rw [t2 72 (by decide)]
      exact km1.2.2.2.2
