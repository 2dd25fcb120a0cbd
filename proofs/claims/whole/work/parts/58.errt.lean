/-! ERRORS, reference: the whole table -/
theorem okC_k {bo : Option Nat} {N : Nat → Nat → Int} {V : List Nat} {nW p a k : Nat} {T T' : Mem} (h : okC bo N V nW p a k T) (e : ∀ c, gI T' c (16 * p + 4 * a + k) = gI T c (16 * p + 4 * a + k)) : okC bo N V nW p a k T' := by
  unfold okC
  rw [e 84, e 85, e 86]
  exact h
theorem sub1 {p n : Nat} (h : p < n) : n - (p + 1) = n - p - 1 := by omega
theorem row_m {N : Nat → Nat → Int} {nW nP p a : Nat} {bo : Option Nat} {V : List Nat} {K : Mem → Option Mem} (hN : NR N nW nP) (h6 : V.length ≤ 6) (hbo : ∀ b, bo = some b → b < 6) (hp : p < V.length) (ha : a < 4) : ∀ (r k fu : Nat) (T : Mem), k + r = 4 → r < fu → OM N nW nP T → TW nW T V → gI T 56 44 = biI bo → (∀ a' k', a' < 4 → k' < 4 → okC bo N V nW (p + 1) a' k' T) → (∀ k', k' < k → okC bo N V nW p a k' T) → ∃ T', g_X10_findErrors_L138 K (p : Int) (a : Int) fu (k : Int) T = K T' ∧ KH T T' ∧ (∀ k', k' < 4 → okC bo N V nW p a k' T') ∧ (∀ c j, (j < 16 * p + 4 * a ∨ 16 * p + 4 * a + 4 ≤ j) → gI T' c j = gI T c j) ∧ gI T' 56 = gI T 56 := by
  intro r
  induction r with
  | zero =>
    intro k fu T hk hf hM hT hb hn hd
    obtain ⟨fu, rfl⟩ : ∃ k, fu = k + 1 := ⟨fu - 1, by omega⟩
    have hk : k = 4 := hk
    rw [g_X10_findErrors_L138.eq_2, if_pos (by omega)]
    exact ⟨T, rfl, KH.rf T, fun k' h => hd k' (by omega), fun _ _ _ => rfl, rfl⟩
  | succ r ih =>
    intro k fu T hk hf hM hT hb hn hd
    obtain ⟨fu, rfl⟩ : ∃ k, fu = k + 1 := ⟨fu - 1, by omega⟩
    have hk4 : k < 4 := by omega
    obtain ⟨T1, p1, p2, p3, p4, p5⟩ := place_m hN hM h6 hT hb hbo hp rfl ha hk4 hn
    obtain ⟨T2, q1, q2, q3, q4, q5⟩ := ih (k + 1) fu T1 (by omega) (by omega) (hM.h p2) (hT.h p2) (by rw [p5]; exact hb) (fun a' k' h1 h2 => okC_k (hn a' k' h1 h2) (fun c => p4 c _ (by omega))) (fun k' h => by
      by_cases e : k' = k
      · rw [e]; exact p3
      · exact okC_k (hd k' (by omega)) (fun c => p4 c _ (by omega)))
    have e1 := (kd2 k hk4).1
    have e2 := (kd2 k hk4).2
    rw [g_X10_findErrors_L138.eq_2, if_neg (show ¬ (4 : Int) ≤ (k : Int) by clear e1 e2; omega), e1, e2, p1, bS, w32_a k (by clear e1 e2; omega), q1]
    clear e1 e2
    exact ⟨T2, rfl, p2.tr q2, q3, fun c j hj => by rw [q4 c j hj, p4 c j (by omega)], by rw [q5, p5]⟩
theorem tab_m {N : Nat → Nat → Int} {nW nP p : Nat} {bo : Option Nat} {V : List Nat} {K : Mem → Option Mem} (hN : NR N nW nP) (h6 : V.length ≤ 6) (hbo : ∀ b, bo = some b → b < 6) (hp : p < V.length) : ∀ (r a fu : Nat) (T : Mem), a + r = 4 → r < fu → OM N nW nP T → TW nW T V → gI T 56 44 = biI bo → (∀ a' k', a' < 4 → k' < 4 → okC bo N V nW (p + 1) a' k' T) → (∀ a' k', a' < a → k' < 4 → okC bo N V nW p a' k' T) → ∃ T', g_X10_findErrors_L130 K (p : Int) fu (a : Int) T = K T' ∧ KH T T' ∧ (∀ a' k', a' < 4 → k' < 4 → okC bo N V nW p a' k' T') ∧ (∀ c j, (j < 16 * p ∨ 16 * p + 16 ≤ j) → gI T' c j = gI T c j) ∧ gI T' 56 = gI T 56 := by
  intro r
  induction r with
  | zero =>
    intro a fu T hk hf hM hT hb hn hd
    obtain ⟨fu, rfl⟩ : ∃ k, fu = k + 1 := ⟨fu - 1, by omega⟩
    have hk : a = 4 := hk
    rw [g_X10_findErrors_L130.eq_2, if_pos (by omega)]
    exact ⟨T, rfl, KH.rf T, fun a' k' h1 h2 => hd a' k' (by omega) h2, fun _ _ _ => rfl, rfl⟩
  | succ r ih =>
    intro a fu T hk hf hM hT hb hn hd
    obtain ⟨fu, rfl⟩ : ∃ k, fu = k + 1 := ⟨fu - 1, by omega⟩
    have ha4 : a < 4 := by omega
    obtain ⟨T1, p1, p2, p3, p4, p5⟩ := row_m (K := fun S11 => g_X10_findErrors_L130 K (p : Int) fu ((a + 1 : Nat) : Int) S11) hN h6 hbo hp ha4 4 0 FU T rfl (by unfold FU; decide) hM hT hb hn (fun k' h => absurd h (Nat.not_lt_zero k'))
    obtain ⟨T2, q1, q2, q3, q4, q5⟩ := ih (a + 1) fu T1 (by omega) (by omega) (hM.h p2) (hT.h p2) (by rw [p5]; exact hb) (fun a' k' h1 h2 => okC_k (hn a' k' h1 h2) (fun c => p4 c _ (by omega))) (fun a' k' h1 h2 => by
      by_cases e : a' = a
      · rw [e]; exact p3 k' h2
      · exact okC_k (hd a' k' (by omega) h2) (fun c => p4 c _ (by omega)))
    rw [show ((0 : Nat) : Int) = 0 from rfl] at p1
    rw [g_X10_findErrors_L130.eq_2, if_neg (show ¬ (4 : Int) ≤ (a : Int) by omega), w32_a a (by omega), p1]
    try simp only []
    rw [q1]
    exact ⟨T2, rfl, p2.tr q2, q3, fun c j hj => by rw [q4 c j hj, p4 c j (by omega)], by rw [q5, p5]⟩
theorem all_t {N : Nat → Nat → Int} {nW nP : Nat} {bo : Option Nat} {V : List Nat} (hN : NR N nW nP) (h6 : V.length ≤ 6) (hbo : ∀ b, bo = some b → b < 6) : ∀ (q fu : Nat) (T : Mem), q ≤ V.length → q < fu → OM N nW nP T → TW nW T V → gI T 56 44 = biI bo → (∀ p a k, q ≤ p → p ≤ V.length → a < 4 → k < 4 → okC bo N V nW p a k T) → ∃ T', g_X10_findErrors_L124 fu ((q : Int) - 1) T = some T' ∧ KH T T' ∧ (∀ p a k, p ≤ V.length → a < 4 → k < 4 → okC bo N V nW p a k T') ∧ gI T' 56 = gI T 56 := by
  intro q
  induction q with
  | zero =>
    intro fu T hq hf hM hT hb hd
    obtain ⟨fu, rfl⟩ : ∃ k, fu = k + 1 := ⟨fu - 1, by omega⟩
    rw [g_X10_findErrors_L124.eq_2, if_pos (by decide)]
    exact ⟨T, rfl, KH.rf T, fun p a k h1 h2 h3 => hd p a k (Nat.zero_le _) h1 h2 h3, rfl⟩
  | succ q ih =>
    intro fu T hq hf hM hT hb hd
    obtain ⟨fu, rfl⟩ : ∃ k, fu = k + 1 := ⟨fu - 1, by omega⟩
    have hq' : q < V.length := hq
    obtain ⟨T1, p1, p2, p3, p4, p5⟩ := tab_m (K := fun S12 => g_X10_findErrors_L124 fu ((q : Int) - 1) S12) hN h6 hbo hq' 4 0 FU T rfl (by unfold FU; decide) hM hT hb (fun a' k' h1 h2 => hd (q + 1) a' k' (Nat.le_refl _) hq h1 h2) (fun a' k' h _ => absurd h (Nat.not_lt_zero a'))
    obtain ⟨T2, r1, r2, r3, r4⟩ := ih fu T1 (by omega) (by omega) (hM.h p2) (hT.h p2) (by rw [p5]; exact hb) (fun p a k h1 h2 h3 h4 => by
      by_cases e : p = q
      · rw [e]; exact p3 a k h3 h4
      · exact okC_k (hd p a k (by omega) h2 h3 h4) (fun c => p4 c _ (by omega)))
    rw [show ((0 : Nat) : Int) = 0 from rfl] at p1
    rw [g_X10_findErrors_L124.eq_2, show ((q + 1 : Nat) : Int) - 1 = (q : Int) by omega, if_neg (show ¬ (q : Int) < 0 by omega), w_p1 q (by omega), p1]
    try simp only []
    rw [r1]
    exact ⟨T2, rfl, p2.tr r2, r3, by rw [r4, p5]⟩
theorem end_step {nW n a k fu : Nat} {bo : Option Nat} {T : Mem} {K : Mem → Option Mem} (hn : gI T 56 32 = (n : Nat)) (h6 : n ≤ 6) (ha : a < 4) (hk : k < 4) : g_X10_findErrors_L14 K (biI bo) (a : Int) (fu + 1) (k : Int) T = g_X10_findErrors_L14 K (biI bo) (a : Int) fu ((k + 1 : Nat) : Int) (sI (sI (sI T 84 (16 * n + 4 * a + k) ((eNd bo k : Nat) : Int)) 85 (16 * n + 4 * a + k) ((eNd bo k : Nat) : Int)) 86 (16 * n + 4 * a + k) ((eNd bo k : Nat) : Int)) := by
  have ek : 16 * n + 4 * a + (2 * (k / 2) + k % 2) = 16 * n + 4 * a + k := by omega
  have ix : 16 * n + 4 * a + k < 112 := by omega
  have k3 : (k / 2 = 1) ∨ ¬ (k / 2 = 1) := Classical.em _
  have kk : k % 2 < 2 := by omega
  have j76 : ∀ (c : Int → Mem → Option Mem) (x : Int), g_X10_findErrors_J76 c (biI bo) (a : Int) (k : Int) ((16 * n + 4 * a + k : Nat) : Int) ((16 * n + 4 * a + k : Nat) : Int) x T = c ((k + 1 : Nat) : Int) (sI (sI (sI T 84 (16 * n + 4 * a + k) x) 85 (16 * n + 4 * a + k) x) 86 (16 * n + 4 * a + k) x) := by
    intro c x
    unfold g_X10_findErrors_J76
    rw [stk_c ix, bS, ldk_c ix, bS, gI_eq, stk_c ix, bS, ldk_c ix, bS, gI_ne (by decide), gI_eq, stk_c ix, bS, w32_a k (by omega)]
  have j58 : ∀ (c : Int → Mem → Option Mem), g_X10_findErrors_J58 c (biI bo) (a : Int) (k : Int) ((16 * n + 4 * a + k : Nat) : Int) 0 T = c ((k + 1 : Nat) : Int) (sI (sI (sI T 84 (16 * n + 4 * a + k) 0) 85 (16 * n + 4 * a + k) 0) 86 (16 * n + 4 * a + k) 0) ∧ g_X10_findErrors_J58 c (biI bo) (a : Int) (k : Int) ((16 * n + 4 * a + k : Nat) : Int) 1 T = c ((k + 1 : Nat) : Int) (sI (sI (sI T 84 (16 * n + 4 * a + k) 1) 85 (16 * n + 4 * a + k) 1) 86 (16 * n + 4 * a + k) 1) := by
    intro c
    unfold g_X10_findErrors_J58
    rw [i00, i10, j76, j76]
    exact ⟨rfl, rfl⟩
  have nk4 : ¬ (4 : Int) ≤ (k : Int) := by omega
  have e5 : ((k / 2 : Nat) : Int) = 1 ↔ k / 2 = 1 := by omega
  have e6 : ((k % 2 : Nat) : Int) = 1 ↔ k % 2 = 1 := by omega
  have eb : biI bo < 0 ↔ bo = none := by
    cases bo with
    | none => exact ⟨fun _ => rfl, fun _ => by decide⟩
    | some b => exact ⟨fun h => by have h : (b : Int) < 0 := h; omega, fun h => by cases h⟩
  rw [g_X10_findErrors_L14.eq_2, if_neg nk4, hn, (kd2 k hk).1, (kd2 k hk).2, errAt_v h6 ha (by omega) kk, ek]
  simp only [ap]
  unfold g_X10_findErrors_J53 g_X10_findErrors_J57
  rw [(j58 _).1, (j58 _).2]
  unfold eNd
  by_cases c1 : k / 2 = 1
  · rw [if_pos (e5.mpr c1)]
    by_cases c2 : bo = none
    · rw [if_pos (eb.mpr c2), if_pos ⟨c1, Or.inl c2⟩]
      rfl
    · rw [if_neg (fun q => c2 (eb.mp q))]
      by_cases c3 : k % 2 = 1
      · rw [if_pos (e6.mpr c3), if_pos ⟨c1, Or.inr c3⟩]
        rfl
      · rw [if_neg (fun q => c3 (e6.mp q)), if_neg (fun q => q.2.elim c2 c3)]
        rfl
  · rw [if_neg (fun q => c1 (e5.mp q)), if_neg (fun q => c1 q.1)]
    rfl
theorem okE {N : Nat → Nat → Int} {nW a k : Nat} {bo : Option Nat} {V : List Nat} {T : Mem} : okC bo N V nW V.length a k (sI (sI (sI T 84 (16 * V.length + 4 * a + k) ((eNd bo k : Nat) : Int)) 85 (16 * V.length + 4 * a + k) ((eNd bo k : Nat) : Int)) 86 (16 * V.length + 4 * a + k) ((eNd bo k : Nat) : Int)) := by
  unfold okC
  rw [Nat.sub_self]
  exact ⟨by rw [gI_ne (by decide), gI_ne (by decide), gI_eq]; rfl, by rw [gI_ne (by decide), gI_eq]; rfl, by rw [gI_eq]; rfl⟩
theorem erow_m {N : Nat → Nat → Int} {nW a : Nat} {bo : Option Nat} {V : List Nat} {K : Mem → Option Mem} (h6 : V.length ≤ 6) (ha : a < 4) : ∀ (r k fu : Nat) (T : Mem), k + r = 4 → r < fu → gI T 56 32 = (V.length : Nat) → (∀ k', k' < k → okC bo N V nW V.length a k' T) → ∃ T', g_X10_findErrors_L14 K (biI bo) (a : Int) fu (k : Int) T = K T' ∧ KH T T' ∧ (∀ k', k' < 4 → okC bo N V nW V.length a k' T') ∧ (∀ c j, (j < 16 * V.length + 4 * a ∨ 16 * V.length + 4 * a + 4 ≤ j) → gI T' c j = gI T c j) ∧ gI T' 56 = gI T 56 := by
  intro r
  induction r with
  | zero =>
    intro k fu T hk hf hn hd
    obtain ⟨fu, rfl⟩ : ∃ k, fu = k + 1 := ⟨fu - 1, by omega⟩
    have hk : k = 4 := hk
    rw [g_X10_findErrors_L14.eq_2, if_pos (by omega)]
    exact ⟨T, rfl, KH.rf T, fun k' h => hd k' (by omega), fun _ _ _ => rfl, rfl⟩
  | succ r ih =>
    intro k fu T hk hf hn hd
    obtain ⟨fu, rfl⟩ : ∃ k, fu = k + 1 := ⟨fu - 1, by omega⟩
    have hk4 : k < 4 := by omega
    rw [end_step (nW := nW) hn h6 ha hk4]
    have e56 : gI (sI (sI (sI T 84 (16 * V.length + 4 * a + k) ((eNd bo k : Nat) : Int)) 85 (16 * V.length + 4 * a + k) ((eNd bo k : Nat) : Int)) 86 (16 * V.length + 4 * a + k) ((eNd bo k : Nat) : Int)) 56 = gI T 56 := by rw [gI_ne (by decide), gI_ne (by decide), gI_ne (by decide)]
    have ej : ∀ c j, j ≠ 16 * V.length + 4 * a + k → gI (sI (sI (sI T 84 (16 * V.length + 4 * a + k) ((eNd bo k : Nat) : Int)) 85 (16 * V.length + 4 * a + k) ((eNd bo k : Nat) : Int)) 86 (16 * V.length + 4 * a + k) ((eNd bo k : Nat) : Int)) c j = gI T c j := fun c j hj => by rw [gI_k hj, gI_k hj, gI_k hj]
    have ec : ∀ c, c ≠ 84 → c ≠ 85 → c ≠ 86 → gI (sI (sI (sI T 84 (16 * V.length + 4 * a + k) ((eNd bo k : Nat) : Int)) 85 (16 * V.length + 4 * a + k) ((eNd bo k : Nat) : Int)) 86 (16 * V.length + 4 * a + k) ((eNd bo k : Nat) : Int)) c = gI T c := fun c h1 h2 h3 => by rw [gI_ne h3, gI_ne h2, gI_ne h1]
    have eo := okE (N := N) (nW := nW) (a := a) (k := k) (bo := bo) (V := V) (T := T)
    generalize sI (sI (sI T 84 (16 * V.length + 4 * a + k) ((eNd bo k : Nat) : Int)) 85 (16 * V.length + 4 * a + k) ((eNd bo k : Nat) : Int)) 86 (16 * V.length + 4 * a + k) ((eNd bo k : Nat) : Int) = T1 at *
    obtain ⟨T2, q1, q2, q3, q4, q5⟩ := ih (k + 1) fu T1 (by omega) (by omega) (by rw [e56]; exact hn) (fun k' h => by
      by_cases e : k' = k
      · rw [e]; exact eo
      · exact okC_k (hd k' (by omega)) (fun c => ej c _ (by omega)))
    have kh : KH T T1 := ⟨fun c _ h2 h3 h4 => ec c h2 h3 h4, fun j _ => by rw [e56]⟩
    exact ⟨T2, q1, kh.tr q2, q3, fun c j hj => by rw [q4 c j hj, ej c j (by omega)], by rw [q5, e56]⟩
theorem etab_m {N : Nat → Nat → Int} {nW : Nat} {bo : Option Nat} {V : List Nat} {K : Mem → Option Mem} (h6 : V.length ≤ 6) : ∀ (r a fu : Nat) (T : Mem), a + r = 4 → r < fu → gI T 56 32 = (V.length : Nat) → (∀ a' k', a' < a → k' < 4 → okC bo N V nW V.length a' k' T) → ∃ T', g_X10_findErrors_L7 K (biI bo) fu (a : Int) T = K T' ∧ KH T T' ∧ (∀ a' k', a' < 4 → k' < 4 → okC bo N V nW V.length a' k' T') ∧ gI T' 56 = gI T 56 := by
  intro r
  induction r with
  | zero =>
    intro a fu T hk hf hn hd
    obtain ⟨fu, rfl⟩ : ∃ k, fu = k + 1 := ⟨fu - 1, by omega⟩
    have hk : a = 4 := hk
    rw [g_X10_findErrors_L7.eq_2, if_pos (by omega)]
    exact ⟨T, rfl, KH.rf T, fun a' k' h1 h2 => hd a' k' (by omega) h2, rfl⟩
  | succ r ih =>
    intro a fu T hk hf hn hd
    obtain ⟨fu, rfl⟩ : ∃ k, fu = k + 1 := ⟨fu - 1, by omega⟩
    have ha4 : a < 4 := by omega
    obtain ⟨T1, p1, p2, p3, p4, p5⟩ := erow_m (N := N) (nW := nW) (bo := bo) (V := V) (K := fun S8 => g_X10_findErrors_L7 K (biI bo) fu ((a + 1 : Nat) : Int) S8) h6 ha4 4 0 FU T rfl (by unfold FU; decide) hn (fun k' h => absurd h (Nat.not_lt_zero k'))
    obtain ⟨T2, q1, q2, q3, q5⟩ := ih (a + 1) fu T1 (by omega) (by omega) (by rw [p5]; exact hn) (fun a' k' h1 h2 => by
      by_cases e : a' = a
      · rw [e]; exact p3 k' h2
      · exact okC_k (hd a' k' (by omega) h2) (fun c => p4 c _ (by omega)))
    rw [show ((0 : Nat) : Int) = 0 from rfl] at p1
    rw [g_X10_findErrors_L7.eq_2, if_neg (show ¬ (4 : Int) ≤ (a : Int) by omega), w32_a a (by omega), p1]
    try simp only []
    rw [q1]
    exact ⟨T2, rfl, p2.tr q2, q3, by rw [q5, p5]⟩
/-- the reference's weighing, for a bit or none -/
theorem find_m {N : Nat → Nat → Int} {nW nP : Nat} {bo : Option Nat} {V : List Nat} {T : Mem} (hN : NR N nW nP) (hM : OM N nW nP T) (h6 : V.length ≤ 6) (hT : TW nW T V) (hbo : ∀ b, bo = some b → b < 6) : ∃ T', g_X10_findErrors (biI bo) T = some T' ∧ KH T T' ∧ gI T' 56 44 = biI bo ∧ ∀ p a k, p ≤ V.length → a < 4 → k < 4 → okC bo N V nW p a k T' := by
  have k0 : KH T (sI T 56 44 (biI bo)) := ⟨fun c h1 _ _ _ => gI_ne h1, fun k hk => gI_ek hk⟩
  have n32 : gI (sI T 56 44 (biI bo)) 56 32 = (V.length : Nat) := by rw [gI_ek (by decide)]; exact hT.2.1
  obtain ⟨T1, p1, p2, p3, p4⟩ := etab_m (N := N) (nW := nW) (bo := bo) (V := V) (K := fun S9 => g_X10_findErrors_L124 FU (w32 ((gI S9 56 32) - 1)) S9) h6 4 0 FU (sI T 56 44 (biI bo)) rfl (by unfold FU; decide) n32 (fun a' k' h _ => absurd h (Nat.not_lt_zero a'))
  have kt := k0.tr p2
  have b44 : gI T1 56 44 = biI bo := by rw [p4, gI_eq]
  obtain ⟨T2, q1, q2, q3, q4⟩ := all_t hN h6 hbo V.length FU T1 (Nat.le_refl _) (Nat.lt_of_le_of_lt h6 (by unfold FU; decide)) (hM.h kt) (hT.h kt) b44 (fun p a k h1 h2 h3 h4 => by rw [show p = V.length by omega]; exact p3 a k h3 h4)
  have m32 : gI T1 56 32 = (V.length : Nat) := by rw [p4]; exact n32
  rw [show ((0 : Nat) : Int) = 0 from rfl] at p1
  refine ⟨T2, ?_, kt.tr q2, by rw [q4]; exact b44, q3⟩
  unfold g_X10_findErrors
  simp only [ap]
  rw [p1]
  try simp only []
  rw [m32, w_s1 V.length (by omega), q1]
