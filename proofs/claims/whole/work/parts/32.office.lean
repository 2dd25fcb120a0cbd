/-! THE OFFICE'S CALLS -/
theorem nu_set {S : Mem} {n w w' i : Nat} {v : Int} (hw : w < 10) (hw' : w' < 10) : nu (setO S n w v) w' i = if w' = w ∧ i = n then v else nu S w' i := by
  unfold nu setO
  rw [gI_ne (by omega), gI_sI]
  by_cases q : w' = w ∧ i = n
  · rw [if_pos q, if_pos ⟨by omega, q.2⟩]
  · rw [if_neg q, if_neg (fun z => q ⟨by omega, z.2⟩)]
theorem setO_ne {S : Mem} {n w c : Nat} {v : Int} (hw : w < 10) (hc : c < 1 ∨ c = 2 ∨ 12 < c) : gI (setO S n w v) c = gI S c := by
  unfold setO
  rw [gI_ne (by omega), gI_ne (by omega)]
theorem setO_row {S : Mem} {n w w' : Nat} {v : Int} (hw' : w' < 10) (h : w' ≠ w) : gI (setO S n w v) (3 + w') = gI S (3 + w') := by
  unfold setO
  rw [gI_ne (by omega), gI_ne (by omega)]
theorem setO_1 {S : Mem} {n w k : Nat} {v : Int} (hk : k ≠ 3) : gI (setO S n w v) 1 k = gI S 1 k := by
  unfold setO
  rw [gI_ek hk, gI_ne (by omega)]
theorem setO_age {S : Mem} {n w : Nat} {v : Int} : gI (setO S n w v) 1 3 = w32 (gI S 1 3 + if w ≤ 2 ∨ w = 7 then 1 else 0) := by
  unfold setO
  rw [gI_eq]
theorem setM_ne {S : Mem} {n w c : Nat} {v : Int} (hw : w < 10) (hc : c < 57 ∨ 64 < c) : gI (setM S n w v) c = gI S c := by
  unfold setM
  split
  · rw [gI_ne (by omega)]
  · rw [gI_ne (by omega)]
theorem mu_set {S : Mem} {nW nP n w w' i : Nat} {v : Int} (hw : w < 10) (hn : n < lim nW nP w) (hw' : w' < 10) (hi : i < lim nW nP w') : mu (setM S n w v) w' i = if w' = w ∧ i = n then v else mu S w' i := by
  unfold mu setM
  by_cases q1 : w < 7 <;> by_cases q2 : w' < 7
  · rw [if_pos q1, if_pos q2, if_pos q2, gI_sI]
    by_cases q : w' = w ∧ i = n
    · rw [if_pos q, if_pos ⟨by omega, q.2⟩]
    · rw [if_neg q, if_neg (fun z => q ⟨by omega, z.2⟩)]
  · rw [if_pos q1, if_neg q2, if_neg q2, gI_ne (by omega), if_neg (by omega)]
  · rw [if_neg q1, if_pos q2, if_pos q2, gI_ne (by omega), if_neg (by omega)]
  · rw [if_neg q1, if_neg q2, if_neg q2, gI_sI]
    have a1 : n < 1 := by unfold lim at hn; rw [if_neg (by omega), if_neg (by omega)] at hn; exact hn
    have a2 : i < 1 := by unfold lim at hi; rw [if_neg (by omega), if_neg (by omega)] at hi; exact hi
    by_cases q : w' = w
    · rw [if_pos ⟨rfl, by omega⟩, if_pos ⟨q, by omega⟩]
    · rw [if_neg (fun z => q (by omega)), if_neg (fun z => q z.1)]
theorem RO_set {nW nP n w : Nat} {Sc Sm : Mem} {v : Int} (h : RO nW nP Sc Sm) (hw : w < 10) (hn : n < lim nW nP w) (hv : lo w ≤ v ∧ v ≤ hi nW w) : RO nW nP (setO Sc n w v) (setM Sm n w v) := by
  obtain ⟨hb, h1, h2, h3, h4⟩ := h
  refine ⟨hb, ⟨by rw [setO_1 (by decide)]; exact h1.1, by rw [setO_1 (by decide)]; exact h1.2⟩, by rw [setM_ne hw (by omega)]; exact h2, fun w' i hw' hi => ?_, fun i hi => ?_⟩
  · rw [nu_set hw hw', mu_set hw hn hw' hi]
    by_cases q : w' = w ∧ i = n
    · rw [if_pos q, if_pos q, q.1]; exact ⟨rfl, hv⟩
    · rw [if_neg q, if_neg q]; exact h3 w' i hw' hi
  · rw [nu_set hw (by decide), if_neg (fun q => ?_)]
    · exact h4 i hi
    · obtain ⟨q1, q2⟩ := q
      subst q1
      have : lim nW nP 6 = nP := rfl
      omega
theorem Shp_set {S : Mem} {n w : Nat} {v : Int} (h : Shp S) : Shp (setO S n w v) := Shp_of h rfl rfl
theorem RY_set {b nW n w : Nat} {law : Option (List Lin)} {S : Mem} {v : Int} (h : RY b nW law S) (hw : w < 10) (hb : b < 1000000) : RY (b + 1) nW law (setO S n w v) := by
  obtain ⟨h0, ⟨h1, h2, h3⟩, h4⟩ := h
  have ea : gI (setO S n w v) 1 3 = gI S 1 3 + if w ≤ 2 ∨ w = 7 then 1 else 0 := by
    rw [setO_age]
    split
    · exact w32s (by omega) (by omega)
    · exact w32s (by omega) (by omega)
  have e34 : gI (setO S n w v) 34 = gI S 34 := setO_ne hw (by omega)
  refine ⟨h0, ?_, fun q => ?_⟩
  · rw [ea, e34]
    refine ⟨h1, ?_, ?_⟩
    · split <;> omega
    · split <;> omega
  · rw [ea, e34] at q
    by_cases z : w ≤ 2 ∨ w = 7
    · rw [if_pos z] at q
      omega
    · rw [if_neg z, Int.add_zero] at q
      rw [setO_ne hw (by omega)]
      have e : ∀ w', w' ≤ 2 ∨ w' = 7 → ∀ i, nu (setO S n w v) w' i = nu S w' i := fun w' hw' i => by
        unfold nu
        rw [setO_row (by omega) (by omega)]
      rw [show soV (setO S n w v) = soV S from funext fun x => by unfold soV; rw [e 2 (by omega)], show seV (setO S n w v) = seV S from funext fun x => by unfold seV; rw [e 1 (by omega)], show prV law (setO S n w v) = prV law S from funext fun x => funext fun a => funext fun p => by unfold prV; rw [e 0 (by omega), e 2 (by omega), e 7 (by omega)]]
      exact h4 q
theorem RY_up {b b' nW : Nat} {law : Option (List Lin)} {S : Mem} (h : RY b nW law S) (hb : b ≤ b') : RY b' nW law S := ⟨h.1, ⟨h.2.1.1, h.2.1.2.1, by have := h.2.1.2.2; omega⟩, h.2.2⟩
theorem Inv_up {b b' nW nP nB : Nat} {law : Option (List Lin)} {Sc Sm : Mem} (h : Inv b nW nP nB law Sc Sm) (hb : b ≤ b') : Inv b' nW nP nB law Sc Sm := by
  obtain ⟨g0, g1, g2, g3, g4, g5, g6, g7, g8, g9⟩ := h
  exact ⟨g0, g1, g2, g3, g4, g5, g6, g7, RY_up g8 hb, g9⟩
theorem Inv_set {b nW nP nB n w : Nat} {law : Option (List Lin)} {Sc Sm : Mem} {v : Int} (h : Inv b nW nP nB law Sc Sm) (hw : w < 10) (hn : n < lim nW nP w) (hv : lo w ≤ v ∧ v ≤ hi nW w) (hb : b < 1000000) : Inv (b + 1) nW nP nB law (setO Sc n w v) (setM Sm n w v) := by
  obtain ⟨g0, g1, g2, g3, g4, g5, g6, g7, g8, g9⟩ := h
  refine ⟨Shp_set g0, RO_set g1 hw hn hv, RC_of g2 (fun c h => setO_ne hw (by omega)) (fun c h => setM_ne hw (by omega)) ?_ ?_, RT_of g3 ?_ (setO_ne hw (by omega)) ?_ (setM_ne hw (by omega)), RL_of g4 ?_ (setO_ne hw (by omega)) (setO_ne hw (by omega)) rfl ?_ (setM_ne hw (by omega)) (setM_ne hw (by omega)) (setM_ne hw (by omega)) (setM_ne hw (by omega)) (setM_ne hw (by omega)), RS_of g5 (fun c h => setO_ne hw (by omega)) (fun c h => setM_ne hw (by omega)), RB_of g6 ?_ ?_ (setO_ne hw (by omega)) (setO_ne hw (by omega)) ?_ ?_ (setM_ne hw (by omega)) (setM_ne hw (by omega)), RD_of g7 (fun c h => setO_ne hw (by omega)) (fun c h => setM_ne hw (by omega)) ?_ ?_ ?_, RY_set g8 hw hb, RH_of g9 rfl (setO_ne hw (by omega))⟩
  all_goals first | rw [setM_ne hw (by omega)] | rw [setO_ne hw (by omega)]
theorem ldc_n {q k : Nat} (h : k < (sfC q).2.2.length) : ldc q (k : Int) = some ((sfC q).2.2.getD k 0) := by
  unfold ldc
  rw [if_pos ⟨by omega, by omega⟩]
  rfl
theorem btw (v a b : Int) : g_X9_between v a b = if a ≤ v ∧ v ≤ b then 1 else 0 := by
  unfold g_X9_between
  (repeat' split) <;> first | rfl | omega
theorem inn (v a b : Int) : g_X10_in v a b = if a ≤ v ∧ v ≤ b then 1 else 0 := by
  unfold g_X10_in
  (repeat' split) <;> first | rfl | omega
theorem b01 (c : Prop) [Decidable c] : (if c then (1 : Int) else 0) = 0 ∨ (if c then (1 : Int) else 0) = 1 := by
  by_cases h : c
  · rw [if_pos h]; exact Or.inr rfl
  · rw [if_neg h]; exact Or.inl rfl
theorem chk_b (c : Prop) [Decidable c] : chk ((if c then (1 : Int) else 0) = 0 ∨ (if c then (1 : Int) else 0) = 1) (some (if c then (1 : Int) else 0)) = some (if c then (1 : Int) else 0) := chk_t (b01 c)
theorem fits_v {S : Mem} {nW : Nat} (hb : nW ≤ 12) (hW : gI S 1 1 = nW) (v : Int) : ∀ w : Nat, w < 10 → g_X5_fits (w : Int) v S = some (if lo w ≤ v ∧ v ≤ hi nW w then 1 else 0) := by
  have e4 : w32 ((nW : Int) - 1) = (nW : Int) - 1 := w32s (by omega) (by omega)
  apply c10 <;> unfold g_X5_fits <;> rw [hW, e4, if_neg (by decide), if_pos (by decide), ldc_n (by decide), bS]
  all_goals first
    | (rw [if_neg (by decide), ldc_n (by decide), bS, btw, chk_b]; rfl)
    | (rw [if_pos (by decide), btw, chk_b]; rfl)
theorem fits_b {S : Mem} {w v : Int} (h : ¬ (0 ≤ w ∧ w < 10)) : g_X5_fits w v S = some 0 := by
  unfold g_X5_fits
  (repeat' split) <;> first | rfl | omega
theorem isOne_v {S : Mem} {nW nP : Nat} (hb : nW ≤ 12 ∧ nP ≤ 6) (hW : gI S 56 1 = nW) (hP : gI S 56 7 = nP) (n w : Int) : g_X10_isOne n w S = some (if 0 ≤ n ∧ 0 ≤ w ∧ w < 10 ∧ n < lim nW nP w.toNat then 1 else 0) := by
  have e1 : w32 ((nW : Int) - 1) = (nW : Int) - 1 := w32s (by omega) (by omega)
  have e2 : w32 ((nP : Int) - 1) = (nP : Int) - 1 := w32s (by omega) (by omega)
  unfold g_X10_isOne g_X10_isWord g_X10_isPerson
  rw [hW, hP, e1, e2]
  simp only [inn, chk_b, bS]
  by_cases h1 : 0 ≤ w ∧ w ≤ 4
  · rw [if_pos h1, if_neg (by decide)]
    unfold lim
    rw [if_pos (show w.toNat ≤ 4 by omega)]
    congr 1
    (repeat' split) <;> first | rfl | omega
  · rw [if_neg h1, if_pos rfl]
    by_cases h2 : 5 ≤ w ∧ w ≤ 6
    · rw [if_pos h2, if_neg (by decide)]
      unfold lim
      rw [if_neg (show ¬ w.toNat ≤ 4 by omega), if_pos (show w.toNat ≤ 6 by omega)]
      congr 1
      (repeat' split) <;> first | rfl | omega
    · rw [if_neg h2, if_pos rfl]
      by_cases h3 : 7 ≤ w ∧ w ≤ 9
      · rw [if_pos h3, if_neg (by decide)]
        unfold lim
        rw [if_neg (show ¬ w.toNat ≤ 4 by omega), if_neg (show ¬ w.toNat ≤ 6 by omega)]
        by_cases h4 : n = 0
        · rw [if_pos h4, if_pos (by omega)]
        · rw [if_neg h4, if_neg (by omega)]
      · rw [if_neg h3, if_pos rfl, if_neg (by omega)]
theorem may_v {S : Mem} {nW : Nat} (hb : nW ≤ 12) (hW : gI S 56 1 = nW) (v : Int) : ∀ w : Nat, w < 10 → g_X10_mayHave (w : Int) v S = some (if lo w ≤ v ∧ v ≤ hi nW w then 1 else 0) := by
  have e1 : w32 ((nW : Int) - 1) = (nW : Int) - 1 := w32s (by omega) (by omega)
  apply c10 <;> unfold g_X10_mayHave g_X10_isWord <;> rw [hW, e1] <;> simp only [inn, chk_b, bS] <;> simp <;> rfl
