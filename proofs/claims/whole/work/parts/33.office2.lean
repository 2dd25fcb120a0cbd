/-! A WORD, ONE, A NUMBER THAT CHANGES -/
theorem RY_new {b b' nW nW' : Nat} {law law' : Option (List Lin)} {S S' : Mem} (h : RY b nW law S) (e : gI S' 34 5 = gI S 34 5) (hr : gR S' 34 = gR S 34) (ha : gI S 1 3 < gI S' 1 3) (hb : gI S' 1 3 ≤ b') : RY b' nW' law' S' := by
  obtain ⟨h0, ⟨h1, h2, h3⟩, h4⟩ := h
  refine ⟨by rw [hr]; exact h0, by rw [e]; exact ⟨h1, by omega, hb⟩, fun q => ?_⟩
  rw [e] at q
  omega
theorem lim_up {nW nP nW' nP' w : Nat} (h1 : nW ≤ nW') (h2 : nP ≤ nP') : lim nW nP w ≤ lim nW' nP' w := by
  unfold lim
  split
  · exact h1
  · split
    · exact h2
    · exact Nat.le_refl _
theorem hi_up {nW nW' : Nat} (h : nW ≤ nW') (w : Nat) : hi nW w ≤ hi nW' w := by
  unfold hi
  split <;> omega
theorem RC_up {nW nP nW' nP' : Nat} {Sc Sm : Mem} (h : RC nW nP Sc Sm) (h1 : nW ≤ nW') (h2 : nP ≤ nP') : RC nW' nP' Sc Sm := by
  obtain ⟨d, z, a1, a2, a3, a4, a5, a6, a7⟩ := h
  refine ⟨d, z, a1, a2, a3, a4, a5, a6, fun i hi => ?_⟩
  obtain ⟨n, w, b1, b2, b3, b4, b5, b6, b7, b8, b9, b10, b11⟩ := a7 i hi
  have hh := hi_up h1 w
  exact ⟨n, w, b1, Nat.lt_of_lt_of_le b2 (lim_up h1 h2), b3, b4, b5, b6, b7, b8, ⟨b9.1, by omega⟩, b10, by omega⟩
theorem RD_up {nP nP' : Nat} {Sc Sm : Mem} (h : RD nP Sc Sm) (h2 : nP ≤ nP') : RD nP' Sc Sm := by
  obtain ⟨h0, h⟩ := h
  refine ⟨h0, h.imp id ?_⟩
  rintro ⟨a1, a2, p, a3, a4⟩
  exact ⟨a1, a2, p, by omega, a4⟩
/-- what a new word holds -/
def nwd (nW : Nat) (c s k : Int) (w : Nat) : Int := ([c, s, k, 5, (nW : Int)] : List Int).getD w 0
def awC (S : Mem) (nW : Nat) (c s k : Int) : Mem := setO (setO (setO (setO (setO (sI S 1 1 (w32 (gI S 1 1 + 1))) nW 0 c) nW 1 s) nW 2 k) nW 3 5) nW 4 nW
def awM (S : Mem) (nW : Nat) (c s k : Int) : Mem := sI (setM (setM (setM (setM (setM S nW 0 c) nW 1 s) nW 2 k) nW 3 5) nW 4 nW) 56 1 (w32 (gI S 56 1 + 1))
theorem nu_1 {S : Mem} {k : Nat} {v : Int} {w i : Nat} : nu (sI S 1 k v) w i = nu S w i := by
  unfold nu
  rw [gI_ne (by omega)]
theorem mu_56 {S : Mem} {k : Nat} {v : Int} {w i : Nat} (hw : w < 10) : mu (sI S 56 k v) w i = mu S w i := by
  unfold mu
  rw [gI_ne (by omega), gI_ne (by omega)]
theorem nu_aw {S : Mem} {nW : Nat} {c s k : Int} {w i : Nat} (hw : w < 10) : nu (awC S nW c s k) w i = if w ≤ 4 ∧ i = nW then nwd nW c s k w else nu S w i := by
  unfold awC
  rw [nu_set (by decide) hw, nu_set (by decide) hw, nu_set (by decide) hw, nu_set (by decide) hw, nu_set (by decide) hw, nu_1]
  by_cases hi : i = nW
  · subst hi
    revert hw
    revert w
    apply c10 <;> simp [nwd]
  · simp [hi]
theorem mu_aw {S : Mem} {nW nP : Nat} {c s k : Int} {w i : Nat} (hw : w < 10) (hi : i < lim (nW + 1) nP w) : mu (awM S nW c s k) w i = if w ≤ 4 ∧ i = nW then nwd nW c s k w else mu S w i := by
  unfold awM
  have hl : ∀ w, w ≤ 4 → nW < lim (nW + 1) nP w := fun w h => by unfold lim; rw [if_pos h]; omega
  rw [mu_56 hw, mu_set (by decide) (hl 4 (by decide)) hw hi, mu_set (by decide) (hl 3 (by decide)) hw hi, mu_set (by decide) (hl 2 (by decide)) hw hi, mu_set (by decide) (hl 1 (by decide)) hw hi, mu_set (by decide) (hl 0 (by decide)) hw hi]
  by_cases hi : i = nW
  · subst hi
    clear hi
    revert hw
    revert w
    apply c10 <;> simp [nwd]
  · simp [hi]
theorem awC_ne {S : Mem} {nW : Nat} {c s k : Int} {q : Nat} (hq : q < 1 ∨ q = 2 ∨ 12 < q) : gI (awC S nW c s k) q = gI S q := by
  unfold awC
  rw [setO_ne (by decide) hq, setO_ne (by decide) hq, setO_ne (by decide) hq, setO_ne (by decide) hq, setO_ne (by decide) hq, gI_ne (by omega)]
theorem awM_ne {S : Mem} {nW : Nat} {c s k : Int} {q : Nat} (hq : q < 56 ∨ 64 < q) : gI (awM S nW c s k) q = gI S q := by
  unfold awM
  rw [gI_ne (by omega), setM_ne (by decide) (by omega), setM_ne (by decide) (by omega), setM_ne (by decide) (by omega), setM_ne (by decide) (by omega), setM_ne (by decide) (by omega)]
theorem awM_56 {S : Mem} {nW : Nat} {c s k : Int} {q : Nat} (hq : q ≠ 1) : gI (awM S nW c s k) 56 q = gI S 56 q := by
  unfold awM
  rw [gI_ek hq, setM_ne (by decide) (by omega), setM_ne (by decide) (by omega), setM_ne (by decide) (by omega), setM_ne (by decide) (by omega), setM_ne (by decide) (by omega)]
theorem awC_1 {S : Mem} {nW : Nat} {c s k : Int} (hW : gI S 1 1 = nW) (hb : nW ≤ 12) : gI (awC S nW c s k) 1 1 = (nW : Int) + 1 ∧ gI (awC S nW c s k) 1 2 = gI S 1 2 := by
  unfold awC
  refine ⟨?_, ?_⟩
  · rw [setO_1 (by decide), setO_1 (by decide), setO_1 (by decide), setO_1 (by decide), setO_1 (by decide), gI_eq, hW, w32s (by omega) (by omega)]
  · rw [setO_1 (by decide), setO_1 (by decide), setO_1 (by decide), setO_1 (by decide), setO_1 (by decide), gI_ek (by decide)]
theorem awC_age {S : Mem} {nW : Nat} {c s k : Int} (h : -1 ≤ gI S 1 3 ∧ gI S 1 3 ≤ 1000000) : gI (awC S nW c s k) 1 3 = gI S 1 3 + 3 := by
  unfold awC
  rw [setO_age, setO_age, setO_age, setO_age, setO_age, gI_ek (by decide)]
  simp only [show ((4 : Nat) ≤ 2 ∨ (4 : Nat) = 7) = False from by simp, show ((3 : Nat) ≤ 2 ∨ (3 : Nat) = 7) = False from by simp, show ((2 : Nat) ≤ 2 ∨ (2 : Nat) = 7) = True from by simp, show ((1 : Nat) ≤ 2 ∨ (1 : Nat) = 7) = True from by simp, show ((0 : Nat) ≤ 2 ∨ (0 : Nat) = 7) = True from by simp, if_true, if_false]
  unfold w32
  omega
theorem addW_c {S : Mem} {nW nP : Nat} (c s k : Int) (hS : Shp S) (hb : nW ≤ 12 ∧ nP ≤ 6) (hW : gI S 1 1 = nW) (hP : gI S 1 2 = nP) (hlt : nW < 12) : g_X5_addWord c s k S = some ((nW : Int), awC S nW c s k) := by
  unfold g_X5_addWord
  rw [hW, if_pos (by omega)]
  simp only [ap]
  have e1 : w32 ((nW : Int) + 1) = ((nW + 1 : Nat) : Int) := by rw [w32s (by omega) (by omega)]; omega
  have hl : ∀ w, w ≤ 4 → nW < lim (nW + 1) nP w := fun w h => by unfold lim; rw [if_pos h]; omega
  have hb' : nW + 1 ≤ 12 ∧ nP ≤ 6 := ⟨hlt, hb.2⟩
  have key : ∀ X : Mem, Shp X → gI X 1 1 = ((nW + 1 : Nat) : Int) → gI X 1 2 = nP → ∀ (w : Nat) (v : Int), w ≤ 4 → g_X5_set (nW : Int) (w : Int) v X = some (setO X nW w v) ∧ Shp (setO X nW w v) ∧ gI (setO X nW w v) 1 1 = ((nW + 1 : Nat) : Int) ∧ gI (setO X nW w v) 1 2 = nP := fun X q1 q2 q3 w v hw => ⟨set_n q1 hb' q2 q3 v (by omega) (hl w hw), Shp_set q1, by rw [setO_1 (by decide)]; exact q2, by rw [setO_1 (by decide)]; exact q3⟩
  have h0 : Shp (sI S 1 1 (w32 ((nW : Int) + 1))) := Shp_of hS rfl rfl
  have z1 : gI (sI S 1 1 (w32 ((nW : Int) + 1))) 1 1 = ((nW + 1 : Nat) : Int) := by rw [gI_eq, e1]
  have z2 : gI (sI S 1 1 (w32 ((nW : Int) + 1))) 1 2 = nP := by rw [gI_ek (by decide), hP]
  obtain ⟨a1, a2, a3, a4⟩ := key _ h0 z1 z2 0 c (by decide)
  obtain ⟨b1, b2, b3, b4⟩ := key _ a2 a3 a4 1 s (by decide)
  obtain ⟨c1, c2, c3, c4⟩ := key _ b2 b3 b4 2 k (by decide)
  obtain ⟨d1, d2, d3, d4⟩ := key _ c2 c3 c4 3 5 (by decide)
  obtain ⟨f1, -, -, -⟩ := key _ d2 d3 d4 4 nW (by decide)
  have q0 : ((0 : Nat) : Int) = 0 := rfl
  have q1 : ((1 : Nat) : Int) = 1 := rfl
  have q2 : ((2 : Nat) : Int) = 2 := rfl
  have q3 : ((3 : Nat) : Int) = 3 := rfl
  have q4 : ((4 : Nat) : Int) = 4 := rfl
  rw [q0] at a1
  rw [q1] at b1
  rw [q2] at c1
  rw [q3] at d1
  rw [q4] at f1
  rw [a1, bS, b1, bS, c1, bS, d1, bS, f1, bS]
  unfold awC
  rw [hW]
theorem addW_m {S : Mem} {nW : Nat} (c s k : Int) (hW : gI S 56 1 = nW) (hlt : nW < 12) : g_X10_addWord c s k S = some ((nW : Int), awM S nW c s k) := by
  unfold g_X10_addWord
  rw [hW, stk_c hlt, bS, gI_ne (by decide), hW, stk_c hlt, bS, gI_ne (by decide), gI_ne (by decide), hW, stk_c hlt, bS, gI_ne (by decide), gI_ne (by decide), gI_ne (by decide), hW, stk_c hlt, bS, gI_ne (by decide), gI_ne (by decide), gI_ne (by decide), gI_ne (by decide), hW, stk_c hlt, bS]
  simp only [ap]
  rw [gI_eq, gI_ne (by decide), gI_ne (by decide), gI_ne (by decide), gI_ne (by decide), gI_ne (by decide), hW]
  have e : w32 (w32 ((nW : Int) + 1) - 1) = nW := by unfold w32; omega
  rw [e]
  unfold awM
  rw [hW]
  rfl
theorem Inv_word {b nW nP nB : Nat} {law : Option (List Lin)} {Sc Sm : Mem} {c s k : Int} (h : Inv b nW nP nB law Sc Sm) (hlt : nW < 12) (hc : 1 ≤ c ∧ c ≤ 9) (hs : 0 ≤ s ∧ s ≤ 63) (hk : 0 ≤ k ∧ k ≤ 2) (hb : b < 900000) : Inv (b + 3) (nW + 1) nP nB law (awC Sc nW c s k) (awM Sm nW c s k) := by
  obtain ⟨g0, ⟨o1, o2, o3, o4, o5⟩, g2, g3, g4, g5, g6, g7, g8, g9⟩ := h
  have ag := awC_age (S := Sc) (nW := nW) (c := c) (s := s) (k := k) ⟨by have := g8.2.1; omega, by have := g8.2.1.2.2; omega⟩
  have w1 := awC_1 (S := Sc) (nW := nW) (c := c) (s := s) (k := k) o2.1 o1.1
  refine ⟨Shp_of g0 rfl rfl, ⟨⟨hlt, o1.2⟩, ⟨by rw [w1.1]; omega, by rw [w1.2]; exact o2.2⟩, ⟨?_, by rw [awM_56 (by decide)]; exact o3.2⟩, fun w i hw hi => ?_, fun i hi => ?_⟩, RC_up (RC_of g2 (fun q h => awC_ne (by omega)) (fun q h => awM_ne (by omega)) (awM_56 (by decide)) (awM_56 (by decide))) (Nat.le_succ _) (Nat.le_refl _), RT_of g3 ?_ (awC_ne (by omega)) (awM_56 (by decide)) (awM_ne (by omega)), RL_of g4 ?_ (awC_ne (by omega)) (awC_ne (by omega)) rfl (awM_56 (by decide)) (awM_ne (by omega)) (awM_ne (by omega)) (awM_ne (by omega)) (awM_ne (by omega)) (awM_ne (by omega)), RS_of g5 (fun q h => awC_ne (by omega)) (fun q h => awM_ne (by omega)), RB_of g6 ?_ ?_ (awC_ne (by omega)) (awC_ne (by omega)) (awM_56 (by decide)) (awM_56 (by decide)) (awM_ne (by omega)) (awM_ne (by omega)), RD_of g7 (fun q h => awC_ne (by omega)) (fun q h => awM_ne (by omega)) (awM_56 (by decide)) (awM_56 (by decide)) (awM_56 (by decide)), RY_new g8 ?_ rfl (by rw [ag]; omega) (by rw [ag]; have := g8.2.1.2.2; omega), RH_of g9 rfl (awC_ne (by omega))⟩
  · unfold awM
    rw [gI_eq, o3.1, w32s (by omega) (by omega)]
    omega
  · rw [nu_aw hw, mu_aw hw hi]
    by_cases q : w ≤ 4 ∧ i = nW
    · rw [if_pos q, if_pos q]
      refine ⟨rfl, ?_⟩
      obtain ⟨q1, -⟩ := q
      match w, q1 with
      | 0, _ => exact hc
      | 1, _ => exact hs
      | 2, _ => exact hk
      | 3, _ => exact ⟨show (1 : Int) ≤ 5 by decide, show (5 : Int) ≤ 9 by decide⟩
      | 4, _ => exact ⟨by show (0 : Int) ≤ (nW : Int); omega, by show (nW : Int) ≤ ((nW + 1 : Nat) : Int) - 1; omega⟩
    · rw [if_neg q, if_neg q]
      have hi' : i < lim nW nP w := by
        unfold lim at hi ⊢
        split at hi
        · next z => rw [if_pos z]; have : i ≠ nW := fun e => q ⟨z, e⟩; omega
        · next z =>
          rw [if_neg z]
          exact hi
      obtain ⟨u1, u2, u3⟩ := o4 w i hw hi'
      exact ⟨u1, u2, Int.le_trans u3 (hi_up (Nat.le_succ _) w)⟩
  · rw [nu_aw (by decide), if_neg (by omega)]
    exact o5 i hi
  all_goals rw [awC_ne (by omega)]
/-- the state, whatever its parts are -/
def IV (b : Nat) (Sc Sm : Mem) : Prop := ∃ (nW nP nB : Nat) (law : Option (List Lin)), Inv b nW nP nB law Sc Sm
theorem m_word {b : Nat} {Sc Sm : Mem} (h : IV b Sc Sm) (hb : b < 900000) (x y : Int) : ∃ r Sc' Sm', g_X9_word x y Sc = some (r, Sc') ∧ g_X10_word x y Sm = some (r, Sm') ∧ IV (b + 100) Sc' Sm' := by
  obtain ⟨nW, nP, nB, law, h⟩ := h
  obtain ⟨g0, ⟨o1, o2, o3, o4, o5⟩, -⟩ := id h
  have q0 : ((0 : Nat) : Int) = 0 := rfl
  have q1 : ((1 : Nat) : Int) = 1 := rfl
  have f0 := fits_v o1.1 o2.1 x 0 (by decide)
  have f1 := fits_v o1.1 o2.1 y 1 (by decide)
  rw [q0] at f0
  rw [q1] at f1
  unfold g_X9_word g_X10_word
  rw [f0, bS, inn]
  have l0 : lo 0 = 1 := rfl
  have h0 : hi nW 0 = 9 := rfl
  have l1 : lo 1 = 0 := rfl
  have h1 : hi nW 1 = 63 := rfl
  rw [l0, h0]
  by_cases c1 : 1 ≤ x ∧ x ≤ 9
  · rw [if_pos c1, if_neg (by decide), if_neg (by decide), f1, bS, inn, l1, h1]
    by_cases c2 : 0 ≤ y ∧ y ≤ 63
    · rw [if_pos c2, if_neg (by decide), if_neg (by decide), o3.1]
      by_cases c3 : nW < 12
      · rw [if_neg (by omega), addW_c x y 1 g0 o1 o2.1 o2.2 c3, addW_m x y 1 o3.1 c3]
        exact ⟨_, _, _, rfl, rfl, nW + 1, nP, nB, law, Inv_up (Inv_word h c3 c1 c2 (by decide) hb) (by omega)⟩
      · rw [if_pos (by omega)]
        unfold g_X5_addWord
        rw [o2.1, if_neg (by omega)]
        exact ⟨_, _, _, rfl, rfl, nW, nP, nB, law, Inv_up h (by omega)⟩
    · rw [if_neg c2, if_pos rfl, if_pos rfl]
      exact ⟨_, _, _, rfl, rfl, nW, nP, nB, law, Inv_up h (by omega)⟩
  · rw [if_neg c1, if_pos rfl, if_pos rfl]
    exact ⟨_, _, _, rfl, rfl, nW, nP, nB, law, Inv_up h (by omega)⟩
