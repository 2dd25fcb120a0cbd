/-! ONE; A NUMBER MENDED, UNDONE, DONE AGAIN; NIGHT -/
theorem bd2S {α β γ : Type} (a : α) (b : β) (f : α → β → Option γ) : bd2 (some (a, b)) f = f a b := rfl
theorem w32_pm {i : Int} (h1 : -1000000 ≤ i) (h2 : i ≤ 1000000) : w32 (w32 (i + 1) - 1) = i := by
  rw [w32s (i := i + 1) (by omega) (by omega), w32s (by omega) (by omega)]
  omega
def Sim (b : Nat) (gc gm : Option (Int × Mem)) : Prop := ∃ r Sc' Sm', gc = some (r, Sc') ∧ gm = some (r, Sm') ∧ IV b Sc' Sm'
theorem Sim.same {b b' : Nat} {r : Int} {Sc Sm : Mem} (h : IV b Sc Sm) (hb : b ≤ b') : Sim b' (some (r, Sc)) (some (r, Sm)) := by
  obtain ⟨nW, nP, nB, law, h⟩ := h
  exact ⟨_, _, _, rfl, rfl, nW, nP, nB, law, Inv_up h hb⟩
def apC (S : Mem) (nP : Nat) (v : Int) : Mem := setO (sI S 1 2 (w32 (gI S 1 2 + 1))) nP 5 v
def apM (S : Mem) (nP : Nat) (v : Int) : Mem := sI (setM (setM S nP 5 v) nP 6 0) 56 7 (w32 (gI S 56 7 + 1))
theorem m_person {b : Nat} {Sc Sm : Mem} (h : IV b Sc Sm) (hb : b < 900000) (x : Int) : Sim (b + 100) (g_X9_person x Sc) (g_X10_person x Sm) := by
  obtain ⟨nW, nP, nB, law, h⟩ := h
  have h9 := h
  obtain ⟨g0, ⟨o1, o2, o3, o4, o5⟩, g2, g3, g4, g5, g6, g7, g8, g9⟩ := h
  have f0 := fits_v o1.1 o2.1 x 5 (by decide)
  rw [show ((5 : Nat) : Int) = 5 from rfl, show lo 5 = 0 from rfl, show hi nW 5 = 999 from rfl] at f0
  unfold g_X9_person g_X10_person
  rw [f0, bS, inn]
  by_cases c1 : 0 ≤ x ∧ x ≤ 999
  · rw [if_pos c1, if_neg (by decide), if_neg (by decide), o3.2]
    unfold g_X5_addPerson
    rw [o2.2]
    by_cases c3 : nP < 6
    · rw [if_pos (by omega), if_neg (by omega)]
      simp only [ap]
      have e1 : w32 ((nP : Int) + 1) = ((nP + 1 : Nat) : Int) := by rw [w32s (by omega) (by omega)]; omega
      have hl : ∀ w, w = 5 ∨ w = 6 → nP < lim nW (nP + 1) w := fun w q => by rcases q with rfl | rfl <;> (show nP < nP + 1; omega)
      have s1 := set_n (S := sI Sc 1 2 (w32 ((nP : Int) + 1))) (nW := nW) (nP := nP + 1) (n := nP) (w := 5) (Shp_of g0 rfl rfl) ⟨o1.1, c3⟩ (by rw [gI_ek (by decide)]; exact o2.1) (by rw [gI_eq, e1]) x (by decide) (hl 5 (Or.inl rfl))
      rw [show ((5 : Nat) : Int) = 5 from rfl] at s1
      rw [s1, bS, bd2S, stk_c c3, bS, gI_ne (by decide), o3.2, stk_c c3, bS, gI_eq, gI_ne (by decide), gI_ne (by decide), o3.2]
      have e2 : w32 (w32 ((nP : Int) + 1) - 1) = nP := w32_pm (by omega) (by omega)
      rw [e2]
      have eC : setO (sI Sc 1 2 (w32 ((nP : Int) + 1))) nP 5 x = apC Sc nP x := by unfold apC; rw [o2.2]
      have eM : sI (sI (sI Sm 62 nP x) 63 nP 0) 56 7 (w32 ((nP : Int) + 1)) = apM Sm nP x := by unfold apM; rw [o3.2]; rfl
      rw [eC, eM]
      refine ⟨_, _, _, rfl, rfl, nW, nP + 1, nB, law, ?_⟩
      have cne : ∀ q, (q < 1 ∨ q = 2 ∨ 12 < q) → gI (apC Sc nP x) q = gI Sc q := fun q hq => by unfold apC; rw [setO_ne (by decide) hq, gI_ne (by omega)]
      have mne : ∀ q, (q < 56 ∨ 64 < q) → gI (apM Sm nP x) q = gI Sm q := fun q hq => by unfold apM; rw [gI_ne (by omega), setM_ne (by decide) (by omega), setM_ne (by decide) (by omega)]
      have m56 : ∀ q, q ≠ 7 → gI (apM Sm nP x) 56 q = gI Sm 56 q := fun q hq => by unfold apM; rw [gI_ek hq, setM_ne (by decide) (by omega), setM_ne (by decide) (by omega)]
      have row : ∀ w i, w < 10 → nu (apC Sc nP x) w i = if w = 5 ∧ i = nP then x else nu Sc w i := fun w i hw => by unfold apC; rw [nu_set (by decide) hw, nu_1]
      have age : gI (apC Sc nP x) 1 3 = gI Sc 1 3 := by
        unfold apC
        rw [setO_age, gI_ek (by decide), if_neg (by decide), Int.add_zero, w32s (by have := g8.2.1; omega) (by have := g8.2.1.2.2; omega)]
      refine ⟨Shp_of g0 rfl rfl, ⟨⟨o1.1, c3⟩, ⟨?_, ?_⟩, ⟨by rw [m56 1 (by decide)]; exact o3.1, ?_⟩, fun w i hw hi => ?_, fun i hi => ?_⟩, RC_up (RC_of g2 (fun q h => cne q (by omega)) (fun q h => mne q (by omega)) (m56 _ (by decide)) (m56 _ (by decide))) (Nat.le_refl _) (Nat.le_succ _), RT_of g3 (by rw [cne 13 (by omega)]) (cne _ (by omega)) (m56 _ (by decide)) (mne _ (by omega)), RL_of g4 (by rw [cne 13 (by omega)]) (cne _ (by omega)) (cne _ (by omega)) rfl (m56 _ (by decide)) (mne _ (by omega)) (mne _ (by omega)) (mne _ (by omega)) (mne _ (by omega)) (mne _ (by omega)), RS_of g5 (fun q h => cne q (by omega)) (fun q h => mne q (by omega)), RB_of g6 (by rw [cne 53 (by omega)]) (by rw [cne 53 (by omega)]) (cne _ (by omega)) (cne _ (by omega)) (m56 _ (by decide)) (m56 _ (by decide)) (mne _ (by omega)) (mne _ (by omega)), RD_up (RD_of g7 (fun q h => cne q (by omega)) (fun q h => mne q (by omega)) (m56 _ (by decide)) (m56 _ (by decide)) (m56 _ (by decide))) (Nat.le_succ _), ?_, RH_of g9 rfl (cne 33 (by omega))⟩
      · unfold apC; rw [setO_1 (by decide), gI_ek (by decide)]; exact o2.1
      · unfold apC; rw [setO_1 (by decide), gI_eq, o2.2, e1]
      · unfold apM; rw [gI_eq, o3.2, e1]
      · rw [row w i hw]
        unfold apM
        rw [mu_56 hw, mu_set (by decide) (hl 6 (Or.inr rfl)) hw hi, mu_set (by decide) (hl 5 (Or.inl rfl)) hw hi]
        by_cases q : w = 5 ∧ i = nP
        · rw [if_pos q, if_pos q, if_neg (by omega), q.1]; exact ⟨rfl, c1⟩
        · rw [if_neg q, if_neg q]
          by_cases q2 : w = 6 ∧ i = nP
          · rw [if_pos q2, q2.1, q2.2, o5 nP (Nat.le_refl _)]; exact ⟨rfl, by decide, by show (0 : Int) ≤ 63; decide⟩
          · rw [if_neg q2]
            refine o4 w i hw ?_
            unfold lim at hi ⊢
            split at hi
            · next z => rw [if_pos z]; exact hi
            · next z =>
              rw [if_neg z]
              split at hi
              · next z2 =>
                rw [if_pos z2]
                have : i ≠ nP := fun e => by rcases (show w = 5 ∨ w = 6 by omega) with r | r; (· exact q ⟨r, e⟩); (· exact q2 ⟨r, e⟩)
                omega
              · next z2 => rw [if_neg z2]; exact hi
      · rw [row 6 i (by decide), if_neg (by omega)]; exact o5 i (by omega)
      · have e : ∀ w, w = 0 ∨ w = 1 ∨ w = 2 ∨ w = 7 → ∀ i, nu (apC Sc nP x) w i = nu Sc w i := fun w hw i => by rw [row w i (by omega), if_neg (by omega)]
        obtain ⟨k0, ⟨k1, k2, k3⟩, k4⟩ := g8
        refine ⟨k0, by rw [age, cne 34 (by omega)]; exact ⟨k1, k2, by omega⟩, ?_⟩
        rw [age, cne 34 (by omega), cne 35 (by omega), show soV (apC Sc nP x) = soV Sc from funext fun z => by unfold soV; rw [e 2 (by omega)], show seV (apC Sc nP x) = seV Sc from funext fun z => by unfold seV; rw [e 1 (by omega)], show prV law (apC Sc nP x) = prV law Sc from funext fun z => funext fun a => funext fun p => by unfold prV; rw [e 0 (by omega), e 2 (by omega), e 7 (by omega)]]
        exact k4
    · rw [if_neg (by omega), if_pos (by omega)]
      exact Sim.same ⟨nW, nP, nB, law, h9⟩ (by omega)
  · rw [if_neg c1, if_pos rfl, if_pos rfl]
    exact Sim.same ⟨nW, nP, nB, law, h9⟩ (by omega)
theorem nat_of {n : Int} (h : 0 ≤ n) : ∃ k : Nat, n = (k : Int) := ⟨n.toNat, by omega⟩
theorem m_of {b : Nat} {Sc Sm : Mem} (h : IV b Sc Sm) (n w : Int) : ∃ r, g_X9_of n w Sc = some r ∧ g_X10_of n w Sm = some r := by
  obtain ⟨nW, nP, nB, law, g0, ⟨o1, o2, o3, o4, o5⟩, -⟩ := h
  unfold g_X9_of g_X10_of
  rw [has_v o1 o2.1 o2.2, isOne_v o1 o3.1 o3.2, bS]
  by_cases c : 0 ≤ n ∧ 0 ≤ w ∧ w < 10 ∧ n < lim nW nP w.toNat
  · rw [if_pos c, if_neg (by decide), if_neg (by decide)]
    obtain ⟨k, rfl⟩ := nat_of c.1
    obtain ⟨q, rfl⟩ := nat_of c.2.1
    rw [Int.toNat_natCast] at c
    rw [val_n g0 o1 o2.1 o2.2 (by omega) (by omega), bS, valAt_n Sm nW nP o1 k q (by omega) (by omega), bS, (o4 q k (by omega) (by omega)).1]
    exact ⟨_, rfl, rfl⟩
  · rw [if_neg c, if_pos rfl, if_pos rfl]
    exact ⟨_, rfl, rfl⟩
theorem m_night {b : Nat} {Sc Sm : Mem} (h : IV b Sc Sm) (hb : b < 900000) : Sim (b + 100) (g_X9_night Sc) (g_X10_night Sm) := by
  obtain ⟨nW, nP, nB, law, h⟩ := h
  obtain ⟨g0, ⟨o1, o2, o3, o4, o5⟩, -⟩ := id h
  have hl : 0 < lim nW nP 7 := by show 0 < 1; decide
  obtain ⟨u1, u2, u3⟩ := o4 7 0 (by decide) hl
  have u2 : 0 ≤ nu Sc 7 0 := u2
  have u3 : nu Sc 7 0 ≤ 1 := u3
  have v1 := val_n g0 o1 o2.1 o2.2 (n := 0) (w := 7) (by decide) hl
  rw [show ((0 : Nat) : Int) = 0 from rfl, show ((7 : Nat) : Int) = 7 from rfl] at v1
  have s1 := set_n g0 o1 o2.1 o2.2 (n := 0) (w := 7) (w32 (1 - nu Sc 7 0)) (by decide) hl
  rw [show ((0 : Nat) : Int) = 0 from rfl, show ((7 : Nat) : Int) = 7 from rfl] at s1
  have v2 := val_n (S := setO Sc 0 7 (w32 (1 - nu Sc 7 0))) (Shp_set g0) o1 (by rw [setO_1 (by decide)]; exact o2.1) (by rw [setO_1 (by decide)]; exact o2.2) (n := 0) (w := 7) (by decide) hl
  rw [show ((0 : Nat) : Int) = 0 from rfl, show ((7 : Nat) : Int) = 7 from rfl, nu_set (by decide) (by decide), if_pos ⟨rfl, rfl⟩] at v2
  unfold g_X9_night g_X10_night
  rw [v1, bS, s1, bS, v2, bS]
  simp only [ap]
  have e : gI Sm 64 0 = nu Sc 7 0 := u1
  rw [gI_eq, e]
  refine ⟨_, _, _, rfl, rfl, nW, nP, nB, law, Inv_up (Inv_set (n := 0) (w := 7) (v := w32 (1 - nu Sc 7 0)) h (by decide) hl ?_ (by omega)) (by omega)⟩
  rw [w32s (by omega) (by omega)]
  exact ⟨by show (0 : Int) ≤ _; omega, by show _ ≤ (1 : Int); omega⟩
