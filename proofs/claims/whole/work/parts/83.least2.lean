/-! THE LEAST PRICES, reference: from place to place -/
def Dn (nW : Nat) (so se : Nat → Nat) (p n s : Nat) (t : List Nat) : Prop := Bs nW so se p s t ∨ ∃ a, a < n ∧ 1 = wh a ∧ Xn nW so se (p + 1) a s t
theorem Dn_0 {nW p s : Nat} {so se : Nat → Nat} {t : List Nat} : Dn nW so se p 0 s t ↔ Bs nW so se p s t := ⟨fun h => h.elim id (fun ⟨a, h, _⟩ => absurd h (Nat.not_lt_zero a)), Or.inl⟩
theorem Dn_s {nW p n s : Nat} {so se : Nat → Nat} {t : List Nat} : Dn nW so se p (n + 1) s t ↔ Dn nW so se p n s t ∨ (1 = wh n ∧ Xn nW so se (p + 1) n s t) := by
  constructor
  · rintro (h | ⟨a, h1, h2, h3⟩)
    · exact Or.inl (Or.inl h)
    · by_cases e : a = n
      · subst e
        exact Or.inr ⟨h2, h3⟩
      · exact Or.inl (Or.inr ⟨a, by omega, h2, h3⟩)
  · rintro ((h | ⟨a, h1, h2, h3⟩) | h)
    · exact Or.inl h
    · exact Or.inr ⟨a, by omega, h2, h3⟩
    · exact Or.inr ⟨n, Nat.lt_succ_self n, h.1, h.2⟩
theorem Dn_3 {nW p s : Nat} {so se : Nat → Nat} {t : List Nat} : Dn nW so se p 3 s t ↔ Bs nW so se (p + 1) s t := by
  constructor
  · rintro (⟨h1, h2, h3⟩ | ⟨a, h1, h2, h3, h4, h5⟩)
    · exact ⟨by omega, h2, h3⟩
    · refine ⟨by omega, (chn_v t 3).mpr ⟨a, h4, ?_⟩, h5⟩
      unfold wh at h2
      split at h2
      · next q => exact q
      · exact absurd h2 (by decide)
  · rintro ⟨h1, h2, h3⟩
    by_cases e : t.length ≤ p
    · exact Or.inl ⟨e, h2, h3⟩
    · obtain ⟨b, g1, g2⟩ := (chn_v t 3).mp h2
      exact Or.inr ⟨b, by omega, by unfold wh; rw [if_pos g2], by omega, g1, h3⟩
theorem fl81_l {N : Nat → Nat → Int} {nW nP p a : Nat} {law : Option (List Lin)} {K : Mem → Option Mem} {v1 : Int} (hN : NR N nW nP) (hp : p ≤ 5) (ha : a < 3) : ∀ (r s fu : Nat) (T : Mem), s + r = 64 → r < fu → nowP nW (soN N) (seN N) (prN law N) (p + 1) T → (∀ x, x < 64 → IsQ (pco (soN N) (prN law N) 3 0) (Dn nW (soN N) (seN N) p (if x < s then a + 1 else a) x) (gI T 83 x)) → ∃ T', g_X10_findLeast_L81 K v1 (a : Int) fu (s : Int) T = K T' ∧ (∀ c, c ≠ 83 → gI T' c = gI T c) ∧ ∀ x, x < 64 → IsQ (pco (soN N) (prN law N) 3 0) (Dn nW (soN N) (seN N) p (a + 1) x) (gI T' 83 x) := by
  intro r
  induction r with
  | zero =>
    intro s fu T hs hf hB h
    obtain ⟨fu, rfl⟩ : ∃ k, fu = k + 1 := ⟨fu - 1, by omega⟩
    have hs : s = 64 := hs
    subst hs
    rw [g_X10_findLeast_L81.eq_2, if_pos (by decide)]
    exact ⟨T, rfl, fun _ _ => rfl, fun x hx => by have q := h x hx; rw [if_pos hx] at q; exact q⟩
  | succ r ih =>
    intro s fu T hs hf hB h
    obtain ⟨fu, rfl⟩ : ∃ k, fu = k + 1 := ⟨fu - 1, by omega⟩
    have hs64 : s < 64 := by omega
    have ix : 128 * a + 64 * 1 + s < 512 := by omega
    have nv := nowAt_v (a := a) (wh := 1) (by omega) (by decide) hs64
    rw [show ((1 : Nat) : Int) = 1 from rfl] at nv
    have q0 := h s hs64
    rw [if_neg (Nat.lt_irrefl s)] at q0
    have q1 := hB a 1 s (by omega) (by decide) hs64
    have e9 : ∀ t, Dn nW (soN N) (seN N) p a s t ∨ (1 = wh a ∧ Xn nW (soN N) (seN N) (p + 1) a s t) → pco (soN N) (prN law N) 3 0 t < 9999999 := fun t ht => by
      have hc : t.length ≤ 6 ∧ ∀ w ∈ t, w < nW := by
        rcases ht with (⟨z1, z2, -⟩ | ⟨a', -, -, z1, z2, -⟩) | ⟨-, z1, z2, -⟩
        · exact ⟨by omega, Vp_w z2⟩
        · exact ⟨by omega, chn_w t 3 a' z2⟩
        · exact ⟨by omega, chn_w t 3 a z2⟩
      have := pco_le (so := soN N) (pr := prN law N) (fun w a p h => (prN_i hN h).2) t 3 0 hc.2
      omega
    have q2 := IsQ_u q0 q1 e9 (fun t => Dn_s)
    rw [g_X10_findLeast_L81.eq_2, if_neg (show ¬ (64 : Int) ≤ (s : Int) by omega), nv, ldk_c ix, bS, ldk_c hs64, bS, w32_a s (by omega), bS]
    by_cases c : gI T 83 s ≤ gI T 81 (128 * a + 64 * 1 + s)
    · rw [if_pos c] at q2
      rw [if_pos c]
      refine ih (s + 1) fu T (by omega) (by omega) hB (fun x hx => ?_)
      by_cases e : x = s
      · subst e
        rw [if_pos (Nat.lt_succ_self x)]
        exact q2
      · have := h x hx
        by_cases e2 : x < s
        · rw [if_pos e2] at this
          rw [if_pos (by omega)]
          exact this
        · rw [if_neg e2] at this
          rw [if_neg (by omega)]
          exact this
    · rw [if_neg c] at q2
      rw [if_neg c, stk_c hs64, bS]
      obtain ⟨T', z1, z2, z3⟩ := ih (s + 1) fu (sI T 83 s (gI T 81 (128 * a + 64 * 1 + s))) (by omega) (by omega) (fun a' wh' s' h1 h2 h3 => by rw [gI_ne (show (81 : Nat) ≠ 83 by decide)]; exact hB a' wh' s' h1 h2 h3) (fun x hx => by
        by_cases e : x = s
        · subst e
          rw [if_pos (Nat.lt_succ_self x), gI_eq]
          exact q2
        · have := h x hx
          rw [gI_ek e]
          by_cases e2 : x < s
          · rw [if_pos e2] at this
            rw [if_pos (by omega)]
            exact this
          · rw [if_neg e2] at this
            rw [if_neg (by omega)]
            exact this)
      exact ⟨T', z1, fun c hc => by rw [z2 c hc, gI_ne hc], z3⟩
theorem fl74_l {N : Nat → Nat → Int} {nW nP p : Nat} {law : Option (List Lin)} {K : Mem → Option Mem} {v1 : Int} (hN : NR N nW nP) (hp : p ≤ 5) : ∀ (r a fu : Nat) (T : Mem), a + r = 3 → r < fu → nowP nW (soN N) (seN N) (prN law N) (p + 1) T → (∀ x, x < 64 → IsQ (pco (soN N) (prN law N) 3 0) (Dn nW (soN N) (seN N) p a x) (gI T 83 x)) → ∃ T', g_X10_findLeast_L74 K v1 fu (a : Int) T = K T' ∧ (∀ c, c ≠ 83 → gI T' c = gI T c) ∧ ∀ x, x < 64 → IsQ (pco (soN N) (prN law N) 3 0) (Dn nW (soN N) (seN N) p 3 x) (gI T' 83 x) := by
  intro r
  induction r with
  | zero =>
    intro a fu T ha hf hB h
    obtain ⟨fu, rfl⟩ : ∃ k, fu = k + 1 := ⟨fu - 1, by omega⟩
    have ha : a = 3 := ha
    subst ha
    rw [g_X10_findLeast_L74.eq_2, if_pos (by decide)]
    exact ⟨T, rfl, fun _ _ => rfl, h⟩
  | succ r ih =>
    intro a fu T ha hf hB h
    obtain ⟨fu, rfl⟩ : ∃ k, fu = k + 1 := ⟨fu - 1, by omega⟩
    have ha3 : a < 3 := by omega
    obtain ⟨T1, u1, u2, u3⟩ := fl81_l (K := fun S11 => g_X10_findLeast_L74 K v1 fu (w32 ((a : Int) + 1)) S11) (v1 := v1) hN hp ha3 64 0 FU T rfl (by unfold FU; decide) hB (fun x hx => by rw [if_neg (Nat.not_lt_zero x)]; exact h x hx)
    rw [show ((0 : Nat) : Int) = 0 from rfl] at u1
    obtain ⟨T2, z1, z2, z3⟩ := ih (a + 1) fu T1 (by omega) (by omega) (fun a' wh' s' h1 h2 h3 => by rw [u2 81 (by decide)]; exact hB a' wh' s' h1 h2 h3) u3
    rw [g_X10_findLeast_L74.eq_2, if_neg (show ¬ (3 : Int) ≤ (a : Int) by omega), u1, w32_a a (by omega), z1]
    exact ⟨T2, rfl, fun c hc => by rw [z2 c hc, u2 c hc], z3⟩
def KF (T T' : Mem) : Prop := ∀ c, c ≠ 75 → c ≠ 76 → c ≠ 81 → c ≠ 82 → c ≠ 83 → gI T' c = gI T c
theorem KF.rf (T : Mem) : KF T T := fun _ _ _ _ _ _ => rfl
theorem KF.tr {S S' S'' : Mem} (h : KF S S') (g : KF S' S'') : KF S S'' := fun c h1 h2 h3 h4 h5 => (g c h1 h2 h3 h4 h5).trans (h c h1 h2 h3 h4 h5)
theorem OM.f {N : Nat → Nat → Int} {nW nP : Nat} {S S' : Mem} (h : OM N nW nP S) (k : KF S S') : OM N nW nP S' := OM_of h (fun c hc => k c (by omega) (by omega) (by omega) (by omega) (by omega)) (by rw [k 56 (by decide) (by decide) (by decide) (by decide) (by decide)]) (by rw [k 56 (by decide) (by decide) (by decide) (by decide) (by decide)])
theorem LM.f {law : Option (List Lin)} {S S' : Mem} (h : LM law S) (k : KF S S') : LM law S' := LM_of h (fun c hc => k c (by omega) (by omega) (by omega) (by omega) (by omega)) (by rw [k 56 (by decide) (by decide) (by decide) (by decide) (by decide)])
theorem fl61_l {N : Nat → Nat → Int} {nW nP : Nat} {law : Option (List Lin)} (hN : NR N nW nP) : ∀ (r p fu : Nat) (T : Mem), p + r = 6 → r < fu → OM N nW nP T → LM law T → nowP nW (soN N) (seN N) (prN law N) p T → (∀ x, x < 64 → IsQ (pco (soN N) (prN law N) 3 0) (Bs nW (soN N) (seN N) p x) (gI T 83 x)) → ∃ T', g_X10_findLeast_L61 fu (p : Int) T = some T' ∧ KF T T' ∧ ∀ x, x < 64 → IsQ (pco (soN N) (prN law N) 3 0) (Bs nW (soN N) (seN N) 6 x) (gI T' 83 x) := by
  intro r
  induction r with
  | zero =>
    intro p fu T hp hf hM hL hB h
    obtain ⟨fu, rfl⟩ : ∃ k, fu = k + 1 := ⟨fu - 1, by omega⟩
    have hp : p = 6 := hp
    subst hp
    rw [g_X10_findLeast_L61.eq_2, if_pos (by decide)]
    exact ⟨T, rfl, KF.rf T, h⟩
  | succ r ih =>
    intro p fu T hp hf hM hL hB h
    obtain ⟨fu, rfl⟩ : ∃ k, fu = k + 1 := ⟨fu - 1, by omega⟩
    have hp5 : p ≤ 5 := by omega
    obtain ⟨T1, u1, u2, u3⟩ := gP_l hN hp5 hM hL hB
    obtain ⟨T2, z1, z2, z3⟩ := fl74_l (K := fun S12 => g_X10_findLeast_L61 fu (w32 ((p : Int) + 1)) S12) (v1 := (p : Int)) hN hp5 3 0 FU T1 rfl (by unfold FU; decide) u3 (fun x hx => by rw [u2 83 (by decide) (by decide) (by decide) (by decide)]; exact IsQ_same (h x hx) (fun t => Dn_0))
    rw [show ((0 : Nat) : Int) = 0 from rfl] at z1
    have k2 : KF T T2 := fun c h1 h2 h3 h4 h5 => by rw [z2 c h5, u2 c h1 h2 h3 h4]
    obtain ⟨T3, y1, y2, y3⟩ := ih (p + 1) fu T2 (by omega) (by omega) (hM.f k2) (hL.f k2) (fun a' wh' s' h1 h2 h3 => by rw [z2 81 (by decide)]; exact u3 a' wh' s' h1 h2 h3) (fun x hx => IsQ_same (z3 x hx) (fun t => Dn_3.symm))
    rw [g_X10_findLeast_L61.eq_2, if_neg (show ¬ (6 : Int) ≤ (p : Int) by omega), u1, bS, z1, w32_a p (by omega), y1]
    exact ⟨T3, rfl, k2.tr y2, y3⟩
theorem m_FL : FL := by
  intro nW nP law N T hN hM hL
  obtain ⟨T1, a1, a2, a3⟩ := f83_l (K := fun S2 => g_X10_findLeast_L25 (fun S4 => (stk S4 81 512 (g_X10_nowAt 3 0 0) 0).bind fun S5 => g_X10_findLeast_L61 FU 0 S5) FU 0 S2) 64 0 FU T rfl (by unfold FU; decide) (fun i hi => absurd hi (Nat.not_lt_zero i))
  obtain ⟨T2, b1, b2, b3⟩ := f81_l (K := fun S4 => (stk S4 81 512 (g_X10_nowAt 3 0 0) 0).bind fun S5 => g_X10_findLeast_L61 FU 0 S5) 512 0 FU T1 rfl (by unfold FU; decide) (fun i hi => absurd hi (Nat.not_lt_zero i))
  rw [show ((0 : Nat) : Int) = 0 from rfl] at a1 b1
  have e384 : g_X10_nowAt 3 0 0 = ((384 : Nat) : Int) := nowAt_v (a := 3) (wh := 0) (s := 0) (by decide) (by decide) (by decide)
  rw [e384] at a1 b1
  rw [stk_c (show 384 < 512 by decide), bS] at b1
  have k2 : KF T (sI T2 81 384 0) := fun c h1 h2 h3 h4 h5 => by rw [gI_ne h3, b2 c h3, a2 c h5]
  have hn : nowP nW (soN N) (seN N) (prN law N) 0 (sI T2 81 384 0) := fun a wh' s h1 h2 h3 => by
    by_cases e : 128 * a + 64 * wh' + s = 384
    · have ea : a = 3 := by omega
      have ew : wh' = 0 := by omega
      have es : s = 0 := by omega
      subst ea ew es
      rw [e, gI_eq]
      exact Or.inr ⟨[], ⟨rfl, rfl, rfl, rfl⟩, rfl, fun t' _ => Nat.zero_le _⟩
    · rw [gI_ek e, b3 _ (by omega)]
      refine Or.inl ⟨rfl, ?_⟩
      rintro t ⟨q1, q2, q3, q4⟩
      have : t = [] := List.eq_nil_of_length_eq_zero q2
      subst this
      have q3 : 3 = a := q3
      have q4 : 0 = s := q4
      subst q3 q4
      have q1 : wh' = 0 := q1
      omega
  obtain ⟨T3, c1, c2, c3⟩ := fl61_l hN 6 0 FU _ rfl (by unfold FU; decide) (hM.f k2) (hL.f k2) hn (fun x hx => Or.inl ⟨by rw [gI_ne (show (83 : Nat) ≠ 81 by decide), b2 83 (by decide)]; exact a3 x hx, fun t ht => by
    obtain ⟨q1, q2, -⟩ := ht
    have : t = [] := List.eq_nil_of_length_eq_zero (by omega)
    subst this
    have q2 : 3 = 1 ∨ 3 = 2 := q2
    omega⟩)
  rw [show ((0 : Nat) : Int) = 0 from rfl] at c1
  refine ⟨T3, ?_, ⟨fun c hc => ?_, fun k _ => ?_⟩, LT_of c3⟩
  · unfold g_X10_findLeast
    rw [e384, a1, b1, c1]
  · simp only [List.mem_cons, List.not_mem_nil, or_false, not_or] at hc
    exact (k2.tr c2) c (by omega) (by omega) (by omega) (by omega) (by omega)
  · rw [(k2.tr c2) 56 (by decide) (by decide) (by decide) (by decide) (by decide)]
