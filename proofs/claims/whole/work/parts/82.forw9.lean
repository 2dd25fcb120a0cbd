/-! THE FORWARD TABLE: all rows of one place; the place -/
theorem okG_a {nW p a : Nat} {so se : Nat → Nat} {pr : Nat → Nat → Nat → Nat} {T : Mem} (hse : ∀ w, w < nW → se w < 64) (h : okG nW so se pr p a 64 0 T) : okG nW so se pr p (a + 1) 0 0 T := okG_i h (fun b x t => by
  constructor
  · rintro ⟨t, v, c, h0, h1, h2, h3, h4, h5, h6, h7⟩
    have h8 := sen_lt (se := se) t (fun w q => hse w (chn_w t 3 c h2 w q))
    exact ⟨t, v, c, h0, h1, h2, h3, h4, h5, h6, by omega⟩
  · rintro ⟨t, v, c, h0, h1, h2, h3, h4, h5, h6, h7⟩
    exact ⟨t, v, c, h0, h1, h2, h3, h4, h5, h6, by omega⟩)
theorem gPa_l {N : Nat → Nat → Int} {nW nP p : Nat} {law : Option (List Lin)} {K : Mem → Option Mem} (hN : NR N nW nP) (hp : p ≤ 5) : ∀ (r a fu : Nat) (T : Mem), a + r = 4 → r < fu → OM N nW nP T → LM law T → nowP nW (soN N) (seN N) (prN law N) p T → okG nW (soN N) (seN N) (prN law N) p a 0 0 T → ∃ T', g_X10_goPlace_L26 K (p : Int) fu (a : Int) T = K T' ∧ KG T T' ∧ okG nW (soN N) (seN N) (prN law N) p 4 0 0 T' := by
  intro r
  induction r with
  | zero =>
    intro a fu T ha hf hM hL hB h
    obtain ⟨fu, rfl⟩ : ∃ k, fu = k + 1 := ⟨fu - 1, by omega⟩
    have ha : a = 4 := ha
    subst ha
    rw [g_X10_goPlace_L26.eq_2, if_pos (by decide)]
    exact ⟨T, rfl, KG.rf T, h⟩
  | succ r ih =>
    intro a fu T ha hf hM hL hB h
    obtain ⟨fu, rfl⟩ : ∃ k, fu = k + 1 := ⟨fu - 1, by omega⟩
    have ha4 : a < 4 := by omega
    obtain ⟨T1, u1, u2, u3⟩ := gPw_l (K := fun S6 => g_X10_goPlace_L26 K (p : Int) fu (w32 ((a : Int) + 1)) S6) hN hp ha4 hM hL hB h 99997
    have e81 : gI T1 81 = gI T 81 := u2 81 (by decide) (by decide) (by decide)
    obtain ⟨T2, v1, v2, v3⟩ := ih (a + 1) fu T1 (by omega) (by omega) (hM.g u2) (hL.g u2) (fun a' wh' s' h1 h2 h3 => by rw [e81]; exact hB a' wh' s' h1 h2 h3) (okG_a (fun w hw => (seN_i hN hw).2) u3)
    rw [g_X10_goPlace_L26.eq_2, if_neg (show ¬ (4 : Int) ≤ (a : Int) by omega)]
    refine ⟨T2, ?_, u2.tr v2, v3⟩
    rw [show FU = 99997 + 3 from rfl, u1, w32_a a (by omega), v1]
theorem Zg_4 {nW p a s : Nat} {so se : Nat → Nat} {t' : List Nat} (hso : ∀ w, w < nW → so w < 4) : Zg nW so se p 4 0 0 a s t' ↔ Xn nW so se (p + 1) a s t' := by
  constructor
  · rintro ⟨t, v, c, rfl, h1, h2, h3, h4, h5, h6, -⟩
    exact ⟨by rw [List.length_append, h1]; rfl, (chn_a t 3).mpr ⟨c, h2, h3, h4, h5⟩, by rw [sen_a]; exact h6⟩
  · rintro ⟨h1, h2, h3⟩
    obtain ⟨t, v, rfl, h4⟩ := app_ex h1
    obtain ⟨c, g1, g2, g3, g4⟩ := (chn_a t 3).mp h2
    exact ⟨t, v, c, rfl, h4, g1, g2, g3, g4, by rw [← sen_a]; exact h3, Or.inl (chn_lt hso t 3 c (by decide) g1)⟩
theorem gP_l {N : Nat → Nat → Int} {nW nP p : Nat} {law : Option (List Lin)} {T : Mem} (hN : NR N nW nP) (hp : p ≤ 5) (hM : OM N nW nP T) (hL : LM law T) (hB : nowP nW (soN N) (seN N) (prN law N) p T) : ∃ T', g_X10_goPlace (p : Int) T = some T' ∧ (∀ c, c ≠ 75 → c ≠ 76 → c ≠ 81 → c ≠ 82 → gI T' c = gI T c) ∧ nowP nW (soN N) (seN N) (prN law N) (p + 1) T' := by
  obtain ⟨T1, a1, a2, a3⟩ := f82_l (K := fun S2 => g_X10_goPlace_L26 (fun S7 => g_X10_goPlace_L95 FU 0 S7) (p : Int) FU 0 S2) (v1 := (p : Int)) 512 0 FU T rfl (by unfold FU; decide) (fun i hi => absurd hi (Nat.not_lt_zero i))
  have k1 : KG T T1 := fun c _ _ h => a2 c h
  have e81 : gI T1 81 = gI T 81 := a2 81 (by decide)
  obtain ⟨T2, b1, b2, b3⟩ := gPa_l (K := fun S7 => g_X10_goPlace_L95 FU 0 S7) hN hp 4 0 FU T1 rfl (by unfold FU; decide) (hM.g k1) (hL.g k1) (fun a' wh' s' h1 h2 h3 => by rw [e81]; exact hB a' wh' s' h1 h2 h3) (fun b wh' x h1 h2 h3 => Or.inl ⟨a3 _ (by omega), fun t ht => by
    obtain ⟨-, u, v, c, -, -, -, -, -, -, -, q⟩ := ht
    omega⟩)
  obtain ⟨T3, c1, c2, c3⟩ := cp81_l 512 0 FU T2 rfl (by unfold FU; decide) (fun i hi => absurd hi (Nat.not_lt_zero i))
  refine ⟨T3, ?_, fun c h1 h2 h3 h4 => by rw [c2 c h3, b2 c h1 h2 h4, a2 c h4], fun a wh' s h1 h2 h3 => ?_⟩
  · rw [show ((0 : Nat) : Int) = 0 from rfl] at a1 b1 c1
    unfold g_X10_goPlace
    rw [a1, b1, c1]
  · rw [c3 _ (by omega)]
    exact IsQ_same (b3 a wh' s h1 h2 h3) (fun t => by rw [Zg_4 (fun w hw => Nat.lt_succ_of_lt (soN_i hN hw).2)])
