/-! WHAT CAN BE SAID, class: all senses anew -/
theorem Zn_nf {nW p w a b x : Nat} {so se : Nat → Nat} {t : List Nat} (hf : ¬ fol a (so w) = true) : Zn nW so se p w (a + 1) 0 b x t ↔ Zn nW so se p w a 0 b x t := by
  constructor
  · rintro ⟨p', v, c, h1, h2, h3, h4, h5, h6, h7, h8⟩
    refine ⟨p', v, c, h1, h2, h3, h4, h5, h6, h7, ?_⟩
    rcases h8 with h8 | ⟨h8, h9⟩
    · exact Or.inl h8
    · refine Or.inr ⟨h8, Or.inl ?_⟩
      rcases h9 with h9 | ⟨h9, h10⟩
      · by_cases e : c = a
        · subst e
          subst h8
          exact absurd h5 hf
        · omega
      · omega
  · rintro ⟨p', v, c, h1, h2, h3, h4, h5, h6, h7, h8⟩
    exact ⟨p', v, c, h1, h2, h3, h4, h5, h6, h7, by omega⟩
theorem Zn_64 {nW p w a b x : Nat} {so se : Nat → Nat} {t : List Nat} (hs : ∀ w, w < nW → se w < 64) : Zn nW so se p w (a + 1) 0 b x t ↔ Zn nW so se p w a 64 b x t := by
  constructor
  · rintro ⟨p', v, c, h1, h2, h3, h4, h5, h6, h7, h8⟩
    have := sen_lt (se := se) p' (fun w hw => hs w (chn_w p' 3 c h3 w hw))
    exact ⟨p', v, c, h1, h2, h3, h4, h5, h6, h7, by omega⟩
  · rintro ⟨p', v, c, h1, h2, h3, h4, h5, h6, h7, h8⟩
    exact ⟨p', v, c, h1, h2, h3, h4, h5, h6, h7, by omega⟩
theorem Zn_4 {nW p w b x : Nat} {so se : Nat → Nat} {t : List Nat} (hs : ∀ w, w < nW → so w < 4) : Zn nW so se p (w + 1) 0 0 b x t ↔ Zn nW so se p w 4 0 b x t := by
  constructor
  · rintro ⟨p', v, c, h1, h2, h3, h4, h5, h6, h7, h8⟩
    have := chn_lt hs p' 3 c (by decide) h3
    exact ⟨p', v, c, h1, h2, h3, h4, h5, h6, h7, by omega⟩
  · rintro ⟨p', v, c, h1, h2, h3, h4, h5, h6, h7, h8⟩
    exact ⟨p', v, c, h1, h2, h3, h4, h5, h6, h7, by omega⟩
theorem Zn_e {nW p b x : Nat} {so se : Nat → Nat} {t : List Nat} : Xn nW so se (p + 1) b x t ↔ Zn nW so se p nW 0 0 b x t := by
  constructor
  · rintro ⟨h1, h2, h3⟩
    obtain ⟨p', v, rfl, h4⟩ := app_ex h1
    obtain ⟨c, g1, g2, g3, g4⟩ := (chn_a p' 3).mp h2
    exact ⟨p', v, c, rfl, h4, g1, g2, g3, g4, by rw [← sen_a]; exact h3, Or.inl g2⟩
  · rintro ⟨p', v, c, rfl, h2, h3, h4, h5, h6, h7, -⟩
    exact ⟨by rw [List.length_append, h2]; rfl, (chn_a p' 3).mpr ⟨c, h3, h4, h5, h6⟩, by rw [sen_a]; exact h7⟩
/-- the state of the rows while it goes on -/
def YS (S T : Mem) (q l : Nat) : Prop := KY S T ∧ gR T 34 = gR S 34 ∧ gI T q = gI S q ∧ (gI T 34 = gI S 34 ∧ gI T 35 = gI S 35)
theorem len_c' {N : Nat → Nat → Int} {nW nP p w a q l : Nat} {law : Option (List Lin)} {S T : Mem} (hN : NR N nW nP) (hO : OC N nW nP S) (hL : LC law S) (hp : p ≤ 5) (hw : w < nW) (ha : a < 4) (hq : QL q l) (g3 : gR S 34 3 = some q) (g4 : gR S 34 4 = some l) (hB : NWp nW (soN N) (seN N) (prN law N) p S q) (hY : YS S T q l) (hG : LGp nW (soN N) (seN N) (prN law N) p w a 0 T l) : ∃ T', g_X6_lengthen (a : Int) (w : Int) (p : Int) T = some T' ∧ YS S T' q l ∧ LGp nW (soN N) (seN N) (prN law N) p w (a + 1) 0 T' l := by
  obtain ⟨hK, hR, hTq, h345⟩ := hY
  have hO' := hO.y hK
  have v2 := val_o hN hO' (w := 2) (n := w) (by decide) hw
  rw [show ((2 : Nat) : Int) = 2 from rfl, (soN_i hN hw).1] at v2
  have v1 := val_o hN hO' (w := 1) (n := w) (by decide) hw
  rw [show ((1 : Nat) : Int) = 1 from rfl, (seN_i hN hw).1] at v1
  have so3 := (soN_i hN hw).2
  unfold g_X6_lengthen
  rw [v2, bS, fol_c a ha _ so3]
  cases hf : fol a (soN N w) with
  | false =>
    rw [bF, i00]
    exact ⟨T, rfl, ⟨hK, hR, hTq, h345⟩, fun b x hb hx => IsM_same (hG b x hb hx) (fun t => Zn_nf (by rw [hf]; decide))⟩
  | true =>
    rw [bT, i10, v1, bS]
    obtain ⟨T', u1, u2, u3, u4, u5, u6⟩ := len_l hN hp hw ha hq hf hB 64 0 FU (-1) T rfl (by unfold FU; decide) hO' (hL.y hK) (Or.inl rfl) hK hR g3 g4 hTq h345 hG
    rw [show ((0 : Nat) : Int) = 0 from rfl] at u1
    exact ⟨T', u1, ⟨u2, u3, u4, u5⟩, fun b x hb hx => IsM_same (u6 b x hb hx) (fun t => Zn_64 (fun w hw => (seN_i hN hw).2))⟩
theorem ahd_l {N : Nat → Nat → Int} {nW nP p w q l : Nat} {law : Option (List Lin)} {S : Mem} {K : Mem → Option Mem} (hN : NR N nW nP) (hO : OC N nW nP S) (hL : LC law S) (hp : p ≤ 5) (hw : w < nW) (hq : QL q l) (g3 : gR S 34 3 = some q) (g4 : gR S 34 4 = some l) (hB : NWp nW (soN N) (seN N) (prN law N) p S q) : ∀ (r a fu : Nat) (T : Mem), a + r = 4 → r < fu → YS S T q l → LGp nW (soN N) (seN N) (prN law N) p w a 0 T l → ∃ T', g_X6_refresh_L88 K (p : Int) (w : Int) fu (a : Int) T = K T' ∧ YS S T' q l ∧ LGp nW (soN N) (seN N) (prN law N) p w 4 0 T' l := by
  intro r
  induction r with
  | zero =>
    intro a fu T ha hf hY hG
    obtain ⟨fu, rfl⟩ : ∃ k, fu = k + 1 := ⟨fu - 1, by omega⟩
    have ha : a = 4 := ha
    subst ha
    rw [g_X6_refresh_L88.eq_2, if_pos (by decide)]
    exact ⟨T, rfl, hY, hG⟩
  | succ r ih =>
    intro a fu T ha hf hY hG
    obtain ⟨fu, rfl⟩ : ∃ k, fu = k + 1 := ⟨fu - 1, by omega⟩
    obtain ⟨T1, u1, u2, u3⟩ := len_c' hN hO hL hp hw (show a < 4 by omega) hq g3 g4 hB hY hG
    rw [g_X6_refresh_L88.eq_2, if_neg (show ¬ (3 : Int) < (a : Int) by omega), u1, bS, w32_a a (by omega)]
    exact ih (a + 1) fu T1 (by omega) (by omega) u2 u3
theorem wrd_l {N : Nat → Nat → Int} {nW nP p q l : Nat} {law : Option (List Lin)} {S : Mem} {K : Mem → Option Mem} (hN : NR N nW nP) (hO : OC N nW nP S) (hL : LC law S) (hp : p ≤ 5) (hq : QL q l) (g3 : gR S 34 3 = some q) (g4 : gR S 34 4 = some l) (hB : NWp nW (soN N) (seN N) (prN law N) p S q) : ∀ (r w fu : Nat) (T : Mem), w + r = nW → r < fu → YS S T q l → LGp nW (soN N) (seN N) (prN law N) p w 0 0 T l → ∃ T', g_X6_refresh_L75 K (p : Int) fu (w : Int) T = K T' ∧ YS S T' q l ∧ NWp nW (soN N) (seN N) (prN law N) (p + 1) T' l := by
  have nW12 := hN.1.1
  intro r
  induction r with
  | zero =>
    intro w fu T hw hf hY hG
    obtain ⟨fu, rfl⟩ : ∃ k, fu = k + 1 := ⟨fu - 1, by omega⟩
    have hw : w = nW := hw
    subst hw
    rw [g_X6_refresh_L75.eq_2, (hO.y hY.1).2.1.1, if_pos (by omega)]
    exact ⟨T, rfl, hY, fun b x hb hx => IsM_same (hG b x hb hx) (fun t => Zn_e)⟩
  | succ r ih =>
    intro w fu T hw hf hY hG
    obtain ⟨fu, rfl⟩ : ∃ k, fu = k + 1 := ⟨fu - 1, by omega⟩
    obtain ⟨T1, u1, u2, u3⟩ := ahd_l (K := fun S10 => g_X6_refresh_L75 K (p : Int) fu ((w + 1 : Nat) : Int) S10) hN hO hL hp (show w < nW by omega) hq g3 g4 hB 4 0 FU T rfl (by unfold FU; decide) hY hG
    rw [show ((0 : Nat) : Int) = 0 from rfl] at u1
    rw [g_X6_refresh_L75.eq_2, (hO.y hY.1).2.1.1, if_neg (show ¬ (nW : Int) ≤ (w : Int) by omega), w32_a w (by omega), u1]
    exact ih (w + 1) fu T1 (by omega) (by omega) u2 (fun b x hb hx => IsM_same (u3 b x hb hx) (fun t => Zn_4 (fun w hw => by have := (soN_i hN hw).2; omega)))
/-- right ones of a sense, so many words at most -/
def Bs (nW : Nat) (so se : Nat → Nat) (m s : Nat) (t : List Nat) : Prop := t.length ≤ m ∧ Vp nW so 3 t ∧ sen se t = s
def St (nW : Nat) (so se : Nat → Nat) (p last x s : Nat) (t : List Nat) : Prop := Bs nW so se p s t ∨ ∃ b, Xn nW so se (p + 1) b s t ∧ (b = 1 ∨ b = 2) ∧ (b < last ∨ (b = last ∧ s < x))
theorem enc_or {P W m : Nat} (hW : W < 16777216) (hm : m < 16) : (P * 268435456 + W) ||| (m * 2 ^ 24) = P * 268435456 + W + m * 16777216 := by
  have e1 : P * 268435456 + W = 2 ^ 28 * P ||| W := by
    rw [← Nat.two_pow_add_eq_or_of_lt (i := 28) (by omega)]
    omega
  have e2 : W ||| m * 2 ^ 24 = 2 ^ 24 * m + W := by
    rw [Nat.or_comm, Nat.mul_comm m, ← Nat.two_pow_add_eq_or_of_lt (i := 24) hW]
  rw [e1, Nat.or_assoc, e2, ← Nat.two_pow_add_eq_or_of_lt (i := 28) (by omega), ← Nat.two_pow_add_eq_or_of_lt (i := 28) (by omega)]
  omega
theorem enc_m {nW m b s : Nat} {so se : Nat → Nat} {pr : Nat → Nat → Nat → Nat} {v : Int} (hW : nW ≤ 12) (hm : m ≤ 6) (hpr : ∀ w a p, w < nW → pr w a p ≤ 99) (h : IsM (ec so pr) (Xn nW so se m b s) v) (h0 : 0 ≤ v) : IsM (encT so pr) (Xn nW so se m b s) (o_lor v (o_lshl (m : Int) 24)) := by
  rcases h with ⟨h1, -⟩ | ⟨t, h1, h2, h3⟩
  · omega
  · have b1 : ∀ t', Xn nW so se m b s t' → pco so pr 3 0 t' ≤ 1000 ∧ wds 0 t' < 16777216 := fun t' q => by
      have hw' := chn_w t' 3 b q.2.1
      have h4 := pco_le (so := so) hpr t' 3 0 hw'
      have h5 := wds_lt t' (fun w z => by have := hw' w z; omega)
      rw [q.1] at h4 h5
      exact ⟨by omega, Nat.lt_of_lt_of_le h5 (Nat.le_trans (Nat.pow_le_pow_right (by decide) hm) (by decide))⟩
    obtain ⟨b2, b3⟩ := b1 t h1
    have ee : ∀ t', Xn nW so se m b s t' → encT so pr t' = ec so pr t' + m * 16777216 := fun t' q => by
      unfold encT ec
      rw [q.1, show (2 : Nat) ^ 28 = 268435456 from rfl, show (2 : Nat) ^ 24 = 16777216 from rfl]
      omega
    have eo : o_lor v (o_lshl (m : Int) 24) = ((ec so pr t + m * 16777216 : Nat) : Int) := by
      have el : ec so pr t = pco so pr 3 0 t * 268435456 + wds 0 t := rfl
      generalize pco so pr 3 0 t = P at b2 el
      generalize wds 0 t = W at b3 el
      rw [h2, el, show (24 : Int) = ((24 : Nat) : Int) from rfl, olshl (by decide) (by omega), olor (by omega) (by omega)]
      rw [enc_or b3 (by omega)]
    rw [eo]
    exact Or.inr ⟨t, h1, by rw [ee t h1], fun t' q => by rw [ee t h1, ee t' q]; have := h3 t' q; omega⟩
def BSt (nW : Nat) (so se : Nat → Nat) (pr : Nat → Nat → Nat → Nat) (p last x : Nat) (S : Mem) : Prop := ∀ s, s < 64 → IsM (encT so pr) (St nW so se p last x s) (gI S 35 s)
theorem set_l {nW p q l last : Nat} {so se : Nat → Nat} {pr : Nat → Nat → Nat → Nat} {K : Mem → Option Mem} (hW : nW ≤ 12) (hp : p ≤ 5) (hpr : ∀ w a p, w < nW → pr w a p ≤ 99) (hq : QL q l) (hl : last < 3) : ∀ (r x fu : Nat) (T : Mem), x + r = 64 → r < fu → gR T 34 3 = some q → NWp nW so se pr (p + 1) T q → BSt nW so se pr p last x T → ∃ T', g_X6_settle_L9 K ((p + 1 : Nat) : Int) (last : Int) fu (x : Int) T = K T' ∧ (∀ c, c ≠ 35 → gI T' c = gI T c) ∧ (∀ c, gR T' c = gR T c) ∧ BSt nW so se pr p last 64 T' := by
  obtain ⟨ty1, ty2, l1, l2, ne, hq1, hl1⟩ := hq.ty
  intro r
  induction r with
  | zero =>
    intro x fu T hx hf g3 hB hS
    obtain ⟨fu, rfl⟩ : ∃ k, fu = k + 1 := ⟨fu - 1, by omega⟩
    have hx : x = 64 := hx
    subst hx
    rw [g_X6_settle_L9.eq_2, if_pos (by decide)]
    exact ⟨T, rfl, fun _ _ => rfl, fun _ => rfl, hS⟩
  | succ r ih =>
    intro x fu T hx hf g3 hB hS
    obtain ⟨fu, rfl⟩ : ∃ k, fu = k + 1 := ⟨fu - 1, by omega⟩
    have hx64 : x < 64 := by omega
    have ix : 64 * last + x < 256 := by omega
    have hv := hB last x (by omega) hx64
    have skip : (∀ t, ¬ (Xn nW so se (p + 1) last x t ∧ (last = 1 ∨ last = 2))) → BSt nW so se pr p last (x + 1) T := fun hno s hs => IsM_same (hS s hs) (fun t => by
      constructor
      · rintro (h | ⟨b, h1, h2, h3⟩)
        · exact Or.inl h
        · refine Or.inr ⟨b, h1, h2, ?_⟩
          rcases h3 with h3 | ⟨h3, h4⟩
          · exact Or.inl h3
          · refine Or.inr ⟨h3, ?_⟩
            by_cases e : s = x
            · subst e
              subst h3
              exact absurd ⟨h1, h2⟩ (hno t)
            · omega
      · rintro (h | ⟨b, h1, h2, h3⟩)
        · exact Or.inl h
        · exact Or.inr ⟨b, h1, h2, by omega⟩)
    rw [g_X6_settle_L9.eq_2, if_neg (show ¬ (64 : Int) ≤ (x : Int) by omega), g3, bS, idx_v (by omega) hx64, ldd_c ty1 l1 ix, bS, end_c last (by omega), w32_a x (by omega)]
    by_cases c0 : gI T q (64 * last + x) < 0
    · have cl : lcm (gI T q (64 * last + x)) 0 < 0 := by
        unfold lcm
        rw [if_neg (by omega), if_neg (by omega)]
        decide
      rw [if_pos cl]
      refine ih (x + 1) fu T (by omega) (by omega) g3 hB (skip (fun t z => ?_))
      rcases hv with ⟨-, h⟩ | ⟨t', -, h, -⟩
      · exact h t z.1
      · omega
    · have cl : ¬ lcm (gI T q (64 * last + x)) 0 < 0 := by
        unfold lcm
        split
        · decide
        · split
          · decide
          · omega
      rw [if_neg cl]
      by_cases c1 : last = 1 ∨ last = 2
      · rw [if_pos c1, i10, ldk_c hx64, bS, stk_c hx64, bS]
        have en := enc_m hW (show p + 1 ≤ 6 by omega) hpr hv (by omega)
        obtain ⟨T', a1, a2, a3, a4⟩ := ih (x + 1) fu (sI T 35 x (g_X6_firstOf (gI T 35 x) (o_lor (gI T q (64 * last + x)) (o_lshl ((p + 1 : Nat) : Int) 24)))) (by omega) (by omega) g3 (fun a s ha hs => by rw [gI_ne (by omega)]; exact hB a s ha hs) (fun s hs => by
          by_cases e : s = x
          · subst e
            rw [gI_eq]
            refine IsM_u (hS s hs) en (fun t => ?_)
            constructor
            · rintro (h | ⟨b, h1, h2, h3⟩)
              · exact Or.inl (Or.inl h)
              · by_cases e : b = last
                · subst e
                  exact Or.inr h1
                · exact Or.inl (Or.inr ⟨b, h1, h2, by omega⟩)
            · rintro ((h | ⟨b, h1, h2, h3⟩) | h)
              · exact Or.inl h
              · exact Or.inr ⟨b, h1, h2, by omega⟩
              · exact Or.inr ⟨last, h, c1, by omega⟩
          · rw [gI_ek e]
            refine IsM_same (hS s hs) (fun t => ?_)
            constructor
            · rintro (h | ⟨b, h1, h2, h3⟩)
              · exact Or.inl h
              · exact Or.inr ⟨b, h1, h2, by omega⟩
            · rintro (h | ⟨b, h1, h2, h3⟩)
              · exact Or.inl h
              · exact Or.inr ⟨b, h1, h2, by omega⟩)
        exact ⟨T', a1, fun c hc => by rw [a2 c hc, gI_ne hc], a3, a4⟩
      · rw [if_neg c1, i00]
        exact ih (x + 1) fu T (by omega) (by omega) g3 hB (skip (fun t z => c1 z.2))
theorem settle_c {nW p q l : Nat} {so se : Nat → Nat} {pr : Nat → Nat → Nat → Nat} (hW : nW ≤ 12) (hp : p ≤ 5) (hpr : ∀ w a p, w < nW → pr w a p ≤ 99) (hse : ∀ w, w < nW → se w < 64) (hq : QL q l) : ∀ (r last fu : Nat) (T : Mem), last + r = 3 → r < fu → gR T 34 3 = some q → NWp nW so se pr (p + 1) T q → BSt nW so se pr p last 0 T → ∃ T', g_X6_settle_L2 ((p + 1 : Nat) : Int) fu (last : Int) T = some T' ∧ (∀ c, c ≠ 35 → gI T' c = gI T c) ∧ (∀ c, gR T' c = gR T c) ∧ ∀ s, s < 64 → IsM (encT so pr) (Bs nW so se (p + 1) s) (gI T' 35 s) := by
  obtain ⟨ty1, ty2, l1, l2, ne, hq1, hl1⟩ := hq.ty
  intro r
  induction r with
  | zero =>
    intro last fu T hx hf g3 hB hS
    obtain ⟨fu, rfl⟩ : ∃ k, fu = k + 1 := ⟨fu - 1, by omega⟩
    have hx : last = 3 := hx
    subst hx
    rw [g_X6_settle_L2.eq_2, if_pos (by decide)]
    refine ⟨T, rfl, fun _ _ => rfl, fun _ => rfl, fun s hs => IsM_same (hS s hs) (fun t => ?_)⟩
    constructor
    · rintro ⟨h1, h2, h3⟩
      by_cases e : t.length = p + 1
      · obtain ⟨b, h4, h5⟩ := (chn_v t 3).mp h2
        exact Or.inr ⟨b, ⟨e, h4, h3⟩, h5, by omega⟩
      · exact Or.inl ⟨by omega, h2, h3⟩
    · rintro (⟨h1, h2, h3⟩ | ⟨b, ⟨h1, h2, h3⟩, h4, h5⟩)
      · exact ⟨by omega, h2, h3⟩
      · exact ⟨by omega, (chn_v t 3).mpr ⟨b, h2, h4⟩, h3⟩
  | succ r ih =>
    intro last fu T hx hf g3 hB hS
    obtain ⟨fu, rfl⟩ : ∃ k, fu = k + 1 := ⟨fu - 1, by omega⟩
    obtain ⟨T1, a1, a2, a3, a4⟩ := set_l (K := fun S5 => g_X6_settle_L2 ((p + 1 : Nat) : Int) fu ((last + 1 : Nat) : Int) S5) hW hp hpr hq (show last < 3 by omega) 64 0 FU T rfl (by unfold FU; decide) g3 hB hS
    rw [show ((0 : Nat) : Int) = 0 from rfl] at a1
    obtain ⟨T2, b1, b2, b3, b4⟩ := ih (last + 1) fu T1 (by omega) (by omega) (by rw [a3]; exact g3) (fun a s ha hs => by rw [a2 q (by omega)]; exact hB a s ha hs) (fun s hs => IsM_same (a4 s hs) (fun t => by
      constructor
      · rintro (h | ⟨b, h1, h2, h3⟩)
        · exact Or.inl h
        · exact Or.inr ⟨b, h1, h2, by omega⟩
      · rintro (h | ⟨b, h1, h2, h3⟩)
        · exact Or.inl h
        · exact Or.inr ⟨b, h1, h2, by omega⟩))
    rw [g_X6_settle_L2.eq_2, if_neg (show ¬ (3 : Int) ≤ (last : Int) by omega), w32_a last (by omega), a1]
    try simp only []
    rw [b1]
    exact ⟨T2, rfl, fun c hc => by rw [b2 c hc, a2 c hc], fun c => by rw [b3, a3], b4⟩
theorem plc_l {N : Nat → Nat → Int} {nW nP : Nat} {law : Option (List Lin)} (hN : NR N nW nP) : ∀ (r p fu q l : Nat) (S : Mem), p + r = 6 → r < fu → OC N nW nP S → LC law S → QL q l → gR S 34 3 = some q → gR S 34 4 = some l → NWp nW (soN N) (seN N) (prN law N) p S q → (∀ s, s < 64 → IsM (encT (soN N) (prN law N)) (Bs nW (soN N) (seN N) p s) (gI S 35 s)) → ∃ (S' : Mem) (q' l' : Nat), g_X6_refresh_L57 fu (p : Int) S = some S' ∧ KY S S' ∧ QL q' l' ∧ gR S' 34 3 = some q' ∧ gR S' 34 4 = some l' ∧ gI S' 34 = gI S 34 ∧ ∀ s, s < 64 → IsM (encT (soN N) (prN law N)) (Bs nW (soN N) (seN N) 6 s) (gI S' 35 s) := by
  have nW12 := hN.1.1
  have hpr : ∀ w a p, w < nW → prN law N w a p ≤ 99 := fun w a p h => (prN_i hN h).2
  intro r
  induction r with
  | zero =>
    intro p fu q l S hp hf hO hL hq g3 g4 hB hS
    obtain ⟨fu, rfl⟩ : ∃ k, fu = k + 1 := ⟨fu - 1, by omega⟩
    have hp : p = 6 := hp
    subst hp
    rw [g_X6_refresh_L57.eq_2, if_pos (by decide)]
    exact ⟨S, q, l, rfl, KY.rf S, hq, g3, g4, rfl, hS⟩
  | succ r ih =>
    intro p fu q l S hp hf hO hL hq g3 g4 hB hS
    obtain ⟨fu, rfl⟩ : ∃ k, fu = k + 1 := ⟨fu - 1, by omega⟩
    obtain ⟨ty1, ty2, l1, l2, ne, hq1, hl1⟩ := hq.ty
    obtain ⟨S1, a1, a2, a3, a4⟩ := fill_g (-1) S ty2 l2 (by decide)
    have k1 : KY S S1 := ⟨fun c h1 h2 h3 h4 h5 h6 h7 => a2 c (by omega), fun k _ => by rw [a2 13 (by omega)], fun c _ => a3 c⟩
    have hB1 : NWp nW (soN N) (seN N) (prN law N) p S1 q := fun a s ha hs => by rw [a2 q ne]; exact hB a s ha hs
    obtain ⟨S2, b1, b2, b3⟩ := wrd_l (K := fun S11 => (gR S11 34 3).bind fun q12 => (gR S11 34 4).bind fun q13 => ap (sR S11 34 3 (some q13)) fun S14 => ap (sR S14 34 4 (some q12)) fun S15 => (g_X6_settle ((p + 1 : Nat) : Int) S15).bind fun S16 => g_X6_refresh_L57 fu ((p + 1 : Nat) : Int) S16) hN (hO.y k1) (hL.y k1) (show p ≤ 5 by omega) hq (by rw [a3]; exact g3) (by rw [a3]; exact g4) hB1 nW 0 FU S1 (Nat.zero_add _) (Nat.lt_of_le_of_lt nW12 (by unfold FU; decide)) ⟨KY.rf S1, rfl, rfl, rfl, rfl⟩ (fun b x hb hx => Or.inl ⟨a4 _ (by omega), fun t ht => by
      obtain ⟨p', v, c, -, -, -, -, -, -, -, h8⟩ := ht
      omega⟩)
    obtain ⟨c1, c2, c3, c4, c5⟩ := b2
    have r3 : gR S2 34 3 = some q := by rw [c2, a3]; exact g3
    have r4 : gR S2 34 4 = some l := by rw [c2, a3]; exact g4
    -- the rows change places
    have gs : ∀ (S : Mem) (k : Nat) (v : Option Nat) (k' : Nat), gR (sR S 34 k v) 34 k' = if k' = k then v else gR S 34 k' := fun S k v k' => by
      show (if 34 = 34 ∧ k' = k then v else gR S 34 k') = _
      by_cases e : k' = k
      · rw [if_pos ⟨rfl, e⟩, if_pos e]
      · rw [if_neg (fun z => e z.2), if_neg e]
    have gn : ∀ (S : Mem) (k : Nat) (v : Option Nat) (c : Nat), c ≠ 34 → gR (sR S 34 k v) c = gR S c := fun S k v c hc => by
      funext k'
      show (if c = 34 ∧ k' = k then v else gR S c k') = _
      rw [if_neg (fun z => hc z.1)]
    have kS : KY S (sR (sR S2 34 3 (some l)) 34 4 (some q)) := (k1.tr c1).tr ⟨fun c _ _ _ _ _ _ _ => rfl, fun k _ => rfl, fun c hc => by rw [gn _ _ _ c hc, gn _ _ _ c hc]⟩
    have hql : QL l q := by
      rcases hq with ⟨z1, z2⟩ | ⟨z1, z2⟩
      · exact Or.inr ⟨z2, z1⟩
      · exact Or.inl ⟨z2, z1⟩
    have q3 : gR (sR (sR S2 34 3 (some l)) 34 4 (some q)) 34 3 = some l := by rw [gs, if_neg (by decide), gs, if_pos rfl]
    have q4 : gR (sR (sR S2 34 3 (some l)) 34 4 (some q)) 34 4 = some q := by rw [gs, if_pos rfl]
    obtain ⟨S3, d1, d2, d3, d4⟩ := settle_c (p := p) (so := soN N) (se := seN N) (pr := prN law N) nW12 (by omega) hpr (fun w hw => (seN_i hN hw).2) hql 3 0 FU (sR (sR S2 34 3 (some l)) 34 4 (some q)) rfl (by unfold FU; decide) q3 b3 (fun s hs => by
      show IsM _ _ (gI S2 35 s)
      rw [c5, a2 35 (by omega)]
      refine IsM_same (hS s hs) (fun t => ⟨fun h => ?_, Or.inl⟩)
      rcases h with h | ⟨b, -, h2, h3⟩
      · exact h
      · omega)
    rw [show ((0 : Nat) : Int) = 0 from rfl] at d1 b1
    have k3 : KY S S3 := kS.tr ⟨fun c _ _ _ _ h5 _ _ => d2 c h5, fun k _ => by rw [d2 13 (by decide)], fun c _ => d3 c⟩
    obtain ⟨S4, q', l', e1, e2, e3, e4, e5, e6, e7⟩ := ih (p + 1) fu l q S3 (by omega) (by omega) (hO.y k3) (hL.y k3) hql (by rw [d3]; exact q3) (by rw [d3]; exact q4) (fun a s ha hs => by rw [d2 l (by omega)]; exact b3 a s ha hs) d4
    rw [g_X6_refresh_L57.eq_2, if_neg (show ¬ (6 : Int) ≤ (p : Int) by omega), g4, bS, a1, bS, w32_a p (by omega), b1]
    try simp only []
    rw [r3, bS, r4, bS]
    simp only [ap]
    unfold g_X6_settle
    rw [d1, bS, e1]
    refine ⟨S4, q', l', rfl, k3.tr e2, e3, e4, e5, ?_, e7⟩
    rw [e6, d2 34 (by decide)]
    show gI S2 34 = gI S 34
    rw [c4, a2 34 (by omega)]
theorem BO_of {nW : Nat} {so se : Nat → Nat} {pr : Nat → Nat → Nat → Nat} {best : Nat → Int} (h : ∀ s, s < 64 → IsM (encT so pr) (Bs nW so se 6 s) (best s)) : BO best nW so se pr := fun s hs => by
  rcases h s hs with ⟨a, b⟩ | ⟨t, ⟨a1, a2, a3⟩, b, c⟩
  · exact ⟨fun t h1 h2 h3 => absurd ⟨h1, h2, h3⟩ (b t), Or.inl a⟩
  · refine ⟨fun t' h1 h2 h3 => ?_, Or.inr ⟨t, a1, a2, a3, b⟩⟩
    have := c t' ⟨h1, h2, h3⟩
    omega
theorem of_BO {nW : Nat} {so se : Nat → Nat} {pr : Nat → Nat → Nat → Nat} {best : Nat → Int} (h : BO best nW so se pr) : ∀ s, s < 64 → IsM (encT so pr) (Bs nW so se 6 s) (best s) := fun s hs => by
  obtain ⟨h1, h2⟩ := h s hs
  rcases h2 with h2 | ⟨t, a1, a2, a3, b⟩
  · refine Or.inl ⟨h2, fun t ht => ?_⟩
    have := (h1 t ht.1 ht.2.1 ht.2.2).1
    omega
  · refine Or.inr ⟨t, ⟨a1, a2, a3⟩, b, fun t' ht' => ?_⟩
    have := (h1 t' ht'.1 ht'.2.1 ht'.2.2).2
    omega
/-- all senses are known -/
theorem fresh_c {b nW nP : Nat} {law : Option (List Lin)} {S : Mem} (hN : NR (nu S) nW nP) (hO : OC (nu S) nW nP S) (hL : LC law S) (hY : RY b nW law S) : ∃ S', g_X6_refresh S = some S' ∧ KY S S' ∧ RY b nW law S' ∧ ∀ s, s < 64 → IsM (encT (soN (nu S)) (prN law (nu S))) (Bs nW (soN (nu S)) (seN (nu S)) 6 s) (gI S' 35 s) := by
  have hYY := hY
  obtain ⟨h0, h1, h2⟩ := hY
  unfold g_X6_refresh
  by_cases c : gI S 34 5 = gI S 1 3
  · rw [if_pos c]
    exact ⟨S, rfl, KY.rf S, hYY, of_BO (h2 c)⟩
  · rw [if_neg c]
    simp only [ap]
    obtain ⟨q, l, hq, g3, g4⟩ : ∃ q l, QL q l ∧ gR S 34 3 = some q ∧ gR S 34 4 = some l := by
      rcases h0 with z | z
      · exact ⟨36, 37, Or.inl ⟨rfl, rfl⟩, z.1, z.2⟩
      · exact ⟨37, 36, Or.inr ⟨rfl, rfl⟩, z.1, z.2⟩
    obtain ⟨ty1, ty2, l1, l2, ne, hq1, hl1⟩ := hq.ty
    obtain ⟨S1, a1, a2, a3, a4⟩ := fill_g (-1) (sI S 34 5 (gI S 1 3)) (show tyc 35 = (2, 64) from rfl) (by decide) (by decide)
    obtain ⟨S2, b1, b2, b3, b4⟩ := fill_g (-1) S1 ty1 l1 (by decide)
    have r3 : gR S2 34 3 = some q := by rw [b3, a3]; exact g3
    have r4 : gR S2 34 4 = some l := by rw [b3, a3]; exact g4
    have k : KY S (sI S2 q 192 0) := ⟨fun c h1 h2 h3 h4 h5 h6 h7 => by rw [gI_ne (by omega), b2 c (by omega), a2 c h5, gI_ne h4], fun k _ => by rw [gI_ne (by omega), b2 13 (by omega), a2 13 (by decide), gI_ne (by decide)], fun c _ => by rw [show gR (sI S2 q 192 0) c = gR S2 c from rfl, b3, a3]; rfl⟩
    obtain ⟨S3, q', l', e1, e2, e3, e4, e5, e6, e7⟩ := plc_l hN 6 0 FU q l (sI S2 q 192 0) rfl (by unfold FU; decide) (hO.y k) (hL.y k) hq r3 r4 (fun a s ha hs => by
      rw [gI_sI]
      by_cases e : a = 3 ∧ s = 0
      · obtain ⟨rfl, rfl⟩ := e
        rw [if_pos ⟨rfl, rfl⟩]
        refine Or.inr ⟨[], ⟨rfl, rfl, rfl⟩, by show (0 : Int) = ((0 * 268435456 + 0 : Nat) : Int); rw [Nat.zero_mul]; rfl, fun t' ht' => ?_⟩
        rw [List.eq_nil_of_length_eq_zero ht'.1]
        exact Nat.le_refl _
      · rw [if_neg (by omega), b4 _ (by omega)]
        refine Or.inl ⟨rfl, fun t ht => e ?_⟩
        have hn := List.eq_nil_of_length_eq_zero ht.1
        rw [hn] at ht
        exact ⟨(show 3 = a from ht.2.1).symm, (show 0 = s from ht.2.2).symm⟩) (fun s hs => by
      rw [gI_ne (by omega), b2 35 (by omega), a4 s hs]
      refine Or.inl ⟨rfl, fun t ht => ?_⟩
      have hn := List.eq_nil_of_length_eq_zero (Nat.le_zero.mp ht.1)
      rw [hn] at ht
      have : (3 : Nat) = 1 ∨ (3 : Nat) = 2 := ht.2.1
      omega)
    have ks := k.tr e2
    rw [show ((0 : Nat) : Int) = 0 from rfl] at e1
    have sd : std S2 2 q 192 0 = some (sI S2 q 192 0) := std_c (k := 192) ty1 l1 (by decide)
    rw [a1, bS, a3, show gR (sI S 34 5 (gI S 1 3)) 34 3 = gR S 34 3 from rfl, g3, bS, b1, bS, r3, bS, sd, bS, e1]
    have e34 : gI S3 34 5 = gI S 1 3 := by rw [e6, gI_ne (by omega), b2 34 (by omega), a2 34 (by decide), gI_eq]
    have k1 : gI S3 1 = gI S 1 := ks.1 1 (by decide) (by decide) (by decide) (by decide) (by decide) (by decide) (by decide)
    have nuk : ∀ w, w < 10 → nu S3 w = nu S w := fun w hw => by
      funext i
      unfold nu
      rw [ks.1 (3 + w) (by omega) (by omega) (by omega) (by omega) (by omega) (by omega) (by omega)]
    refine ⟨S3, rfl, ks, ⟨?_, ?_, fun _ => ?_⟩, e7⟩
    · rcases e3 with ⟨z1, z2⟩ | ⟨z1, z2⟩
      · exact Or.inl ⟨by rw [e4, z1], by rw [e5, z2]⟩
      · exact Or.inr ⟨by rw [e4, z1], by rw [e5, z2]⟩
    · rw [e34, k1]
      omega
    · have u1 : soV S3 = soN (nu S) := funext fun w => by unfold soV soN; rw [nuk 2 (by decide)]
      have u2 : seV S3 = seN (nu S) := funext fun w => by unfold seV seN; rw [nuk 1 (by decide)]
      have u3 : prV law S3 = prN law (nu S) := funext fun w => funext fun a => funext fun p => by unfold prV prN; rw [nuk 0 (by decide), nuk 2 (by decide), nuk 7 (by decide)]
      rw [u1, u2, u3]
      exact BO_of e7
