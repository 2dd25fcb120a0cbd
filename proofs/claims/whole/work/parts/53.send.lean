/-! AN UNSIGNED ONE; A WIRE IN DEED -/
theorem i0l {α : Type} {a b : α} : (if (0 : Int) ≤ 0 then a else b) = a := if_pos (Int.le_refl _)
/-- one may have sent it -/
def maS (N : Nat → Nat → Int) (s paid : Int) (i : Nat) : Prop := o_and s (o_xor (N 6 i) (-1)) = 0 ∧ paid ≤ N 5 i
theorem may_c {N : Nat → Nat → Int} {nW nP : Nat} {S : Mem} (hN : NR N nW nP) (hO : OC N nW nP S) (s paid : Int) {i : Nat} (hi : i < nP) : (maS N s paid i → g_X9_maySend (i : Int) s paid S = some 1) ∧ (¬ maS N s paid i → g_X9_maySend (i : Int) s paid S = some 0) := by
  have v5 := val_o hN hO (w := 5) (n := i) (by decide) hi
  have v6 := val_o hN hO (w := 6) (n := i) (by decide) hi
  rw [show ((5 : Nat) : Int) = 5 from rfl] at v5
  rw [show ((6 : Nat) : Int) = 6 from rfl] at v6
  unfold g_X9_maySend maS
  rw [v6, bS, v5, bS]
  refine ⟨fun h => ?_, fun h => ?_⟩
  · rw [if_pos h.1, if_neg (by omega)]
  · by_cases c : o_and s (o_xor (N 6 i) (-1)) = 0
    · rw [if_pos c]
      by_cases c2 : paid ≤ N 5 i
      · exact absurd ⟨c, c2⟩ h
      · rw [if_pos (by omega)]
    · rw [if_neg c]
theorem uns_l {N : Nat → Nat → Int} {nW nP : Nat} {law : Option (List Lin)} {ws : List Nat} {S : Mem} {K : Int → Int → Mem → Option (Int × Mem)} {K' : Int → Int → Mem → Option (Int × Mem)} {x y : Int} (hN : NR N nW nP) (hO : OC N nW nP S) : ∀ (m i fu a : Nat) (best : Int) (T : Mem), OM N nW nP T → LM law T → TW nW T ws → i + m = nP → m < fu → a < 64 → (best = -2 ∨ ∃ p : Nat, p < nP ∧ best = p) → ∃ (set' best' : Int) (T' : Mem), g_X9_unsigned_L53 K x ((orT (sw N ws) ws.length : Nat) : Int) ((sumT (pw law N ws) ws.length : Nat) : Int) fu (a : Int) best (i : Int) S = K set' best' S ∧ g_X10_unsigned_L46 K' y fu best (a : Int) (i : Int) T = K' best' set' T' ∧ KQ T T' := by
  intro m
  induction m with
  | zero =>
    intro i fu a best T hM hL hT hi hf ha hb
    obtain ⟨fu, rfl⟩ : ∃ k, fu = k + 1 := ⟨fu - 1, by omega⟩
    refine ⟨a, best, T, ?_, ?_, KQ.rf T⟩
    · rw [g_X9_unsigned_L53.eq_2, hO.2.1.2, if_pos (by omega)]
    · rw [g_X10_unsigned_L46.eq_2, hM.1.2, if_pos (by omega)]
  | succ m ih =>
    intro i fu a best T hM hL hT hi hf ha hb
    obtain ⟨fu, rfl⟩ : ∃ k, fu = k + 1 := ⟨fu - 1, by omega⟩
    have h6 := hN.1.2
    have hp : i < nP := by omega
    have hi6 : i < 6 := by omega
    have n1 : ¬ (nP : Int) ≤ (i : Int) := by omega
    have m5 : gI T 62 i = N 5 i := hM.2 5 i (by decide) hp
    have m6 : gI T 63 i = N 6 i := hM.2 6 i (by decide) hp
    have v5 := val_o hN hO (w := 5) (n := i) (by decide) hp
    rw [show ((5 : Nat) : Int) = 5 from rfl] at v5
    obtain ⟨c1, c2⟩ := may_c hN hO ((orT (sw N ws) ws.length : Nat) : Int) ((sumT (pw law N ws) ws.length : Nat) : Int) hp
    obtain ⟨q1, q2⟩ := p64 (show i ≤ 6 by omega)
    have p5 : 2 ^ i < 2 ^ 6 := Nat.pow_lt_pow_right (by decide) hi6
    have eo : o_or (a : Int) (o_shl 1 (i : Int)) = ((a ||| 2 ^ i : Nat) : Int) := by rw [shl1 (by omega), oor (by omega) (by omega)]
    have ho : a ||| 2 ^ i < 64 := or_lt 6 ha p5
    rw [g_X9_unsigned_L53.eq_2, g_X10_unsigned_L46.eq_2, hO.2.1.2, hM.1.2, if_neg n1, if_neg n1, sense_m hN hM hT, bS, ldk_c hi6, bS, m6, w32_a i (by omega), eo]
    by_cases h : maS N ((orT (sw N ws) ws.length : Nat) : Int) ((sumT (pw law N ws) ws.length : Nat) : Int) i
    · obtain ⟨T1, p1, p2⟩ := priceAll_m (law := law) hN hM hL hT
      have hM1 := hM.v p2.v
      rw [c1 h, bS, if_neg (by decide), if_pos h.1, ldk_c hi6, bS, p1, bd2S, m5, if_pos h.2]
      rcases hb with rfl | ⟨p, hp', rfl⟩
      · rw [if_pos (by decide), if_pos (by decide)]
        obtain ⟨s', b', T', a1, a2, a3⟩ := ih (i + 1) fu (a ||| 2 ^ i) (i : Int) T1 hM1 (hL.v p2.v) (hT.v p2.v) (by omega) (by omega) ho (Or.inr ⟨i, hp, rfl⟩)
        exact ⟨s', b', T', a1, a2, p2.tr a3⟩
      · have w5 := val_o hN hO (w := 5) (n := p) (by decide) hp'
        rw [show ((5 : Nat) : Int) = 5 from rfl] at w5
        have k5 : gI T1 62 i = N 5 i := hM1.2 5 i (by decide) hp
        have k5' : gI T1 62 p = N 5 p := hM1.2 5 p (by decide) hp'
        have n2 : ¬ (p : Int) < 0 := by omega
        have hp6 : p < 6 := by omega
        rw [if_neg n2, if_neg n2, v5, bS, w5, bS, ldk_c hi6, bS, ldk_c hp6, bS, k5, k5']
        by_cases c : N 5 i ≤ N 5 p
        · rw [if_pos c, if_pos c]
          obtain ⟨s', b', T', a1, a2, a3⟩ := ih (i + 1) fu (a ||| 2 ^ i) (p : Int) T1 hM1 (hL.v p2.v) (hT.v p2.v) (by omega) (by omega) ho (Or.inr ⟨p, hp', rfl⟩)
          exact ⟨s', b', T', a1, a2, p2.tr a3⟩
        · rw [if_neg c, if_neg c]
          obtain ⟨s', b', T', a1, a2, a3⟩ := ih (i + 1) fu (a ||| 2 ^ i) (i : Int) T1 hM1 (hL.v p2.v) (hT.v p2.v) (by omega) (by omega) ho (Or.inr ⟨i, hp, rfl⟩)
          exact ⟨s', b', T', a1, a2, p2.tr a3⟩
    · rw [c2 h, bS, if_pos rfl]
      by_cases c : o_and ((orT (sw N ws) ws.length : Nat) : Int) (o_xor (N 6 i) (-1)) = 0
      · obtain ⟨T1, p1, p2⟩ := priceAll_m (law := law) hN hM hL hT
        rw [if_pos c, ldk_c hi6, bS, p1, bd2S, m5, if_neg (fun q => h ⟨c, q⟩)]
        obtain ⟨s', b', T', a1, a2, a3⟩ := ih (i + 1) fu a best T1 (hM.v p2.v) (hL.v p2.v) (hT.v p2.v) (by omega) (by omega) ha hb
        exact ⟨s', b', T', a1, a2, p2.tr a3⟩
      · rw [if_neg c]
        exact ih (i + 1) fu a best T hM hL hT (by omega) (by omega) ha hb
theorem m_unsigned {b : Nat} {Sc Sm : Mem} (h : IV b Sc Sm) (x y : Int) : Sim (b + 100) (g_X9_unsigned x y Sc) (g_X10_unsigned x y Sm) := by
  obtain ⟨nW, nP, nB, law, h⟩ := h
  have same : ∀ r, Sim (b + 100) (some (r, Sc)) (some (r, Sm)) := fun r => Sim.same ⟨nW, nP, nB, law, h⟩ (by omega)
  obtain ⟨hN, hO, hM, hL, hLm⟩ := ask_of h
  have e : ∀ z : Int, z < 0 → g_X9_unsigned_J18 y z Sc = some (z, Sc) := fun z hz => by unfold g_X9_unsigned_J18; rw [if_neg (by omega)]
  unfold g_X9_unsigned g_X10_unsigned
  rw [btw, inn, e _ (by decide)]
  rcases open_v h x with ⟨r, r0, r1, ⟨r2, r3⟩ | ⟨r2, r3, r4⟩⟩ | ⟨ws, S1, T1, s1, s2, s3, s4, s5, s6, s7, s8⟩
  · rw [r2, bS, i00, r1, bd2S, e _ r0, r3]
    split <;> exact same _
  · rw [r2, bS, i10, r1, bd2S, e _ r0, r4, bS, if_neg (show ¬ 0 ≤ r by omega)]
    split <;> exact same _
  · rw [s4, bS, i10, s1, bd2S, s5, bS, s6, bS, i0l]
    by_cases c : 0 ≤ y ∧ y ≤ 1
    · have hO1 := hO.t s2
      obtain ⟨S2, a1, a2, a3⟩ := costs_c hN hO1 (hL.t s2) s3
      rw [if_pos c, i10, i10]
      unfold g_X9_unsigned_J18 g_X8_senseOf
      obtain ⟨s', b', T', u1, u2, u3⟩ := uns_l (law := law) (ws := ws) (K := fun y8 y9 S7 => if y = 0 then some (y8, S7) else some (y9, S7)) (K' := fun y12 y13 S11 => if y = 0 then some (y13, S11) else some (y12, S11)) (x := y) (y := y) hN (hO1.u a2) nP 0 FU 0 (-2) T1 (hM.w s7) (hLm.w s7) s8 (Nat.zero_add _) (by have := hN.1; unfold FU; omega) (by decide) (Or.inl rfl)
      rw [show ((0 : Nat) : Int) = 0 from rfl] at u1 u2
      rw [if_pos rfl, s3.2.1, sense_c hN hO1 s3 (Nat.le_refl _), bS, bS, a1, bd2S, u1, u2]
      split
      · exact Sim.ask h (KC_tu s2 a2) (KM_wv s7 u3.v) (by omega)
      · exact Sim.ask h (KC_tu s2 a2) (KM_wv s7 u3.v) (by omega)
    · rw [if_neg c, i00, i00]
      exact same _
-- who wires, and to whom
theorem ab_v {z : Int} (hz : r32 z) : (0 ≤ z ∧ ∃ a c : Nat, w32 (Int.tdiv z 10) = a ∧ Int.tmod z 10 = c) ∨ (z < 0 ∧ w32 (Int.tdiv z 10) ≤ 0 ∧ Int.tmod z 10 ≤ 0 ∧ (w32 (Int.tdiv z 10) = 0 → Int.tmod z 10 = 0 → False)) := by
  unfold r32 at hz
  by_cases c : 0 ≤ z
  · refine Or.inl ⟨c, z.toNat / 10, z.toNat % 10, ?_, ?_⟩
    · rw [tdn 10 c, w32s (by omega) (by omega)]
      omega
    · rw [tmn 10 c]
      omega
  · obtain ⟨k, hk⟩ := nat_of (show 0 ≤ -z by omega)
    have e : z = -(k : Int) := by omega
    have e1 : Int.tdiv z 10 = -((k / 10 : Nat) : Int) := by
      rw [e, Int.neg_tdiv, tdn 10 (by omega)]
      rfl
    have e2 : Int.tmod z 10 = -((k % 10 : Nat) : Int) := by
      rw [e, Int.neg_tmod, tmn 10 (by omega)]
      rfl
    refine Or.inr ⟨by omega, ?_⟩
    rw [e1, e2, w32s (by omega) (by omega)]
    omega
theorem led_RD {nP : Nat} {S T S' T' : Mem} (h : RD nP S T) (hc : ∀ c, c ≠ 44 → gI S' c = gI S c) (hm : ∀ c, c ≠ 87 → gI T' c = gI T c) (hl : ∀ k, k < 5 → gI T' 87 k = gI S' 44 k) : RD nP S' T' := by
  obtain ⟨h1, h2⟩ := h
  refine ⟨hl, ?_⟩
  rw [hc 43 (by decide), hc 45 (by decide), hc 46 (by decide), hc 47 (by decide), hm 56 (by decide), hm 88 (by decide), hm 89 (by decide), hm 90 (by decide)]
  exact h2
theorem Inv_led {b nW nP nB : Nat} {law : Option (List Lin)} {S T S' T' : Mem} (h : Inv b nW nP nB law S T) (hc : ∀ c, c ≠ 44 → gI S' c = gI S c) (hr : ∀ c, gR S' c = gR S c) (hm : ∀ c, c ≠ 87 → gI T' c = gI T c) (hl : ∀ k, k < 5 → gI T' 87 k = gI S' 44 k) : Inv b nW nP nB law S' T' := Inv_RD h (fun c q => hc c (by omega)) hr (fun c q => hm c (by omega)) (fun k _ => by rw [hm 56 (by decide)]) (led_RD h.2.2.2.2.2.2.2.1 hc hm hl)
theorem led_of {b nW nP nB : Nat} {law : Option (List Lin)} {S T : Mem} (h : Inv b nW nP nB law S T) : ∀ k, k < 5 → gI T 87 k = gI S 44 k := h.2.2.2.2.2.2.2.1.1
theorem k5 {P : Nat → Prop} (h0 : P 0) (h1 : P 1) (h2 : P 2) (h3 : P 3) (h4 : P 4) : ∀ k, k < 5 → P k := by
  intro k hk
  match k, hk with
  | 0, _ => exact h0
  | 1, _ => exact h1
  | 2, _ => exact h2
  | 3, _ => exact h3
  | 4, _ => exact h4
/-- a refused one -/
theorem refuse_v {b b' nW nP nB : Nat} {law : Option (List Lin)} {S T : Mem} (r : Int) (h : Inv b nW nP nB law S T) (hb : b ≤ b') : Sim b' (bd2 (g_X2_refuse r S) fun x S => some (x, S)) (some (r, sI T 87 3 (w32 (gI T 87 3 + 1)))) := by
  have hl := led_of h
  unfold g_X2_refuse
  simp only [ap]
  rw [bd2S]
  refine ⟨_, _, _, rfl, rfl, nW, nP, nB, law, Inv_up (Inv_led h (fun c hc => gI_ne hc) (fun c => rfl) (fun c hc => gI_ne hc) (fun k hk => ?_)) hb⟩
  rw [gI_sI, gI_sI]
  by_cases e : k = 3
  · rw [if_pos ⟨rfl, e⟩, if_pos ⟨rfl, e⟩, hl 3 (by decide)]
  · rw [if_neg (fun q => e q.2), if_neg (fun q => e q.2)]
    exact hl k hk
theorem feN_i {N : Nat → Nat → Int} {nW nP p : Nat} (hN : NR N nW nP) (hp : p < nP) : ∃ f : Nat, N 6 p = (f : Int) ∧ f < 64 := by
  obtain ⟨a, b⟩ := hN.2 6 p (by decide) hp
  have a : 0 ≤ N 6 p := a
  have b : N 6 p ≤ 63 := b
  exact ⟨(N 6 p).toNat, by omega, by omega⟩
theorem deed_v {b nW nP nB : Nat} {law : Option (List Lin)} {S T : Mem} (h : Inv b nW nP nB law S T) (n q : Int) : ∃ S' T', g_X2_noteWire n q S = some S' ∧ T' = sI (sI (sI (sI T 87 0 (w32 (gI T 87 0 + 1))) 87 1 (w32 (gI T 87 1 + n))) 87 2 (w32 (gI T 87 2 + q))) 87 4 (w32 (gI T 87 4 + gI T 64 0)) ∧ Inv b nW nP nB law S' T' := by
  have hl := led_of h
  obtain ⟨hN, hO, hM, -, -⟩ := ask_of h
  have m7 : gI T 64 0 = nu S 7 0 := hM.2 7 0 (by decide) (show 0 < 1 by decide)
  have v7 : ∀ u0 u1 u2 : Int, g_X5_value 0 7 (sI (sI (sI S 44 0 u0) 44 1 u1) 44 2 u2) = some (nu S 7 0) := fun u0 u1 u2 => val_o (S := sI (sI (sI S 44 0 u0) 44 1 u1) 44 2 u2) (n := 0) (w := 7) hN (OC_of hO (fun c hc => by rw [gI_ne (by omega), gI_ne (by omega), gI_ne (by omega)]) rfl rfl) (by decide) (show 0 < 1 by decide)
  unfold g_X2_noteWire
  simp only [ap]
  rw [v7, bS]
  refine ⟨_, _, rfl, rfl, Inv_led h (fun c hc => by rw [gI_ne hc, gI_ne hc, gI_ne hc, gI_ne hc]) (fun c => rfl) (fun c hc => by rw [gI_ne hc, gI_ne hc, gI_ne hc, gI_ne hc]) ?_⟩
  have l0 := hl 0 (by decide)
  have l1 := hl 1 (by decide)
  have l2 := hl 2 (by decide)
  have l3 := hl 3 (by decide)
  have l4 := hl 4 (by decide)
  apply k5 <;> simp [gI_sI, l0, l1, l2, l3, l4, m7]
theorem m_send {b : Nat} {Sc Sm : Mem} (h : IV b Sc Sm) (hb : b < 900000) (x z : Int) (hz : r32 z) : Sim (b + 100) (g_X9_send x z Sc) (g_X10_send x z Sm) := by
  obtain ⟨nW, nP, nB, law, h⟩ := h
  have same : ∀ r, Sim (b + 100) (some (r, Sc)) (some (r, Sm)) := fun r => Sim.same ⟨nW, nP, nB, law, h⟩ (by omega)
  obtain ⟨hN, hO, hM, hL, hLm⟩ := ask_of h
  have h6 := hN.1.2
  unfold g_X9_send g_X10_send
  rw [hasp h6 hO.2.1.2 _ (Or.inl rfl), hasp h6 hO.2.1.2 _ (Or.inl rfl), isper h6 hM.1.2, isper h6 hM.1.2]
  by_cases hok : 0 ≤ z ∧ ∃ a c : Nat, w32 (Int.tdiv z 10) = a ∧ Int.tmod z 10 = c ∧ a < nP ∧ c < nP ∧ a ≠ c
  · obtain ⟨z0, a, c, ea, ec, ha, hc, hac⟩ := hok
    have n1 : ¬ (a : Int) = (c : Int) := by omega
    have p1 : 0 ≤ (a : Int) ∧ (a : Int) < (nP : Int) := by omega
    have p2 : 0 ≤ (c : Int) ∧ (c : Int) < (nP : Int) := by omega
    have n2 : ¬ z < 0 := by omega
    have ha6 : a < 6 := by omega
    have hc6 : c < 6 := by omega
    rw [ea, ec, if_neg n1, if_pos p1, i10, if_pos p2, i10, if_neg n2, bS, i10, bS, i10, if_neg n1]
    clear ea ec
    rcases open_v h x with ⟨r, r0, r1, ⟨r2, r3⟩ | ⟨r2, r3, r4⟩⟩ | ⟨ws, S1, T1, s1, s2, s3, s4, s5, s6, s7, s8⟩
    · rw [r2, bS, i00, r1, bd2S, if_neg (by omega), r3]
      exact same _
    · rw [r2, bS, i10, r1, bd2S, if_neg (by omega), r4, bS, if_neg (show ¬ 0 ≤ r by omega)]
      exact same _
    · have hO1 := hO.t s2
      have hL1 := hL.t s2
      obtain ⟨T2, t1, t2⟩ := priceAll_m hN (hM.w s7) (hLm.w s7) s8
      have hM2 := (hM.w s7).v t2.v
      have hW2 := s8.v t2.v
      have kT := KM_wv s7 t2.v
      rw [s4, bS, i10, s1, bd2S, if_pos rfl, s5, bS, i0l, s6, bS, t1, bd2S, right_c hN hO1 s3, bS, right_m hN hM2 hW2, bS]
      cases hr : rgt (soN (nu Sc)) 3 ws with
      | false =>
        rw [bF, i00, i00]
        exact refuse_v (-2) (Inv_keep h (KC_tu s2 (KU.rf S1)) kT) (by omega)
      | true =>
        obtain ⟨S5, u1, u2, u3⟩ := costs_c hN hO1 hL1 s3
        have kS := KC_tu s2 u2
        have h5 := Inv_keep h kS kT
        have hO5 := hO1.u u2
        obtain ⟨y1, y2⟩ := may_c hN hO5 ((orT (sw (nu Sc) ws) ws.length : Nat) : Int) ((sumT (pw law (nu Sc) ws) ws.length : Nat) : Int) ha
        have m6 : gI T2 63 a = nu Sc 6 a := hM2.2 6 a (by decide) ha
        have m5 : gI T2 62 a = nu Sc 5 a := hM2.2 5 a (by decide) ha
        unfold g_X8_senseOf
        rw [bT, i10, i10, s3.2.1, sense_c hN hO1 s3 (Nat.le_refl _), bS, bS, u1, bd2S, sense_m hN hM2 hW2, bS, ldk_c ha6, bS, m6, ldk_c ha6, bS, bS, m5]
        by_cases hm : maS (nu Sc) ((orT (sw (nu Sc) ws) ws.length : Nat) : Int) ((sumT (pw law (nu Sc) ws) ws.length : Nat) : Int) a
        · rw [y1 hm, bS, if_neg (by decide), if_pos hm.1, if_pos hm.2]
          have nuk : ∀ w i, w < 10 → nu S5 w i = nu Sc w i := fun w i hw => by unfold nu; rw [kS.1 (3 + w) (by simp; omega)]
          have v5 := val_o hN hO5 (w := 5) (n := a) (by decide) ha
          rw [show ((5 : Nat) : Int) = 5 from rfl] at v5
          generalize hs : orT (sw (nu Sc) ws) ws.length = s at hm ⊢
          generalize hq : sumT (pw law (nu Sc) ws) ws.length = q at hm ⊢
          have s64 : s < 64 := by
            rw [← hs]
            exact orT_lt ws.length (fun k hk => (seN_i hN (s3.1.2 k hk)).2)
          obtain ⟨pe, pb⟩ := puN_i hN ha
          have hm2 : (q : Int) ≤ nu Sc 5 a := hm.2
          have e1 : w32 (nu Sc 5 a - (q : Int)) = nu Sc 5 a - (q : Int) := w32s (by omega) (by omega)
          rw [v5, bS, e1]
          clear e1
          have hl5 : a < lim nW nP 5 := ha
          have hl6 : c < lim nW nP 6 := hc
          have st1 := set_n hO5.1 hN.1 hO5.2.1.1 hO5.2.1.2 (n := a) (w := 5) (nu Sc 5 a - (q : Int)) (by decide) hl5
          rw [show ((5 : Nat) : Int) = 5 from rfl] at st1
          have iv1 := Inv_set h5 (n := a) (w := 5) (v := nu Sc 5 a - (q : Int)) (by decide) hl5 ⟨by show (0 : Int) ≤ _; omega, by show _ ≤ (999 : Int); omega⟩ (by omega)
          obtain ⟨hN9, hO9, hM9, -, -⟩ := ask_of iv1
          have v6 := val_o hN9 hO9 (w := 6) (n := c) (by decide) hc
          rw [show ((6 : Nat) : Int) = 6 from rfl, nu_set (by decide) (by decide), if_neg (by omega), nuk 6 c (by decide)] at v6
          obtain ⟨f, hf, f64⟩ := feN_i hN hc
          rw [hf] at v6
          have eo : o_or (f : Int) (s : Int) = ((f ||| s : Nat) : Int) := oor (by omega) (by omega)
          have fo : f ||| s < 64 := or_lt 6 f64 s64
          have st2 := set_n hO9.1 hN.1 hO9.2.1.1 hO9.2.1.2 (n := c) (w := 6) ((f ||| s : Nat) : Int) (by decide) hl6
          rw [show ((6 : Nat) : Int) = 6 from rfl] at st2
          have iv2 := Inv_set iv1 (n := c) (w := 6) (v := ((f ||| s : Nat) : Int)) (by decide) hl6 ⟨by show (0 : Int) ≤ _; omega, by show _ ≤ (63 : Int); omega⟩ (by omega)
          have m6c : gI (sI T2 62 a (nu Sc 5 a - (q : Int))) 63 c = (f : Int) := by
            rw [gI_ne (by decide), ← hf]
            exact hM2.2 6 c (by decide) hc
          have hW9 : TW nW (setM T2 a 5 (nu Sc 5 a - (q : Int))) ws := by
            unfold TW
            rw [setM_ne (by decide) (by omega), setM_ne (by decide) (by omega)]
            exact hW2
          have sm := sense_m hN9 hM9 hW9
          have esw : orT (sw (nu (setO S5 a 5 (nu Sc 5 a - (q : Int)))) ws) ws.length = s := by
            rw [← hs]
            congr 1
            funext k
            unfold sw seN
            rw [nu_set (by decide) (by decide), if_neg (by omega), nuk 1 _ (by decide)]
          rw [esw] at sm
          have sm' : g_X10_senseAll (sI T2 62 a (nu Sc 5 a - (q : Int))) = some (s : Int) := sm
          obtain ⟨S', T', d1, d2, d3⟩ := deed_v iv2 (ws.length : Int) (q : Int)
          have e30 : gI (setO (setO S5 a 5 (nu Sc 5 a - (q : Int))) c 6 ((f ||| s : Nat) : Int)) 30 5 = ws.length := by
            rw [setO_ne (by decide) (by omega), setO_ne (by decide) (by omega)]
            exact (s3.u u2).2.1
          have eT : setM (setM T2 a 5 (nu Sc 5 a - (q : Int))) c 6 ((f ||| s : Nat) : Int) = sI (sI T2 62 a (nu Sc 5 a - (q : Int))) 63 c ((f ||| s : Nat) : Int) := rfl
          rw [st1, bS, v6, bS, eo, st2, bS, e30, d1, bS, stk_c ha6, bS, ldk_c hc6, bS, m6c, sm', bS, eo, stk_c hc6, bS]
          simp only [ap]
          rw [← eT]
          refine ⟨_, S', T', rfl, ?_, nW, nP, nB, law, Inv_up d3 (by omega)⟩
          rw [d2]
          congr 2
          have e32 : gI (setM (setM T2 a 5 (nu Sc 5 a - (q : Int))) c 6 ((f ||| s : Nat) : Int)) 56 32 = ws.length := by
            rw [setM_ne (by decide) (by omega)]
            exact hW9.2.1
          simp only [gI_sI]
          simp [e32]
        · rw [y2 hm, bS, if_pos rfl]
          have key : ∀ G : Mem → Option (Int × Mem), G T2 = some (-5, sI T2 87 3 (w32 (gI T2 87 3 + 1))) → Sim (b + 100) (bd2 (g_X2_refuse (-5) S5) fun x S => some (x, S)) (G T2) := fun G hG => by rw [hG]; exact refuse_v (-5) h5 (by omega)
          by_cases c1 : o_and ((orT (sw (nu Sc) ws) ws.length : Nat) : Int) (o_xor (nu Sc 6 a) (-1)) = 0
          · rw [if_pos c1, if_neg (fun q => hm ⟨c1, q⟩)]
            exact refuse_v (-5) h5 (by omega)
          · rw [if_neg c1]
            exact refuse_v (-5) h5 (by omega)
  · have hbad : ∀ W M : Int, W = w32 (Int.tdiv z 10) → M = Int.tmod z 10 → ¬ (0 ≤ z ∧ ¬ W = M ∧ (0 ≤ W ∧ W < nP) ∧ 0 ≤ M ∧ M < nP) ∧ (W = M ∨ ¬ (0 ≤ W ∧ W < nP) ∨ ¬ (0 ≤ M ∧ M < nP)) := by
      intro W M hW hM'
      rcases ab_v hz with ⟨z0, a, c, e1, e2⟩ | ⟨z0, e1, e2, e3⟩
      · rw [e1] at hW
        rw [e2] at hM'
        have key : ¬ (¬ W = M ∧ (0 ≤ W ∧ W < nP) ∧ 0 ≤ M ∧ M < nP) := fun q => hok ⟨z0, a, c, e1, e2, by omega, by omega, by omega⟩
        exact ⟨fun q => key q.2, by omega⟩
      · rw [← hW] at e1 e3
        rw [← hM'] at e2 e3
        refine ⟨fun q => absurd q.1 (by omega), ?_⟩
        by_cases q1 : W = 0
        · have := e3 q1
          omega
        · omega
    obtain ⟨q1, q2⟩ := hbad _ _ rfl rfl
    generalize w32 (Int.tdiv z 10) = W at q1 q2 ⊢
    generalize Int.tmod z 10 = M at q1 q2 ⊢
    have ec : ∀ X : Option (Int × Mem), (if W = M then some ((-1 : Int), Sc) else if (if 0 ≤ W ∧ W < (nP : Int) then (1 : Int) else 0) = 0 then some (-1, Sc) else if (if 0 ≤ M ∧ M < (nP : Int) then (1 : Int) else 0) = 0 then some (-1, Sc) else X) = some (-1, Sc) := by
      intro X
      by_cases a1 : W = M
      · rw [if_pos a1]
      · rw [if_neg a1]
        by_cases a2 : 0 ≤ W ∧ W < (nP : Int)
        · rw [if_pos a2, i10]
          by_cases a3 : 0 ≤ M ∧ M < (nP : Int)
          · rcases q2 with q2 | q2 | q2
            · exact absurd q2 a1
            · exact absurd a2 q2
            · exact absurd a3 q2
          · rw [if_neg a3, i00]
        · rw [if_neg a2, i00]
    rw [ec, shelf_v, bS, bS, bS]
    by_cases a0 : 0 ≤ x ∧ x < 6
    · rw [if_pos a0, i10]
      by_cases a1 : z < 0
      · rw [if_pos a1]; exact same _
      · rw [if_neg a1]
        by_cases a2 : 0 ≤ W ∧ W < (nP : Int)
        · rw [if_pos a2, i10]
          by_cases a3 : 0 ≤ M ∧ M < (nP : Int)
          · rw [if_pos a3, i10]
            by_cases a4 : W = M
            · rw [if_pos a4]; exact same _
            · exact absurd ⟨by omega, a4, a2, a3⟩ q1
          · rw [if_neg a3, i00]; exact same _
        · rw [if_neg a2, i00]; exact same _
    · rw [if_neg a0, i00]; exact same _
