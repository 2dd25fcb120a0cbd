/-! A PRICE; A YEAR -/
theorem ah_v {z : Int} (hz : r32 z) : (0 ≤ z ∧ ∃ a c : Nat, w32 (Int.tdiv z 100) = a ∧ Int.tmod z 100 = c) ∨ (z < 0 ∧ w32 (Int.tdiv z 100) ≤ 0 ∧ Int.tmod z 100 ≤ 0 ∧ (w32 (Int.tdiv z 100) = 0 → Int.tmod z 100 = 0 → False)) := by
  unfold r32 at hz
  by_cases c : 0 ≤ z
  · refine Or.inl ⟨c, z.toNat / 100, z.toNat % 100, ?_, ?_⟩
    · rw [tdn 100 c, w32s (by omega) (by omega)]
      omega
    · rw [tmn 100 c]
      omega
  · obtain ⟨k, hk⟩ := nat_of (show 0 ≤ -z by omega)
    have e : z = -(k : Int) := by omega
    have e1 : Int.tdiv z 100 = -((k / 100 : Nat) : Int) := by
      rw [e, Int.neg_tdiv, tdn 100 (by omega)]
      rfl
    have e2 : Int.tmod z 100 = -((k % 100 : Nat) : Int) := by
      rw [e, Int.neg_tmod, tmn 100 (by omega)]
      rfl
    refine Or.inr ⟨by omega, ?_⟩
    rw [e1, e2, w32s (by omega) (by omega)]
    omega
theorem KC_p {S S' : Mem} (h : KP S S') : KC S S' := by
  refine ⟨fun c hc => ?_, fun k hk => ?_, h.2.2, by rw [h.1 33 (by decide) (by decide) (by decide)]⟩
  · simp only [List.mem_cons, List.not_mem_nil, or_false, not_or] at hc
    exact h.1 c hc.1 hc.2.1 hc.2.2.1
  · simp only [List.mem_cons, List.not_mem_nil, or_false, not_or] at hk
    exact h.2.1 k hk.2.2
theorem KM_q {S S' : Mem} (h : KQ S S') : KM S S' := by
  refine ⟨fun c hc => ?_, fun k hk => by rw [h 56 (by decide) (by decide)]⟩
  simp only [List.mem_cons, List.not_mem_nil, or_false, not_or] at hc
  exact h c hc.2.1 hc.2.2.1
theorem m_price {b : Nat} {Sc Sm : Mem} (h : IV b Sc Sm) (x z : Int) (hz : r32 z) : Sim (b + 100) (g_X9_price x z Sc) (g_X10_price x z Sm) := by
  obtain ⟨nW, nP, nB, law, h⟩ := h
  have same : ∀ r, Sim (b + 100) (some (r, Sc)) (some (r, Sm)) := fun r => Sim.same ⟨nW, nP, nB, law, h⟩ (by omega)
  obtain ⟨hN, hO, hM, hL, hLm⟩ := ask_of h
  unfold g_X9_price g_X10_price
  rw [hasw hN.1.1 hO.2.1.1, isw hN.1.1 hM.1.1, bS]
  by_cases c : 0 ≤ x ∧ x < nW
  · obtain ⟨w, rfl⟩ := nat_of c.1
    have hw : w < nW := by omega
    rw [if_pos c, i10, i10, btw, btw]
    rcases ah_v hz with ⟨z0, a, d, e1, e2⟩ | ⟨z0, e1, e2, e3⟩
    · rw [e1, e2, if_neg (show ¬ z < 0 by omega)]
      clear e1 e2
      by_cases c1 : a ≤ 3
      · rw [if_pos (show 0 ≤ (a : Int) ∧ (a : Int) ≤ 3 by omega), i10, if_neg (show ¬ (3 : Int) < (a : Int) by omega)]
        by_cases c2 : d ≤ 11
        · rw [if_pos (show 0 ≤ (d : Int) ∧ (d : Int) ≤ 11 by omega), i10, if_neg (show ¬ (12 : Int) ≤ (d : Int) by omega)]
          obtain ⟨S', a1, a2⟩ := price_c hN hO hL a d hw
          obtain ⟨T', b1, b2⟩ := price_m hN hM hLm a d hw
          rw [a1, b1, bd2S, bd2S]
          exact Sim.ask h (KC_p a2) (KM_q b2) (by omega)
        · rw [if_neg (show ¬ (0 ≤ (d : Int) ∧ (d : Int) ≤ 11) by omega), i00, if_pos (show (12 : Int) ≤ (d : Int) by omega)]
          exact same _
      · rw [if_neg (show ¬ (0 ≤ (a : Int) ∧ (a : Int) ≤ 3) by omega), i00, if_pos (show (3 : Int) < (a : Int) by omega)]
        exact same _
    · rw [if_pos z0]
      generalize w32 (Int.tdiv z 100) = W at e1 e3 ⊢
      generalize Int.tmod z 100 = M at e2 e3 ⊢
      by_cases c1 : 0 ≤ W ∧ W ≤ 3
      · have : M ≠ 0 := fun q => e3 (by omega) q
        rw [if_pos c1, i10, if_neg (show ¬ (0 ≤ M ∧ M ≤ 11) by omega), i00]
        exact same _
      · rw [if_neg c1, i00]
        exact same _
  · rw [if_neg c, i00, i00]
    exact same _
-- A YEAR: what a row offers, in sets
def ofN (e : Nat → Int) (n : Nat) : Nat → Nat → Nat
  | 0, i => i
  | m + 1, i => if n ≤ 2 * i + 1 then i else if (0 ≤ e (2 * i) ∧ e (2 * i) ≤ 999) ∧ 0 ≤ e (2 * i + 1) ∧ e (2 * i + 1) ≤ 999 then ofN e n m (i + 1) else i
def suN (e : Nat → Int) (s p : Nat) : Nat → Int
  | 0 => 0
  | n + 1 => suN e s p n + if s.testBit n then e (2 * n + p) else 0
theorem ofN_v {e : Nat → Int} {n : Nat} : ∀ (m i : Nat), (∀ k, k < i → (0 ≤ e (2 * k) ∧ e (2 * k) ≤ 999) ∧ 0 ≤ e (2 * k + 1) ∧ e (2 * k + 1) ≤ 999) → (i = 0 ∨ 2 * i ≤ n) → i ≤ ofN e n m i ∧ ofN e n m i ≤ i + m ∧ (ofN e n m i = 0 ∨ 2 * ofN e n m i ≤ n) ∧ ∀ k, k < ofN e n m i → (0 ≤ e (2 * k) ∧ e (2 * k) ≤ 999) ∧ 0 ≤ e (2 * k + 1) ∧ e (2 * k + 1) ≤ 999
  | 0, i, h, hn => ⟨Nat.le_refl _, Nat.le_refl _, hn, h⟩
  | m + 1, i, h, hn => by
    show i ≤ (if n ≤ 2 * i + 1 then i else if (0 ≤ e (2 * i) ∧ e (2 * i) ≤ 999) ∧ 0 ≤ e (2 * i + 1) ∧ e (2 * i + 1) ≤ 999 then ofN e n m (i + 1) else i) ∧ (if n ≤ 2 * i + 1 then i else if (0 ≤ e (2 * i) ∧ e (2 * i) ≤ 999) ∧ 0 ≤ e (2 * i + 1) ∧ e (2 * i + 1) ≤ 999 then ofN e n m (i + 1) else i) ≤ i + (m + 1) ∧ ((if n ≤ 2 * i + 1 then i else if (0 ≤ e (2 * i) ∧ e (2 * i) ≤ 999) ∧ 0 ≤ e (2 * i + 1) ∧ e (2 * i + 1) ≤ 999 then ofN e n m (i + 1) else i) = 0 ∨ 2 * (if n ≤ 2 * i + 1 then i else if (0 ≤ e (2 * i) ∧ e (2 * i) ≤ 999) ∧ 0 ≤ e (2 * i + 1) ∧ e (2 * i + 1) ≤ 999 then ofN e n m (i + 1) else i) ≤ n) ∧ ∀ k, k < (if n ≤ 2 * i + 1 then i else if (0 ≤ e (2 * i) ∧ e (2 * i) ≤ 999) ∧ 0 ≤ e (2 * i + 1) ∧ e (2 * i + 1) ≤ 999 then ofN e n m (i + 1) else i) → _
    by_cases c1 : n ≤ 2 * i + 1
    · rw [if_pos c1]
      exact ⟨Nat.le_refl _, by omega, hn, h⟩
    · rw [if_neg c1]
      by_cases c2 : (0 ≤ e (2 * i) ∧ e (2 * i) ≤ 999) ∧ 0 ≤ e (2 * i + 1) ∧ e (2 * i + 1) ≤ 999
      · rw [if_pos c2]
        obtain ⟨a1, a2, a3, a4⟩ := ofN_v (e := e) (n := n) m (i + 1) (fun k hk => by
          by_cases q : k = i
          · rw [q]; exact c2
          · exact h k (by omega)) (Or.inr (by omega))
        exact ⟨by omega, by omega, a3, a4⟩
      · rw [if_neg c2]
        exact ⟨Nat.le_refl _, by omega, hn, h⟩
theorem suN_b {e : Nat → Int} {s p : Nat} : ∀ n, (∀ k, k < n → s.testBit k = true → 0 ≤ e (2 * k + p) ∧ e (2 * k + p) ≤ 999) → 0 ≤ suN e s p n ∧ suN e s p n ≤ 999 * (n : Int)
  | 0, _ => by show (0 : Int) ≤ 0 ∧ (0 : Int) ≤ 999 * ((0 : Nat) : Int); omega
  | n + 1, h => by
    have ih := suN_b (e := e) (s := s) (p := p) n (fun k hk => h k (by omega))
    have := h n (Nat.lt_succ_self n)
    show 0 ≤ suN e s p n + (if s.testBit n then e (2 * n + p) else 0) ∧ suN e s p n + (if s.testBit n then e (2 * n + p) else 0) ≤ 999 * ((n + 1 : Nat) : Int)
    cases hb : s.testBit n with
    | false => rw [if_neg (by decide)]; omega
    | true => rw [if_pos rfl]; have := this hb; omega
theorem w_2k (k : Nat) (hk : k ≤ 1000) : w32 (2 * (k : Int)) = ((2 * k : Nat) : Int) := by
  rw [w32s (by omega) (by omega)]
  omega
theorem w_2p (k p : Nat) (hk : k ≤ 1000) (hp : p ≤ 1000) : w32 ((w32 (2 * (k : Int))) + (p : Int)) = ((2 * k + p : Nat) : Int) := by
  rw [w_2k k hk, w_add _ _ (by omega)]
/-- what both sides see of the row -/
def YR (q n : Nat) (e : Nat → Int) (Sc Sm : Mem) : Prop := q < 6 ∧ n ≤ 60 ∧ Shp Sc ∧ gI Sc 21 q = (n : Nat) ∧ gI Sm 94 q = (n : Nat) ∧ (∀ k, k < 60 → w32 (gI Sc (24 + q) k) = e k) ∧ ∀ k, k < 60 → w32 (gI Sm 95 (60 * q + k)) = e k
theorem atY_c {q n k : Nat} {e : Nat → Int} {Sc Sm : Mem} (h : YR q n e Sc Sm) (hk : k < n) : ∃ v, g_X7_at (q : Int) (k : Int) Sc = some v ∧ w32 v = e k := ⟨_, at_c h.2.2.1 h.1 h.2.2.2.1 h.2.1 hk, h.2.2.2.2.2.1 k (by have := h.2.1; omega)⟩
theorem atY_m {q n k : Nat} {e : Nat → Int} {Sc Sm : Mem} (h : YR q n e Sc Sm) (hk : k < n) : g_X10_at (q : Int) (k : Int) Sm = some (e k) := by
  rw [at_m h.1 (by have := h.2.1; omega), h.2.2.2.2.2.2 k (by have := h.2.1; omega)]
theorem off_v {q n nW : Nat} {e : Nat → Int} {Sc Sm : Mem} {K : Int → Option Int} {a2 a3 : Int} (h : YR q n e Sc Sm) (hb : nW ≤ 12) (hW : gI Sc 1 1 = (nW : Nat)) : ∀ (m i fu : Nat), i + m = 8 → m < fu → g_X9_offersOn_L11 (q : Int) (n : Int) Sc fu (i : Int) = some ((ofN e n m i : Nat) : Int) ∧ g_X10_year_L45 K (q : Int) a2 a3 Sm fu (i : Int) = K ((ofN e n m i : Nat) : Int) := by
  have fv : ∀ v : Int, g_X5_fits 5 v Sc = some (if 0 ≤ v ∧ v ≤ 999 then 1 else 0) := fun v => fits_v hb hW v 5 (by decide)
  intro m
  induction m with
  | zero =>
    intro i fu hi hf
    obtain ⟨fu, rfl⟩ : ∃ k, fu = k + 1 := ⟨fu - 1, by omega⟩
    have hi : i = 8 := hi
    subst hi
    rw [g_X9_offersOn_L11.eq_2, g_X10_year_L45.eq_2, if_pos (by decide), if_pos (by decide)]
    exact ⟨rfl, rfl⟩
  | succ m ih =>
    intro i fu hi hf
    obtain ⟨fu, rfl⟩ : ∃ k, fu = k + 1 := ⟨fu - 1, by omega⟩
    have n1 : ¬ (8 : Int) ≤ (i : Int) := by omega
    obtain ⟨i1, i2⟩ := ih (i + 1) fu (by omega) (by omega)
    show _ = some (((if n ≤ 2 * i + 1 then i else if (0 ≤ e (2 * i) ∧ e (2 * i) ≤ 999) ∧ 0 ≤ e (2 * i + 1) ∧ e (2 * i + 1) ≤ 999 then ofN e n m (i + 1) else i) : Nat) : Int) ∧ _ = K (((if n ≤ 2 * i + 1 then i else if (0 ≤ e (2 * i) ∧ e (2 * i) ≤ 999) ∧ 0 ≤ e (2 * i + 1) ∧ e (2 * i + 1) ≤ 999 then ofN e n m (i + 1) else i) : Nat) : Int)
    rw [g_X9_offersOn_L11.eq_2, g_X10_year_L45.eq_2, if_neg n1, if_neg n1, ldk_c h.1, bS, h.2.2.2.2.1, show (1 : Int) = ((1 : Nat) : Int) from rfl, w_2p i 1 (by omega) (by decide), w_2k i (by omega), show ((1 : Nat) : Int) = 1 from rfl, w32_a i (by omega)]
    by_cases c1 : n ≤ 2 * i + 1
    · rw [if_pos (show (n : Int) ≤ ((2 * i + 1 : Nat) : Int) by omega), if_pos (show (n : Int) ≤ ((2 * i + 1 : Nat) : Int) by omega), if_pos c1]
      exact ⟨rfl, rfl⟩
    · obtain ⟨v1, x1, y1⟩ := atY_c h (k := 2 * i) (by omega)
      obtain ⟨v2, x2, y2⟩ := atY_c h (k := 2 * i + 1) (by omega)
      rw [if_neg (show ¬ (n : Int) ≤ ((2 * i + 1 : Nat) : Int) by omega), if_neg (show ¬ (n : Int) ≤ ((2 * i + 1 : Nat) : Int) by omega), if_neg c1, x1, bS, fv, bS, y1, x2, bS, fv, bS, y2, atY_m h (by omega), bS, inn, atY_m h (by omega), bS, inn]
      clear y1 y2
      by_cases c2 : 0 ≤ e (2 * i) ∧ e (2 * i) ≤ 999
      · rw [if_pos c2, i10, i10]
        by_cases c3 : 0 ≤ e (2 * i + 1) ∧ e (2 * i + 1) ≤ 999
        · rw [if_pos c3, i10, i10, if_pos ⟨c2, c3⟩]
          exact ⟨i1, i2⟩
        · rw [if_neg c3, i00, i00, if_neg (fun z => c3 z.2)]
          exact ⟨rfl, rfl⟩
      · rw [if_neg c2, i00, i00, if_neg (fun z => c2 z.1)]
        exact ⟨rfl, rfl⟩
theorem tb_lt {s n k : Nat} (hs : s < 2 ^ n) (h : s.testBit k = true) : k < n := by
  rcases Nat.lt_or_ge k n with q | q
  · exact q
  · rw [Nat.testBit_lt_two_pow (Nat.lt_of_lt_of_le hs (Nat.pow_le_pow_right (by decide) q))] at h
    cases h
theorem sum_c {q n o s p : Nat} {e : Nat → Int} {Sc Sm : Mem} (h : YR q n e Sc Sm) (ho : o ≤ 8) (hon : o = 0 ∨ 2 * o ≤ n) (hr : ∀ k, k < o → (0 ≤ e (2 * k) ∧ e (2 * k) ≤ 999) ∧ 0 ≤ e (2 * k + 1) ∧ e (2 * k + 1) ≤ 999) (hs : s < 2 ^ o) (hs8 : s < 256) (hp : p ≤ 1) : g_X9_sumOf (q : Int) (s : Int) (p : Int) Sc = some (suN e s p 8) := by
  have rng : ∀ k, s.testBit k = true → k < o ∧ 0 ≤ e (2 * k + p) ∧ e (2 * k + p) ≤ 999 := fun k hk => by
    have hk' := tb_lt hs hk
    have := hr k hk'
    refine ⟨hk', ?_⟩
    rcases (show p = 0 ∨ p = 1 by omega) with rfl | rfl
    · exact this.1
    · exact this.2
  have key : ∀ (m i fu : Nat), i + m = 8 → m < fu → g_X9_sumOf_L6 (q : Int) (s : Int) (p : Int) Sc fu (suN e s p i) (i : Int) = some (suN e s p 8) := by
    intro m
    induction m with
    | zero =>
      intro i fu hi hf
      obtain ⟨fu, rfl⟩ : ∃ k, fu = k + 1 := ⟨fu - 1, by omega⟩
      have hi : i = 8 := hi
      subst hi
      rw [g_X9_sumOf_L6.eq_2, if_pos (by decide)]
    | succ m ih =>
      intro i fu hi hf
      obtain ⟨fu, rfl⟩ : ∃ k, fu = k + 1 := ⟨fu - 1, by omega⟩
      have n1 : ¬ (8 : Int) ≤ (i : Int) := by omega
      have i1 := ih (i + 1) fu (by omega) (by omega)
      have es : suN e s p (i + 1) = suN e s p i + if s.testBit i then e (2 * i + p) else 0 := rfl
      have sb := suN_b (e := e) (s := s) (p := p) i (fun k _ hk => (rng k hk).2)
      rw [g_X9_sumOf_L6.eq_2, if_neg n1, bit_m (by omega) (by omega), w32_a i (by omega)]
      cases hb : s.testBit i with
      | false =>
        rw [hb, if_neg (by decide), Int.add_zero] at es
        rw [es] at i1
        rw [bF, i01]
        exact i1
      | true =>
        rw [hb, if_pos rfl] at es
        rw [es] at i1
        obtain ⟨r1, r2, r3⟩ := rng i hb
        obtain ⟨v1, x1, y1⟩ := atY_c h (k := 2 * i + p) (by omega)
        rw [bT, i11, w_2p i p (by omega) (by omega), x1, bS, y1, w32s (i := suN e s p i + e (2 * i + p)) (by clear y1; omega) (by clear y1; omega)]
        exact i1
  exact key 8 0 FU rfl (by unfold FU; decide)
theorem sum_m {q n o s : Nat} {e : Nat → Int} {Sc Sm : Mem} {K : Int → Int → Option Int} {a2 a3 a6 a7 : Int} (h : YR q n e Sc Sm) (ho : o ≤ 8) (hon : o = 0 ∨ 2 * o ≤ n) (hr : ∀ k, k < o → (0 ≤ e (2 * k) ∧ e (2 * k) ≤ 999) ∧ 0 ≤ e (2 * k + 1) ∧ e (2 * k + 1) ≤ 999) (hs : s < 2 ^ o) (hs8 : s < 256) : ∀ (m i fu : Nat), i + m = o → m < fu → g_X10_year_L140 K (q : Int) a2 a3 (o : Int) a6 a7 (s : Int) Sm fu (suN e s 0 i) (suN e s 1 i) (i : Int) = K (suN e s 0 o) (suN e s 1 o) := by
  intro m
  induction m with
  | zero =>
    intro i fu hi hf
    obtain ⟨fu, rfl⟩ : ∃ k, fu = k + 1 := ⟨fu - 1, by omega⟩
    have hi : i = o := hi
    rw [g_X10_year_L140.eq_2, if_pos (by omega), hi]
  | succ m ih =>
    intro i fu hi hf
    obtain ⟨fu, rfl⟩ : ∃ k, fu = k + 1 := ⟨fu - 1, by omega⟩
    have n1 : ¬ (o : Int) ≤ (i : Int) := by omega
    have i1 := ih (i + 1) fu (by omega) (by omega)
    have e0 : suN e s 0 (i + 1) = suN e s 0 i + if s.testBit i then e (2 * i) else 0 := rfl
    have e1 : suN e s 1 (i + 1) = suN e s 1 i + if s.testBit i then e (2 * i + 1) else 0 := rfl
    have b0 := suN_b (e := e) (s := s) (p := 0) i (fun k hk _ => (hr k (by omega)).1)
    have b1 := suN_b (e := e) (s := s) (p := 1) i (fun k hk _ => (hr k (by omega)).2)
    have r := hr i (by omega)
    rw [g_X10_year_L140.eq_2, if_neg n1, bit_m (by omega) (by omega), w32_a i (by omega)]
    cases hb : s.testBit i with
    | false =>
      rw [hb, if_neg (by decide), Int.add_zero] at e0 e1
      rw [e0, e1] at i1
      rw [bF, i00]
      exact i1
    | true =>
      rw [hb, if_pos rfl] at e0 e1
      rw [e0, e1] at i1
      rw [bT, i10, w_2k i (by omega), atY_m h (by omega), bS, show ((2 * i : Nat) : Int) + 1 = ((2 * i : Nat) : Int) + ((1 : Nat) : Int) from rfl, w_add (2 * i) 1 (by omega), atY_m h (by omega), bS, w32s (i := suN e s 0 i + e (2 * i)) (by omega) (by omega), w32s (i := suN e s 1 i + e (2 * i + 1)) (by omega) (by omega)]
      exact i1
theorem suN_o {e : Nat → Int} {s p o : Nat} (hs : s < 2 ^ o) : ∀ m, suN e s p (o + m) = suN e s p o
  | 0 => rfl
  | m + 1 => by
    show suN e s p (o + m) + (if s.testBit (o + m) then e (2 * (o + m) + p) else 0) = _
    have : s.testBit (o + m) = false := Nat.testBit_lt_two_pow (Nat.lt_of_lt_of_le hs (Nat.pow_le_pow_right (by decide) (by omega)))
    rw [this, if_neg (by decide), Int.add_zero]
    exact suN_o hs m
theorem best_v {q n o : Nat} {e : Nat → Int} {Sc Sm : Mem} {K : Int → Int → Option Int} {a2 : Nat} {a3 pu : Int} (h : YR q n e Sc Sm) (ho : o ≤ 8) (hon : o = 0 ∨ 2 * o ≤ n) (hr : ∀ k, k < o → (0 ≤ e (2 * k) ∧ e (2 * k) ≤ 999) ∧ 0 ≤ e (2 * k + 1) ∧ e (2 * k + 1) ≤ 999) (ha2 : a2 < 6) (hpu : gI Sm 62 a2 = pu) : ∀ (m s fu best : Nat), s + m = 2 ^ o → 2 ^ o ≤ 256 → m < fu → best < 2 ^ o → ∃ best' : Nat, best' < 2 ^ o ∧ g_X9_bestYear_L17 (q : Int) pu ((2 ^ o : Nat) : Int) Sc fu (best : Int) (suN e best 1 8) (s : Int) = some (best' : Int) ∧ g_X10_year_L122 K (q : Int) (a2 : Int) a3 (o : Int) Sm fu (best : Int) (suN e best 1 8) (s : Int) = K (best' : Int) (suN e best' 1 8) := by
  have sh : o_shl 1 (o : Int) = ((2 ^ o : Nat) : Int) := by
    rw [show (1 : Int) = ((1 : Nat) : Int) from rfl, oshl (by omega) (by rw [Nat.one_mul]; exact Nat.lt_of_le_of_lt (Nat.pow_le_pow_right (by decide) ho) (by decide)), Nat.one_mul]
  intro m
  induction m with
  | zero =>
    intro s fu best hs h256 hf hb
    obtain ⟨fu, rfl⟩ : ∃ k, fu = k + 1 := ⟨fu - 1, by omega⟩
    have hs : s = 2 ^ o := hs
    refine ⟨best, hb, ?_, ?_⟩
    · rw [g_X9_bestYear_L17.eq_2, if_pos (by omega)]
    · rw [g_X10_year_L122.eq_2, sh, if_pos (by omega)]
  | succ m ih =>
    intro s fu best hs h256 hf hb
    obtain ⟨fu, rfl⟩ : ∃ k, fu = k + 1 := ⟨fu - 1, by omega⟩
    have hs' : s < 2 ^ o := by omega
    have n1 : ¬ ((2 ^ o : Nat) : Int) ≤ (s : Int) := by omega
    have c1 := sum_c h ho hon hr hs' (by omega) (p := 1) (by decide)
    have c0 := sum_c h ho hon hr hs' (by omega) (p := 0) (by decide)
    rw [show ((1 : Nat) : Int) = 1 from rfl] at c1
    rw [show ((0 : Nat) : Int) = 0 from rfl] at c0
    have e0 : suN e s 0 8 = suN e s 0 o := by rw [← suN_o (e := e) (p := 0) hs' (8 - o), show o + (8 - o) = 8 by omega]
    have e1 : suN e s 1 8 = suN e s 1 o := by rw [← suN_o (e := e) (p := 1) hs' (8 - o), show o + (8 - o) = 8 by omega]
    have sm := sum_m (K := fun y10 y11 => (ldk Sm 62 6 (a2 : Int)).bind fun x12 => if x12 < y10 then g_X10_year_L122 K (q : Int) (a2 : Int) a3 (o : Int) Sm fu (best : Int) (suN e best 1 8) (w32 ((s : Int) + 1)) else if (suN e best 1 8) < y11 then g_X10_year_L122 K (q : Int) (a2 : Int) a3 (o : Int) Sm fu (s : Int) y11 (w32 ((s : Int) + 1)) else g_X10_year_L122 K (q : Int) (a2 : Int) a3 (o : Int) Sm fu (best : Int) (suN e best 1 8) (w32 ((s : Int) + 1))) (a2 := (a2 : Int)) (a3 := a3) (a6 := (best : Int)) (a7 := suN e best 1 8) h ho hon hr hs' (by omega) o 0 FU (Nat.zero_add _) (by unfold FU; omega)
    rw [show suN e s 0 0 = 0 from rfl, show suN e s 1 0 = 0 from rfl, show ((0 : Nat) : Int) = 0 from rfl] at sm
    obtain ⟨b1, x1, x2, x3⟩ := ih (s + 1) fu best (by omega) h256 (by omega) hb
    obtain ⟨b2, y1, y2, y3⟩ := ih (s + 1) fu s (by omega) h256 (by omega) hs'
    rw [g_X9_bestYear_L17.eq_2, g_X10_year_L122.eq_2, sh, if_neg n1, if_neg n1, sm, c1, bS, c0, bS, ldk_c ha2, bS, hpu, w32_a s (by omega), ← e0, ← e1]
    by_cases d1 : suN e s 1 8 ≤ suN e best 1 8
    · rw [if_pos d1]
      have : (if pu < suN e s 0 8 then g_X10_year_L122 K (q : Int) (a2 : Int) a3 (o : Int) Sm fu (best : Int) (suN e best 1 8) ((s + 1 : Nat) : Int) else if suN e best 1 8 < suN e s 1 8 then g_X10_year_L122 K (q : Int) (a2 : Int) a3 (o : Int) Sm fu (s : Int) (suN e s 1 8) ((s + 1 : Nat) : Int) else g_X10_year_L122 K (q : Int) (a2 : Int) a3 (o : Int) Sm fu (best : Int) (suN e best 1 8) ((s + 1 : Nat) : Int)) = g_X10_year_L122 K (q : Int) (a2 : Int) a3 (o : Int) Sm fu (best : Int) (suN e best 1 8) ((s + 1 : Nat) : Int) := by
        split
        · rfl
        · rw [if_neg (by omega)]
      rw [this]
      exact ⟨b1, x1, x2, x3⟩
    · rw [if_neg d1]
      by_cases d2 : pu < suN e s 0 8
      · rw [if_pos d2, if_pos d2]
        exact ⟨b1, x1, x2, x3⟩
      · rw [if_neg d2, if_neg d2, if_pos (show suN e best 1 8 < suN e s 1 8 by omega)]
        exact ⟨b2, y1, y2, y3⟩
theorem m_year {b : Nat} {Sc Sm : Mem} (h : IV b Sc Sm) (x y z : Int) : ∃ r, g_X9_year x y z Sc = some r ∧ g_X10_year x y z Sm = some r := by
  obtain ⟨nW, nP, nB, law, h⟩ := h
  obtain ⟨hN, hO, hM, hL, hLm⟩ := ask_of h
  have h6 := hN.1.2
  have g5 := Inv_of_RS h
  unfold g_X9_year g_X10_year
  rw [hasp h6 hO.2.1.2 y (Or.inl rfl), isper h6 hM.1.2, btw, inn]
  by_cases c1 : 0 ≤ y ∧ y < (nP : Int)
  · obtain ⟨p, rfl⟩ := nat_of c1.1
    have hp : p < nP := by omega
    have hp6 : p < 6 := by omega
    rw [if_pos c1, i10, bS, i10]
    by_cases c2 : 0 ≤ z ∧ z ≤ 1
    · rw [if_pos c2, i10, i10]
      rcases ref_v g5 x (t := 1) (by decide) with ⟨r1, r2⟩ | ⟨q, hq, rfl, r2, ⟨r, z1, z2, z3, z4⟩ | ⟨z3, z4, n, n1, n2, n3, n4⟩⟩
      · rw [show ((1 : Nat) : Int) = 1 from rfl] at r1
        rw [r1, r2, bS, bS, if_neg (by decide), i00]
        exact ⟨_, rfl, rfl⟩
      · rw [show ((1 : Nat) : Int) = 1 from rfl] at z3 z4
        rw [z3, r2, bS, bS, if_neg (by omega), i10, z4, bS, if_neg (by omega)]
        exact ⟨_, rfl, rfl⟩
      · rw [show ((1 : Nat) : Int) = 1 from rfl] at z3 z4
        have yr : YR q n (fun k => w32 (gI Sc (24 + q) k)) Sc Sm := ⟨hq, n1, h.1, n2, n3, fun _ _ => rfl, fun k hk => by rw [n4 k hk]⟩
        have v5 := val_o hN hO (w := 5) (n := p) (by decide) hp
        rw [show ((5 : Nat) : Int) = 5 from rfl] at v5
        have m5 : gI Sm 62 p = nu Sc 5 p := hM.2 5 p (by decide) hp
        generalize (fun k => w32 (gI Sc (24 + q) k)) = e at yr
        obtain ⟨o1, o2, o3, o4⟩ := ofN_v (e := e) (n := n) 8 0 (fun k hk => absurd hk (Nat.not_lt_zero k)) (Or.inl rfl)
        obtain ⟨f1, f2⟩ := off_v (K := fun y7 => g_X10_year_L122 (fun y13 y14 => if z = 0 then some y14 else some y13) (q : Int) (p : Int) z y7 Sm FU 0 0 1) (a2 := (p : Int)) (a3 := z) yr hN.1.1 hO.2.1.1 8 0 FU rfl (by unfold FU; decide)
        rw [show ((0 : Nat) : Int) = 0 from rfl] at f1 f2
        generalize ofN e n 8 0 = o at o1 o2 o3 o4 f1 f2
        have po : 2 ^ o ≤ 256 := Nat.pow_le_pow_right (by decide) (show o ≤ 8 by omega)
        have p1 : 1 ≤ 2 ^ o := Nat.one_le_two_pow
        obtain ⟨best', u1, u2, u3⟩ := best_v (K := fun y13 y14 => if z = 0 then some y14 else some y13) (a3 := z) (pu := nu Sc 5 p) yr (by omega) o3 o4 hp6 m5 (2 ^ o - 1) 1 FU 0 (by omega) po (by unfold FU; omega) (by omega)
        have s0 : suN e 0 1 8 = 0 := by
          have : ∀ n, suN e 0 1 n = 0 := fun n => by
            induction n with
            | zero => rfl
            | succ n ih => show suN e 0 1 n + (if (0 : Nat).testBit n then e (2 * n + 1) else 0) = 0; rw [ih, Nat.zero_testBit, if_neg (by decide)]; rfl
          exact this 8
        rw [s0, show ((0 : Nat) : Int) = 0 from rfl, show ((1 : Nat) : Int) = 1 from rfl] at u2 u3
        have sh : o_shl 1 (o : Int) = ((2 ^ o : Nat) : Int) := by
          rw [show (1 : Int) = ((1 : Nat) : Int) from rfl, oshl (by omega) (by rw [Nat.one_mul]; exact Nat.lt_of_le_of_lt po (by decide)), Nat.one_mul]
        unfold g_X9_bestYear g_X9_offersOn g_X7_sizeOf
        rw [z3, r2, bS, bS, if_pos rfl, i10, z4, bS, i0l, v5, bS, has7, if_pos (show 0 ≤ (q : Int) ∧ (q : Int) < 6 by omega), i10, ldk_c hq, bS, bS, n2, f1, bS, sh, u2, bS, f2]
        try simp only []
        rw [u3]
        have c8 := sum_c yr (by omega) o3 o4 u1 (by omega) (p := 1) (by decide)
        rw [show ((1 : Nat) : Int) = 1 from rfl] at c8
        by_cases d : z = 0
        · rw [if_pos d, if_pos d, c8, bS]
          exact ⟨_, rfl, rfl⟩
        · rw [if_neg d, if_neg d]
          exact ⟨_, rfl, rfl⟩
    · rw [if_neg c2, i00, i00, shelf_v, bS]
      split <;> exact ⟨_, rfl, rfl⟩
  · rw [if_neg c1, i00, shelf_v, bS, bS, i00]
    split <;> exact ⟨_, rfl, rfl⟩
