/-! LACKS, CLUB, A FRACTION IN LOWEST TERMS -/
theorem bF : (if false = true then (1 : Int) else 0) = 0 := rfl
theorem bT : (if true = true then (1 : Int) else 0) = 1 := rfl
theorem i01 {α : Type} {a b : α} : (if (0 : Int) = 1 then a else b) = b := if_neg (by decide)
theorem i11 {α : Type} {a b : α} : (if (1 : Int) = 1 then a else b) = a := if_pos rfl
theorem isper {S : Mem} {nP : Nat} (hb : nP ≤ 6) (hP : gI S 56 7 = (nP : Nat)) (x : Int) : g_X10_isPerson x S = some (if 0 ≤ x ∧ x < nP then 1 else 0) := by
  unfold g_X10_isPerson
  rw [hP, w32s (i := (nP : Int) - 1) (by omega) (by omega), inn, chk_b]
  congr 1
  (repeat' split) <;> first | rfl | omega
theorem hasp {S : Mem} {nP : Nat} (hb : nP ≤ 6) (hP : gI S 1 2 = (nP : Nat)) (x : Int) {w : Int} (hw : w = 5 ∨ w = 6) : g_X5_has x w S = if 0 ≤ x ∧ x < nP then 1 else 0 := by
  unfold g_X5_has
  rw [hP]
  rcases hw with rfl | rfl <;> (repeat' split) <;> first | rfl | omega
/-- how many bits -/
def pcN (s : Nat) : Nat := (g_J6_bitCount_0f7a4 (s : Int)).toNat
theorem pcN_v : ∀ s, s < 64 → g_J6_bitCount_0f7a4 ((s : Nat) : Int) = ((pcN s : Nat) : Int) ∧ g_X10_bitsOf ((s : Nat) : Int) = some ((pcN s : Nat) : Int) ∧ pcN s ≤ 6 ∧ (pcN s = 0 ↔ s = 0) := by decide +kernel
theorem onot (s : Nat) (h : s < 64) : o_and (o_xor (s : Int) (-1)) 63 = o_and 63 (o_xor (s : Int) (-1)) := by
  revert h
  revert s
  decide +kernel
theorem lack_l {N : Nat → Nat → Int} {nW nP : Nat} {Sc Sm : Mem} {x : Int} (hN : NR N nW nP) (hO : OC N nW nP Sc) (hM : OM N nW nP Sm) : ∀ (m i fu : Nat) (b c : Int) (d a : Nat), i + m = nW → m < fu → a < 64 → ((b = -2 ∧ c = 0 ∧ d = 1) ∨ ∃ w : Nat, w < nW ∧ b = w ∧ c = N 0 w ∧ d = pcN (seN N w)) → ∃ (b' : Int) (a' : Nat), a' < 64 ∧ g_X9_dearest_L10 Sc fu b c (d : Int) (i : Int) = some b' ∧ g_X9_wordless_L4 Sc fu (a : Int) (i : Int) = some (o_and (o_xor (a' : Int) (-1)) 63) ∧ g_X10_lacks_L19 (fun y9 y10 => if x = 0 then some (o_and 63 (o_xor y9 (-1))) else some y10) x Sm fu (a : Int) b (i : Int) = if x = 0 then some (o_and 63 (o_xor (a' : Int) (-1))) else some b' := by
  intro m
  induction m with
  | zero =>
    intro i fu b c d a hi hf ha hb
    obtain ⟨fu, rfl⟩ : ∃ k, fu = k + 1 := ⟨fu - 1, by omega⟩
    refine ⟨b, a, ha, ?_, ?_, ?_⟩
    · rw [g_X9_dearest_L10.eq_2, hO.2.1.1, if_pos (by omega)]
    · rw [g_X9_wordless_L4.eq_2, hO.2.1.1, if_pos (by omega)]
    · rw [g_X10_lacks_L19.eq_2, hM.1.1, if_pos (by omega)]
  | succ m ih =>
    intro i fu b c d a hi hf ha hb
    obtain ⟨fu, rfl⟩ : ∃ k, fu = k + 1 := ⟨fu - 1, by omega⟩
    have hw : i < nW := by omega
    have h12 := hN.1
    have hi12 : i < 12 := by omega
    have v0 := val_o hN hO (w := 0) (n := i) (by decide) hw
    have v1 := val_o hN hO (w := 1) (n := i) (by decide) hw
    rw [show ((0 : Nat) : Int) = 0 from rfl] at v0
    rw [show ((1 : Nat) : Int) = 1 from rfl, (seN_i hN hw).1] at v1
    have m0 : gI Sm 57 i = N 0 i := hM.2 0 i (by decide) hw
    have m1 : gI Sm 58 i = ((seN N i : Nat) : Int) := by rw [← (seN_i hN hw).1]; exact hM.2 1 i (by decide) hw
    have s64 := (seN_i hN hw).2
    obtain ⟨p1, p2, p3, p4⟩ := pcN_v _ s64
    have r0 := hN.2 0 i (by decide) hw
    have r0a : 1 ≤ N 0 i := r0.1
    have r0b : N 0 i ≤ 9 := r0.2
    have n1 : ¬ (nW : Int) ≤ (i : Int) := by omega
    have oa := oor (a := a) (b := seN N i) (by omega) (by omega)
    have ob : a ||| seN N i < 64 := or_lt 6 ha s64
    rw [g_X9_dearest_L10.eq_2, g_X9_wordless_L4.eq_2, g_X10_lacks_L19.eq_2, hO.2.1.1, hM.1.1, if_neg n1, if_neg n1, if_neg n1, v0, bS, v1, bS, bS, p1, ldk_c hi12, bS, bS, m1, oa, w32_a i (by omega)]
    have go : ∀ (b c : Int) (d : Nat), ((b = -2 ∧ c = 0 ∧ d = 1) ∨ ∃ w : Nat, w < nW ∧ b = w ∧ c = N 0 w ∧ d = pcN (seN N w)) → ∃ (b' : Int) (a' : Nat), a' < 64 ∧ g_X9_dearest_L10 Sc fu b c (d : Int) ((i + 1 : Nat) : Int) = some b' ∧ g_X9_wordless_L4 Sc fu ((a ||| seN N i : Nat) : Int) ((i + 1 : Nat) : Int) = some (o_and (o_xor (a' : Int) (-1)) 63) ∧ g_X10_lacks_L19 (fun y9 y10 => if x = 0 then some (o_and 63 (o_xor y9 (-1))) else some y10) x Sm fu ((a ||| seN N i : Nat) : Int) b ((i + 1 : Nat) : Int) = if x = 0 then some (o_and 63 (o_xor (a' : Int) (-1))) else some b' := fun b c d h => ih (i + 1) fu b c d _ (by omega) (by omega) ob h
    by_cases z : seN N i = 0
    · rw [if_pos (show ((pcN (seN N i) : Nat) : Int) ≤ 0 by have := p4.mpr z; omega), if_pos (show ((seN N i : Nat) : Int) = 0 by omega)]
      exact go b c d hb
    · have pz : pcN (seN N i) ≠ 0 := fun q => z (p4.mp q)
      rw [if_neg (show ¬ ((pcN (seN N i) : Nat) : Int) ≤ 0 by omega), if_neg (show ¬ ((seN N i : Nat) : Int) = 0 by omega)]
      rcases hb with ⟨rfl, rfl, rfl⟩ | ⟨w, hw', rfl, rfl, rfl⟩
      · rw [if_pos (show (-2 : Int) < 0 by decide), show w32 (0 * ((pcN (seN N i) : Nat) : Int)) = 0 by rw [Int.zero_mul]; rfl, show w32 (N 0 i * ((1 : Nat) : Int)) = N 0 i by rw [show ((1 : Nat) : Int) = 1 from rfl, Int.mul_one, w32s (by omega) (by omega)], if_neg (show ¬ N 0 i ≤ 0 by omega)]
        exact go _ _ _ (Or.inr ⟨i, hw, rfl, rfl, rfl⟩)
      · have w12 : w < 12 := by omega
        have k0 : gI Sm 57 w = N 0 w := hM.2 0 w (by decide) hw'
        have k1 : gI Sm 58 w = ((seN N w : Nat) : Int) := by rw [← (seN_i hN hw').1]; exact hM.2 1 w (by decide) hw'
        obtain ⟨q1, q2, q3, q4⟩ := pcN_v _ (seN_i hN hw').2
        rw [if_neg (show ¬ (w : Int) < 0 by omega), ldk_c hi12, bS, ldk_c w12, bS, k1, q2, bS, ldk_c w12, bS, bS, p2, bS, m0, k0]
        split
        · exact go _ _ _ (Or.inr ⟨w, hw', rfl, rfl, rfl⟩)
        · exact go _ _ _ (Or.inr ⟨i, hw, rfl, rfl, rfl⟩)
theorem m_lacks {b : Nat} {Sc Sm : Mem} (h : IV b Sc Sm) (x : Int) : ∃ r, g_X9_lacks x Sc = some r ∧ g_X10_lacks x Sm = some r := by
  obtain ⟨nW, nP, nB, law, h⟩ := h
  obtain ⟨hN, hO, hM, hL, hLm⟩ := ask_of h
  unfold g_X9_lacks g_X10_lacks
  rw [btw, inn]
  by_cases c : 0 ≤ x ∧ x ≤ 1
  · obtain ⟨b', a', a1, a2, a3, a4⟩ := lack_l (x := x) hN hO hM nW 0 FU (-2) 0 1 0 (Nat.zero_add _) (by have := hN.1; unfold FU; omega) (by decide) (Or.inl ⟨rfl, rfl, rfl⟩)
    rw [show ((0 : Nat) : Int) = 0 from rfl] at a2 a3 a4
    rw [show ((1 : Nat) : Int) = 1 from rfl] at a2
    unfold g_X9_wordless g_X9_dearest
    rw [if_pos c, i10, i10, a2, a3, a4, bS, bS]
    by_cases z : x = 0
    · rw [if_pos z, if_pos z, onot a' a1]
      exact ⟨_, rfl, rfl⟩
    · rw [if_neg z, if_neg z]
      exact ⟨_, rfl, rfl⟩
  · rw [if_neg c, i00, i00]
    exact ⟨_, rfl, rfl⟩
-- Euclid's: the class takes 200 steps at most, that is enough
theorem lcm_p {k : Nat} : lcm (k : Int) 0 = if k = 0 then 0 else 1 := by
  unfold lcm
  by_cases c : k = 0
  · subst c; rfl
  · rw [if_pos (by omega), if_neg c]
theorem half (r b : Nat) (hr : r < b) (h0 : r ≠ 0) : 2 * (b % r) < b := by
  by_cases c : 2 * r ≤ b
  · have := Nat.mod_lt b (Nat.pos_of_ne_zero h0)
    omega
  · rw [Nat.mod_eq_sub_mod (Nat.le_of_lt hr), Nat.mod_eq_of_lt (by omega)]
    omega
theorem tmodn (a b : Nat) : ((a : Int)).tmod (b : Int) = ((a % b : Nat) : Int) := by
  rw [tmn _ (by omega)]
  rfl
/-- the greatest common divisor, as both loops find it -/
theorem euc {K : Int → Option Int} {A B P : Int} : ∀ (k a b i fu fu' : Nat), b < 2 ^ k → i + 2 * k + 2 ≤ 200 → 2 * k + 2 ≤ fu → 2 * k + 2 ≤ fu' → 0 < a ∨ 0 < b → ∃ g : Nat, 0 < g ∧ g_X9_inLowest_L25 K A B P fu (a : Int) (b : Int) (i : Int) = K (g : Int) ∧ ∀ (K' : Int → Option Int) (A' B' P' : Int), g_X10_lowest_L16 K' A' B' P' fu' (a : Int) (b : Int) = K' (g : Int) := by
  intro k
  induction k with
  | zero =>
    intro a b i fu fu' hb hi hf hf' hp
    obtain ⟨fu, rfl⟩ : ∃ k, fu = k + 1 := ⟨fu - 1, by omega⟩
    obtain ⟨fu', rfl⟩ : ∃ k, fu' = k + 1 := ⟨fu' - 1, by omega⟩
    have hb : b = 0 := by simp at hb; omega
    subst hb
    refine ⟨a, by omega, ?_, fun K' A' B' P' => ?_⟩
    · rw [g_X9_inLowest_L25.eq_2, if_neg (by omega), lcm_p, if_pos rfl, if_pos rfl]
    · rw [g_X10_lowest_L16.eq_2, lcm_p, if_pos rfl, if_pos rfl]
  | succ k ih =>
    intro a b i fu fu' hb hi hf hf' hp
    obtain ⟨fu, rfl⟩ : ∃ k, fu = k + 1 + 1 := ⟨fu - 2, by omega⟩
    obtain ⟨fu', rfl⟩ : ∃ k, fu' = k + 1 + 1 := ⟨fu' - 2, by omega⟩
    by_cases c : b = 0
    · subst c
      refine ⟨a, by omega, ?_, fun K' A' B' P' => ?_⟩
      · rw [g_X9_inLowest_L25.eq_2, if_neg (by omega), lcm_p, if_pos rfl, if_pos rfl]
      · rw [g_X10_lowest_L16.eq_2, lcm_p, if_pos rfl, if_pos rfl]
    · have hr := Nat.mod_lt a (Nat.pos_of_ne_zero c)
      have e1 : ¬ (b : Int) = 0 := by omega
      have e2 : ¬ (200 : Int) ≤ (i : Int) := by omega
      have e3 : ¬ (200 : Int) ≤ ((i + 1 : Nat) : Int) := by omega
      by_cases c2 : a % b = 0
      · refine ⟨b, by omega, ?_, fun K' A' B' P' => ?_⟩
        · rw [g_X9_inLowest_L25.eq_2, if_neg e2, lcm_p, if_neg c, if_neg (by decide), chk_t e1, tmodn, c2, w32_a i (by omega), g_X9_inLowest_L25.eq_2, if_neg e3, lcm_p, if_pos rfl, if_pos rfl]
        · rw [g_X10_lowest_L16.eq_2, lcm_p, if_neg c, if_neg (by decide), chk_t e1, tmodn, c2, g_X10_lowest_L16.eq_2, lcm_p, if_pos rfl, if_pos rfl]
      · have hh := half (a % b) b hr c2
        have e4 : ¬ ((a % b : Nat) : Int) = 0 := by omega
        obtain ⟨g, g1, g2, g3⟩ := ih (a % b) (b % (a % b)) (i + 2) fu fu' (by rw [Nat.pow_succ] at hb; omega) (by omega) (by omega) (by omega) (Or.inl (by omega))
        refine ⟨g, g1, ?_, fun K' A' B' P' => ?_⟩
        · rw [g_X9_inLowest_L25.eq_2, if_neg e2, lcm_p, if_neg c, if_neg (by decide), chk_t e1, tmodn, w32_a i (by omega), g_X9_inLowest_L25.eq_2, if_neg e3, lcm_p, if_neg c2, if_neg (by decide), chk_t e4, tmodn, w32_a (i + 1) (by omega)]
          exact g2
        · rw [g_X10_lowest_L16.eq_2, lcm_p, if_neg c, if_neg (by decide), chk_t e1, tmodn, g_X10_lowest_L16.eq_2, lcm_p, if_neg c2, if_neg (by decide), chk_t e4, tmodn]
          exact g3 K' A' B' P'
/-- both sides' fractions are alike -/
theorem low_v {x y : Nat} {p : Int} (hx : x < 2 ^ 63) (hy : y < 2 ^ 63) (hxy : x ≠ 0 → y ≠ 0) : ∃ r, g_X9_inLowest (x : Int) (y : Int) p = some r ∧ g_X10_lowest (x : Int) (y : Int) p = some r := by
  unfold g_X9_inLowest g_X10_lowest
  rw [lcm_p, lcm_p]
  by_cases c : x = 0
  · rw [if_pos c, if_pos (by decide), if_pos rfl]
    exact ⟨_, rfl, rfl⟩
  · obtain ⟨g, g1, g2, g3⟩ := euc (K := fun y1 => if 0 < (lcm y1 0) then if p = 0 then chk (¬ y1 = 0) (some (w64 (Int.tdiv (x : Int) y1))) else chk (¬ y1 = 0) (some (w64 (Int.tdiv (y : Int) y1))) else some p) (A := (x : Int)) (B := (y : Int)) (P := p) 63 x y 0 FU FU hy (by decide) (by unfold FU; decide) (by unfold FU; decide) (Or.inl (by omega))
    rw [if_neg c, if_neg (hxy c), if_neg (by decide), if_pos (by decide), if_neg (by decide)]
    rw [show ((0 : Nat) : Int) = 0 from rfl] at g2
    have e1 : ¬ (g : Int) = 0 := by omega
    have eg : (if g = 0 then (0 : Int) else 1) = 1 := if_neg (by omega)
    rw [g2, g3, lcm_p, eg, if_pos (show (0 : Int) < 1 by decide), chk_t e1, chk_t e1]
    split <;> exact ⟨_, rfl, rfl⟩
-- CLUB
def inS (s k : Nat) : Bool := s.testBit k
theorem bit_m {s k : Nat} (hk : k < 32) (hs : s < 2147483648) : o_and (o_shr (s : Int) (k : Int)) 1 = if s.testBit k then 1 else 0 := by
  rw [oshr hk hs, show (1 : Int) = ((1 : Nat) : Int) from rfl, oand (Nat.lt_of_le_of_lt (Nat.div_le_self _ _) hs), bitn]
  cases s.testBit k <;> rfl
/-- how many of a set stand ahead of one -/
def ahN (s one : Nat) : Nat → Nat
  | 0 => 0
  | n + 1 => ahN s one n + if n < one ∧ s.testBit n then 1 else 0
theorem ahN_v : ∀ s, s < 64 → ∀ one, one < 6 → ∀ nP, nP < 7 → one < nP → g_X10_bitsOf (o_and ((s : Nat) : Int) (w32 (o_shl 1 ((one : Nat) : Int) - 1))) = some ((ahN s one nP : Nat) : Int) := by decide +kernel
theorem ahN_le (s one : Nat) : ∀ n, ahN s one n ≤ n
  | 0 => Nat.le_refl _
  | n + 1 => by
    have := ahN_le s one n
    show ahN s one n + (if n < one ∧ s.testBit n then 1 else 0) ≤ n + 1
    split <;> omega
def puN (N : Nat → Nat → Int) (p : Nat) : Nat := (N 5 p).toNat
theorem puN_i {N : Nat → Nat → Int} {nW nP p : Nat} (hN : NR N nW nP) (hp : p < nP) : N 5 p = ((puN N p : Nat) : Int) ∧ puN N p ≤ 999 := by
  obtain ⟨a, b⟩ := hN.2 5 p (by decide) hp
  have a : 0 ≤ N 5 p := a
  have b : N 5 p ≤ 999 := b
  unfold puN
  omega
def clA (N : Nat → Nat → Int) (s : Nat) : Nat → Nat
  | 0 => 0
  | n + 1 => clA N s n + if s.testBit n then puN N n else 0
theorem clA_le {N : Nat → Nat → Int} {nW nP s : Nat} (hN : NR N nW nP) : ∀ n, n ≤ nP → clA N s n ≤ 999 * n
  | 0, _ => Nat.le_refl _
  | n + 1, h => by
    have := clA_le (s := s) hN n (by omega)
    have := (puN_i hN (show n < nP by omega)).2
    show clA N s n + (if s.testBit n then puN N n else 0) ≤ 999 * (n + 1)
    split <;> omega
theorem club_1 {N : Nat → Nat → Int} {nW nP s : Nat} {Sc Sm : Mem} {K K' : Int → Option Int} {a2 a3 : Int} (hN : NR N nW nP) (hO : OC N nW nP Sc) (hM : OM N nW nP Sm) (hs : s < 64) : ∀ (m i fu : Nat), i + m = nP → m < fu → g_X9_club_L50 K (s : Int) a2 a3 Sc fu ((clA N s i : Nat) : Int) (i : Int) = K ((clA N s nP : Nat) : Int) ∧ g_X10_club_L43 K' (s : Int) a2 a3 Sm fu ((clA N s i : Nat) : Int) (i : Int) = K' ((clA N s nP : Nat) : Int) := by
  intro m
  induction m with
  | zero =>
    intro i fu hi hf
    obtain ⟨fu, rfl⟩ : ∃ k, fu = k + 1 := ⟨fu - 1, by omega⟩
    have hi : i = nP := hi
    rw [g_X9_club_L50.eq_2, g_X10_club_L43.eq_2, hO.2.1.2, hM.1.2, if_pos (by omega), if_pos (by omega), hi]
    exact ⟨rfl, rfl⟩
  | succ m ih =>
    intro i fu hi hf
    obtain ⟨fu, rfl⟩ : ∃ k, fu = k + 1 := ⟨fu - 1, by omega⟩
    have h6 := hN.1.2
    have hp : i < nP := by omega
    have v5 := val_o hN hO (w := 5) (n := i) (by decide) hp
    rw [show ((5 : Nat) : Int) = 5 from rfl, (puN_i hN hp).1] at v5
    have m5 : gI Sm 62 i = ((puN N i : Nat) : Int) := by rw [← (puN_i hN hp).1]; exact hM.2 5 i (by decide) hp
    have cl := clA_le (s := s) hN i (by omega)
    have pu := (puN_i hN hp).2
    have n1 : ¬ (nP : Int) ≤ (i : Int) := by omega
    have hi6 : i < 6 := by omega
    obtain ⟨i1, i2⟩ := ih (i + 1) fu (by omega) (by omega)
    rw [g_X9_club_L50.eq_2, g_X10_club_L43.eq_2, hO.2.1.2, hM.1.2, if_neg n1, if_neg n1, isIn_n (by omega) (by omega), bit_m (by omega) (by omega), w32_a i (by omega)]
    have es : clA N s (i + 1) = clA N s i + if s.testBit i then puN N i else 0 := rfl
    cases hb : s.testBit i with
    | false =>
      rw [hb] at es
      rw [es] at i1 i2
      rw [bF, i00, i01, show w32 (((clA N s i : Nat) : Int) + 0) = ((clA N s i + 0 : Nat) : Int) from w_add _ 0 (by omega)]
      exact ⟨i1, i2⟩
    | true =>
      rw [hb] at es
      rw [es, if_pos rfl] at i1 i2
      rw [bT, i10, i11, v5, bS, ldk_c hi6, bS, m5, w_add _ _ (by omega)]
      exact ⟨i1, i2⟩
def shN (N : Nat → Nat → Int) (v A i : Nat) : Nat := if A = 0 then 0 else v * puN N i / A
def lfN (N : Nat → Nat → Int) (s v A : Nat) : Nat → Int
  | 0 => v
  | n + 1 => lfN N s v A n - ((if s.testBit n then shN N v A n else 0 : Nat) : Int)
theorem vpu {N : Nat → Nat → Int} {nW nP v i : Nat} (hN : NR N nW nP) (hv : v ≤ 999) (hi : i < nP) : v * puN N i ≤ 998001 := Nat.le_trans (Nat.mul_le_mul hv (puN_i hN hi).2) (by decide)
theorem shN_le {N : Nat → Nat → Int} {nW nP v A i : Nat} (hN : NR N nW nP) (hv : v ≤ 999) (hi : i < nP) : shN N v A i ≤ 998001 := by
  unfold shN
  split
  · omega
  · exact Nat.le_trans (Nat.div_le_self _ _) (vpu hN hv hi)
theorem lfN_b {N : Nat → Nat → Int} {nW nP s v A : Nat} (hN : NR N nW nP) (hv : v ≤ 999) : ∀ n, n ≤ nP → -998001 * (n : Int) ≤ lfN N s v A n ∧ lfN N s v A n ≤ 999
  | 0, _ => by show -998001 * ((0 : Nat) : Int) ≤ (v : Int) ∧ (v : Int) ≤ 999; omega
  | n + 1, h => by
    have ih := lfN_b (s := s) (A := A) hN hv n (by omega)
    have sh := shN_le (A := A) hN hv (show n < nP by omega)
    show -998001 * ((n + 1 : Nat) : Int) ≤ lfN N s v A n - _ ∧ lfN N s v A n - _ ≤ 999
    split <;> omega
theorem sh_d {v A p : Nat} (hA : A ≠ 0) (h : v * p ≤ 998001) : w32 (Int.tdiv (w32 ((v : Int) * (p : Int))) (A : Int)) = ((v * p / A : Nat) : Int) := by
  rw [show (v : Int) * (p : Int) = ((v * p : Nat) : Int) from (Int.natCast_mul v p).symm]
  generalize v * p = m at h ⊢
  have d := Nat.div_le_self m A
  rw [w32s (i := (m : Int)) (by omega) (by omega), tdn _ (by omega), show (m : Int) / (A : Int) = ((m / A : Nat) : Int) from rfl]
  generalize m / A = e at d ⊢
  exact w32s (by omega) (by omega)
theorem share_v {N : Nat → Nat → Int} {nW nP v A i : Nat} {S : Mem} (hN : NR N nW nP) (hO : OC N nW nP S) (hv : v ≤ 999) (hi : i < nP) : g_X9_shareOf (i : Int) (v : Int) (A : Int) S = some ((shN N v A i : Nat) : Int) := by
  unfold g_X9_shareOf shN
  by_cases c : A = 0
  · rw [if_pos (by omega), if_pos c]
    rfl
  · have v5 := val_o hN hO (w := 5) (n := i) (by decide) hi
    rw [show ((5 : Nat) : Int) = 5 from rfl, (puN_i hN hi).1] at v5
    rw [if_neg (by omega), v5, bS, chk_t (by omega), sh_d c (vpu hN hv hi), if_neg c]
theorem club_2 {N : Nat → Nat → Int} {nW nP s v A one : Nat} {Sc : Mem} {K : Int → Int → Option Int} (hN : NR N nW nP) (hO : OC N nW nP Sc) (hs : s < 64) (hv : v ≤ 999) : ∀ (m i fu : Nat), i + m = nP → m < fu → g_X9_club_L122 K (s : Int) (v : Int) (one : Int) (A : Int) Sc fu (lfN N s v A i) ((ahN s one i : Nat) : Int) (i : Int) = K (lfN N s v A nP) ((ahN s one nP : Nat) : Int) := by
  intro m
  induction m with
  | zero =>
    intro i fu hi hf
    obtain ⟨fu, rfl⟩ : ∃ k, fu = k + 1 := ⟨fu - 1, by omega⟩
    have hi : i = nP := hi
    rw [g_X9_club_L122.eq_2, hO.2.1.2, if_pos (by omega), hi]
  | succ m ih =>
    intro i fu hi hf
    obtain ⟨fu, rfl⟩ : ∃ k, fu = k + 1 := ⟨fu - 1, by omega⟩
    have h6 := hN.1.2
    have hp : i < nP := by omega
    have lb := lfN_b (s := s) (A := A) hN hv i (by omega)
    have sh := shN_le (A := A) hN hv hp
    have ab := ahN_le s one i
    have n1 : ¬ (nP : Int) ≤ (i : Int) := by omega
    have i1 := ih (i + 1) fu (by omega) (by omega)
    have el : lfN N s v A (i + 1) = lfN N s v A i - ((if s.testBit i then shN N v A i else 0 : Nat) : Int) := rfl
    have ea : ahN s one (i + 1) = ahN s one i + if i < one ∧ s.testBit i then 1 else 0 := rfl
    rw [g_X9_club_L122.eq_2, hO.2.1.2, if_neg n1, isIn_n (by omega) (by omega)]
    unfold g_X9_club_J158
    rw [isIn_n (by omega) (by omega), w32_a i (by omega)]
    cases hb : s.testBit i with
    | false =>
      rw [hb] at el ea
      rw [el, ea, if_neg (show ¬ (i < one ∧ false = true) by simp)] at i1
      rw [bF, i00]
      have e1 : w32 (lfN N s v A i - 0) = lfN N s v A i - ((0 : Nat) : Int) := w32s (by omega) (by omega)
      have e2 : w32 (((ahN s one i : Nat) : Int) + 0) = ((ahN s one i + 0 : Nat) : Int) := w_add _ 0 (by clear e1; omega)
      rw [e1, e2]
      clear e1 e2
      split
      · exact i1
      · exact i1
    | true =>
      rw [hb] at el ea
      rw [el, ea, if_pos rfl] at i1
      rw [bT, i10, share_v hN hO hv hp, bS]
      have e1 : w32 (lfN N s v A i - ((shN N v A i : Nat) : Int)) = lfN N s v A i - ((shN N v A i : Nat) : Int) := w32s (by omega) (by omega)
      rw [e1]
      clear e1
      by_cases c : i < one
      · rw [if_pos ⟨c, rfl⟩] at i1
        rw [if_neg (show ¬ (one : Int) ≤ (i : Int) by omega), i10, w32_a _ (by omega)]
        exact i1
      · rw [if_neg (fun q => c q.1)] at i1
        rw [if_pos (show (one : Int) ≤ (i : Int) by omega), show w32 (((ahN s one i : Nat) : Int) + 0) = ((ahN s one i + 0 : Nat) : Int) from w_add _ 0 (by omega)]
        exact i1
theorem club_3 {N : Nat → Nat → Int} {nW nP s v A : Nat} {Sm : Mem} {K : Int → Option Int} {a3 : Int} (hN : NR N nW nP) (hM : OM N nW nP Sm) (hs : s < 64) (hv : v ≤ 999) (hA : A ≠ 0) : ∀ (m i fu : Nat), i + m = nP → m < fu → g_X10_club_L109 K (s : Int) (v : Int) a3 (A : Int) Sm fu (lfN N s v A i) (i : Int) = K (lfN N s v A nP) := by
  intro m
  induction m with
  | zero =>
    intro i fu hi hf
    obtain ⟨fu, rfl⟩ : ∃ k, fu = k + 1 := ⟨fu - 1, by omega⟩
    have hi : i = nP := hi
    rw [g_X10_club_L109.eq_2, hM.1.2, if_pos (by omega), hi]
  | succ m ih =>
    intro i fu hi hf
    obtain ⟨fu, rfl⟩ : ∃ k, fu = k + 1 := ⟨fu - 1, by omega⟩
    have h6 := hN.1.2
    have hp : i < nP := by omega
    have hi6 : i < 6 := by omega
    have lb := lfN_b (s := s) (A := A) hN hv i (by omega)
    have sh := shN_le (A := A) hN hv hp
    have n1 : ¬ (nP : Int) ≤ (i : Int) := by omega
    have i1 := ih (i + 1) fu (by omega) (by omega)
    have el : lfN N s v A (i + 1) = lfN N s v A i - ((if s.testBit i then shN N v A i else 0 : Nat) : Int) := rfl
    rw [g_X10_club_L109.eq_2, hM.1.2, if_neg n1, bit_m (by omega) (by omega), w32_a i (by omega)]
    cases hb : s.testBit i with
    | false =>
      rw [hb] at el
      have e0 : lfN N s v A (i + 1) = lfN N s v A i := by rw [el]; simp
      rw [e0] at i1
      rw [bF, i01]
      exact i1
    | true =>
      rw [hb, if_pos rfl] at el
      rw [el] at i1
      have m5 : gI Sm 62 i = ((puN N i : Nat) : Int) := by rw [← (puN_i hN hp).1]; exact hM.2 5 i (by decide) hp
      have es : shN N v A i = v * puN N i / A := if_neg hA
      have e1 : w32 (lfN N s v A i - ((shN N v A i : Nat) : Int)) = lfN N s v A i - ((shN N v A i : Nat) : Int) := w32s (by omega) (by omega)
      rw [bT, i11, ldk_c hi6, bS, chk_t (by clear e1; omega), m5, sh_d hA (vpu hN hv hp), ← es, e1]
      exact i1
theorem shl1 {n : Nat} (h : n ≤ 6) : o_shl 1 (n : Int) = ((2 ^ n : Nat) : Int) := by
  rw [show (1 : Int) = ((1 : Nat) : Int) from rfl, oshl (by omega) (by rw [Nat.one_mul]; exact Nat.lt_of_le_of_lt (Nat.pow_le_pow_right (by decide) h) (by decide)), Nat.one_mul]
theorem p64 {n : Nat} (h : n ≤ 6) : 1 ≤ 2 ^ n ∧ 2 ^ n ≤ 64 := ⟨Nat.one_le_two_pow, Nat.le_trans (Nat.pow_le_pow_right (by decide) h) (by decide)⟩
theorem m_club {b : Nat} {Sc Sm : Mem} (h : IV b Sc Sm) (x y z : Int) : ∃ r, g_X9_club x y z Sc = some r ∧ g_X10_club x y z Sm = some r := by
  obtain ⟨nW, nP, nB, law, h⟩ := h
  obtain ⟨hN, hO, hM, hL, hLm⟩ := ask_of h
  have h6 := hN.1.2
  obtain ⟨q1, q2⟩ := p64 h6
  unfold g_X9_club g_X10_club
  rw [hO.2.1.2, hM.1.2, shl1 h6, w32s (i := ((2 ^ nP : Nat) : Int) - 1) (by omega) (by omega), btw, inn, btw, inn, hasp h6 hO.2.1.2 z (Or.inl rfl), isper h6 hM.1.2, bS]
  by_cases c1 : 0 ≤ x ∧ x ≤ ((2 ^ nP : Nat) : Int) - 1
  · rw [if_pos c1, i10, i10]
    by_cases c2 : 0 ≤ y ∧ y ≤ 999
    · rw [if_pos c2, i10, i10]
      by_cases c3 : 0 ≤ z ∧ z < (nP : Int)
      · obtain ⟨s, rfl⟩ := nat_of c1.1
        obtain ⟨v, rfl⟩ := nat_of c2.1
        obtain ⟨one, rfl⟩ := nat_of c3.1
        have hs : s < 64 := by omega
        have hv : v ≤ 999 := by omega
        have ho : one < nP := by omega
        have ho6 : one < 6 := by omega
        have cl := club_1 (s := s) (a2 := (v : Int)) (a3 := (one : Int)) (K := fun y2 => if (g_X9_isIn (s : Int) (one : Int)) = 0 then some (-2) else if (v : Int) ≤ y2 then g_X9_club_L122 (fun y4 y5 => (g_X9_shareOf (one : Int) (v : Int) y2 Sc).bind fun x6 => if y4 ≤ y5 then some (w32 (x6 + 0)) else some (w32 (x6 + 1))) (s : Int) (v : Int) (one : Int) y2 Sc FU (v : Int) 0 0 else some (-2)) (K' := fun y3 => if (o_and (o_shr (s : Int) (one : Int)) 1) = 0 then some (-2) else if (v : Int) ≤ y3 then if (v : Int) = 0 then some 0 else g_X10_club_L109 (fun y6 => (g_X10_bitsOf (o_and (s : Int) (w32 ((o_shl 1 (one : Int)) - 1)))).bind fun x7 => (ldk Sm 62 6 (one : Int)).bind fun x8 => chk (¬ y3 = 0) (if y6 ≤ x7 then some (w32 ((w32 (Int.tdiv (w32 ((v : Int) * x8)) y3)) + 0)) else some (w32 ((w32 (Int.tdiv (w32 ((v : Int) * x8)) y3)) + 1)))) (s : Int) (v : Int) (one : Int) y3 Sm FU (v : Int) 0 else some (-2)) hN hO hM hs nP 0 FU (Nat.zero_add _) (by unfold FU; omega)
        rw [show ((clA (nu Sc) s 0 : Nat) : Int) = 0 from rfl, show ((0 : Nat) : Int) = 0 from rfl] at cl
        rw [if_pos c3, i10, i10, cl.1, cl.2, isIn_n (by omega) (by omega), bit_m (by omega) (by omega)]
        clear cl
        cases hb : s.testBit one with
        | false =>
          rw [bF, i00, i00]
          exact ⟨_, rfl, rfl⟩
        | true =>
          rw [bT, i10, i10]
          generalize hA : clA (nu Sc) s nP = A
          by_cases c4 : v ≤ A
          · rw [if_pos (by omega), if_pos (by omega)]
            have d2 := club_2 (s := s) (v := v) (A := A) (one := one) (K := fun y4 y5 => (g_X9_shareOf (one : Int) (v : Int) (A : Int) Sc).bind fun x6 => if y4 ≤ y5 then some (w32 (x6 + 0)) else some (w32 (x6 + 1))) hN hO hs hv nP 0 FU (Nat.zero_add _) (by unfold FU; omega)
            rw [show lfN (nu Sc) s v A 0 = (v : Int) from rfl, show ((ahN s one 0 : Nat) : Int) = 0 from rfl, show ((0 : Nat) : Int) = 0 from rfl] at d2
            rw [d2, share_v hN hO hv ho, bS]
            clear d2
            have sl := shN_le (A := A) hN hv ho
            by_cases c5 : v = 0
            · have e0 : ∀ i, shN (nu Sc) v A i = 0 := fun i => by
                unfold shN
                rw [c5]
                split
                · rfl
                · rw [Nat.zero_mul, Nat.zero_div]
              have el : ∀ n, lfN (nu Sc) s v A n = 0 := by
                intro n
                induction n with
                | zero => show (v : Int) = 0; omega
                | succ n ih =>
                  show lfN (nu Sc) s v A n - ((if s.testBit n then shN (nu Sc) v A n else 0 : Nat) : Int) = 0
                  rw [ih, e0]
                  split <;> rfl
              rw [el, e0, if_pos (show (0 : Int) ≤ ((ahN s one nP : Nat) : Int) by omega), if_pos (show (v : Int) = 0 by omega)]
              exact ⟨0, rfl, rfl⟩
            · have hA0 : A ≠ 0 := by omega
              have d3 := club_3 (s := s) (v := v) (A := A) (a3 := (one : Int)) (K := fun y6 => (g_X10_bitsOf (o_and (s : Int) (w32 ((o_shl 1 (one : Int)) - 1)))).bind fun x7 => (ldk Sm 62 6 (one : Int)).bind fun x8 => chk (¬ (A : Int) = 0) (if y6 ≤ x7 then some (w32 ((w32 (Int.tdiv (w32 ((v : Int) * x8)) (A : Int))) + 0)) else some (w32 ((w32 (Int.tdiv (w32 ((v : Int) * x8)) (A : Int))) + 1)))) hN hM hs hv hA0 nP 0 FU (Nat.zero_add _) (by unfold FU; omega)
              rw [show lfN (nu Sc) s v A 0 = (v : Int) from rfl, show ((0 : Nat) : Int) = 0 from rfl] at d3
              have m5 : gI Sm 62 one = ((puN (nu Sc) one : Nat) : Int) := by rw [← (puN_i hN ho).1]; exact hM.2 5 one (by decide) ho
              have es : shN (nu Sc) v A one = v * puN (nu Sc) one / A := if_neg hA0
              rw [if_neg (show ¬ (v : Int) = 0 by omega), d3, ahN_v s hs one ho6 nP (by omega) ho, bS, ldk_c ho6, bS, chk_t (by omega), m5, sh_d hA0 (vpu hN hv ho), ← es]
              by_cases c6 : lfN (nu Sc) s v A nP ≤ ((ahN s one nP : Nat) : Int)
              · rw [if_pos c6]
                exact ⟨_, rfl, rfl⟩
              · rw [if_neg c6]
                exact ⟨_, rfl, rfl⟩
          · rw [if_neg (show ¬ (v : Int) ≤ (A : Int) by omega), if_neg (show ¬ (v : Int) ≤ (A : Int) by omega)]
            exact ⟨_, rfl, rfl⟩
      · rw [if_neg c3, i00, i00]
        exact ⟨_, rfl, rfl⟩
    · rw [if_neg c2, i00, i00]
      exact ⟨_, rfl, rfl⟩
  · rw [if_neg c1, i00, i00]
    exact ⟨_, rfl, rfl⟩
