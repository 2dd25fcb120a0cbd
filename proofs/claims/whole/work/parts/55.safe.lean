/-! ITS FIRST SIX WORDS; HOW LIKELY IT IS SAFE -/
theorem take_g {ws : List Nat} {k : Nat} (hk : k < (ws.take 6).length) : (ws.take 6).getD k 0 = ws.getD k 0 ∧ k < 6 ∧ k < ws.length := by
  rw [List.length_take] at hk
  refine ⟨?_, by omega, by omega⟩
  rw [List.getD_eq_getElem?_getD, List.getD_eq_getElem?_getD, List.getElem?_take_of_lt (by omega)]
theorem size_c {nW : Nat} {S : Mem} {ws : List Nat} (h : TG nW S ws) : g_X3_size S = (((ws.take 6).length : Nat) : Int) := by
  unfold g_X3_size
  rw [h.2.1, show (6 : Int) = ((6 : Nat) : Int) from rfl, min_j, List.length_take]
theorem len6 (ws : List Nat) : (ws.take 6).length ≤ 6 := by
  rw [List.length_take]
  omega
theorem tk_w {nW : Nat} {ws : List Nat} (h : ∀ k, k < ws.length → ws.getD k 0 < nW) {k : Nat} (hk : k < (ws.take 6).length) : (ws.take 6).getD k 0 < nW := by
  obtain ⟨a, b, c⟩ := take_g hk
  rw [a]
  exact h k c
theorem wat_c {nW : Nat} {S : Mem} {ws : List Nat} (h : TG nW S ws) {k : Nat} (hk : k < (ws.take 6).length) : g_X8_wordAt (k : Int) S = some (((ws.take 6).getD k 0 : Nat) : Int) := by
  obtain ⟨a, b, c⟩ := take_g hk
  unfold g_X8_wordAt
  rw [if_neg (show ¬ (k : Int) < 0 by omega), h.2.1, if_neg (show ¬ (ws.length : Int) ≤ (k : Int) by omega), if_neg (show ¬ (12 : Int) ≤ (k : Int) by omega), ldk_c (show k < 12 by omega), bS, h.2.2 k c, a]
theorem orT_c {f g : Nat → Nat} : ∀ n, (∀ k, k < n → f k = g k) → orT f n = orT g n
  | 0, _ => rfl
  | n + 1, h => by
    show orT f n ||| f n = orT g n ||| g n
    rw [orT_c n (fun k hk => h k (by omega)), h n (Nat.lt_succ_self n)]
theorem sen6_c {N : Nat → Nat → Int} {nW nP : Nat} {ws : List Nat} {S : Mem} (hN : NR N nW nP) (hO : OC N nW nP S) (hT : TG nW S ws) : g_X8_senseOfFirst (g_X3_size S) S = some ((orT (sw N (ws.take 6)) (ws.take 6).length : Nat) : Int) := by
  rw [size_c hT, sense_c hN hO hT (by rw [List.length_take]; omega)]
  congr 2
  refine orT_c _ (fun k hk => ?_)
  unfold sw
  rw [(take_g hk).1]
/-- the reference's first six -/
theorem lay6_m {nW : Nat} {x : Int} {Sm T : Mem} {ws : List Nat} (h1 : g_X10_layWired x Sm = some T) (h2 : KW Sm T) (h3 : TW nW T ws) : ∃ T', g_X10_layFirst x Sm = some T' ∧ KW Sm T' ∧ TW nW T' (ws.take 6) := by
  unfold g_X10_layFirst
  rw [h1, bS, h3.2.1]
  have h12 := h3.1.1
  by_cases c : ws.length ≤ 6
  · rw [if_pos (by omega), List.take_of_length_le c]
    exact ⟨T, rfl, h2, h3⟩
  · rw [if_neg (by omega)]
    simp only [ap]
    have l6 : (ws.take 6).length = 6 := by rw [List.length_take]; omega
    refine ⟨_, rfl, ⟨fun c h1 h4 => by rw [gI_ne h1]; exact h2.1 c h1 h4, fun k hk => by rw [gI_ek hk]; exact h2.2 k hk⟩, ⟨by omega, fun k hk => tk_w h3.1.2 hk⟩, by rw [gI_eq, l6]; rfl, fun k hk => ?_⟩
    obtain ⟨a, b, d⟩ := take_g hk
    rw [gI_ne (by decide), a]
    exact h3.2.2 k d
def prT (f : Nat → Nat) : Nat → Nat
  | 0 => 1
  | n + 1 => prT f n * f n
theorem prT_le {f : Nat → Nat} {c : Nat} : ∀ n, (∀ k, k < n → f k ≤ c) → prT f n ≤ c ^ n
  | 0, _ => Nat.le_refl _
  | n + 1, h => by
    rw [Nat.pow_succ]
    exact Nat.mul_le_mul (prT_le n (fun k hk => h k (by omega))) (h n (Nat.lt_succ_self n))
def erN (N : Nat → Nat → Int) : Nat := (N 8 0).toNat
theorem erN_i {N : Nat → Nat → Int} {nW nP : Nat} (hN : NR N nW nP) : N 8 0 = ((erN N : Nat) : Int) ∧ erN N ≤ 12 := by
  obtain ⟨a, b⟩ := hN.2 8 0 (by decide) (show 0 < 1 by decide)
  have a : 0 ≤ N 8 0 := a
  have b : N 8 0 ≤ 12 := b
  unfold erN
  omega
/-- a word by its slip, or itself -/
def slW (N : Nat → Nat → Int) (V : List Nat) (s k : Nat) : Nat := if s.testBit k then slN N (V.getD k 0) else V.getD k 0
def seW (N : Nat → Nat → Int) (V : List Nat) (s k : Nat) : Nat := seN N (slW N V s k)
def odW (N : Nat → Nat → Int) (s k : Nat) : Nat := if s.testBit k then erN N else 12 - erN N
theorem slW_lt {N : Nat → Nat → Int} {nW nP s k : Nat} {V : List Nat} (hN : NR N nW nP) (hV : ∀ k, k < V.length → V.getD k 0 < nW) (hk : k < V.length) : slW N V s k < nW := by
  unfold slW
  split
  · exact (slN_i hN (hV k hk)).2
  · exact hV k hk
theorem odW_le {N : Nat → Nat → Int} {nW nP s k : Nat} (hN : NR N nW nP) : odW N s k ≤ 12 := by
  have := (erN_i hN).2
  unfold odW
  split <;> omega
theorem pw12 {n : Nat} (h : n ≤ 6) : 1 ≤ 12 ^ n ∧ 12 ^ n ≤ 2985984 := ⟨Nat.one_le_pow _ _ (by decide), Nat.le_trans (Nat.pow_le_pow_right (by decide) h) (by decide)⟩
theorem m64 {a c : Nat} (h : a * c ≤ 1000000000) : w64 ((a : Int) * (c : Int)) = ((a * c : Nat) : Int) := by
  rw [show (a : Int) * (c : Int) = ((a * c : Nat) : Int) from (Int.natCast_mul a c).symm]
  generalize a * c = m at h ⊢
  exact w64s (by omega) (by omega)
theorem w_12 {e : Nat} (h : e ≤ 12) : w32 (12 - (e : Int)) = ((12 - e : Nat) : Int) := by
  rw [w32s (by omega) (by omega)]
  omega
theorem senW_c {N : Nat → Nat → Int} {nW nP s : Nat} {ws : List Nat} {S : Mem} (hN : NR N nW nP) (hO : OC N nW nP S) (hT : TG nW S ws) (hs : s < 64) : g_X3_senseWith (s : Int) S = some ((orT (seW N (ws.take 6) s) (ws.take 6).length : Nat) : Int) := by
  have hV := fun k (hk : k < (ws.take 6).length) => tk_w hT.1.2 hk
  have h6 := len6 ws
  have key : ∀ (m i fu : Nat), i + m = (ws.take 6).length → m < fu → g_X3_senseWith_L4 (s : Int) S fu ((orT (seW N (ws.take 6) s) i : Nat) : Int) (i : Int) = some ((orT (seW N (ws.take 6) s) (ws.take 6).length : Nat) : Int) := by
    intro m
    induction m with
    | zero =>
      intro i fu hi hf
      obtain ⟨fu, rfl⟩ : ∃ k, fu = k + 1 := ⟨fu - 1, by omega⟩
      have hi : i = (ws.take 6).length := hi
      rw [g_X3_senseWith_L4.eq_2, size_c hT, if_pos (by omega), hi]
    | succ m ih =>
      intro i fu hi hf
      obtain ⟨fu, rfl⟩ : ∃ k, fu = k + 1 := ⟨fu - 1, by omega⟩
      have hil : i < (ws.take 6).length := by omega
      have i1 := ih (i + 1) fu (by omega) (by omega)
      have hw := hV i hil
      have hx := slW_lt (s := s) hN hV hil
      have o1 := orT_lt (f := seW N (ws.take 6) s) i (fun k hk => (seN_i hN (slW_lt hN hV (by omega))).2)
      have o2 := (seN_i hN hx).2
      have vx := val_o hN hO (w := 1) (n := slW N (ws.take 6) s i) (by decide) hx
      rw [show ((1 : Nat) : Int) = 1 from rfl, (seN_i hN hx).1] at vx
      have eo : o_or ((orT (seW N (ws.take 6) s) i : Nat) : Int) ((seN N (slW N (ws.take 6) s i) : Nat) : Int) = ((orT (seW N (ws.take 6) s) (i + 1) : Nat) : Int) := oor (by omega) (by omega)
      rw [g_X3_senseWith_L4.eq_2, size_c hT, if_neg (show ¬ (((ws.take 6).length : Nat) : Int) ≤ (i : Int) by omega), wat_c hT hil, bS, isIn_n (by omega) (by omega), w32_a i (by omega)]
      cases hb : s.testBit i with
      | false =>
        have es : slW N (ws.take 6) s i = (ws.take 6).getD i 0 := by unfold slW; rw [hb]; rfl
        rw [es] at vx eo
        rw [bF, i00, vx, bS, eo]
        exact i1
      | true =>
        have es : slW N (ws.take 6) s i = slN N ((ws.take 6).getD i 0) := by unfold slW; rw [hb]; rfl
        rw [es] at vx eo
        have v4 := val_o hN hO (w := 4) (n := (ws.take 6).getD i 0) (by decide) hw
        rw [show ((4 : Nat) : Int) = 4 from rfl, (slN_i hN hw).1] at v4
        rw [bT, i10, v4, bS, vx, bS, eo]
        exact i1
  exact key _ 0 FU (Nat.zero_add _) (by unfold FU; omega)
theorem oddW_c {N : Nat → Nat → Int} {nW nP s : Nat} {ws : List Nat} {S : Mem} (hN : NR N nW nP) (hO : OC N nW nP S) (hT : TG nW S ws) (hs : s < 64) : g_X3_oddsWith (s : Int) S = some ((prT (odW N s) (ws.take 6).length : Nat) : Int) := by
  have h6 := len6 ws
  obtain ⟨e1, e2⟩ := erN_i hN
  have v8 := val_o hN hO (w := 8) (n := 0) (by decide) (show 0 < 1 by decide)
  rw [show ((8 : Nat) : Int) = 8 from rfl, show ((0 : Nat) : Int) = 0 from rfl, e1] at v8
  unfold g_X3_oddsWith
  rw [v8, bS]
  have key : ∀ (m i fu : Nat), i + m = (ws.take 6).length → m < fu → g_X3_oddsWith_L16 (s : Int) ((erN N : Nat) : Int) S fu ((prT (odW N s) i : Nat) : Int) (i : Int) = some ((prT (odW N s) (ws.take 6).length : Nat) : Int) := by
    intro m
    induction m with
    | zero =>
      intro i fu hi hf
      obtain ⟨fu, rfl⟩ : ∃ k, fu = k + 1 := ⟨fu - 1, by omega⟩
      have hi : i = (ws.take 6).length := hi
      rw [g_X3_oddsWith_L16.eq_2, size_c hT, if_pos (by omega), hi]
    | succ m ih =>
      intro i fu hi hf
      obtain ⟨fu, rfl⟩ : ∃ k, fu = k + 1 := ⟨fu - 1, by omega⟩
      have i1 := ih (i + 1) fu (by omega) (by omega)
      have pl := Nat.le_trans (prT_le (f := odW N s) (c := 12) (i + 1) (fun k _ => odW_le hN)) (pw12 (show i + 1 ≤ 6 by omega)).2
      have ep : prT (odW N s) (i + 1) = prT (odW N s) i * odW N s i := rfl
      rw [ep] at pl i1
      rw [g_X3_oddsWith_L16.eq_2, size_c hT, if_neg (show ¬ (((ws.take 6).length : Nat) : Int) ≤ (i : Int) by omega), isIn_n (by omega) (by omega), w32_a i (by omega)]
      simp only [ap]
      cases hb : s.testBit i with
      | false =>
        have es : odW N s i = 12 - erN N := by unfold odW; rw [hb]; rfl
        rw [es] at pl i1
        rw [bF, i00, w_12 e2, m64 (by omega)]
        exact i1
      | true =>
        have es : odW N s i = erN N := by unfold odW; rw [hb]; rfl
        rw [es] at pl i1
        rw [bT, i10, m64 (by omega)]
        exact i1
  exact key _ 0 FU (Nat.zero_add _) (by unfold FU; omega)
/-- so far, the odds of those that come with just their own sense -/
def unh (N : Nat → Nat → Int) (V : List Nat) (own : Nat) : Nat → Nat
  | 0 => 0
  | s + 1 => unh N V own s + if orT (seW N V s) V.length = own then prT (odW N s) V.length else 0
theorem unh_le {N : Nat → Nat → Int} {nW nP own : Nat} {V : List Nat} (hN : NR N nW nP) (h6 : V.length ≤ 6) : ∀ s, unh N V own s ≤ 2985984 * s
  | 0 => Nat.le_refl _
  | s + 1 => by
    have ih := unh_le (own := own) hN h6 s
    have pl := Nat.le_trans (prT_le (f := odW N s) (c := 12) V.length (fun k _ => odW_le hN)) (pw12 h6).2
    show unh N V own s + (if orT (seW N V s) V.length = own then prT (odW N s) V.length else 0) ≤ 2985984 * (s + 1)
    split <;> omega
theorem unharm_c {N : Nat → Nat → Int} {nW nP : Nat} {ws : List Nat} {S : Mem} (hN : NR N nW nP) (hO : OC N nW nP S) (hT : TG nW S ws) : g_X3_unharmed S = some ((unh N (ws.take 6) (orT (sw N (ws.take 6)) (ws.take 6).length) (2 ^ (ws.take 6).length) : Nat) : Int) := by
  have h6 := len6 ws
  obtain ⟨q1, q2⟩ := p64 h6
  unfold g_X3_unharmed
  rw [sen6_c hN hO hT, bS, size_c hT, shl1 h6]
  generalize orT (sw N (ws.take 6)) (ws.take 6).length = own
  have key : ∀ (m i fu : Nat), i + m = 2 ^ (ws.take 6).length → m < fu → g_X3_unharmed_L24 (own : Int) ((2 ^ (ws.take 6).length : Nat) : Int) S fu ((unh N (ws.take 6) own i : Nat) : Int) (i : Int) = some ((unh N (ws.take 6) own (2 ^ (ws.take 6).length) : Nat) : Int) := by
    intro m
    induction m with
    | zero =>
      intro i fu hi hf
      obtain ⟨fu, rfl⟩ : ∃ k, fu = k + 1 := ⟨fu - 1, by omega⟩
      have hi : i = 2 ^ (ws.take 6).length := hi
      rw [g_X3_unharmed_L24.eq_2, if_pos (by omega), hi]
    | succ m ih =>
      intro i fu hi hf
      obtain ⟨fu, rfl⟩ : ∃ k, fu = k + 1 := ⟨fu - 1, by omega⟩
      have i1 := ih (i + 1) fu (by omega) (by omega)
      have ul := unh_le (own := own) hN h6 i
      have pl := Nat.le_trans (prT_le (f := odW N i) (c := 12) (ws.take 6).length (fun k _ => odW_le hN)) (pw12 h6).2
      have eu : unh N (ws.take 6) own (i + 1) = unh N (ws.take 6) own i + if orT (seW N (ws.take 6) i) (ws.take 6).length = own then prT (odW N i) (ws.take 6).length else 0 := rfl
      rw [g_X3_unharmed_L24.eq_2, if_neg (show ¬ ((2 ^ (ws.take 6).length : Nat) : Int) ≤ (i : Int) by omega), senW_c hN hO hT (by omega), bS, w32_a i (by omega)]
      by_cases c : orT (seW N (ws.take 6) i) (ws.take 6).length = own
      · rw [if_pos c] at eu
        rw [eu] at i1
        rw [if_pos (by omega), oddW_c hN hO hT (by omega), bS, w64s (i := ((unh N (ws.take 6) own i : Nat) : Int) + ((prT (odW N i) (ws.take 6).length : Nat) : Int)) (by omega) (by omega)]
        exact i1
      · rw [if_neg c] at eu
        rw [eu] at i1
        rw [if_neg (by omega)]
        exact i1
  exact key _ 0 FU (Nat.zero_add _) (by unfold FU; omega)
theorem all_c {nW : Nat} {ws : List Nat} {S : Mem} (hT : TG nW S ws) : g_X3_allOdds S = some ((12 ^ (ws.take 6).length : Nat) : Int) := by
  have h6 := len6 ws
  have key : ∀ (m i fu : Nat), i + m = (ws.take 6).length → m < fu → g_X3_allOdds_L4 S fu ((12 ^ i : Nat) : Int) (i : Int) = some ((12 ^ (ws.take 6).length : Nat) : Int) := by
    intro m
    induction m with
    | zero =>
      intro i fu hi hf
      obtain ⟨fu, rfl⟩ : ∃ k, fu = k + 1 := ⟨fu - 1, by omega⟩
      have hi : i = (ws.take 6).length := hi
      rw [g_X3_allOdds_L4.eq_2, size_c hT, if_pos (by omega), hi]
    | succ m ih =>
      intro i fu hi hf
      obtain ⟨fu, rfl⟩ : ∃ k, fu = k + 1 := ⟨fu - 1, by omega⟩
      have i1 := ih (i + 1) fu (by omega) (by omega)
      have pl := (pw12 (show i + 1 ≤ 6 by omega)).2
      rw [Nat.pow_succ] at pl i1
      rw [g_X3_allOdds_L4.eq_2, size_c hT, if_neg (show ¬ (((ws.take 6).length : Nat) : Int) ≤ (i : Int) by omega), show (12 : Int) = ((12 : Nat) : Int) from rfl, m64 (by omega), w32_a i (by omega)]
      exact i1
  exact key _ 0 FU (Nat.zero_add _) (by unfold FU; omega)
theorem all_m {nW : Nat} {V : List Nat} {T : Mem} {K : Int → Mem → Option (Int × Mem)} {a b c : Int} (h6 : V.length ≤ 6) (hT : TW nW T V) : g_X10_safe_L48 K a b c FU 1 0 T = K ((12 ^ V.length : Nat) : Int) T := by
  have key : ∀ (m i fu : Nat), i + m = V.length → m < fu → g_X10_safe_L48 K a b c fu ((12 ^ i : Nat) : Int) (i : Int) T = K ((12 ^ V.length : Nat) : Int) T := by
    intro m
    induction m with
    | zero =>
      intro i fu hi hf
      obtain ⟨fu, rfl⟩ : ∃ k, fu = k + 1 := ⟨fu - 1, by omega⟩
      have hi : i = V.length := hi
      rw [g_X10_safe_L48.eq_2, hT.2.1, if_pos (by omega), hi]
    | succ m ih =>
      intro i fu hi hf
      obtain ⟨fu, rfl⟩ : ∃ k, fu = k + 1 := ⟨fu - 1, by omega⟩
      have i1 := ih (i + 1) fu (by omega) (by omega)
      have pl := (pw12 (show i + 1 ≤ 6 by omega)).2
      rw [Nat.pow_succ] at pl i1
      rw [g_X10_safe_L48.eq_2, hT.2.1, if_neg (show ¬ (V.length : Int) ≤ (i : Int) by omega), show (12 : Int) = ((12 : Nat) : Int) from rfl, m64 (by omega), w32_a i (by omega)]
      exact i1
  exact key _ 0 FU (Nat.zero_add _) (by unfold FU; omega)
theorem saf_in {N : Nat → Nat → Int} {nW nP s : Nat} {V : List Nat} {T : Mem} {K : Int → Int → Mem → Option (Int × Mem)} {a b c d : Int} (hN : NR N nW nP) (hM : OM N nW nP T) (h6 : V.length ≤ 6) (hT : TW nW T V) (hs : s < 64) : g_X10_safe_L94 K a b c d (s : Int) FU 1 0 0 T = K ((prT (odW N s) V.length : Nat) : Int) ((orT (seW N V s) V.length : Nat) : Int) T := by
  obtain ⟨e1, e2⟩ := erN_i hN
  have hV := hT.1.2
  have m8 : gI T 64 1 = ((erN N : Nat) : Int) := by rw [← e1]; exact hM.2 8 0 (by decide) (show 0 < 1 by decide)
  have nW12 := hN.1.1
  have key : ∀ (m i fu : Nat), i + m = V.length → m < fu → g_X10_safe_L94 K a b c d (s : Int) fu ((prT (odW N s) i : Nat) : Int) ((orT (seW N V s) i : Nat) : Int) (i : Int) T = K ((prT (odW N s) V.length : Nat) : Int) ((orT (seW N V s) V.length : Nat) : Int) T := by
    intro m
    induction m with
    | zero =>
      intro i fu hi hf
      obtain ⟨fu, rfl⟩ : ∃ k, fu = k + 1 := ⟨fu - 1, by omega⟩
      have hi : i = V.length := hi
      rw [g_X10_safe_L94.eq_2, hT.2.1, if_pos (by omega), hi]
    | succ m ih =>
      intro i fu hi hf
      obtain ⟨fu, rfl⟩ : ∃ k, fu = k + 1 := ⟨fu - 1, by omega⟩
      have hil : i < V.length := by omega
      have i1 := ih (i + 1) fu (by omega) (by omega)
      have pl := Nat.le_trans (prT_le (f := odW N s) (c := 12) (i + 1) (fun k _ => odW_le hN)) (pw12 (show i + 1 ≤ 6 by omega)).2
      have ep : prT (odW N s) (i + 1) = prT (odW N s) i * odW N s i := rfl
      rw [ep] at pl i1
      have hw := hV i hil
      have hx := slW_lt (s := s) hN hV hil
      have o1 := orT_lt (f := seW N V s) i (fun k hk => (seN_i hN (slW_lt hN hV (by omega))).2)
      have o2 := (seN_i hN hx).2
      have eo : o_or ((orT (seW N V s) i : Nat) : Int) ((seN N (slW N V s i) : Nat) : Int) = ((orT (seW N V s) (i + 1) : Nat) : Int) := oor (by omega) (by omega)
      have vx : gI T 58 (slW N V s i) = ((seN N (slW N V s i) : Nat) : Int) := by rw [← (seN_i hN hx).1]; exact hM.2 1 _ (by decide) hx
      have i12 : i < 12 := by omega
      have w12 : V.getD i 0 < 12 := by omega
      have x12 : slW N V s i < 12 := by omega
      rw [g_X10_safe_L94.eq_2, hT.2.1, if_neg (show ¬ (V.length : Int) ≤ (i : Int) by omega), bit_m (by omega) (by omega)]
      unfold g_X10_safe_J119 g_X10_safe_J148
      cases hb : s.testBit i with
      | false =>
        have es : slW N V s i = V.getD i 0 := by unfold slW; rw [hb]; rfl
        have et : odW N s i = 12 - erN N := by unfold odW; rw [hb]; rfl
        rw [es] at vx eo
        rw [et] at pl i1
        rw [bF, i01, i00, m8, w_12 e2, m64 (by omega), i00, ldk_c i12, bS, hT.2.2 i hil, ldk_c w12, bS, vx, eo, w32_a i (by omega)]
        exact i1
      | true =>
        have es : slW N V s i = slN N (V.getD i 0) := by unfold slW; rw [hb]; rfl
        have et : odW N s i = erN N := by unfold odW; rw [hb]; rfl
        have v4 : gI T 61 (V.getD i 0) = ((slN N (V.getD i 0) : Nat) : Int) := by rw [← (slN_i hN hw).1]; exact hM.2 4 _ (by decide) hw
        rw [es] at vx eo x12
        rw [et] at pl i1
        rw [bT, i11, i10, m8, m64 (by omega), i10, ldk_c i12, bS, hT.2.2 i hil, ldk_c w12, bS, v4, ldk_c x12, bS, vx, eo, w32_a i (by omega)]
        exact i1
  exact key _ 0 FU (Nat.zero_add _) (by unfold FU; omega)
theorem saf_out {N : Nat → Nat → Int} {nW nP own : Nat} {V : List Nat} {T : Mem} {K : Int → Mem → Option (Int × Mem)} {a d : Int} (hN : NR N nW nP) (hM : OM N nW nP T) (h6 : V.length ≤ 6) (hT : TW nW T V) : g_X10_safe_L74 K a (own : Int) d FU 0 0 T = K ((unh N V own (2 ^ V.length) : Nat) : Int) T := by
  obtain ⟨q1, q2⟩ := p64 h6
  have key : ∀ (m i fu : Nat), i + m = 2 ^ V.length → m < fu → g_X10_safe_L74 K a (own : Int) d fu ((unh N V own i : Nat) : Int) (i : Int) T = K ((unh N V own (2 ^ V.length) : Nat) : Int) T := by
    intro m
    induction m with
    | zero =>
      intro i fu hi hf
      obtain ⟨fu, rfl⟩ : ∃ k, fu = k + 1 := ⟨fu - 1, by omega⟩
      have hi : i = 2 ^ V.length := hi
      rw [g_X10_safe_L74.eq_2, hT.2.1, shl1 h6, if_pos (by omega), hi]
    | succ m ih =>
      intro i fu hi hf
      obtain ⟨fu, rfl⟩ : ∃ k, fu = k + 1 := ⟨fu - 1, by omega⟩
      have i1 := ih (i + 1) fu (by omega) (by omega)
      have ul := unh_le (own := own) hN h6 i
      have pl := Nat.le_trans (prT_le (f := odW N i) (c := 12) V.length (fun k _ => odW_le hN)) (pw12 h6).2
      have eu : unh N V own (i + 1) = unh N V own i + if orT (seW N V i) V.length = own then prT (odW N i) V.length else 0 := rfl
      rw [g_X10_safe_L74.eq_2, hT.2.1, shl1 h6, if_neg (show ¬ ((2 ^ V.length : Nat) : Int) ≤ (i : Int) by omega), saf_in hN hM h6 hT (by omega), w32_a i (by omega)]
      by_cases c : orT (seW N V i) V.length = own
      · rw [if_pos c] at eu
        rw [eu] at i1
        rw [if_pos (by omega), w64s (i := ((unh N V own i : Nat) : Int) + ((prT (odW N i) V.length : Nat) : Int)) (by omega) (by omega)]
        exact i1
      · rw [if_neg c] at eu
        rw [eu] at i1
        rw [if_neg (by omega)]
        exact i1
  exact key _ 0 FU (Nat.zero_add _) (by unfold FU; omega)
theorem m_safe {b : Nat} {Sc Sm : Mem} (h : IV b Sc Sm) (x y : Int) : Sim (b + 100) (g_X9_safe x y Sc) (g_X10_safe x y Sm) := by
  obtain ⟨nW, nP, nB, law, h⟩ := h
  have same : ∀ r, Sim (b + 100) (some (r, Sc)) (some (r, Sm)) := fun r => Sim.same ⟨nW, nP, nB, law, h⟩ (by omega)
  obtain ⟨hN, hO, hM, hL, hLm⟩ := ask_of h
  unfold g_X9_safe g_X10_safe
  rw [btw, inn]
  rcases open_v h x with ⟨r, r0, r1, ⟨r2, r3⟩ | ⟨r2, r3, r4⟩⟩ | ⟨ws, S1, T1, s1, s2, s3, s4, s5, s6, s7, s8⟩
  · rw [r2, bS, i00, r1, bd2S, if_neg (show ¬ r = 0 by omega)]
    split <;> exact same _
  · rw [r2, bS, i10, r1, bd2S, if_neg (show ¬ r = 0 by omega), r4, bS, if_neg (show ¬ 0 ≤ r by omega)]
    split <;> exact same _
  · rw [s4, bS, i10, s1, bd2S, s5, bS, i0l, i00]
    by_cases c : 0 ≤ y ∧ y ≤ 1
    · have hO1 := hO.t s2
      have h6 := len6 ws
      obtain ⟨T2, t1, t2, t3⟩ := lay6_m s6 s7 s8
      have hM2 := hM.w t2
      obtain ⟨q1, q2⟩ := pw12 h6
      obtain ⟨p1, p2⟩ := p64 h6
      have ul := unh_le (V := ws.take 6) (own := orT (sw (nu Sc) (ws.take 6)) (ws.take 6).length) hN h6 (2 ^ (ws.take 6).length)
      obtain ⟨r, l1, l2⟩ := low_v (x := unh (nu Sc) (ws.take 6) (orT (sw (nu Sc) (ws.take 6)) (ws.take 6).length) (2 ^ (ws.take 6).length)) (y := 12 ^ (ws.take 6).length) (p := y) (by omega) (by omega) (fun _ => by omega)
      rw [if_pos c, i10, i10, unharm_c hN hO1 s3, bS, all_c s3, bS, l1, bS, t1, bS, sense_m hN hM2 t3, bS, all_m h6 t3]
      try simp only []
      rw [saf_out hN hM2 h6 t3]
      try simp only []
      rw [l2, bS]
      exact Sim.ask h (KC_tu s2 (KU.rf S1)) (KM_wv t2 (KV.rf T2)) (by omega)
    · rw [if_neg c, i00, i00]
      exact same _
