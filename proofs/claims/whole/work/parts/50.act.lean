/-! ACTS -/
/-- the trace behind some bodies, the latest first -/
def cTr (S : Mem) : List Int → Mem
  | [] => S
  | v :: l => sI (if l.length < 24 then sI (cTr S l) 55 l.length v else cTr S l) 53 3 ((l.length + 1 : Nat) : Int)
def mTr (S : Mem) : List Int → Mem
  | [] => S
  | v :: l => sI (if l.length < 24 then sI (mTr S l) 92 l.length v else mTr S l) 56 54 ((l.length + 1 : Nat) : Int)
theorem cTr_r {S : Mem} (h : gI S 53 3 = 0) : ∀ l, gI (cTr S l) 53 3 = (l.length : Int)
  | [] => h
  | v :: l => gI_eq
theorem mTr_r {S : Mem} (h : gI S 56 54 = 0) : ∀ l, gI (mTr S l) 56 54 = (l.length : Int)
  | [] => h
  | v :: l => gI_eq
theorem cTr_k {S : Mem} {k : Nat} (hk : k ≠ 3) : ∀ l, gI (cTr S l) 53 k = gI S 53 k
  | [] => rfl
  | v :: l => by
    show gI (sI _ 53 3 _) 53 k = _
    rw [gI_ek hk]
    split
    · rw [gI_ne (by decide)]; exact cTr_k hk l
    · exact cTr_k hk l
theorem cTr_o {S : Mem} {c : Nat} (h1 : c ≠ 53) (h2 : c ≠ 55) : ∀ l, gI (cTr S l) c = gI S c
  | [] => rfl
  | v :: l => by
    show gI (sI _ 53 3 _) c = _
    rw [gI_ne h1]
    split
    · rw [gI_ne h2]; exact cTr_o h1 h2 l
    · exact cTr_o h1 h2 l
theorem cTr_R {S : Mem} {c : Nat} : ∀ l, gR (cTr S l) c = gR S c
  | [] => rfl
  | v :: l => by
    show gR (if l.length < 24 then sI (cTr S l) 55 l.length v else cTr S l) c = _
    split
    · exact cTr_R l
    · exact cTr_R l
theorem mTr_k {S : Mem} {k : Nat} (hk : k ≠ 54) : ∀ l, gI (mTr S l) 56 k = gI S 56 k
  | [] => rfl
  | v :: l => by
    show gI (sI _ 56 54 _) 56 k = _
    rw [gI_ek hk]
    split
    · rw [gI_ne (by decide)]; exact mTr_k hk l
    · exact mTr_k hk l
theorem mTr_o {S : Mem} {c : Nat} (h1 : c ≠ 56) (h2 : c ≠ 92) : ∀ l, gI (mTr S l) c = gI S c
  | [] => rfl
  | v :: l => by
    show gI (sI _ 56 54 _) c = _
    rw [gI_ne h1]
    split
    · rw [gI_ne h2]; exact mTr_o h1 h2 l
    · exact mTr_o h1 h2 l
theorem tr_eq {S T : Mem} : ∀ l, ∀ i, i < l.length → i < 24 → gI (mTr T l) 92 i = gI (cTr S l) 55 i
  | [], i, h, _ => absurd h (Nat.not_lt_zero i)
  | v :: l, i, h, h24 => by
    show gI (sI _ 56 54 _) 92 i = gI (sI _ 53 3 _) 55 i
    rw [gI_ne (by decide), gI_ne (by decide)]
    by_cases e : i = l.length
    · subst e
      rw [if_pos h24, if_pos h24, gI_eq, gI_eq]
    · have h : i < l.length := by have h : i < l.length + 1 := h; omega
      split
      · rw [gI_ek e, gI_ek e]; exact tr_eq l i h h24
      · exact tr_eq l i h h24
theorem bg_l {S : Mem} (h : gI S 53 3 = 0) (v : Int) (l : List Int) (hl : l.length ≤ 100) : g_X0_begins v (cTr S l) = some (cTr S (v :: l)) := by
  unfold g_X0_begins
  rw [cTr_r h, if_neg (by omega)]
  simp only [ap]
  show _ = some (sI (if l.length < 24 then sI (cTr S l) 55 l.length v else cTr S l) 53 3 ((l.length + 1 : Nat) : Int))
  by_cases c : l.length < 24
  · rw [if_neg (by omega), stk_c c, bS, if_pos c, gI_ne (by decide), cTr_r h, w32_a _ (by omega)]
  · rw [if_pos (by omega), if_neg c, w32_a _ (by omega)]
theorem rn_l {S : Mem} (h : gI S 56 54 = 0) (v : Int) (l : List Int) (hl : l.length ≤ 100) : g_X10_ran v (mTr S l) = some (mTr S (v :: l)) := by
  unfold g_X10_ran
  rw [mTr_r h]
  simp only [ap]
  show _ = some (sI (if l.length < 24 then sI (mTr S l) 92 l.length v else mTr S l) 56 54 ((l.length + 1 : Nat) : Int))
  by_cases c : l.length < 24
  · rw [if_neg (by omega), stk_c c, bS, if_pos c, gI_ne (by decide), mTr_r h, w32_a _ (by omega)]
  · rw [if_pos (by omega), if_neg c, w32_a _ (by omega)]
-- what an act says, and the bodies that it runs, the latest first
def vSay (k : Nat) (b x : Int) : Int := if k = 1 ∨ k = 4 then w32 (w32 (x + b) + 3) else if k = 6 then w32 (w32 (x + b) * 2) else if k = 7 then w32 (w32 (w32 (x + b) * 2) - 1) else w32 (x + b)
def lSay (k : Nat) (l : List Int) : List Int := if k = 1 ∨ k = 4 then 1 :: 20 :: l else if k = 6 then 1 :: 70 :: l else if k = 7 then 1 :: 70 :: 81 :: l else 1 :: l
def vErr (k : Nat) (b x : Int) : Int := if k = 3 then w32 (o_xor x b * 3) else if k = 5 then w32 (w32 (o_xor x b * 3) - vSay 5 b 2) else o_xor x b
def lErr (k : Nat) (l : List Int) : List Int := if k = 3 then 11 :: 40 :: l else if k = 5 then lSay 5 (11 :: 40 :: 60 :: l) else 11 :: l
def vCst (k : Nat) (b x : Int) : Int := if k = 3 ∨ k = 5 then w32 (-w32 (vSay k b (w32 (x + 1)) * 2)) else if k = 2 then w32 (-w32 (vSay k b x * 2)) else if k = 7 then w32 (w32 (vSay k b x * 2) + vErr k b 2) else w32 (vSay k b x * 2)
def lCst (k : Nat) (l : List Int) : List Int := if k = 3 ∨ k = 5 then lSay k (10 :: 30 :: 41 :: l) else if k = 2 then lSay k (10 :: 30 :: l) else if k = 7 then lErr k (lSay k (10 :: 80 :: l)) else lSay k (10 :: l)
def vTel (k : Nat) (b x : Int) : Int := if k = 4 then o_xor (w32 (vCst k b x - vErr k b 1)) 5 else if k = 5 then w32 (w32 (vCst k b x - vErr k b 1) + 1) else w32 (vCst k b x - vErr k b 1)
def lTel (k : Nat) (l : List Int) : List Int := if k = 4 then lErr k (lCst k (2 :: 50 :: l)) else if k = 5 then lErr k (lCst k (2 :: 61 :: l)) else lErr k (lCst k (2 :: l))
theorem abv (S : Mem) : g_X0_above 0 S = some (-1) ∧ g_X0_above 1 S = some 0 ∧ g_X0_above 2 S = some 0 ∧ g_X0_above 3 S = some 2 ∧ g_X0_above 4 S = some 1 ∧ g_X0_above 5 S = some 3 ∧ g_X0_above 6 S = some 0 ∧ g_X0_above 7 S = some 6 := ⟨rfl, rfl, rfl, rfl, rfl, rfl, rfl, rfl⟩
theorem c8 {P : Nat → Prop} (h0 : P 0) (h1 : P 1) (h2 : P 2) (h3 : P 3) (h4 : P 4) (h5 : P 5) (h6 : P 6) (h7 : P 7) : ∀ w, w < 8 → P w := by
  intro w hw
  match w, hw with
  | 0, _ => exact h0
  | 1, _ => exact h1
  | 2, _ => exact h2
  | 3, _ => exact h3
  | 4, _ => exact h4
  | 5, _ => exact h5
  | 6, _ => exact h6
  | 7, _ => exact h7
theorem sy0 (fu : Nat) (x : Int) (S : Mem) : g_X0_says (fu + 1) 0 x S = (g_X0_begins 1 S).bind fun S1 => some (w32 (x + (gI S1 53 4)), S1) := rfl
theorem sy1 (fu : Nat) (x : Int) (S : Mem) : g_X0_says (fu + 1) 1 x S = (g_X0_begins 20 S).bind fun S2 => bd2 (g_X0_says fu 0 x S2) fun a S => some (w32 (a + 3), S) := rfl
theorem sy2 (fu : Nat) (x : Int) (S : Mem) : g_X0_says (fu + 1) 2 x S = bd2 (g_X0_says fu 0 x S) fun a S => some (a, S) := rfl
theorem sy3 (fu : Nat) (x : Int) (S : Mem) : g_X0_says (fu + 1) 3 x S = bd2 (g_X0_says fu 2 x S) fun a S => some (a, S) := rfl
theorem sy4 (fu : Nat) (x : Int) (S : Mem) : g_X0_says (fu + 1) 4 x S = bd2 (g_X0_says fu 1 x S) fun a S => some (a, S) := rfl
theorem sy5 (fu : Nat) (x : Int) (S : Mem) : g_X0_says (fu + 1) 5 x S = bd2 (g_X0_says fu 3 x S) fun a S => some (a, S) := rfl
theorem sy6 (fu : Nat) (x : Int) (S : Mem) : g_X0_says (fu + 1) 6 x S = (g_X0_begins 70 S).bind fun S2 => bd2 (g_X0_says fu 0 x S2) fun a S => some (w32 (a * 2), S) := rfl
theorem sy7 (fu : Nat) (x : Int) (S : Mem) : g_X0_says (fu + 1) 7 x S = (g_X0_begins 81 S).bind fun S2 => bd2 (g_X0_says fu 6 x S2) fun a S => some (w32 (a - 1), S) := rfl
theorem er0 (fu : Nat) (x : Int) (S : Mem) : g_X0_errs (fu + 1) 0 x S = (g_X0_begins 11 S).bind fun S1 => some (o_xor x (gI S1 53 4), S1) := rfl
theorem er1 (fu : Nat) (x : Int) (S : Mem) : g_X0_errs (fu + 1) 1 x S = bd2 (g_X0_errs fu 0 x S) fun a S => some (a, S) := rfl
theorem er2 (fu : Nat) (x : Int) (S : Mem) : g_X0_errs (fu + 1) 2 x S = bd2 (g_X0_errs fu 0 x S) fun a S => some (a, S) := rfl
theorem er3 (fu : Nat) (x : Int) (S : Mem) : g_X0_errs (fu + 1) 3 x S = (g_X0_begins 40 S).bind fun S2 => bd2 (g_X0_errs fu 2 x S2) fun a S => some (w32 (a * 3), S) := rfl
theorem er4 (fu : Nat) (x : Int) (S : Mem) : g_X0_errs (fu + 1) 4 x S = bd2 (g_X0_errs fu 1 x S) fun a S => some (a, S) := rfl
theorem er5 (fu : Nat) (x : Int) (S : Mem) : g_X0_errs (fu + 1) 5 x S = (g_X0_begins 60 S).bind fun S2 => bd2 (g_X0_errs fu 3 x S2) fun a S => bd2 (g_X0_says 10 (gI S 53 5) 2 S) fun c S => some (w32 (a - c), S) := rfl
theorem er6 (fu : Nat) (x : Int) (S : Mem) : g_X0_errs (fu + 1) 6 x S = bd2 (g_X0_errs fu 0 x S) fun a S => some (a, S) := rfl
theorem er7 (fu : Nat) (x : Int) (S : Mem) : g_X0_errs (fu + 1) 7 x S = bd2 (g_X0_errs fu 6 x S) fun a S => some (a, S) := rfl
theorem ct0 (fu : Nat) (x : Int) (S : Mem) : g_X0_costs (fu + 1) 0 x S = (g_X0_begins 10 S).bind fun S1 => bd2 (g_X0_says 10 (gI S1 53 5) x S1) fun a S => some (w32 (a * 2), S) := rfl
theorem ct1 (fu : Nat) (x : Int) (S : Mem) : g_X0_costs (fu + 1) 1 x S = bd2 (g_X0_costs fu 0 x S) fun a S => some (a, S) := rfl
theorem ct2 (fu : Nat) (x : Int) (S : Mem) : g_X0_costs (fu + 1) 2 x S = (g_X0_begins 30 S).bind fun S2 => bd2 (g_X0_costs fu 0 x S2) fun a S => some (w32 (-a), S) := rfl
theorem ct3 (fu : Nat) (x : Int) (S : Mem) : g_X0_costs (fu + 1) 3 x S = (g_X0_begins 41 S).bind fun S2 => bd2 (g_X0_costs fu 2 (w32 (x + 1)) S2) fun a S => some (a, S) := rfl
theorem ct4 (fu : Nat) (x : Int) (S : Mem) : g_X0_costs (fu + 1) 4 x S = bd2 (g_X0_costs fu 1 x S) fun a S => some (a, S) := rfl
theorem ct5 (fu : Nat) (x : Int) (S : Mem) : g_X0_costs (fu + 1) 5 x S = bd2 (g_X0_costs fu 3 x S) fun a S => some (a, S) := rfl
theorem ct6 (fu : Nat) (x : Int) (S : Mem) : g_X0_costs (fu + 1) 6 x S = bd2 (g_X0_costs fu 0 x S) fun a S => some (a, S) := rfl
theorem ct7 (fu : Nat) (x : Int) (S : Mem) : g_X0_costs (fu + 1) 7 x S = (g_X0_begins 80 S).bind fun S2 => bd2 (g_X0_costs fu 6 x S2) fun a S => bd2 (g_X0_errs 10 (gI S 53 5) 2 S) fun c S => some (w32 (a + c), S) := rfl
theorem tl0 (fu : Nat) (x : Int) (S : Mem) : g_X0_tells (fu + 1) 0 x S = (g_X0_begins 2 S).bind fun S1 => bd2 (g_X0_costs 10 (gI S1 53 5) x S1) fun a S => bd2 (g_X0_errs 10 (gI S 53 5) 1 S) fun c S => some (w32 (a - c), S) := rfl
theorem tl1 (fu : Nat) (x : Int) (S : Mem) : g_X0_tells (fu + 1) 1 x S = bd2 (g_X0_tells fu 0 x S) fun a S => some (a, S) := rfl
theorem tl2 (fu : Nat) (x : Int) (S : Mem) : g_X0_tells (fu + 1) 2 x S = bd2 (g_X0_tells fu 0 x S) fun a S => some (a, S) := rfl
theorem tl3 (fu : Nat) (x : Int) (S : Mem) : g_X0_tells (fu + 1) 3 x S = bd2 (g_X0_tells fu 2 x S) fun a S => some (a, S) := rfl
theorem tl4 (fu : Nat) (x : Int) (S : Mem) : g_X0_tells (fu + 1) 4 x S = (g_X0_begins 50 S).bind fun S2 => bd2 (g_X0_tells fu 1 x S2) fun a S => some (o_xor a 5, S) := rfl
theorem tl5 (fu : Nat) (x : Int) (S : Mem) : g_X0_tells (fu + 1) 5 x S = (g_X0_begins 61 S).bind fun S2 => bd2 (g_X0_tells fu 3 x S2) fun a S => some (w32 (a + 1), S) := rfl
theorem tl6 (fu : Nat) (x : Int) (S : Mem) : g_X0_tells (fu + 1) 6 x S = bd2 (g_X0_tells fu 0 x S) fun a S => some (a, S) := rfl
theorem tl7 (fu : Nat) (x : Int) (S : Mem) : g_X0_tells (fu + 1) 7 x S = bd2 (g_X0_tells fu 6 x S) fun a S => some (a, S) := rfl
theorem lle {l : List Int} {n : Nat} (h : l.length ≤ n) (a : Int) : (a :: l).length ≤ n + 1 := Nat.succ_le_succ h
theorem len_s {k : Nat} {l : List Int} : (lSay k l).length ≤ l.length + 3 := by
  unfold lSay
  (repeat' split) <;> simp
theorem say_c {S : Mem} {b : Int} (h3 : gI S 53 3 = 0) (h4 : gI S 53 4 = b) (x : Int) (l : List Int) (hl : l.length ≤ 50) : ∀ k : Nat, k < 8 → g_X0_says 10 (k : Int) x (cTr S l) = some (vSay k b x, cTr S (lSay k l)) := by
  have e4 : ∀ l, gI (cTr S l) 53 4 = b := fun l => (cTr_k (by decide) l).trans h4
  have bg : ∀ (v : Int) (l : List Int), l.length ≤ 60 → g_X0_begins v (cTr S l) = some (cTr S (v :: l)) := fun v l h => bg_l h3 v l (by omega)
  have l0 : l.length ≤ 60 := by omega
  have l1 : ∀ a : Int, (a :: l).length ≤ 60 := fun a => by show l.length + 1 ≤ 60; omega
  have l2 : ∀ a c : Int, (a :: c :: l).length ≤ 60 := fun a c => by show l.length + 1 + 1 ≤ 60; omega
  apply c8
  · show g_X0_says 10 0 x (cTr S l) = _
    rw [sy0 9, bg 1 _ l0, bS, e4]
    rfl
  · show g_X0_says 10 1 x (cTr S l) = _
    rw [sy1 9, bg 20 _ l0, bS, sy0 8, bg 1 _ (l1 _), bS, e4, bd2S]
    rfl
  · show g_X0_says 10 2 x (cTr S l) = _
    rw [sy2 9, sy0 8, bg 1 _ l0, bS, e4, bd2S]
    rfl
  · show g_X0_says 10 3 x (cTr S l) = _
    rw [sy3 9, sy2 8, sy0 7, bg 1 _ l0, bS, e4, bd2S, bd2S]
    rfl
  · show g_X0_says 10 4 x (cTr S l) = _
    rw [sy4 9, sy1 8, bg 20 _ l0, bS, sy0 7, bg 1 _ (l1 _), bS, e4, bd2S, bd2S]
    rfl
  · show g_X0_says 10 5 x (cTr S l) = _
    rw [sy5 9, sy3 8, sy2 7, sy0 6, bg 1 _ l0, bS, e4, bd2S, bd2S, bd2S]
    rfl
  · show g_X0_says 10 6 x (cTr S l) = _
    rw [sy6 9, bg 70 _ l0, bS, sy0 8, bg 1 _ (l1 _), bS, e4, bd2S]
    rfl
  · show g_X0_says 10 7 x (cTr S l) = _
    rw [sy7 9, bg 81 _ l0, bS, sy6 8, bg 70 _ (l1 _), bS, sy0 7, bg 1 _ (l2 _ _), bS, e4, bd2S, bd2S]
    rfl
theorem err_c {S : Mem} {b : Int} (h3 : gI S 53 3 = 0) (h4 : gI S 53 4 = b) (x : Int) (l : List Int) (hl : l.length ≤ 40) : ∀ k : Nat, k < 8 → gI S 53 5 = k → g_X0_errs 10 (k : Int) x (cTr S l) = some (vErr k b x, cTr S (lErr k l)) := by
  have e4 : ∀ l, gI (cTr S l) 53 4 = b := fun l => (cTr_k (by decide) l).trans h4
  have bg : ∀ (v : Int) (l : List Int), l.length ≤ 60 → g_X0_begins v (cTr S l) = some (cTr S (v :: l)) := fun v l h => bg_l h3 v l (by omega)
  have l0 : l.length ≤ 60 := by omega
  have l1 : ∀ a : Int, (a :: l).length ≤ 60 := fun a => by show l.length + 1 ≤ 60; omega
  have l2 : ∀ a c : Int, (a :: c :: l).length ≤ 60 := fun a c => by show l.length + 1 + 1 ≤ 60; omega
  have s5 : g_X0_says 10 5 2 (cTr S (11 :: 40 :: 60 :: l)) = some (vSay 5 b 2, cTr S (lSay 5 (11 :: 40 :: 60 :: l))) := say_c h3 h4 2 (11 :: 40 :: 60 :: l) (by show l.length + 1 + 1 + 1 ≤ 50; omega) 5 (by decide)
  have e5 : ∀ k : Nat, gI S 53 5 = k → ∀ l, gI (cTr S l) 53 5 = k := fun k h l => (cTr_k (by decide) l).trans h
  apply c8 <;> intro h5
  · show g_X0_errs 10 0 x (cTr S l) = _
    rw [er0 9, bg 11 _ l0, bS, e4]
    rfl
  · show g_X0_errs 10 1 x (cTr S l) = _
    rw [er1 9, er0 8, bg 11 _ l0, bS, e4, bd2S]
    rfl
  · show g_X0_errs 10 2 x (cTr S l) = _
    rw [er2 9, er0 8, bg 11 _ l0, bS, e4, bd2S]
    rfl
  · show g_X0_errs 10 3 x (cTr S l) = _
    rw [er3 9, bg 40 _ l0, bS, er2 8, er0 7, bg 11 _ (l1 _), bS, e4, bd2S, bd2S]
    rfl
  · show g_X0_errs 10 4 x (cTr S l) = _
    rw [er4 9, er1 8, er0 7, bg 11 _ l0, bS, e4, bd2S, bd2S]
    rfl
  · show g_X0_errs 10 5 x (cTr S l) = _
    rw [er5 9, bg 60 _ l0, bS, er3 8, bg 40 _ (l1 _), bS, er2 7, er0 6, bg 11 _ (l2 _ _), bS, e4, bd2S, bd2S, bd2S, e5 5 h5, show ((5 : Nat) : Int) = 5 from rfl, s5, bd2S]
    rfl
  · show g_X0_errs 10 6 x (cTr S l) = _
    rw [er6 9, er0 8, bg 11 _ l0, bS, e4, bd2S]
    rfl
  · show g_X0_errs 10 7 x (cTr S l) = _
    rw [er7 9, er6 8, er0 7, bg 11 _ l0, bS, e4, bd2S, bd2S]
    rfl
theorem len_e {k : Nat} {l : List Int} : (lErr k l).length ≤ l.length + 6 := by
  unfold lErr
  have := @len_s 5 (11 :: 40 :: 60 :: l)
  have e : (11 :: 40 :: 60 :: l : List Int).length = l.length + 3 := rfl
  (repeat' split) <;> simp <;> omega
theorem cst_c {S : Mem} {b : Int} (h3 : gI S 53 3 = 0) (h4 : gI S 53 4 = b) (x : Int) (l : List Int) (hl : l.length ≤ 20) : ∀ k : Nat, k < 8 → gI S 53 5 = k → g_X0_costs 10 (k : Int) x (cTr S l) = some (vCst k b x, cTr S (lCst k l)) := by
  have bg : ∀ (v : Int) (l : List Int), l.length ≤ 60 → g_X0_begins v (cTr S l) = some (cTr S (v :: l)) := fun v l h => bg_l h3 v l (by omega)
  have l0 : l.length ≤ 60 := by omega
  have l1 : ∀ a : Int, (a :: l).length ≤ 60 := fun a => by show l.length + 1 ≤ 60; omega
  have l2 : ∀ a c : Int, (a :: c :: l).length ≤ 60 := fun a c => by show l.length + 1 + 1 ≤ 60; omega
  have e5 : ∀ k : Nat, gI S 53 5 = k → ∀ l, gI (cTr S l) 53 5 = k := fun k h l => (cTr_k (by decide) l).trans h
  have s : ∀ (k : Nat), k < 8 → ∀ (y : Int) (l : List Int), l.length ≤ 50 → g_X0_says 10 (k : Int) y (cTr S l) = some (vSay k b y, cTr S (lSay k l)) := fun k hk y l hl => say_c h3 h4 y l hl k hk
  apply c8 <;> intro h5
  · show g_X0_costs 10 0 x (cTr S l) = _
    rw [ct0 9, bg 10 _ l0, bS, e5 0 h5, s 0 (by decide) x (10 :: l) (by show l.length + 1 ≤ 50; omega), bd2S]
    rfl
  · show g_X0_costs 10 1 x (cTr S l) = _
    rw [ct1 9, ct0 8, bg 10 _ l0, bS, e5 1 h5, s 1 (by decide) x (10 :: l) (by show l.length + 1 ≤ 50; omega), bd2S, bd2S]
    rfl
  · show g_X0_costs 10 2 x (cTr S l) = _
    rw [ct2 9, bg 30 _ l0, bS, ct0 8, bg 10 _ (l1 _), bS, e5 2 h5, s 2 (by decide) x (10 :: 30 :: l) (by show l.length + 1 + 1 ≤ 50; omega), bd2S, bd2S]
    rfl
  · show g_X0_costs 10 3 x (cTr S l) = _
    rw [ct3 9, bg 41 _ l0, bS, ct2 8, bg 30 _ (l1 _), bS, ct0 7, bg 10 _ (l2 _ _), bS, e5 3 h5, s 3 (by decide) (w32 (x + 1)) (10 :: 30 :: 41 :: l) (by show l.length + 1 + 1 + 1 ≤ 50; omega), bd2S, bd2S, bd2S]
    rfl
  · show g_X0_costs 10 4 x (cTr S l) = _
    rw [ct4 9, ct1 8, ct0 7, bg 10 _ l0, bS, e5 4 h5, s 4 (by decide) x (10 :: l) (by show l.length + 1 ≤ 50; omega), bd2S, bd2S, bd2S]
    rfl
  · show g_X0_costs 10 5 x (cTr S l) = _
    rw [ct5 9, ct3 8, bg 41 _ l0, bS, ct2 7, bg 30 _ (l1 _), bS, ct0 6, bg 10 _ (l2 _ _), bS, e5 5 h5, s 5 (by decide) (w32 (x + 1)) (10 :: 30 :: 41 :: l) (by show l.length + 1 + 1 + 1 ≤ 50; omega), bd2S, bd2S, bd2S, bd2S]
    rfl
  · show g_X0_costs 10 6 x (cTr S l) = _
    rw [ct6 9, ct0 8, bg 10 _ l0, bS, e5 6 h5, s 6 (by decide) x (10 :: l) (by show l.length + 1 ≤ 50; omega), bd2S, bd2S]
    rfl
  · show g_X0_costs 10 7 x (cTr S l) = _
    rw [ct7 9, bg 80 _ l0, bS, ct6 8, ct0 7, bg 10 _ (l1 _), bS, e5 7 h5, s 7 (by decide) x (10 :: 80 :: l) (by show l.length + 1 + 1 ≤ 50; omega), bd2S, bd2S, bd2S, e5 7 h5, err_c h3 h4 2 (lSay 7 (10 :: 80 :: l)) (by have := @len_s 7 (10 :: 80 :: l); have e : (10 :: 80 :: l : List Int).length = l.length + 2 := rfl; omega) 7 (by decide) h5, bd2S]
    rfl
theorem len_c {k : Nat} {l : List Int} : (lCst k l).length ≤ l.length + 12 := by
  unfold lCst
  have a1 := @len_s k (10 :: 30 :: 41 :: l)
  have a2 := @len_s k (10 :: 30 :: l)
  have a3 := @len_e k (lSay k (10 :: 80 :: l))
  have a4 := @len_s k (10 :: 80 :: l)
  have a5 := @len_s k (10 :: l)
  simp only [List.length_cons] at a1 a2 a4 a5
  (repeat' split) <;> omega
theorem tel_c {S : Mem} {b : Int} (h3 : gI S 53 3 = 0) (h4 : gI S 53 4 = b) (x : Int) : ∀ k : Nat, k < 8 → gI S 53 5 = k → g_X0_tells 10 (k : Int) x (cTr S []) = some (vTel k b x, cTr S (lTel k [])) := by
  have bg : ∀ (v : Int) (l : List Int), l.length ≤ 60 → g_X0_begins v (cTr S l) = some (cTr S (v :: l)) := fun v l h => bg_l h3 v l (by omega)
  have e5 : ∀ k : Nat, gI S 53 5 = k → ∀ l, gI (cTr S l) 53 5 = k := fun k h l => (cTr_k (by decide) l).trans h
  have key : ∀ k : Nat, k < 8 → gI S 53 5 = k → ∀ (l : List Int), l.length ≤ 5 → g_X0_costs 10 (k : Int) x (cTr S l) = some (vCst k b x, cTr S (lCst k l)) ∧ g_X0_errs 10 (k : Int) 1 (cTr S (lCst k l)) = some (vErr k b 1, cTr S (lErr k (lCst k l))) := fun k hk h l hl => ⟨cst_c h3 h4 x l (by omega) k hk h, err_c h3 h4 1 _ (by have := @len_c k l; omega) k hk h⟩
  apply c8 <;> intro h5
  · show g_X0_tells 10 0 x (cTr S []) = _
    rw [tl0 9, bg 2 _ (by decide), bS, e5 0 h5, (key 0 (by decide) h5 [2] (by decide)).1, bd2S, e5 0 h5, (key 0 (by decide) h5 [2] (by decide)).2, bd2S]
    rfl
  · show g_X0_tells 10 1 x (cTr S []) = _
    rw [tl1 9, tl0 8, bg 2 _ (by decide), bS, e5 1 h5, (key 1 (by decide) h5 [2] (by decide)).1, bd2S, e5 1 h5, (key 1 (by decide) h5 [2] (by decide)).2, bd2S, bd2S]
    rfl
  · show g_X0_tells 10 2 x (cTr S []) = _
    rw [tl2 9, tl0 8, bg 2 _ (by decide), bS, e5 2 h5, (key 2 (by decide) h5 [2] (by decide)).1, bd2S, e5 2 h5, (key 2 (by decide) h5 [2] (by decide)).2, bd2S, bd2S]
    rfl
  · show g_X0_tells 10 3 x (cTr S []) = _
    rw [tl3 9, tl2 8, tl0 7, bg 2 _ (by decide), bS, e5 3 h5, (key 3 (by decide) h5 [2] (by decide)).1, bd2S, e5 3 h5, (key 3 (by decide) h5 [2] (by decide)).2, bd2S, bd2S, bd2S]
    rfl
  · show g_X0_tells 10 4 x (cTr S []) = _
    rw [tl4 9, bg 50 _ (by decide), bS, tl1 8, tl0 7, bg 2 _ (by decide), bS, e5 4 h5, (key 4 (by decide) h5 [2, 50] (by decide)).1, bd2S, e5 4 h5, (key 4 (by decide) h5 [2, 50] (by decide)).2, bd2S, bd2S, bd2S]
    rfl
  · show g_X0_tells 10 5 x (cTr S []) = _
    rw [tl5 9, bg 61 _ (by decide), bS, tl3 8, tl2 7, tl0 6, bg 2 _ (by decide), bS, e5 5 h5, (key 5 (by decide) h5 [2, 61] (by decide)).1, bd2S, e5 5 h5, (key 5 (by decide) h5 [2, 61] (by decide)).2, bd2S, bd2S, bd2S, bd2S]
    rfl
  · show g_X0_tells 10 6 x (cTr S []) = _
    rw [tl6 9, tl0 8, bg 2 _ (by decide), bS, e5 6 h5, (key 6 (by decide) h5 [2] (by decide)).1, bd2S, e5 6 h5, (key 6 (by decide) h5 [2] (by decide)).2, bd2S, bd2S]
    rfl
  · show g_X0_tells 10 7 x (cTr S []) = _
    rw [tl7 9, tl6 8, tl0 7, bg 2 _ (by decide), bS, e5 7 h5, (key 7 (by decide) h5 [2] (by decide)).1, bd2S, e5 7 h5, (key 7 (by decide) h5 [2] (by decide)).2, bd2S, bd2S, bd2S]
    rfl
theorem sayE {S : Mem} {b : Int} {k : Int} (h : ldk S 91 50 b = some k) (x : Int) : g_X10_saying b x S = if (g_X10_isUnder k 1) = 0 then (if k = 7 then (g_X10_ran 81 S).bind fun S8 => bd2 (g_X10_cowSays b x S8) fun x10 S9 => some (w32 (x10 - 1), S9) else (if k = 6 then bd2 (g_X10_cowSays b x S) fun x7 S6 => some (x7, S6) else bd2 (g_X10_plainSays b x S) fun x5 S4 => some (x5, S4))) else (g_X10_ran 20 S).bind fun S11 => bd2 (g_X10_plainSays b x S11) fun x13 S12 => some (w32 (x13 + 3), S12) := by
  unfold g_X10_saying
  rw [h, bS, bS, bS]
theorem sayM {S : Mem} {b k : Nat} (h3 : gI S 56 54 = 0) (hb : b < 50) (hk : gI S 91 b = (k : Nat)) (k8 : k < 8) (x : Int) (l : List Int) (hl : l.length ≤ 50) : g_X10_saying (b : Int) x (mTr S l) = some (vSay k b x, mTr S (lSay k l)) := by
  have e9 : ldk (mTr S l) 91 50 (b : Int) = some (k : Int) := by rw [ldk_c hb, mTr_o (by decide) (by decide), hk]
  have rn : ∀ (v : Int) (l : List Int), l.length ≤ 60 → g_X10_ran v (mTr S l) = some (mTr S (v :: l)) := fun v l h => rn_l h3 v l (by omega)
  have l0 : l.length ≤ 60 := by omega
  have l1 : ∀ a : Int, (a :: l).length ≤ 60 := fun a => by show l.length + 1 ≤ 60; omega
  have l2 : ∀ a c : Int, (a :: c :: l).length ≤ 60 := fun a c => by show l.length + 1 + 1 ≤ 60; omega
  have pl : ∀ l : List Int, l.length ≤ 60 → g_X10_plainSays (b : Int) x (mTr S l) = some (w32 (x + b), mTr S (1 :: l)) := fun l h => by unfold g_X10_plainSays; rw [rn 1 l h, bS]
  have cw : ∀ l : List Int, l.length ≤ 58 → g_X10_cowSays (b : Int) x (mTr S l) = some (w32 (w32 (x + b) * 2), mTr S (1 :: 70 :: l)) := fun l h => by unfold g_X10_cowSays; rw [rn 70 l (by omega), bS, pl _ (by show l.length + 1 ≤ 60; omega), bd2S]
  rw [sayE e9]
  clear hk e9
  revert k8
  revert k
  apply c8
  · show (bd2 (g_X10_plainSays (b : Int) x (mTr S l)) fun x5 S4 => some (x5, S4)) = _
    rw [pl l l0, bd2S]
    rfl
  · show ((g_X10_ran 20 (mTr S l)).bind fun S11 => bd2 (g_X10_plainSays (b : Int) x S11) fun x13 S12 => some (w32 (x13 + 3), S12)) = _
    rw [rn 20 l l0, bS, pl _ (l1 _), bd2S]
    rfl
  · show (bd2 (g_X10_plainSays (b : Int) x (mTr S l)) fun x5 S4 => some (x5, S4)) = _
    rw [pl l l0, bd2S]
    rfl
  · show (bd2 (g_X10_plainSays (b : Int) x (mTr S l)) fun x5 S4 => some (x5, S4)) = _
    rw [pl l l0, bd2S]
    rfl
  · show ((g_X10_ran 20 (mTr S l)).bind fun S11 => bd2 (g_X10_plainSays (b : Int) x S11) fun x13 S12 => some (w32 (x13 + 3), S12)) = _
    rw [rn 20 l l0, bS, pl _ (l1 _), bd2S]
    rfl
  · show (bd2 (g_X10_plainSays (b : Int) x (mTr S l)) fun x5 S4 => some (x5, S4)) = _
    rw [pl l l0, bd2S]
    rfl
  · show (bd2 (g_X10_cowSays (b : Int) x (mTr S l)) fun x7 S6 => some (x7, S6)) = _
    rw [cw l (by omega), bd2S]
    rfl
  · show ((g_X10_ran 81 (mTr S l)).bind fun S8 => bd2 (g_X10_cowSays (b : Int) x S8) fun x10 S9 => some (w32 (x10 - 1), S9)) = _
    rw [rn 81 l l0, bS, cw _ (by show l.length + 1 ≤ 58; omega), bd2S]
    rfl
theorem errE {S : Mem} {b : Int} {k : Int} (h : ldk S 91 50 b = some k) (x : Int) : g_X10_erring b x S = if k = 5 then (g_X10_ran 60 S).bind fun S7 => bd2 (g_X10_stopErrs b x S7) fun x9 S8 => bd2 (g_X10_saying b 2 S8) fun x11 S10 => some (w32 (x9 - x11), S10) else if k = 3 then bd2 (g_X10_stopErrs b x S) fun x6 S5 => some (x6, S5) else bd2 (g_X10_plainErrs b x S) fun x4 S3 => some (x4, S3) := by
  unfold g_X10_erring
  rw [h, bS, bS]
theorem errM {S : Mem} {b k : Nat} (h3 : gI S 56 54 = 0) (hb : b < 50) (hk : gI S 91 b = (k : Nat)) (k8 : k < 8) (x : Int) (l : List Int) (hl : l.length ≤ 40) : g_X10_erring (b : Int) x (mTr S l) = some (vErr k b x, mTr S (lErr k l)) := by
  have e9 : ldk (mTr S l) 91 50 (b : Int) = some (k : Int) := by rw [ldk_c hb, mTr_o (by decide) (by decide), hk]
  have rn : ∀ (v : Int) (l : List Int), l.length ≤ 60 → g_X10_ran v (mTr S l) = some (mTr S (v :: l)) := fun v l h => rn_l h3 v l (by omega)
  have l0 : l.length ≤ 60 := by omega
  have l1 : ∀ a : Int, (a :: l).length ≤ 60 := fun a => by show l.length + 1 ≤ 60; omega
  have pl : ∀ l : List Int, l.length ≤ 60 → g_X10_plainErrs (b : Int) x (mTr S l) = some (o_xor x b, mTr S (11 :: l)) := fun l h => by unfold g_X10_plainErrs; rw [rn 11 l h, bS]
  have st : ∀ l : List Int, l.length ≤ 58 → g_X10_stopErrs (b : Int) x (mTr S l) = some (w32 (o_xor x b * 3), mTr S (11 :: 40 :: l)) := fun l h => by unfold g_X10_stopErrs; rw [rn 40 l (by omega), bS, pl _ (by show l.length + 1 ≤ 60; omega), bd2S]
  have s5 := sayM h3 hb hk k8 2 (11 :: 40 :: 60 :: l) (by show l.length + 1 + 1 + 1 ≤ 50; omega)
  rw [errE e9]
  clear hk e9
  revert k8 s5
  revert k
  apply c8 <;> intro s5
  · show (bd2 (g_X10_plainErrs (b : Int) x (mTr S l)) fun x4 S3 => some (x4, S3)) = _
    rw [pl l l0, bd2S]
    rfl
  · show (bd2 (g_X10_plainErrs (b : Int) x (mTr S l)) fun x4 S3 => some (x4, S3)) = _
    rw [pl l l0, bd2S]
    rfl
  · show (bd2 (g_X10_plainErrs (b : Int) x (mTr S l)) fun x4 S3 => some (x4, S3)) = _
    rw [pl l l0, bd2S]
    rfl
  · show (bd2 (g_X10_stopErrs (b : Int) x (mTr S l)) fun x6 S5 => some (x6, S5)) = _
    rw [st l (by omega), bd2S]
    rfl
  · show (bd2 (g_X10_plainErrs (b : Int) x (mTr S l)) fun x4 S3 => some (x4, S3)) = _
    rw [pl l l0, bd2S]
    rfl
  · show ((g_X10_ran 60 (mTr S l)).bind fun S7 => bd2 (g_X10_stopErrs (b : Int) x S7) fun x9 S8 => bd2 (g_X10_saying (b : Int) 2 S8) fun x11 S10 => some (w32 (x9 - x11), S10)) = _
    rw [rn 60 l l0, bS, st _ (by show l.length + 1 ≤ 58; omega), bd2S, s5, bd2S]
    rfl
  · show (bd2 (g_X10_plainErrs (b : Int) x (mTr S l)) fun x4 S3 => some (x4, S3)) = _
    rw [pl l l0, bd2S]
    rfl
  · show (bd2 (g_X10_plainErrs (b : Int) x (mTr S l)) fun x4 S3 => some (x4, S3)) = _
    rw [pl l l0, bd2S]
    rfl
theorem cstE {S : Mem} {b : Int} {k : Int} (h : ldk S 91 50 b = some k) (x : Int) : g_X10_costing b x S = if (g_X10_isUnder k 3) = 0 then (if k = 7 then (g_X10_ran 80 S).bind fun S8 => bd2 (g_X10_plainCosts b x S8) fun x10 S9 => bd2 (g_X10_erring b 2 S9) fun x12 S11 => some (w32 (x10 + x12), S11) else (if k = 2 then bd2 (g_X10_clerkCosts b x S) fun x7 S6 => some (x7, S6) else bd2 (g_X10_plainCosts b x S) fun x5 S4 => some (x5, S4))) else (g_X10_ran 41 S).bind fun S13 => bd2 (g_X10_clerkCosts b (w32 (x + 1)) S13) fun x15 S14 => some (x15, S14) := by
  unfold g_X10_costing
  rw [h, bS, bS, bS]
theorem cstM {S : Mem} {b k : Nat} (h3 : gI S 56 54 = 0) (hb : b < 50) (hk : gI S 91 b = (k : Nat)) (k8 : k < 8) (x : Int) (l : List Int) (hl : l.length ≤ 20) : g_X10_costing (b : Int) x (mTr S l) = some (vCst k b x, mTr S (lCst k l)) := by
  have e9 : ldk (mTr S l) 91 50 (b : Int) = some (k : Int) := by rw [ldk_c hb, mTr_o (by decide) (by decide), hk]
  have rn : ∀ (v : Int) (l : List Int), l.length ≤ 60 → g_X10_ran v (mTr S l) = some (mTr S (v :: l)) := fun v l h => rn_l h3 v l (by omega)
  have l0 : l.length ≤ 60 := by omega
  have pl : ∀ (y : Int) (l : List Int), l.length ≤ 40 → g_X10_plainCosts (b : Int) y (mTr S l) = some (w32 (vSay k b y * 2), mTr S (lSay k (10 :: l))) := fun y l h => by unfold g_X10_plainCosts; rw [rn 10 l (by omega), bS, sayM h3 hb hk k8 y _ (by show l.length + 1 ≤ 50; omega), bd2S]
  have ck : ∀ (y : Int) (l : List Int), l.length ≤ 38 → g_X10_clerkCosts (b : Int) y (mTr S l) = some (w32 (-w32 (vSay k b y * 2)), mTr S (lSay k (10 :: 30 :: l))) := fun y l h => by unfold g_X10_clerkCosts; rw [rn 30 l (by omega), bS, pl y _ (by show l.length + 1 ≤ 40; omega), bd2S]
  have s7 := errM h3 hb hk k8 2 (lSay k (10 :: 80 :: l)) (by have := @len_s k (10 :: 80 :: l); have e : (10 :: 80 :: l : List Int).length = l.length + 2 := rfl; omega)
  rw [cstE e9]
  clear hk e9
  revert k8 pl ck s7
  revert k
  apply c8 <;> intro pl ck s7
  · show (bd2 (g_X10_plainCosts (b : Int) x (mTr S l)) fun x5 S4 => some (x5, S4)) = _
    rw [pl x l (by omega), bd2S]
    rfl
  · show (bd2 (g_X10_plainCosts (b : Int) x (mTr S l)) fun x5 S4 => some (x5, S4)) = _
    rw [pl x l (by omega), bd2S]
    rfl
  · show (bd2 (g_X10_clerkCosts (b : Int) x (mTr S l)) fun x7 S6 => some (x7, S6)) = _
    rw [ck x l (by omega), bd2S]
    rfl
  · show ((g_X10_ran 41 (mTr S l)).bind fun S13 => bd2 (g_X10_clerkCosts (b : Int) (w32 (x + 1)) S13) fun x15 S14 => some (x15, S14)) = _
    rw [rn 41 l l0, bS, ck _ _ (by show l.length + 1 ≤ 38; omega), bd2S]
    rfl
  · show (bd2 (g_X10_plainCosts (b : Int) x (mTr S l)) fun x5 S4 => some (x5, S4)) = _
    rw [pl x l (by omega), bd2S]
    rfl
  · show ((g_X10_ran 41 (mTr S l)).bind fun S13 => bd2 (g_X10_clerkCosts (b : Int) (w32 (x + 1)) S13) fun x15 S14 => some (x15, S14)) = _
    rw [rn 41 l l0, bS, ck _ _ (by show l.length + 1 ≤ 38; omega), bd2S]
    rfl
  · show (bd2 (g_X10_plainCosts (b : Int) x (mTr S l)) fun x5 S4 => some (x5, S4)) = _
    rw [pl x l (by omega), bd2S]
    rfl
  · show ((g_X10_ran 80 (mTr S l)).bind fun S8 => bd2 (g_X10_plainCosts (b : Int) x S8) fun x10 S9 => bd2 (g_X10_erring (b : Int) 2 S9) fun x12 S11 => some (w32 (x10 + x12), S11)) = _
    rw [rn 80 l l0, bS, pl _ _ (by show l.length + 1 ≤ 40; omega), bd2S, s7, bd2S]
    rfl
theorem telE {S : Mem} {b : Int} {k : Int} (h : ldk S 91 50 b = some k) (x : Int) : g_X10_telling b x S = if k = 4 then (g_X10_ran 50 S).bind fun S8 => bd2 (g_X10_plainTells b x S8) fun x10 S9 => some (o_xor x10 5, S9) else if k = 5 then (g_X10_ran 61 S).bind fun S5 => bd2 (g_X10_plainTells b x S5) fun x7 S6 => some (w32 (x7 + 1), S6) else bd2 (g_X10_plainTells b x S) fun x4 S3 => some (x4, S3) := by
  unfold g_X10_telling
  rw [h, bS, bS]
theorem telM {S : Mem} {b k : Nat} (h3 : gI S 56 54 = 0) (hb : b < 50) (hk : gI S 91 b = (k : Nat)) (k8 : k < 8) (x : Int) : g_X10_telling (b : Int) x (mTr S []) = some (vTel k b x, mTr S (lTel k [])) := by
  have e9 : ldk (mTr S []) 91 50 (b : Int) = some (k : Int) := by rw [ldk_c hb, mTr_o (by decide) (by decide), hk]
  have rn : ∀ (v : Int) (l : List Int), l.length ≤ 60 → g_X10_ran v (mTr S l) = some (mTr S (v :: l)) := fun v l h => rn_l h3 v l (by omega)
  have pl : ∀ (l : List Int), l.length ≤ 4 → g_X10_plainTells (b : Int) x (mTr S l) = some (w32 (vCst k b x - vErr k b 1), mTr S (lErr k (lCst k (2 :: l)))) := fun l h => by
    have h1 : (2 :: l : List Int).length ≤ 5 := Nat.succ_le_succ h
    unfold g_X10_plainTells
    rw [rn 2 l (by omega), bS, cstM h3 hb hk k8 x _ (by omega), bd2S, errM h3 hb hk k8 1 _ (by have := @len_c k (2 :: l); omega), bd2S]
  rw [telE e9]
  clear hk e9
  revert k8 pl
  revert k
  apply c8 <;> intro pl
  · show (bd2 (g_X10_plainTells (b : Int) x (mTr S [])) fun x4 S3 => some (x4, S3)) = _
    rw [pl [] (by decide), bd2S]
    rfl
  · show (bd2 (g_X10_plainTells (b : Int) x (mTr S [])) fun x4 S3 => some (x4, S3)) = _
    rw [pl [] (by decide), bd2S]
    rfl
  · show (bd2 (g_X10_plainTells (b : Int) x (mTr S [])) fun x4 S3 => some (x4, S3)) = _
    rw [pl [] (by decide), bd2S]
    rfl
  · show (bd2 (g_X10_plainTells (b : Int) x (mTr S [])) fun x4 S3 => some (x4, S3)) = _
    rw [pl [] (by decide), bd2S]
    rfl
  · show ((g_X10_ran 50 (mTr S [])).bind fun S8 => bd2 (g_X10_plainTells (b : Int) x S8) fun x10 S9 => some (o_xor x10 5, S9)) = _
    rw [rn 50 [] (by decide), bS, pl [50] (by decide), bd2S]
    rfl
  · show ((g_X10_ran 61 (mTr S [])).bind fun S5 => bd2 (g_X10_plainTells (b : Int) x S5) fun x7 S6 => some (w32 (x7 + 1), S6)) = _
    rw [rn 61 [] (by decide), bS, pl [61] (by decide), bd2S]
    rfl
  · show (bd2 (g_X10_plainTells (b : Int) x (mTr S [])) fun x4 S3 => some (x4, S3)) = _
    rw [pl [] (by decide), bd2S]
    rfl
  · show (bd2 (g_X10_plainTells (b : Int) x (mTr S [])) fun x4 S3 => some (x4, S3)) = _
    rw [pl [] (by decide), bd2S]
    rfl
theorem m_act {b : Nat} {Sc Sm : Mem} (h : IV b Sc Sm) (n a x : Int) : Sim (b + 100) (g_X9_act n a x Sc) (g_X10_act n a x Sm) := by
  obtain ⟨nW, nP, nB, law, h⟩ := h
  have h' := h
  obtain ⟨g0, o, g2, g3, g4, g5, ⟨⟨k1, k2, k3⟩, k4, r, k5, k6, k7, k8⟩, -⟩ := h'
  unfold g_X9_act g_X10_act g_X0_runAct
  simp only [ap]
  -- whatever ran, both sides hold it
  have fin : ∀ (v : Int) (l : List Int) (S : Mem), l.length ≤ 60 → (∀ c, c ≠ 53 → gI S c = gI Sc c) → gI S 53 1 = gI Sc 53 1 → (∀ c, gR S c = gR Sc c) → gI S 53 3 = 0 → Sim (b + 100) (some (v, cTr S l)) (some (v, mTr (sI Sm 56 54 0) l)) := by
    intro v l S hl hS hS1 hSR h0
    have hz : gI (sI Sm 56 54 0) 56 54 = 0 := gI_eq
    refine ⟨v, _, _, rfl, rfl, nW, nP, nB, law, Inv_up (Inv_RB h (Nat.le_refl _) (fun c hc => by rw [cTr_o (by omega) (by omega)]; exact hS c (by omega)) (fun c => (cTr_R l).trans (hSR c)) (fun c h1 h2 h3 => by rw [mTr_o h1 h3, gI_ne h1]) (fun k h1 h2 => by rw [mTr_k h2, gI_ek h2]) ⟨⟨k1, by rw [cTr_k (by decide), hS1]; exact k2, by rw [mTr_k (by decide), gI_ek (by decide)]; exact k3⟩, fun i hi => ?_, l.length, by omega, cTr_r h0 l, mTr_r hz l, fun i h1 h2 => tr_eq l i h1 h2⟩) (show b ≤ b + 100 by omega)⟩
    rw [mTr_o (by decide) (by decide), cTr_o (by decide) (by decide), gI_ne (by decide), hS 54 (by decide)]
    exact k4 i hi
  have e1 : w32 ((nB : Int) - 1) = (nB : Int) - 1 := w32s (by omega) (by omega)
  unfold g_X10_isBody g_X0_kindOf
  rw [gI_ek (S := Sm) (k := 54) (k' := 52) (by decide), k3, e1, inn, chk_b, bS, inn, gI_ek (k := 4) (k' := 1) (by decide), gI_ek (S := Sc) (k := 3) (k' := 1) (by decide), k2]
  clear e1
  by_cases c : 0 ≤ n ∧ n ≤ (nB : Int) - 1
  · obtain ⟨i, rfl⟩ := nat_of c.1
    have hi : i < nB := by omega
    have hi50 : i < 50 := by omega
    obtain ⟨u1, u2, u3⟩ := k4 i hi
    obtain ⟨k, hk⟩ := nat_of u2
    have hk8 : k < 8 := by omega
    rw [if_pos c, i10, if_neg (by omega), if_neg (by omega), if_neg (by omega), ldk_c hi50, bS, bS, gI_ne (c := 53) (c' := 54) (by decide), gI_ne (c := 53) (c' := 54) (by decide), hk]
    generalize hS : sI (sI (sI Sc 53 3 0) 53 4 (i : Int)) 53 5 (k : Int) = S
    have q3 : gI S 53 3 = 0 := by rw [← hS, gI_ek (by decide), gI_ek (by decide), gI_eq]
    have q4 : gI S 53 4 = (i : Int) := by rw [← hS, gI_ek (by decide), gI_eq]
    have q5 : gI S 53 5 = (k : Int) := by rw [← hS, gI_eq]
    have q1 : gI S 53 1 = gI Sc 53 1 := by rw [← hS, gI_ek (by decide), gI_ek (by decide), gI_ek (by decide)]
    have qo : ∀ c, c ≠ 53 → gI S c = gI Sc c := fun c hc => by rw [← hS, gI_ne hc, gI_ne hc, gI_ne hc]
    have qR : ∀ c, gR S c = gR Sc c := fun c => by rw [← hS]; rfl
    have z0 : gI (sI Sm 56 54 0) 56 54 = 0 := gI_eq
    have z9 : gI (sI Sm 56 54 0) 91 i = (k : Nat) := by rw [gI_ne (by decide), u1, hk]
    rw [q5]
    by_cases a0 : a = 0
    · have m1 := say_c q3 q4 x [] (by decide) k hk8
      have m2 := sayM z0 hi50 z9 hk8 x [] (by decide)
      rw [show cTr S [] = S from rfl] at m1
      rw [show mTr (sI Sm 56 54 0) [] = sI Sm 56 54 0 from rfl] at m2
      rw [if_pos a0, m1, bd2S, bd2S, if_pos (show 0 ≤ a ∧ a ≤ 3 by omega), i10, if_pos a0, m2, bd2S]
      exact fin _ _ S (by have := @len_s k []; simp only [List.length_nil] at this; omega) qo q1 qR q3
    · rw [if_neg a0]
      by_cases a1 : a = 1
      · have m1 := cst_c q3 q4 x [] (by decide) k hk8 q5
        have m2 := cstM z0 hi50 z9 hk8 x [] (by decide)
        rw [show cTr S [] = S from rfl] at m1
        rw [show mTr (sI Sm 56 54 0) [] = sI Sm 56 54 0 from rfl] at m2
        rw [if_pos a1, m1, bd2S, bd2S, if_pos (show 0 ≤ a ∧ a ≤ 3 by omega), i10, if_neg a0, if_pos a1, m2, bd2S]
        exact fin _ _ S (by have := @len_c k []; simp only [List.length_nil] at this; omega) qo q1 qR q3
      · rw [if_neg a1]
        by_cases a2 : a = 2
        · have m1 := err_c q3 q4 x [] (by decide) k hk8 q5
          have m2 := errM z0 hi50 z9 hk8 x [] (by decide)
          rw [show cTr S [] = S from rfl] at m1
          rw [show mTr (sI Sm 56 54 0) [] = sI Sm 56 54 0 from rfl] at m2
          rw [if_pos a2, m1, bd2S, bd2S, if_pos (show 0 ≤ a ∧ a ≤ 3 by omega), i10, if_neg a0, if_neg a1, if_pos a2, m2, bd2S]
          exact fin _ _ S (by have := @len_e k []; simp only [List.length_nil] at this; omega) qo q1 qR q3
        · rw [if_neg a2]
          by_cases a3 : a = 3
          · have m1 := tel_c q3 q4 x k hk8 q5
            have m2 := telM z0 hi50 z9 hk8 x
            rw [show cTr S [] = S from rfl] at m1
            rw [show mTr (sI Sm 56 54 0) [] = sI Sm 56 54 0 from rfl] at m2
            rw [if_pos a3, m1, bd2S, bd2S, if_pos (show 0 ≤ a ∧ a ≤ 3 by omega), i10, if_neg a0, if_neg a1, if_neg a2, m2, bd2S]
            refine fin _ _ S ?_ qo q1 qR q3
            unfold lTel
            have b1 := @len_e k (lCst k [2, 50])
            have b2 := @len_e k (lCst k [2, 61])
            have b3 := @len_e k (lCst k [2])
            have d1 := @len_c k [2, 50]
            have d2 := @len_c k [2, 61]
            have d3 := @len_c k [2]
            simp only [List.length_cons, List.length_nil] at d1 d2 d3
            (repeat' split) <;> omega
          · rw [if_neg a3, bd2S, if_neg (show ¬ (0 ≤ a ∧ a ≤ 3) by omega), i00]
            exact fin 0 [] S (by decide) qo q1 qR q3
  · rw [if_neg c, i00]
    have e : (if n < 0 then some (-1) else if (nB : Int) ≤ n then some (-1) else if 50 ≤ n then some (-1) else (ldk (sI (sI Sc 53 3 0) 53 4 n) 54 50 n).bind fun x1 => some x1) = some (-1 : Int) := by
      by_cases c1 : n < 0
      · rw [if_pos c1]
      · rw [if_neg c1, if_pos (by omega)]
    rw [e, bS]
    generalize hS : sI (sI (sI Sc 53 3 0) 53 4 n) 53 5 (-1) = S
    have q3 : gI S 53 3 = 0 := by rw [← hS, gI_ek (by decide), gI_ek (by decide), gI_eq]
    have q5 : gI S 53 5 = -1 := by rw [← hS, gI_eq]
    have q1 : gI S 53 1 = gI Sc 53 1 := by rw [← hS, gI_ek (by decide), gI_ek (by decide), gI_ek (by decide)]
    have qo : ∀ c, c ≠ 53 → gI S c = gI Sc c := fun c hc => by rw [← hS, gI_ne hc, gI_ne hc, gI_ne hc]
    have qR : ∀ c, gR S c = gR Sc c := fun c => by rw [← hS]; rfl
    have f0 : Sim (b + 100) (some (0, S)) (some (0, sI Sm 56 54 0)) := fin 0 [] S (by decide) qo q1 qR q3
    rw [q5]
    have n1 : g_X0_says 10 (-1) x S = some (0, S) := rfl
    have n2 : g_X0_costs 10 (-1) x S = some (0, S) := rfl
    have n3 : g_X0_errs 10 (-1) x S = some (0, S) := rfl
    have n4 : g_X0_tells 10 (-1) x S = some (0, S) := rfl
    rw [n1, n2, n3, n4, bd2S]
    have e2 : (if a = 0 then some ((0 : Int), S) else if a = 1 then some (0, S) else if a = 2 then some (0, S) else if a = 3 then some (0, S) else some (0, S)) = some (0, S) := by
      (repeat' split) <;> rfl
    rw [e2, bd2S]
    exact f0
