/-! THE FORWARD TABLE: all words from one cell -/
theorem j52_m {N : Nat → Nat → Int} {nW nP p a s w : Nat} {law : Option (List Lin)} {T : Mem} {c : Int → Mem → Option Mem} (hN : NR N nW nP) (hp : p ≤ 5) (ha : a < 4) (hs : s < 64) (hw : w < nW) (hM : OM N nW nP T) (hL : LM law T) (hf : fol a (soN N w) = true) (hV : IsQ (pco (soN N) (prN law N) 3 0) (Xn nW (soN N) (seN N) p a s) (gI T 81 (128 * a + 64 * wh a + s))) (h9 : gI T 81 (128 * a + 64 * wh a + s) < 9999999) (h : okG nW (soN N) (seN N) (prN law N) p a s w T) : ∃ T', g_X10_goFrom_J52 c (p : Int) (a : Int) ((wh a : Nat) : Int) (s : Int) (w : Int) ((soN N w : Nat) : Int) ((wh (soN N w) : Nat) : Int) T = c ((w + 1 : Nat) : Int) T' ∧ KG T T' ∧ okG nW (soN N) (seN N) (prN law N) p a s (w + 1) T' := by
  have nW12 := hN.1.1
  have w12 : w < 12 := by omega
  have m1 : gI T 58 w = ((seN N w : Nat) : Int) := by rw [← (seN_i hN hw).1]; exact hM.2 1 _ (by decide) hw
  have so3 := (soN_i hN hw).2
  have s64 := (seN_i hN hw).2
  have x64 : s ||| seN N w < 64 := or_lt 6 hs s64
  have wb : wh (soN N w) < 2 := by unfold wh; split <;> omega
  have wa : wh a < 2 := by unfold wh; split <;> omega
  have ix : 128 * soN N w + 64 * wh (soN N w) + (s ||| seN N w) < 512 := by omega
  have ia : 128 * a + 64 * wh a + s < 512 := by omega
  have p99 := (prN_i (law := law) (a := a) (p := p) hN hw).2
  have b594 : 0 ≤ gI T 81 (128 * a + 64 * wh a + s) ∧ gI T 81 (128 * a + 64 * wh a + s) ≤ 594 := by
    rcases hV with ⟨q, -⟩ | ⟨t, q1, q2, -⟩
    · omega
    · have := pco_le (so := soN N) (pr := prN law N) (fun w a p h => (prN_i hN h).2) t 3 0 (chn_w t 3 a q1.2.1)
      rw [q1.1] at this
      omega
  obtain ⟨T1, u1, u2⟩ := price_m hN hM hL a p hw
  have xq := IsQ_x (w := w) hV h9
  have ev : w32 (gI T 81 (128 * a + 64 * wh a + s) + ((prN law N w a p : Nat) : Int)) = gI T 81 (128 * a + 64 * wh a + s) + ((prN law N w a p : Nat) : Int) := w32s (by omega) (by omega)
  have e82 : gI T1 82 = gI T 82 := u2 82 (by decide) (by decide)
  unfold g_X10_goFrom_J52
  rw [ldk_c w12, bS, m1, oor (by omega) (by omega)]
  simp only [ap]
  rw [nowAt_v (by omega) wb x64, nowAt_v ha wa hs, ldk_c ia, bS, u1, bd2S, ldk_c ix, bS, ev, e82, w32_a w (by omega)]
  clear ev
  have go := fun T' => okG_s (T := T) (T' := T') hw hp (fun w h => (soN_i hN h).2) (fun w a p h => (prN_i (law := law) hN h).2) hf x64 xq h
  by_cases k : gI T 82 (128 * soN N w + 64 * wh (soN N w) + (s ||| seN N w)) ≤ gI T 81 (128 * a + 64 * wh a + s) + ((prN law N w a p : Nat) : Int)
  · rw [if_pos k]
    exact ⟨T1, rfl, fun c h1 h2 _ => u2 c h1 h2, go T1 (by rw [if_pos k, e82]) (fun j _ => by rw [e82])⟩
  · rw [if_neg k, stk_c ix, bS]
    exact ⟨_, rfl, fun c h1 h2 h3 => by rw [gI_ne h3, u2 c h1 h2], go _ (by rw [if_neg k, gI_eq]) (fun j hj => by rw [gI_ek hj, e82])⟩
