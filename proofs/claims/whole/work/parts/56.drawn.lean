/-! YEARS BY DRAWS -/
theorem ush_nn (a : Int) : 0 ≤ o_ush a 10 := by
  show 0 ≤ ((Int32.ofInt a).toUInt32 >>> ((Int32.ofInt 10).toUInt32 &&& Int32.toUInt32 31)).toBitVec.toInt
  rw [UInt32.toBitVec_shiftRight]
  show 0 ≤ ((Int32.ofInt a).toUInt32.toBitVec >>> (((Int32.ofInt 10).toUInt32 &&& Int32.toUInt32 31).toBitVec % 32).toNat).toInt
  rw [show (((Int32.ofInt 10).toUInt32 &&& Int32.toUInt32 31).toBitVec % 32).toNat = 10 by decide +kernel]
  generalize (Int32.ofInt a).toUInt32.toBitVec = v
  have hv := v.isLt
  have hm : (v >>> 10).msb = false := by
    rw [BitVec.msb_eq_false_iff_two_mul_lt, BitVec.toNat_ushiftRight, Nat.shiftRight_eq_div_pow]
    omega
  rw [BitVec.toInt_eq_toNat_of_msb hm]
  omega
def zN (z : Int) : Int := w32 (w32 (z * 1103515245) + 12345)
def wZ (nW : Nat) (z : Int) : Nat := (Int.tmod (o_ush z 10) (nW : Int)).toNat
theorem wZ_v {nW : Nat} (z : Int) (h : 0 < nW) : Int.tmod (o_ush z 10) (nW : Int) = ((wZ nW z : Nat) : Int) ∧ wZ nW z < nW := by
  have h0 := ush_nn z
  unfold wZ
  rw [tmn _ h0]
  have h1 := Int.emod_nonneg (o_ush z 10) (show (nW : Int) ≠ 0 by omega)
  have h2 := Int.emod_lt_of_pos (o_ush z 10) (show (0 : Int) < (nW : Int) by omega)
  omega
/-- the word as it came -/
def cmZ (N : Nat → Nat → Int) (w : Nat) (z : Int) : Nat := if (erN N : Int) ≤ Int.tmod (o_ush z 18) 12 then w else slN N w
theorem cmZ_lt {N : Nat → Nat → Int} {nW nP w : Nat} {z : Int} (hN : NR N nW nP) (hw : w < nW) : cmZ N w z < nW := by
  unfold cmZ
  split
  · exact hw
  · exact (slN_i hN hw).2
def b1 (r : Bool) : Int := if r then 1 else 0
theorem dr_c {N : Nat → Nat → Int} {nW nP : Nat} {S : Mem} {K : Int → Int → Int → Int → Int → Option Int} {v2 v3 v6 v8 : Int} (hN : NR N nW nP) (hO : OC N nW nP S) (h0 : 0 < nW) {fu k a sent came : Nat} {z : Int} {r : Bool} (hk : k < 3) (ha : a < 4) (hs : sent < 64) (hc : came < 64) : g_X3_draws_L56 K v2 v3 (nW : Int) ((erN N : Nat) : Int) v6 v8 S (fu + 1) z (a : Int) (sent : Int) (came : Int) (b1 r) (k : Int) = g_X3_draws_L56 K v2 v3 (nW : Int) ((erN N : Nat) : Int) v6 v8 S fu (zN z) ((soN N (wZ nW (zN z)) : Nat) : Int) ((sent ||| seN N (wZ nW (zN z)) : Nat) : Int) ((came ||| seN N (cmZ N (wZ nW (zN z)) (zN z)) : Nat) : Int) (b1 (r && fol a (soN N (wZ nW (zN z))))) ((k + 1 : Nat) : Int) := by
  obtain ⟨e1, hw⟩ := wZ_v (zN z) h0
  have hx := cmZ_lt (z := zN z) hN hw
  have v2' := val_o hN hO (w := 2) (n := wZ nW (zN z)) (by decide) hw
  rw [show ((2 : Nat) : Int) = 2 from rfl, (soN_i hN hw).1] at v2'
  have v1 := val_o hN hO (w := 1) (n := wZ nW (zN z)) (by decide) hw
  rw [show ((1 : Nat) : Int) = 1 from rfl, (seN_i hN hw).1] at v1
  have v4 := val_o hN hO (w := 4) (n := wZ nW (zN z)) (by decide) hw
  rw [show ((4 : Nat) : Int) = 4 from rfl, (slN_i hN hw).1] at v4
  have vx := val_o hN hO (w := 1) (n := cmZ N (wZ nW (zN z)) (zN z)) (by decide) hx
  rw [show ((1 : Nat) : Int) = 1 from rfl, (seN_i hN hx).1] at vx
  have s64 := (seN_i hN hw).2
  have x64 := (seN_i hN hx).2
  have so3 := (soN_i hN hw).2
  have o1 : o_or (sent : Int) ((seN N (wZ nW (zN z)) : Nat) : Int) = ((sent ||| seN N (wZ nW (zN z)) : Nat) : Int) := oor (by omega) (by omega)
  have o2 : o_or (came : Int) ((seN N (cmZ N (wZ nW (zN z)) (zN z)) : Nat) : Int) = ((came ||| seN N (cmZ N (wZ nW (zN z)) (zN z)) : Nat) : Int) := oor (by omega) (by omega)
  have j131 : ∀ (c : Int → Int → Int → Int → Int → Int → Option Int) (sl s0 : Int), (sl = if (erN N : Int) ≤ Int.tmod (o_ush (zN z) 18) 12 then 0 else 1) → g_X3_draws_J131 c v2 v3 (nW : Int) ((erN N : Nat) : Int) v6 (zN z) v8 (sent : Int) (came : Int) (k : Int) ((wZ nW (zN z) : Nat) : Int) sl s0 S = c (zN z) ((soN N (wZ nW (zN z)) : Nat) : Int) ((sent ||| seN N (wZ nW (zN z)) : Nat) : Int) ((came ||| seN N (cmZ N (wZ nW (zN z)) (zN z)) : Nat) : Int) s0 ((k + 1 : Nat) : Int) := by
    intro c sl s0 hsl
    unfold g_X3_draws_J131
    rw [v2', bS, v1, bS, bS, o1, w32_a k (by omega), hsl]
    by_cases q : (erN N : Int) ≤ Int.tmod (o_ush (zN z) 18) 12
    · have ec : cmZ N (wZ nW (zN z)) (zN z) = wZ nW (zN z) := by unfold cmZ; rw [if_pos q]
      rw [ec] at o2 ⊢
      rw [if_pos q, i00, o2]
    · have ec : cmZ N (wZ nW (zN z)) (zN z) = slN N (wZ nW (zN z)) := by unfold cmZ; rw [if_neg q]
      rw [ec] at o2 vx ⊢
      rw [if_neg q, i10, v4, bS, vx, bS, o2]
  have j101 : ∀ (c : Int → Int → Int → Int → Int → Int → Option Int) (sl : Int), (sl = if (erN N : Int) ≤ Int.tmod (o_ush (zN z) 18) 12 then 0 else 1) → g_X3_draws_J101 c v2 v3 (nW : Int) ((erN N : Nat) : Int) v6 (zN z) v8 (a : Int) (sent : Int) (came : Int) (b1 r) (k : Int) ((wZ nW (zN z) : Nat) : Int) sl S = c (zN z) ((soN N (wZ nW (zN z)) : Nat) : Int) ((sent ||| seN N (wZ nW (zN z)) : Nat) : Int) ((came ||| seN N (cmZ N (wZ nW (zN z)) (zN z)) : Nat) : Int) (b1 (r && fol a (soN N (wZ nW (zN z))))) ((k + 1 : Nat) : Int) := by
    intro c sl hsl
    unfold g_X3_draws_J101 g_X3_draws_J130
    rw [j131 _ _ _ hsl, v2', bS, fol_c a ha _ so3, j131 _ _ _ hsl]
    cases r with
    | false => rfl
    | true =>
      rw [show b1 true = 1 from rfl, i10]
      cases hf : fol a (soN N (wZ nW (zN z))) with
      | false => rfl
      | true => rfl
  rw [g_X3_draws_L56.eq_2, if_neg (show ¬ (3 : Int) ≤ (k : Int) by omega)]
  simp only [ap]
  rw [show w32 (w32 (z * 1103515245) + 12345) = zN z from rfl, chk_t (show ¬ (nW : Int) = 0 by omega), e1]
  by_cases q : (erN N : Int) ≤ Int.tmod (o_ush (zN z) 18) 12
  · rw [if_pos q]
    exact j101 _ 0 (by rw [if_pos q])
  · rw [if_neg q]
    exact j101 _ 1 (by rw [if_neg q])
/-- the reference's, word by word -/
theorem dr_m {N : Nat → Nat → Int} {nW nP : Nat} {T : Mem} {K : Int → Int → Mem → Option (Int × Mem)} {v2 v3 v5 v6 v7 : Int} (hN : NR N nW nP) (hM : OM N nW nP T) (h0 : 0 < nW) {fu k came : Nat} {z : Int} (hk : k < 3) (hc : came < 64) : g_X10_drawn_L85 K v2 v3 v5 v6 v7 (fu + 1) z (came : Int) (k : Int) T = g_X10_drawn_L85 K v2 v3 v5 v6 v7 fu (zN z) ((came ||| seN N (cmZ N (wZ nW (zN z)) (zN z)) : Nat) : Int) ((k + 1 : Nat) : Int) (sI T 77 k ((wZ nW (zN z) : Nat) : Int)) := by
  obtain ⟨e1, hw⟩ := wZ_v (zN z) h0
  have hx := cmZ_lt (z := zN z) hN hw
  have nW12 := hN.1.1
  have hw12 : wZ nW (zN z) < 12 := by omega
  have hk12 : k < 12 := by omega
  have m8 : gI (sI T 77 k ((wZ nW (zN z) : Nat) : Int)) 64 1 = ((erN N : Nat) : Int) := by rw [← (erN_i hN).1, gI_ne (by decide)]; exact hM.2 8 0 (by decide) (show 0 < 1 by decide)
  have mx : gI (sI T 77 k ((wZ nW (zN z) : Nat) : Int)) 58 (cmZ N (wZ nW (zN z)) (zN z)) = ((seN N (cmZ N (wZ nW (zN z)) (zN z)) : Nat) : Int) := by rw [← (seN_i hN hx).1, gI_ne (by decide)]; exact hM.2 1 _ (by decide) hx
  have m4 : gI (sI T 77 k ((wZ nW (zN z) : Nat) : Int)) 61 (wZ nW (zN z)) = ((slN N (wZ nW (zN z)) : Nat) : Int) := by rw [← (slN_i hN hw).1, gI_ne (by decide)]; exact hM.2 4 _ (by decide) hw
  have x64 := (seN_i hN hx).2
  have o2 : o_or (came : Int) ((seN N (cmZ N (wZ nW (zN z)) (zN z)) : Nat) : Int) = ((came ||| seN N (cmZ N (wZ nW (zN z)) (zN z)) : Nat) : Int) := oor (by omega) (by omega)
  rw [g_X10_drawn_L85.eq_2, if_neg (show ¬ (3 : Int) ≤ (k : Int) by omega)]
  simp only [ap]
  rw [show w32 (w32 (z * 1103515245) + 12345) = zN z from rfl, hM.1.1, chk_t (show ¬ (nW : Int) = 0 by omega), e1, stk_c hk12, bS, m8, w32_a k (by omega), ldk_c hk12, bS, bS, gI_eq, ldk_c hw12]
  by_cases q : (erN N : Int) ≤ Int.tmod (o_ush (zN z) 18) 12
  · have ec : cmZ N (wZ nW (zN z)) (zN z) = wZ nW (zN z) := by unfold cmZ; rw [if_pos q]
    rw [ec] at o2 mx ⊢
    rw [if_pos q, bS, mx, o2]
  · have ec : cmZ N (wZ nW (zN z)) (zN z) = slN N (wZ nW (zN z)) := by unfold cmZ; rw [if_neg q]
    have hx12 : slN N (wZ nW (zN z)) < 12 := by rw [ec] at hx; omega
    rw [ec] at o2 mx ⊢
    rw [if_neg q, ldk_c hw12, bS, m4, ldk_c hx12, bS, mx, o2]
theorem drw_l {N : Nat → Nat → Int} {nW nP : Nat} {S : Mem} {nm what : Int} {many : Nat} {K : Int → Int → Mem → Option (Int × Mem)} (hN : NR N nW nP) (hO : OC N nW nP S) (hnm : w32 ((w32 (Int.tdiv nm 100)) * (Int.tmod nm 100)) = (many : Int)) (hmany : many ≤ 600) : ∀ (m i fu r o : Nat) (z : Int) (T : Mem), OM N nW nP T → i + m = many → m < fu → r ≤ i → o ≤ i → ∃ (r' o' : Nat) (T' : Mem), g_X10_drawn_L53 K nm what fu z (r : Int) (o : Int) (i : Int) T = K (r' : Int) (o' : Int) T' ∧ g_X3_draws_L30 (many : Int) 1 (nW : Int) ((erN N : Nat) : Int) S fu (r : Int) z (i : Int) = some (r' : Int) ∧ g_X3_draws_L30 (many : Int) 0 (nW : Int) ((erN N : Nat) : Int) S fu (o : Int) z (i : Int) = some (o' : Int) ∧ KW T T' := by
  intro m
  induction m with
  | zero =>
    intro i fu r o z T hM hi hf hr ho
    obtain ⟨fu, rfl⟩ : ∃ k, fu = k + 1 := ⟨fu - 1, by omega⟩
    refine ⟨r, o, T, ?_, ?_, ?_, fun _ _ _ => rfl, fun _ _ => rfl⟩
    · rw [g_X10_drawn_L53.eq_2, hnm, if_pos (show (many : Int) ≤ (i : Int) by omega)]
    · rw [g_X3_draws_L30.eq_2, if_pos (show (many : Int) ≤ (i : Int) by omega)]
    · rw [g_X3_draws_L30.eq_2, if_pos (show (many : Int) ≤ (i : Int) by omega)]
  | succ m ih =>
    intro i fu r o z T hM hi hf hr ho
    obtain ⟨fu, rfl⟩ : ∃ k, fu = k + 1 := ⟨fu - 1, by omega⟩
    have n1 : ¬ (many : Int) ≤ (i : Int) := by omega
    by_cases h0 : 0 < nW
    · have n2 : ¬ (nW : Int) ≤ 0 := by omega
      have kw : ∀ a b c : Int, KW T (sI (sI (sI (sI T 56 32 3) 77 0 a) 77 1 b) 77 2 c) := fun a b c => ⟨fun q h1 h2 => by rw [gI_ne h2, gI_ne h2, gI_ne h2, gI_ne h1], fun k hk => by rw [gI_ne (by decide), gI_ne (by decide), gI_ne (by decide), gI_ek hk]⟩
      generalize hz1 : zN z = z1
      generalize hz2 : zN z1 = z2
      generalize hz3 : zN z2 = z3
      generalize hw1 : wZ nW z1 = w1
      generalize hw2 : wZ nW z2 = w2
      generalize hw3 : wZ nW z3 = w3
      have q1 : w1 < nW := by rw [← hw1]; exact (wZ_v z1 h0).2
      have q2 : w2 < nW := by rw [← hw2]; exact (wZ_v z2 h0).2
      have q3 : w3 < nW := by rw [← hw3]; exact (wZ_v z3 h0).2
      have s1 := (seN_i hN q1).2
      have s2 := (seN_i hN q2).2
      have s3 := (seN_i hN q3).2
      have x1 := (seN_i hN (cmZ_lt (z := z1) hN q1)).2
      have x2 := (seN_i hN (cmZ_lt (z := z2) hN q2)).2
      have x3 := (seN_i hN (cmZ_lt (z := z3) hN q3)).2
      have p1 := (soN_i hN q1).2
      have p2 := (soN_i hN q2).2
      have p3 := (soN_i hN q3).2
      have z0 : (0 : Nat) < 64 := by decide
      have ss1 : 0 ||| seN N w1 < 64 := or_lt 6 z0 s1
      have ss2 : 0 ||| seN N w1 ||| seN N w2 < 64 := or_lt 6 ss1 s2
      have cc1 : 0 ||| seN N (cmZ N w1 z1) < 64 := or_lt 6 z0 x1
      have cc2 : 0 ||| seN N (cmZ N w1 z1) ||| seN N (cmZ N w2 z2) < 64 := or_lt 6 cc1 x2
      have C : ∀ (K' : Int → Int → Int → Int → Int → Option Int) (v3 v6 : Int), g_X3_draws_L56 K' (many : Int) v3 (nW : Int) ((erN N : Nat) : Int) v6 (i : Int) S FU z 3 0 0 1 0 = K' z3 ((soN N w3 : Nat) : Int) ((0 ||| seN N w1 ||| seN N w2 ||| seN N w3 : Nat) : Int) ((0 ||| seN N (cmZ N w1 z1) ||| seN N (cmZ N w2 z2) ||| seN N (cmZ N w3 z3) : Nat) : Int) (b1 (true && fol 3 (soN N w1) && fol (soN N w1) (soN N w2) && fol (soN N w2) (soN N w3))) := by
        intro K' v3 v6
        have c1 := dr_c (K := K') (v2 := (many : Int)) (v3 := v3) (v6 := v6) (v8 := (i : Int)) (fu := 99999) (k := 0) (a := 3) (sent := 0) (came := 0) (z := z) (r := true) hN hO h0 (by decide) (by decide) z0 z0
        rw [hz1, hw1] at c1
        have c2 := dr_c (K := K') (v2 := (many : Int)) (v3 := v3) (v6 := v6) (v8 := (i : Int)) (fu := 99998) (k := 1) (a := soN N w1) (sent := 0 ||| seN N w1) (came := 0 ||| seN N (cmZ N w1 z1)) (z := z1) (r := true && fol 3 (soN N w1)) hN hO h0 (by decide) (by omega) ss1 cc1
        rw [hz2, hw2] at c2
        have c3 := dr_c (K := K') (v2 := (many : Int)) (v3 := v3) (v6 := v6) (v8 := (i : Int)) (fu := 99997) (k := 2) (a := soN N w2) (sent := 0 ||| seN N w1 ||| seN N w2) (came := 0 ||| seN N (cmZ N w1 z1) ||| seN N (cmZ N w2 z2)) (z := z2) (r := true && fol 3 (soN N w1) && fol (soN N w1) (soN N w2)) hN hO h0 (by decide) (by omega) ss2 cc2
        rw [hz3, hw3] at c3
        have e0 : FU = 99999 + 1 := rfl
        rw [e0]
        refine c1.trans (c2.trans (c3.trans ?_))
        rw [show (99997 : Nat) = 99996 + 1 from rfl, g_X3_draws_L56.eq_2, if_pos (by decide)]
      have M : ∀ (K' : Int → Int → Mem → Option (Int × Mem)) (v5 v6 v7 : Int), g_X10_drawn_L85 K' nm what v5 v6 v7 FU z 0 0 (sI T 56 32 3) = K' z3 ((0 ||| seN N (cmZ N w1 z1) ||| seN N (cmZ N w2 z2) ||| seN N (cmZ N w3 z3) : Nat) : Int) (sI (sI (sI (sI T 56 32 3) 77 0 (w1 : Int)) 77 1 (w2 : Int)) 77 2 (w3 : Int)) := by
        intro K' v5 v6 v7
        have k0 : OM N nW nP (sI T 56 32 3) := OM_of hM (fun c hc => gI_ne (by omega)) (gI_ek (by decide)) (gI_ek (by decide))
        have k1 : OM N nW nP (sI (sI T 56 32 3) 77 0 (w1 : Int)) := OM_of k0 (fun c hc => gI_ne (by omega)) (by rw [gI_ne (by decide)]) (by rw [gI_ne (by decide)])
        have k2 : OM N nW nP (sI (sI (sI T 56 32 3) 77 0 (w1 : Int)) 77 1 (w2 : Int)) := OM_of k1 (fun c hc => gI_ne (by omega)) (by rw [gI_ne (by decide)]) (by rw [gI_ne (by decide)])
        have c1 := dr_m (K := K') (v2 := nm) (v3 := what) (v5 := v5) (v6 := v6) (v7 := v7) (fu := 99999) (k := 0) (came := 0) (z := z) hN k0 h0 (by decide) z0
        rw [hz1, hw1] at c1
        have c2 := dr_m (K := K') (v2 := nm) (v3 := what) (v5 := v5) (v6 := v6) (v7 := v7) (fu := 99998) (k := 1) (came := 0 ||| seN N (cmZ N w1 z1)) (z := z1) hN k1 h0 (by decide) cc1
        rw [hz2, hw2] at c2
        have c3 := dr_m (K := K') (v2 := nm) (v3 := what) (v5 := v5) (v6 := v6) (v7 := v7) (fu := 99997) (k := 2) (came := 0 ||| seN N (cmZ N w1 z1) ||| seN N (cmZ N w2 z2)) (z := z2) hN k2 h0 (by decide) cc2
        rw [hz3, hw3] at c3
        have e0 : FU = 99999 + 1 := rfl
        rw [e0]
        refine c1.trans (c2.trans (c3.trans ?_))
        rw [show (99997 : Nat) = 99996 + 1 from rfl, g_X10_drawn_L85.eq_2, if_pos (by decide)]
      generalize hT1 : sI (sI (sI (sI T 56 32 3) 77 0 (w1 : Int)) 77 1 (w2 : Int)) 77 2 (w3 : Int) = T1 at M
      have kT : KW T T1 := by rw [← hT1]; exact kw _ _ _
      have tw : TW nW T1 [w1, w2, w3] := by
        refine ⟨⟨by show 3 ≤ 12; decide, fun k hk => ?_⟩, by rw [← hT1, gI_ne (by decide), gI_ne (by decide), gI_ne (by decide), gI_eq]; rfl, fun k hk => ?_⟩
        · match k, hk with
          | 0, _ => exact q1
          | 1, _ => exact q2
          | 2, _ => exact q3
        · rw [← hT1]
          match k, hk with
          | 0, _ => rfl
          | 1, _ => rfl
          | 2, _ => rfl
      have hM1 := hM.w kT
      have sr := right_m hN hM1 tw
      have ss := sense_m hN hM1 tw
      have es : orT (sw N [w1, w2, w3]) ([w1, w2, w3] : List Nat).length = 0 ||| seN N w1 ||| seN N w2 ||| seN N w3 := rfl
      rw [es] at ss
      have er : rgt (soN N) 3 [w1, w2, w3] = (fol 3 (soN N w1) && (fol (soN N w1) (soN N w2) && (fol (soN N w2) (soN N w3) && (soN N w3 == 1 || soN N w3 == 2)))) := rfl
      rw [er] at sr
      have em : g_X8_mayEnd ((soN N w3 : Nat) : Int) = if soN N w3 = 1 ∨ soN N w3 = 2 then 1 else 0 := end_c _ (by omega)
      have emb : (if soN N w3 = 1 ∨ soN N w3 = 2 then (1 : Int) else 0) = b1 (soN N w3 == 1 || soN N w3 == 2) := by
        unfold b1
        by_cases c : soN N w3 = 1 ∨ soN N w3 = 2
        · rw [if_pos c]; rcases c with c | c <;> rw [c] <;> rfl
        · rw [if_neg c]
          simp only [not_or] at c
          simp [c]
      rw [emb] at em
      generalize (0 ||| seN N w1 ||| seN N w2 ||| seN N w3 : Nat) = sn at C ss
      generalize (0 ||| seN N (cmZ N w1 z1) ||| seN N (cmZ N w2 z2) ||| seN N (cmZ N w3 z3) : Nat) = cm at C M
      generalize fol 3 (soN N w1) = f1 at C sr
      generalize fol (soN N w1) (soN N w2) = f2 at C sr
      generalize fol (soN N w2) (soN N w3) = f3 at C sr
      generalize (soN N w3 == 1 || soN N w3 == 2) = f4 at em sr
      have EM : g_X10_drawn_L53 K nm what (fu + 1) z (r : Int) (o : Int) (i : Int) T = if (f1 && (f2 && (f3 && f4))) = true then (if cm = sn then g_X10_drawn_L53 K nm what fu z3 ((r + 1 : Nat) : Int) (o : Int) ((i + 1 : Nat) : Int) T1 else g_X10_drawn_L53 K nm what fu z3 ((r + 1 : Nat) : Int) ((o + 1 : Nat) : Int) ((i + 1 : Nat) : Int) T1) else (if cm = sn then g_X10_drawn_L53 K nm what fu z3 (r : Int) (o : Int) ((i + 1 : Nat) : Int) T1 else g_X10_drawn_L53 K nm what fu z3 (r : Int) ((o + 1 : Nat) : Int) ((i + 1 : Nat) : Int) T1) := by
        rw [g_X10_drawn_L53.eq_2, hnm, if_neg n1, hM.1.1, if_neg n2]
        simp only [ap]
        rw [M, sr, bS, ss, bS, bS, w32_a i (by omega), w32_a r (by omega), w32_a o (by omega)]
        have ecs : ((cm : Int) = (sn : Int)) ↔ cm = sn := by omega
        cases hR : (f1 && (f2 && (f3 && f4))) with
        | false =>
          rw [bF, i00, if_neg (show ¬ (false = true) by decide)]
          by_cases c : cm = sn
          · rw [if_pos (ecs.mpr c), if_pos c]
          · rw [if_neg (fun q => c (ecs.mp q)), if_neg c]
        | true =>
          rw [bT, i10, if_pos rfl]
          by_cases c : cm = sn
          · rw [if_pos (ecs.mpr c), if_pos c]
          · rw [if_neg (fun q => c (ecs.mp q)), if_neg c]
      have E1 : g_X3_draws_L30 (many : Int) 1 (nW : Int) ((erN N : Nat) : Int) S (fu + 1) (r : Int) z (i : Int) = if (f1 && (f2 && (f3 && f4))) = true then g_X3_draws_L30 (many : Int) 1 (nW : Int) ((erN N : Nat) : Int) S fu ((r + 1 : Nat) : Int) z3 ((i + 1 : Nat) : Int) else g_X3_draws_L30 (many : Int) 1 (nW : Int) ((erN N : Nat) : Int) S fu (r : Int) z3 ((i + 1 : Nat) : Int) := by
        rw [g_X3_draws_L30.eq_2, if_neg n1, if_neg n2, C, i10, em, w32_a i (by omega), w32_a r (by omega), show w32 ((r : Int) + 0) = (r : Int) by rw [Int.add_zero, w32s (by omega) (by omega)]]
        clear EM C sr M ih
        cases f1 <;> cases f2 <;> cases f3 <;> cases f4 <;> rfl
      have E0 : g_X3_draws_L30 (many : Int) 0 (nW : Int) ((erN N : Nat) : Int) S (fu + 1) (o : Int) z (i : Int) = if cm = sn then g_X3_draws_L30 (many : Int) 0 (nW : Int) ((erN N : Nat) : Int) S fu (o : Int) z3 ((i + 1 : Nat) : Int) else g_X3_draws_L30 (many : Int) 0 (nW : Int) ((erN N : Nat) : Int) S fu ((o + 1 : Nat) : Int) z3 ((i + 1 : Nat) : Int) := by
        rw [g_X3_draws_L30.eq_2, if_neg n1, if_neg n2, C, i00, w32_a i (by omega), w32_a o (by omega), show w32 ((o : Int) + 0) = (o : Int) by rw [Int.add_zero, w32s (by omega) (by omega)]]
        by_cases c : cm = sn
        · rw [if_pos c, if_pos (by omega)]
        · rw [if_neg c, if_neg (by omega)]
      rw [EM, E1, E0]
      clear EM E1 E0 C M sr
      generalize (f1 && (f2 && (f3 && f4))) = R
      obtain ⟨r1, o1, T1', a1, a2, a3, a4⟩ := ih (i + 1) fu r o z3 T1 hM1 (by omega) (by omega) (by omega) (by omega)
      obtain ⟨r2, o2, T2', b1', b2', b3', b4'⟩ := ih (i + 1) fu (r + 1) o z3 T1 hM1 (by omega) (by omega) (by omega) (by omega)
      obtain ⟨r3, o3, T3', d1, d2, d3, d4⟩ := ih (i + 1) fu r (o + 1) z3 T1 hM1 (by omega) (by omega) (by omega) (by omega)
      obtain ⟨r4, o4, T4', e1, e2, e3, e4⟩ := ih (i + 1) fu (r + 1) (o + 1) z3 T1 hM1 (by omega) (by omega) (by omega) (by omega)
      cases R with
      | false =>
        rw [if_neg (show ¬ (false = true) by decide), if_neg (show ¬ (false = true) by decide)]
        by_cases c : cm = sn
        · rw [if_pos c, if_pos c]; exact ⟨r1, o1, T1', a1, a2, a3, kT.tr a4⟩
        · rw [if_neg c, if_neg c]; exact ⟨r3, o3, T3', d1, d2, d3, kT.tr d4⟩
      | true =>
        rw [if_pos (show true = true from rfl), if_pos (show true = true from rfl)]
        by_cases c : cm = sn
        · rw [if_pos c, if_pos c]; exact ⟨r2, o2, T2', b1', b2', b3', kT.tr b4'⟩
        · rw [if_neg c, if_neg c]; exact ⟨r4, o4, T4', e1, e2, e3, kT.tr e4⟩
    · have n2 : (nW : Int) ≤ 0 := by omega
      refine ⟨r, o, T, ?_, ?_, ?_, fun _ _ _ => rfl, fun _ _ => rfl⟩
      · rw [g_X10_drawn_L53.eq_2, hnm, if_neg n1, hM.1.1, if_pos n2]
      · rw [g_X3_draws_L30.eq_2, if_neg n1, if_pos n2]
      · rw [g_X3_draws_L30.eq_2, if_neg n1, if_pos n2]
theorem m_drawn {b : Nat} {Sc Sm : Mem} (h : IV b Sc Sm) (x y z : Int) (hy : r32 y) : ∃ r T, g_X9_drawn x y z Sc = some r ∧ g_X10_drawn x y z Sm = some (r, T) ∧ IV (b + 100) Sc T := by
  obtain ⟨nW, nP, nB, law, h⟩ := h
  have same : ∀ r : Int, ∃ r' T, some r = some r' ∧ some (r, Sm) = some (r', T) ∧ IV (b + 100) Sc T := fun r => ⟨r, Sm, rfl, rfl, nW, nP, nB, law, Inv_up h (by omega)⟩
  obtain ⟨hN, hO, hM, hL, hLm⟩ := ask_of h
  unfold g_X9_drawn g_X10_drawn
  rw [btw, btw, btw, inn, inn, inn]
  rcases ah_v hy with ⟨y0, a, c, e1, e2⟩ | ⟨y0, e1, e2, e3⟩
  · rw [e1, e2, if_neg (show ¬ y < 0 by omega)]
    by_cases c1 : 1 ≤ (a : Int) ∧ (a : Int) ≤ 30
    · rw [if_pos c1, i10, i10]
      by_cases c2 : 1 ≤ (c : Int) ∧ (c : Int) ≤ 20
      · rw [if_pos c2, i10, i10]
        by_cases c3 : 0 ≤ z ∧ z ≤ 1
        · rw [if_pos c3, i10, i10]
          have hac : a * c ≤ 600 := Nat.le_trans (Nat.mul_le_mul (show a ≤ 30 by omega) (show c ≤ 20 by omega)) (by decide)
          have ew : w32 ((a : Int) * (c : Int)) = ((a * c : Nat) : Int) := by
            rw [show (a : Int) * (c : Int) = ((a * c : Nat) : Int) from (Int.natCast_mul a c).symm]
            generalize a * c = m at hac ⊢
            exact w32s (by omega) (by omega)
          have v8 := val_o hN hO (w := 8) (n := 0) (by decide) (show 0 < 1 by decide)
          rw [show ((8 : Nat) : Int) = 8 from rfl, show ((0 : Nat) : Int) = 0 from rfl, (erN_i hN).1] at v8
          obtain ⟨r, o, T, u1, u2, u3, u4⟩ := drw_l (many := a * c) (nm := y) (what := z) (K := fun y17 y18 S16 => if z = 0 then some (y17, S16) else some (y18, S16)) hN hO (by rw [e1, e2]; exact ew) hac (a * c) 0 FU 0 0 x Sm hM (Nat.zero_add _) (by unfold FU; omega) (Nat.le_refl _) (Nat.le_refl _)
          rw [show ((0 : Nat) : Int) = 0 from rfl] at u1 u2 u3
          unfold g_X3_draws
          rw [ew, v8, bS, bS, hO.2.1.1, u1, u2, u3, bS, bS]
          have kc : IV (b + 100) Sc T := ⟨nW, nP, nB, law, Inv_up (Inv_keep h (KC.rf Sc) (KM_wv u4 (KV.rf T))) (by omega)⟩
          by_cases d : z = 0
          · rw [if_pos d, if_pos d]
            exact ⟨r, T, rfl, rfl, kc⟩
          · rw [if_neg d, if_neg d]
            exact ⟨o, T, rfl, rfl, kc⟩
        · rw [if_neg c3, i00, i00]
          exact same _
      · rw [if_neg c2, i00, i00]
        exact same _
    · rw [if_neg c1, i00, i00]
      exact same _
  · rw [if_pos y0, if_neg (show ¬ (1 ≤ w32 (Int.tdiv y 100) ∧ w32 (Int.tdiv y 100) ≤ 30) by omega), i00]
    exact same _
