/-! A NUMBER MENDED, UNDONE, DONE AGAIN: the calls -/
theorem m_mend {b : Nat} {Sc Sm : Mem} (h : IV b Sc Sm) (hb : b < 900000) (n w v : Int) : Sim (b + 100) (g_X9_mend n w v Sc) (g_X10_mend n w v Sm) := by
  obtain ⟨nW, nP, nB, law, h⟩ := h
  have h' := h
  obtain ⟨g0, ⟨o1, o2, o3, o4, o5⟩, g2, -⟩ := h'
  have same : ∀ r, Sim (b + 100) (some (r, Sc)) (some (r, Sm)) := fun r => Sim.same ⟨nW, nP, nB, law, h⟩ (by omega)
  unfold g_X9_mend g_X10_mend
  rw [has_v o1 o2.1 o2.2, isOne_v o1 o3.1 o3.2, bS]
  by_cases c : 0 ≤ n ∧ 0 ≤ w ∧ w < 10 ∧ n < lim nW nP w.toNat
  · rw [if_pos c, if_neg (by decide), if_neg (by decide)]
    obtain ⟨n, rfl⟩ := nat_of c.1
    obtain ⟨w, rfl⟩ := nat_of c.2.1
    rw [Int.toNat_natCast] at c
    have hw : w < 10 := by omega
    have hn : n < lim nW nP w := by omega
    rw [fits_v o1.1 o2.1 v w hw, bS, may_v o1.1 o3.1 v w hw, bS]
    by_cases c2 : lo w ≤ v ∧ v ≤ hi nW w
    · rw [if_pos c2, if_neg (by decide), if_neg (by decide), val_n g0 o1 o2.1 o2.2 hw hn, bS]
      have eq := (o4 w n hw hn).1
      have rng := (o4 w n hw hn).2
      by_cases c3 : nu Sc w n = v
      · rw [if_pos c3]
        unfold g_X10_changes
        rw [valAt_n Sm nW nP o1 n w hw hn, bS, if_pos (eq.trans c3), bd2S, eq]
        exact same _
      · rw [if_neg c3, set_n g0 o1 o2.1 o2.2 v hw hn, bS]
        have i1 := Inv_set h hw hn c2 (by omega)
        obtain ⟨d, z, a1, a2, a3, a4, a5, a6, a7⟩ := g2
        obtain ⟨S1, k1, k2, k3, e, k4, k5, k6, k7, r1, r2, r3, r4⟩ := note_c (S := setO Sc n w v) (d := d) (by omega) (by rw [setO_ne hw (by omega)]; exact a3) n w (nu Sc w n) v
        obtain ⟨S2, q1, q2, q3, e', q4, q5, q6, q7, t1, t2, t3, t4⟩ := chg_m (S := Sm) (d := d) o1 (by omega) a5 w n v hw hn (by rw [eq]; exact c3)
        have ee : e' = e := by rw [q5, k5]
        subst ee
        rw [k1, bS, q1, bd2S, eq]
        rw [eq] at t3
        refine ⟨_, _, _, rfl, rfl, nW, nP, nB, law, Inv_up (Inv_RC i1 k2 k3 (fun c hc => setM_congr (q2 c hc)) (fun k h1 h2 => ?_) ?_) (show b + 1 ≤ b + 100 by omega)⟩
        · rw [setM_ne hw (by omega), setM_ne hw (by omega)]
          exact q3 k h1 h2
        · have sm : ∀ q, (q < 57 ∨ 64 < q) → gI (setM S2 n w v) q = gI S2 q := fun q hq => setM_ne hw hq
          have sc : ∀ q, 48 ≤ q → gI (setO Sc n w v) q = gI Sc q := fun q hq => setO_ne hw (by omega)
          refine ⟨e' + 1, e' + 1, Nat.le_refl _, by omega, by rw [k6]; rfl, by rw [k7]; rfl, by rw [sm 56 (by omega), q6]; rfl, by rw [sm 56 (by omega), q7]; omega, fun i hi => ?_⟩
          rw [sm 65 (by omega), sm 66 (by omega), sm 67 (by omega), sm 68 (by omega)]
          by_cases y : i = e'
          · subst y
            exact ⟨n, w, hw, hn, r1.1, r2.1, t1.1, t2.1, by rw [t3.1, r3.1], by rw [t4.1, r4.1], by rw [r3.1]; exact rng, by rw [r4.1]; exact c2⟩
          · have hi' : i < e' := by omega
            rw [r1.2 i hi', r2.2 i hi', r3.2 i hi', r4.2 i hi', t1.2 i hi', t2.2 i hi', t3.2 i hi', t4.2 i hi', sc 49 (by omega), sc 50 (by omega), sc 51 (by omega), sc 52 (by omega)]
            refine a7 _ ?_
            split at k5 <;> split <;> omega
    · rw [if_neg c2, if_pos rfl, if_pos rfl]
      exact same _
  · rw [if_neg c, if_pos rfl, if_pos rfl]
    exact same _
theorem m_undo {b : Nat} {Sc Sm : Mem} (h : IV b Sc Sm) (hb : b < 900000) : Sim (b + 100) (g_X9_undo Sc) (g_X10_undo Sm) := by
  obtain ⟨nW, nP, nB, law, h⟩ := h
  have h' := h
  obtain ⟨g0, ⟨o1, o2, o3, o4, o5⟩, ⟨d, z, a1, a2, a3, a4, a5, a6, a7⟩, -⟩ := h'
  unfold g_X9_undo g_X10_undo g_X1_undoOne
  rw [a3, a5]
  by_cases c : d = 0
  · rw [if_pos (by omega), if_pos (by omega), bd2S]
    exact Sim.same ⟨nW, nP, nB, law, h⟩ (by omega)
  · rw [if_neg (by omega), if_pos (by omega), if_neg (by omega)]
    obtain ⟨k, rfl⟩ : ∃ k, d = k + 1 := ⟨d - 1, by omega⟩
    have e1 : w32 (((k + 1 : Nat) : Int) - 1) = (k : Int) := w32_m k (by omega)
    have e2 : w32 ((z : Int) - ((k + 1 : Nat) : Int) + 1) = (z : Int) - k := w32_da z k (by omega) (by omega)
    simp only [ap]
    have z12 : gI (sI Sm 56 11 (k : Int)) 56 12 = gI Sm 56 12 := gI_ek (by decide)
    rw [e1, z12, a6, e2]
    have hk : k < 40 := by omega
    have x1 : gI (sI Sc 48 5 (k : Int)) 48 5 = k := gI_eq
    have y1 : gI (sI (sI Sm 56 11 (k : Int)) 56 12 ((z : Int) - k)) 56 11 = k := by rw [gI_ek (by decide), gI_eq]
    rw [x1, y1, ldk_c hk, bS, ldk_c hk, bS, ldk_c hk, bS, ldk_c hk, bS, ldk_c hk, bS, ldk_c hk, bS, gI_ne (by decide), gI_ne (by decide), gI_ne (by decide), gI_ne (by decide), gI_ne (by decide), gI_ne (by decide), gI_ne (by decide), gI_ne (by decide), gI_ne (by decide)]
    obtain ⟨n, w, b1, b2, b3, b4, b5, b6, b7, b8, b9, b10⟩ := a7 k (by omega)
    rw [b3, b4, b5, b6, b7]
    have i0 : Inv b nW nP nB law (sI Sc 48 5 (k : Int)) (sI (sI Sm 56 11 (k : Int)) 56 12 ((z : Int) - k)) := by
      refine Inv_RC h (fun c hc => gI_ne (by omega)) (fun c => rfl) (fun c hc => by rw [gI_ne (by omega), gI_ne (by omega)]) (fun k h1 h2 => by rw [gI_ek h2, gI_ek h1]) ⟨k, z, by omega, a2, x1, by rw [gI_ek (by decide)]; exact a4, y1, gI_eq, fun i hi => ?_⟩
      rw [gI_ne (by decide), gI_ne (by decide), gI_ne (by decide), gI_ne (by decide), gI_ne (by decide), gI_ne (by decide), gI_ne (by decide), gI_ne (by decide), gI_ne (by decide), gI_ne (by decide), gI_ne (by decide), gI_ne (by decide)]
      exact a7 i hi
    rw [set_n (S := sI Sc 48 5 (k : Int)) (nW := nW) (nP := nP) (Shp_of g0 rfl rfl) o1 (by rw [gI_ne (by decide)]; exact o2.1) (by rw [gI_ne (by decide)]; exact o2.2) _ b1 b2, bS, bd2S, lays_n _ nW nP o1 n _ w b1 b2, bS]
    rw [setO_ne b1 (by omega), setM_ne b1 (by omega), x1, y1]
    exact ⟨_, _, _, rfl, rfl, nW, nP, nB, law, Inv_up (Inv_set i0 b1 b2 b9 (by omega)) (by omega)⟩
theorem m_redo {b : Nat} {Sc Sm : Mem} (h : IV b Sc Sm) (hb : b < 900000) : Sim (b + 100) (g_X9_redo Sc) (g_X10_redo Sm) := by
  obtain ⟨nW, nP, nB, law, h⟩ := h
  have h' := h
  obtain ⟨g0, ⟨o1, o2, o3, o4, o5⟩, ⟨d, z, a1, a2, a3, a4, a5, a6, a7⟩, -⟩ := h'
  unfold g_X9_redo g_X10_redo g_X1_redoOne
  rw [a3, a4, a6, a5, if_neg (by omega)]
  by_cases c : z = d
  · rw [if_pos (by omega), if_pos (by omega), bd2S]
    exact Sim.same ⟨nW, nP, nB, law, h⟩ (by omega)
  · have hk : d < 40 := by omega
    rw [if_neg (by omega), if_pos (by omega), if_neg (by omega), ldk_c hk, bS, ldk_c hk, bS, ldk_c hk, bS, ldk_c hk, bS, ldk_c hk, bS, ldk_c hk, bS]
    obtain ⟨n, w, b1, b2, b3, b4, b5, b6, b7, b8, b9, b10⟩ := a7 d (by omega)
    rw [b3, b4, b5, b6, b8, set_n g0 o1 o2.1 o2.2 _ b1 b2, bS, lays_n _ nW nP o1 n _ w b1 b2, bS]
    simp only [ap]
    have i1 := Inv_set h b1 b2 b10 (by omega)
    have sm : ∀ q, (q < 57 ∨ 64 < q) → gI (setM Sm n w (gI Sc 52 d)) q = gI Sm q := fun q hq => setM_ne b1 hq
    have sc : ∀ q, 48 ≤ q → gI (setO Sc n w (gI Sc 52 d)) q = gI Sc q := fun q hq => setO_ne b1 (by omega)
    have e1 : w32 ((d : Int) + 1) = ((d + 1 : Nat) : Int) := w32_a d (by omega)
    have e2 : w32 ((z : Int) - ((d + 1 : Nat) : Int)) = (z : Int) - ((d + 1 : Nat) : Int) := w32_d z (d + 1) (Nat.le_trans a2 (by decide)) (Nat.le_trans hk (by decide))
    have e3 : w32 ((z : Int) - (d : Int) - 1) = (z : Int) - ((d + 1 : Nat) : Int) := w32_dm z d (Nat.le_trans a2 (by decide)) (Nat.le_trans (Nat.le_of_lt hk) (by decide))
    have x5 : gI (setO Sc n w (gI Sc 52 d)) 48 5 = d := by rw [sc 48 (by omega)]; exact a3
    have x6 : gI (setO Sc n w (gI Sc 52 d)) 48 6 = z := by rw [sc 48 (by omega)]; exact a4
    have y5 : gI (setM Sm n w (gI Sc 52 d)) 56 11 = d := by rw [sm 56 (by omega)]; exact a5
    have y6 : gI (setM Sm n w (gI Sc 52 d)) 56 12 = (z : Int) - d := by rw [sm 56 (by omega)]; exact a6
    generalize setO Sc n w (gI Sc 52 d) = Tc at *
    generalize setM Sm n w (gI Sc 52 d) = Tm at *
    rw [x5, y5, e1, show gI (sI Tc 48 5 ((d + 1 : Nat) : Int)) 48 6 = z from (gI_ek (by decide)).trans x6, show gI (sI Tc 48 5 ((d + 1 : Nat) : Int)) 48 5 = ((d + 1 : Nat) : Int) from gI_eq, e2, show gI (sI Tm 56 11 ((d + 1 : Nat) : Int)) 56 12 = (z : Int) - d from (gI_ek (by decide)).trans y6, e3, gI_eq, bd2S]
    clear e1 e2 e3
    refine ⟨_, _, _, rfl, rfl, nW, nP, nB, law, Inv_up (Inv_RC i1 (fun c hc => gI_ne (by omega)) (fun c => rfl) (fun c hc => by rw [gI_ne (by omega), gI_ne (by omega)]) (fun k h1 h2 => by rw [gI_ek h2, gI_ek h1]) ⟨d + 1, z, by omega, a2, gI_eq, by rw [gI_ek (by decide)]; exact x6, by rw [gI_ek (by decide), gI_eq], gI_eq, fun i hi => ?_⟩) (show b + 1 ≤ b + 100 by omega)⟩
    rw [gI_ne (by decide), gI_ne (by decide), gI_ne (by decide), gI_ne (by decide), gI_ne (by decide), gI_ne (by decide), gI_ne (by decide), gI_ne (by decide), gI_ne (by decide), gI_ne (by decide), gI_ne (by decide), gI_ne (by decide), sc 49 (by omega), sc 50 (by omega), sc 51 (by omega), sc 52 (by omega), sm 65 (by omega), sm 66 (by omega), sm 67 (by omega), sm 68 (by omega)]
    exact a7 i hi
