/-! WHAT CAN BE SAID, reference: the table -/
def minT (f : Nat → Nat) : Nat → Nat
  | 0 => 9999999
  | n + 1 => min (minT f n) (f n)
/-- one word ahead of what is left -/
def swB (law : Option (List Lin)) (N : Nat → Nat → Int) (no p a wh s : Nat) (nxt : Nat → Nat → Nat → Nat) (w : Nat) : Nat := if fol a (soN N w) = true ∧ seN N w &&& no = 0 then (if nxt (soN N w) (nxW N w wh) (s ||| seN N w) < 9999999 then nxt (soN N w) (nxW N w wh) (s ||| seN N w) + 16 * prN law N w a p + 1 else 9999999) else 9999999
def SB (law : Option (List Lin)) (N : Nat → Nat → Int) (yes no nW : Nat) : Nat → Nat → Nat → Nat → Nat
  | 0, _, wh, s => if wh = 1 ∧ s &&& yes = yes then 0 else 9999999
  | m + 1, a, wh, s => if wh = 1 ∧ s &&& yes = yes then 0 else minT (swB law N no (6 - (m + 1)) a wh s (SB law N yes no nW m)) nW
theorem minT_le {f : Nat → Nat} {i : Nat} : ∀ n, i < n → minT f n ≤ f i
  | 0, h => absurd h (Nat.not_lt_zero i)
  | n + 1, h => by
    show min (minT f n) (f n) ≤ f i
    by_cases e : i = n
    · rw [e]; omega
    · have := minT_le (f := f) n (show i < n by omega)
      omega
theorem minT_nv {f : Nat → Nat} : ∀ n, minT f n ≤ 9999999
  | 0 => Nat.le_refl _
  | n + 1 => by
    have := minT_nv (f := f) n
    show min (minT f n) (f n) ≤ 9999999
    omega
theorem minT_at {f : Nat → Nat} : ∀ n, minT f n < 9999999 → ∃ i, i < n ∧ f i = minT f n
  | 0, h => absurd h (Nat.lt_irrefl _)
  | n + 1, h => by
    have h : min (minT f n) (f n) < 9999999 := h
    by_cases c : f n ≤ minT f n
    · exact ⟨n, Nat.lt_succ_self n, by show f n = min (minT f n) (f n); omega⟩
    · obtain ⟨i, h1, h2⟩ := minT_at (f := f) n (by omega)
      exact ⟨i, by omega, by show f i = min (minT f n) (f n); omega⟩
theorem SB_b {law : Option (List Lin)} {N : Nat → Nat → Int} {yes no nW nP : Nat} (hN : NR N nW nP) : ∀ m a wh s, SB law N yes no nW m a wh s = 9999999 ∨ SB law N yes no nW m a wh s ≤ 1600 * m
  | 0, a, wh, s => by
    show (if wh = 1 ∧ s &&& yes = yes then 0 else 9999999) = 9999999 ∨ (if wh = 1 ∧ s &&& yes = yes then 0 else 9999999) ≤ 1600 * 0
    split
    · exact Or.inr (Nat.le_refl _)
    · exact Or.inl rfl
  | m + 1, a, wh, s => by
    show (if wh = 1 ∧ s &&& yes = yes then 0 else minT (swB law N no (6 - (m + 1)) a wh s (SB law N yes no nW m)) nW) = 9999999 ∨ (if wh = 1 ∧ s &&& yes = yes then 0 else minT (swB law N no (6 - (m + 1)) a wh s (SB law N yes no nW m)) nW) ≤ 1600 * (m + 1)
    split
    · exact Or.inr (Nat.zero_le _)
    · have nv := minT_nv (f := swB law N no (6 - (m + 1)) a wh s (SB law N yes no nW m)) nW
      by_cases c : minT (swB law N no (6 - (m + 1)) a wh s (SB law N yes no nW m)) nW < 9999999
      · obtain ⟨w, h1, h2⟩ := minT_at nW c
        refine Or.inr ?_
        rw [← h2] at c ⊢
        unfold swB at c ⊢
        split at c
        · split at c
          · next q1 q2 =>
            rw [if_pos q1, if_pos q2]
            have ih := SB_b (yes := yes) (no := no) (law := law) hN m (soN N w) (nxW N w wh) (s ||| seN N w)
            have p99 := (prN_i (law := law) (a := a) (p := 6 - (m + 1)) hN h1).2
            omega
          · exact absurd c (Nat.lt_irrefl _)
        · exact absurd c (Nat.lt_irrefl _)
      · exact Or.inl (by omega)
theorem sayAt_v {p a wh s : Nat} (hp : p ≤ 6) (ha : a < 4) (hw : wh < 2) (hs : s < 64) : g_X10_sayAt (p : Int) (a : Int) (wh : Int) (s : Int) = ((512 * p + 128 * a + 64 * wh + s : Nat) : Int) := by
  unfold g_X10_sayAt
  rw [w32s (i := (p : Int) * 4) (by omega) (by omega), w32s (i := (p : Int) * 4 + (a : Int)) (by omega) (by omega), w32s (i := ((p : Int) * 4 + (a : Int)) * 2) (by omega) (by omega), w32s (i := ((p : Int) * 4 + (a : Int)) * 2 + (wh : Int)) (by omega) (by omega), w32s (i := (((p : Int) * 4 + (a : Int)) * 2 + (wh : Int)) * 64) (by omega) (by omega), w32s (by omega) (by omega)]
  omega
def okY (law : Option (List Lin)) (N : Nat → Nat → Int) (yes no nW p a wh s : Nat) (T : Mem) : Prop := gI T 80 (512 * p + 128 * a + 64 * wh + s) = ((SB law N yes no nW (6 - p) a wh s : Nat) : Int)
/-- the next place's row is there -/
def okN (law : Option (List Lin)) (N : Nat → Nat → Int) (yes no nW p : Nat) (T : Mem) : Prop := ∀ a wh s, a < 4 → wh < 2 → s < 64 → okY law N yes no nW p a wh s T
theorem okN_q {law : Option (List Lin)} {N : Nat → Nat → Int} {yes no nW p : Nat} {T T' : Mem} (h : okN law N yes no nW p T) (k : KQ T T') : okN law N yes no nW p T' := fun a wh s h1 h2 h3 => by
  unfold okY
  rw [k 80 (by decide) (by decide)]
  exact h a wh s h1 h2 h3
theorem w_sb {x c : Nat} (hx : x ≤ 10000) (hc : c ≤ 99) : w32 ((w32 ((x : Int) + (w32 (16 * (c : Int))))) + 1) = ((x + 16 * c + 1 : Nat) : Int) := by
  rw [w32s (i := 16 * (c : Int)) (by omega) (by omega), w32s (i := (x : Int) + 16 * (c : Int)) (by omega) (by omega), w32s (by omega) (by omega)]
  omega
theorem sayBy_m {law : Option (List Lin)} {N : Nat → Nat → Int} {yes no nW nP p a wh s w m : Nat} {T : Mem} (hN : NR N nW nP) (hM : OM N nW nP T) (hL : LM law T) (hno : gI T 56 37 = (no : Nat)) (hn64 : no < 64) (hp : p < 6) (hm : 6 - (p + 1) = m) (ha : a < 4) (hwh : wh < 2) (hs : s < 64) (hw : w < nW) (hn : okN law N yes no nW (p + 1) T) : ∃ T', g_X10_sayBy (w : Int) (p : Int) (a : Int) (wh : Int) (s : Int) T = some (((swB law N no p a wh s (SB law N yes no nW m) w : Nat) : Int), T') ∧ KQ T T' := by
  have nW12 := hN.1.1
  have w12 : w < 12 := by omega
  have m2 : gI T 59 w = ((soN N w : Nat) : Int) := by rw [← (soN_i hN hw).1]; exact hM.2 2 _ (by decide) hw
  have m1 : gI T 58 w = ((seN N w : Nat) : Int) := by rw [← (seN_i hN hw).1]; exact hM.2 1 _ (by decide) hw
  have so3 := (soN_i hN hw).2
  have s64 := (seN_i hN hw).2
  have nx2 := nxW_lt (N := N) (w := w) hwh
  have xo : s ||| seN N w < 64 := or_lt 6 hs s64
  have eo : o_or (s : Int) ((seN N w : Nat) : Int) = ((s ||| seN N w : Nat) : Int) := oor (by omega) (by omega)
  have ix : 512 * (p + 1) + 128 * soN N w + 64 * nxW N w wh + (s ||| seN N w) < 3584 := by omega
  have cell := hn (soN N w) (nxW N w wh) (s ||| seN N w) (by omega) nx2 xo
  unfold okY at cell
  rw [hm] at cell
  have sb := SB_b (yes := yes) (no := no) (law := law) hN m (soN N w) (nxW N w wh) (s ||| seN N w)
  have j60 : ∃ T', g_X10_sayBy_J60 (w : Int) (p : Int) (a : Int) (s : Int) ((p + 1 : Nat) : Int) ((soN N w : Nat) : Int) ((nxW N w wh : Nat) : Int) T = some (((if SB law N yes no nW m (soN N w) (nxW N w wh) (s ||| seN N w) < 9999999 then SB law N yes no nW m (soN N w) (nxW N w wh) (s ||| seN N w) + 16 * prN law N w a p + 1 else 9999999 : Nat) : Int), T') ∧ KQ T T' := by
    unfold g_X10_sayBy_J60
    rw [ldk_c w12, bS, m1, eo, sayAt_v (by omega) (by omega) nx2 xo, ldk_c ix, bS, cell]
    generalize SB law N yes no nW m (soN N w) (nxW N w wh) (s ||| seN N w) = X at sb
    by_cases c : X < 9999999
    · obtain ⟨T1, u1, u2⟩ := price_m hN hM hL a p hw
      have p99 := (prN_i (law := law) (a := a) (p := p) hN hw).2
      rw [if_pos (show (X : Int) < 9999999 by omega), if_pos c, u1, bd2S, w_sb (by omega) p99]
      exact ⟨T1, rfl, u2⟩
    · rw [if_neg (show ¬ (X : Int) < 9999999 by omega), if_neg c]
      exact ⟨T, rfl, KQ.rf T⟩
  unfold g_X10_sayBy swB
  rw [ldk_c w12, bS, m2, fol_m a ha _ so3]
  cases hf : fol a (soN N w) with
  | false =>
    rw [bF, i00, if_neg (fun q => by cases q.1)]
    exact ⟨T, rfl, KQ.rf T⟩
  | true =>
    rw [bT, i10, ldk_c w12, bS, m1, hno, oand (by omega)]
    by_cases c : seN N w &&& no = 0
    · rw [if_pos (show ((seN N w &&& no : Nat) : Int) = 0 by omega), if_pos ⟨rfl, c⟩, bS, bS, w32_a p (by omega)]
      obtain ⟨T', v1, v2⟩ := j60
      by_cases c1 : soN N w = 1
      · have en : nxW N w wh = 1 := by unfold nxW; rw [if_pos c1]
        rw [en] at v1 ⊢
        rw [show ((1 : Nat) : Int) = 1 from rfl] at v1
        rw [if_pos (show ((soN N w : Nat) : Int) = 1 by omega), v1]
        exact ⟨T', rfl, v2⟩
      · have en : nxW N w wh = wh := by unfold nxW; rw [if_neg c1]
        rw [en] at v1 ⊢
        rw [if_neg (show ¬ ((soN N w : Nat) : Int) = 1 by omega), v1]
        exact ⟨T', rfl, v2⟩
    · rw [if_neg (show ¬ ((seN N w &&& no : Nat) : Int) = 0 by omega), if_neg (fun q => c q.2)]
      exact ⟨T, rfl, KQ.rf T⟩
theorem least_m {law : Option (List Lin)} {N : Nat → Nat → Int} {yes no nW nP p a wh s : Nat} {T : Mem} (hN : NR N nW nP) (hM : OM N nW nP T) (hL : LM law T) (hyes : gI T 56 36 = (yes : Nat)) (hno : gI T 56 37 = (no : Nat)) (hy64 : yes < 64) (hn64 : no < 64) (hp : p ≤ 6) (ha : a < 4) (hwh : wh < 2) (hs : s < 64) (hn : p < 6 → okN law N yes no nW (p + 1) T) : ∃ T', g_X10_leastSay (p : Int) (a : Int) (wh : Int) (s : Int) T = some (((SB law N yes no nW (6 - p) a wh s : Nat) : Int), T') ∧ KQ T T' := by
  have nW12 := hN.1.1
  have loop : ∃ T', g_X10_leastSay_L29 (p : Int) (a : Int) (wh : Int) (s : Int) FU 9999999 0 T = some (((if p < 6 then minT (swB law N no p a wh s (SB law N yes no nW (6 - (p + 1)))) nW else 9999999 : Nat) : Int), T') ∧ KQ T T' := by
    by_cases hp6 : p < 6
    · rw [if_pos hp6]
      have key : ∀ (r w fu : Nat) (T : Mem), w + r = nW → r < fu → OM N nW nP T → LM law T → gI T 56 37 = (no : Nat) → okN law N yes no nW (p + 1) T → ∃ T', g_X10_leastSay_L29 (p : Int) (a : Int) (wh : Int) (s : Int) fu ((minT (swB law N no p a wh s (SB law N yes no nW (6 - (p + 1)))) w : Nat) : Int) (w : Int) T = some (((minT (swB law N no p a wh s (SB law N yes no nW (6 - (p + 1)))) nW : Nat) : Int), T') ∧ KQ T T' := by
        intro r
        induction r with
        | zero =>
          intro w fu T hw hf hM _ _ _
          obtain ⟨fu, rfl⟩ : ∃ k, fu = k + 1 := ⟨fu - 1, by omega⟩
          have hw : w = nW := hw
          rw [g_X10_leastSay_L29.eq_2, hM.1.1, if_pos (by omega), hw]
          exact ⟨T, rfl, KQ.rf T⟩
        | succ r ih =>
          intro w fu T hw hf hM hL hno hn
          obtain ⟨fu, rfl⟩ : ∃ k, fu = k + 1 := ⟨fu - 1, by omega⟩
          obtain ⟨T1, u1, u2⟩ := sayBy_m hN hM hL hno hn64 hp6 rfl ha hwh hs (show w < nW by omega) hn
          obtain ⟨T2, v1, v2⟩ := ih (w + 1) fu T1 (by omega) (by omega) (hM.v u2.v) (hL.v u2.v) (by rw [u2 56 (by decide) (by decide)]; exact hno) (okN_q hn u2)
          have em : minT (swB law N no p a wh s (SB law N yes no nW (6 - (p + 1)))) (w + 1) = min (minT (swB law N no p a wh s (SB law N yes no nW (6 - (p + 1)))) w) (swB law N no p a wh s (SB law N yes no nW (6 - (p + 1))) w) := rfl
          rw [em] at v1
          rw [g_X10_leastSay_L29.eq_2, hM.1.1, if_neg (show ¬ (nW : Int) ≤ (w : Int) by omega), if_neg (show ¬ (6 : Int) ≤ (p : Int) by omega), u1, bd2S, w32_a w (by omega)]
          generalize minT (swB law N no p a wh s (SB law N yes no nW (6 - (p + 1)))) w = A at *
          generalize swB law N no p a wh s (SB law N yes no nW (6 - (p + 1))) w = B at *
          by_cases c : A ≤ B
          · rw [show min A B = A by omega] at v1
            rw [if_pos (show (A : Int) ≤ (B : Int) by omega)]
            exact ⟨T2, v1, u2.tr v2⟩
          · rw [show min A B = B by omega] at v1
            rw [if_neg (show ¬ (A : Int) ≤ (B : Int) by omega)]
            exact ⟨T2, v1, u2.tr v2⟩
      exact key nW 0 FU T (Nat.zero_add _) (Nat.lt_of_le_of_lt nW12 (by unfold FU; decide)) hM hL hno (hn hp6)
    · rw [if_neg hp6, show FU = 99999 + 1 from rfl, g_X10_leastSay_L29.eq_2]
      by_cases c : (gI T 56 1) ≤ 0
      · rw [if_pos c]
        exact ⟨T, rfl, KQ.rf T⟩
      · rw [if_neg c, if_pos (show (6 : Int) ≤ (p : Int) by omega)]
        exact ⟨T, rfl, KQ.rf T⟩
  have eS : SB law N yes no nW (6 - p) a wh s = if wh = 1 ∧ s &&& yes = yes then 0 else (if p < 6 then minT (swB law N no p a wh s (SB law N yes no nW (6 - (p + 1)))) nW else 9999999) := by
    by_cases hp6 : p < 6
    · rw [if_pos hp6]
      obtain ⟨k, hk⟩ : ∃ k, 6 - (p + 1) = k := ⟨_, rfl⟩
      rw [hk, show 6 - p = k + 1 by omega]
      show (if wh = 1 ∧ s &&& yes = yes then 0 else minT (swB law N no (6 - (k + 1)) a wh s (SB law N yes no nW k)) nW) = _
      rw [show 6 - (k + 1) = p by omega]
    · rw [if_neg hp6, show 6 - p = 0 by omega]
      rfl
  obtain ⟨T', l1, l2⟩ := loop
  unfold g_X10_leastSay
  rw [hyes, oand (by omega), eS]
  by_cases c1 : wh = 1
  · rw [if_pos (show (wh : Int) = 1 by omega)]
    by_cases c2 : s &&& yes = yes
    · rw [if_pos (show ((s &&& yes : Nat) : Int) = (yes : Int) by omega), if_pos ⟨c1, c2⟩]
      exact ⟨T, rfl, KQ.rf T⟩
    · rw [if_neg (show ¬ ((s &&& yes : Nat) : Int) = (yes : Int) by omega), if_neg (fun q => c2 q.2), l1]
      exact ⟨T', rfl, l2⟩
  · rw [if_neg (show ¬ (wh : Int) = 1 by omega), if_neg (fun q => c1 q.1), l1]
    exact ⟨T', rfl, l2⟩
/-- the state while the table is laid -/
def KZ (T T' : Mem) : Prop := ∀ c, c ≠ 75 → c ≠ 76 → c ≠ 80 → gI T' c = gI T c
theorem KZ.rf (T : Mem) : KZ T T := fun _ _ _ _ => rfl
theorem KZ.tr {S S' S'' : Mem} (h : KZ S S') (g : KZ S' S'') : KZ S S'' := fun c h1 h2 h3 => (g c h1 h2 h3).trans (h c h1 h2 h3)
theorem OM.z {N : Nat → Nat → Int} {nW nP : Nat} {S S' : Mem} (h : OM N nW nP S) (k : KZ S S') : OM N nW nP S' := OM_of h (fun c hc => k c (by omega) (by omega) (by omega)) (by rw [k 56 (by decide) (by decide) (by decide)]) (by rw [k 56 (by decide) (by decide) (by decide)])
theorem LM.z {law : Option (List Lin)} {S S' : Mem} (h : LM law S) (k : KZ S S') : LM law S' := LM_of h (fun c hc => k c (by omega) (by omega) (by omega)) (by rw [k 56 (by decide) (by decide) (by decide)])
/-- what is laid so far: places from p1 on, and at p the cells below an index -/
def okU (law : Option (List Lin)) (N : Nat → Nat → Int) (yes no nW p e : Nat) (T : Mem) : Prop := ∀ p' a wh s, p' ≤ 6 → a < 4 → wh < 2 → s < 64 → (p < p' ∨ (p' = p ∧ 128 * a + 64 * wh + s < e)) → okY law N yes no nW p' a wh s T
def preY (law : Option (List Lin)) (N : Nat → Nat → Int) (yes no nW nP : Nat) (T : Mem) : Prop := OM N nW nP T ∧ LM law T ∧ gI T 56 36 = (yes : Nat) ∧ gI T 56 37 = (no : Nat)
theorem preY.z {law : Option (List Lin)} {N : Nat → Nat → Int} {yes no nW nP : Nat} {T T' : Mem} (h : preY law N yes no nW nP T) (k : KZ T T') : preY law N yes no nW nP T' := ⟨h.1.z k, h.2.1.z k, by rw [k 56 (by decide) (by decide) (by decide)]; exact h.2.2.1, by rw [k 56 (by decide) (by decide) (by decide)]; exact h.2.2.2⟩
theorem cell_m {law : Option (List Lin)} {N : Nat → Nat → Int} {yes no nW nP p a wh : Nat} {K : Mem → Option Mem} (hN : NR N nW nP) (hy64 : yes < 64) (hn64 : no < 64) (hp : p ≤ 6) (ha : a < 4) (hwh : wh < 2) : ∀ (r s fu : Nat) (T : Mem), s + r = 64 → r < fu → preY law N yes no nW nP T → okU law N yes no nW p (128 * a + 64 * wh + s) T → ∃ T', g_X10_findSay_L38 K (p : Int) (a : Int) (wh : Int) fu (s : Int) T = K T' ∧ KZ T T' ∧ okU law N yes no nW p (128 * a + 64 * wh + 64) T' := by
  intro r
  induction r with
  | zero =>
    intro s fu T hs hf hP hU
    obtain ⟨fu, rfl⟩ : ∃ k, fu = k + 1 := ⟨fu - 1, by omega⟩
    have hs : s = 64 := hs
    subst hs
    rw [g_X10_findSay_L38.eq_2, if_pos (by decide)]
    exact ⟨T, rfl, KZ.rf T, hU⟩
  | succ r ih =>
    intro s fu T hs hf hP hU
    obtain ⟨fu, rfl⟩ : ∃ k, fu = k + 1 := ⟨fu - 1, by omega⟩
    have hs64 : s < 64 := by omega
    have ix : 512 * p + 128 * a + 64 * wh + s < 3584 := by omega
    obtain ⟨T1, u1, u2⟩ := least_m hN hP.1 hP.2.1 hP.2.2.1 hP.2.2.2 hy64 hn64 hp ha hwh hs64 (fun h6 a' wh' s' h1 h2 h3 => hU (p + 1) a' wh' s' (by omega) h1 h2 h3 (Or.inl (Nat.lt_succ_self p)))
    have kz : KZ T (sI T1 80 (512 * p + 128 * a + 64 * wh + s) ((SB law N yes no nW (6 - p) a wh s : Nat) : Int)) := fun c h1 h2 h3 => by rw [gI_ne h3, u2 c h1 h2]
    have e80 : gI T1 80 = gI T 80 := u2 80 (by decide) (by decide)
    obtain ⟨T2, v1, v2, v3⟩ := ih (s + 1) fu _ (by omega) (by omega) (hP.z kz) (fun p' a' wh' s' h1 h2 h3 h4 h5 => by
      unfold okY
      by_cases e : p' = p ∧ a' = a ∧ wh' = wh ∧ s' = s
      · obtain ⟨rfl, rfl, rfl, rfl⟩ := e
        rw [gI_eq]
      · rw [gI_ek (by omega), e80]
        exact hU p' a' wh' s' h1 h2 h3 h4 (by omega))
    rw [g_X10_findSay_L38.eq_2, if_neg (show ¬ (64 : Int) ≤ (s : Int) by omega), u1, bd2S, sayAt_v hp ha hwh hs64, stk_c ix, bS, w32_a s (by omega), v1]
    exact ⟨T2, rfl, kz.tr v2, v3⟩
theorem whl_m {law : Option (List Lin)} {N : Nat → Nat → Int} {yes no nW nP p a : Nat} {K : Mem → Option Mem} (hN : NR N nW nP) (hy64 : yes < 64) (hn64 : no < 64) (hp : p ≤ 6) (ha : a < 4) : ∀ (r wh fu : Nat) (T : Mem), wh + r = 2 → r < fu → preY law N yes no nW nP T → okU law N yes no nW p (128 * a + 64 * wh) T → ∃ T', g_X10_findSay_L29 K (p : Int) (a : Int) fu (wh : Int) T = K T' ∧ KZ T T' ∧ okU law N yes no nW p (128 * a + 128) T' := by
  intro r
  induction r with
  | zero =>
    intro wh fu T hs hf hP hU
    obtain ⟨fu, rfl⟩ : ∃ k, fu = k + 1 := ⟨fu - 1, by omega⟩
    have hs : wh = 2 := hs
    subst hs
    rw [g_X10_findSay_L29.eq_2, if_pos (by decide)]
    exact ⟨T, rfl, KZ.rf T, hU⟩
  | succ r ih =>
    intro wh fu T hs hf hP hU
    obtain ⟨fu, rfl⟩ : ∃ k, fu = k + 1 := ⟨fu - 1, by omega⟩
    obtain ⟨T1, u1, u2, u3⟩ := cell_m (K := fun S6 => g_X10_findSay_L29 K (p : Int) (a : Int) fu ((wh + 1 : Nat) : Int) S6) hN hy64 hn64 hp ha (show wh < 2 by omega) 64 0 FU T rfl (by unfold FU; decide) hP hU
    obtain ⟨T2, v1, v2, v3⟩ := ih (wh + 1) fu T1 (by omega) (by omega) (hP.z u2) u3
    rw [show ((0 : Nat) : Int) = 0 from rfl] at u1
    rw [g_X10_findSay_L29.eq_2, if_neg (show ¬ (2 : Int) ≤ (wh : Int) by omega), w32_a wh (by omega), u1]
    try simp only []
    rw [v1]
    exact ⟨T2, rfl, u2.tr v2, v3⟩
theorem ahl_m {law : Option (List Lin)} {N : Nat → Nat → Int} {yes no nW nP p : Nat} {K : Mem → Option Mem} (hN : NR N nW nP) (hy64 : yes < 64) (hn64 : no < 64) (hp : p ≤ 6) : ∀ (r a fu : Nat) (T : Mem), a + r = 4 → r < fu → preY law N yes no nW nP T → okU law N yes no nW p (128 * a) T → ∃ T', g_X10_findSay_L20 K (p : Int) fu (a : Int) T = K T' ∧ KZ T T' ∧ okU law N yes no nW p 512 T' := by
  intro r
  induction r with
  | zero =>
    intro a fu T hs hf hP hU
    obtain ⟨fu, rfl⟩ : ∃ k, fu = k + 1 := ⟨fu - 1, by omega⟩
    have hs : a = 4 := hs
    subst hs
    rw [g_X10_findSay_L20.eq_2, if_pos (by decide)]
    exact ⟨T, rfl, KZ.rf T, hU⟩
  | succ r ih =>
    intro a fu T hs hf hP hU
    obtain ⟨fu, rfl⟩ : ∃ k, fu = k + 1 := ⟨fu - 1, by omega⟩
    obtain ⟨T1, u1, u2, u3⟩ := whl_m (K := fun S7 => g_X10_findSay_L20 K (p : Int) fu ((a + 1 : Nat) : Int) S7) hN hy64 hn64 hp (show a < 4 by omega) 2 0 FU T rfl (by unfold FU; decide) hP hU
    obtain ⟨T2, v1, v2, v3⟩ := ih (a + 1) fu T1 (by omega) (by omega) (hP.z u2) u3
    rw [show ((0 : Nat) : Int) = 0 from rfl] at u1
    rw [g_X10_findSay_L20.eq_2, if_neg (show ¬ (4 : Int) ≤ (a : Int) by omega), w32_a a (by omega), u1]
    try simp only []
    rw [v1]
    exact ⟨T2, rfl, u2.tr v2, v3⟩
theorem pll_m {law : Option (List Lin)} {N : Nat → Nat → Int} {yes no nW nP : Nat} (hN : NR N nW nP) (hy64 : yes < 64) (hn64 : no < 64) : ∀ (q fu : Nat) (T : Mem), q ≤ 7 → q < fu → preY law N yes no nW nP T → (∀ p a wh s, q ≤ p → p ≤ 6 → a < 4 → wh < 2 → s < 64 → okY law N yes no nW p a wh s T) → ∃ T', g_X10_findSay_L13 fu ((q : Int) - 1) T = some T' ∧ KZ T T' ∧ ∀ p a wh s, p ≤ 6 → a < 4 → wh < 2 → s < 64 → okY law N yes no nW p a wh s T' := by
  intro q
  induction q with
  | zero =>
    intro fu T _ hf hP hU
    obtain ⟨fu, rfl⟩ : ∃ k, fu = k + 1 := ⟨fu - 1, by omega⟩
    rw [g_X10_findSay_L13.eq_2, if_pos (by decide)]
    exact ⟨T, rfl, KZ.rf T, fun p a wh s h1 h2 h3 h4 => hU p a wh s (Nat.zero_le _) h1 h2 h3 h4⟩
  | succ q ih =>
    intro fu T hq hf hP hU
    obtain ⟨fu, rfl⟩ : ∃ k, fu = k + 1 := ⟨fu - 1, by omega⟩
    obtain ⟨T1, u1, u2, u3⟩ := ahl_m (K := fun S8 => g_X10_findSay_L13 fu ((q : Int) - 1) S8) hN hy64 hn64 (show q ≤ 6 by omega) 4 0 FU T rfl (by unfold FU; decide) hP (fun p' a wh s h1 h2 h3 h4 h5 => hU p' a wh s (by omega) h1 h2 h3 h4)
    obtain ⟨T2, v1, v2, v3⟩ := ih fu T1 (by omega) (by omega) (hP.z u2) (fun p a wh s h1 h2 h3 h4 h5 => u3 p a wh s h2 h3 h4 h5 (by omega))
    rw [show ((0 : Nat) : Int) = 0 from rfl] at u1
    rw [g_X10_findSay_L13.eq_2, show ((q + 1 : Nat) : Int) - 1 = (q : Int) by omega, if_neg (show ¬ (q : Int) < 0 by omega), w_p1 q (by omega), u1]
    try simp only []
    rw [v1]
    exact ⟨T2, rfl, u2.tr v2, v3⟩
theorem findSay_m {law : Option (List Lin)} {N : Nat → Nat → Int} {yes no nW nP : Nat} {T : Mem} (hN : NR N nW nP) (hM : OM N nW nP T) (hL : LM law T) (hy64 : yes < 64) (hn64 : no < 64) : ∃ T', g_X10_findSay (yes : Int) (no : Int) T = some T' ∧ KM T T' ∧ preY law N yes no nW nP T' ∧ ∀ p a wh s, p ≤ 6 → a < 4 → wh < 2 → s < 64 → okY law N yes no nW p a wh s T' := by
  have pre : preY law N yes no nW nP (sI (sI T 56 36 (yes : Int)) 56 37 (no : Int)) := ⟨OM_of hM (fun c hc => by rw [gI_ne (by omega), gI_ne (by omega)]) (by rw [gI_ek (by decide), gI_ek (by decide)]) (by rw [gI_ek (by decide), gI_ek (by decide)]), LM_of hL (fun c hc => by rw [gI_ne (by omega), gI_ne (by omega)]) (by rw [gI_ek (by decide), gI_ek (by decide)]), by rw [gI_ek (by decide), gI_eq], gI_eq⟩
  obtain ⟨T1, u1, u2, u3⟩ := pll_m hN hy64 hn64 7 FU (sI (sI T 56 36 (yes : Int)) 56 37 (no : Int)) (Nat.le_refl _) (by unfold FU; decide) pre (fun p a wh s h1 h2 _ _ _ => by omega)
  refine ⟨T1, ?_, ?_, pre.z u2, u3⟩
  · unfold g_X10_findSay
    simp only [ap]
    exact u1
  · refine ⟨fun c hc => ?_, fun k hk => ?_⟩
    · simp only [List.mem_cons, List.not_mem_nil, or_false, not_or] at hc
      obtain ⟨a1, a2, a3, a4, a5, a6, a7, -⟩ := hc
      rw [u2 c a2 a3 a7, gI_ne a1, gI_ne a1]
    · simp only [List.mem_cons, List.not_mem_nil, or_false, not_or] at hk
      rw [u2 56 (by decide) (by decide) (by decide), gI_ek hk.2.2.1, gI_ek hk.2.1]
