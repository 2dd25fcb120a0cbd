/-! THE PRICE OF A WORD, reference -/
def K76 (S S' : Mem) : Prop := ∀ c, c ≠ 76 → gI S' c = gI S c
def KQ (S S' : Mem) : Prop := ∀ c, c ≠ 75 → c ≠ 76 → gI S' c = gI S c
theorem KQ.rf (S : Mem) : KQ S S := fun _ _ _ => rfl
theorem KQ.tr {S S' S'' : Mem} (h : KQ S S') (g : KQ S' S'') : KQ S S'' := fun c h1 h2 => (g c h1 h2).trans (h c h1 h2)
theorem wm_hd {S : Mem} {n fu k e : Nat} {x : Int} (he : k < e) (h121 : e ≤ 121) (h70 : gI S 70 k = x) : g_X10_worked_L12 0 (e : Int) (fu + 1) (n : Int) (k : Int) S = if x = 1 then g_X10_worked_J45 (g_X10_worked_L12 0 (e : Int) fu) 0 (e : Int) (n : Int) (k : Int) x S else if x = 2 then g_X10_worked_J45 (g_X10_worked_L12 0 (e : Int) fu) 0 (e : Int) (n : Int) (k : Int) x S else if x = 3 then (ldk S 76 130 (w32 ((n : Int) - 1))).bind fun x15 => if x15 = 0 then (stk S 76 130 (w32 ((n : Int) - 1)) 1).bind fun S17 => g_X10_worked_L12 0 (e : Int) fu (n : Int) ((k + 1 : Nat) : Int) S17 else (stk S 76 130 (w32 ((n : Int) - 1)) 0).bind fun S16 => g_X10_worked_L12 0 (e : Int) fu (n : Int) ((k + 1 : Nat) : Int) S16 else if x = 4 then (ldk S 76 130 (w32 ((n : Int) - 1))).bind fun x13 => (stk S 76 130 (w32 ((n : Int) - 1)) (w32 (-x13))).bind fun S14 => g_X10_worked_L12 0 (e : Int) fu (n : Int) ((k + 1 : Nat) : Int) S14 else (ldk S 76 130 (w32 ((w32 ((n : Int) + (-1))) - 1))).bind fun x9 => (ldk S 76 130 (w32 ((n : Int) + (-1)))).bind fun x10 => (g_X10_twoOf x x9 x10).bind fun x11 => (stk S 76 130 (w32 ((w32 ((n : Int) + (-1))) - 1)) x11).bind fun S12 => g_X10_worked_L12 0 (e : Int) fu (w32 ((n : Int) + (-1))) ((k + 1 : Nat) : Int) S12 := by
  have e0 : w32 ((w32 (130 * 0)) + (e : Int)) = (e : Int) := by
    rw [show w32 (130 * 0) = 0 from rfl, Int.zero_add, w32s (by omega) (by omega)]
  have v1 : ¬ (e : Int) ≤ (k : Int) := by clear e0; omega
  rw [g_X10_worked_L12.eq_2, e0, if_neg v1, ldk_c (show k < 260 by clear e0; omega), bS, h70, w32_a k (by clear e0; omega)]
theorem wm_step {S : Mem} {st : List Int} {q : TSt} {fu k e d : Nat} (he : k < e) (h121 : e ≤ 121) (h70 : gI S 70 k = q.1) (h71 : gI S 71 k = q.2) (hq : okS q) (ht : Pl (gI S 76) st) (hl : st.length < 121) (hd : dp [q] st.length = some d) : ∃ S', g_X10_worked_L12 0 (e : Int) (fu + 1) (st.length : Int) (k : Int) S = g_X10_worked_L12 0 (e : Int) fu ((stp (gI S 75) q st).length : Int) ((k + 1 : Nat) : Int) S' ∧ Pl (gI S' 76) (stp (gI S 75) q st) ∧ K76 S S' := by
  have hk : k < 260 := by omega
  obtain ⟨o, x⟩ := q
  have h70 : gI S 70 k = o := h70
  rw [wm_hd he h121 h70]
  have h71 : gI S 71 k = x := h71
  have up : ∀ (v : Int) (r : List Int), r.length < 130 → Pl (gI S 76) r → Pl (gI (sI S 76 r.length v) 76) (v :: r) := fun v r hr p => ⟨gI_eq, Pl_c r (fun j hj => gI_ek (by omega)) p⟩
  rcases hq with ⟨h, h1, h2⟩ | ⟨h, h1, h2⟩ | h | h | h
  · have h : o = 1 := h
    subst h
    rw [if_pos rfl]
    unfold g_X10_worked_J45
    rw [if_pos rfl, ldk_c hk, bS, h71, stk_c (show st.length < 130 by omega), bS, w32_a _ (by omega), w32_a _ (by omega)]
    exact ⟨_, rfl, up x st (by omega) ht, fun c hc => gI_ne hc⟩
  · have h : o = 2 := h
    subst h
    obtain ⟨x, rfl⟩ := nat_of (show 0 ≤ x from h1)
    have h2 : (x : Int) < 6 := h2
    rw [if_neg (by decide), if_pos rfl]
    unfold g_X10_worked_J45
    rw [if_neg (by decide), ldk_c hk, bS, h71, ldk_c (show x < 6 by omega), bS, stk_c (show st.length < 130 by omega), bS, w32_a _ (by omega), w32_a _ (by omega)]
    exact ⟨_, rfl, up (gI S 75 x) st (by omega) ht, fun c hc => gI_ne hc⟩
  · have h : o = 3 := h
    subst h
    rw [if_neg (by decide), if_neg (by decide), if_pos rfl]
    cases st with
    | nil => cases hd
    | cons a r =>
      have hr : r.length < 120 := Nat.lt_of_succ_lt_succ hl
      have e1 : w32 (((a :: r).length : Int) - 1) = (r.length : Int) := w32_m _ (by omega)
      rw [e1, ldk_c (show r.length < 130 by omega), bS, ht.1]
      show ∃ S', _ = g_X10_worked_L12 0 (e : Int) fu (((if a = 0 then 1 else 0) :: r : List Int).length : Int) _ S' ∧ Pl (gI S' 76) ((if a = 0 then 1 else 0) :: r) ∧ _
      by_cases c : a = 0
      · rw [if_pos c, if_pos c, stk_c (show r.length < 130 by omega), bS]
        exact ⟨_, rfl, up 1 r (by omega) ht.2, fun c hc => gI_ne hc⟩
      · rw [if_neg c, if_neg c, stk_c (show r.length < 130 by omega), bS]
        exact ⟨_, rfl, up 0 r (by omega) ht.2, fun c hc => gI_ne hc⟩
  · have h : o = 4 := h
    subst h
    rw [if_neg (by decide), if_neg (by decide), if_neg (by decide), if_pos rfl]
    cases st with
    | nil => cases hd
    | cons a r =>
      have hr : r.length < 120 := Nat.lt_of_succ_lt_succ hl
      have e1 : w32 (((a :: r).length : Int) - 1) = (r.length : Int) := w32_m _ (by omega)
      rw [e1, ldk_c (show r.length < 130 by omega), bS, ht.1, stk_c (show r.length < 130 by omega), bS]
      exact ⟨_, rfl, up (w32 (-a)) r (by omega) ht.2, fun c hc => gI_ne hc⟩
  · have h : o ∈ ([43, 45, 42, 47, 37, 60, 61, 62, 38, 124] : List Int) := h
    have key : o ≠ 1 ∧ o ≠ 2 ∧ o ≠ 3 ∧ o ≠ 4 := by
      simp only [List.mem_cons, List.not_mem_nil, or_false] at h
      rcases h with rfl | rfl | rfl | rfl | rfl | rfl | rfl | rfl | rfl | rfl <;> exact ⟨by decide, by decide, by decide, by decide⟩
    obtain ⟨k1, k2, k3, k4⟩ := key
    rw [if_neg k1, if_neg k2, if_neg k3, if_neg k4]
    unfold dp at hd
    rw [if_neg (by rintro (z | z); (· exact k1 z); (· exact k2 z)), if_neg (by rintro (z | z); (· exact k3 z); (· exact k4 z))] at hd
    match st, ht, hl, hd with
    | [], _, _, hd => rw [if_neg (by decide)] at hd; cases hd
    | [a], _, _, hd => rw [if_neg (by show ¬ 2 ≤ 1; decide)] at hd; cases hd
    | a :: b :: r, ht, hl, _ =>
      have hr : r.length < 119 := Nat.lt_of_succ_lt_succ (Nat.lt_of_succ_lt_succ hl)
      have e1 : w32 (((a :: b :: r).length : Int) + (-1)) = ((r.length + 1 : Nat) : Int) := w32_m (r.length + 1) (by omega)
      have e2 : w32 (((r.length + 1 : Nat) : Int) - 1) = (r.length : Int) := w32_m _ (by omega)
      have l1 : r.length + 1 < 130 := by omega
      have l2 : r.length < 130 := by omega
      rw [e1, e2, ldk_c l2, bS, ldk_c l1, bS, show gI S 76 r.length = b from ht.2.1, show gI S 76 (r.length + 1) = a from ht.1, to_v o b a h, bS, stk_c l2, bS]
      have es : stp (gI S 75) (o, x) (a :: b :: r) = two o b a :: r := by
        unfold stp
        rw [if_neg k1, if_neg k2]
        show (if o = 3 then _ else if o = 4 then _ else _) = _
        rw [if_neg k3, if_neg k4]
      rw [es]
      exact ⟨_, rfl, up (two o b a) r l2 ht.2.2, fun c hc => gI_ne hc⟩
theorem wm_run {e : Nat} (h121 : e ≤ 121) : ∀ (es : List TSt) (S : Mem) (st : List Int) (fu k : Nat) {d : Nat}, k + es.length = e → At (gI S 70) k (es.map Prod.fst) → At (gI S 71) k (es.map Prod.snd) → (∀ q ∈ es, okS q) → Pl (gI S 76) st → st.length + es.length ≤ 121 → dp es st.length = some d → ∃ S', g_X10_worked_L12 0 (e : Int) (fu + 1 + es.length) (st.length : Int) (k : Int) S = some (gI S' 76 0, S') ∧ Pl (gI S' 76) (run (gI S 75) es st) ∧ K76 S S' := by
  intro es
  induction es with
  | nil =>
    intro S st fu k d hk _ _ _ ht _ _
    have hk : k = e := hk
    have e0 : w32 ((w32 (130 * 0)) + (e : Int)) = (e : Int) := by
      rw [show w32 (130 * 0) = 0 from rfl, Int.zero_add, w32s (by omega) (by omega)]
    have v1 : (e : Int) ≤ (k : Int) := by clear e0; omega
    rw [show fu + 1 + ([] : List TSt).length = fu + 1 from rfl, g_X10_worked_L12.eq_2, e0, if_pos v1]
    exact ⟨S, rfl, ht, fun _ _ => rfl⟩
  | cons q es ih =>
    intro S st fu k d hk h70 h71 hq ht hl hd
    obtain ⟨a1, a2⟩ := At_cons h70
    obtain ⟨b1, b2⟩ := At_cons h71
    obtain ⟨d1, d2, d3, d4⟩ := dp_cons hd
    have l1 : (q :: es).length = es.length + 1 := rfl
    rw [l1] at hk hl
    obtain ⟨S1, w1, w2, w3⟩ := wm_step (fu := fu + 1 + es.length) (e := e) (by omega) h121 a1 b1 (hq q (List.mem_cons_self ..)) ht (by omega) d2
    have l2 := stp_len (F := gI S 75) d2
    rw [← l2] at d3
    obtain ⟨S2, x1, x2, x3⟩ := ih S1 (stp (gI S 75) q st) fu (k + 1) (by omega) (by rw [w3 70 (by decide)]; exact a2) (by rw [w3 71 (by decide)]; exact b2) (fun q hx => hq q (List.mem_cons_of_mem _ hx)) w2 (by omega) d3
    refine ⟨S2, ?_, ?_, fun c hc => (x3 c hc).trans (w3 c hc)⟩
    · rw [l1, ← Nat.add_assoc, w1, x1]
    · rw [w3 75 (by decide)] at x2
      exact x2
/-- a part of a text, worked out -/
theorem wm_val {S : Mem} {k e : Nat} (es : List TSt) (h121 : e ≤ 121) (hk : k + es.length = e) (h70 : At (gI S 70) k (es.map Prod.fst)) (h71 : At (gI S 71) k (es.map Prod.snd)) (hw : WF es) : ∃ S', g_X10_worked 0 (k : Int) (e : Int) S = some (val (gI S 75) es, S') ∧ K76 S S' := by
  have e0 : w32 ((w32 (130 * 0)) + (k : Int)) = (k : Int) := by
    rw [show w32 (130 * 0) = 0 from rfl, Int.zero_add, w32s (by omega) (by omega)]
  unfold g_X10_worked
  simp only [ap]
  rw [e0]
  clear e0
  obtain ⟨S', a1, a2, a3⟩ := wm_run h121 es S [] (FU - 1 - es.length) k hk h70 h71 hw.1 trivial (by show 0 + es.length ≤ 121; omega) (hw.2 0)
  rw [show FU - 1 - es.length + 1 + es.length = FU by unfold FU; omega] at a1
  rw [run_val hw] at a2
  have a2 : gI S' 76 0 = val (gI S 75) es := a2.1
  rw [a2] at a1
  exact ⟨S', a1, a3⟩
theorem gives_m : ∀ (ls : List Lin) (S : Mem) (fu j i n : Nat), gI S 72 0 = (n : Nat) → n ≤ 61 → j + ls.length = n → At (gI S 70) i ((ls.flatMap stL).map Prod.fst) → At (gI S 71) i ((ls.flatMap stL).map Prod.snd) → At (gI S 73) j (endsT i ls) → At (gI S 74) j (endsL i ls) → i + (ls.flatMap stL).length ≤ 121 → (∀ l ∈ ls, okL l) → ∃ S', g_X10_gives_L7 (fun y8 S7 => (ldk S7 73 122 y8).bind fun x9 => (ldk S7 74 122 y8).bind fun x10 => bd2 (g_X10_worked 0 x9 x10 S7) fun x12 S11 => some (x12, S11)) 0 (fu + 1 + ls.length) (i : Int) (j : Int) S = some (evL (gI S 75) ls, S') ∧ K76 S S' := by
  intro ls
  induction ls with
  | nil =>
    intro S fu j i n hn h61 hj _ _ _ _ _ _
    have hj : j = n := hj
    have e0 : w32 ((w32 (61 * 0)) + (n : Int)) = (n : Int) := by
      rw [show w32 (61 * 0) = 0 from rfl, Int.zero_add, w32s (by omega) (by omega)]
    have v1 : (n : Int) ≤ (j : Int) := by clear e0; omega
    rw [show fu + 1 + ([] : List Lin).length = fu + 1 from rfl, g_X10_gives_L7.eq_2, show ldk S 72 2 0 = some (gI S 72 0) from ldk_c (k := 0) (by decide), bS, hn, e0, if_pos v1]
    exact ⟨S, rfl, fun _ _ => rfl⟩
  | cons l ls ih =>
    intro S fu j i n hn h61 hj h70 h71 h73 h74 hi hq
    have l1 : (l :: ls).length = ls.length + 1 := rfl
    rw [l1] at hj
    have e0 : w32 ((w32 (61 * 0)) + (n : Int)) = (n : Int) := by
      rw [show w32 (61 * 0) = 0 from rfl, Int.zero_add, w32s (by omega) (by omega)]
    have v1 : ¬ (n : Int) ≤ (j : Int) := by clear e0; omega
    have hj1 : j < 122 := by clear e0; omega
    rw [List.flatMap_cons, List.map_append] at h70 h71
    rw [List.flatMap_cons, List.length_append] at hi
    obtain ⟨p1, p2⟩ := At_app h70
    obtain ⟨s1, s2⟩ := At_app h71
    rw [List.length_map] at p2 s2
    obtain ⟨o1, o2⟩ := hq l (List.mem_cons_self ..)
    rw [l1, ← Nat.add_assoc, g_X10_gives_L7.eq_2, show ldk S 72 2 0 = some (gI S 72 0) from ldk_c (k := 0) (by decide), bS, hn, e0, if_neg v1, ldk_c hj1, bS, bS]
    clear e0
    have u1 : gI S 74 j = ((i + (stL l).length : Nat) : Int) := (At_cons h74).1
    have u2 : At (gI S 74) (j + 1) (endsL (i + (stL l).length) ls) := (At_cons h74).2
    have t2 : At (gI S 73) (j + 1) (endsT (i + (stL l).length) ls) := (At_cons h73).2
    obtain ⟨t, x⟩ := l
    cases t with
    | none =>
      have t1 : gI S 73 j = (i : Int) := (At_cons h73).1
      have hl : (stL (none, x)).length = x.length := rfl
      rw [hl] at hi u1
      rw [t1, if_pos rfl]
      try simp only []
      rw [ldk_c hj1, bS, u1]
      obtain ⟨S', a1, a2⟩ := wm_val (S := S) (k := i) (e := i + x.length) x (by omega) rfl p1 s1 o2
      rw [a1, bd2S]
      exact ⟨S', rfl, a2⟩
    | some t =>
      have t1 : gI S 73 j = ((i + t.length : Nat) : Int) := (At_cons h73).1
      have es : stL (some t, x) = t ++ x := rfl
      have hl : (stL (some t, x)).length = t.length + x.length := by rw [es, List.length_append]
      have hw := o1 t rfl
      have ht : 0 < t.length := by
        cases t with
        | nil => exact absurd (hw.2 0) (by intro z; cases z)
        | cons a r => exact Nat.succ_pos _
      have hne : ¬ ((i + t.length : Nat) : Int) = (i : Int) := by omega
      rw [hl] at hi u1 u2 t2 p2 s2
      rw [es, List.map_append] at p1 s1
      obtain ⟨pt, px⟩ := At_app p1
      obtain ⟨st, sx⟩ := At_app s1
      rw [List.length_map] at px sx
      rw [t1, if_neg hne, bS]
      obtain ⟨S1, a1, a2⟩ := wm_val (S := S) (k := i) (e := i + t.length) t (by omega) rfl pt st hw
      rw [a1, bd2S]
      show ∃ S', _ = some (if val (gI S 75) t = 0 then evL (gI S 75) ls else val (gI S 75) x, S') ∧ _
      by_cases c : val (gI S 75) t = 0
      · rw [if_pos c, if_pos c, ldk_c hj1, bS, a2 74 (by decide), u1, w32_a j (by omega)]
        obtain ⟨S2, b1, b2⟩ := ih S1 fu (j + 1) (i + (t.length + x.length)) n (by rw [a2 72 (by decide)]; exact hn) h61 (by omega) (by rw [a2 70 (by decide)]; exact p2) (by rw [a2 71 (by decide)]; exact s2) (by rw [a2 73 (by decide)]; exact t2) (by rw [a2 74 (by decide)]; exact u2) (by omega) (fun l hx => hq l (List.mem_cons_of_mem _ hx))
        rw [b1, a2 75 (by decide)]
        exact ⟨S2, rfl, fun c hc => (b2 c hc).trans (a2 c hc)⟩
      · rw [if_neg c, if_neg c]
        try simp only []
        rw [ldk_c hj1, bS, ldk_c hj1, bS, a2 73 (by decide), a2 74 (by decide), t1, u1]
        obtain ⟨S2, b1, b2⟩ := wm_val (S := S1) (k := i + t.length) (e := i + (t.length + x.length)) x (by omega) (by omega) (by rw [a2 70 (by decide)]; exact px) (by rw [a2 71 (by decide)]; exact sx) o2
        rw [b1, bd2S, a2 75 (by decide)]
        exact ⟨S2, rfl, fun c hc => (b2 c hc).trans (a2 c hc)⟩
theorem stsg : ∀ ls : List Lin, (ls.flatMap stL).length ≤ (sgs ls).length
  | [] => Nat.le_refl _
  | (t, x) :: ls => by
    have ih := stsg ls
    rw [sgs_cons, List.flatMap_cons, List.length_append, List.length_append]
    cases t with
    | none =>
      have e1 : (stL (none, x)).length = x.length := rfl
      have e2 : (sgL (none, x)).length = x.length + 1 := by simp [sgL]
      omega
    | some t =>
      have e1 : (stL (some t, x)).length = t.length + x.length := by show (t ++ x).length = _; rw [List.length_append]
      have e2 : (sgL (some t, x)).length = t.length + 1 + x.length + 1 := by simp [sgL]; omega
      omega
theorem clamp_m (x : Int) : (if 0 ≤ x then if x ≤ 99 then x else 99 else 0) = clamp x := by
  unfold clamp
  (repeat' split) <;> omega
theorem price_m {N : Nat → Nat → Int} {nW nP : Nat} {law : Option (List Lin)} {S : Mem} (hN : NR N nW nP) (hO : OM N nW nP S) (hL : LM law S) {w : Nat} (a p : Nat) (hw : w < nW) : ∃ S', g_X10_priceIn (w : Int) (a : Int) (p : Int) S = some (((prN law N w a p : Nat) : Int), S') ∧ KQ S S' := by
  have hw12 : w < 12 := by have := hN.1; omega
  have q0 : gI S 57 w = N 0 w := hO.2 0 w (by decide) hw
  have q2 : gI S 59 w = N 2 w := hO.2 2 w (by decide) hw
  have q7 : gI S 64 0 = N 7 0 := hO.2 7 0 (by decide) (show 0 < 1 by decide)
  have r0 := hN.2 0 w (by decide) hw
  have r0a : 1 ≤ N 0 w := r0.1
  have r0b : N 0 w ≤ 9 := r0.2
  rw [(prN_i hN hw).1]
  unfold g_X10_priceIn
  have ed := tdn (a := N 0 w) 2 (by omega)
  rw [q7, ldk_c hw12, bS, bS, q0, w32s (i := (N 0 w).tdiv 2) (by rw [ed]; omega) (by rw [ed]; omega)]
  have fin : ∀ s0 : Int, (0 ≤ s0 ∧ s0 ≤ 99) → (law = none → s0 = prS law (N 0 w) (N 2 w) (N 7 0) w a p) → ∃ S', g_X10_priceIn_J27 (w : Int) (a : Int) (p : Int) s0 S = some (prS law (N 0 w) (N 2 w) (N 7 0) w a p, S') ∧ KQ S S' := by
    intro s0 hs0 hs
    unfold g_X10_priceIn_J27
    cases law with
    | none =>
      have hL : gI S 56 30 = 0 := hL
      rw [if_pos hL, if_pos hs0.1, if_pos hs0.2, hs rfl]
      exact ⟨S, rfl, KQ.rf S⟩
    | some ls =>
      obtain ⟨a1, a2, a3, a4, a5, a6, a7, a8, a9⟩ := hL
      rw [a4, if_neg (by decide), ldk_c hw12, bS]
      simp only [ap]
      rw [ldk_c hw12, bS, gI_ne (c := 75) (c' := 59) (by decide), q0, q2]
      have e64 : gI (sI (sI (sI (sI S 75 0 (N 0 w)) 75 1 (N 2 w)) 75 2 (a : Int)) 75 3 (p : Int)) 64 0 = N 7 0 := by
        rw [gI_ne (by decide), gI_ne (by decide), gI_ne (by decide), gI_ne (by decide), q7]
      rw [e64]
      generalize hT : sI (sI (sI (sI (sI (sI S 75 0 (N 0 w)) 75 1 (N 2 w)) 75 2 (a : Int)) 75 3 (p : Int)) 75 4 (N 7 0)) 75 5 (w : Int) = T
      have f75 : ∀ k, k < 6 → gI T 75 k = fct (N 0 w) (N 2 w) a p (N 7 0) w k := by
        intro k hk
        rw [← hT]
        match k, hk with
        | 0, _ => rfl
        | 1, _ => rfl
        | 2, _ => rfl
        | 3, _ => rfl
        | 4, _ => rfl
        | 5, _ => rfl
      have kT : ∀ c, c ≠ 75 → gI T c = gI S c := fun c hc => by
        rw [← hT, gI_ne hc, gI_ne hc, gI_ne hc, gI_ne hc, gI_ne hc, gI_ne hc]
      have hs := stsg ls
      obtain ⟨S', b1, b2⟩ := gives_m ls T (FU - 1 - ls.length) 0 0 ls.length (by rw [kT 72 (by decide)]; exact a5) a3 (Nat.zero_add _) (by rw [kT 70 (by decide)]; exact a6) (by rw [kT 71 (by decide)]; exact a7) (by rw [kT 73 (by decide)]; exact a8) (by rw [kT 74 (by decide)]; exact a9) (by omega) a1
      rw [show FU - 1 - ls.length + 1 + ls.length = FU by unfold FU; omega] at b1
      unfold g_X10_gives
      rw [show w32 (61 * 0) = 0 from rfl]
      rw [show ((0 : Nat) : Int) = 0 from rfl] at b1
      rw [b1, bd2S]
      refine ⟨S', ?_, fun c h1 h2 => (b2 c h2).trans (kT c h1)⟩
      show _ = some (clamp (evL (fct (N 0 w) (N 2 w) a p (N 7 0) w) ls), S')
      rw [evL_c a1 f75, ← clamp_m]
      (repeat' split) <;> rfl
  by_cases c : N 7 0 = 1
  · rw [if_pos c]
    refine fin _ (by rw [ed]; omega) (fun z => ?_)
    subst z
    show _ = (if N 7 0 = 1 then _ else _)
    rw [if_pos c]
  · rw [if_neg c]
    refine fin _ (by omega) (fun z => ?_)
    subst z
    show _ = (if N 7 0 = 1 then _ else _)
    rw [if_neg c]
