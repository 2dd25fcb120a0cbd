/-! OF A TELEGRAM: JOINED, and wire() -/
theorem w_add (a b : Nat) (h : a + b ≤ 1000000) : w32 ((a : Int) + (b : Int)) = ((a + b : Nat) : Int) := by
  rw [w32s (by omega) (by omega)]
  omega
theorem w_s1 (k : Nat) (h : k ≤ 1000000) : w32 ((k : Int) - 1) = (k : Int) - 1 := w32s (by omega) (by omega)
theorem w_p1 (k : Nat) (h : k ≤ 1000000) : w32 ((k : Int) + (-1)) = (k : Int) - 1 := by
  rw [w32s (by omega) (by omega)]
  omega
theorem w_jn (p r d : Nat) (hp : p ≤ 5000) (hr : r ≤ 50) (hd : d ≤ 500) : w32 ((w32 (100 * (p : Int) + (r : Int) + (w32 ((d : Int) * 100)))) + 1) = 100 * ((p + d : Nat) : Int) + ((r + 1 : Nat) : Int) := by
  rw [w32s (i := (d : Int) * 100) (by omega) (by omega), w32s (i := 100 * (p : Int) + (r : Int) + (d : Int) * 100) (by omega) (by omega), w32s (by omega) (by omega)]
  omega
def lgN (N : Nat → Nat → Int) (w : Nat) : Nat := (N 3 w).toNat
theorem lgN_i {N : Nat → Nat → Int} {nW nP w : Nat} (hN : NR N nW nP) (hw : w < nW) : N 3 w = ((lgN N w : Nat) : Int) ∧ 1 ≤ lgN N w ∧ lgN N w ≤ 9 := by
  obtain ⟨a, b⟩ := hN.2 3 w (by decide) hw
  have a : 1 ≤ N 3 w := a
  have b : N 3 w ≤ 9 := b
  unfold lgN
  omega
def fmN (N : Nat → Nat → Int) : Nat := (N 9 0).toNat
theorem fmN_i {N : Nat → Nat → Int} {nW nP : Nat} (hN : NR N nW nP) : N 9 0 = ((fmN N : Nat) : Int) ∧ fmN N ≤ 20 := by
  obtain ⟨a, b⟩ := hN.2 9 0 (by decide) (show 0 < 1 by decide)
  have a : 1 ≤ N 9 0 := a
  have b : N 9 0 ≤ 20 := b
  unfold fmN
  omega
theorem max_j {a b : Nat} : g_J9_max_7cf53 (a : Int) (b : Int) = ((max a b : Nat) : Int) := by
  unfold g_J9_max_7cf53
  split <;> omega
/-- one turn of the class's inner loop -/
theorem jc_turn {N : Nat → Nat → Int} {nW nP : Nat} {law : Option (List Lin)} {ws : List Nat} {S : Mem} {kc : Int → Mem → Option (Int × Mem)} (hN : NR N nW nP) (hO : OC N nW nP S) (hT : TG nW S ws) (h32 : ∀ j, j < ws.length → gI S 32 j = ((pw law N ws j : Nat) : Int)) {k m fu L D : Nat} {B : Int} (hk : 1 ≤ k) (hkl : k ≤ ws.length) (hm : m < k) (hL : L ≤ 1000) : g_X8_joined_L46 kc ((fmN N : Nat) : Int) (k : Int) (fu + 1) (L : Int) (D : Int) B (m : Int) S = if L + lgN N (ws.getD m 0) ≤ fmN N ∨ m + 1 = k then g_X8_joined_L46 kc ((fmN N : Nat) : Int) (k : Int) fu ((L + lgN N (ws.getD m 0) : Nat) : Int) ((max D (pw law N ws m) : Nat) : Int) (g_J9_min_7cf53 B (w32 ((w32 (gI S 33 m + (w32 (((max D (pw law N ws m) : Nat) : Int) * 100)))) + 1))) ((m : Int) - 1) S else g_X8_joined_L46 kc ((fmN N : Nat) : Int) (k : Int) fu ((L + lgN N (ws.getD m 0) : Nat) : Int) ((max D (pw law N ws m) : Nat) : Int) B ((m : Int) - 1) S := by
  have h12 := hT.1.1
  have hw := hT.1.2 m (by omega)
  obtain ⟨l1, l2, l3⟩ := lgN_i hN hw
  have v3 := val_o hN hO (w := 3) (n := ws.getD m 0) (by decide) hw
  rw [show ((3 : Nat) : Int) = 3 from rfl, l1] at v3
  have n0 : ¬ (m : Int) < 0 := by omega
  have d12 : m < 12 := by omega
  have d13 : m < 13 := by omega
  rw [g_X8_joined_L46.eq_2, if_neg n0, ldk_c d12, bS, hT.2.2 m (by omega), v3, bS, ldk_c d12, bS, h32 m (by omega), w_add L _ (by omega), max_j, ldk_c d13, bS, w_s1 k (by omega), w_p1 m (by omega)]
  simp only [ap]
  by_cases c1 : L + lgN N (ws.getD m 0) ≤ fmN N
  · rw [if_pos (show ((L + lgN N (ws.getD m 0) : Nat) : Int) ≤ ((fmN N : Nat) : Int) by omega), if_pos (Or.inl c1)]
  · rw [if_neg (show ¬ ((L + lgN N (ws.getD m 0) : Nat) : Int) ≤ ((fmN N : Nat) : Int) by omega)]
    by_cases c2 : m + 1 = k
    · rw [if_pos (show (m : Int) = (k : Int) - 1 by omega), if_pos (Or.inr c2)]
    · rw [if_neg (show ¬ (m : Int) = (k : Int) - 1 by omega), if_neg (by omega)]
theorem jc_skip {N : Nat → Nat → Int} {nW nP : Nat} {law : Option (List Lin)} {ws : List Nat} {S : Mem} {kc : Int → Mem → Option (Int × Mem)} (hN : NR N nW nP) (hO : OC N nW nP S) (hT : TG nW S ws) (h32 : ∀ j, j < ws.length → gI S 32 j = ((pw law N ws j : Nat) : Int)) {k : Nat} {B : Int} (hk : 1 ≤ k) (hkl : k ≤ ws.length) : ∀ (m fu L D : Nat), m + 1 ≤ k → m < fu → fmN N < L → L + 9 * m ≤ 1000 → g_X8_joined_L46 kc ((fmN N : Nat) : Int) (k : Int) fu (L : Int) (D : Int) B ((m : Int) - 1) S = kc B S := by
  intro m
  induction m with
  | zero =>
    intro fu L D _ hf _ _
    obtain ⟨fu, rfl⟩ : ∃ k, fu = k + 1 := ⟨fu - 1, by omega⟩
    rw [g_X8_joined_L46.eq_2, if_pos (by decide)]
  | succ m ih =>
    intro fu L D hm hf hL hb
    obtain ⟨fu, rfl⟩ : ∃ k, fu = k + 1 := ⟨fu - 1, by omega⟩
    have hw := hT.1.2 m (by omega)
    obtain ⟨l1, l2, l3⟩ := lgN_i hN hw
    rw [show ((m + 1 : Nat) : Int) - 1 = (m : Int) by omega, jc_turn (law := law) hN hO hT h32 hk hkl (by omega) (by omega), if_neg (by omega)]
    exact ih fu _ _ (by omega) (by omega) (by omega) (by omega)
theorem w_jp (P R : Nat) (hP : P ≤ 5000) (hR : R ≤ 99) : w32 ((100 * (P : Int) + R).tdiv 100) = P := by
  rw [tdn 100 (by omega), w32s (by omega) (by omega)]
  omega
theorem w_jr (P R : Nat) (hR : R ≤ 99) : (100 * (P : Int) + R).tmod 100 = R := by
  rw [tmn 100 (by omega)]
  omega
def Up (T : Mem) (k p r : Nat) : Prop := ¬ gI T 78 k < (p : Int) ∧ ((p : Int) = gI T 78 k → ((r : Nat) : Int) < gI T 79 k)
theorem j100 {c : Int → Int → Int → Mem → Option Mem} {T : Mem} {k m L D p r : Nat} (hk : k < 13) (hm : m < 13) (h1 : gI T 78 m = (p : Nat)) (h2 : gI T 79 m = (r : Nat)) (hp : p + D ≤ 5000) (hr : r ≤ 13) : (Up T k (p + D) (r + 1) → g_X10_findJoined_J100 c (k : Int) (L : Int) (D : Int) (m : Int) T = c (L : Int) (D : Int) ((m : Int) - 1) (sI (sI T 78 k ((p + D : Nat) : Int)) 79 k ((r + 1 : Nat) : Int))) ∧ (¬ Up T k (p + D) (r + 1) → g_X10_findJoined_J100 c (k : Int) (L : Int) (D : Int) (m : Int) T = c (L : Int) (D : Int) ((m : Int) - 1) T) := by
  unfold g_X10_findJoined_J100 Up
  rw [ldk_c hm, bS, ldk_c hm, bS, ldk_c hk, bS, ldk_c hk, bS, bS, h1, h2, w_add p D (by omega), w_p1 m (by omega), w32_a r (by omega), stk_c hk, bS, stk_c hk, bS]
  refine ⟨fun h => ?_, fun h => ?_⟩
  · rw [if_neg h.1]
    by_cases c : ((p + D : Nat) : Int) = gI T 78 k
    · rw [if_pos c, if_pos (h.2 c)]
    · rw [if_neg c]
  · by_cases c1 : gI T 78 k < ((p + D : Nat) : Int)
    · rw [if_pos c1]
    · rw [if_neg c1]
      by_cases c : ((p + D : Nat) : Int) = gI T 78 k
      · rw [if_pos c, if_neg (fun q => h ⟨c1, fun _ => q⟩)]
      · exact absurd ⟨c1, fun q => absurd q c⟩ h
/-- so far both sides hold the same -/
def JJ (S T : Mem) (k : Nat) : Prop := ∀ j, j < k → ∃ P R : Nat, P ≤ 99 * j ∧ R ≤ j ∧ gI S 33 j = 100 * (P : Int) + R ∧ gI T 78 j = P ∧ gI T 79 j = R
def KJ (k : Nat) (T T' : Mem) : Prop := (∀ c, c ≠ 75 → c ≠ 76 → c ≠ 78 → c ≠ 79 → gI T' c = gI T c) ∧ ∀ j, j ≠ k → gI T' 78 j = gI T 78 j ∧ gI T' 79 j = gI T 79 j
theorem KJ.tr {k : Nat} {S S' S'' : Mem} (h : KJ k S S') (g : KJ k S' S'') : KJ k S S'' := ⟨fun c h1 h2 h3 h4 => (g.1 c h1 h2 h3 h4).trans (h.1 c h1 h2 h3 h4), fun j hj => ⟨(g.2 j hj).1.trans (h.2 j hj).1, (g.2 j hj).2.trans (h.2 j hj).2⟩⟩
theorem KQ.j {k : Nat} {T T' : Mem} (h : KQ T T') : KJ k T T' := ⟨fun c h1 h2 _ _ => h c h1 h2, fun j _ => ⟨by rw [h 78 (by decide) (by decide)], by rw [h 79 (by decide) (by decide)]⟩⟩
theorem JJ_of {S T T' : Mem} {k k' : Nat} (h : JJ S T k) (g : KJ k' T T') (hk : k ≤ k') : JJ S T' k := fun j hj => by
  obtain ⟨P, R, a1, a2, a3, a4, a5⟩ := h j hj
  exact ⟨P, R, a1, a2, a3, (g.2 j (by omega)).1.trans a4, (g.2 j (by omega)).2.trans a5⟩
/-- the reference's turn: letters, the dearest; then J79 -/
theorem jm_turn {N : Nat → Nat → Int} {nW nP : Nat} {law : Option (List Lin)} {ws : List Nat} {T : Mem} {km : Mem → Option Mem} (hN : NR N nW nP) (hO : OM N nW nP T) (hL : LM law T) (hT : TW nW T ws) {k m fu L D : Nat} (hkl : k ≤ ws.length) (hm : m < k) (hL' : L ≤ 1000) : ∃ T', KQ T T' ∧ g_X10_findJoined_L42 km km (k : Int) (fu + 1) (L : Int) (D : Int) (m : Int) T = g_X10_findJoined_J79 (g_X10_findJoined_L42 km km (k : Int) fu) km (k : Int) ((L + lgN N (ws.getD m 0) : Nat) : Int) ((max D (pw law N ws m) : Nat) : Int) (m : Int) T' := by
  have h12 := hT.1.1
  have hw := hT.1.2 m (by omega)
  obtain ⟨l1, l2, l3⟩ := lgN_i hN hw
  have hw12 : ws.getD m 0 < 12 := by have := hN.1; omega
  have v3 : gI T 60 (ws.getD m 0) = ((lgN N (ws.getD m 0) : Nat) : Int) := by rw [← l1]; exact hO.2 3 (ws.getD m 0) (by decide) hw
  have n0 : ¬ (m : Int) < 0 := by omega
  have hml : m < ws.length := by omega
  have hm12 : m < 12 := by omega
  obtain ⟨T1, p1, p2⟩ := priceAt_m (law := law) hN hO hL hT hml
  rw [g_X10_findJoined_L42.eq_2, if_neg n0, ldk_c hm12, bS, hT.2.2 m hml, ldk_c hw12, bS, v3, p1, bd2S, w_add L _ (by omega)]
  by_cases c : pw law N ws m ≤ D
  · rw [if_pos (by omega), show max D (pw law N ws m) = D by omega]
    exact ⟨T1, p2, rfl⟩
  · obtain ⟨T2, q1, q2⟩ := priceAt_m (law := law) hN (hO.v p2.v) (hL.v p2.v) (hT.v p2.v) hml
    rw [if_neg (by omega), q1, bd2S, show max D (pw law N ws m) = pw law N ws m by omega]
    exact ⟨T2, p2.tr q2, rfl⟩
theorem min_i {a b : Int} : g_J9_min_7cf53 a b = if b < a then b else a := rfl
theorem j_in {N : Nat → Nat → Int} {nW nP : Nat} {law : Option (List Lin)} {ws : List Nat} {S : Mem} {kc : Int → Mem → Option (Int × Mem)} {km : Mem → Option Mem} (hN : NR N nW nP) (hO : OC N nW nP S) (hT : TG nW S ws) (h32 : ∀ j, j < ws.length → gI S 32 j = ((pw law N ws j : Nat) : Int)) {k : Nat} (hk : 1 ≤ k) (hkl : k ≤ ws.length) : ∀ (m fu L D : Nat) (B : Int) (T : Mem), OM N nW nP T → LM law T → TW nW T ws → JJ S T k → m ≤ k → m < fu → L + 9 * m ≤ 1000 → D ≤ 99 → ((m = k ∧ B = 2147483647 ∧ gI T 78 k = 9999999) ∨ (m < k ∧ ∃ P R : Nat, P ≤ 99 * k ∧ R ≤ k ∧ B = 100 * (P : Int) + R ∧ gI T 78 k = P ∧ gI T 79 k = R)) → ∃ (T' : Mem) (P R : Nat), g_X8_joined_L46 kc ((fmN N : Nat) : Int) (k : Int) fu (L : Int) (D : Int) B ((m : Int) - 1) S = kc (100 * (P : Int) + R) S ∧ g_X10_findJoined_L42 km km (k : Int) fu (L : Int) (D : Int) ((m : Int) - 1) T = km T' ∧ P ≤ 99 * k ∧ R ≤ k ∧ gI T' 78 k = P ∧ gI T' 79 k = R ∧ KJ k T T' := by
  intro m
  induction m with
  | zero =>
    intro fu L D B T hOm hLm hTm hJ hmk hf hL hD hB
    obtain ⟨fu, rfl⟩ : ∃ k, fu = k + 1 := ⟨fu - 1, by omega⟩
    rcases hB with ⟨h1, -⟩ | ⟨h1, P, R, a1, a2, a3, a4, a5⟩
    · omega
    · refine ⟨T, P, R, ?_, ?_, a1, a2, a4, a5, fun _ _ _ _ _ => rfl, fun _ _ => ⟨rfl, rfl⟩⟩
      · rw [g_X8_joined_L46.eq_2, if_pos (by decide), a3]
      · rw [g_X10_findJoined_L42.eq_2, if_pos (by decide)]
  | succ m ih =>
    intro fu L D B T hOm hLm hTm hJ hmk hf hL hD hB
    obtain ⟨fu, rfl⟩ : ∃ k, fu = k + 1 := ⟨fu - 1, by omega⟩
    have h12 := hT.1.1
    have hw := hT.1.2 m (by omega)
    obtain ⟨l1, l2, l3⟩ := lgN_i hN hw
    have pr : pw law N ws m ≤ 99 := (prN_i (law := law) (a := ah N ws m) (p := m) hN hw).2
    obtain ⟨T1, q1, q2⟩ := jm_turn (law := law) (km := km) (fu := fu) (D := D) hN hOm hLm hTm hkl (show m < k by omega) (show L ≤ 1000 by omega)
    have j1 : KJ k T T1 := q1.j
    have e78 : gI T1 78 = gI T 78 := q1 78 (by decide) (by decide)
    have e79 : gI T1 79 = gI T 79 := q1 79 (by decide) (by decide)
    rw [show ((m + 1 : Nat) : Int) - 1 = (m : Int) by omega, jc_turn (law := law) hN hO hT h32 hk hkl (by omega) (by omega), q2]
    clear q2
    have hfm : gI T1 64 2 = ((fmN N : Nat) : Int) := by
      rw [← (fmN_i hN).1, q1 64 (by decide) (by decide)]
      exact hOm.2 9 0 (by decide) (show 0 < 1 by decide)
    generalize hl : L + lgN N (ws.getD m 0) = L'
    generalize hd : max D (pw law N ws m) = D'
    have hD' : D' ≤ 99 := by omega
    by_cases c : L' ≤ fmN N ∨ m + 1 = k
    · have eJ : g_X10_findJoined_J79 (g_X10_findJoined_L42 km km (k : Int) fu) km (k : Int) (L' : Int) (D' : Int) (m : Int) T1 = g_X10_findJoined_J100 (g_X10_findJoined_L42 km km (k : Int) fu) (k : Int) (L' : Int) (D' : Int) (m : Int) T1 := by
        unfold g_X10_findJoined_J79
        rw [hfm, w_s1 k (by omega)]
        by_cases c1 : L' ≤ fmN N
        · rw [if_pos (by omega)]
        · rw [if_neg (by omega), if_pos (by omega)]
      rw [eJ, if_pos c]
      clear eJ
      obtain ⟨p, r, u1, u2, u3, u4, u5⟩ := hJ m (by omega)
      rw [u3, w_jn p r D' (by omega) (by omega) (by omega)]
      obtain ⟨w1, w2⟩ := j100 (c := g_X10_findJoined_L42 km km (k : Int) fu) (T := T1) (k := k) (m := m) (L := L') (D := D') (p := p) (r := r) (by omega) (by omega) (by rw [e78]; exact u4) (by rw [e79]; exact u5) (by omega) (by omega)
      by_cases cu : Up T1 k (p + D') (r + 1)
      · rw [w1 cu]
        clear w1 w2
        have hB' : g_J9_min_7cf53 B (100 * ((p + D' : Nat) : Int) + ((r + 1 : Nat) : Int)) = 100 * ((p + D' : Nat) : Int) + ((r + 1 : Nat) : Int) := by
          rw [min_i]
          unfold Up at cu
          rw [e78, e79] at cu
          rcases hB with ⟨h1, h2, h3⟩ | ⟨h1, P, R, a1, a2, a3, a4, a5⟩
          · rw [if_pos (by omega)]
          · rw [a4, a5] at cu
            rw [a3]
            by_cases z : ((p + D' : Nat) : Int) = (P : Int)
            · have := cu.2 z
              rw [if_pos (by omega)]
            · rw [if_pos (by omega)]
        rw [hB']
        have j2 : KJ k T1 (sI (sI T1 78 k ((p + D' : Nat) : Int)) 79 k ((r + 1 : Nat) : Int)) := ⟨fun c h1 h2 h3 h4 => by rw [gI_ne h4, gI_ne h3], fun j hj => ⟨by rw [gI_ne (by decide), gI_ek hj], by rw [gI_ek hj, gI_ne (by decide)]⟩⟩
        have j3 := j1.tr j2
        have kv : KV T (sI (sI T1 78 k ((p + D' : Nat) : Int)) 79 k ((r + 1 : Nat) : Int)) := j3.1
        obtain ⟨T', P, R, b1, b2, b3, b4, b5, b6, b7⟩ := ih fu L' D' (100 * ((p + D' : Nat) : Int) + ((r + 1 : Nat) : Int)) _ (hOm.v kv) (hLm.v kv) (hTm.v kv) (JJ_of hJ j3 (Nat.le_refl _)) (by omega) (by omega) (by omega) hD' (Or.inr ⟨by omega, p + D', r + 1, by omega, by omega, rfl, by rw [gI_ne (by decide), gI_eq], gI_eq⟩)
        exact ⟨T', P, R, b1, b2, b3, b4, b5, b6, j3.tr b7⟩
      · rw [w2 cu]
        clear w1 w2
        rcases hB with ⟨h1, h2, h3⟩ | ⟨h1, P, R, a1, a2, a3, a4, a5⟩
        · refine absurd ⟨?_, fun z => ?_⟩ cu
          · rw [e78, h3]; omega
          · rw [e78, h3] at z; omega
        · have hB' : g_J9_min_7cf53 B (100 * ((p + D' : Nat) : Int) + ((r + 1 : Nat) : Int)) = B := by
            rw [min_i, a3, if_neg]
            intro q
            refine cu ⟨?_, fun z => ?_⟩
            · rw [e78, a4]; omega
            · rw [e78, a4] at z
              rw [e79, a5]
              omega
          rw [hB']
          have kv : KV T T1 := q1.v
          obtain ⟨T', P', R', b1, b2, b3, b4, b5, b6, b7⟩ := ih fu L' D' B T1 (hOm.v kv) (hLm.v kv) (hTm.v kv) (JJ_of hJ j1 (Nat.le_refl _)) (by omega) (by omega) (by omega) hD' (Or.inr ⟨by omega, P, R, a1, a2, a3, by rw [e78]; exact a4, by rw [e79]; exact a5⟩)
          exact ⟨T', P', R', b1, b2, b3, b4, b5, b6, j1.tr b7⟩
    · have eJ : g_X10_findJoined_J79 (g_X10_findJoined_L42 km km (k : Int) fu) km (k : Int) (L' : Int) (D' : Int) (m : Int) T1 = km T1 := by
        unfold g_X10_findJoined_J79
        rw [hfm, w_s1 k (by omega)]
        rw [if_neg (by omega), if_neg (by omega)]
      rw [eJ, if_neg c]
      clear eJ
      rcases hB with ⟨h1, -⟩ | ⟨h1, P, R, a1, a2, a3, a4, a5⟩
      · exact absurd (Or.inr h1) c
      · rw [jc_skip (law := law) hN hO hT h32 hk hkl m fu L' D' (by omega) (by omega) (by omega) (by omega), a3]
        exact ⟨T1, P, R, rfl, rfl, a1, a2, by rw [e78]; exact a4, by rw [e79]; exact a5, j1⟩
theorem j_out {N : Nat → Nat → Int} {nW nP : Nat} {law : Option (List Lin)} {ws : List Nat} {kc : Mem → Option (Int × Mem)} (hN : NR N nW nP) : ∀ (m k fu : Nat) (S T : Mem), OC N nW nP S → TG nW S ws → (∀ j, j < ws.length → gI S 32 j = ((pw law N ws j : Nat) : Int)) → OM N nW nP T → LM law T → TW nW T ws → JJ S T k → 1 ≤ k → k + m = ws.length + 1 → m < fu → ∃ S' T', g_X8_joined_L18 kc ((fmN N : Nat) : Int) fu (k : Int) S = kc S' ∧ g_X10_findJoined_L16 fu (k : Int) T = some T' ∧ JJ S' T' (ws.length + 1) ∧ KU S S' ∧ KV T T' := by
  intro m
  induction m with
  | zero =>
    intro k fu S T hO hG h32 hOm hLm hW hJ hk hkm hf
    obtain ⟨fu, rfl⟩ : ∃ k, fu = k + 1 := ⟨fu - 1, by omega⟩
    have hkm : k = ws.length + 1 := hkm
    refine ⟨S, T, ?_, ?_, by rw [← hkm]; exact hJ, KU.rf S, KV.rf T⟩
    · rw [g_X8_joined_L18.eq_2, hG.2.1, if_pos (by omega)]
    · rw [g_X10_findJoined_L16.eq_2, hW.2.1, if_pos (by omega)]
  | succ m ih =>
    intro k fu S T hO hG h32 hOm hLm hW hJ hk hkm hf
    obtain ⟨fu, rfl⟩ : ∃ k, fu = k + 1 := ⟨fu - 1, by omega⟩
    have h12 := hG.1.1
    have hk13 : k < 13 := by omega
    rw [g_X8_joined_L18.eq_2, hG.2.1, if_neg (by omega), if_neg (by omega), g_X10_findJoined_L16.eq_2, hW.2.1, if_neg (by omega), stk_c hk13, bS, w_s1 k (by omega), w32_a k (by omega)]
    have kv : KV T (sI T 78 k 9999999) := fun c _ _ h3 _ => gI_ne h3
    have hJ2 : JJ S (sI T 78 k 9999999) k := fun j hj => by
      obtain ⟨P, R, a1, a2, a3, a4, a5⟩ := hJ j hj
      exact ⟨P, R, a1, a2, a3, by rw [gI_ek (by omega)]; exact a4, by rw [gI_ne (by decide)]; exact a5⟩
    obtain ⟨T1, P, R, b1, b2, b3, b4, b5, b6, b7⟩ := j_in (law := law) (kc := fun y12 S11 => (stk S11 33 13 (k : Int) y12).bind fun S13 => g_X8_joined_L18 kc ((fmN N : Nat) : Int) fu ((k + 1 : Nat) : Int) S13) (km := fun S20 => g_X10_findJoined_L16 fu ((k + 1 : Nat) : Int) S20) hN hO hG h32 hk (show k ≤ ws.length by omega) k FU 0 0 2147483647 (sI T 78 k 9999999) (hOm.v kv) (hLm.v kv) (hW.v kv) hJ2 (Nat.le_refl _) (by unfold FU; omega) (by omega) (by decide) (Or.inl ⟨rfl, rfl, gI_eq⟩)
    rw [show ((0 : Nat) : Int) = 0 from rfl] at b1 b2
    rw [b1, b2]
    try simp only []
    rw [stk_c hk13, bS]
    have ku : KU S (sI S 33 k (100 * (P : Int) + R)) := ⟨fun c _ _ _ _ h5 => gI_ne h5, fun j _ => by rw [gI_ne (by decide)], fun c => rfl, by rw [gI_ek (by omega)]⟩
    have kv2 : KV T T1 := kv.tr b7.1
    obtain ⟨S', T', c1, c2, c3, c4, c5⟩ := ih (k + 1) fu (sI S 33 k (100 * (P : Int) + R)) T1 (hO.u ku) (hG.u ku) (fun j hj => by rw [gI_ne (by decide)]; exact h32 j hj) (hOm.v kv2) (hLm.v kv2) (hW.v kv2) (fun j hj => by
      by_cases e : j = k
      · subst e
        exact ⟨P, R, b3, b4, gI_eq, b5, b6⟩
      · obtain ⟨P', R', a1, a2, a3, a4, a5⟩ := hJ j (by omega)
        exact ⟨P', R', a1, a2, by rw [gI_ek e]; exact a3, by rw [(b7.2 j e).1, gI_ek e]; exact a4, by rw [(b7.2 j e).2, gI_ne (by decide)]; exact a5⟩) (by omega) (by omega) (by omega)
    exact ⟨S', T', c1, c2, c3, ku.tr c4, kv2.tr c5⟩
/-- both sides' least prices by runs together -/
theorem joined_v {N : Nat → Nat → Int} {nW nP : Nat} {law : Option (List Lin)} {ws : List Nat} {S T : Mem} (hN : NR N nW nP) (hO : OC N nW nP S) (hL : LC law S) (hG : TG nW S ws) (h33 : gI S 33 0 = 0) (hOm : OM N nW nP T) (hLm : LM law T) (hW : TW nW T ws) : ∃ (P R : Nat) (S' T' : Mem), P ≤ 2000 ∧ R ≤ 12 ∧ g_X8_joined S = some (100 * (P : Int) + R, S') ∧ KU S S' ∧ g_X10_findJoined T = some T' ∧ KV T T' ∧ gI T' 78 ws.length = P ∧ gI T' 79 ws.length = R := by
  have h12 := hG.1.1
  obtain ⟨S1, p1, p2, p3⟩ := costs_c hN hO hL hG
  have v9 := val_o hN (hO.u p2) (w := 9) (n := 0) (by decide) (show 0 < 1 by decide)
  rw [show ((9 : Nat) : Int) = 9 from rfl, show ((0 : Nat) : Int) = 0 from rfl, (fmN_i hN).1] at v9
  have kv : KV T (sI (sI T 78 0 0) 79 0 0) := fun c _ _ h3 h4 => by rw [gI_ne h4, gI_ne h3]
  obtain ⟨S', T', c1, c2, c3, c4, c5⟩ := j_out (law := law) (ws := ws) (kc := fun S14 => if (gI S14 30 5) < 0 then some (0, S14) else if 12 < (gI S14 30 5) then some (0, S14) else (ldk S14 33 13 (gI S14 30 5)).bind fun x15 => some (x15, S14)) hN ws.length 1 FU S1 (sI (sI T 78 0 0) 79 0 0) (hO.u p2) (hG.u p2) p3 (hOm.v kv) (hLm.v kv) (hW.v kv) (fun j hj => ⟨0, 0, by omega, by omega, by rw [show j = 0 by omega, p2.2.2.2, h33]; rfl, by rw [show j = 0 by omega]; rfl, by rw [show j = 0 by omega]; rfl⟩) (by decide) (by omega) (by unfold FU; omega)
  obtain ⟨P, R, a1, a2, a3, a4, a5⟩ := c3 ws.length (by omega)
  refine ⟨P, R, S', T', by omega, by omega, ?_, p2.tr c4, ?_, kv.tr c5, a4, a5⟩
  · unfold g_X8_joined
    rw [p1, bd2S, v9, bS]
    rw [show ((1 : Nat) : Int) = 1 from rfl] at c1
    rw [c1]
    try simp only []
    rw [((hG.u p2).u c4).2.1, if_neg (by omega), if_neg (by omega), ldk_c (show ws.length < 13 by omega), bS, a3]
  · unfold g_X10_findJoined
    simp only [ap]
    exact c2
theorem KC_tu {S S1 S2 : Mem} (h : KT S S1) (g : KU S1 S2) : KC S S2 := by
  refine ⟨fun c hc => ?_, fun k hk => ?_, fun c => (g.2.2.1 c).trans (h.2 c), by rw [g.2.2.2, h.1 33 (by decide) (by decide)]⟩
  · simp only [List.mem_cons, List.not_mem_nil, or_false, not_or] at hc
    obtain ⟨a1, a2, a3, a4, a5, a6, a7⟩ := hc
    rw [g.1 c a1 a2 a3 a6 a7, h.1 c a4 a5]
  · simp only [List.mem_cons, List.not_mem_nil, or_false, not_or] at hk
    rw [g.2.1 k hk.2.2, h.1 13 (by decide) (by decide)]
theorem KM_wv {S S1 S2 : Mem} (h : KW S S1) (g : KV S1 S2) : KM S S2 := by
  refine ⟨fun c hc => ?_, fun k hk => ?_⟩
  · simp only [List.mem_cons, List.not_mem_nil, or_false, not_or] at hc
    obtain ⟨a1, a2, a3, a4, a5, a6, a7⟩ := hc
    rw [g c a2 a3 a5 a6, h.1 c a1 a4]
  · simp only [List.mem_cons, List.not_mem_nil, or_false, not_or] at hk
    rw [g 56 (by decide) (by decide) (by decide) (by decide), h.2 k hk.1]
theorem OC.t {N : Nat → Nat → Int} {nW nP : Nat} {S S' : Mem} (h : OC N nW nP S) (k : KT S S') : OC N nW nP S' := OC_of h (fun c hc => k.1 c (by omega) (by omega)) (k.2 2) (k.2 23)
theorem LC.t {law : Option (List Lin)} {S S' : Mem} (h : LC law S) (k : KT S S') : LC law S' := LC_of h (by rw [k.1 13 (by decide) (by decide)]) (k.1 15 (by decide) (by decide)) (k.1 16 (by decide) (by decide)) (k.2 13)
theorem OM.w {N : Nat → Nat → Int} {nW nP : Nat} {S S' : Mem} (h : OM N nW nP S) (k : KW S S') : OM N nW nP S' := OM_of h (fun c hc => k.1 c (by omega) (by omega)) (k.2 1 (by decide)) (k.2 7 (by decide))
theorem LM.w {law : Option (List Lin)} {S S' : Mem} (h : LM law S) (k : KW S S') : LM law S' := LM_of h (fun c hc => k.1 c (by omega) (by omega)) (k.2 30 (by decide))
theorem Sim.ask {b b' nW nP nB : Nat} {law : Option (List Lin)} {Sc Sm S T : Mem} {r : Int} (h : Inv b nW nP nB law Sc Sm) (hc : KC Sc S) (hm : KM Sm T) (hb : b ≤ b') : Sim b' (some (r, S)) (some (r, T)) := ⟨r, S, T, rfl, rfl, nW, nP, nB, law, Inv_up (Inv_keep h hc hm) hb⟩
theorem m_wire {b : Nat} {Sc Sm : Mem} (h : IV b Sc Sm) (x y : Int) : Sim (b + 100) (g_X9_wire x y Sc) (g_X10_wire x y Sm) := by
  obtain ⟨nW, nP, nB, law, h⟩ := h
  have same : ∀ r, Sim (b + 100) (some (r, Sc)) (some (r, Sm)) := fun r => Sim.same ⟨nW, nP, nB, law, h⟩ (by omega)
  obtain ⟨hN, hO, hM, hL, hLm⟩ := ask_of h
  have h33 : gI Sc 33 0 = 0 := h.2.2.2.2.2.2.2.2.2.2.2
  unfold g_X9_wire g_X10_wire
  rw [btw, inn]
  rcases open_v h x with ⟨r, r0, r1, ⟨r2, r3⟩ | ⟨r2, r3, r4⟩⟩ | ⟨ws, S1, T1, s1, s2, s3, s4, s5, s6, s7, s8⟩
  · rw [r2, bS, i00, r1, bd2S, r3]
    have e : g_X9_wire_J18 y (-1) Sc = some (-1, Sc) := by unfold g_X9_wire_J18; rw [if_neg (by decide)]
    rw [e]
    split <;> exact same _
  · rw [r2, bS, i10, r1, bd2S, r4, bS, if_neg (show ¬ 0 ≤ r by omega)]
    have e : ∀ z : Int, z < 0 → g_X9_wire_J18 y z Sc = some (z, Sc) := fun z hz => by unfold g_X9_wire_J18; rw [if_neg (by omega)]
    rw [e _ (by decide), e _ r0]
    by_cases c : 0 ≤ y ∧ y ≤ 5
    · rw [if_pos c, i10, i10]; exact same _
    · rw [if_neg c, i00, i00]; exact same _
  · by_cases c : 0 ≤ y ∧ y ≤ 5
    · rw [if_pos c, i10, i10, s4, bS, i10, s5, bS, if_pos (by decide), s6, bS, s1, bd2S]
      have hO1 := hO.t s2
      have hL1 := hL.t s2
      have hM1 := hM.w s7
      have hLm1 := hLm.w s7
      obtain ⟨P, R, S2, T2, j1, j2, j3, j4, j5, j6, j7, j8⟩ := joined_v hN hO1 hL1 s3 (by rw [s2.1 33 (by decide) (by decide)]; exact h33) hM1 hLm1 s8
      have hM2 := hM1.v j6
      have hLm2 := hLm1.v j6
      have hW2 := s8.v j6
      have h12 := s3.1.1
      rw [j5, bS]
      unfold g_X9_wire_J18
      rw [if_pos rfl]
      have kU := KC_tu s2 (KU.rf S1)
      have kV := KM_wv s7 j6
      by_cases c0 : y = 0
      · obtain ⟨S3, a1, a2, a3⟩ := costs_c hN hO1 hL1 s3
        obtain ⟨T3, b1, b2⟩ := priceAll_m hN hM2 hLm2 hW2
        rw [if_pos c0, if_pos c0, a1, bd2S, b1, bd2S]
        exact Sim.ask h (KC_tu s2 a2) (KM_wv s7 (j6.tr b2.v)) (by omega)
      · rw [if_neg c0, if_neg c0]
        by_cases c1 : y = 1
        · rw [if_pos c1, if_pos c1]
          unfold g_X8_senseOf
          rw [s3.2.1, sense_c hN hO1 s3 (Nat.le_refl _), bS, bS, sense_m hN hM2 hW2, bS]
          exact Sim.ask h kU kV (by omega)
        · rw [if_neg c1, if_neg c1]
          by_cases c2 : y = 2
          · rw [if_pos c2, if_pos c2, right_c hN hO1 s3, bS, right_m hN hM2 hW2, bS]
            cases rgt (soN (nu Sc)) 3 ws
            · exact Sim.ask h kU kV (by omega)
            · exact Sim.ask h kU kV (by omega)
          · rw [if_neg c2, if_neg c2]
            by_cases c3 : y = 3
            · rw [if_pos c3, if_pos c3, s3.2.1, hW2.2.1]
              exact Sim.ask h kU kV (by omega)
            · rw [if_neg c3, if_neg c3]
              have l13 : ws.length < 13 := by omega
              by_cases c4 : y = 4
              · rw [if_pos c4, if_pos c4]
                unfold g_X8_joinedPrice
                rw [j3, bd2S, bd2S, w_jp P R (by omega) (by omega), hW2.2.1, ldk_c l13, bS, j7]
                exact Sim.ask h (KC_tu s2 j4) kV (by omega)
              · rw [if_neg c4, if_neg c4]
                unfold g_X8_joinedRuns
                rw [j3, bd2S, bd2S, w_jr P R (by omega), hW2.2.1, ldk_c l13, bS, j8]
                exact Sim.ask h (KC_tu s2 j4) kV (by omega)
    · rw [if_neg c, i00, i00, s4, bS, i10]
      have e : g_X9_wire_J18 y (-1) Sc = some (-1, Sc) := by unfold g_X9_wire_J18; rw [if_neg (by decide)]
      rw [e]
      exact same _
