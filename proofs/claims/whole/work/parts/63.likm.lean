/-! THE LIKELIEST, reference; cameAs() -/
def Mk (N : Nat → Nat → Int) (u : Nat → Nat → Nat) (nW n : Nat) : Nat → Nat → Nat
  | 0, a => if a = 1 ∨ a = 2 then 1 else 0
  | m + 1, a => maxT (fun w => if fol a (soN N w) then u (n - (m + 1)) w * Mk N u nW n m (soN N w) else 0) nW
theorem maxT_ext {f g : Nat → Nat} : ∀ n, (∀ i, i < n → f i = g i) → maxT f n = maxT g n
  | 0, _ => rfl
  | n + 1, h => by
    show max (maxT f n) (f n) = max (maxT g n) (g n)
    rw [maxT_ext n (fun i hi => h i (by omega)), h n (Nat.lt_succ_self n)]
theorem maxT_ge {f : Nat → Nat} {i : Nat} : ∀ n, i < n → f i ≤ maxT f n
  | 0, h => absurd h (Nat.not_lt_zero i)
  | n + 1, h => by
    show f i ≤ max (maxT f n) (f n)
    by_cases e : i = n
    · rw [e]; omega
    · have := maxT_ge (f := f) n (show i < n by omega)
      omega
theorem maxT_at {f : Nat → Nat} : ∀ n, 0 < maxT f n → ∃ i, i < n ∧ f i = maxT f n
  | 0, h => absurd h (Nat.lt_irrefl 0)
  | n + 1, h => by
    have h : 0 < max (maxT f n) (f n) := h
    by_cases c : maxT f n ≤ f n
    · exact ⟨n, Nat.lt_succ_self n, by show f n = max (maxT f n) (f n); omega⟩
    · obtain ⟨i, h1, h2⟩ := maxT_at (f := f) n (by omega)
      exact ⟨i, by omega, by show f i = max (maxT f n) (f n); omega⟩
theorem gMx_n {N : Nat → Nat → Int} {nW nP n : Nat} {f : Nat → Nat → Nat} (hN : NR N nW nP) : ∀ m a, a < 4 → gMx none N f nW n m a (2 * wh a) = Mk N f nW n m a
  | 0, a, _ => eNd_n a
  | m + 1, a, ha => maxT_ext nW (fun w hw => by
    have so3 := (soN_i hN hw).2
    show (if fol a (soN N w) then f (n - (m + 1)) w * gMx none N f nW n m (soN N w) (nk none N w (2 * wh a)) else 0) = (if fol a (soN N w) then f (n - (m + 1)) w * Mk N f nW n m (soN N w) else 0)
    cases hf : fol a (soN N w) with
    | false => rfl
    | true =>
      have e := nk_0 (bo := none) (sn := 0) ha so3 (by decide) hf
      rw [show 2 * wh a + 0 = 2 * wh a from rfl, show sBy none N w 0 = 0 from rfl, Nat.add_zero] at e
      rw [e, gMx_n hN m (soN N w) (by omega)])
theorem Mk_ge {N : Nat → Nat → Int} {nW n : Nat} {V : List Nat} : ∀ (s : List Nat) (a : Nat), s.length ≤ n → Vp nW (soN N) a s → pW N V (n - s.length) s ≤ Mk N (wtN N V) nW n s.length a
  | [], a, _, h => by
    show 1 ≤ (if a = 1 ∨ a = 2 then 1 else 0)
    rw [if_pos (show a = 1 ∨ a = 2 from h)]
    exact Nat.le_refl 1
  | w :: s, a, hl, ⟨h1, h2, h3⟩ => by
    have hl : s.length + 1 ≤ n := hl
    have ih := Mk_ge (V := V) (n := n) s (soN N w) (by omega) h3
    have g := maxT_ge (f := fun w => if fol a (soN N w) then wtN N V (n - (s.length + 1)) w * Mk N (wtN N V) nW n s.length (soN N w) else 0) nW h1
    show wtN N V (n - (s.length + 1)) w * pW N V (n - (s.length + 1) + 1) s ≤ maxT _ nW
    rw [show n - (s.length + 1) + 1 = n - s.length by omega]
    refine Nat.le_trans (Nat.mul_le_mul_left _ ih) ?_
    have e : (if fol a (soN N w) then wtN N V (n - (s.length + 1)) w * Mk N (wtN N V) nW n s.length (soN N w) else 0) = wtN N V (n - (s.length + 1)) w * Mk N (wtN N V) nW n s.length (soN N w) := if_pos h2
    rw [← e]
    exact g
theorem Mk_at {N : Nat → Nat → Int} {nW n : Nat} {V : List Nat} : ∀ (m a : Nat), m ≤ n → 0 < Mk N (wtN N V) nW n m a → ∃ s : List Nat, s.length = m ∧ Vp nW (soN N) a s ∧ pW N V (n - m) s = Mk N (wtN N V) nW n m a
  | 0, a, _, h => by
    have h : 0 < (if a = 1 ∨ a = 2 then 1 else 0) := h
    by_cases c : a = 1 ∨ a = 2
    · exact ⟨[], rfl, c, (if_pos c).symm⟩
    · rw [if_neg c] at h
      exact absurd h (Nat.lt_irrefl 0)
  | m + 1, a, hm, h => by
    obtain ⟨w, h1, h2⟩ := maxT_at nW h
    have h2 : (if fol a (soN N w) then wtN N V (n - (m + 1)) w * Mk N (wtN N V) nW n m (soN N w) else 0) = Mk N (wtN N V) nW n (m + 1) a := h2
    cases hf : fol a (soN N w) with
    | false =>
      rw [hf, if_neg (by decide)] at h2
      omega
    | true =>
      rw [hf, if_pos rfl] at h2
      have hp : 0 < Mk N (wtN N V) nW n m (soN N w) := by
        rcases Nat.eq_zero_or_pos (Mk N (wtN N V) nW n m (soN N w)) with z | z
        · rw [z, Nat.mul_zero] at h2
          omega
        · exact z
      obtain ⟨s, s1, s2, s3⟩ := Mk_at (V := V) (n := n) m (soN N w) (by omega) hp
      refine ⟨w :: s, by show s.length + 1 = m + 1; omega, ⟨h1, hf, s2⟩, ?_⟩
      show wtN N V (n - (m + 1)) w * pW N V (n - (m + 1) + 1) s = _
      rw [show n - (m + 1) + 1 = n - m by omega, s3, h2]
theorem pW_p {N : Nat → Nat → Int} {V : List Nat} : ∀ (p s : List Nat) (i : Nat), pW N V i (p ++ s) = pW N V i p * pW N V (i + p.length) s
  | [], s, i => by show pW N V i s = 1 * pW N V i s; rw [Nat.one_mul]
  | v :: p, s, i => by
    show wtN N V i v * pW N V (i + 1) (p ++ s) = wtN N V i v * pW N V (i + 1) p * pW N V (i + (p.length + 1)) s
    rw [pW_p p s (i + 1), Nat.mul_assoc, show i + 1 + p.length = i + (p.length + 1) by omega]
theorem Vp_p {nW : Nat} {so : Nat → Nat} : ∀ (p s : List Nat) (a c : Nat), chn nW so a p c → Vp nW so c s → Vp nW so a (p ++ s)
  | [], _, _, _, h1, h2 => by have h1 : _ = _ := h1; rw [h1]; exact h2
  | v :: p, s, a, c, ⟨h1, h2, h3⟩, h4 => ⟨h1, h2, Vp_p p s _ c h3 h4⟩
theorem take_s {t : List Nat} {p : Nat} (h : p < t.length) : t.take (p + 1) = t.take p ++ [t.getD p 0] := by
  rw [List.take_add_one, List.getElem?_eq_getElem h, List.getD_eq_getElem?_getD, List.getElem?_eq_getElem h]
  rfl
/-- at each place of a right one -/
theorem at_p {N : Nat → Nat → Int} {nW : Nat} {t : List Nat} (h : Vp nW (soN N) 3 t) : ∀ p, p ≤ t.length → chn nW (soN N) 3 (t.take p) (ah N t p) ∧ Vp nW (soN N) (ah N t p) (t.drop p)
  | 0, _ => ⟨rfl, h⟩
  | p + 1, hp => by
    obtain ⟨h1, h2⟩ := at_p h p (by omega)
    rw [drop_s hp] at h2
    obtain ⟨g1, g2, g3⟩ := h2
    rw [take_s hp, ah_s]
    exact ⟨(chn_a _ 3).mpr ⟨_, h1, g1, g2, rfl⟩, g3⟩
theorem best_p {N : Nat → Nat → Int} {nW n : Nat} {V t : List Nat} (hn : t.length = n) (h : Vp nW (soN N) 3 t) (ho : pW N V 0 t = Mk N (wtN N V) nW n n 3) (h0 : 0 < Mk N (wtN N V) nW n n 3) : ∀ p, p ≤ n → pW N V p (t.drop p) = Mk N (wtN N V) nW n (n - p) (ah N t p) ∧ 0 < Mk N (wtN N V) nW n (n - p) (ah N t p)
  | 0, _ => ⟨ho, h0⟩
  | p + 1, hp => by
    obtain ⟨h1, h2⟩ := best_p hn h ho h0 p (by omega)
    have hpt : p < t.length := by omega
    obtain ⟨-, g⟩ := at_p h p (by omega)
    rw [drop_s hpt] at g h1
    obtain ⟨g1, g2, g3⟩ := g
    have hl : (t.drop (p + 1)).length = n - (p + 1) := by rw [List.length_drop]; omega
    have ge := Mk_ge (V := V) (n := n) (t.drop (p + 1)) (soN N (t.getD p 0)) (by omega) g3
    rw [hl, show n - (n - (p + 1)) = p + 1 by omega] at ge
    have mx := maxT_ge (f := fun w => if fol (ah N t p) (soN N w) then wtN N V (n - (n - (p + 1) + 1)) w * Mk N (wtN N V) nW n (n - (p + 1)) (soN N w) else 0) nW g1
    have mx : (if fol (ah N t p) (soN N (t.getD p 0)) then wtN N V (n - (n - (p + 1) + 1)) (t.getD p 0) * Mk N (wtN N V) nW n (n - (p + 1)) (soN N (t.getD p 0)) else 0) ≤ Mk N (wtN N V) nW n (n - (p + 1) + 1) (ah N t p) := mx
    rw [if_pos g2, show n - (n - (p + 1) + 1) = p by omega, show n - (p + 1) + 1 = n - p by omega] at mx
    have h1 : wtN N V p (t.getD p 0) * pW N V (p + 1) (t.drop (p + 1)) = Mk N (wtN N V) nW n (n - p) (ah N t p) := h1
    rw [ah_s]
    have wp : 0 < wtN N V p (t.getD p 0) := by
      rcases Nat.eq_zero_or_pos (wtN N V p (t.getD p 0)) with z | z
      · rw [z, Nat.zero_mul] at h1; omega
      · exact z
    have e : wtN N V p (t.getD p 0) * pW N V (p + 1) (t.drop (p + 1)) = wtN N V p (t.getD p 0) * Mk N (wtN N V) nW n (n - (p + 1)) (soN N (t.getD p 0)) := Nat.le_antisymm (Nat.mul_le_mul_left _ ge) (by rw [h1]; exact mx)
    have e2 := Nat.eq_of_mul_eq_mul_left wp e
    refine ⟨e2, ?_⟩
    rcases Nat.eq_zero_or_pos (Mk N (wtN N V) nW n (n - (p + 1)) (soN N (t.getD p 0))) with z | z
    · rw [e, z, Nat.mul_zero] at h1; omega
    · exact z
/-- no lesser word does as well -/
theorem no_less {N : Nat → Nat → Int} {nW n p w : Nat} {V t : List Nat} (hW : nW ≤ 12) (hn : t.length = n) (h : Vp nW (soN N) 3 t) (ho : pW N V 0 t = Mk N (wtN N V) nW n n 3) (h0 : 0 < Mk N (wtN N V) nW n n 3) (hm : ∀ t', t'.length = n → Vp nW (soN N) 3 t' → pW N V 0 t' = Mk N (wtN N V) nW n n 3 → wds 0 t ≤ wds 0 t') (hp : p < n) (hw : w < t.getD p 0) (hwW : w < nW) (hf : fol (ah N t p) (soN N w) = true) : ¬ wtN N V p w * Mk N (wtN N V) nW n (n - (p + 1)) (soN N w) = Mk N (wtN N V) nW n (n - p) (ah N t p) := by
  intro q
  obtain ⟨b1, b2⟩ := best_p hn h ho h0 p (by omega)
  have hpt : p < t.length := by omega
  obtain ⟨c1, c2⟩ := at_p h p (by omega)
  have mp : 0 < Mk N (wtN N V) nW n (n - (p + 1)) (soN N w) := by
    rcases Nat.eq_zero_or_pos (Mk N (wtN N V) nW n (n - (p + 1)) (soN N w)) with z | z
    · rw [z, Nat.mul_zero] at q; omega
    · exact z
  obtain ⟨s, s1, s2, s3⟩ := Mk_at (V := V) (n := n) (n - (p + 1)) (soN N w) (by omega) mp
  rw [show n - (n - (p + 1)) = p + 1 by omega] at s3
  have lt : (t.take p).length = p := by rw [List.length_take]; omega
  have e1 : t = t.take p ++ t.getD p 0 :: t.drop (p + 1) := by rw [← drop_s hpt, List.take_append_drop]
  have hl : (t.drop (p + 1)).length = n - (p + 1) := by rw [List.length_drop]; omega
  have len : (t.take p ++ w :: s).length = n := by
    rw [List.length_append, lt]
    show p + (s.length + 1) = n
    omega
  have vp : Vp nW (soN N) 3 (t.take p ++ w :: s) := Vp_p _ _ 3 _ c1 ⟨hwW, hf, s2⟩
  have pr : pW N V 0 (t.take p ++ w :: s) = Mk N (wtN N V) nW n n 3 := by
    rw [pW_p, lt, Nat.zero_add]
    show pW N V 0 (t.take p) * (wtN N V p w * pW N V (p + 1) s) = _
    rw [s3, q, ← b1, ← ho]
    have e2 : pW N V 0 t = pW N V 0 (t.take p ++ t.drop p) := by rw [List.take_append_drop]
    rw [e2, pW_p, lt, Nat.zero_add]
  have h1 := hm _ len vp pr
  have h2 := wds_less (p := t.take p) (s := s) (s' := t.drop (p + 1)) (by rw [s1, hl]) hw (fun v hv => by have := Vp_w s2 v hv; omega)
  rw [← e1] at h2
  omega
/-- the reference's word at a place -/
theorem pick_m {N : Nat → Nat → Int} {nW nP p a w0 : Nat} {V : List Nat} {T : Mem} {K : Int → Mem → Option (Int × Mem)} {k : Int} (hN : NR N nW nP) (hM : OM N nW nP T) (h6 : V.length ≤ 6) (hT : TW nW T V) (hb : gI T 56 44 = biI none) (hp : p < V.length) (ha : a < 4) (ht : ∀ p a k, p ≤ V.length → a < 4 → k < 4 → okC none N V nW p a k T) (hw0 : w0 < nW) (hf0 : fol a (soN N w0) = true) (he : wtN N V p w0 * Mk N (wtN N V) nW V.length (V.length - (p + 1)) (soN N w0) = Mk N (wtN N V) nW V.length (V.length - p) a) (hno : ∀ w, w < w0 → fol a (soN N w) = true → ¬ wtN N V p w * Mk N (wtN N V) nW V.length (V.length - (p + 1)) (soN N w) = Mk N (wtN N V) nW V.length (V.length - p) a) : ∀ (r w fu : Nat), w + r = w0 → r < fu → g_X10_cameAs_L82 K k (a : Int) ((wh a : Nat) : Int) (p : Int) fu (w : Int) T = K (w0 : Int) T := by
  have nW12 := hN.1.1
  have wa : wh a < 2 := by unfold wh; split <;> omega
  have p12 : p < 12 := by omega
  intro r
  induction r with
  | zero =>
    intro w fu hw hf
    obtain ⟨fu, rfl⟩ : ∃ k, fu = k + 1 := ⟨fu - 1, by omega⟩
    have hw : w = w0 := hw
    subst hw
    have w12 : w < 12 := by omega
    have m2 : gI T 59 w = ((soN N w : Nat) : Int) := by rw [← (soN_i hN hw0).1]; exact hM.2 2 _ (by decide) hw0
    have so3 := (soN_i hN hw0).2
    have nx := next_m (p := p) (k := 2 * wh a) hN hM hw0 hb (fun b h => by cases h) (by omega) (by omega)
    have e := nk_0 (bo := none) (sn := 0) ha so3 (by decide) hf0
    rw [show 2 * wh a + 0 = 2 * wh a from rfl, show sBy none N w 0 = 0 from rfl, Nat.add_zero] at e
    rw [e, show 2 * wh a / 2 = wh a by omega, show 2 * wh a % 2 = 0 by omega, show ((0 : Nat) : Int) = 0 from rfl] at nx
    have c1 := (ht (p + 1) (soN N w) (2 * wh (soN N w)) (by omega) (by omega) (by have : wh (soN N w) < 2 := (by unfold wh; split <;> omega); omega)).2.2
    have c2 := (ht p a (2 * wh a) (by omega) ha (by omega)).2.2
    rw [gMx_n hN _ _ (by omega)] at c1
    rw [gMx_n hN _ _ ha] at c2
    have i1 : 16 * (p + 1) + 4 * soN N w + 2 * wh (soN N w) < 112 := by have : wh (soN N w) < 2 := (by unfold wh; split <;> omega); omega
    have i2 : 16 * p + 4 * a + 2 * wh a < 112 := by omega
    have bm := gMx_le (bo := none) (N := N) (nW := nW) (n := V.length) (fun i w => wtN_le (i := i) (w := w) (V := V) hN) (V.length - (p + 1)) (soN N w) (2 * wh (soN N w))
    rw [gMx_n hN _ _ (by omega)] at bm
    have b5 := (p5 (show V.length - (p + 1) ≤ 5 by omega)).2
    have zz := Nat.mul_le_mul (wtN_le (i := p) (w := w) (V := V) hN) (Nat.le_trans bm b5)
    have ea : g_X10_errAt (p : Int) (a : Int) ((wh a : Nat) : Int) 0 = ((16 * p + 4 * a + 2 * wh a : Nat) : Int) := by
      rw [show (0 : Int) = ((0 : Nat) : Int) from rfl, errAt_v (by omega) ha wa (by decide)]
      rfl
    rw [g_X10_cameAs_L82.eq_2, ldk_c w12, bS, m2, fol_m a ha _ so3, hf0, bT, i10, ldk_c p12, bS, hT.2.2 p hp, wt_m hN hM hw0, bS, nx, bS, ldk_c i1, bS, ea, ldk_c i2, bS, c1, c2]
    clear ea
    rw [m64' (Nat.le_trans zz (by decide)), he, lcm_n, if_neg (Nat.lt_irrefl _), if_pos rfl, i00]
  | succ r ih =>
    intro w fu hw hf
    obtain ⟨fu, rfl⟩ : ∃ k, fu = k + 1 := ⟨fu - 1, by omega⟩
    have hwW : w < nW := by omega
    have w12 : w < 12 := by omega
    have m2 : gI T 59 w = ((soN N w : Nat) : Int) := by rw [← (soN_i hN hwW).1]; exact hM.2 2 _ (by decide) hwW
    have so3 := (soN_i hN hwW).2
    have i0 := ih (w + 1) fu (by omega) (by omega)
    rw [g_X10_cameAs_L82.eq_2, ldk_c w12, bS, m2, fol_m a ha _ so3, w32_a w (by omega)]
    cases hf' : fol a (soN N w) with
    | false =>
      rw [bF, i00]
      exact i0
    | true =>
      have hne := hno w (by omega) hf'
      have nx := next_m (p := p) (k := 2 * wh a) hN hM hwW hb (fun b h => by cases h) (by omega) (by omega)
      have e := nk_0 (bo := none) (sn := 0) ha so3 (by decide) hf'
      rw [show 2 * wh a + 0 = 2 * wh a from rfl, show sBy none N w 0 = 0 from rfl, Nat.add_zero] at e
      rw [e, show 2 * wh a / 2 = wh a by omega, show 2 * wh a % 2 = 0 by omega, show ((0 : Nat) : Int) = 0 from rfl] at nx
      have c1 := (ht (p + 1) (soN N w) (2 * wh (soN N w)) (by omega) (by omega) (by have : wh (soN N w) < 2 := (by unfold wh; split <;> omega); omega)).2.2
      have c2 := (ht p a (2 * wh a) (by omega) ha (by omega)).2.2
      rw [gMx_n hN _ _ (by omega)] at c1
      rw [gMx_n hN _ _ ha] at c2
      have i1 : 16 * (p + 1) + 4 * soN N w + 2 * wh (soN N w) < 112 := by have : wh (soN N w) < 2 := (by unfold wh; split <;> omega); omega
      have i2 : 16 * p + 4 * a + 2 * wh a < 112 := by omega
      have bm := gMx_le (bo := none) (N := N) (nW := nW) (n := V.length) (fun i w => wtN_le (i := i) (w := w) (V := V) hN) (V.length - (p + 1)) (soN N w) (2 * wh (soN N w))
      rw [gMx_n hN _ _ (by omega)] at bm
      have b5 := (p5 (show V.length - (p + 1) ≤ 5 by omega)).2
      have zz := Nat.mul_le_mul (wtN_le (i := p) (w := w) (V := V) hN) (Nat.le_trans bm b5)
      have ea : g_X10_errAt (p : Int) (a : Int) ((wh a : Nat) : Int) 0 = ((16 * p + 4 * a + 2 * wh a : Nat) : Int) := by
        rw [show (0 : Int) = ((0 : Nat) : Int) from rfl, errAt_v (by omega) ha wa (by decide)]
        rfl
      rw [bT, i10, ldk_c p12, bS, hT.2.2 p hp, wt_m hN hM hwW, bS, nx, bS, ldk_c i1, bS, ea, ldk_c i2, bS, c1, c2]
      clear ea
      rw [m64' (Nat.le_trans zz (by decide)), lcm_n]
      generalize wtN N V p w * Mk N (wtN N V) nW V.length (V.length - (p + 1)) (soN N w) = A at *
      generalize Mk N (wtN N V) nW V.length (V.length - p) a = B at *
      by_cases c : A < B
      · rw [if_pos c, if_neg (show ¬ (-1 : Int) = 0 by decide)]
        exact i0
      · rw [if_neg c, if_neg hne, i10]
        exact i0
theorem walk_m {N : Nat → Nat → Int} {nW nP k : Nat} {V t : List Nat} {T : Mem} (hN : NR N nW nP) (hM : OM N nW nP T) (h6 : V.length ≤ 6) (hT : TW nW T V) (hb : gI T 56 44 = biI none) (ht : ∀ p a k, p ≤ V.length → a < 4 → k < 4 → okC none N V nW p a k T) (hn : t.length = V.length) (h : Vp nW (soN N) 3 t) (ho : pW N V 0 t = Mk N (wtN N V) nW V.length V.length 3) (h0 : 0 < Mk N (wtN N V) nW V.length V.length 3) (hm : ∀ t', t'.length = V.length → Vp nW (soN N) 3 t' → pW N V 0 t' = Mk N (wtN N V) nW V.length V.length 3 → wds 0 t ≤ wds 0 t') (hk : k < V.length) : ∀ (r p fu : Nat), p + r = k → r < fu → g_X10_cameAs_L73 (k : Int) fu ((ah N t p : Nat) : Int) ((wh (ah N t p) : Nat) : Int) (p : Int) T = some (((t.getD k 0 : Nat) : Int), T) := by
  have nW12 := hN.1.1
  have hall : ∀ j, j < t.length → t.getD j 0 < nW := fun j hj => by
    refine Vp_w h _ ?_
    rw [List.getD_eq_getElem?_getD, List.getElem?_eq_getElem hj]
    exact List.getElem_mem hj
  intro r
  induction r with
  | zero =>
    intro p fu hp hf
    obtain ⟨fu, rfl⟩ : ∃ k, fu = k + 1 := ⟨fu - 1, by omega⟩
    have hp : p = k := hp
    subst hp
    obtain ⟨-, g⟩ := at_p h p (by omega)
    rw [drop_s (show p < t.length by omega)] at g
    obtain ⟨g1, g2, -⟩ := g
    have ha := ah_lt hN hall (show p ≤ t.length by omega)
    obtain ⟨b1, -⟩ := best_p hn h ho h0 p (by omega)
    obtain ⟨b2, -⟩ := best_p hn h ho h0 (p + 1) (by omega)
    rw [drop_s (show p < t.length by omega)] at b1
    have b1 : wtN N V p (t.getD p 0) * pW N V (p + 1) (t.drop (p + 1)) = Mk N (wtN N V) nW V.length (V.length - p) (ah N t p) := b1
    rw [b2, ah_s] at b1
    rw [g_X10_cameAs_L73.eq_2, if_neg (show ¬ (p : Int) < (p : Int) by omega), show (0 : Int) = ((0 : Nat) : Int) from rfl, pick_m hN hM h6 hT hb hk ha ht g1 g2 b1 (fun w hw hf' => no_less nW12 hn h ho h0 hm hk hw (by omega) hf') (t.getD p 0) 0 FU (Nat.zero_add _) (Nat.lt_of_lt_of_le g1 (Nat.le_trans nW12 (by unfold FU; decide)))]
    rw [if_pos rfl]
  | succ r ih =>
    intro p fu hp hf
    obtain ⟨fu, rfl⟩ : ∃ k, fu = k + 1 := ⟨fu - 1, by omega⟩
    have hpV : p < V.length := by omega
    obtain ⟨-, g⟩ := at_p h p (by omega)
    rw [drop_s (show p < t.length by omega)] at g
    obtain ⟨g1, g2, -⟩ := g
    have ha := ah_lt hN hall (show p ≤ t.length by omega)
    obtain ⟨b1, -⟩ := best_p hn h ho h0 p (by omega)
    obtain ⟨b2, -⟩ := best_p hn h ho h0 (p + 1) (by omega)
    rw [drop_s (show p < t.length by omega)] at b1
    have b1 : wtN N V p (t.getD p 0) * pW N V (p + 1) (t.drop (p + 1)) = Mk N (wtN N V) nW V.length (V.length - p) (ah N t p) := b1
    rw [b2, ah_s] at b1
    have w12 : t.getD p 0 < 12 := by omega
    have so3 := (soN_i hN g1).2
    have m2 : gI T 59 (t.getD p 0) = ((soN N (t.getD p 0) : Nat) : Int) := by rw [← (soN_i hN g1).1]; exact hM.2 2 _ (by decide) g1
    have i0 := ih (p + 1) fu (by omega) (by omega)
    rw [ah_s] at i0
    have hh := wh_s _ ha _ so3 g2
    rw [g_X10_cameAs_L73.eq_2, if_neg (show ¬ (k : Int) < (p : Int) by omega), show (0 : Int) = ((0 : Nat) : Int) from rfl, pick_m hN hM h6 hT hb hpV ha ht g1 g2 b1 (fun w hw hf' => no_less nW12 hn h ho h0 hm hpV hw (by omega) hf') (t.getD p 0) 0 FU (Nat.zero_add _) (Nat.lt_of_lt_of_le g1 (Nat.le_trans nW12 (by unfold FU; decide)))]
    rw [if_neg (show ¬ (p : Int) = (k : Int) by omega), ldk_c w12, bS, m2, w32_a p (by omega)]
    by_cases c : soN N (t.getD p 0) = 1
    · rw [if_pos c] at hh
      rw [hh] at i0
      rw [if_pos (show ((soN N (t.getD p 0) : Nat) : Int) = 1 by omega)]
      exact i0
    · rw [if_neg c] at hh
      rw [hh] at i0
      rw [if_neg (show ¬ ((soN N (t.getD p 0) : Nat) : Int) = 1 by omega)]
      exact i0
theorem m_cameAs {b : Nat} {Sc Sm : Mem} (h : IV b Sc Sm) (x y : Int) : Sim (b + 100) (g_X9_cameAs x y Sc) (g_X10_cameAs x y Sm) := by
  obtain ⟨nW, nP, nB, law, h⟩ := h
  have same : ∀ r, Sim (b + 100) (some (r, Sc)) (some (r, Sm)) := fun r => Sim.same ⟨nW, nP, nB, law, h⟩ (by omega)
  obtain ⟨hN, hO, hM, hL, hLm⟩ := ask_of h
  unfold g_X9_cameAs g_X10_cameAs
  by_cases c1 : 0 ≤ y
  · obtain ⟨k, rfl⟩ := nat_of c1
    rw [if_pos c1, if_pos c1]
    rcases open_v h x with ⟨r, r0, r1, ⟨r2, r3⟩ | ⟨r2, r3, r4⟩⟩ | ⟨ws, S1, T1, s1, s2, s3, s4, s5, s6, s7, s8⟩
    · rw [r2, bS, i00, r1, bd2S, if_neg (show ¬ r = 0 by omega), r3]
      exact same _
    · rw [r2, bS, i10, r1, bd2S, if_neg (show ¬ r = 0 by omega), r4, bS, if_neg (show ¬ 0 ≤ r by omega)]
      exact same _
    · have h6 := len6 ws
      have nW12 := hN.1.1
      obtain ⟨T2, t1, t2, t3⟩ := lay6_m s6 s7 s8
      obtain ⟨T3, u1, u2, u3, u4⟩ := find_m (bo := none) hN (hM.w t2) h6 t3 (fun b h => by cases h)
      obtain ⟨S2, O, W, v1, v2, v3, v4⟩ := lik_c (k := k) hN (hO.t s2) s3 (RH_t (RH_inv h) s2)
      have c := (u4 0 3 0 (Nat.zero_le _) (by decide) (by decide)).2.2
      have en := gMx_n (n := (ws.take 6).length) (f := wtN (nu Sc) (ws.take 6)) hN (ws.take 6).length 3 (by decide)
      rw [show 2 * wh 3 = 0 from rfl] at en
      rw [Nat.sub_zero, en] at c
      have eO : O = Mk (nu Sc) (wtN (nu Sc) (ws.take 6)) nW (ws.take 6).length (ws.take 6).length 3 := by
        rcases v1 with ⟨z0, z1⟩ | ⟨z0, t, z1, z2, z3, z4⟩
        · rcases Nat.eq_zero_or_pos (Mk (nu Sc) (wtN (nu Sc) (ws.take 6)) nW (ws.take 6).length (ws.take 6).length 3) with q | q
          · rw [q, z0]
          · obtain ⟨s, q1, q2, q3⟩ := Mk_at (V := ws.take 6) (ws.take 6).length 3 (Nat.le_refl _) q
            rw [Nat.sub_self, z1 s ⟨q1, q2⟩] at q3
            omega
        · have g1 := Mk_ge (V := ws.take 6) (n := (ws.take 6).length) t 3 (by rw [z1.1]; exact Nat.le_refl _) z1.2
          rw [z1.1, Nat.sub_self, z2] at g1
          obtain ⟨s, q1, q2, q3⟩ := Mk_at (V := ws.take 6) (n := (ws.take 6).length) (N := nu Sc) (nW := nW) (ws.take 6).length 3 (Nat.le_refl _) (by omega)
          rw [Nat.sub_self] at q3
          have := (z4 s ⟨q1, q2⟩).1
          omega
      rw [show biI none = -1 from rfl] at u1
      have w32' : gI T3 56 32 = (((ws.take 6).length : Nat) : Int) := by rw [u2.2 32 (by decide)]; exact t3.2.1
      rw [s4, bS, i10, s1, bd2S, i00, s5, bS, i0l, v4, t1, bS, u1, bS, w32', show g_X10_errAt 0 3 0 0 = ((12 : Nat) : Int) by decide +kernel, ldk_c (show 12 < 112 by decide), bS, show gI T3 86 12 = _ from c, ← eO, lcm_p]
      have kc : ∀ r : Int, Sim (b + 100) (some (r, S2)) (some (r, T3)) := fun r => Sim.hear h s2 v2 v3 (KM_wh t2 u2) (by omega)
      by_cases c2 : k < (ws.take 6).length
      · rw [if_neg (show ¬ (((ws.take 6).length : Nat) : Int) ≤ (k : Int) by omega), if_pos c2]
        by_cases c3 : O = 0
        · rw [if_pos c3, if_pos c3, i00, bd2S]
          exact kc _
        · rw [if_neg c3, if_neg c3, i10, bd2S]
          rcases v1 with ⟨z0, -⟩ | ⟨z0, t, z1, z2, z3, z4⟩
          · exact absurd z0 c3
          · have hw := walk_m (k := k) (t := t) hN ((hM.w t2).h u2) h6 (t3.h u2) u3 u4 z1.1 z1.2 (by rw [z2, eO]) (by omega) (fun t' g1 g2 g3 => (z4 t' ⟨g1, g2⟩).2 (by rw [g3, eO])) c2 k 0 FU (Nat.zero_add _) (by unfold FU; omega)
            rw [show ((ah (nu Sc) t 0 : Nat) : Int) = 3 from rfl, show ((wh (ah (nu Sc) t 0) : Nat) : Int) = 0 from rfl, show ((0 : Nat) : Int) = 0 from rfl] at hw
            rw [hw, z3]
            have l16 : ∀ w ∈ t, w < 16 := fun w q => by have := Vp_w z1.2 w q; omega
            have wl := wds_lt t l16
            have w24 : wds 0 t < 2147483648 := Nat.lt_of_lt_of_le wl (Nat.le_trans (Nat.pow_le_pow_right (by decide) (show t.length ≤ 6 by rw [z1.1]; exact h6)) (by decide))
            have dg := wds_dig (k := k) (show k < t.length by rw [z1.1]; exact c2) l16
            rw [z1.1] at dg
            rw [oshr (by omega) w24, show (15 : Int) = ((15 : Nat) : Int) from rfl, oand (Nat.lt_of_le_of_lt (Nat.div_le_self _ _) w24), show (15 : Nat) = 2 ^ 4 - 1 from rfl, Nat.and_two_pow_sub_one_eq_mod, Nat.pow_mul, show 2 ^ 4 = 16 from rfl, dg]
            exact kc _
      · rw [if_pos (show (((ws.take 6).length : Nat) : Int) ≤ (k : Int) by omega), if_neg c2]
        have e2 : (if O = 0 then some ((-2 : Int), S2) else some (-2, S2)) = some (-2, S2) := by split <;> rfl
        rw [e2, bd2S]
        exact kc _
  · rw [if_neg c1, if_neg c1, if_neg (show ¬ (-1 : Int) = 0 by decide), shelf_v, bS]
    split <;> exact same _
