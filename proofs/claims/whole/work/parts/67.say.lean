/-! SAY -/
theorem SB_0 {law : Option (List Lin)} {N : Nat → Nat → Int} {yes no nW : Nat} {a s : Nat} (h : s &&& yes = yes) : ∀ m, SB law N yes no nW m a 1 s = 0
  | 0 => if_pos ⟨rfl, h⟩
  | _ + 1 => if_pos ⟨rfl, h⟩
theorem SB_sw {law : Option (List Lin)} {N : Nat → Nat → Int} {yes no nW m a wh s w : Nat} (hw : w < nW) : SB law N yes no nW (m + 1) a wh s ≤ swB law N no (6 - (m + 1)) a wh s (SB law N yes no nW m) w := by
  show (if wh = 1 ∧ s &&& yes = yes then 0 else minT (swB law N no (6 - (m + 1)) a wh s (SB law N yes no nW m)) nW) ≤ _
  split
  · exact Nat.zero_le _
  · exact minT_le nW hw
theorem nx_wh {N : Nat → Nat → Int} {a w : Nat} (ha : a < 4) (hs : soN N w < 3) (hf : fol a (soN N w) = true) : nxW N w (wh a) = wh (soN N w) := by
  unfold nxW
  exact (wh_s a ha _ hs hf).symm
theorem SB_le {law : Option (List Lin)} {N : Nat → Nat → Int} {yes no nW nP : Nat} (hN : NR N nW nP) : ∀ (u : List Nat) (m a s : Nat), u.length ≤ m → m ≤ 6 → a < 4 → Vp nW (soN N) a u → (∀ w ∈ u, seN N w &&& no = 0) → (s ||| sen (seN N) u) &&& yes = yes → SB law N yes no nW m a (wh a) s ≤ 16 * pco (soN N) (prN law N) a (6 - m) u + u.length
  | [], m, a, s, _, _, _, hv, _, hy => by
    have hv : a = 1 ∨ a = 2 := hv
    have e : wh a = 1 := if_pos hv
    have hy : (s ||| 0) &&& yes = yes := hy
    rw [Nat.or_zero] at hy
    rw [e, SB_0 hy]
    exact Nat.zero_le _
  | w :: u, m, a, s, hl, h6, ha, ⟨h1, h2, h3⟩, hno, hy => by
    have hl : u.length + 1 ≤ m := hl
    obtain ⟨m', rfl⟩ : ∃ k, m = k + 1 := ⟨m - 1, by omega⟩
    have so3 := (soN_i hN h1).2
    have hy : (s ||| (seN N w ||| sen (seN N) u)) &&& yes = yes := hy
    rw [← Nat.or_assoc] at hy
    have ih := SB_le (law := law) (yes := yes) hN u m' (soN N w) (s ||| seN N w) (by omega) (by omega) (by omega) h3 (fun v hv => hno v (List.mem_cons_of_mem _ hv)) hy
    refine Nat.le_trans (SB_sw h1) ?_
    have pl := pco_le (so := soN N) (pr := prN law N) (fun w a p h => (prN_i hN h).2) u (soN N w) (6 - m') (Vp_w h3)
    unfold swB
    rw [nx_wh ha so3 h2, if_pos ⟨h2, hno w (List.mem_cons_self ..)⟩, if_pos (by omega)]
    show _ ≤ 16 * (prN law N w a (6 - (m' + 1)) + pco (soN N) (prN law N) (soN N w) (6 - (m' + 1) + 1) u) + (u.length + 1)
    rw [show 6 - (m' + 1) + 1 = 6 - m' by omega]
    omega
theorem SB_at {law : Option (List Lin)} {N : Nat → Nat → Int} {yes no nW nP : Nat} (hN : NR N nW nP) : ∀ (m a s : Nat), m ≤ 6 → a < 4 → SB law N yes no nW m a (wh a) s < 9999999 → ∃ u : List Nat, u.length ≤ m ∧ Vp nW (soN N) a u ∧ (∀ w ∈ u, seN N w &&& no = 0) ∧ (s ||| sen (seN N) u) &&& yes = yes ∧ SB law N yes no nW m a (wh a) s = 16 * pco (soN N) (prN law N) a (6 - m) u + u.length
  | m, a, s, h6, ha, h => by
    by_cases c : wh a = 1 ∧ s &&& yes = yes
    · have hv : a = 1 ∨ a = 2 := by
        by_cases q : a = 1 ∨ a = 2
        · exact q
        · have : wh a = 0 := if_neg q
          omega
      refine ⟨[], Nat.zero_le _, hv, fun w hw => (by cases hw), ?_, ?_⟩
      · show (s ||| 0) &&& yes = yes
        rw [Nat.or_zero]
        exact c.2
      · rw [c.1, SB_0 c.2]
        rfl
    · match m, h, h6 with
      | 0, h, _ =>
        have h : (if wh a = 1 ∧ s &&& yes = yes then 0 else 9999999) < 9999999 := h
        rw [if_neg c] at h
        exact absurd h (Nat.lt_irrefl _)
      | m + 1, h, h6 =>
        have e : SB law N yes no nW (m + 1) a (wh a) s = minT (swB law N no (6 - (m + 1)) a (wh a) s (SB law N yes no nW m)) nW := if_neg c
        rw [e] at h ⊢
        obtain ⟨w, h1, h2⟩ := minT_at nW h
        rw [← h2] at h ⊢
        have so3 := (soN_i hN h1).2
        unfold swB at h ⊢
        by_cases q1 : fol a (soN N w) = true ∧ seN N w &&& no = 0
        · rw [if_pos q1, nx_wh ha so3 q1.1] at h ⊢
          by_cases q2 : SB law N yes no nW m (soN N w) (wh (soN N w)) (s ||| seN N w) < 9999999
          · rw [if_pos q2]
            obtain ⟨u, u1, u2, u3, u4, u5⟩ := SB_at (law := law) (yes := yes) hN m (soN N w) (s ||| seN N w) (by omega) (by omega) q2
            refine ⟨w :: u, Nat.succ_le_succ u1, ⟨h1, q1.1, u2⟩, fun v hv => ?_, ?_, ?_⟩
            · rcases List.mem_cons.mp hv with rfl | hv
              · exact q1.2
              · exact u3 v hv
            · show (s ||| (seN N w ||| sen (seN N) u)) &&& yes = yes
              rw [← Nat.or_assoc]
              exact u4
            · rw [u5]
              show _ = 16 * (prN law N w a (6 - (m + 1)) + pco (soN N) (prN law N) (soN N w) (6 - (m + 1) + 1) u) + (u.length + 1)
              rw [show 6 - (m + 1) + 1 = 6 - m by omega]
              omega
          · rw [if_neg q2] at h
            exact absurd h (Nat.lt_irrefl _)
        · rw [if_neg q1] at h
          exact absurd h (Nat.lt_irrefl _)
  termination_by m => m
theorem sen_no {se : Nat → Nat} {no : Nat} : ∀ t : List Nat, sen se t &&& no = 0 ↔ ∀ w ∈ t, se w &&& no = 0
  | [] => ⟨fun _ w hw => (by cases hw), fun _ => Nat.zero_and no⟩
  | v :: t => by
    have ih := sen_no (se := se) (no := no) t
    show (se v ||| sen se t) &&& no = 0 ↔ _
    rw [Nat.and_or_distrib_right, Nat.or_eq_zero_iff, ih]
    constructor
    · rintro ⟨h1, h2⟩ w hw
      rcases List.mem_cons.mp hw with rfl | hw
      · exact h1
      · exact h2 w hw
    · exact fun h => ⟨h v (List.mem_cons_self ..), fun w hw => h w (List.mem_cons_of_mem _ hw)⟩
/-- right ones that say what is told and nothing else told -/
def Ws (nW : Nat) (so se : Nat → Nat) (yes no : Nat) (t : List Nat) : Prop := t.length ≤ 6 ∧ Vp nW so 3 t ∧ sen se t &&& yes = yes ∧ sen se t &&& no = 0
theorem chp_c {nW yes no : Nat} {so se : Nat → Nat} {e : List Nat → Nat} {S : Mem} (hse : ∀ w, w < nW → se w < 64) (hy : yes < 64) (hB : ∀ s, s < 64 → IsM e (Bs nW so se 6 s) (gI S 35 s)) : ∀ (r x fu : Nat) (v : Int), x + r = 64 → r < fu → IsM e (fun t => Ws nW so se yes no t ∧ sen se t < x) v → ∃ v', g_X6_cheapest_L11 (yes : Int) (no : Int) fu v (x : Int) S = some (v', S) ∧ IsM e (Ws nW so se yes no) v' := by
  intro r
  induction r with
  | zero =>
    intro x fu v hx hf hv
    obtain ⟨fu, rfl⟩ : ∃ k, fu = k + 1 := ⟨fu - 1, by omega⟩
    have hx : x = 64 := hx
    subst hx
    rw [g_X6_cheapest_L11.eq_2, if_pos (by decide)]
    exact ⟨v, rfl, IsM_same hv (fun t => ⟨fun h => ⟨h, sen_lt t (fun w hw => hse w (Vp_w h.2.1 w hw))⟩, fun h => h.1⟩)⟩
  | succ r ih =>
    intro x fu v hx hf hv
    obtain ⟨fu, rfl⟩ : ∃ k, fu = k + 1 := ⟨fu - 1, by omega⟩
    have hx64 : x < 64 := by omega
    have skip : (x &&& yes = yes → x &&& no = 0 → False) → IsM e (fun t => Ws nW so se yes no t ∧ sen se t < x + 1) v := fun hno => IsM_same hv (fun t => by
      constructor
      · rintro ⟨h, h2⟩
        refine ⟨h, ?_⟩
        by_cases q : sen se t = x
        · exact absurd (hno (by rw [← q]; exact h.2.2.1) (by rw [← q]; exact h.2.2.2)) (fun z => z)
        · omega
      · exact fun h => ⟨h.1, by omega⟩)
    rw [g_X6_cheapest_L11.eq_2, if_neg (show ¬ (64 : Int) ≤ (x : Int) by omega), oand (by omega), oand (by omega), w32_a x (by omega)]
    by_cases c1 : x &&& yes = yes
    · rw [if_pos (show ((x &&& yes : Nat) : Int) = (yes : Int) by omega)]
      by_cases c2 : x &&& no = 0
      · rw [if_pos (show ((x &&& no : Nat) : Int) = 0 by omega), ldk_c hx64, bS]
        refine ih (x + 1) fu _ (by omega) (by omega) (IsM_u hv (hB x hx64) (fun t => ?_))
        constructor
        · rintro ⟨h, h2⟩
          by_cases q : sen se t = x
          · exact Or.inr ⟨h.1, h.2.1, q⟩
          · exact Or.inl ⟨h, by omega⟩
        · rintro (h | ⟨h1, h2, h3⟩)
          · exact ⟨h.1, by omega⟩
          · exact ⟨⟨h1, h2, by rw [h3]; exact c1, by rw [h3]; exact c2⟩, by omega⟩
      · rw [if_neg (show ¬ ((x &&& no : Nat) : Int) = 0 by omega)]
        exact ih (x + 1) fu v (by omega) (by omega) (skip (fun _ q => c2 q))
    · rw [if_neg (show ¬ ((x &&& yes : Nat) : Int) = (yes : Int) by omega)]
      exact ih (x + 1) fu v (by omega) (by omega) (skip (fun q _ => c1 q))
theorem enc_k {so : Nat → Nat} {pr : Nat → Nat → Nat → Nat} {t u : List Nat} (ht : t.length ≤ 6 ∧ wds 0 t < 16777216) (hu : u.length ≤ 6 ∧ wds 0 u < 16777216) (h : encT so pr t ≤ encT so pr u) : 16 * pco so pr 3 0 t + t.length ≤ 16 * pco so pr 3 0 u + u.length ∧ (16 * pco so pr 3 0 t + t.length = 16 * pco so pr 3 0 u + u.length → wds 0 t ≤ wds 0 u) := by
  unfold encT at h
  rw [show (2 : Nat) ^ 28 = 16 * 16777216 from rfl, show (2 : Nat) ^ 24 = 16777216 from rfl] at h
  generalize pco so pr 3 0 t = P at *
  generalize pco so pr 3 0 u = Q at *
  have e1 : P * (16 * 16777216) + t.length * 16777216 = (16 * P + t.length) * 16777216 := by rw [Nat.add_mul, Nat.mul_comm 16 P, Nat.mul_assoc]
  have e2 : Q * (16 * 16777216) + u.length * 16777216 = (16 * Q + u.length) * 16777216 := by rw [Nat.add_mul, Nat.mul_comm 16 Q, Nat.mul_assoc]
  rw [e1, e2] at h
  clear e1 e2
  generalize 16 * P + t.length = A at *
  generalize 16 * Q + u.length = B at *
  refine ⟨?_, fun e => ?_⟩
  · rcases Nat.lt_or_ge B A with q | q
    · have h1 : (B + 1) * 16777216 ≤ A * 16777216 := Nat.mul_le_mul_right _ q
      rw [Nat.add_mul B 1, Nat.one_mul] at h1
      omega
    · exact q
  · subst e
    exact Nat.le_of_add_le_add_left h
theorem pco_p {nW : Nat} {so : Nat → Nat} {pr : Nat → Nat → Nat → Nat} : ∀ (x y : List Nat) (a p c : Nat), chn nW so a x c → pco so pr a p (x ++ y) = pco so pr a p x + pco so pr c (p + x.length) y
  | [], y, a, p, c, h => by
    have h : a = c := h
    subst h
    show pco so pr a p y = 0 + pco so pr a p y
    rw [Nat.zero_add]
  | v :: x, y, a, p, c, ⟨_, _, h⟩ => by
    show pr v a p + pco so pr (so v) (p + 1) (x ++ y) = pr v a p + pco so pr (so v) (p + 1) x + pco so pr c (p + (x.length + 1)) y
    rw [pco_p x y (so v) (p + 1) c h, show p + 1 + x.length = p + (x.length + 1) by omega, Nat.add_assoc]
theorem sen_p {se : Nat → Nat} : ∀ (x y : List Nat), sen se (x ++ y) = sen se x ||| sen se y
  | [], y => by show sen se y = 0 ||| sen se y; rw [Nat.zero_or]
  | v :: x, y => by
    show se v ||| sen se (x ++ y) = se v ||| sen se x ||| sen se y
    rw [sen_p x y, Nat.or_assoc]
theorem w6 {t : List Nat} {nW : Nat} (hW : nW ≤ 12) (h : t.length ≤ 6) (hw : ∀ w ∈ t, w < nW) : wds 0 t < 16777216 := Nat.lt_of_lt_of_le (wds_lt t (fun w q => by have := hw w q; omega)) (Nat.le_trans (Nat.pow_le_pow_right (by decide) h) (by decide))
/-- the cheapest one, place by place -/
theorem opt_p {law : Option (List Lin)} {N : Nat → Nat → Int} {yes no nW nP : Nat} {t : List Nat} (hN : NR N nW nP) (h6 : t.length ≤ 6) (hv : Vp nW (soN N) 3 t) (hno : ∀ w ∈ t, seN N w &&& no = 0) (hy : sen (seN N) t &&& yes = yes) (ho : SB law N yes no nW 6 3 0 0 = 16 * pco (soN N) (prN law N) 3 0 t + t.length) : ∀ p, p ≤ t.length → SB law N yes no nW (6 - p) (ah N t p) (wh (ah N t p)) (sen (seN N) (t.take p)) = 16 * pco (soN N) (prN law N) (ah N t p) p (t.drop p) + (t.length - p)
  | 0, _ => ho
  | p + 1, hp => by
    have ih := opt_p hN h6 hv hno hy ho p (by omega)
    have hpt : p < t.length := by omega
    obtain ⟨c1, c2⟩ := at_p hv p (by omega)
    obtain ⟨d1, d2⟩ := at_p hv (p + 1) hp
    rw [drop_s hpt] at c2 ih
    obtain ⟨g1, g2, g3⟩ := c2
    have so3 := (soN_i hN g1).2
    have ha : ah N t p < 4 := chn_lt (fun w hw => by have := (soN_i hN hw).2; omega) _ 3 _ (by decide) c1
    rw [ah_s]
    have es : sen (seN N) (t.take (p + 1)) = sen (seN N) (t.take p) ||| seN N (t.getD p 0) := by rw [take_s hpt, sen_a]
    have ed : t.drop (p + 1) = t.drop (p + 1) := rfl
    have ge := SB_le (law := law) (yes := yes) (no := no) hN (t.drop (p + 1)) (6 - (p + 1)) (soN N (t.getD p 0)) (sen (seN N) (t.take (p + 1))) (by rw [List.length_drop]; omega) (by omega) (by omega) g3 (fun w hw => hno w (List.mem_of_mem_drop hw)) (by rw [← sen_p, List.take_append_drop]; exact hy)
    rw [List.length_drop, show 6 - (6 - (p + 1)) = p + 1 by omega] at ge
    have sw := SB_sw (law := law) (N := N) (yes := yes) (no := no) (m := 6 - (p + 1)) (a := ah N t p) (wh := wh (ah N t p)) (s := sen (seN N) (t.take p)) g1
    rw [show 6 - (p + 1) + 1 = 6 - p by omega, ih] at sw
    unfold swB at sw
    have hm := List.getElem_mem hpt
    have hge : t.getD p 0 = t[p] := by rw [List.getD_eq_getElem?_getD, List.getElem?_eq_getElem hpt]; rfl
    have pl := pco_le (so := soN N) (pr := prN law N) (fun w a p h => (prN_i hN h).2) (t.drop (p + 1)) (soN N (t.getD p 0)) (p + 1) (Vp_w g3)
    rw [List.length_drop] at pl
    rw [nx_wh ha so3 g2, if_pos ⟨g2, by rw [hge]; exact hno _ hm⟩, ← es, if_pos (by omega), show 6 - (6 - p) = p by omega] at sw
    have sw : 16 * (prN law N (t.getD p 0) (ah N t p) p + pco (soN N) (prN law N) (soN N (t.getD p 0)) (p + 1) (t.drop (p + 1))) + (t.length - p) ≤ SB law N yes no nW (6 - (p + 1)) (soN N (t.getD p 0)) (wh (soN N (t.getD p 0))) (sen (seN N) (t.take (p + 1))) + 16 * prN law N (t.getD p 0) (ah N t p) p + 1 := sw
    omega
