/-! SAY: the reference's words, one by one -/
theorem Inv_RY {b nW nP nB : Nat} {law : Option (List Lin)} {Sc Sm Sc' : Mem} (h : Inv b nW nP nB law Sc Sm) (k : KY Sc Sc') (hy : RY b nW law Sc') : Inv b nW nP nB law Sc' Sm := by
  obtain ⟨g0, g1, g2, g3, g4, g5, g6, g7, g8, g9⟩ := h
  obtain ⟨c1, c2, c3⟩ := k
  have cc : ∀ c, c ≠ 13 → (c < 17 ∨ 18 < c) → (c < 34 ∨ 37 < c) → gI Sc' c = gI Sc c := fun c h1 h2 h3 => c1 c h1 (by omega) (by omega) (by omega) (by omega) (by omega) (by omega)
  exact ⟨Shp_of g0 (c3 2 (by decide)) (c3 23 (by decide)), RO_of g1 (fun c h => cc c (by omega) (by omega) (by omega)) (fun _ _ => rfl) rfl rfl, RC_of g2 (fun c h => cc c (by omega) (by omega) (by omega)) (fun _ _ => rfl) rfl rfl, RT_of g3 (c2 2 (by decide)) (cc 14 (by decide) (by decide) (by decide)) rfl rfl, RL_of g4 (c2 4 (by decide)) (cc 15 (by decide) (by decide) (by decide)) (cc 16 (by decide) (by decide) (by decide)) (c3 13 (by decide)) rfl rfl rfl rfl rfl rfl, RS_of g5 (fun c h => cc c (by omega) (by omega) (by omega)) (fun _ _ => rfl), RB_of g6 (by rw [cc 53 (by decide) (by decide) (by decide)]) (by rw [cc 53 (by decide) (by decide) (by decide)]) (cc 54 (by decide) (by decide) (by decide)) (cc 55 (by decide) (by decide) (by decide)) rfl rfl rfl rfl, RD_of g7 (fun c h => cc c (by omega) (by omega) (by omega)) (fun _ _ => rfl) rfl rfl rfl, hy, RH_of g9 (c3 38 (by decide)) (cc 33 (by decide) (by decide) (by decide))⟩
theorem sen_pp {se : Nat → Nat} {x y : List Nat} {w : Nat} : sen se (x ++ w :: y) = sen se x ||| se w ||| sen se y := by
  rw [sen_p x (w :: y)]
  show sen se x ||| (se w ||| sen se y) = _
  rw [Nat.or_assoc]
/-- no lesser word does as well -/
theorem no_lessY {law : Option (List Lin)} {N : Nat → Nat → Int} {yes no nW nP p w : Nat} {t : List Nat} (hN : NR N nW nP) (h6 : t.length ≤ 6) (hv : Vp nW (soN N) 3 t) (hno : ∀ w ∈ t, seN N w &&& no = 0) (hy : sen (seN N) t &&& yes = yes) (ho : SB law N yes no nW 6 3 0 0 = 16 * pco (soN N) (prN law N) 3 0 t + t.length) (hm : ∀ t', Ws nW (soN N) (seN N) yes no t' → encT (soN N) (prN law N) t ≤ encT (soN N) (prN law N) t') (hp : p < t.length) (hw : w < t.getD p 0) (hwW : w < nW) : ¬ swB law N no p (ah N t p) (wh (ah N t p)) (sen (seN N) (t.take p)) (SB law N yes no nW (6 - (p + 1))) w = SB law N yes no nW (6 - p) (ah N t p) (wh (ah N t p)) (sen (seN N) (t.take p)) := by
  intro q
  have nW12 := hN.1.1
  have op := opt_p hN h6 hv hno hy ho p (by omega)
  obtain ⟨c1, c2⟩ := at_p hv p (by omega)
  have ha : ah N t p < 4 := chn_lt (fun w hw => by have := (soN_i hN hw).2; omega) _ 3 _ (by decide) c1
  have so3 := (soN_i hN hwW).2
  have pl := pco_le (so := soN N) (pr := prN law N) (fun w a p h => (prN_i hN h).2) (t.drop p) (ah N t p) p (Vp_w c2)
  have ld : (t.drop p).length = t.length - p := List.length_drop
  have lt : (t.take p).length = p := by rw [List.length_take]; omega
  have small : SB law N yes no nW (6 - p) (ah N t p) (wh (ah N t p)) (sen (seN N) (t.take p)) < 9999999 := by rw [op]; omega
  unfold swB at q
  by_cases q1 : fol (ah N t p) (soN N w) = true ∧ seN N w &&& no = 0
  · rw [if_pos q1, nx_wh ha so3 q1.1] at q
    by_cases q2 : SB law N yes no nW (6 - (p + 1)) (soN N w) (wh (soN N w)) (sen (seN N) (t.take p) ||| seN N w) < 9999999
    · rw [if_pos q2] at q
      obtain ⟨u, u1, u2, u3, u4, u5⟩ := SB_at (law := law) (yes := yes) hN (6 - (p + 1)) (soN N w) (sen (seN N) (t.take p) ||| seN N w) (by omega) (by omega) q2
      rw [show 6 - (6 - (p + 1)) = p + 1 by omega] at u5
      have vp : Vp nW (soN N) 3 (t.take p ++ w :: u) := Vp_p _ _ 3 _ c1 ⟨hwW, q1.1, u2⟩
      have len : (t.take p ++ w :: u).length = p + (u.length + 1) := by
        rw [List.length_append, lt]
        rfl
      have ws' : Ws nW (soN N) (seN N) yes no (t.take p ++ w :: u) := by
        refine ⟨by omega, vp, by rw [sen_pp]; exact u4, (sen_no _).mpr (fun v hv' => ?_)⟩
        rcases List.mem_append.mp hv' with z | z
        · exact hno v (List.mem_of_mem_take z)
        · rcases List.mem_cons.mp z with rfl | z
          · exact q1.2
          · exact u3 v z
      have e1 : pco (soN N) (prN law N) 3 0 (t.take p ++ w :: u) = pco (soN N) (prN law N) 3 0 (t.take p) + (prN law N w (ah N t p) p + pco (soN N) (prN law N) (soN N w) (p + 1) u) := by
        rw [pco_p _ _ 3 0 _ c1, lt, Nat.zero_add]
        rfl
      have e2 : pco (soN N) (prN law N) 3 0 t = pco (soN N) (prN law N) 3 0 (t.take p) + pco (soN N) (prN law N) (ah N t p) p (t.drop p) := by
        have := pco_p (pr := prN law N) (t.take p) (t.drop p) 3 0 _ c1
        rw [List.take_append_drop, lt, Nat.zero_add] at this
        exact this
      have k := enc_k (so := soN N) (pr := prN law N) (t := t) (u := t.take p ++ w :: u) ⟨h6, w6 nW12 h6 (Vp_w hv)⟩ ⟨ws'.1, w6 nW12 ws'.1 (Vp_w vp)⟩ (hm _ ws')
      have le := k.2 (by rw [e1, e2, len]; omega)
      have hl : u.length = (t.drop (p + 1)).length := by rw [List.length_drop]; omega
      have h2 := wds_less (p := t.take p) (s := u) (s' := t.drop (p + 1)) hl hw (fun v hv => by have := Vp_w u2 v hv; omega)
      rw [← drop_s hp, List.take_append_drop] at h2
      omega
    · rw [if_neg q2] at q
      omega
  · rw [if_neg q1] at q
    omega
def tabY (law : Option (List Lin)) (N : Nat → Nat → Int) (yes no nW nP : Nat) (T : Mem) : Prop := preY law N yes no nW nP T ∧ ∀ p a wh s, p ≤ 6 → a < 4 → wh < 2 → s < 64 → okY law N yes no nW p a wh s T
theorem tabY.q {law : Option (List Lin)} {N : Nat → Nat → Int} {yes no nW nP : Nat} {T T' : Mem} (h : tabY law N yes no nW nP T) (k : KQ T T') : tabY law N yes no nW nP T' :=
  ⟨⟨h.1.1.v k.v, h.1.2.1.v k.v, by rw [k 56 (by decide) (by decide)]; exact h.1.2.2.1, by rw [k 56 (by decide) (by decide)]; exact h.1.2.2.2⟩, fun p a wh s h1 h2 h3 h4 => by
    unfold okY
    rw [k 80 (by decide) (by decide)]
    exact h.2 p a wh s h1 h2 h3 h4⟩
theorem pickY {law : Option (List Lin)} {N : Nat → Nat → Int} {yes no nW nP p a wh s w0 : Nat} {K : Int → Mem → Option (Int × Mem)} {k : Int} (hN : NR N nW nP) (hn64 : no < 64) (hp : p < 6) (ha : a < 4) (hwh : wh < 2) (hs : s < 64) (hw0 : w0 < nW) (he : swB law N no p a wh s (SB law N yes no nW (6 - (p + 1))) w0 = SB law N yes no nW (6 - p) a wh s) (hno : ∀ w, w < w0 → ¬ swB law N no p a wh s (SB law N yes no nW (6 - (p + 1))) w = SB law N yes no nW (6 - p) a wh s) : ∀ (r w fu : Nat) (T : Mem), w + r = w0 → r < fu → tabY law N yes no nW nP T → ∃ T', g_X10_say_L104 K k (a : Int) (wh : Int) (s : Int) (p : Int) fu (w : Int) T = K (w0 : Int) T' ∧ KQ T T' := by
  have nW12 := hN.1.1
  have ix : 512 * p + 128 * a + 64 * wh + s < 3584 := by omega
  intro r
  induction r with
  | zero =>
    intro w fu T hw hf hT
    obtain ⟨fu, rfl⟩ : ∃ k, fu = k + 1 := ⟨fu - 1, by omega⟩
    have hw : w = w0 := hw
    subst hw
    obtain ⟨T1, u1, u2⟩ := sayBy_m (wh := wh) (s := s) hN hT.1.1 hT.1.2.1 hT.1.2.2.2 hn64 hp rfl ha hwh hs hw0 (fun a' wh' s' h1 h2 h3 => hT.2 (p + 1) a' wh' s' (by omega) h1 h2 h3)
    have cell := (hT.q u2).2 p a wh s (by omega) ha hwh hs
    unfold okY at cell
    rw [g_X10_say_L104.eq_2, u1, bd2S, sayAt_v (by omega) ha hwh hs, ldk_c ix, bS, cell, he, if_pos rfl]
    exact ⟨T1, rfl, u2⟩
  | succ r ih =>
    intro w fu T hw hf hT
    obtain ⟨fu, rfl⟩ : ∃ k, fu = k + 1 := ⟨fu - 1, by omega⟩
    obtain ⟨T1, u1, u2⟩ := sayBy_m (wh := wh) (s := s) hN hT.1.1 hT.1.2.1 hT.1.2.2.2 hn64 hp rfl ha hwh hs (show w < nW by omega) (fun a' wh' s' h1 h2 h3 => hT.2 (p + 1) a' wh' s' (by omega) h1 h2 h3)
    have cell := (hT.q u2).2 p a wh s (by omega) ha hwh hs
    unfold okY at cell
    obtain ⟨T2, v1, v2⟩ := ih (w + 1) fu T1 (by omega) (by omega) (hT.q u2)
    have hne := hno w (by omega)
    rw [g_X10_say_L104.eq_2, u1, bd2S, sayAt_v (by omega) ha hwh hs, ldk_c ix, bS, cell, if_neg (show ¬ ((_ : Nat) : Int) = ((_ : Nat) : Int) from fun e => hne (Int.ofNat.inj e)), w32_a w (by omega), v1]
    exact ⟨T2, rfl, u2.tr v2⟩
theorem walkY {law : Option (List Lin)} {N : Nat → Nat → Int} {yes no nW nP k : Nat} {t : List Nat} (hN : NR N nW nP) (hn64 : no < 64) (h6 : t.length ≤ 6) (hv : Vp nW (soN N) 3 t) (hno : ∀ w ∈ t, seN N w &&& no = 0) (hy : sen (seN N) t &&& yes = yes) (ho : SB law N yes no nW 6 3 0 0 = 16 * pco (soN N) (prN law N) 3 0 t + t.length) (hm : ∀ t', Ws nW (soN N) (seN N) yes no t' → encT (soN N) (prN law N) t ≤ encT (soN N) (prN law N) t') (hk : k < t.length) : ∀ (r p fu : Nat) (T : Mem), p + r = k → r < fu → tabY law N yes no nW nP T → ∃ T', g_X10_say_L95 (k : Int) fu ((ah N t p : Nat) : Int) ((wh (ah N t p) : Nat) : Int) ((sen (seN N) (t.take p) : Nat) : Int) (p : Int) T = some (((t.getD k 0 : Nat) : Int), T') ∧ KQ T T' := by
  have nW12 := hN.1.1
  have hall : ∀ j, j < t.length → t.getD j 0 < nW := fun j hj => by
    refine Vp_w hv _ ?_
    rw [List.getD_eq_getElem?_getD, List.getElem?_eq_getElem hj]
    exact List.getElem_mem hj
  have one : ∀ (p fu : Nat) (T : Mem) (K : Int → Mem → Option (Int × Mem)), p < t.length → tabY law N yes no nW nP T → ∃ T', g_X10_say_L104 K (k : Int) ((ah N t p : Nat) : Int) ((wh (ah N t p) : Nat) : Int) ((sen (seN N) (t.take p) : Nat) : Int) (p : Int) FU (0 : Int) T = K ((t.getD p 0 : Nat) : Int) T' ∧ KQ T T' := by
    intro p fu T K hpt hT
    have ha := ah_lt hN hall (show p ≤ t.length by omega)
    have wa : wh (ah N t p) < 2 := by unfold wh; split <;> omega
    have s64 : sen (seN N) (t.take p) < 64 := sen_lt _ (fun w hw => (seN_i hN (Vp_w hv w (List.mem_of_mem_take hw))).2)
    have w0 := hall p hpt
    have o1 := opt_p hN h6 hv hno hy ho p (by omega)
    have o2 := opt_p hN h6 hv hno hy ho (p + 1) (by omega)
    obtain ⟨-, g⟩ := at_p hv p (by omega)
    rw [drop_s hpt] at g o1
    obtain ⟨g1, g2, g3⟩ := g
    have so3 := (soN_i hN g1).2
    have es : sen (seN N) (t.take (p + 1)) = sen (seN N) (t.take p) ||| seN N (t.getD p 0) := by rw [take_s hpt, sen_a]
    rw [ah_s, es] at o2
    have pl := pco_le (so := soN N) (pr := prN law N) (fun w a p h => (prN_i hN h).2) (t.drop (p + 1)) (soN N (t.getD p 0)) (p + 1) (Vp_w g3)
    rw [List.length_drop] at pl
    have hge : t.getD p 0 = t[p] := by rw [List.getD_eq_getElem?_getD, List.getElem?_eq_getElem hpt]; rfl
    have he : swB law N no p (ah N t p) (wh (ah N t p)) (sen (seN N) (t.take p)) (SB law N yes no nW (6 - (p + 1))) (t.getD p 0) = SB law N yes no nW (6 - p) (ah N t p) (wh (ah N t p)) (sen (seN N) (t.take p)) := by
      unfold swB
      rw [nx_wh ha so3 g2, if_pos ⟨g2, by rw [hge]; exact hno _ (List.getElem_mem hpt)⟩, o1, o2, if_pos (by omega)]
      show _ = 16 * (prN law N (t.getD p 0) (ah N t p) p + pco (soN N) (prN law N) (soN N (t.getD p 0)) (p + 1) (t.drop (p + 1))) + (t.length - p)
      omega
    exact pickY hN hn64 (show p < 6 by omega) ha wa s64 w0 he (fun w hw => no_lessY hN h6 hv hno hy ho hm hpt hw (by omega)) (t.getD p 0) 0 FU T (Nat.zero_add _) (Nat.lt_of_lt_of_le w0 (Nat.le_trans nW12 (by unfold FU; decide))) hT
  intro r
  induction r with
  | zero =>
    intro p fu T hp hf hT
    obtain ⟨fu, rfl⟩ : ∃ k, fu = k + 1 := ⟨fu - 1, by omega⟩
    have hp : p = k := hp
    subst hp
    rw [g_X10_say_L95.eq_2, if_neg (show ¬ (p : Int) < (p : Int) by omega)]
    obtain ⟨T1, u1, u2⟩ := one p fu T _ hk hT
    rw [u1, if_pos rfl]
    exact ⟨T1, rfl, u2⟩
  | succ r ih =>
    intro p fu T hp hf hT
    obtain ⟨fu, rfl⟩ : ∃ k, fu = k + 1 := ⟨fu - 1, by omega⟩
    have hpt : p < t.length := by omega
    have w12 : t.getD p 0 < 12 := by have := hall p hpt; omega
    have ha := ah_lt hN hall (show p ≤ t.length by omega)
    rw [g_X10_say_L95.eq_2, if_neg (show ¬ (k : Int) < (p : Int) by omega)]
    obtain ⟨T1, u1, u2⟩ := one p fu T _ hpt hT
    have hT1 := hT.q u2
    obtain ⟨T2, v1, v2⟩ := ih (p + 1) fu T1 (by omega) (by omega) hT1
    obtain ⟨-, g⟩ := at_p hv p (by omega)
    rw [drop_s hpt] at g
    obtain ⟨g1, g2, -⟩ := g
    have so3 := (soN_i hN g1).2
    have s64 := (seN_i hN g1).2
    have t64 : sen (seN N) (t.take p) < 64 := sen_lt _ (fun w hw => (seN_i hN (Vp_w hv w (List.mem_of_mem_take hw))).2)
    have m2 : gI T1 59 (t.getD p 0) = ((soN N (t.getD p 0) : Nat) : Int) := by rw [← (soN_i hN g1).1]; exact hT1.1.1.2 2 _ (by decide) g1
    have m1 : gI T1 58 (t.getD p 0) = ((seN N (t.getD p 0) : Nat) : Int) := by rw [← (seN_i hN g1).1]; exact hT1.1.1.2 1 _ (by decide) g1
    have es : sen (seN N) (t.take (p + 1)) = sen (seN N) (t.take p) ||| seN N (t.getD p 0) := by rw [take_s hpt, sen_a]
    have hh := wh_s _ ha _ so3 g2
    rw [ah_s, es] at v1
    rw [u1, if_neg (show ¬ (p : Int) = (k : Int) by omega), ldk_c w12, bS, m2, w32_a p (by omega)]
    refine ⟨T2, ?_, u2.tr v2⟩
    by_cases c : soN N (t.getD p 0) = 1
    · rw [if_pos c] at hh
      rw [hh] at v1
      rw [if_pos (show ((soN N (t.getD p 0) : Nat) : Int) = 1 by omega), ldk_c w12, bS, m1, oor (by omega) (by omega)]
      exact v1
    · rw [if_neg c] at hh
      rw [hh] at v1
      rw [if_neg (show ¬ ((soN N (t.getD p 0) : Nat) : Int) = 1 by omega), ldk_c w12, bS, m1, oor (by omega) (by omega)]
      exact v1
