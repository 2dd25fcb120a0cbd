/-! THE LAW'S TEXT: figures, operands -/
theorem isD_v (x : Int) : g_X4_isDigit x = if 48 ≤ x ∧ x ≤ 57 then 1 else 0 := by
  unfold g_X4_isDigit
  (repeat' split) <;> first | rfl | omega
theorem chr_v {x : Int} (h0 : 0 ≤ x) (h : x ≤ 255) : o_chr x = x := by
  obtain ⟨k, rfl⟩ := nat_of h0
  have q : ∀ k : Nat, k < 256 → o_chr (k : Int) = (k : Int) := by decide +kernel
  exact q k (by omega)
theorem nm_v (x : Int) : nmIx x = g_X10_nameOf x := by
  unfold nmIx g_X10_nameOf
  (repeat' split) <;> first | rfl | omega
theorem nm_c (x : Int) : (g_X10_nameOf x = -1 ∧ ∀ k : Int, k < 33 → x = k → True) ∨ (0 ≤ g_X10_nameOf x ∧ g_X10_nameOf x < 6 ∧ 99 ≤ x ∧ x ≤ 119) := by
  unfold g_X10_nameOf
  (repeat' split) <;> first | exact Or.inl ⟨rfl, fun _ _ _ => trivial⟩ | exact Or.inr (by omega)
theorem nm_n {x : Int} (h : x < 99) : g_X10_nameOf x = -1 := by
  rcases nm_c x with z | z
  · exact z.1
  · omega
theorem num_w {v d : Nat} {x : Int} (hv : v < 1000) (hd : d ≤ 9) (hx : x = (d : Int) + 48) : w32 (w32 (w32 ((v : Int) * 10) + x) - 48) = ((10 * v + d : Nat) : Int) := by
  subst hx
  rw [show w32 ((v : Int) * 10) = (v : Int) * 10 from w32s (by omega) (by omega), show w32 ((v : Int) * 10 + ((d : Int) + 48)) = (v : Int) * 10 + ((d : Int) + 48) from w32s (by omega) (by omega), w32s (by omega) (by omega)]
  omega
theorem num_x {v d : Nat} {x : Int} (hv : v < 1000) (hd : d ≤ 9) (hx : x = (d : Int) + 48) : w32 (w32 (w32 (10 * (v : Int)) + x) - 48) = ((10 * v + d : Nat) : Int) := by
  rw [Int.mul_comm]
  exact num_w hv hd hx
theorem num_l {f q o : Nat} {tp : Nat → Int} {k48 : Int → Mem → Option Mem} {k52 : Int → Int → Mem → Option Mem} (ht : tpO f q tp) : ∀ (r n a v fu fm : Nat) (e : List Int) (es : List TSt) (S T : Mem), n + r = 4 → r < fu → r < fm → v < 10 ^ n → a ≤ f → cxC f q tp S → cxM f tp T → stC q a e S → stM a o es T → ∃ (n' a' v' : Nat) (S' T' : Mem), g_X4_readNumber_L4 k48 fu (v : Int) (n : Int) S = k48 (v' : Int) S' ∧ g_X10_figure_L4 k52 fm (v : Int) (n : Int) T = k52 (v' : Int) (n' : Int) T' ∧ kC q S S' ∧ kM T T' ∧ stC q a' e S' ∧ stM a' o es T' ∧ a' ≤ f ∧ n ≤ n' ∧ a' + n = a + n' ∧ v' ≤ 9999 ∧ (n < 4 → 48 ≤ nx f tp a ∧ nx f tp a ≤ 57 → n < n') := by
  have f120 := ht.1
  intro r
  induction r with
  | zero =>
    intro n a v fu fm e es S T hn hf hm hv ha hC hM hS hT
    obtain ⟨fu, rfl⟩ : ∃ k, fu = k + 1 := ⟨fu - 1, by omega⟩
    obtain ⟨fm, rfl⟩ : ∃ k, fm = k + 1 := ⟨fm - 1, by omega⟩
    have hn : n = 4 := hn
    subst hn
    have hv : v < 10000 := hv
    rw [g_X4_readNumber_L4.eq_2, g_X10_figure_L4.eq_2, if_pos (by decide), if_pos (by decide)]
    exact ⟨4, a, v, S, T, rfl, rfl, kC.rf q S, kM.rf T, hS, hT, ha, Nat.le_refl _, rfl, by omega, fun h => absurd h (by decide)⟩
  | succ r ih =>
    intro n a v fu fm e es S T hn hf hm hv ha hC hM hS hT
    obtain ⟨fu, rfl⟩ : ∃ k, fu = k + 1 := ⟨fu - 1, by omega⟩
    obtain ⟨fm, rfl⟩ : ∃ k, fm = k + 1 := ⟨fm - 1, by omega⟩
    have hn4 : n < 4 := by omega
    have h10 : 10 ^ n ≤ 10 ^ 3 := Nat.pow_le_pow_right (by decide) (show n ≤ 3 by omega)
    have h10 : 10 ^ n ≤ 1000 := h10
    have hv3 : v < 1000 := Nat.lt_of_lt_of_le hv h10
    have n1 := next_c hC f120 hS.1
    have n2 := look_m hM f120 hT.1
    rw [g_X4_readNumber_L4.eq_2, g_X10_figure_L4.eq_2, if_neg (show ¬ (4 : Int) ≤ (n : Int) by omega), if_neg (show ¬ (4 : Int) ≤ (n : Int) by omega), n1, n2, bS, bS, bS, bS, isD_v, inn]
    by_cases c : 48 ≤ nx f tp a ∧ nx f tp a ≤ 57
    · have haf : a < f ∧ lk f tp a = nx f tp a := by
        rcases nx_lk ht a with z | z
        · exact ⟨z.2.2.1, z.2.2.2⟩
        · omega
      obtain ⟨d, hd⟩ := nat_of (show 0 ≤ nx f tp a - 48 by omega)
      have hx : nx f tp a = (d : Int) + 48 := by omega
      have hd9 : d ≤ 9 := by omega
      have hp : 10 * v + d < 10 ^ (n + 1) := by
        rw [Nat.pow_succ]
        generalize 10 ^ n = p at hv
        omega
      rw [haf.2, if_pos c, i10, i10]
      simp only [ap]
      rw [num_w hv3 hd9 hx, num_x hv3 hd9 hx, w32_a n (by omega)]
      obtain ⟨n', a', v', S', T', y1, y2, y3, y4, y5, y6, y7, y8, y9, y10, -⟩ := ih (n + 1) (a + 1) (10 * v + d) fu fm e es _ _ (by omega) (by omega) (by omega) hp haf.1 (hC.k ht.2.1 (kC_s (Or.inr rfl))) (hM.k (kM_s (Or.inl rfl))) (stC_a ht.2.1 (by omega) hS) (stM_a (by omega) hT)
      exact ⟨n', a', v', S', T', y1, y2, (kC_s (Or.inr rfl)).tr y3, (kM_s (Or.inl rfl)).tr y4, y5, y6, y7, by omega, by omega, y10, fun _ _ => by omega⟩
    · have c' : ¬ (48 ≤ lk f tp a ∧ lk f tp a ≤ 57) := by
        rcases nx_lk ht a with z | z
        · rw [z.2.2.2]
          exact c
        · omega
      rw [if_neg c, if_neg c', i00, i00]
      exact ⟨n, a, v, S, T, rfl, rfl, kC.rf q S, kM.rf T, hS, hT, ha, Nat.le_refl _, rfl, by omega, fun _ z => absurd z c⟩
theorem fig_l {f q o a : Nat} {tp : Nat → Int} {e : List Int} {es : List TSt} {S T : Mem} (ht : tpO f q tp) (c : 48 ≤ nx f tp a ∧ nx f tp a ≤ 57) (ha : a ≤ f) (he : e.length ≤ a) (hes : es.length ≤ a) (hC : cxC f q tp S) (hM : cxM f tp T) (hS : stC q a e S) (hT : stM a o es T) : ∃ S' T', g_X4_readNumber S = some S' ∧ g_X10_figure T = some T' ∧ rsR 0 f q tp o (a + 1) a e es S T 1 S' T' := by
  have f120 := ht.1
  obtain ⟨n', a', v', S1, T1, y1, y2, y3, y4, y5, y6, y7, y8, y9, y10, y11⟩ := num_l (k48 := fun y6 S5 => (g_X4_emit y6 S5).bind fun S7 => some S7) (k52 := fun y6 y7 S5 => g_X10_figure_J52 y6 y7 S5) ht 4 0 a 0 FU FU e es S T rfl (by unfold FU; decide) (by unfold FU; decide) (by decide) ha hC hM hS hT
  have hn : 0 < n' := y11 (by decide) c
  rw [show ((0 : Nat) : Int) = 0 from rfl] at y1 y2
  obtain ⟨S2, i1, i2, i3, i4⟩ := emit_c ht.2.1 (hC.k ht.2.1 y3).2.2 (v' : Int)
  have n2 := look_m (hM.k y4) f120 y6.1
  have z1 : g_X4_readNumber S = some S2 := by
    unfold g_X4_readNumber
    rw [y1, i1, bS]
  by_cases d : 48 ≤ nx f tp a' ∧ nx f tp a' ≤ 57
  · have el : lk f tp a' = nx f tp a' := by
      rcases nx_lk ht a' with z | z
      · exact z.2.2.2
      · omega
    obtain ⟨T3, j1, j2, ⟨j3, j4, j5⟩, j6, -⟩ := add_m (T := sI T1 56 20 (a' : Int)) (n := es.length) (c := 1) (v := (v' : Int)) ⟨by decide, by decide⟩ (by rw [gI_ek (by decide)]; exact y6.2.2.2.1) (by omega)
    refine ⟨S2, T3, z1, ?_, y3.tr i2, (y4.tr (kM_s (Or.inr (Or.inl rfl)))).tr j2, Or.inr ⟨a', es.length + 1, by omega, y7, by omega, i3.trans y5.1, ?_, ?_, j6, Or.inr ⟨rfl, d⟩⟩⟩
    · unfold g_X10_figure
      rw [y2]
      unfold g_X10_figure_J52
      rw [if_neg (show ¬ (n' : Int) = 0 by omega), n2, bS, inn, el, if_pos d, i10, wrong_m y6.2.1 y6.1, bS, j1, bS]
    · rw [j3, gI_ek (by decide)]
      exact y6.1
    · rw [j4, gI_eq]
  · have d' : ¬ (48 ≤ lk f tp a' ∧ lk f tp a' ≤ 57) := by
      rcases nx_lk ht a' with z | z
      · rw [z.2.2.2]
        exact d
      · omega
    obtain ⟨T3, j1, j2, j3⟩ := add_s (c := 1) (v := (v' : Int)) ⟨by decide, by decide⟩ y6 (by omega)
    refine ⟨S2, T3, z1, ?_, y3.tr i2, y4.tr j2, Or.inl ⟨rfl, a', [(1, (v' : Int))], by omega, y7, by show a + 1 ≤ a'; omega, i4 a' e (by omega) y5, j3, gn_1 (Or.inl ⟨rfl, by show (0 : Int) ≤ (v' : Int); omega, by show (v' : Int) ≤ 9999; omega⟩) (Or.inl rfl)⟩⟩
    unfold g_X10_figure
    rw [y2]
    unfold g_X10_figure_J52
    rw [if_neg (show ¬ (n' : Int) = 0 by omega), n2, bS, inn, if_neg d', i00, j1, bS]
/-- no figure: the reference's fault -/
theorem fig_0 {T : Mem} {x : Int} {n : Nat} (hx : ¬ (48 ≤ x ∧ x ≤ 57)) (hl : g_X10_look T = some x) {p : Nat} (h20 : gI T 56 20 = -1) (h19 : gI T 56 19 = (p : Int)) (h22 : gI T 56 22 = (n : Int)) (hn : n ≤ 125) : ∃ T', g_X10_figure T = some T' ∧ kM T T' ∧ gI T' 56 19 = (p : Int) ∧ gI T' 56 20 = (p : Int) ∧ gI T' 56 22 = ((n + 1 : Nat) : Int) := by
  obtain ⟨T3, j1, j2, ⟨j3, j4, j5⟩, j6, -⟩ := add_m (T := sI T 56 20 (p : Int)) (n := n) (c := 1) (v := 0) ⟨by decide, by decide⟩ (by rw [gI_ek (by decide)]; exact h22) hn
  refine ⟨T3, ?_, (kM_s (Or.inr (Or.inl rfl))).tr j2, ?_, ?_, j6⟩
  · unfold g_X10_figure
    rw [show FU = 99999 + 1 from rfl, g_X10_figure_L4.eq_2, if_neg (show ¬ (4 : Int) ≤ 0 by decide), hl, bS, inn, if_neg hx, i00]
    unfold g_X10_figure_J52
    rw [if_pos (show (0 : Int) = 0 from rfl), wrong_m h20 h19, bS, j1, bS]
  · rw [j3, gI_ek (by decide)]
    exact h19
  · rw [j4, gI_eq]
theorem opn_m {T : Mem} {a o : Nat} {es : List TSt} (ho : o < 6) (ha : a ≤ 120) (h : stM a o es T) : ∃ T', g_X10_opens T = some (1, T') ∧ kM T T' ∧ stM (a + 1) (o + 1) es T' := by
  obtain ⟨h1, h2, h3, h4, h5, h6⟩ := h
  refine ⟨sI (sI T 56 21 (w32 (gI T 56 21 + 1))) 56 19 (w32 (gI (sI T 56 21 (w32 (gI T 56 21 + 1))) 56 19 + 1)), ?_, ?_, ?_⟩
  · unfold g_X10_opens
    rw [h3, if_neg (show ¬ (o : Int) = 6 by omega)]
  · exact (kM_s (Or.inr (Or.inr (Or.inl rfl)))).tr (kM_s (Or.inl rfl))
  · refine ⟨by rw [gI_eq, gI_ek (by decide), h1, w32_a a (by omega)], by rw [gI_ek (by decide), gI_ek (by decide), h2], by rw [gI_ek (by decide), gI_eq, h3, w32_a o (by omega)], by rw [gI_ek (by decide), gI_ek (by decide), h4], ?_, ?_⟩
    · rw [gI_ne (show (70 : Nat) ≠ 56 by decide), gI_ne (show (70 : Nat) ≠ 56 by decide)]
      exact h5
    · rw [gI_ne (show (71 : Nat) ≠ 56 by decide), gI_ne (show (71 : Nat) ≠ 56 by decide)]
      exact h6
theorem opn_6 {T : Mem} {a : Nat} {es : List TSt} (h : stM a 6 es T) : g_X10_opens T = some (0, sI T 56 20 (a : Int)) := by
  unfold g_X10_opens
  rw [h.2.2.1, if_pos (by decide), wrong_m h.2.1 h.1, bS]
theorem cls_m {T : Mem} {a o : Nat} {es : List TSt} (ho : o ≤ 6) (h : stM a (o + 1) es T) : stM a o es (sI T 56 21 (w32 (gI T 56 21 - 1))) := by
  obtain ⟨h1, h2, h3, h4, h5, h6⟩ := h
  refine ⟨by rw [gI_ek (by decide), h1], by rw [gI_ek (by decide), h2], by rw [gI_eq, h3, w32_m o (by omega)], by rw [gI_ek (by decide), h4], ?_, ?_⟩
  · rw [gI_ne (show (70 : Nat) ≠ 56 by decide)]
    exact h5
  · rw [gI_ne (show (71 : Nat) ≠ 56 by decide)]
    exact h6
/-- a refusal or a turn, and the operand behind it -/
theorem un_l {f q o a : Nat} {tp : Nat → Int} {rc : Mem → Option (Int × Mem)} {rm : Mem → Option Mem} {c v : Int} {e : List Int} {es : List TSt} {S T : Mem} (ht : tpO f q tp) (hR : Rl f q tp (o + 1) rc rm) (hc : c = 3 ∨ c = 4) (hv : v = enc (c, 0)) (ho : o < 6) (ha : a < f) (he : e.length ≤ a) (hes : es.length ≤ a) (hC : cxC f q tp S) (hM : cxM f tp T) (hS : stC q a e S) (hT : stM a o es T) : ∃ x S2 S3 T1 T2 T3, rc (sI S 13 7 (w32 (gI S 13 7 + 1))) = some (x, S2) ∧ g_X4_emit v S2 = some S3 ∧ g_X10_opens T = some (1, T1) ∧ rm T1 = some T2 ∧ g_X10_addStep c 0 (sI T2 56 21 (w32 (gI T2 56 21 - 1))) = some T3 ∧ (x = 0 ∨ x = 1) ∧ rsR 0 f q tp o (a + 1) a e es S T x S3 T3 := by
  have f120 := ht.1
  obtain ⟨T1, o1, o2, o3⟩ := opn_m ho (by omega) hT
  obtain ⟨x, S2, T2, h1, h2, h3, h4, h5⟩ := hR (a + 1) e es _ _ ha (by omega) (by omega) (hC.k ht.2.1 (kC_s (Or.inr rfl))) (hM.k o2) (stC_a ht.2.1 (by omega) hS) o3
  have k1 : kC q S S2 := kC.tr (kC_s (Or.inr rfl)) h3
  have k2 : kM T T2 := o2.tr h4
  obtain ⟨S3, i1, i2, i3, i4⟩ := emit_c ht.2.1 ((k1.2.2 13).symm ▸ hC.2.2 : gR S2 13 5 = some q) v
  have ks : kM T2 (sI T2 56 21 (w32 (gI T2 56 21 - 1))) := kM_s (Or.inr (Or.inr (Or.inl rfl)))
  rcases h5 with ⟨hx, a', e1, g1, g2, g3, g4, g5, g6⟩ | ⟨p, n, g1, g2, g3, g4, g5, g6, g7, g8⟩
  · obtain ⟨T3, j1, j2, j3⟩ := add_s (c := c) (v := 0) ⟨by omega, by omega⟩ (cls_m (by omega) g5) (by rw [List.length_append]; omega)
    refine ⟨x, S2, S3, T1, T2, T3, h1, i1, o1, h2, j1, Or.inr hx, k1.tr i2, (k2.tr ks).tr j2, Or.inl ⟨hx, a', e1 ++ [(c, 0)], by omega, g2, by rw [List.length_append]; show a + (e1.length + 1) ≤ a'; omega, ?_, ?_, gn_u hc g6⟩⟩
    · have z := i4 a' (e ++ e1.map enc) (by rw [List.length_append, List.length_map]; omega) g4
      rw [List.map_append, ← List.append_assoc]
      show stC q a' (e ++ e1.map enc ++ [enc (c, 0)]) S3
      rw [← hv]
      exact z
    · rw [← List.append_assoc]
      exact j3
  · obtain ⟨T3, j1, j2, ⟨j3, j4, j5⟩, j6, -⟩ := add_m (T := sI T2 56 21 (w32 (gI T2 56 21 - 1))) (n := n) (c := c) (v := 0) ⟨by omega, by omega⟩ (by rw [gI_ek (by decide)]; exact g7) (by omega)
    refine ⟨x, S2, S3, T1, T2, T3, h1, i1, o1, h2, j1, g8.elim Or.inl (fun z => Or.inr z.1), k1.tr i2, (k2.tr ks).tr j2, Or.inr ⟨p, n + 1, by omega, g2, by omega, i3.trans g4, ?_, ?_, j6, g8⟩⟩
    · rw [j3, gI_ek (by decide)]
      exact g5
    · rw [j4, gI_ek (by decide)]
      exact g6
theorem j33_n {rO : Int → Mem → Option (Int × Mem)} {o x : Int} {S : Mem} (hn : g_X10_nameOf x < 0) (h : x ≤ 255) : (if 0 ≤ x then g_X4_readOperand_J33 rO o x (nmIx (o_chr x)) S else g_X4_readOperand_J33 rO o x (-1) S) = if 6 ≤ o then some (0, S) else if x = 40 then g_X4_readOperand_J83 rO o x S else if x = 33 then g_X4_readOperand_J83 rO o x S else if x = 45 then g_X4_readOperand_J83 rO o x S else some (0, S) := by
  by_cases c : 0 ≤ x
  · rw [if_pos c, chr_v c h, nm_v]
    unfold g_X4_readOperand_J33
    rw [if_pos hn]
  · rw [if_neg c]
    unfold g_X4_readOperand_J33
    rw [if_pos (show (-1 : Int) < 0 by decide)]
