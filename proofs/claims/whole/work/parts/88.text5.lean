/-! THE LAW'S TEXT: the operand; all levels -/
theorem opB_l {f q o : Nat} {tp : Nat → Int} {rO : Int → Mem → Option (Int × Mem)} {rm : Mem → Option Mem} (ht : tpO f q tp) (ho : o ≤ 6) (hR : o < 6 → Rl f q tp (o + 1) (rO ((o + 1 : Nat) : Int)) rm) : Rl f q tp o (g_X4_readOperand_B rO (o : Int)) (g_X10_operand_B rm) := by
  intro a e es S T ha he hes hC hM hS hT
  have f120 := ht.1
  have n1 := next_c hC f120 hS.1
  have n2 := look_m hM f120 hT.1
  by_cases c : 48 ≤ nx f tp a ∧ nx f tp a ≤ 57
  · have el : lk f tp a = nx f tp a := by
      rcases nx_lk ht a with z | z
      · exact z.2.2.2
      · omega
    obtain ⟨S', T', y1, y2, y3⟩ := fig_l ht c ha he hes hC hM hS hT
    refine ⟨1, S', T', ?_, ?_, y3⟩
    · unfold g_X4_readOperand_B
      rw [n1, bS, isD_v, if_pos c, i10, y1, bS]
    · unfold g_X10_operand_B
      rw [n2, bS, el, if_pos (show g_X10_nameOf (nx f tp a) < 0 by rw [nm_n (by omega)]; decide), if_neg (show ¬ nx f tp a = 33 by omega), if_neg (show ¬ nx f tp a = 45 by omega), if_neg (show ¬ nx f tp a = 40 by omega), y2, bS]
  · by_cases d : 0 ≤ g_X10_nameOf (nx f tp a)
    · have r0 : g_X10_nameOf (nx f tp a) < 6 ∧ 99 ≤ nx f tp a ∧ nx f tp a ≤ 119 := by
        rcases nm_c (nx f tp a) with z | z
        · have := z.1
          omega
        · exact z.2
      have hz : a < f ∧ lk f tp a = nx f tp a := by
        rcases nx_lk ht a with z | z
        · exact z.2.2
        · omega
      obtain ⟨k, hk⟩ := nat_of d
      obtain ⟨S3, i1, i2, i3, i4⟩ := emit_c (S := sI S 13 7 (w32 (gI S 13 7 + 1))) ht.2.1 hC.2.2 (-1 - (k : Int))
      obtain ⟨T3, j1, j2, j3⟩ := add_s (c := 2) (v := (k : Int)) ⟨by decide, by decide⟩ hT (by omega)
      have ew : w32 (-1 - (k : Int)) = -1 - (k : Int) := w32s (by omega) (by omega)
      refine ⟨1, S3, sI T3 56 19 (w32 (gI T3 56 19 + 1)), ?_, ?_, (kC_s (Or.inr rfl)).tr i2, j2.tr (kM_s (Or.inl rfl)), Or.inl ⟨rfl, a + 1, [(2, (k : Int))], Nat.le_refl _, hz.1, Nat.le_refl _, ?_, stM_a (by omega) j3, gn_1 (Or.inr (Or.inl ⟨rfl, by show (0 : Int) ≤ (k : Int); omega, by show (k : Int) < 6; omega⟩)) (Or.inr rfl)⟩⟩
      · unfold g_X4_readOperand_B
        rw [n1, bS, isD_v, if_neg c, i00, if_pos (show 0 ≤ nx f tp a by omega), chr_v (by omega) (by omega), nm_v]
        unfold g_X4_readOperand_J33
        rw [if_neg (show ¬ g_X10_nameOf (nx f tp a) < 0 by omega)]
        simp only [ap]
        rw [hk, ew, i1, bS]
      · unfold g_X10_operand_B
        rw [n2, bS, hz.2, if_neg (show ¬ g_X10_nameOf (nx f tp a) < 0 by omega), hk, j1, bS]
      · have z := i4 (a + 1) e (by omega) (stC_a ht.2.1 (by omega) hS)
        show stC q (a + 1) (e ++ [enc (2, (k : Int))]) S3
        unfold enc
        rw [if_neg (show ¬ (2 : Int) = 1 by decide), if_pos (show (2 : Int) = 2 from rfl)]
        exact z
    · have nn : g_X10_nameOf (nx f tp a) < 0 := by omega
      have h255 : nx f tp a ≤ 255 := by
        rcases nx_lk ht a with z | z
        · omega
        · exact z.2.1
      have C0 : g_X4_readOperand_B rO (o : Int) S = if 6 ≤ (o : Int) then some (0, S) else if nx f tp a = 40 then g_X4_readOperand_J83 rO (o : Int) (nx f tp a) S else if nx f tp a = 33 then g_X4_readOperand_J83 rO (o : Int) (nx f tp a) S else if nx f tp a = 45 then g_X4_readOperand_J83 rO (o : Int) (nx f tp a) S else some (0, S) := by
        unfold g_X4_readOperand_B
        rw [n1, bS, isD_v, if_neg c, i00, j33_n nn h255]
      by_cases g : nx f tp a = 33 ∨ nx f tp a = 45 ∨ nx f tp a = 40
      · have hz : a < f ∧ lk f tp a = nx f tp a := by
          rcases nx_lk ht a with z | z
          · exact z.2.2
          · omega
        rw [hz.2] at n2
        by_cases o6 : o = 6
        · subst o6
          have op := opn_6 hT
          refine ⟨0, S, sI T 56 20 (a : Int), ?_, ?_, kC.rf q S, kM_s (Or.inr (Or.inl rfl)), Or.inr ⟨a, es.length, Nat.le_refl _, ha, by omega, hS.1, ?_, gI_eq, ?_, Or.inl rfl⟩⟩
          · rw [C0, if_pos (show (6 : Int) ≤ ((6 : Nat) : Int) by decide)]
          · unfold g_X10_operand_B
            rw [n2, bS, if_pos nn]
            unfold g_X10_operand_J46
            rw [op, bd2S, i00, bd2S, i00]
            by_cases c1 : nx f tp a = 33
            · rw [if_pos c1]
            · rw [if_neg c1]
              by_cases c2 : nx f tp a = 45
              · rw [if_pos c2]
              · rw [if_neg c2, if_pos (show nx f tp a = 40 by omega)]
          · rw [gI_ek (by decide)]
            exact hT.1
          · rw [gI_ek (by decide)]
            exact hT.2.2.2.1
        · have ho5 : o < 6 := by omega
          have hR1 := hR ho5
          rw [if_neg (show ¬ (6 : Int) ≤ (o : Int) by omega)] at C0
          by_cases p : nx f tp a = 40
          · have hE := ei_l ht hR1
            obtain ⟨T1, o1, o2, o3⟩ := opn_m ho5 (by omega) hT
            obtain ⟨x, S2, T2, h1, h2, h3, h4, h5⟩ := hE (a + 1) e es _ _ hz.1 (by omega) (by omega) (hC.k ht.2.1 (kC_s (Or.inr rfl))) (hM.k o2) (stC_a ht.2.1 (by omega) hS) o3
            have k1 : kC q S S2 := kC.tr (kC_s (Or.inr rfl)) h3
            have k2 : kM T T2 := o2.tr h4
            have C1 : g_X4_readOperand_B rO (o : Int) S = if x = 0 then some (0, S2) else bd2 (g_X4_takes 41 S2) fun x10 S9 => if x10 = 0 then some (0, S9) else some (1, S9) := by
              rw [C0, if_pos p]
              unfold g_X4_readOperand_J83
              simp only [ap]
              rw [if_pos p, w32_a o (by omega), h1, bd2S]
            have M1 : g_X10_operand_B rm T = if gI T2 56 20 < 0 then (g_X10_look T2).bind fun x12 => if x12 = 41 then ap (sI T2 56 19 (w32 ((gI T2 56 19) + 1))) fun S13 => ap (sI S13 56 21 (w32 ((gI S13 56 21) - 1))) fun S14 => some S14 else (g_X10_wrong T2).bind fun S15 => some S15 else some T2 := by
              unfold g_X10_operand_B
              rw [n2, bS, if_pos nn, if_neg (show ¬ nx f tp a = 33 by omega), if_neg (show ¬ nx f tp a = 45 by omega), if_pos p, o1, bd2S, i10, h2, bS]
            rcases h5 with ⟨rfl, a', e1, g1, g2, g3, g4, g5, g6⟩ | h5
            · have m1 := next_c (hC.k ht.2.1 k1) f120 g4.1
              have m2 := look_m (hM.k k2) f120 g5.1
              rw [i10] at C1
              rw [if_pos (show gI T2 56 20 < 0 by rw [g5.2.1]; decide), m2, bS] at M1
              by_cases r : nx f tp a' = 41
              · have hy : a' < f ∧ lk f tp a' = nx f tp a' := by
                  rcases nx_lk ht a' with z | z
                  · exact z.2.2
                  · omega
                rw [r] at m1
                rw [hy.2, if_pos r] at M1
                refine ⟨1, _, _, by rw [C1, takes_y m1, bd2S, i10], M1, k1.tr (kC_s (Or.inr rfl)), (k2.tr (kM_s (Or.inl rfl))).tr (kM_s (Or.inr (Or.inr (Or.inl rfl)))), Or.inl ⟨rfl, a' + 1, e1, by omega, hy.1, by omega, stC_a ht.2.1 (by omega) g4, cls_m (by omega) (stM_a (by omega) g5), g6⟩⟩
              · have hy : ¬ lk f tp a' = 41 := by
                  rcases nx_lk ht a' with z | z
                  · rw [z.2.2.2]
                    exact r
                  · omega
                rw [if_neg hy, wrong_m g5.2.1 g5.1, bS] at M1
                refine ⟨0, S2, _, by rw [C1, takes_n m1 r, bd2S, i00], M1, k1, k2.tr (kM_s (Or.inr (Or.inl rfl))), Or.inr ⟨a', (es ++ e1).length, by omega, g2, by rw [List.length_append]; omega, g4.1, ?_, gI_eq, ?_, Or.inl rfl⟩⟩
                · rw [gI_ek (by decide)]
                  exact g5.1
                · rw [gI_ek (by decide)]
                  exact g5.2.2.2.1
            · obtain ⟨p', n, g1, g2, g3, g4, g5, g6, g7, g8⟩ := h5
              rw [if_neg (show ¬ gI T2 56 20 < 0 by rw [g6]; omega)] at M1
              refine ⟨0, S2, T2, ?_, M1, k1, k2, Or.inr ⟨p', n, by omega, g2, by omega, g4, g5, g6, g7, Or.inl rfl⟩⟩
              rcases g8 with rfl | ⟨rfl, d1, d2⟩
              · rw [C1, i00]
              · rw [C1, i10, takes_n (next_c (hC.k ht.2.1 k1) f120 g4) (show ¬ nx f tp p' = 41 by omega), bd2S, i00]
          · by_cases r : nx f tp a = 33
            · obtain ⟨x, S2, S3, T1, T2, T3, h1, h2, h3, h4, h5, hx, h6⟩ := un_l ht hR1 (c := 3) (v := -33) (Or.inl rfl) rfl ho5 hz.1 he hes hC hM hS hT
              refine ⟨x, S3, T3, ?_, ?_, h6⟩
              · rw [C0, if_neg p, if_pos r]
                unfold g_X4_readOperand_J83
                simp only [ap]
                rw [if_neg p, w32_a o (by omega), h1, bd2S, if_neg (show ¬ nx f tp a = 45 by omega), r, show w32 (-(33 : Int)) = -33 from by decide, h2, bS, chk_t hx]
              · unfold g_X10_operand_B
                rw [n2, bS, if_pos nn, if_pos r]
                unfold g_X10_operand_J46
                rw [h3, bd2S, i10, h4, bS]
                simp only [ap]
                rw [if_pos r, h5, bS]
            · have r5 : nx f tp a = 45 := by omega
              obtain ⟨x, S2, S3, T1, T2, T3, h1, h2, h3, h4, h5, hx, h6⟩ := un_l ht hR1 (c := 4) (v := -126) (Or.inr rfl) rfl ho5 hz.1 he hes hC hM hS hT
              refine ⟨x, S3, T3, ?_, ?_, h6⟩
              · rw [C0, if_neg p, if_neg r, if_pos r5]
                unfold g_X4_readOperand_J83
                simp only [ap]
                rw [if_neg p, w32_a o (by omega), h1, bd2S, if_pos r5, h2, bS, chk_t hx]
              · unfold g_X10_operand_B
                rw [n2, bS, if_pos nn, if_neg r, if_pos r5]
                unfold g_X10_operand_J46
                rw [h3, bd2S, i10, h4, bS]
                simp only [ap]
                rw [if_neg r, h5, bS]
      · have y : lk f tp a < 0 ∨ lk f tp a = nx f tp a := by
          rcases nx_lk ht a with z | z
          · exact Or.inr z.2.2.2
          · exact Or.inl z.2.2
        have y1 : g_X10_nameOf (lk f tp a) < 0 := by
          rcases y with y | y
          · rw [nm_n (by omega)]
            decide
          · rw [y]
            exact nn
        obtain ⟨T', t1, t2, t3, t4, t5⟩ := fig_0 (n := es.length) (show ¬ (48 ≤ lk f tp a ∧ lk f tp a ≤ 57) by omega) n2 hT.2.1 hT.1 hT.2.2.2.1 (by omega)
        refine ⟨0, S, T', ?_, ?_, kC.rf q S, t2, Or.inr ⟨a, es.length + 1, Nat.le_refl _, ha, by omega, hS.1, t3, t4, t5, Or.inl rfl⟩⟩
        · rw [C0, if_neg (show ¬ nx f tp a = 40 by omega), if_neg (show ¬ nx f tp a = 33 by omega), if_neg (show ¬ nx f tp a = 45 by omega)]
          split <;> rfl
        · unfold g_X10_operand_B
          rw [n2, bS, if_pos y1, if_neg (show ¬ lk f tp a = 33 by omega), if_neg (show ¬ lk f tp a = 45 by omega), if_neg (show ¬ lk f tp a = 40 by omega), t1, bS]
theorem op_l {f q : Nat} {tp : Nat → Int} (ht : tpO f q tp) : ∀ (r o fu fm : Nat), o + r = 6 → r < fu → r < fm → Rl f q tp o (g_X4_readOperand fu (o : Int)) (g_X10_operand fm) := by
  intro r
  induction r with
  | zero =>
    intro o fu fm h hf hm
    obtain ⟨fu, rfl⟩ : ∃ k, fu = k + 1 := ⟨fu - 1, by omega⟩
    obtain ⟨fm, rfl⟩ : ∃ k, fm = k + 1 := ⟨fm - 1, by omega⟩
    rw [g_X4_readOperand.eq_2, g_X10_operand.eq_2]
    exact opB_l ht (by omega) (fun z => absurd z (by omega))
  | succ r ih =>
    intro o fu fm h hf hm
    obtain ⟨fu, rfl⟩ : ∃ k, fu = k + 1 := ⟨fu - 1, by omega⟩
    obtain ⟨fm, rfl⟩ : ∃ k, fm = k + 1 := ⟨fm - 1, by omega⟩
    rw [g_X4_readOperand.eq_2, g_X10_operand.eq_2]
    exact opB_l ht (by omega) (fun _ => ih (o + 1) fu fm (by omega) (by omega) (by omega))
theorem ei_0 {f q : Nat} {tp : Nat → Int} (ht : tpO f q tp) : Rl f q tp 0 (g_X4_readEither (g_X4_readOperand 9) 0) (g_X10_either (g_X10_operand 9)) := ei_l (o := 0) ht (op_l ht 6 0 9 9 rfl (by decide) (by decide))
