/-! THE LAW'S TEXT: a line -/
def kL (n : Nat) (T T' : Mem) : Prop := (∀ c, c ≠ 56 → c ≠ 70 → c ≠ 71 → c ≠ 72 → c ≠ 73 → c ≠ 74 → gI T' c = gI T c) ∧ (∀ k, k ≠ 19 → k ≠ 20 → k ≠ 21 → k ≠ 22 → gI T' 56 k = gI T 56 k) ∧ (∀ c k, c = 70 ∨ c = 71 → k < 130 → gI T' c k = gI T c k) ∧ (∀ c k, c = 73 ∨ c = 74 → k < n → gI T' c k = gI T c k) ∧ gI T' 72 0 = gI T 72 0
theorem kL.rf (n : Nat) (T : Mem) : kL n T T := ⟨fun _ _ _ _ _ _ _ => rfl, fun _ _ _ _ _ => rfl, fun _ _ _ _ => rfl, fun _ _ _ _ => rfl, rfl⟩
theorem kL.tr {n : Nat} {T T' T'' : Mem} (h : kL n T T') (g : kL n T' T'') : kL n T T'' := ⟨fun c h1 h2 h3 h4 h5 h6 => (g.1 c h1 h2 h3 h4 h5 h6).trans (h.1 c h1 h2 h3 h4 h5 h6), fun k h1 h2 h3 h4 => (g.2.1 k h1 h2 h3 h4).trans (h.2.1 k h1 h2 h3 h4), fun c k h1 h2 => (g.2.2.1 c k h1 h2).trans (h.2.2.1 c k h1 h2), fun c k h1 h2 => (g.2.2.2.1 c k h1 h2).trans (h.2.2.2.1 c k h1 h2), g.2.2.2.2.trans h.2.2.2.2⟩
theorem kL.le {n m : Nat} {T T' : Mem} (h : kL n T T') (hm : m ≤ n) : kL m T T' := ⟨h.1, h.2.1, h.2.2.1, fun c k h1 h2 => h.2.2.2.1 c k h1 (by omega), h.2.2.2.2⟩
theorem kL.m {n : Nat} {T T' : Mem} (h : kM T T') : kL n T T' := ⟨fun c h1 h2 h3 _ _ _ => h.1 c h1 h2 h3, h.2.1, h.2.2, fun c k h1 _ => by rw [h.1 c (by omega) (by omega) (by omega)], by rw [h.1 72 (by decide) (by decide) (by decide)]⟩
theorem kL_e {n c k : Nat} {T : Mem} {v : Int} (hc : c = 73 ∨ c = 74) (hk : n ≤ k) : kL n T (sI T c k v) := ⟨fun c' _ _ _ _ h5 h6 => gI_ne (by omega), fun k' _ _ _ _ => by rw [gI_ne (by omega)], fun c' k' h1 _ => by rw [gI_ne (by omega)], fun c' k' h1 h2 => by rw [gI_sI, if_neg (fun z => by have := z.2; omega)], by rw [gI_ne (by omega)]⟩
theorem kL_n {n : Nat} {T : Mem} {v : Int} : kL n T (sI T 72 1 v) := ⟨fun c' _ _ _ h4 _ _ => gI_ne h4, fun k' _ _ _ _ => by rw [gI_ne (by decide)], fun c' k' h1 _ => by rw [gI_ne (by omega)], fun c' k' h1 h2 => by rw [gI_ne (by omega)], gI_ek (by decide)⟩
theorem cxM.l {f n : Nat} {tp : Nat → Int} {T T' : Mem} (h : cxM f tp T) (k : kL n T T') : cxM f tp T' := ⟨(k.2.1 18 (by decide) (by decide) (by decide) (by decide)).trans h.1, fun i hi => by rw [k.1 69 (by decide) (by decide) (by decide) (by decide) (by decide) (by decide)]; exact h.2 i hi⟩
theorem stM_x {a o c k : Nat} {es : List TSt} {T : Mem} {v : Int} (hc : c ≠ 56 ∧ c ≠ 70 ∧ c ≠ 71) (h : stM a o es T) : stM a o es (sI T c k v) := by
  unfold stM
  rw [gI_ne (Ne.symm hc.1), gI_ne (Ne.symm hc.2.1), gI_ne (Ne.symm hc.2.2)]
  exact h
theorem w16_n (n : Nat) (h : n ≤ 1000) : w16 (w16 (n : Int)) = (n : Int) := by unfold w16; omega
theorem w32_61 (k : Nat) (h : k ≤ 60) : w32 (61 + (k : Int)) = ((61 + k : Nat) : Int) := by
  rw [w32s (by omega) (by omega)]
  omega
theorem gn_W {es : List TSt} (h : gn 0 es) : WF es := h
/-- the end of a line, reference -/
theorem le_m {T : Mem} {k m : Nat} (v : Int) (hk : k ≤ 60) (h72 : gI T 72 1 = (m : Int)) (hm : m ≤ 60) : (stk T 74 122 (w32 (61 + (k : Int))) v).bind (fun S4 => ap (sI S4 72 1 (w32 ((gI S4 72 1) + 1))) fun S6 => some S6) = some (sI (sI T 74 (61 + k) v) 72 1 ((m + 1 : Nat) : Int)) := by
  rw [w32_61 k hk, stk_c (by omega), bS]
  simp only [ap]
  rw [gI_ne (show (72 : Nat) ≠ 74 by decide), h72, w32_a m (by omega)]
theorem ln_l {f q a k : Nat} {tp : Nat → Int} {e : List Int} {es : List TSt} {S T : Mem} (ht : tpO f q tp) (ha : a ≤ f) (he : e.length ≤ a) (hes : es.length ≤ a) (hk : k ≤ 60) (hC : cxC f q tp S) (hM : cxM f tp T) (hS : stC q a e S) (hT : stM a 0 es T) (h72 : gI T 72 1 = (k : Int)) : ∃ x S' T', g_X4_readLine S = some (x, S') ∧ g_X10_line T = some T' ∧ kC q S S' ∧ kL (61 + k) T T' ∧ gI T' 72 1 = ((k + 1 : Nat) : Int) ∧ ((x = 1 ∧ ∃ (a' : Nat) (l : Lin), a < a' ∧ a' ≤ f ∧ okL l ∧ e.length + (sgL l).length ≤ a' + 1 ∧ es.length + (stL l).length ≤ a' ∧ stC q a' (e ++ sgL l) S' ∧ stM a' 0 (es ++ stL l) T' ∧ gI T' 73 (61 + k) = ((es.length + (l.1.getD []).length : Nat) : Int) ∧ gI T' 74 (61 + k) = ((es.length + (stL l).length : Nat) : Int)) ∨ ∃ p : Nat, p ≤ f ∧ gI S' 13 7 = (p : Int) ∧ gI T' 56 19 = (p : Int) ∧ gI T' 56 20 = (p : Int) ∧ (x = 0 ∨ (x = 1 ∧ 48 ≤ nx f tp p ∧ nx f tp p ≤ 57))) := by
  have f120 := ht.1
  have hE := ei_0 ht
  have e0 : (stk T 73 122 (w32 (61 + gI T 72 1)) (w16 (w16 (gI T 56 22)))) = some (sI T 73 (61 + k) (es.length : Int)) := by
    rw [h72, w32_61 k hk, stk_c (by omega), hT.2.2.2.1, w16_n _ (by omega)]
  have k0 : kL (61 + k) T (sI T 73 (61 + k) (es.length : Int)) := kL_e (Or.inl rfl) (Nat.le_refl _)
  obtain ⟨x1, S1, T1, h1, h2, h3, h4, h5⟩ := hE a e es S _ ha he hes hC (hM.l k0) hS (stM_x (by decide) hT)
  have q1 : kL (61 + k) T T1 := k0.tr (kL.m h4)
  have s1 : gI T1 72 1 = (k : Int) := by rw [h4.1 72 (by decide) (by decide) (by decide), gI_ne (by decide), h72]
  have s73 : gI T1 73 (61 + k) = (es.length : Int) := by rw [h4.1 73 (by decide) (by decide) (by decide), gI_eq]
  unfold g_X4_readLine g_X10_line
  rw [e0, bS, h1, h2, bd2S, bS, h72]
  rcases h5 with ⟨rfl, a', e1, g1, g2, g3, g4, g5, g6⟩ | h5
  · have hC1 := hC.k ht.2.1 h3
    have hM1 := hM.l q1
    have n1 := next_c hC1 f120 g4.1
    have n2 := look_m hM1 f120 g5.1
    rw [i10, if_neg (show ¬ 0 ≤ gI T1 56 20 by rw [g5.2.1]; decide), n2, bS]
    by_cases c : nx f tp a' = 63
    · have hz : a' < f ∧ lk f tp a' = nx f tp a' := by
        rcases nx_lk ht a' with z | z
        · exact z.2.2
        · omega
      rw [c] at n1
      rw [hz.2, if_pos c, takes_y n1, bd2S, i10]
      obtain ⟨S2, i1, i2, i3, i4⟩ := emit_c (S := sI S1 13 7 (w32 (gI S1 13 7 + 1))) ht.2.1 (hC.k ht.2.1 h3).2.2 (-63)
      have stS2 := i4 (a' + 1) (e ++ e1.map enc) (by rw [List.length_append, List.length_map]; omega) (stC_a ht.2.1 (by omega) g4)
      have kS2 : kC q S S2 := (h3.tr (kC_s (Or.inr rfl))).tr i2
      have stT2 : stM (a' + 1) 0 (es ++ e1) (sI (sI T1 56 19 (w32 (gI T1 56 19 + 1))) 73 (61 + k) ((es ++ e1).length : Int)) := stM_x (by decide) (stM_a (by omega) g5)
      have kT2 : kL (61 + k) T (sI (sI T1 56 19 (w32 (gI T1 56 19 + 1))) 73 (61 + k) ((es ++ e1).length : Int)) := (q1.tr (kL.m (kM_s (Or.inl rfl)))).tr (kL_e (Or.inl rfl) (Nat.le_refl _))
      have e2 : stk (sI T1 56 19 (w32 (gI T1 56 19 + 1))) 73 122 (w32 (61 + (k : Int))) (w16 (w16 (gI (sI T1 56 19 (w32 (gI T1 56 19 + 1))) 56 22))) = some (sI (sI T1 56 19 (w32 (gI T1 56 19 + 1))) 73 (61 + k) ((es ++ e1).length : Int)) := by
        rw [w32_61 k hk, stk_c (by omega), gI_ek (by decide), g5.2.2.2.1, w16_n _ (by rw [List.length_append]; omega)]
      obtain ⟨x2, S3, T3, y1, y2, y3, y4, y5⟩ := hE (a' + 1) (e ++ e1.map enc ++ [-63]) (es ++ e1) S2 _ hz.1 (by rw [List.length_append, List.length_append, List.length_map]; show e.length + e1.length + 1 ≤ a' + 1; omega) (by rw [List.length_append]; omega) (hC.k ht.2.1 kS2) (hM.l kT2) stS2 stT2
      have q3 : kL (61 + k) T T3 := kT2.tr (kL.m y4)
      have s3 : gI T3 72 1 = (k : Int) := by rw [y4.1 72 (by decide) (by decide) (by decide), gI_ne (by decide), gI_ne (by decide), s1]
      have t73 : gI T3 73 (61 + k) = ((es ++ e1).length : Int) := by rw [y4.1 73 (by decide) (by decide) (by decide), gI_eq]
      simp only [ap]
      rw [i1, bS, y1, bd2S, e2, bS, y2, bS]
      have le := le_m (w16 (w16 (gI T3 56 22))) hk s3 hk
      simp only [ap] at le
      rw [le]
      rcases y5 with ⟨rfl, a2, e2', z1, z2, z3, z4, z5, z6⟩ | ⟨p, n, z1, z2, z3, z4, z5, z6, z7, z8⟩
      · obtain ⟨S4, u1, u2, u3, u4⟩ := emit_c (S := S3) ht.2.1 (hC.k ht.2.1 (kS2.tr y3)).2.2 (-59)
        rw [i10, u1, bS]
        have stS4 := u4 a2 (e ++ e1.map enc ++ [-63] ++ e2'.map enc) (by rw [List.length_append, List.length_append, List.length_append, List.length_map, List.length_map]; show e.length + e1.length + 1 + e2'.length ≤ 120; omega) z4
        refine ⟨1, S4, _, rfl, rfl, (kS2.tr y3).tr u2, (q3.tr (kL_e (Or.inr rfl) (Nat.le_refl _))).tr kL_n, gI_eq, Or.inl ⟨rfl, a2, (some e1, e2'), by omega, z2, ⟨fun t h => by cases h; exact gn_W g6, gn_W z6⟩, ?_, ?_, ?_, ?_, ?_, ?_⟩⟩
        · show e.length + (e1.map enc ++ [-63] ++ e2'.map enc ++ [-59]).length ≤ a2 + 1
          rw [List.length_append, List.length_append, List.length_append, List.length_map, List.length_map]
          show e.length + (e1.length + 1 + e2'.length + 1) ≤ a2 + 1
          omega
        · show es.length + (e1 ++ e2').length ≤ a2
          rw [List.length_append]
          omega
        · show stC q a2 (e ++ (e1.map enc ++ [-63] ++ e2'.map enc ++ [-59])) S4
          rw [← List.append_assoc, ← List.append_assoc, ← List.append_assoc]
          exact stS4
        · show stM a2 0 (es ++ (e1 ++ e2')) _
          rw [← List.append_assoc]
          exact stM_x (by decide) (stM_x (by decide) z5)
        · rw [gI_ne (show (73 : Nat) ≠ 72 by decide), gI_ne (show (73 : Nat) ≠ 74 by decide), t73, List.length_append]
          rfl
        · rw [gI_ne (show (74 : Nat) ≠ 72 by decide), gI_eq, z5.2.2.2.1, w16_n _ (by rw [List.length_append, List.length_append]; omega)]
          show ((es ++ e1 ++ e2').length : Int) = ((es.length + (e1 ++ e2').length : Nat) : Int)
          rw [List.append_assoc, List.length_append]
      · have hfin : ∀ c k' : Nat, c = 56 → gI (sI (sI T3 74 (61 + k) (w16 (w16 (gI T3 56 22)))) 72 1 ((k + 1 : Nat) : Int)) c k' = gI T3 c k' := fun c k' hc => by rw [gI_ne (by omega), gI_ne (by omega)]
        rcases z8 with rfl | ⟨rfl, d1, d2⟩
        · rw [i00]
          exact ⟨0, S3, _, rfl, rfl, kS2.tr y3, (q3.tr (kL_e (Or.inr rfl) (Nat.le_refl _))).tr kL_n, gI_eq, Or.inr ⟨p, z2, z4, (hfin 56 19 rfl).trans z5, (hfin 56 20 rfl).trans z6, Or.inl rfl⟩⟩
        · obtain ⟨S4, u1, u2, u3, u4⟩ := emit_c (S := S3) ht.2.1 (hC.k ht.2.1 (kS2.tr y3)).2.2 (-59)
          rw [i10, u1, bS]
          exact ⟨1, S4, _, rfl, rfl, (kS2.tr y3).tr u2, (q3.tr (kL_e (Or.inr rfl) (Nat.le_refl _))).tr kL_n, gI_eq, Or.inr ⟨p, z2, u3.trans z4, (hfin 56 19 rfl).trans z5, (hfin 56 20 rfl).trans z6, Or.inr ⟨rfl, d1, d2⟩⟩⟩
    · have hz : ¬ lk f tp a' = 63 := by
        rcases nx_lk ht a' with z | z
        · rw [z.2.2.2]
          exact c
        · omega
      obtain ⟨S4, u1, u2, u3, u4⟩ := emit_c (S := S1) ht.2.1 (hC.k ht.2.1 h3).2.2 (-59)
      have stS4 := u4 a' (e ++ e1.map enc) (by rw [List.length_append, List.length_map]; omega) g4
      rw [if_neg hz, takes_n n1 c, bd2S, i00, u1, bS]
      have le := le_m (w16 (w16 (gI T1 56 22))) hk s1 hk
      rw [le]
      refine ⟨1, S4, _, rfl, rfl, h3.tr u2, (q1.tr (kL_e (Or.inr rfl) (Nat.le_refl _))).tr kL_n, gI_eq, Or.inl ⟨rfl, a', (none, e1), by omega, g2, ⟨fun t h => by (cases h), gn_W g6⟩, ?_, ?_, ?_, ?_, ?_, ?_⟩⟩
      · show e.length + (e1.map enc ++ [-59]).length ≤ a' + 1
        rw [List.length_append, List.length_map]
        show e.length + (e1.length + 1) ≤ a' + 1
        omega
      · show es.length + e1.length ≤ a'
        omega
      · show stC q a' (e ++ (e1.map enc ++ [-59])) S4
        rw [← List.append_assoc]
        exact stS4
      · exact stM_x (by decide) (stM_x (by decide) g5)
      · rw [gI_ne (show (73 : Nat) ≠ 72 by decide), gI_ne (show (73 : Nat) ≠ 74 by decide), s73]
        rfl
      · rw [gI_ne (show (74 : Nat) ≠ 72 by decide), gI_eq, g5.2.2.2.1, w16_n _ (by rw [List.length_append]; omega)]
        show ((es ++ e1).length : Int) = ((es.length + e1.length : Nat) : Int)
        rw [List.length_append]
  · obtain ⟨p, n, g1, g2, g3, g4, g5, g6, g7, g8⟩ := h5
    have hfin : ∀ c k' : Nat, c = 56 → gI (sI (sI T1 74 (61 + k) (w16 (w16 (gI T1 56 22)))) 72 1 ((k + 1 : Nat) : Int)) c k' = gI T1 c k' := fun c k' hc => by rw [gI_ne (by omega), gI_ne (by omega)]
    have le := le_m (w16 (w16 (gI T1 56 22))) hk s1 hk
    rw [if_pos (show 0 ≤ gI T1 56 20 by rw [g6]; omega), le]
    rcases g8 with rfl | ⟨rfl, d1, d2⟩
    · rw [i00]
      exact ⟨0, S1, _, rfl, rfl, h3, (q1.tr (kL_e (Or.inr rfl) (Nat.le_refl _))).tr kL_n, gI_eq, Or.inr ⟨p, g2, g4, (hfin 56 19 rfl).trans g5, (hfin 56 20 rfl).trans g6, Or.inl rfl⟩⟩
    · obtain ⟨S4, u1, u2, u3, u4⟩ := emit_c (S := S1) ht.2.1 (hC.k ht.2.1 h3).2.2 (-59)
      rw [i10, takes_n (next_c (hC.k ht.2.1 h3) f120 g4) (show ¬ nx f tp p = 63 by omega), bd2S, i00, u1, bS]
      exact ⟨1, S4, _, rfl, rfl, h3.tr u2, (q1.tr (kL_e (Or.inr rfl) (Nat.le_refl _))).tr kL_n, gI_eq, Or.inr ⟨p, g2, u3.trans g4, (hfin 56 19 rfl).trans g5, (hfin 56 20 rfl).trans g6, Or.inr ⟨rfl, d1, d2⟩⟩⟩
