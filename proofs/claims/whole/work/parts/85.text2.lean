/-! THE LAW'S TEXT: what comes of a piece of it; one sign more; a row of such -/
/-- both go on: b letters at least are behind them -/
def okR (k f q o b a : Nat) (e : List Int) (es : List TSt) (x : Int) (S' T' : Mem) : Prop := x = 1 ∧ ∃ (a' : Nat) (e1 : List TSt), b ≤ a' ∧ a' ≤ f ∧ a + e1.length ≤ a' ∧ stC q a' (e ++ e1.map enc) S' ∧ stM a' o (es ++ e1) T' ∧ gn k e1
/-- both have found a fault, or the class will where a digit stands -/
def flR (f : Nat) (tp : Nat → Int) (a n0 : Nat) (x : Int) (S' T' : Mem) : Prop := ∃ p n : Nat, a ≤ p ∧ p ≤ f ∧ n + a ≤ n0 + p + 1 ∧ gI S' 13 7 = (p : Int) ∧ gI T' 56 19 = (p : Int) ∧ gI T' 56 20 = (p : Int) ∧ gI T' 56 22 = (n : Int) ∧ (x = 0 ∨ (x = 1 ∧ 48 ≤ nx f tp p ∧ nx f tp p ≤ 57))
def rsR (k f q : Nat) (tp : Nat → Int) (o b a : Nat) (e : List Int) (es : List TSt) (S T : Mem) (x : Int) (S' T' : Mem) : Prop := kC q S S' ∧ kM T T' ∧ (okR k f q o b a e es x S' T' ∨ flR f tp a es.length x S' T')
/-- a piece that both read alike -/
def Rl (f q : Nat) (tp : Nat → Int) (o : Nat) (rc : Mem → Option (Int × Mem)) (rm : Mem → Option Mem) : Prop := ∀ (a : Nat) (e : List Int) (es : List TSt) (S T : Mem), a ≤ f → e.length ≤ a → es.length ≤ a → cxC f q tp S → cxM f tp T → stC q a e S → stM a o es T → ∃ x S' T', rc S = some (x, S') ∧ rm T = some T' ∧ rsR 0 f q tp o (a + 1) a e es S T x S' T'
theorem flR_up {f : Nat} {tp : Nat → Int} {a n0 a0 n1 : Nat} {x : Int} {S T : Mem} (h : flR f tp a n0 x S T) (ha : a0 ≤ a) (hn : n0 + a0 ≤ n1 + a) : flR f tp a0 n1 x S T := by
  obtain ⟨p, n, h1, h2, h3, h4⟩ := h
  exact ⟨p, n, by omega, h2, by omega, h4⟩
/-- first one piece, then more of it -/
theorem sq_l {k f q o b a a' : Nat} {tp : Nat → Int} {e : List Int} {es e1 : List TSt} {S T S1 T1 S2 T2 : Mem} {x : Int} (k1 : kC q S S1) (k2 : kM T T1) (hbb : b ≤ a') (hab : a ≤ a') (ha : a + e1.length ≤ a') (g1 : gn k e1) (h : rsR 1 f q tp o a' a' (e ++ e1.map enc) (es ++ e1) S1 T1 x S2 T2) : rsR k f q tp o b a e es S T x S2 T2 := by
  obtain ⟨h1, h2, h3⟩ := h
  refine ⟨k1.tr h1, k2.tr h2, ?_⟩
  rcases h3 with ⟨h3, c, e2, h4, h5, h6, h7, h8, h9⟩ | h3
  · refine Or.inl ⟨h3, c, e1 ++ e2, by omega, h5, by rw [List.length_append]; omega, ?_, ?_, gn_ap g1 h9⟩
    · rw [List.map_append, ← List.append_assoc]
      exact h7
    · rw [← List.append_assoc]
      exact h8
  · exact Or.inr (flR_up h3 (by omega) (by rw [List.length_append]; omega))
/-- an operator, what is behind it, and its step -/
theorem stp_l {f q o a : Nat} {tp : Nat → Int} {rc : Mem → Option (Int × Mem)} {rm : Mem → Option Mem} {c : Int} {e : List Int} {es : List TSt} {S T : Mem} (ht : tpO f q tp) (hR : Rl f q tp o rc rm) (hc : bop c) (ha : a < f) (he : e.length ≤ a) (hes : es.length ≤ a) (hC : cxC f q tp S) (hM : cxM f tp T) (hS : stC q a e S) (hT : stM a o es T) : ∃ x S2 S3 T2 T3, rc (sI S 13 7 (w32 (gI S 13 7 + 1))) = some (x, S2) ∧ g_X4_emit (w32 (-c)) S2 = some S3 ∧ rm (sI T 56 19 (w32 (gI T 56 19 + 1))) = some T2 ∧ g_X10_addStep c 0 T2 = some T3 ∧ rsR 1 f q tp o (a + 2) a e es S T x S3 T3 := by
  have r := bop_r hc
  have f120 := ht.1
  have ec : w32 (-c) = -c := w32s (by omega) (by omega)
  obtain ⟨x, S2, T2, h1, h2, h3, h4, h5⟩ := hR (a + 1) e es _ _ ha (by omega) (by omega) (hC.k ht.2.1 (kC_s (Or.inr rfl))) (hM.k (kM_s (Or.inl rfl))) (stC_a ht.2.1 (by omega) hS) (stM_a (by omega) hT)
  have k1 : kC q S S2 := kC.tr (kC_s (Or.inr rfl)) h3
  have k2 : kM T T2 := kM.tr (kM_s (Or.inl rfl)) h4
  obtain ⟨S3, i1, i2, i3, i4⟩ := emit_c ht.2.1 ((k1.2.2 13).symm ▸ hC.2.2 : gR S2 13 5 = some q) (w32 (-c))
  rcases h5 with ⟨hx, a', e1, g1, g2, g3, g4, g5, g6⟩ | ⟨p, n, g1, g2, g3, g4, g5, g6, g7, g8⟩
  · obtain ⟨T3, j1, j2, j3⟩ := add_s (c := c) (v := 0) ⟨by omega, by omega⟩ g5 (by rw [List.length_append]; omega)
    refine ⟨x, S2, S3, T2, T3, h1, i1, h2, j1, k1.tr i2, k2.tr j2, Or.inl ⟨hx, a', e1 ++ [(c, 0)], by omega, g2, by rw [List.length_append]; show a + (e1.length + 1) ≤ a'; omega, ?_, ?_, gn_o hc g6⟩⟩
    · have z := i4 a' (e ++ e1.map enc) (by rw [List.length_append, List.length_map]; omega) g4
      rw [ec] at z
      have q4 : enc (c, 0) = -c := by
        unfold enc
        rw [if_neg (show ¬ c = 1 by omega), if_neg (show ¬ c = 2 by omega), if_neg (show ¬ c = 3 by omega), if_neg (show ¬ c = 4 by omega)]
      rw [List.map_append, ← List.append_assoc]
      show stC q a' (e ++ e1.map enc ++ [enc (c, 0)]) S3
      rw [q4]
      exact z
    · rw [← List.append_assoc]
      exact j3
  · obtain ⟨T3, j1, j2, ⟨j3, j4, j5⟩, j6, -⟩ := add_m (c := c) (v := 0) ⟨by omega, by omega⟩ g7 (by omega)
    exact ⟨x, S2, S3, T2, T3, h1, i1, h2, j1, k1.tr i2, k2.tr j2, Or.inr ⟨p, n + 1, by omega, g2, by omega, i3.trans g4, j3.trans g5, j4.trans g6, j6, g8⟩⟩
/-- a row of pieces with operators between them, from behind its first -/
theorem lp_l {f q o : Nat} {tp : Nat → Int} {rc : Mem → Option (Int × Mem)} {rm : Mem → Option Mem} {sg : Int → Prop} {LC : Nat → Int → Int → Mem → Option (Int × Mem)} {LM' : Nat → Mem → Option Mem} (ht : tpO f q tp) (hR : Rl f q tp o rc rm) (hsg : ∀ c, sg c → bop c)
    (C1 : ∀ (fu : Nat) (v : Int) (S : Mem) (x : Int), v < 120 → g_X4_next S = some x → sg x → LC (fu + 1) 1 v S = bd2 (rc (sI S 13 7 (w32 (gI S 13 7 + 1)))) fun y S2 => (g_X4_emit (w32 (-x)) S2).bind fun S3 => LC fu y (w32 (v + 1)) S3)
    (C2 : ∀ (fu : Nat) (v : Int) (S : Mem) (x : Int), g_X4_next S = some x → ¬ sg x → LC (fu + 1) 1 v S = some (1, S))
    (C3 : ∀ (fu : Nat) (v : Int) (S : Mem), LC (fu + 1) 0 v S = some (0, S))
    (M1 : ∀ (fu : Nat) (T : Mem) (y : Int), gI T 56 20 < 0 → g_X10_look T = some y → sg y → LM' (fu + 1) T = (rm (sI T 56 19 (w32 (gI T 56 19 + 1)))).bind fun T2 => (g_X10_addStep y 0 T2).bind fun T3 => LM' fu T3)
    (M2 : ∀ (fu : Nat) (T : Mem) (y : Int), g_X10_look T = some y → ¬ sg y → LM' (fu + 1) T = some T)
    (M3 : ∀ (fu : Nat) (T : Mem), 0 ≤ gI T 56 20 → LM' (fu + 1) T = some T) :
    (∀ (fu fm : Nat) (v x : Int) (a n : Nat) (S T : Mem), cxC f q tp S → flR f tp a n x S T → LC (fu + 1) x v S = some (x, S) ∧ LM' (fm + 1) T = some T) ∧ ∀ (r a fu fm v : Nat) (e : List Int) (es : List TSt) (S T : Mem), f - a ≤ r → a ≤ f → r < fu → r < fm → v ≤ a → e.length ≤ a → es.length ≤ a → cxC f q tp S → cxM f tp T → stC q a e S → stM a o es T → ∃ x S' T', LC fu 1 (v : Int) S = some (x, S') ∧ LM' fm T = some T' ∧ rsR 1 f q tp o a a e es S T x S' T' := by
  have f120 := ht.1
  have X1 : ∀ (fu fm : Nat) (v x : Int) (a n : Nat) (S T : Mem), cxC f q tp S → flR f tp a n x S T → LC (fu + 1) x v S = some (x, S) ∧ LM' (fm + 1) T = some T := by
    intro fu fm v x a n S T hC h
    obtain ⟨p, n, g1, g2, g3, g4, g5, g6, g7, g8⟩ := h
    refine ⟨?_, M3 fm T (by rw [g6]; omega)⟩
    rcases g8 with rfl | ⟨rfl, d1, d2⟩
    · exact C3 fu v S
    · exact C2 fu v S _ (next_c hC f120 g4) (fun z => (bop_r (hsg _ z)).2.2.1 ⟨d1, d2⟩)
  refine ⟨X1, ?_⟩
  intro r
  induction r with
  | zero =>
    intro a fu fm v e es S T hr ha hf hm hv he hes hC hM hS hT
    obtain ⟨fu, rfl⟩ : ∃ k, fu = k + 1 := ⟨fu - 1, by omega⟩
    obtain ⟨fm, rfl⟩ : ∃ k, fm = k + 1 := ⟨fm - 1, by omega⟩
    have n1 := next_c hC f120 hS.1
    have n2 := look_m hM f120 hT.1
    have e1 : nx f tp a = -1 := by unfold nx; rw [if_neg (by omega)]
    have e2 : lk f tp a = -1 := by unfold lk; rw [if_neg (by omega)]
    have ns : ¬ sg (-1) := fun z => by have := (bop_r (hsg _ z)).1; omega
    rw [e1] at n1
    rw [e2] at n2
    exact ⟨1, S, T, C2 fu _ S _ n1 ns, M2 fm T _ n2 ns, kC.rf q S, kM.rf T, Or.inl ⟨rfl, a, [], Nat.le_refl _, ha, Nat.le_refl _, by rw [List.map_nil, List.append_nil]; exact hS, by rw [List.append_nil]; exact hT, ⟨fun z hz => (by cases hz), fun d => rfl⟩⟩⟩
  | succ r ih =>
    intro a fu fm v e es S T hr ha hf hm hv he hes hC hM hS hT
    obtain ⟨fu, rfl⟩ : ∃ k, fu = k + 1 := ⟨fu - 1, by omega⟩
    obtain ⟨fm, rfl⟩ : ∃ k, fm = k + 1 := ⟨fm - 1, by omega⟩
    have n1 := next_c hC f120 hS.1
    have n2 := look_m hM f120 hT.1
    by_cases c : sg (nx f tp a)
    · have cb := hsg _ c
      have r0 := bop_r cb
      have haf : a < f := by
        by_cases z : a < f
        · exact z
        · unfold nx at r0
          rw [if_neg z] at r0
          omega
      have el : lk f tp a = nx f tp a := by
        rcases nx_lk ht a with z | z
        · exact z.2.2.2
        · omega
      rw [el] at n2
      obtain ⟨x, S2, S3, T2, T3, h1, h2, h3, h4, k1, k2, h5⟩ := stp_l ht hR cb haf he hes hC hM hS hT
      rw [C1 fu _ S _ (show (v : Int) < 120 by omega) n1 c, M1 fm T _ (by rw [hT.2.1]; decide) n2 c, h1, h3, bd2S, bS, h2, h4, bS, bS, w32_a v (by omega)]
      rcases h5 with ⟨rfl, a', e1, g1, g2, g3, g4, g5, g6⟩ | h5
      · obtain ⟨x, S', T', y1, y2, y3⟩ := ih a' fu fm (v + 1) (e ++ e1.map enc) (es ++ e1) S3 T3 (by omega) g2 (by omega) (by omega) (by omega) (by rw [List.length_append, List.length_map]; omega) (by rw [List.length_append]; omega) (hC.k ht.2.1 k1) (hM.k k2) g4 g5
        exact ⟨x, S', T', y1, y2, sq_l k1 k2 (by omega) (by omega) g3 g6 y3⟩
      · obtain ⟨fu, rfl⟩ : ∃ k, fu = k + 1 := ⟨fu - 1, by omega⟩
        obtain ⟨fm, rfl⟩ : ∃ k, fm = k + 1 := ⟨fm - 1, by omega⟩
        obtain ⟨y1, y2⟩ := X1 fu fm ((v + 1 : Nat) : Int) x a es.length S3 T3 (hC.k ht.2.1 k1) h5
        exact ⟨x, S3, T3, y1, y2, k1, k2, Or.inr h5⟩
    · have c' : ¬ sg (lk f tp a) := by
        intro z
        have r0 := bop_r (hsg _ z)
        rcases nx_lk ht a with w | w
        · rw [w.2.2.2] at z
          exact c z
        · omega
      exact ⟨1, S, T, C2 fu _ S _ n1 c, M2 fm T _ n2 c', kC.rf q S, kM.rf T, Or.inl ⟨rfl, a, [], Nat.le_refl _, ha, Nat.le_refl _, by rw [List.map_nil, List.append_nil]; exact hS, by rw [List.append_nil]; exact hT, ⟨fun z hz => (by cases hz), fun d => rfl⟩⟩⟩
/-- a level of the grammar: a piece, and a row of such behind it -/
theorem lv_l {f q o : Nat} {tp : Nat → Int} {rc : Mem → Option (Int × Mem)} {rm : Mem → Option Mem} {LC : Nat → Int → Int → Mem → Option (Int × Mem)} {LM' : Nat → Mem → Option Mem} (ht : tpO f q tp) (hR : Rl f q tp o rc rm)
    (X : (∀ (fu fm : Nat) (v x : Int) (a n : Nat) (S T : Mem), cxC f q tp S → flR f tp a n x S T → LC (fu + 1) x v S = some (x, S) ∧ LM' (fm + 1) T = some T) ∧ ∀ (r a fu fm v : Nat) (e : List Int) (es : List TSt) (S T : Mem), f - a ≤ r → a ≤ f → r < fu → r < fm → v ≤ a → e.length ≤ a → es.length ≤ a → cxC f q tp S → cxM f tp T → stC q a e S → stM a o es T → ∃ x S' T', LC fu 1 (v : Int) S = some (x, S') ∧ LM' fm T = some T' ∧ rsR 1 f q tp o a a e es S T x S' T') :
    Rl f q tp o (fun S => bd2 (rc S) fun x S1 => LC FU x 0 S1) (fun T => (rm T).bind fun T1 => LM' FU T1) := by
  intro a e es S T ha he hes hC hM hS hT
  have f120 := ht.1
  obtain ⟨x, S1, T1, h1, h2, k1, k2, h5⟩ := hR a e es S T ha he hes hC hM hS hT
  simp only []
  rw [h1, h2, bd2S, bS]
  rcases h5 with ⟨rfl, a', e1, g1, g2, g3, g4, g5, g6⟩ | h5
  · obtain ⟨x, S', T', y1, y2, y3⟩ := X.2 120 a' FU FU 0 (e ++ e1.map enc) (es ++ e1) S1 T1 (by omega) g2 (by unfold FU; decide) (by unfold FU; decide) (Nat.zero_le _) (by rw [List.length_append, List.length_map]; omega) (by rw [List.length_append]; omega) (hC.k ht.2.1 k1) (hM.k k2) g4 g5
    exact ⟨x, S', T', y1, y2, sq_l k1 k2 g1 (by omega) g3 g6 y3⟩
  · obtain ⟨y1, y2⟩ := X.1 99999 99999 0 x a es.length S1 T1 (hC.k ht.2.1 k1) h5
    exact ⟨x, S1, T1, y1, y2, k1, k2, Or.inr h5⟩
