/-! A TELEGRAM ON A SHELF IS READ -/
theorem ref_v {nB : Nat} {Sc Sm : Mem} (h : RS nB Sc Sm) (x : Int) {t : Nat} (ht : t < 5) : (g_X7_refusal x (t : Int) Sc = some (-1) ∧ g_X10_isShelf x = some 0) ∨ ∃ q : Nat, q < 6 ∧ x = q ∧ g_X10_isShelf x = some 1 ∧ ((∃ r : Int, r < 0 ∧ r ≠ -1 ∧ g_X7_refusal x (t : Int) Sc = some r ∧ g_X10_rowFault x (t : Int) Sm = some r) ∨ (g_X7_refusal x (t : Int) Sc = some 0 ∧ g_X10_rowFault x (t : Int) Sm = some 0 ∧ ∃ n : Nat, n ≤ 60 ∧ gI Sc 21 q = n ∧ gI Sm 94 q = n ∧ ∀ k, k < 60 → gI Sm 95 (60 * q + k) = gI Sc (24 + q) k)) := by
  unfold g_X7_refusal g_X10_rowFault
  rw [has7, shelf_v]
  by_cases c : 0 ≤ x ∧ x < 6
  · obtain ⟨q, rfl⟩ := nat_of c.1
    have hq : q < 6 := by omega
    refine Or.inr ⟨q, hq, rfl, by rw [if_pos c], ?_⟩
    rw [if_pos c, i10]
    simp only [ldk_c hq, bS]
    rw [w32s (i := -2 - (t : Int)) (by omega) (by omega)]
    rcases h q hq with ⟨z1, z2⟩ | ⟨b, z1, z2, z3, z4⟩ | ⟨u, n, z1, z2, z3, z4, z5, z6, z7⟩
    · rw [z1, z2]
      exact Or.inl ⟨-11, by decide, by decide, rfl, rfl⟩
    · rw [z2, z4, if_neg (show ¬ (5 : Int) = -1 by decide), if_neg (show ¬ (5 : Int) = (t : Int) by omega), if_neg (show ¬ (b : Int) = -1 by omega), if_neg (show ¬ (b : Int) = -2 - (t : Int) by omega)]
      exact Or.inl ⟨-12, by decide, by decide, rfl, rfl⟩
    · rw [z3, z4, if_neg (show ¬ (u : Int) = -1 by omega), if_neg (show ¬ (-2 - (u : Int)) = -1 by omega)]
      by_cases e : u = t
      · subst e
        rw [if_pos rfl, if_pos rfl]
        exact Or.inr ⟨rfl, rfl, n, z2, z5, z6, z7⟩
      · rw [if_neg (by omega), if_neg (by omega)]
        exact Or.inl ⟨-12, by decide, by decide, rfl, rfl⟩
  · refine Or.inl ⟨?_, ?_⟩
    · rw [if_neg c, i00]
    · rw [if_neg c]
theorem at_c {S : Mem} {q k n : Nat} (hS : Shp S) (hq : q < 6) (hn : gI S 21 q = (n : Nat)) (h60 : n ≤ 60) (hk : k < n) : g_X7_at (q : Int) (k : Int) S = some (gI S (24 + q) k) := by
  unfold g_X7_at
  rw [has7, if_pos (show 0 ≤ (q : Int) ∧ (q : Int) < 6 by omega), i10, if_neg (show ¬ (k : Int) < 0 by omega), ldk_c hq, bS, hn, if_neg (show ¬ (n : Int) ≤ (k : Int) by omega), if_neg (show ¬ (60 : Int) ≤ (k : Int) by omega), ldr_n hq (hS.2 q hq), bS, ldd_c (tye q hq) (by omega) (by omega), bS]
theorem at_m {S : Mem} {q k : Nat} (hq : q < 6) (hk : k < 60) : g_X10_at (q : Int) (k : Int) S = some (w32 (gI S 95 (60 * q + k))) := by
  have e0 : w32 (w32 (60 * (q : Int)) + (k : Int)) = ((60 * q + k : Nat) : Int) := by
    rw [w32s (i := 60 * (q : Int)) (by omega) (by omega), w32s (by omega) (by omega)]
    omega
  have v : 60 * q + k < 360 := by clear e0; omega
  unfold g_X10_at
  rw [e0, ldk_c v, bS]
theorem hasw {S : Mem} {nW : Nat} (hb : nW ≤ 12) (hW : gI S 1 1 = (nW : Nat)) (x : Int) : g_X5_has x 0 S = if 0 ≤ x ∧ x < nW then 1 else 0 := by
  unfold g_X5_has
  rw [hW]
  (repeat' split) <;> first | rfl | omega
theorem isw {S : Mem} {nW : Nat} (hb : nW ≤ 12) (hW : gI S 56 1 = (nW : Nat)) (x : Int) : g_X10_isWord x S = some (if 0 ≤ x ∧ x < nW then 1 else 0) := by
  have e1 : w32 ((nW : Int) - 1) = (nW : Int) - 1 := w32s (by omega) (by omega)
  unfold g_X10_isWord
  rw [hW, e1, inn, chk_b]
  clear e1
  congr 1
  (repeat' split) <;> first | rfl | omega
def KT (S S' : Mem) : Prop := (∀ c, c ≠ 30 → c ≠ 31 → gI S' c = gI S c) ∧ ∀ c, gR S' c = gR S c
def KW (S S' : Mem) : Prop := (∀ c, c ≠ 56 → c ≠ 77 → gI S' c = gI S c) ∧ ∀ k, k ≠ 32 → gI S' 56 k = gI S 56 k
theorem KT.tr {S S' S'' : Mem} (h : KT S S') (g : KT S' S'') : KT S S'' := ⟨fun c h1 h2 => (g.1 c h1 h2).trans (h.1 c h1 h2), fun c => (g.2 c).trans (h.2 c)⟩
theorem KW.tr {S S' S'' : Mem} (h : KW S S') (g : KW S' S'') : KW S S'' := ⟨fun c h1 h2 => (g.1 c h1 h2).trans (h.1 c h1 h2), fun k hk => (g.2 k hk).trans (h.2 k hk)⟩
/-- the telegram that was read last is this one -/
def TG (nW : Nat) (S : Mem) (ws : List Nat) : Prop := (ws.length ≤ 12 ∧ ∀ k, k < ws.length → ws.getD k 0 < nW) ∧ gI S 30 5 = ws.length ∧ ∀ k, k < ws.length → gI S 31 k = ((ws.getD k 0 : Nat) : Int)
def TW (nW : Nat) (S : Mem) (ws : List Nat) : Prop := (ws.length ≤ 12 ∧ ∀ k, k < ws.length → ws.getD k 0 < nW) ∧ gI S 56 32 = ws.length ∧ ∀ k, k < ws.length → gI S 77 k = ((ws.getD k 0 : Nat) : Int)
/-- the words that a row tells, from a place on, so many at most -/
def rd (nW : Nat) (e : Nat → Int) : Nat → Nat → List Nat
  | 0, _ => []
  | m + 1, i => if 0 ≤ e i ∧ e i < nW then (e i).toNat :: rd nW e m (i + 1) else []
theorem getD_app {pre : List Nat} {w k : Nat} (h : k < (pre ++ [w]).length) : (pre ++ [w]).getD k 0 = if k = pre.length then w else pre.getD k 0 := by
  rw [List.length_append] at h
  have h : k < pre.length + 1 := h
  by_cases e : k = pre.length
  · subst e
    rw [if_pos rfl, List.getD_eq_getElem?_getD, List.getElem?_append_right (Nat.le_refl _), Nat.sub_self]
    rfl
  · rw [if_neg e, List.getD_eq_getElem?_getD, List.getD_eq_getElem?_getD, List.getElem?_append_left (by omega)]
theorem TG_app {nW : Nat} {S : Mem} {pre : List Nat} {w : Nat} (h : TG nW S pre) (hw : w < nW) (hl : pre.length < 12) : TG nW (sI (sI S 31 pre.length (w : Int)) 30 5 ((pre.length + 1 : Nat) : Int)) (pre ++ [w]) := by
  obtain ⟨⟨h1, h2⟩, h3, h4⟩ := h
  have l : (pre ++ [w]).length = pre.length + 1 := by rw [List.length_append]; rfl
  refine ⟨⟨by omega, fun k hk => ?_⟩, by rw [gI_eq, l], fun k hk => ?_⟩
  · rw [getD_app hk]
    split
    · exact hw
    · exact h2 k (by omega)
  · rw [getD_app hk, gI_ne (by decide), gI_sI]
    by_cases e : k = pre.length
    · rw [if_pos e, if_pos ⟨rfl, e⟩]
    · rw [if_neg e, if_neg (fun z => e z.2)]
      exact h4 k (by omega)
theorem TW_app {nW : Nat} {S : Mem} {pre : List Nat} {w : Nat} (h : TW nW S pre) (hw : w < nW) (hl : pre.length < 12) : TW nW (sI (sI S 77 pre.length (w : Int)) 56 32 ((pre.length + 1 : Nat) : Int)) (pre ++ [w]) := by
  obtain ⟨⟨h1, h2⟩, h3, h4⟩ := h
  have l : (pre ++ [w]).length = pre.length + 1 := by rw [List.length_append]; rfl
  refine ⟨⟨by omega, fun k hk => ?_⟩, by rw [gI_eq, l], fun k hk => ?_⟩
  · rw [getD_app hk]
    split
    · exact hw
    · exact h2 k (by omega)
  · rw [getD_app hk, gI_ne (by decide), gI_sI]
    by_cases e : k = pre.length
    · rw [if_pos e, if_pos ⟨rfl, e⟩]
    · rw [if_neg e, if_neg (fun z => e z.2)]
      exact h4 k (by omega)
theorem read_l {nW q n M : Nat} {E : Nat → Int} (hb : nW ≤ 12) (hq : q < 6) (h60 : n ≤ 60) (hM : M ≤ 12 ∧ M ≤ n) : ∀ (m i fu : Nat) (S : Mem) (pre : List Nat), Shp S → gI S 1 1 = (nW : Nat) → gI S 21 q = (n : Nat) → (∀ k, k < 60 → gI S (24 + q) k = E k) → pre.length = i → i + m = M → m < fu → TG nW S pre → ∃ S', g_X8_read_L19 (q : Int) (M : Int) fu (i : Int) S = some S' ∧ TG nW S' (pre ++ rd nW (fun k => w32 (E k)) m i) ∧ KT S S' := by
  intro m
  induction m with
  | zero =>
    intro i fu S pre hS hW hn hE hp hi hf ht
    obtain ⟨fu, rfl⟩ : ∃ k, fu = k + 1 := ⟨fu - 1, by omega⟩
    rw [g_X8_read_L19.eq_2, if_pos (by omega)]
    exact ⟨S, rfl, by rw [show rd nW (fun k => w32 (E k)) 0 i = [] from rfl, List.append_nil]; exact ht, fun _ _ _ => rfl, fun _ => rfl⟩
  | succ m ih =>
    intro i fu S pre hS hW hn hE hp hi hf ht
    obtain ⟨fu, rfl⟩ : ∃ k, fu = k + 1 := ⟨fu - 1, by omega⟩
    rw [g_X8_read_L19.eq_2, if_neg (by omega), at_c hS hq hn h60 (by omega), bS, hasw hb hW, hE i (by omega)]
    show ∃ S', _ ∧ TG nW S' (pre ++ (if 0 ≤ w32 (E i) ∧ w32 (E i) < nW then (w32 (E i)).toNat :: rd nW (fun k => w32 (E k)) m (i + 1) else [])) ∧ _
    by_cases c : 0 ≤ w32 (E i) ∧ w32 (E i) < nW
    · obtain ⟨w, hw⟩ := nat_of c.1
      rw [hw] at c ⊢
      have hw' : w < nW := by omega
      rw [if_pos c, i10, if_pos c, Int.toNat_natCast, stk_c (show i < 12 by omega), bS]
      simp only [ap]
      rw [w32_a i (by omega)]
      have ht2 := TG_app (w := w) ht hw' (by omega)
      rw [hp] at ht2
      obtain ⟨S', a1, a2, a3⟩ := ih (i + 1) fu (sI (sI S 31 i (w : Int)) 30 5 ((i + 1 : Nat) : Int)) (pre ++ [w]) (Shp_of hS rfl rfl) (by rw [gI_ne (by decide), gI_ne (by decide)]; exact hW) (by rw [gI_ne (by decide), gI_ne (by decide)]; exact hn) (fun k hk => by rw [gI_ne (by omega), gI_ne (by omega)]; exact hE k hk) (by rw [List.length_append, hp]; rfl) (by omega) (by omega) ht2
      rw [List.append_assoc] at a2
      have kt : KT S (sI (sI S 31 i (w : Int)) 30 5 ((i + 1 : Nat) : Int)) := ⟨fun c h1 h2 => by rw [gI_ne h1, gI_ne h2], fun c => rfl⟩
      exact ⟨S', a1, a2, kt.tr a3⟩
    · rw [if_neg c, i00, if_neg c, List.append_nil]
      exact ⟨S, rfl, ht, fun _ _ _ => rfl, fun _ => rfl⟩
theorem lay_l {nW q n M : Nat} {E : Nat → Int} (hb : nW ≤ 12) (hq : q < 6) (h60 : n ≤ 60) (hM : M ≤ 12 ∧ M ≤ n ∧ (M = 12 ∨ M = n)) : ∀ (m i fu : Nat) (S : Mem) (pre : List Nat), gI S 56 1 = (nW : Nat) → gI S 94 q = (n : Nat) → (∀ k, k < 60 → gI S 95 (60 * q + k) = E k) → pre.length = i → i + m = M → m < fu → TW nW S pre → ∃ S', g_X10_layWired_L5 (q : Int) fu S = some S' ∧ TW nW S' (pre ++ rd nW (fun k => w32 (E k)) m i) ∧ KW S S' := by
  intro m
  induction m with
  | zero =>
    intro i fu S pre hW hn hE hp hi hf ht
    obtain ⟨fu, rfl⟩ : ∃ k, fu = k + 1 := ⟨fu - 1, by omega⟩
    have e : gI S 56 32 = (i : Int) := by rw [ht.2.1, hp]
    refine ⟨S, ?_, by rw [show rd nW (fun k => w32 (E k)) 0 i = [] from rfl, List.append_nil]; exact ht, fun _ _ _ => rfl, fun _ _ => rfl⟩
    rw [g_X10_layWired_L5.eq_2, e]
    by_cases c : M = 12
    · rw [if_pos (by omega)]
    · rw [if_neg (by omega), ldk_c hq, bS, hn, if_pos (by omega)]
  | succ m ih =>
    intro i fu S pre hW hn hE hp hi hf ht
    obtain ⟨fu, rfl⟩ : ∃ k, fu = k + 1 := ⟨fu - 1, by omega⟩
    have e : gI S 56 32 = (i : Int) := by rw [ht.2.1, hp]
    rw [g_X10_layWired_L5.eq_2, e, if_neg (by omega), ldk_c hq, bS, hn, if_neg (by omega), at_m hq (by omega), bS, isw hb hW, bS, hE i (by omega)]
    show ∃ S', _ ∧ TW nW S' (pre ++ (if 0 ≤ w32 (E i) ∧ w32 (E i) < nW then (w32 (E i)).toNat :: rd nW (fun k => w32 (E k)) m (i + 1) else [])) ∧ _
    by_cases c : 0 ≤ w32 (E i) ∧ w32 (E i) < nW
    · obtain ⟨w, hw⟩ := nat_of c.1
      rw [hw] at c ⊢
      have hw' : w < nW := by omega
      rw [if_pos c, i10, if_pos c, Int.toNat_natCast, bS, stk_c (show i < 12 by omega), bS]
      simp only [ap]
      rw [gI_ne (c := 77) (c' := 56) (by decide), e, w32_a i (by omega)]
      have ht2 := TW_app (w := w) ht hw' (by omega)
      rw [hp] at ht2
      obtain ⟨S', a1, a2, a3⟩ := ih (i + 1) fu (sI (sI S 77 i (w : Int)) 56 32 ((i + 1 : Nat) : Int)) (pre ++ [w]) (by rw [gI_ek (by decide), gI_ne (by decide)]; exact hW) (by rw [gI_ne (by decide), gI_ne (by decide)]; exact hn) (fun k hk => by rw [gI_ne (by decide), gI_ne (by decide)]; exact hE k hk) (by rw [List.length_append, hp]; rfl) (by omega) (by omega) ht2
      rw [List.append_assoc] at a2
      have kt : KW S (sI (sI S 77 i (w : Int)) 56 32 ((i + 1 : Nat) : Int)) := ⟨fun c h1 h2 => by rw [gI_ne h1, gI_ne h2], fun k hk => by rw [gI_ek hk, gI_ne (by decide)]⟩
      exact ⟨S', a1, a2, kt.tr a3⟩
    · rw [if_neg c, i00, if_neg c, List.append_nil]
      exact ⟨S, rfl, ht, fun _ _ _ => rfl, fun _ _ => rfl⟩
theorem min_j {a b : Nat} : g_J9_min_7cf53 (a : Int) (b : Int) = ((min a b : Nat) : Int) := by
  unfold g_J9_min_7cf53
  split <;> omega
/-- a shelf is opened: what refuses it, or the same telegram on both sides -/
theorem open_v {b nW nP nB : Nat} {law : Option (List Lin)} {Sc Sm : Mem} (h : Inv b nW nP nB law Sc Sm) (x : Int) : (∃ r : Int, r < 0 ∧ g_X9_opened x Sc = some (r, Sc) ∧ ((g_X10_isShelf x = some 0 ∧ r = -1) ∨ (g_X10_isShelf x = some 1 ∧ r ≠ -1 ∧ g_X10_rowFault x 0 Sm = some r))) ∨ ∃ ws S1 T1, g_X9_opened x Sc = some (0, S1) ∧ KT Sc S1 ∧ TG nW S1 ws ∧ g_X10_isShelf x = some 1 ∧ g_X10_rowFault x 0 Sm = some 0 ∧ g_X10_layWired x Sm = some T1 ∧ KW Sm T1 ∧ TW nW T1 ws := by
  obtain ⟨g0, ⟨o1, o2, o3, o4, o5⟩, g2, g3, g4, g5, -⟩ := h
  unfold g_X9_opened
  rcases ref_v g5 x (t := 0) (by decide) with ⟨r1, r2⟩ | ⟨q, hq, rfl, r2, ⟨r, z1, z2, z3, z4⟩ | ⟨z3, z4, n, n1, n2, n3, n4⟩⟩
  · rw [show ((0 : Nat) : Int) = 0 from rfl] at r1
    rw [r1, bS, if_neg (by decide)]
    exact Or.inl ⟨-1, by decide, rfl, Or.inl ⟨r2, rfl⟩⟩
  · rw [show ((0 : Nat) : Int) = 0 from rfl] at z3 z4
    rw [z3, bS, if_neg (by omega)]
    exact Or.inl ⟨r, z1, rfl, Or.inr ⟨r2, z2, z4⟩⟩
  · rw [show ((0 : Nat) : Int) = 0 from rfl] at z3 z4
    rw [z3, bS, if_pos rfl]
    unfold g_X8_read g_X10_layWired g_X7_sizeOf
    simp only [ap]
    have tg : TG nW (sI Sc 30 5 0) [] := ⟨⟨Nat.zero_le _, fun k hk => absurd hk (Nat.not_lt_zero k)⟩, gI_eq, fun k hk => absurd hk (Nat.not_lt_zero k)⟩
    have tw : TW nW (sI Sm 56 32 0) [] := ⟨⟨Nat.zero_le _, fun k hk => absurd hk (Nat.not_lt_zero k)⟩, gI_eq, fun k hk => absurd hk (Nat.not_lt_zero k)⟩
    obtain ⟨S1, a1, a2, a3⟩ := read_l (nW := nW) (q := q) (n := n) (M := min 12 n) (E := gI Sc (24 + q)) (by omega) hq n1 ⟨by omega, by omega⟩ (min 12 n) 0 FU (sI Sc 30 5 0) [] (Shp_of g0 rfl rfl) (by rw [gI_ne (by decide)]; exact o2.1) (by rw [gI_ne (by decide)]; exact n2) (fun k hk => by rw [gI_ne (by omega)]) rfl (Nat.zero_add _) (by unfold FU; omega) tg
    obtain ⟨T1, b1, b2, b3⟩ := lay_l (nW := nW) (q := q) (n := n) (M := min 12 n) (E := gI Sc (24 + q)) o1.1 hq n1 ⟨by omega, by omega, by omega⟩ (min 12 n) 0 FU (sI Sm 56 32 0) [] (by rw [gI_ek (by decide)]; exact o3.1) (by rw [gI_ne (by decide)]; exact n3) (fun k hk => by rw [gI_ne (by decide)]; exact n4 k hk) rfl (Nat.zero_add _) (by unfold FU; omega) tw
    rw [has7, if_pos (show 0 ≤ (q : Int) ∧ (q : Int) < 6 by omega), i10, ldk_c hq, bS, bS, gI_ne (c := 30) (c' := 21) (by decide), n2, show (12 : Int) = ((12 : Nat) : Int) from rfl, min_j]
    rw [show ((0 : Nat) : Int) = 0 from rfl] at a1
    have kt : KT Sc (sI Sc 30 5 0) := ⟨fun c h1 h2 => gI_ne h1, fun c => rfl⟩
    have kw : KW Sm (sI Sm 56 32 0) := ⟨fun c h1 h2 => gI_ne h1, fun k hk => gI_ek hk⟩
    refine Or.inr ⟨rd nW (fun k => w32 (gI Sc (24 + q) k)) (min 12 n) 0, S1, T1, by rw [a1, bS], kt.tr a3, a2, r2, z4, b1, kw.tr b3, b2⟩
