/-! THE PRICE OF A WORD, class -/
theorem tdn {a : Int} (b : Int) (h : 0 ≤ a) : a.tdiv b = a / b := Int.tdiv_eq_ediv_of_nonneg h
theorem tmn {a : Int} (b : Int) (h : 0 ≤ a) : a.tmod b = a % b := Int.tmod_eq_emod_of_nonneg h
theorem stp_c {F G : Nat → Int} (h : ∀ k, k < 6 → F k = G k) {q : TSt} (hq : okS q) (st : List Int) : stp F q st = stp G q st := by
  unfold stp
  by_cases c1 : q.1 = 1
  · rw [if_pos c1, if_pos c1]
  · rw [if_neg c1, if_neg c1]
    by_cases c2 : q.1 = 2
    · have e : F q.2.toNat = G q.2.toNat := by
        refine h _ ?_
        rcases hq with z | ⟨z, z1, z2⟩ | z | z | z
        · exact absurd z.1 c1
        · omega
        · omega
        · omega
        · rw [c2] at z
          exact absurd z (by decide)
      rw [if_pos c2, if_pos c2, e]
    · rw [if_neg c2, if_neg c2]
theorem run_c {F G : Nat → Int} (h : ∀ k, k < 6 → F k = G k) : ∀ (es : List TSt), (∀ q ∈ es, okS q) → ∀ st, run F es st = run G es st
  | [], _, _ => rfl
  | q :: es, hq, st => by
    show run F es (stp F q st) = run G es (stp G q st)
    rw [stp_c h (hq q (List.mem_cons_self ..)), run_c h es (fun q hx => hq q (List.mem_cons_of_mem _ hx))]
theorem evL_c {F G : Nat → Int} : ∀ {ls : List Lin}, (∀ l ∈ ls, okL l) → (∀ k, k < 6 → F k = G k) → evL F ls = evL G ls
  | [], _, _ => rfl
  | (t, x) :: ls, hl, h => by
    obtain ⟨o1, o2⟩ := hl (t, x) (List.mem_cons_self ..)
    have ih := evL_c (ls := ls) (fun l hx => hl l (List.mem_cons_of_mem _ hx)) h
    have ex : val F x = val G x := by unfold val; rw [run_c h x o2.1]
    cases t with
    | none => exact ex
    | some t =>
      have et : val F t = val G t := by unfold val; rw [run_c h t (o1 t rfl).1]
      show (if val F t = 0 then _ else _) = (if val G t = 0 then _ else _)
      rw [et, ex, ih]
def KS (S S' : Mem) : Prop := (∀ c, c ≠ 13 → c ≠ 18 → gI S' c = gI S c) ∧ (∀ k, k ≠ 10 → gI S' 13 k = gI S 13 k) ∧ ∀ c, gR S' c = gR S c
theorem KS.rf (S : Mem) : KS S S := ⟨fun _ _ _ => rfl, fun _ _ => rfl, fun _ => rfl⟩
theorem KS.tr {S S' S'' : Mem} (h : KS S S') (g : KS S' S'') : KS S S'' := ⟨fun c h1 h2 => (g.1 c h1 h2).trans (h.1 c h1 h2), fun k hk => (g.2.1 k hk).trans (h.2.1 k hk), fun c => (g.2.2 c).trans (h.2.2 c)⟩
def TC (S : Mem) (st : List Int) : Prop := gI S 13 10 = st.length ∧ Pl (gI S 18) st
theorem push_c {S : Mem} {st : List Int} (v : Int) (h : TC S st) (hl : st.length < 121) : ∃ S', g_X4_push v S = some S' ∧ TC S' (v :: st) ∧ KS S S' := by
  have v1 : ¬ ((st.length : Nat) : Int) < 0 := by omega
  have v2 : ¬ (121 : Int) ≤ ((st.length : Nat) : Int) := by omega
  unfold g_X4_push
  rw [h.1, if_neg v1, if_neg v2]
  simp only [ap]
  rw [w32_a _ (by omega), stk_c hl, bS]
  refine ⟨_, rfl, ⟨by rw [gI_ne (by decide), gI_eq]; rfl, by rw [gI_eq], Pl_c st (fun k hk => ?_) h.2⟩, fun c h1 h2 => by rw [gI_ne h2, gI_ne h1], fun k hk => by rw [gI_ne (by decide), gI_ek hk], fun c => rfl⟩
  rw [gI_ek (by omega), gI_ne (by decide)]
theorem pop_c {S : Mem} {a : Int} {r : List Int} (h : TC S (a :: r)) (hl : r.length < 121) : ∃ S', g_X4_pop S = some (a, S') ∧ TC S' r ∧ KS S S' := by
  have e : gI S 13 10 = ((r.length + 1 : Nat) : Int) := h.1
  have v1 : ¬ ((r.length + 1 : Nat) : Int) ≤ 0 := by omega
  have v2 : ¬ (121 : Int) < ((r.length + 1 : Nat) : Int) := by omega
  unfold g_X4_pop
  rw [e, if_neg v1, if_neg v2]
  simp only [ap]
  rw [w32_m _ (by omega), ldk_c hl, bS, gI_ne (by decide), h.2.1]
  exact ⟨_, rfl, ⟨gI_eq, Pl_c r (fun k hk => by rw [gI_ne (by decide)]) h.2.2⟩, fun c h1 h2 => gI_ne h1, fun k hk => gI_ek hk, fun c => rfl⟩
theorem lnd_s {q : Nat} (h : q = 15 ∨ q = 16) : lnd 1 q = some 121 := by
  rcases h with rfl | rfl <;> rfl
theorem ldd_s {S : Mem} {q k : Nat} (h : q = 15 ∨ q = 16) (hk : k < 121) : ldd S 1 q (k : Int) = some (gI S q k) := by
  rcases h with rfl | rfl
  · exact ldd_c rfl (by decide) hk
  · exact ldd_c rfl (by decide) hk
-- a sign is at hand
theorem sgn_c {S : Mem} {rw fu i m : Nat} {v1 x : Int} (hr : gR S 13 3 = some rw) (h15 : rw = 15 ∨ rw = 16) (hm : gI S 13 4 = (m : Nat)) (hi : i < m) (h121 : m ≤ 121) (hs : gI S rw i = x) : g_X4_worked_L9 (fu + 1) v1 (i : Int) S = if x < 0 then if x < (w32 (-6)) then if x = (-63) then bd2 (g_X4_pop S) fun x22 S21 => if x22 = 0 then g_X4_worked_L9 fu 0 ((i + 1 : Nat) : Int) S21 else g_X4_worked_L9 fu 1 ((i + 1 : Nat) : Int) S21 else if x = (-59) then bd2 (g_X4_pop S) fun x20 S19 => if v1 = 0 then g_X4_worked_L9 fu 1 ((i + 1 : Nat) : Int) S19 else some (x20, S19) else if x = (-33) then bd2 (g_X4_pop S) fun x16 S15 => if x16 = 0 then (g_X4_push 1 S15).bind fun S18 => g_X4_worked_L9 fu v1 ((i + 1 : Nat) : Int) S18 else (g_X4_push 0 S15).bind fun S17 => g_X4_worked_L9 fu v1 ((i + 1 : Nat) : Int) S17 else if x = (-126) then bd2 (g_X4_pop S) fun x13 S12 => (g_X4_push (w32 (-x13)) S12).bind fun S14 => g_X4_worked_L9 fu v1 ((i + 1 : Nat) : Int) S14 else bd2 (g_X4_pop S) fun x7 S6 => bd2 (g_X4_pop S6) fun x9 S8 => (g_X4_workedOut (w32 (-x)) x9 x7).bind fun x10 => (g_X4_push x10 S8).bind fun S11 => g_X4_worked_L9 fu v1 ((i + 1 : Nat) : Int) S11 else (ldk S 17 6 (w32 ((-1) - x))).bind fun x23 => (g_X4_push x23 S).bind fun S24 => g_X4_worked_L9 fu v1 ((i + 1 : Nat) : Int) S24 else (g_X4_push x S).bind fun S25 => g_X4_worked_L9 fu v1 ((i + 1 : Nat) : Int) S25 := by
  have v1' : ¬ ((m : Nat) : Int) ≤ (i : Int) := by omega
  have v2' : ¬ (121 : Int) ≤ (i : Int) := by omega
  rw [g_X4_worked_L9.eq_2, hm, if_neg v1', hr, bS, lnd_s h15, bS, if_neg v2', bS, ldd_s h15 (by omega), bS, hs, w32_a i (by omega)]
theorem wk_step {S : Mem} {st : List Int} {q : TSt} {rw fu i m d : Nat} {v1 : Int} (hr : gR S 13 3 = some rw) (h15 : rw = 15 ∨ rw = 16) (hm : gI S 13 4 = (m : Nat)) (hi : i < m) (h121 : m ≤ 121) (hs : gI S rw i = enc q) (hq : okS q) (ht : TC S st) (hl : st.length < 121) (hd : dp [q] st.length = some d) : ∃ S', g_X4_worked_L9 (fu + 1) v1 (i : Int) S = g_X4_worked_L9 fu v1 ((i + 1 : Nat) : Int) S' ∧ TC S' (stp (gI S 17) q st) ∧ KS S S' := by
  rw [sgn_c hr h15 hm hi h121 hs]
  clear hs hi
  obtain ⟨o, x⟩ := q
  rcases hq with ⟨h, h1, h2⟩ | ⟨h, h1, h2⟩ | h | h | h
  · have h : o = 1 := h
    subst h
    have h1 : 0 ≤ x := h1
    rw [show enc (1, x) = x from rfl, if_neg (by omega)]
    obtain ⟨S', e1, e2, e3⟩ := push_c x ht hl
    rw [e1, bS]
    exact ⟨S', rfl, e2, e3⟩
  · have h : o = 2 := h
    subst h
    obtain ⟨x, rfl⟩ := nat_of (show 0 ≤ x from h1)
    have h2 : (x : Int) < 6 := h2
    have e0 : enc (2, (x : Int)) = -1 - (x : Int) := rfl
    have e1 : w32 (-1 - (-1 - (x : Int))) = (x : Int) := by
      rw [w32s (by omega) (by omega)]
      omega
    have u1 : -1 - (x : Int) < 0 := by omega
    have u2 : ¬ (-1 - (x : Int)) < -6 := by clear e1; omega
    have v6 : x < 6 := by clear e1; omega
    have e2 : w32 (-6) = -6 := by decide
    rw [e0, if_pos u1, e2, if_neg u2, e1, ldk_c v6, bS]
    obtain ⟨S', e1, e2, e3⟩ := push_c (gI S 17 x) ht hl
    rw [e1, bS]
    exact ⟨S', rfl, e2, e3⟩
  · have h : o = 3 := h
    subst h
    rw [show enc (3, x) = -33 from rfl, if_pos (by decide), if_pos (by decide), if_neg (by decide), if_neg (by decide), if_pos rfl]
    cases st with
    | nil => cases hd
    | cons a r =>
      obtain ⟨S1, p1, p2, p3⟩ := pop_c ht (Nat.lt_of_succ_lt hl)
      rw [p1, bd2S]
      show ∃ S', _ ∧ TC S' ((if a = 0 then 1 else 0) :: r) ∧ _
      by_cases c : a = 0
      · rw [if_pos c, if_pos c]
        obtain ⟨S', e1, e2, e3⟩ := push_c 1 p2 (Nat.lt_of_succ_lt hl)
        rw [e1, bS]
        exact ⟨S', rfl, e2, p3.tr e3⟩
      · rw [if_neg c, if_neg c]
        obtain ⟨S', e1, e2, e3⟩ := push_c 0 p2 (Nat.lt_of_succ_lt hl)
        rw [e1, bS]
        exact ⟨S', rfl, e2, p3.tr e3⟩
  · have h : o = 4 := h
    subst h
    rw [show enc (4, x) = -126 from rfl, if_pos (by decide), if_pos (by decide), if_neg (by decide), if_neg (by decide), if_neg (by decide), if_pos rfl]
    cases st with
    | nil => cases hd
    | cons a r =>
      obtain ⟨S1, p1, p2, p3⟩ := pop_c ht (Nat.lt_of_succ_lt hl)
      rw [p1, bd2S]
      obtain ⟨S', e1, e2, e3⟩ := push_c (w32 (-a)) p2 (Nat.lt_of_succ_lt hl)
      rw [e1, bS]
      exact ⟨S', rfl, e2, p3.tr e3⟩
  · have h : o ∈ ([43, 45, 42, 47, 37, 60, 61, 62, 38, 124] : List Int) := h
    have key : o ≠ 1 ∧ o ≠ 2 ∧ o ≠ 3 ∧ o ≠ 4 ∧ enc (o, x) = -o ∧ w32 (- -o) = o ∧ -o < 0 ∧ -o < w32 (-6) ∧ -o ≠ -63 ∧ -o ≠ -59 ∧ -o ≠ -33 ∧ -o ≠ -126 := by
      simp only [List.mem_cons, List.not_mem_nil, or_false] at h
      rcases h with rfl | rfl | rfl | rfl | rfl | rfl | rfl | rfl | rfl | rfl <;> exact ⟨by decide, by decide, by decide, by decide, rfl, rfl, by decide, by decide, by decide, by decide, by decide, by decide⟩
    obtain ⟨k1, k2, k3, k4, k5, k6, k7, k8, k9, k10, k11, k12⟩ := key
    rw [k5, if_pos k7, if_pos k8, k6, if_neg k9, if_neg k10, if_neg k11, if_neg k12]
    unfold dp at hd
    rw [if_neg (by rintro (z | z); (· exact k1 z); (· exact k2 z)), if_neg (by rintro (z | z); (· exact k3 z); (· exact k4 z))] at hd
    match st, ht, hl, hd with
    | [], _, _, hd => rw [if_neg (by decide)] at hd; cases hd
    | [a], _, _, hd => rw [if_neg (by show ¬ 2 ≤ 1; decide)] at hd; cases hd
    | a :: b :: r, ht, hl, _ =>
      have hl1 : (b :: r).length < 121 := Nat.lt_of_succ_lt hl
      have hl2 : r.length < 121 := Nat.lt_of_succ_lt hl1
      obtain ⟨S1, p1, p2, p3⟩ := pop_c ht hl1
      rw [p1, bd2S]
      obtain ⟨S2, q1, q2, q3⟩ := pop_c p2 hl2
      rw [q1, bd2S, wo_v o b a h, bS]
      obtain ⟨S', e1, e2, e3⟩ := push_c (two o b a) q2 hl2
      rw [e1, bS]
      refine ⟨S', rfl, ?_, (p3.tr q3).tr e3⟩
      unfold stp
      rw [if_neg k1, if_neg k2]
      show TC S' (if o = 3 then _ else if o = 4 then _ else _)
      rw [if_neg k3, if_neg k4]
      exact e2
theorem wk_run {rw m : Nat} (h15 : rw = 15 ∨ rw = 16) (h121 : m ≤ 121) {v1 : Int} : ∀ (es : List TSt) (S : Mem) (st : List Int) (fu i : Nat) {d : Nat}, gR S 13 3 = some rw → gI S 13 4 = (m : Nat) → i + es.length ≤ m → At (gI S rw) i (es.map enc) → (∀ q ∈ es, okS q) → TC S st → st.length + es.length ≤ 121 → dp es st.length = some d → ∃ S', g_X4_worked_L9 (fu + es.length) v1 (i : Int) S = g_X4_worked_L9 fu v1 ((i + es.length : Nat) : Int) S' ∧ TC S' (run (gI S 17) es st) ∧ KS S S' := by
  intro es
  induction es with
  | nil => intro S st fu i d _ _ _ _ _ ht _ _; exact ⟨S, rfl, ht, KS.rf S⟩
  | cons q es ih =>
    intro S st fu i d hr hm hi ha hq ht hl hd
    obtain ⟨a1, a2⟩ := At_cons ha
    obtain ⟨e, d1, d2, d3⟩ := dp_cons hd
    have l1 : (q :: es).length = es.length + 1 := rfl
    rw [l1] at hi hl
    obtain ⟨S1, w1, w2, w3⟩ := wk_step (fu := fu + es.length) (v1 := v1) hr h15 hm (by omega) h121 a1 (hq q (List.mem_cons_self ..)) ht (by omega) d1
    have l2 := stp_len (F := gI S 17) d1
    rw [← l2] at d2
    have k17 : gI S1 17 = gI S 17 := w3.1 17 (by decide) (by decide)
    have krw : gI S1 rw = gI S rw := by rcases h15 with rfl | rfl <;> exact w3.1 _ (by decide) (by decide)
    obtain ⟨S2, x1, x2, x3⟩ := ih S1 (stp (gI S 17) q st) fu (i + 1) (by rw [w3.2.2]; exact hr) (by rw [w3.2.1 4 (by decide)]; exact hm) (by omega) (by rw [krw]; exact a2) (fun q hx => hq q (List.mem_cons_of_mem _ hx)) w2 (by omega) d2
    refine ⟨S2, ?_, ?_, w3.tr x3⟩
    · rw [l1, ← Nat.add_assoc, w1, x1, show i + 1 + es.length = i + (es.length + 1) by omega]
    · rw [k17] at x2
      exact x2
theorem wk_seg {rw m : Nat} (h15 : rw = 15 ∨ rw = 16) (h121 : m ≤ 121) {v1 : Int} (es : List TSt) (S : Mem) (fu i : Nat) {z : Int} {rest : List Int} (hr : gR S 13 3 = some rw) (hm : gI S 13 4 = (m : Nat)) (hi : i + es.length + 1 ≤ m) (ha : At (gI S rw) i (es.map enc ++ z :: rest)) (hw : WF es) (ht : TC S []) : ∃ S', g_X4_worked_L9 (fu + es.length) v1 (i : Int) S = g_X4_worked_L9 fu v1 ((i + es.length : Nat) : Int) S' ∧ TC S' [val (gI S 17) es] ∧ KS S S' ∧ gR S' 13 3 = some rw ∧ gI S' 13 4 = (m : Nat) ∧ gI S' rw (i + es.length) = z ∧ At (gI S' rw) (i + es.length + 1) rest ∧ gI S' 17 = gI S 17 := by
  obtain ⟨a1, a2⟩ := At_app ha
  rw [List.length_map] at a2
  obtain ⟨a3, a4⟩ := At_cons a2
  obtain ⟨S', b1, b2, b3⟩ := wk_run h15 h121 (v1 := v1) es S [] fu i hr hm (by omega) a1 hw.1 ht (by show 0 + es.length ≤ 121; omega) (hw.2 0)
  have krw : gI S' rw = gI S rw := by rcases h15 with rfl | rfl <;> exact b3.1 _ (by decide) (by decide)
  rw [run_val hw] at b2
  exact ⟨S', b1, b2, b3, by rw [b3.2.2]; exact hr, by rw [b3.2.1 4 (by decide)]; exact hm, by rw [krw]; exact a3, by rw [krw]; exact a4, b3.1 17 (by decide) (by decide)⟩
theorem sgs_cons (l : Lin) (ls : List Lin) : sgs (l :: ls) = sgL l ++ sgs ls := by
  unfold sgs
  rw [List.flatMap_cons]
theorem wk_lines {rw m : Nat} (h15 : rw = 15 ∨ rw = 16) (h121 : m ≤ 121) : ∀ (ls : List Lin) (S : Mem) (fu i : Nat), gR S 13 3 = some rw → gI S 13 4 = (m : Nat) → i + (sgs ls).length = m → At (gI S rw) i (sgs ls) → (∀ l ∈ ls, okL l) → TC S [] → ∃ S', g_X4_worked_L9 (fu + 1 + (sgs ls).length) 1 (i : Int) S = some (evL (gI S 17) ls, S') ∧ KS S S' := by
  intro ls
  induction ls with
  | nil =>
    intro S fu i hr hm hi ha hq ht
    have hi : i = m := hi
    rw [show fu + 1 + (sgs []).length = fu + 1 from rfl, g_X4_worked_L9.eq_2, hm, if_pos (by omega)]
    exact ⟨S, rfl, KS.rf S⟩
  | cons l ls ih =>
    intro S fu i hr hm hi ha hq ht
    obtain ⟨o1, o2⟩ := hq l (List.mem_cons_self ..)
    rw [sgs_cons] at hi ha ⊢
    rw [List.length_append] at hi ⊢
    obtain ⟨t, x⟩ := l
    cases t with
    | none =>
      have hg : sgL (none, x) = x.map enc ++ [-59] := rfl
      have hl : (sgL (none, x)).length = x.length + 1 := by rw [hg, List.length_append, List.length_map]; rfl
      rw [hl] at hi ⊢
      rw [hg, List.append_assoc] at ha
      obtain ⟨S1, b1, b2, b3, b4, b5, b6, b7, b8⟩ := wk_seg (v1 := 1) h15 h121 x S (fu + 1 + (sgs ls).length + 1) i hr hm (by omega) ha o2 ht
      obtain ⟨S2, p1, p2, p3⟩ := pop_c b2 (by decide)
      rw [show fu + 1 + (x.length + 1 + (sgs ls).length) = fu + 1 + (sgs ls).length + 1 + x.length by omega, b1, sgn_c b4 h15 b5 (by omega) h121 b6, if_pos (by decide), if_pos (by decide), if_neg (by decide), if_pos rfl, p1, bd2S, if_neg (by decide)]
      exact ⟨S2, rfl, b3.tr p3⟩
    | some t =>
      have hg : sgL (some t, x) = t.map enc ++ [-63] ++ x.map enc ++ [-59] := rfl
      have hl : (sgL (some t, x)).length = t.length + 1 + x.length + 1 := by simp [hg]; omega
      have hw := o1 t rfl
      rw [hl] at hi ⊢
      rw [hg, List.append_assoc, List.append_assoc, List.append_assoc] at ha
      obtain ⟨S1, b1, b2, b3, b4, b5, b6, b7, b8⟩ := wk_seg (v1 := 1) h15 h121 t S (fu + 1 + (sgs ls).length + 1 + x.length + 1) i hr hm (by omega) ha hw ht
      obtain ⟨S2, p1, p2, p3⟩ := pop_c b2 (by decide)
      have krw : gI S2 rw = gI S1 rw := by rcases h15 with rfl | rfl <;> exact p3.1 _ (by decide) (by decide)
      have k17 : gI S2 17 = gI S 17 := (p3.1 17 (by decide) (by decide)).trans b8
      rw [show fu + 1 + (t.length + 1 + x.length + 1 + (sgs ls).length) = fu + 1 + (sgs ls).length + 1 + x.length + 1 + t.length by omega, b1, sgn_c b4 h15 b5 (by omega) h121 b6, if_pos (by decide), if_pos (by decide), if_pos rfl, p1, bd2S]
      show ∃ S', _ = some (if val (gI S 17) t = 0 then evL (gI S 17) ls else val (gI S 17) x, S') ∧ _
      rw [← krw] at b7
      by_cases c : val (gI S 17) t = 0
      · rw [if_pos c, if_pos c]
        obtain ⟨S3, d1, d2, d3, d4, d5, d6, d7, d8⟩ := wk_seg (v1 := 0) h15 h121 x S2 (fu + 1 + (sgs ls).length + 1) (i + t.length + 1) (by rw [p3.2.2]; exact b4) (by rw [p3.2.1 4 (by decide)]; exact b5) (by omega) b7 o2 p2
        obtain ⟨S4, q1, q2, q3⟩ := pop_c d2 (by decide)
        rw [d1, sgn_c d4 h15 d5 (by omega) h121 d6, if_pos (by decide), if_pos (by decide), if_neg (by decide), if_pos rfl, q1, bd2S, if_pos rfl]
        have krw4 : gI S4 rw = gI S3 rw := by rcases h15 with rfl | rfl <;> exact q3.1 _ (by decide) (by decide)
        have k174 : gI S4 17 = gI S 17 := ((q3.1 17 (by decide) (by decide)).trans d8).trans k17
        obtain ⟨S5, f1, f2⟩ := ih S4 fu (i + t.length + 1 + x.length + 1) (by rw [q3.2.2]; exact d4) (by rw [q3.2.1 4 (by decide)]; exact d5) (by omega) (by rw [krw4]; exact d7) (fun l hl => hq l (List.mem_cons_of_mem _ hl)) q2
        rw [f1, k174]
        exact ⟨S5, rfl, (((b3.tr p3).tr d3).tr q3).tr f2⟩
      · rw [if_neg c, if_neg c]
        obtain ⟨S3, d1, d2, d3, d4, d5, d6, d7, d8⟩ := wk_seg (v1 := 1) h15 h121 x S2 (fu + 1 + (sgs ls).length + 1) (i + t.length + 1) (by rw [p3.2.2]; exact b4) (by rw [p3.2.1 4 (by decide)]; exact b5) (by omega) b7 o2 p2
        obtain ⟨S4, q1, q2, q3⟩ := pop_c d2 (by decide)
        rw [d1, sgn_c d4 h15 d5 (by omega) h121 d6, if_pos (by decide), if_pos (by decide), if_neg (by decide), if_pos rfl, q1, bd2S, if_neg (by decide), k17]
        exact ⟨S4, rfl, ((b3.tr p3).tr d3).tr q3⟩
theorem clamp_j (x : Int) : g_J9_max_7cf53 0 (g_J9_min_7cf53 99 x) = clamp x := by
  unfold g_J9_max_7cf53 g_J9_min_7cf53 clamp
  (repeat' split) <;> omega
/-- what a price may change: names, pile, its top -/
def KP (S S' : Mem) : Prop := (∀ c, c ≠ 13 → c ≠ 17 → c ≠ 18 → gI S' c = gI S c) ∧ (∀ k, k ≠ 10 → gI S' 13 k = gI S 13 k) ∧ ∀ c, gR S' c = gR S c
theorem KP.rf (S : Mem) : KP S S := ⟨fun _ _ _ _ => rfl, fun _ _ => rfl, fun _ => rfl⟩
theorem KP.tr {S S' S'' : Mem} (h : KP S S') (g : KP S' S'') : KP S S'' := ⟨fun c h1 h2 h3 => (g.1 c h1 h2 h3).trans (h.1 c h1 h2 h3), fun k hk => (g.2.1 k hk).trans (h.2.1 k hk), fun c => (g.2.2 c).trans (h.2.2 c)⟩
def soN (N : Nat → Nat → Int) (w : Nat) : Nat := (N 2 w).toNat
def seN (N : Nat → Nat → Int) (w : Nat) : Nat := (N 1 w).toNat
def slN (N : Nat → Nat → Int) (w : Nat) : Nat := (N 4 w).toNat
def prN (law : Option (List Lin)) (N : Nat → Nat → Int) (w a p : Nat) : Nat := (prS law (N 0 w) (N 2 w) (N 7 0) w a p).toNat
theorem prS_r {law : Option (List Lin)} {c s n w a p : Int} (hc : 1 ≤ c ∧ c ≤ 9) : 0 ≤ prS law c s n w a p ∧ prS law c s n w a p ≤ 99 := by
  unfold prS
  cases law with
  | none =>
    show 0 ≤ (if n = 1 then c.tdiv 2 else c) ∧ (if n = 1 then c.tdiv 2 else c) ≤ 99
    rw [tdn 2 (by omega)]
    split <;> omega
  | some ls =>
    show 0 ≤ clamp _ ∧ clamp _ ≤ 99
    unfold clamp
    (repeat' split) <;> omega
theorem prN_i {law : Option (List Lin)} {N : Nat → Nat → Int} {nW nP w a p : Nat} (hN : NR N nW nP) (hw : w < nW) : ((prN law N w a p : Nat) : Int) = prS law (N 0 w) (N 2 w) (N 7 0) w a p ∧ prN law N w a p ≤ 99 := by
  have := prS_r (law := law) (s := N 2 w) (n := N 7 0) (w := w) (a := a) (p := p) (hN.2 0 w (by decide) hw)
  unfold prN
  omega
theorem soN_i {N : Nat → Nat → Int} {nW nP w : Nat} (hN : NR N nW nP) (hw : w < nW) : N 2 w = ((soN N w : Nat) : Int) ∧ soN N w < 3 := by
  obtain ⟨a, b⟩ := hN.2 2 w (by decide) hw
  have a : 0 ≤ N 2 w := a
  have b : N 2 w ≤ 2 := b
  unfold soN
  omega
theorem seN_i {N : Nat → Nat → Int} {nW nP w : Nat} (hN : NR N nW nP) (hw : w < nW) : N 1 w = ((seN N w : Nat) : Int) ∧ seN N w < 64 := by
  obtain ⟨a, b⟩ := hN.2 1 w (by decide) hw
  have a : 0 ≤ N 1 w := a
  have b : N 1 w ≤ 63 := b
  unfold seN
  omega
theorem slN_i {N : Nat → Nat → Int} {nW nP w : Nat} (hN : NR N nW nP) (hw : w < nW) : N 4 w = ((slN N w : Nat) : Int) ∧ slN N w < nW := by
  obtain ⟨a, b⟩ := hN.2 4 w (by decide) hw
  have a : 0 ≤ N 4 w := a
  have b : N 4 w ≤ (nW : Int) - 1 := b
  unfold slN
  omega
theorem price_c {N : Nat → Nat → Int} {nW nP : Nat} {law : Option (List Lin)} {S : Mem} (hN : NR N nW nP) (hO : OC N nW nP S) (hL : LC law S) {w : Nat} (a p : Nat) (hw : w < nW) : ∃ S', g_X4_priceOf (w : Int) (a : Int) (p : Int) S = some (((prN law N w a p : Nat) : Int), S') ∧ KP S S' := by
  have q0 := val_o hN hO (w := 0) (n := w) (by decide) hw
  have q7 := val_o hN hO (w := 7) (n := 0) (by decide) (show 0 < 1 by decide)
  rw [show ((0 : Nat) : Int) = 0 from rfl] at q0 q7
  rw [show ((7 : Nat) : Int) = 7 from rfl] at q7
  have r0 := hN.2 0 w (by decide) hw
  have r0a : 1 ≤ N 0 w := r0.1
  have r0b : N 0 w ≤ 9 := r0.2
  rw [(prN_i hN hw).1]
  unfold g_X4_priceOf
  rw [q0, bS, q7, bS]
  obtain ⟨h0, hL⟩ := hL
  cases law with
  | none =>
    have hL : gI S 13 4 = 0 := hL
    rw [if_pos hL]
    show ∃ S', _ = some (if N 7 0 = 1 then (N 0 w).tdiv 2 else N 0 w, S') ∧ _
    have ed := tdn (a := N 0 w) 2 (by omega)
    rw [w32s (by rw [ed]; omega) (by rw [ed]; omega)]
    by_cases c : N 7 0 = 1
    · rw [if_pos c, if_pos c]
      exact ⟨S, rfl, KP.rf S⟩
    · rw [if_neg c, if_neg c]
      exact ⟨S, rfl, KP.rf S⟩
  | some ls =>
    obtain ⟨a1, a2, a3, a4, a5⟩ := hL
    have hpos : 0 < (sgs ls).length := by
      cases ls with
      | nil => exact absurd rfl a1
      | cons l r =>
        obtain ⟨t, x⟩ := l
        rw [sgs_cons, List.length_append]
        cases t <;> simp [sgL] <;> omega
    have hne : ¬ ((sgs ls).length : Int) = 0 := by omega
    obtain ⟨rw, h15, hr⟩ : ∃ rw, (rw = 15 ∨ rw = 16) ∧ gR S 13 3 = some rw := by
      rcases h0 with z | z
      · exact ⟨15, Or.inl rfl, z.1⟩
      · exact ⟨16, Or.inr rfl, z.1⟩
    have q2 := val_o (S := sI S 17 0 (N 0 w)) hN (OC_of hO (fun c hc => gI_ne (by omega)) rfl rfl) (w := 2) (n := w) (by decide) hw
    rw [show ((2 : Nat) : Int) = 2 from rfl] at q2
    rw [a4, if_neg hne]
    simp only [ap]
    rw [q2, bS]
    unfold g_X4_worked
    simp only [ap]
    generalize hT : sI (sI (sI (sI (sI (sI (sI S 17 0 (N 0 w)) 17 1 (N 2 w)) 17 2 (a : Int)) 17 3 (p : Int)) 17 4 (N 7 0)) 17 5 (w : Int)) 13 10 0 = T
    have f17 : ∀ k, k < 6 → gI T 17 k = fct (N 0 w) (N 2 w) a p (N 7 0) w k := by
      intro k hk
      rw [← hT]
      match k, hk with
      | 0, _ => rfl
      | 1, _ => rfl
      | 2, _ => rfl
      | 3, _ => rfl
      | 4, _ => rfl
      | 5, _ => rfl
    have kp : KP S T := by
      rw [← hT]
      exact ⟨fun c h1 h2 h3 => by rw [gI_ne h1, gI_ne h2, gI_ne h2, gI_ne h2, gI_ne h2, gI_ne h2, gI_ne h2], fun k hk => by rw [gI_ek hk, gI_ne (by decide), gI_ne (by decide), gI_ne (by decide), gI_ne (by decide), gI_ne (by decide), gI_ne (by decide)], fun c => rfl⟩
    have krw : gI T rw = gI S rw := by rcases h15 with rfl | rfl <;> exact kp.1 _ (by decide) (by decide) (by decide)
    obtain ⟨S', e1, e2⟩ := wk_lines h15 a3 ls T (FU - 1 - (sgs ls).length) 0 (by rw [kp.2.2]; exact hr) (by rw [kp.2.1 4 (by decide)]; exact a4) (Nat.zero_add _) (by rw [krw]; exact a5 rw hr) a2 ⟨by rw [← hT, gI_eq]; rfl, trivial⟩
    rw [show FU - 1 - (sgs ls).length + 1 + (sgs ls).length = FU by unfold FU; omega] at e1
    rw [show ((0 : Nat) : Int) = 0 from rfl] at e1
    rw [e1, bd2S, clamp_j]
    refine ⟨S', ?_, kp.tr ⟨fun c h1 h2 h3 => e2.1 c h1 h3, e2.2.1, e2.2.2⟩⟩
    show some (clamp (evL (gI T 17) ls), S') = some (clamp (evL (fct (N 0 w) (N 2 w) a p (N 7 0) w) ls), S')
    rw [evL_c a2 f17]
