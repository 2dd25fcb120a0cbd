/-! THE LAW'S TEXT, both readers side by side: what they stand on -/
theorem dp_one {q : TSt} {d e : Nat} (h : dp [q] d = some e) (z : List TSt) : dp (q :: z) d = dp z e := by
  rw [dp_e] at h ⊢
  by_cases c1 : q.1 = 1 ∨ q.1 = 2
  · rw [if_pos c1] at h ⊢
    rw [← Option.some.inj h]
  · rw [if_neg c1] at h ⊢
    by_cases c2 : q.1 = 3 ∨ q.1 = 4
    · rw [if_pos c2] at h ⊢
      by_cases c3 : 1 ≤ d
      · rw [if_pos c3] at h ⊢
        rw [← Option.some.inj h]
      · rw [if_neg c3] at h; cases h
    · rw [if_neg c2] at h ⊢
      by_cases c3 : 2 ≤ d
      · rw [if_pos c3] at h ⊢
        rw [← Option.some.inj h]
      · rw [if_neg c3] at h; cases h
theorem dp_ap : ∀ (x y : List TSt) {d d' : Nat}, dp x d = some d' → dp (x ++ y) d = dp y d'
  | [], y, d, d', h => by
    rw [← Option.some.inj h]
    rfl
  | q :: x, y, d, d', h => by
    obtain ⟨e, h1, h2, -⟩ := dp_cons h
    rw [List.cons_append, dp_one h1, dp_ap x y h2]
theorem At_sn {f : Nat → Int} {i : Nat} {l : List Int} {v : Int} (h : At f i l) (hv : f (i + l.length) = v) : At f i (l ++ [v]) := by
  intro k hk
  rw [List.length_append] at hk
  have hk : k < l.length + 1 := hk
  by_cases c : k < l.length
  · rw [h k c, List.getD_eq_getElem?_getD, List.getD_eq_getElem?_getD, List.getElem?_append_left c]
  · have e : k = l.length := by omega
    subst e
    rw [hv, List.getD_eq_getElem?_getD, List.getElem?_append_right (Nat.le_refl _), Nat.sub_self]
    rfl
/-- steps that want k values and leave one -/
def gn (k : Nat) (es : List TSt) : Prop := (∀ x ∈ es, okS x) ∧ ∀ d, dp es (d + k) = some (d + 1)
theorem gn_ap {k : Nat} {x y : List TSt} (h : gn k x) (g : gn 1 y) : gn k (x ++ y) := ⟨fun z hz => (List.mem_append.mp hz).elim (h.1 z) (g.1 z), fun d => by rw [dp_ap x y (h.2 d)]; exact g.2 d⟩
def bop (c : Int) : Prop := c ∈ ([43, 45, 42, 47, 37, 60, 61, 62, 38, 124] : List Int)
theorem bop_r {c : Int} (h : bop c) : 5 ≤ c ∧ c ≤ 127 ∧ ¬ (48 ≤ c ∧ c ≤ 57) ∧ c ≠ 41 ∧ c ≠ 59 ∧ c ≠ 63 := by
  unfold bop at h
  simp only [List.mem_cons, List.not_mem_nil, or_false] at h
  omega
theorem gn_o {c : Int} {es : List TSt} (hc : bop c) (h : gn 0 es) : gn 1 (es ++ [(c, 0)]) := by
  refine ⟨fun z hz => ?_, fun d => ?_⟩
  · rcases List.mem_append.mp hz with hz | hz
    · exact h.1 z hz
    · rw [List.mem_singleton.mp hz]
      exact Or.inr (Or.inr (Or.inr (Or.inr hc)))
  · have r := bop_r hc
    have e : dp es (d + 1) = some (d + 1 + 1) := h.2 (d + 1)
    rw [dp_ap es _ e, dp_e, if_neg (show ¬ (c = 1 ∨ c = 2) by omega), if_neg (show ¬ (c = 3 ∨ c = 4) by omega), if_pos (show 2 ≤ d + 1 + 1 by omega)]
    rfl
theorem gn_u {c : Int} {es : List TSt} (hc : c = 3 ∨ c = 4) (h : gn 0 es) : gn 0 (es ++ [(c, 0)]) := by
  refine ⟨fun z hz => ?_, fun d => ?_⟩
  · rcases List.mem_append.mp hz with hz | hz
    · exact h.1 z hz
    · rw [List.mem_singleton.mp hz]
      exact Or.inr (Or.inr (hc.elim Or.inl (fun q => Or.inr (Or.inl q))))
  · have e : dp es d = some (d + 1) := h.2 d
    show dp (es ++ [(c, 0)]) d = _
    rw [dp_ap es _ e, dp_e, if_neg (show ¬ (c = 1 ∨ c = 2) by omega), if_pos (show c = 3 ∨ c = 4 from hc), if_pos (show 1 ≤ d + 1 by omega)]
    rfl
theorem gn_1 {x : TSt} (hx : okS x) (h : x.1 = 1 ∨ x.1 = 2) : gn 0 [x] := ⟨fun z hz => by rw [List.mem_singleton.mp hz]; exact hx, fun d => by
  show dp [x] d = _
  rw [dp_e, if_pos h]
  rfl⟩
/-- a letter, as the class and as the reference sees it -/
def nx (f : Nat) (tp : Nat → Int) (a : Nat) : Int := if a < f then tp a else -1
def lk (f : Nat) (tp : Nat → Int) (a : Nat) : Int := if a < f then w8 (tp a) else -1
def tpO (f q : Nat) (tp : Nat → Int) : Prop := f ≤ 120 ∧ (q = 15 ∨ q = 16) ∧ ∀ i, i < f → 0 ≤ tp i ∧ tp i ≤ 255
theorem nx_lk {f q : Nat} {tp : Nat → Int} (h : tpO f q tp) (a : Nat) : (0 ≤ nx f tp a ∧ nx f tp a ≤ 127 ∧ a < f ∧ lk f tp a = nx f tp a) ∨ ((nx f tp a = -1 ∨ 128 ≤ nx f tp a) ∧ nx f tp a ≤ 255 ∧ lk f tp a < 0) := by
  unfold nx lk
  by_cases c : a < f
  · have t := h.2.2 a c
    rw [if_pos c, if_pos c]
    by_cases d : tp a ≤ 127
    · exact Or.inl ⟨t.1, d, c, by unfold w8; omega⟩
    · exact Or.inr ⟨Or.inr (by omega), t.2, by unfold w8; omega⟩
  · rw [if_neg c, if_neg c]
    exact Or.inr ⟨Or.inl rfl, by decide, by decide⟩
def cxC (f q : Nat) (tp : Nat → Int) (S : Mem) : Prop := gI S 13 2 = (f : Int) ∧ (∀ i, i < f → gI S 14 i = tp i) ∧ gR S 13 5 = some q
def cxM (f : Nat) (tp : Nat → Int) (T : Mem) : Prop := gI T 56 18 = (f : Int) ∧ ∀ i, i < f → gI T 69 i = w8 (tp i)
/-- what the readers change -/
def kC (q : Nat) (S S' : Mem) : Prop := (∀ c, c ≠ 13 → c ≠ q → gI S' c = gI S c) ∧ (∀ k, k ≠ 6 → k ≠ 7 → gI S' 13 k = gI S 13 k) ∧ ∀ c, gR S' c = gR S c
def kM (T T' : Mem) : Prop := (∀ c, c ≠ 56 → c ≠ 70 → c ≠ 71 → gI T' c = gI T c) ∧ (∀ k, k ≠ 19 → k ≠ 20 → k ≠ 21 → k ≠ 22 → gI T' 56 k = gI T 56 k) ∧ ∀ c k, c = 70 ∨ c = 71 → k < 130 → gI T' c k = gI T c k
theorem kC.rf (q : Nat) (S : Mem) : kC q S S := ⟨fun _ _ _ => rfl, fun _ _ _ => rfl, fun _ => rfl⟩
theorem kM.rf (T : Mem) : kM T T := ⟨fun _ _ _ _ => rfl, fun _ _ _ _ _ => rfl, fun _ _ _ _ => rfl⟩
theorem kC.tr {q : Nat} {S S' S'' : Mem} (h : kC q S S') (g : kC q S' S'') : kC q S S'' := ⟨fun c h1 h2 => (g.1 c h1 h2).trans (h.1 c h1 h2), fun k h1 h2 => (g.2.1 k h1 h2).trans (h.2.1 k h1 h2), fun c => (g.2.2 c).trans (h.2.2 c)⟩
theorem kM.tr {S S' S'' : Mem} (h : kM S S') (g : kM S' S'') : kM S S'' := ⟨fun c h1 h2 h3 => (g.1 c h1 h2 h3).trans (h.1 c h1 h2 h3), fun k h1 h2 h3 h4 => (g.2.1 k h1 h2 h3 h4).trans (h.2.1 k h1 h2 h3 h4), fun c k h1 h2 => (g.2.2 c k h1 h2).trans (h.2.2 c k h1 h2)⟩
theorem cxC.k {f q : Nat} {tp : Nat → Int} {S S' : Mem} (h : cxC f q tp S) (hq : q = 15 ∨ q = 16) (k : kC q S S') : cxC f q tp S' := ⟨(k.2.1 2 (by decide) (by decide)).trans h.1, fun i hi => by rw [k.1 14 (by decide) (by omega)]; exact h.2.1 i hi, by rw [k.2.2 13]; exact h.2.2⟩
theorem cxM.k {f : Nat} {tp : Nat → Int} {T T' : Mem} (h : cxM f tp T) (k : kM T T') : cxM f tp T' := ⟨(k.2.1 18 (by decide) (by decide) (by decide) (by decide)).trans h.1, fun i hi => by rw [k.1 69 (by decide) (by decide) (by decide)]; exact h.2 i hi⟩
/-- how far they are -/
def stC (q a : Nat) (e : List Int) (S : Mem) : Prop := gI S 13 7 = (a : Int) ∧ gI S 13 6 = ((e.length : Nat) : Int) ∧ At (gI S q) 0 e
def stM (a o : Nat) (es : List TSt) (T : Mem) : Prop := gI T 56 19 = (a : Int) ∧ gI T 56 20 = -1 ∧ gI T 56 21 = (o : Int) ∧ gI T 56 22 = ((es.length : Nat) : Int) ∧ At (gI T 70) 130 (es.map Prod.fst) ∧ At (gI T 71) 130 (es.map Prod.snd)
theorem next_c {f q a : Nat} {tp : Nat → Int} {S : Mem} (h : cxC f q tp S) (hf : f ≤ 120) (ha : gI S 13 7 = (a : Int)) : g_X4_next S = some (nx f tp a) := by
  unfold g_X4_next nx
  rw [ha, h.1, if_neg (show ¬ (a : Int) < 0 by omega)]
  by_cases c : a < f
  · rw [if_neg (show ¬ (f : Int) ≤ (a : Int) by omega), if_neg (show ¬ (120 : Int) ≤ (a : Int) by omega), ldk_c (by omega), bS, h.2.1 a c, if_pos c]
  · rw [if_pos (show (f : Int) ≤ (a : Int) by omega), if_neg c]
theorem look_m {f a : Nat} {tp : Nat → Int} {T : Mem} (h : cxM f tp T) (hf : f ≤ 120) (ha : gI T 56 19 = (a : Int)) : g_X10_look T = some (lk f tp a) := by
  unfold g_X10_look lk
  rw [ha, h.1]
  by_cases c : a < f
  · rw [if_neg (show ¬ (f : Int) ≤ (a : Int) by omega), ldk_c (by omega), bS, h.2 a c, if_pos c]
  · rw [if_pos (show (f : Int) ≤ (a : Int) by omega), if_neg c]
theorem emit_c {q : Nat} {S : Mem} (hq : q = 15 ∨ q = 16) (h : gR S 13 5 = some q) (v : Int) : ∃ S', g_X4_emit v S = some S' ∧ kC q S S' ∧ gI S' 13 7 = gI S 13 7 ∧ ∀ a e, e.length ≤ 120 → stC q a e S → stC q a (e ++ [v]) S' := by
  unfold g_X4_emit
  by_cases c : gI S 13 6 < 0
  · rw [if_pos c]
    exact ⟨S, rfl, kC.rf q S, rfl, fun a e _ hs => by rw [hs.2.1] at c; omega⟩
  · rw [if_neg c, h, bS, lnd_s hq, bS]
    by_cases c2 : (121 : Int) ≤ gI S 13 6
    · rw [if_pos c2]
      exact ⟨S, rfl, kC.rf q S, rfl, fun a e he hs => by rw [hs.2.1] at c2; omega⟩
    · obtain ⟨k, hk⟩ := nat_of (show 0 ≤ gI S 13 6 by omega)
      have ht : tyc q = (1, 121) := by rcases hq with rfl | rfl <;> rfl
      have hk1 : k < 121 := by omega
      have h13 : (13 : Nat) ≠ q := by omega
      rw [if_neg c2, bS, hk]
      simp only [ap]
      rw [std_c ht (by omega) hk1, bS, w32_a k (by omega)]
      refine ⟨_, rfl, ⟨fun c h1 h2 => by rw [gI_ne h2, gI_ne h1], fun k' h1 h2 => by rw [gI_ne h13, gI_ek h1], fun _ => rfl⟩, by rw [gI_ne h13, gI_ek (by decide)], fun a e he hs => ?_⟩
      obtain ⟨s1, s2, s3⟩ := hs
      have ek : k = e.length := by rw [s2] at hk; omega
      subst ek
      exact ⟨by rw [gI_ne h13, gI_ek (by decide), s1], by rw [gI_ne h13, gI_eq, List.length_append]; rfl, At_sn (At_c s3 (fun j hj => by rw [gI_ek (by omega), gI_ne (Ne.symm h13)])) (by rw [Nat.zero_add, gI_eq])⟩
theorem kC_s {q k : Nat} {S : Mem} {v : Int} (h : k = 6 ∨ k = 7) : kC q S (sI S 13 k v) := ⟨fun c h1 _ => gI_ne h1, fun k' h1 h2 => gI_ek (by omega), fun _ => rfl⟩
theorem kM_s {k : Nat} {T : Mem} {v : Int} (h : k = 19 ∨ k = 20 ∨ k = 21 ∨ k = 22) : kM T (sI T 56 k v) := ⟨fun c h1 _ _ => gI_ne h1, fun k' h1 h2 h3 h4 => gI_ek (by omega), fun c k' h1 _ => by rw [gI_ne (by omega)]⟩
theorem add_m {T : Mem} {n : Nat} {c v : Int} (hc : 0 ≤ c ∧ c ≤ 127) (hn : gI T 56 22 = (n : Int)) (h : n ≤ 125) : ∃ T', g_X10_addStep c v T = some T' ∧ kM T T' ∧ (gI T' 56 19 = gI T 56 19 ∧ gI T' 56 20 = gI T 56 20 ∧ gI T' 56 21 = gI T 56 21) ∧ gI T' 56 22 = ((n + 1 : Nat) : Int) ∧ ∀ es : List TSt, n = es.length → At (gI T 70) 130 (es.map Prod.fst) → At (gI T 71) 130 (es.map Prod.snd) → At (gI T' 70) 130 ((es ++ [(c, v)]).map Prod.fst) ∧ At (gI T' 71) 130 ((es ++ [(c, v)]).map Prod.snd) := by
  have e : w32 (130 + (n : Int)) = ((130 + n : Nat) : Int) := by rw [w32s (by omega) (by omega)]; omega
  have ec : w8 (w8 c) = c := by rw [w8_w8]; unfold w8; omega
  unfold g_X10_addStep
  rw [hn, e, stk_c (by omega), bS, gI_ne (show (56 : Nat) ≠ 70 by decide), hn, e, stk_c (by omega), bS, ec]
  simp only [ap]
  rw [gI_ne (show (56 : Nat) ≠ 71 by decide), gI_ne (show (56 : Nat) ≠ 70 by decide), hn, w32_a n (by omega)]
  clear e
  refine ⟨_, rfl, ⟨fun c h1 h2 h3 => by rw [gI_ne h1, gI_ne h3, gI_ne h2], fun k h1 h2 h3 h4 => by rw [gI_ek h4, gI_ne (show (56 : Nat) ≠ 71 by decide), gI_ne (show (56 : Nat) ≠ 70 by decide)], fun c k h1 h2 => ?_⟩, ⟨?_, ?_, ?_⟩, gI_eq, fun es hes a1 a2 => ?_⟩
  · rw [gI_ne (by omega)]
    rcases h1 with rfl | rfl
    · rw [gI_ne (by decide), gI_ek (by omega)]
    · rw [gI_ek (by omega), gI_ne (by decide)]
  · rw [gI_ek (by decide), gI_ne (show (56 : Nat) ≠ 71 by decide), gI_ne (show (56 : Nat) ≠ 70 by decide)]
  · rw [gI_ek (by decide), gI_ne (show (56 : Nat) ≠ 71 by decide), gI_ne (show (56 : Nat) ≠ 70 by decide)]
  · rw [gI_ek (by decide), gI_ne (show (56 : Nat) ≠ 71 by decide), gI_ne (show (56 : Nat) ≠ 70 by decide)]
  · subst hes
    rw [List.map_append, List.map_append, gI_ne (show (70 : Nat) ≠ 56 by decide), gI_ne (show (70 : Nat) ≠ 71 by decide), gI_ne (show (71 : Nat) ≠ 56 by decide)]
    refine ⟨At_sn (At_c a1 (fun j hj => ?_)) ?_, At_sn (At_c a2 (fun j hj => ?_)) ?_⟩
    · rw [List.length_map] at hj
      rw [gI_ek (by omega)]
    · rw [List.length_map, gI_eq]
    · rw [List.length_map] at hj
      rw [gI_ek (by omega), gI_ne (by decide)]
    · rw [List.length_map, gI_eq]
theorem add_s {T : Mem} {a o : Nat} {es : List TSt} {c v : Int} (hc : 0 ≤ c ∧ c ≤ 127) (h : stM a o es T) (hl : es.length ≤ 125) : ∃ T', g_X10_addStep c v T = some T' ∧ kM T T' ∧ stM a o (es ++ [(c, v)]) T' := by
  obtain ⟨h1, h2, h3, h4, h5, h6⟩ := h
  obtain ⟨T', t1, t2, ⟨t3, t4, t5⟩, t6, t7⟩ := add_m (v := v) hc h4 hl
  obtain ⟨t8, t9⟩ := t7 es rfl h5 h6
  exact ⟨T', t1, t2, t3.trans h1, t4.trans h2, t5.trans h3, by rw [t6, List.length_append]; rfl, t8, t9⟩
theorem stC_a {q a : Nat} {e : List Int} {S : Mem} (hq : q = 15 ∨ q = 16) (ha : a ≤ 120) (h : stC q a e S) : stC q (a + 1) e (sI S 13 7 (w32 (gI S 13 7 + 1))) := by
  obtain ⟨h1, h2, h3⟩ := h
  refine ⟨by rw [gI_eq, h1, w32_a a (by omega)], by rw [gI_ek (by decide), h2], ?_⟩
  rw [gI_ne (show q ≠ 13 by omega)]
  exact h3
theorem stM_a {a o : Nat} {es : List TSt} {T : Mem} (ha : a ≤ 120) (h : stM a o es T) : stM (a + 1) o es (sI T 56 19 (w32 (gI T 56 19 + 1))) := by
  obtain ⟨h1, h2, h3, h4, h5, h6⟩ := h
  refine ⟨by rw [gI_eq, h1, w32_a a (by omega)], by rw [gI_ek (by decide), h2], by rw [gI_ek (by decide), h3], by rw [gI_ek (by decide), h4], ?_, ?_⟩
  · rw [gI_ne (show (70 : Nat) ≠ 56 by decide)]
    exact h5
  · rw [gI_ne (show (71 : Nat) ≠ 56 by decide)]
    exact h6
theorem wrong_m {T : Mem} {p : Nat} (h : gI T 56 20 = -1) (hp : gI T 56 19 = (p : Int)) : g_X10_wrong T = some (sI T 56 20 (p : Int)) := by
  unfold g_X10_wrong
  rw [h, if_neg (by decide), hp]
