/-! ERRORS, class: sums from the first place on -/
theorem fillG {a N : Nat} {v : Int} (ht : tyc a = (2, N)) (ha : a < 56) (hN : N ≤ 1000) : ∀ (m fu : Nat) (S : Mem), m ≤ N → m < fu → ∃ S', g_J7_fill_d0a16_L6 a v (N : Int) fu ((N - m : Nat) : Int) S = some S' ∧ (∀ c, c ≠ a → gI S' c = gI S c) ∧ (∀ c, gR S' c = gR S c) ∧ ∀ i, gI S' a i = if N - m ≤ i ∧ i < N then v else gI S a i := by
  intro m
  induction m with
  | zero =>
    intro fu S _ hf
    obtain ⟨fu, rfl⟩ : ∃ k, fu = k + 1 := ⟨fu - 1, by omega⟩
    rw [g_J7_fill_d0a16_L6.eq_2, if_pos (by omega)]
    exact ⟨S, rfl, fun _ _ => rfl, fun _ => rfl, fun i => by rw [if_neg (by omega)]⟩
  | succ m ih =>
    intro fu S hm hf
    obtain ⟨fu, rfl⟩ : ∃ k, fu = k + 1 := ⟨fu - 1, by omega⟩
    have v1 : ¬ (N : Int) ≤ ((N - (m + 1) : Nat) : Int) := by omega
    have v2 : N - (m + 1) < N := by omega
    have v3 : N - m = N - (m + 1) + 1 := by omega
    rw [g_J7_fill_d0a16_L6.eq_2, if_neg v1, std_c ht ha v2, bS, w32_a _ (by omega), ← v3]
    obtain ⟨S', h1, h2, h3, h4⟩ := ih fu (sI S a (N - (m + 1)) v) (by omega) (by omega)
    refine ⟨S', h1, fun c hc => by rw [h2 c hc, gI_ne hc], h3, fun i => ?_⟩
    rw [h4, gI_sI]
    (repeat' split) <;> first | rfl | omega
theorem fill_g {a N : Nat} (v : Int) (S : Mem) (ht : tyc a = (2, N)) (ha : a < 56) (hN : N ≤ 1000) : ∃ S', g_J7_fill_d0a16 a v S = some S' ∧ (∀ c, c ≠ a → gI S' c = gI S c) ∧ (∀ c, gR S' c = gR S c) ∧ ∀ i, i < N → gI S' a i = v := by
  obtain ⟨S', h1, h2, h3, h4⟩ := fillG (v := v) ht ha hN N FU S (Nat.le_refl _) (Nat.lt_of_le_of_lt hN (by unfold FU; decide))
  rw [Nat.sub_self] at h1 h4
  unfold g_J7_fill_d0a16 lnd
  rw [ht, if_pos ⟨rfl, by show N < 100000; omega⟩, bS]
  exact ⟨S', h1, h2, h3, fun i hi => by rw [h4, if_pos ⟨Nat.zero_le _, hi⟩]⟩
/-- which rows are at hand -/
def HS (S : Mem) (q q' t t' : Nat) : Prop := (gR S 38 2 = some q ∧ gR S 38 3 = some q' ∧ gR S 38 4 = some t ∧ gR S 38 5 = some t') ∧ ((q = 39 ∧ q' = 40) ∨ (q = 40 ∧ q' = 39)) ∧ ((t = 41 ∧ t' = 42) ∨ (t = 42 ∧ t' = 41))
def KE (S S' : Mem) : Prop := (∀ c, (c < 39 ∨ 42 < c) → gI S' c = gI S c) ∧ ∀ c, c ≠ 38 → gR S' c = gR S c
theorem KE.rf (S : Mem) : KE S S := ⟨fun _ _ => rfl, fun _ _ => rfl⟩
theorem KE.tr {S S' S'' : Mem} (h : KE S S') (g : KE S' S'') : KE S S'' := ⟨fun c hc => (g.1 c hc).trans (h.1 c hc), fun c hc => (g.2 c hc).trans (h.2 c hc)⟩
theorem OC.e {N : Nat → Nat → Int} {nW nP : Nat} {S S' : Mem} (h : OC N nW nP S) (k : KE S S') : OC N nW nP S' := OC_of h (fun c hc => k.1 c (by omega)) (k.2 2 (by decide)) (k.2 23 (by decide))
theorem TG.e {nW : Nat} {S S' : Mem} {ws : List Nat} (h : TG nW S ws) (k : KE S S') : TG nW S' ws := by
  unfold TG
  rw [k.1 30 (by omega), k.1 31 (by omega)]
  exact h
theorem HS_of {S : Mem} (h : RH S) : ∃ q q' t t', HS S q q' t t' := by
  obtain ⟨h1, h2, -⟩ := h
  rcases h1 with h1 | h1 <;> rcases h2 with h2 | h2
  · exact ⟨39, 40, 41, 42, ⟨h1.1, h1.2, h2.1, h2.2⟩, Or.inl ⟨rfl, rfl⟩, Or.inl ⟨rfl, rfl⟩⟩
  · exact ⟨39, 40, 42, 41, ⟨h1.1, h1.2, h2.1, h2.2⟩, Or.inl ⟨rfl, rfl⟩, Or.inr ⟨rfl, rfl⟩⟩
  · exact ⟨40, 39, 41, 42, ⟨h1.1, h1.2, h2.1, h2.2⟩, Or.inr ⟨rfl, rfl⟩, Or.inl ⟨rfl, rfl⟩⟩
  · exact ⟨40, 39, 42, 41, ⟨h1.1, h1.2, h2.1, h2.2⟩, Or.inr ⟨rfl, rfl⟩, Or.inr ⟨rfl, rfl⟩⟩
theorem RH_of' {S : Mem} {q q' t t' : Nat} (h : HS S q q' t t') (h33 : gI S 33 0 = 0) : RH S := by
  obtain ⟨⟨a, b, c, d⟩, h1, h2⟩ := h
  refine ⟨?_, ?_, h33⟩
  · rcases h1 with ⟨rfl, rfl⟩ | ⟨rfl, rfl⟩
    · exact Or.inl ⟨a, b⟩
    · exact Or.inr ⟨a, b⟩
  · rcases h2 with ⟨rfl, rfl⟩ | ⟨rfl, rfl⟩
    · exact Or.inl ⟨c, d⟩
    · exact Or.inr ⟨c, d⟩
theorem HS.ty {S : Mem} {q q' t t' : Nat} (h : HS S q q' t t') : tyc q = (2, 4) ∧ tyc q' = (2, 4) ∧ tyc t = (1, 4) ∧ tyc t' = (1, 4) ∧ q < 56 ∧ q' < 56 ∧ t < 56 ∧ t' < 56 ∧ q ≠ q' ∧ t ≠ t' ∧ (39 ≤ q ∧ q ≤ 42) ∧ (39 ≤ q' ∧ q' ≤ 42) ∧ (39 ≤ t ∧ t ≤ 42) ∧ (39 ≤ t' ∧ t' ≤ 42) ∧ q ≠ t ∧ q ≠ t' ∧ q' ≠ t ∧ q' ≠ t' := by
  obtain ⟨-, h1, h2⟩ := h
  rcases h1 with ⟨rfl, rfl⟩ | ⟨rfl, rfl⟩ <;> rcases h2 with ⟨rfl, rfl⟩ | ⟨rfl, rfl⟩ <;> exact ⟨rfl, rfl, rfl, rfl, by decide, by decide, by decide, by decide, by decide, by decide, by decide, by decide, by decide, by decide, by decide, by decide, by decide, by decide⟩
theorem HS.sI {S : Mem} {q q' t t' c k : Nat} {v : Int} (h : HS S q q' t t') : HS (sI S c k v) q q' t t' := h
theorem HS.of {S S' : Mem} {q q' t t' : Nat} (h : HS S q q' t t') (e : gR S' 38 = gR S 38) : HS S' q q' t t' := by
  unfold HS
  rw [e]
  exact h
def VEC (S : Mem) (q : Nat) (F : Nat → Nat) : Prop := ∀ a, a < 4 → gI S q a = ((F a : Nat) : Int)
theorem odds_c {N : Nat → Nat → Int} {nW nP i w : Nat} {V : List Nat} {S : Mem} (hN : NR N nW nP) (hO : OC N nW nP S) (hw : w < nW) : g_X3_oddsOf (w : Int) ((V.getD i 0 : Nat) : Int) S = some ((wtN N V i w : Nat) : Int) := by
  obtain ⟨e1, e2⟩ := erN_i hN
  have v8 := val_o hN hO (w := 8) (n := 0) (by decide) (show 0 < 1 by decide)
  rw [show ((8 : Nat) : Int) = 8 from rfl, show ((0 : Nat) : Int) = 0 from rfl, e1] at v8
  have v4 := val_o hN hO (w := 4) (n := w) (by decide) hw
  rw [show ((4 : Nat) : Int) = 4 from rfl, (slN_i hN hw).1] at v4
  have q1 : w32 ((w32 (12 - ((erN N : Nat) : Int))) + ((erN N : Nat) : Int)) = 12 := by
    rw [w_12 e2, w_add _ _ (by omega)]
    omega
  have q2 : w32 ((w32 (12 - ((erN N : Nat) : Int))) + 0) = ((12 - erN N : Nat) : Int) := by
    clear q1
    rw [w_12 e2, Int.add_zero, w32s (by omega) (by omega)]
  have q3 : w32 (0 + ((erN N : Nat) : Int)) = ((erN N : Nat) : Int) := by
    clear q1 q2
    rw [Int.zero_add, w32s (by omega) (by omega)]
  unfold g_X3_oddsOf wtN
  rw [v8, bS, v4, bS, bS, q1, q2, q3]
  clear q1 q2 q3
  by_cases c2 : w = V.getD i 0
  · rw [if_pos (show (w : Int) = ((V.getD i 0 : Nat) : Int) by omega), if_pos c2]
    by_cases c1 : slN N w = V.getD i 0
    · rw [if_pos (show ((slN N w : Nat) : Int) = ((V.getD i 0 : Nat) : Int) by omega), if_pos c1, show erN N + (12 - erN N) = 12 by omega]
      rfl
    · rw [if_neg (show ¬ ((slN N w : Nat) : Int) = ((V.getD i 0 : Nat) : Int) by omega), if_neg c1, Nat.zero_add]
  · rw [if_neg (show ¬ (w : Int) = ((V.getD i 0 : Nat) : Int) by omega), if_neg c2]
    by_cases c1 : slN N w = V.getD i 0
    · rw [if_pos (show ((slN N w : Nat) : Int) = ((V.getD i 0 : Nat) : Int) by omega), if_pos c1]
      rfl
    · rw [if_neg (show ¬ ((slN N w : Nat) : Int) = ((V.getD i 0 : Nat) : Int) by omega), if_neg c1]
      rfl
/-- what comes to a sort from the sorts that it may follow -/
def gin (F : Nat → Nat) (s : Nat) : Nat := sumT (fun a => if fol a s then F a else 0) 4
theorem gin_le {F : Nat → Nat} {c : Nat} (s : Nat) (h : ∀ a, a < 4 → F a ≤ c) : ∀ n, n ≤ 4 → sumT (fun a => if fol a s then F a else 0) n ≤ c * n := fun n hn => sumT_le n (fun a ha => by
  show (if fol a s then F a else 0) ≤ c
  split
  · exact h a (by omega)
  · exact Nat.zero_le _)
theorem add_c {S : Mem} {q q' t t' o s : Nat} {F G : Nat → Nat} (hH : HS S q q' t t') (hF : VEC S q F) (hs : s < 3) (ho : o ≤ 12) (bF' : ∀ a, a < 4 → F a ≤ 1000000000000) (hG : G s ≤ 40000000000000) : ∀ (r a fu : Nat) (T : Mem), a + r = 4 → r < fu → KE S T → gR T 38 = gR S 38 → (∀ c, c ≠ q' → gI T c = gI S c) → (∀ j, j < 4 → gI T q' j = (((if j = s then G j + o * sumT (fun a => if fol a s then F a else 0) a else G j) : Nat) : Int)) → ∃ T', g_X3_addWord_L13 (o : Int) (s : Int) fu (a : Int) T = some T' ∧ KE S T' ∧ gR T' 38 = gR S 38 ∧ (∀ c, c ≠ q' → gI T' c = gI S c) ∧ VEC T' q' (fun j => if j = s then G j + o * gin F s else G j) := by
  obtain ⟨ty1, ty2, ty3, ty4, l1, l2, l3, l4, ne1, ne2, r1, r2, r3, r4, -⟩ := hH.ty
  intro r
  induction r with
  | zero =>
    intro a fu T ha hf hK hR hc hg
    obtain ⟨fu, rfl⟩ : ∃ k, fu = k + 1 := ⟨fu - 1, by omega⟩
    have ha : a = 4 := ha
    subst ha
    rw [g_X3_addWord_L13.eq_2, if_pos (by decide)]
    exact ⟨T, rfl, hK, hR, hc, hg⟩
  | succ r ih =>
    intro a fu T ha hf hK hR hc hg
    obtain ⟨fu, rfl⟩ : ∃ k, fu = k + 1 := ⟨fu - 1, by omega⟩
    have ha4 : a < 4 := by omega
    have hT := hH.of hR
    obtain ⟨⟨g1, g2, -, -⟩, -⟩ := hT
    have es : sumT (fun a => if fol a s then F a else 0) (a + 1) = sumT (fun a => if fol a s then F a else 0) a + (if fol a s then F a else 0) := rfl
    rw [g_X3_addWord_L13.eq_2, if_neg (show ¬ (3 : Int) < (a : Int) by omega), fol_c a ha4 s hs, w32_a a (by omega)]
    cases hf' : fol a s with
    | false =>
      rw [hf', if_neg (show ¬ (false = true) by decide)] at es
      rw [bF, i00]
      exact ih (a + 1) fu T (by omega) (by omega) hK hR hc (fun j hj => by rw [es]; exact hg j hj)
    | true =>
      rw [hf', if_pos rfl] at es
      have hFa := bF' a ha4
      have sl := gin_le s bF' a (by omega)
      have zz : o * F a ≤ 12 * 1000000000000 := Nat.mul_le_mul ho hFa
      have z2 : o * sumT (fun a => if fol a s then F a else 0) a ≤ 12 * (1000000000000 * a) := Nat.mul_le_mul ho sl
      have ef : gI T q a = ((F a : Nat) : Int) := by rw [hc q ne1]; exact hF a ha4
      have eg := hg s (by omega)
      rw [if_pos rfl] at eg
      have s4 : s < 4 := by omega
      rw [bT, i10, g2, bS, ldd_c ty2 l2 s4, bS, g1, bS, ldd_c ty1 l1 ha4, bS, ef, eg]
      have ew : w64 (((G s + o * sumT (fun a => if fol a s then F a else 0) a : Nat) : Int) + (w64 (((F a : Nat) : Int) * (o : Int)))) = ((G s + o * sumT (fun a => if fol a s then F a else 0) (a + 1) : Nat) : Int) := by
        rw [es, Nat.mul_add, m64' (a := F a) (c := o) (by rw [Nat.mul_comm]; omega), Nat.mul_comm (F a) o, a64 (by omega), Nat.add_assoc]
      rw [ew, std_c ty2 l2 s4, bS]
      clear ew eg
      refine ih (a + 1) fu _ (by omega) (by omega) ⟨fun c hc' => by rw [gI_ne (by omega)]; exact hK.1 c hc', hK.2⟩ hR (fun c hc' => by rw [gI_ne hc']; exact hc c hc') (fun j hj => ?_)
      by_cases e : j = s
      · rw [e, gI_eq, if_pos rfl]
      · rw [gI_ek e, if_neg e]
        have := hg j hj
        rw [if_neg e] at this
        exact this
/-- the words that count, and for how much -/
def uW (N : Nat → Nat → Int) (V : List Nat) (wo : Nat) (hm : Bool) (i w : Nat) : Nat := if seN N w &&& wo = 0 then (if hm then wt1 N V i w else wtN N V i w) else 0
theorem uW_le {N : Nat → Nat → Int} {nW nP wo i w : Nat} {hm : Bool} {V : List Nat} (hN : NR N nW nP) : uW N V wo hm i w ≤ 12 := by
  unfold uW
  split
  · split
    · exact wt1_le N V i w
    · exact wtN_le hN
  · omega
/-- one place further -/
def stepF (N : Nat → Nat → Int) (u : Nat → Nat) (F : Nat → Nat) (nW s : Nat) : Nat := sumT (fun w => if soN N w = s then u w * gin F s else 0) nW
theorem stepF_le {N : Nat → Nat → Int} {u F : Nat → Nat} {c n s : Nat} (hu : ∀ w, u w ≤ 12) (h : ∀ a, a < 4 → F a ≤ c) : stepF N u F n s ≤ 48 * c * n := sumT_le n (fun w _ => by
  show (if soN N w = s then u w * gin F s else 0) ≤ 48 * c
  split
  · have := gin_le s h 4 (Nat.le_refl _)
    exact Nat.le_trans (Nat.mul_le_mul (hu w) this) (by omega)
  · exact Nat.zero_le _)
theorem word_c {N : Nat → Nat → Int} {nW nP i wo q q' t t' : Nat} {hm : Bool} {ws : List Nat} {S : Mem} {F : Nat → Nat} {K : Mem → Option (Int × Mem)} (hN : NR N nW nP) (hO : OC N nW nP S) (hT : TG nW S ws) (hi : i < (ws.take 6).length) (hwo : wo < 64) (hH : HS S q q' t t') (hF : VEC S q F) (c : Nat) (bF' : ∀ a, a < 4 → F a ≤ c) (hc : c ≤ 62000000000) : ∀ (r w fu : Nat) (T : Mem), w + r = nW → r < fu → KE S T → gR T 38 = gR S 38 → (∀ c, c ≠ q' → gI T c = gI S c) → VEC T q' (stepF N (uW N (ws.take 6) wo hm i) F w) → ∃ T', g_X3_sum_L25 K (wo : Int) (if hm then 1 else 0) (i : Int) fu (w : Int) T = K T' ∧ KE S T' ∧ gR T' 38 = gR S 38 ∧ (∀ c, c ≠ q' → gI T' c = gI S c) ∧ VEC T' q' (stepF N (uW N (ws.take 6) wo hm i) F nW) := by
  obtain ⟨ty1, ty2, ty3, ty4, l1, l2, l3, l4, ne1, ne2, r1, r2, r3, r4, -⟩ := hH.ty
  have nW12 := hN.1.1
  intro r
  induction r with
  | zero =>
    intro w fu T hw hf hK hR hc' hv
    obtain ⟨fu, rfl⟩ : ∃ k, fu = k + 1 := ⟨fu - 1, by omega⟩
    have hw : w = nW := hw
    have hO' := hO.e hK
    rw [g_X3_sum_L25.eq_2, hO'.2.1.1, if_pos (by omega)]
    rw [hw] at hv
    exact ⟨T, rfl, hK, hR, hc', hv⟩
  | succ r ih =>
    intro w fu T hw hf hK hR hc' hv
    obtain ⟨fu, rfl⟩ : ∃ k, fu = k + 1 := ⟨fu - 1, by omega⟩
    have hwW : w < nW := by omega
    have hO' := hO.e hK
    have hT' := hT.e hK
    have v1 := val_o hN hO' (w := 1) (n := w) (by decide) hwW
    rw [show ((1 : Nat) : Int) = 1 from rfl, (seN_i hN hwW).1] at v1
    have v2 := val_o hN hO' (w := 2) (n := w) (by decide) hwW
    rw [show ((2 : Nat) : Int) = 2 from rfl, (soN_i hN hwW).1] at v2
    have s64 := (seN_i hN hwW).2
    have so3 := (soN_i hN hwW).2
    have es : ∀ s, stepF N (uW N (ws.take 6) wo hm i) F (w + 1) s = stepF N (uW N (ws.take 6) wo hm i) F w s + (if soN N w = s then uW N (ws.take 6) wo hm i w * gin F s else 0) := fun s => rfl
    have bl : ∀ s, stepF N (uW N (ws.take 6) wo hm i) F w s ≤ 40000000000000 := fun s => Nat.le_trans (stepF_le (fun w => uW_le hN) bF') (by
      have : 48 * c * w ≤ 48 * 62000000000 * 12 := Nat.mul_le_mul (Nat.mul_le_mul (Nat.le_refl _) hc) (by omega)
      omega)
    have wl : wtN N (ws.take 6) i w ≤ 12 := wtN_le hN
    have skip : uW N (ws.take 6) wo hm i w = 0 → VEC T q' (stepF N (uW N (ws.take 6) wo hm i) F (w + 1)) := fun h0 a ha => by
      rw [es, h0, Nat.zero_mul]
      rw [hv a ha]
      split <;> rfl
    have take : ∀ o, o ≤ 12 → uW N (ws.take 6) wo hm i w = o → ∃ T', g_X3_addWord (w : Int) (o : Int) T = some T' ∧ KE S T' ∧ gR T' 38 = gR S 38 ∧ (∀ c, c ≠ q' → gI T' c = gI S c) ∧ VEC T' q' (stepF N (uW N (ws.take 6) wo hm i) F (w + 1)) := fun o ho hu => by
      unfold g_X3_addWord
      rw [v2, bS]
      obtain ⟨T', a1, a2, a3, a4, a5⟩ := add_c (G := stepF N (uW N (ws.take 6) wo hm i) F w) hH hF so3 ho (fun a ha => Nat.le_trans (bF' a ha) (by omega)) (bl _) 4 0 FU T rfl (by unfold FU; decide) hK hR hc' (fun j hj => by
        rw [hv j hj]
        show _ = (((if j = soN N w then stepF N (uW N (ws.take 6) wo hm i) F w j + o * 0 else stepF N (uW N (ws.take 6) wo hm i) F w j) : Nat) : Int)
        split <;> rfl)
      refine ⟨T', a1, a2, a3, a4, fun a ha => ?_⟩
      rw [a5 a ha, es, hu]
      show (((if a = soN N w then stepF N (uW N (ws.take 6) wo hm i) F w a + o * gin F (soN N w) else stepF N (uW N (ws.take 6) wo hm i) F w a) : Nat) : Int) = _
      by_cases e : a = soN N w
      · rw [if_pos e, if_pos e.symm, e]
      · rw [if_neg e, if_neg (fun z => e z.symm), Nat.add_zero]
    rw [g_X3_sum_L25.eq_2, hO'.2.1.1, if_neg (show ¬ (nW : Int) ≤ (w : Int) by omega), wat_c hT' hi, bS, odds_c hN hO' hwW, bS, v1, bS, oand (by omega), w32_a w (by omega)]
    by_cases c1 : seN N w &&& wo = 0
    · rw [if_pos (show ((seN N w &&& wo : Nat) : Int) = 0 by omega)]
      by_cases c2 : wtN N (ws.take 6) i w = 0
      · rw [if_pos (show ((wtN N (ws.take 6) i w : Nat) : Int) ≤ 0 by omega)]
        refine ih (w + 1) fu T (by omega) (by omega) hK hR hc' (skip ?_)
        unfold uW wt1
        rw [if_pos c1, if_pos c2, c2]
        split <;> rfl
      · rw [if_neg (show ¬ ((wtN N (ws.take 6) i w : Nat) : Int) ≤ 0 by omega)]
        cases hm with
        | true =>
          obtain ⟨T1, a1, a2, a3, a4, a5⟩ := take 1 (by decide) (by unfold uW wt1; rw [if_pos c1, if_neg c2]; rfl)
          rw [show ((1 : Nat) : Int) = 1 from rfl] at a1
          rw [bT, i10, a1, bS]
          exact ih (w + 1) fu T1 (by omega) (by omega) a2 a3 a4 a5
        | false =>
          obtain ⟨T1, a1, a2, a3, a4, a5⟩ := take (wtN N (ws.take 6) i w) wl (by unfold uW; rw [if_pos c1]; rfl)
          rw [bF, i00, a1, bS]
          exact ih (w + 1) fu T1 (by omega) (by omega) a2 a3 a4 a5
    · rw [if_neg (show ¬ ((seN N w &&& wo : Nat) : Int) = 0 by omega)]
      refine ih (w + 1) fu T (by omega) (by omega) hK hR hc' (skip ?_)
      unfold uW
      rw [if_neg c1]
theorem one4 {so B : Nat} {x : Nat → Nat} (h : ∀ s, x s ≤ B) : sumT (fun s => if so = s then x s else 0) 4 ≤ B := by
  have h0 := h 0
  have h1 := h 1
  have h2 := h 2
  have h3 := h 3
  show 0 + (if so = 0 then x 0 else 0) + (if so = 1 then x 1 else 0) + (if so = 2 then x 2 else 0) + (if so = 3 then x 3 else 0) ≤ B
  split <;> split <;> split <;> split <;> omega
theorem sumT_add {f g : Nat → Nat} : ∀ n, sumT (fun i => f i + g i) n = sumT f n + sumT g n
  | 0 => rfl
  | n + 1 => by
    show sumT (fun i => f i + g i) n + (f n + g n) = sumT f n + f n + (sumT g n + g n)
    rw [sumT_add n]
    omega
theorem sumT_mono {f g : Nat → Nat} : ∀ n, (∀ i, i < n → f i ≤ g i) → sumT f n ≤ sumT g n
  | 0, _ => Nat.le_refl _
  | n + 1, h => Nat.add_le_add (sumT_mono n (fun i hi => h i (by omega))) (h n (Nat.lt_succ_self n))
theorem stepF_sum {N : Nat → Nat → Int} {u F : Nat → Nat} (hu : ∀ w, u w ≤ 12) : ∀ n, sumT (fun s => stepF N u F n s) 4 ≤ 12 * sumT F 4 * n
  | 0 => Nat.zero_le _
  | n + 1 => by
    have ih := stepF_sum (N := N) (F := F) hu n
    have e : (fun s => stepF N u F (n + 1) s) = fun s => stepF N u F n s + (if soN N n = s then u n * gin F s else 0) := rfl
    rw [e, sumT_add, Nat.mul_succ]
    refine Nat.add_le_add ih (one4 (fun s => Nat.mul_le_mul (hu n) (sumT_mono 4 (fun a _ => ?_))))
    show (if fol a s then F a else 0) ≤ F a
    split
    · exact Nat.le_refl _
    · exact Nat.zero_le _
/-- the sums behind so many places -/
def Fq (N : Nat → Nat → Int) (u : Nat → Nat → Nat) (nW : Nat) : Nat → Nat → Nat
  | 0, a => if a = 3 then 1 else 0
  | i + 1, s => stepF N (u i) (Fq N u nW i) nW s
theorem Fq_sum {N : Nat → Nat → Int} {u : Nat → Nat → Nat} {nW : Nat} (hW : nW ≤ 12) (hu : ∀ i w, u i w ≤ 12) : ∀ i, sumT (Fq N u nW i) 4 ≤ 144 ^ i
  | 0 => Nat.le_refl 1
  | i + 1 => by
    have h := stepF_sum (N := N) (F := Fq N u nW i) (hu i) nW
    refine Nat.le_trans h ?_
    have := Nat.mul_le_mul (Nat.mul_le_mul (Nat.le_refl 12) (Fq_sum (N := N) hW hu i)) hW
    rw [Nat.pow_succ]
    omega
theorem sumT4 {f : Nat → Nat} {a : Nat} (h : a < 4) : f a ≤ sumT f 4 := by
  show f a ≤ 0 + f 0 + f 1 + f 2 + f 3
  match a, h with
  | 0, _ => omega
  | 1, _ => omega
  | 2, _ => omega
  | 3, _ => omega
theorem Fq_le {N : Nat → Nat → Int} {u : Nat → Nat → Nat} {nW i a : Nat} (hW : nW ≤ 12) (hu : ∀ i w, u i w ≤ 12) (ha : a < 4) : Fq N u nW i a ≤ 144 ^ i := Nat.le_trans (sumT4 ha) (Fq_sum hW hu i)
/-- at the start -/
theorem begin_c {S : Mem} {q q' t t' : Nat} (hH : HS S q q' t t') : ∃ S', g_X3_begin S = some S' ∧ KE S S' ∧ gR S' 38 = gR S 38 ∧ VEC S' q (fun a => if a = 3 then 1 else 0) ∧ gI S' t 3 = 0 := by
  obtain ⟨ty1, ty2, ty3, ty4, l1, l2, l3, l4, ne1, ne2, r1, r2, r3, r4, n1, n2, n3, n4⟩ := hH.ty
  obtain ⟨⟨g1, g2, g3, g4⟩, -⟩ := hH
  obtain ⟨S1, a1, a2, a3, a4⟩ := fill_g 0 S ty1 l1 (by decide)
  unfold g_X3_begin
  rw [g1, bS, a1, bS, a3, g1, bS, show (3 : Int) = ((3 : Nat) : Int) from rfl, std_c ty1 l1 (by decide), bS, show gR (sI S1 q 3 1) 38 4 = gR S1 38 4 from rfl, a3, g3, bS, std_c ty3 l3 (by decide), bS]
  refine ⟨_, rfl, ⟨fun c hc => by rw [gI_ne (by omega), gI_ne (by omega), a2 c (by omega)], fun c _ => a3 c⟩, by rw [← a3 38]; rfl, fun a ha => ?_, gI_eq⟩
  rw [gI_ne n1, gI_sI]
  by_cases e : a = 3
  · rw [if_pos ⟨rfl, e⟩]
    show (1 : Int) = (((if a = 3 then 1 else 0) : Nat) : Int)
    rw [if_pos e]
    rfl
  · rw [if_neg (fun z => e z.2), a4 a ha]
    show (0 : Int) = (((if a = 3 then 1 else 0) : Nat) : Int)
    rw [if_neg e]
    rfl
theorem swap_c {S : Mem} {q q' t t' : Nat} (hH : HS S q q' t t') : ∃ S', g_X3_swap S = some S' ∧ HS S' q' q t' t ∧ KE S S' ∧ ∀ c, gI S' c = gI S c := by
  obtain ⟨⟨g1, g2, g3, g4⟩, h1, h2⟩ := hH
  have gs : ∀ (S : Mem) (k : Nat) (v : Option Nat) (k' : Nat), gR (sR S 38 k v) 38 k' = if k' = k then v else gR S 38 k' := fun S k v k' => by
    show (if 38 = 38 ∧ k' = k then v else gR S 38 k') = _
    by_cases e : k' = k
    · rw [if_pos ⟨rfl, e⟩, if_pos e]
    · rw [if_neg (fun z => e z.2), if_neg e]
  unfold g_X3_swap
  simp only [ap]
  rw [g1, bS, g2, bS, gs, if_neg (by decide), gs, if_neg (by decide), g3, bS, gs, if_neg (by decide), gs, if_neg (by decide), g4, bS]
  refine ⟨_, rfl, ⟨⟨?_, ?_, ?_, ?_⟩, ?_, ?_⟩, ⟨fun c _ => rfl, fun c hc => ?_⟩, fun c => rfl⟩
  · rw [gs, if_neg (by decide), gs, if_neg (by decide), gs, if_neg (by decide), gs, if_pos rfl]
  · rw [gs, if_neg (by decide), gs, if_neg (by decide), gs, if_pos rfl]
  · rw [gs, if_neg (by decide), gs, if_pos rfl]
  · rw [gs, if_pos rfl]
  · rcases h1 with ⟨a, b⟩ | ⟨a, b⟩
    · exact Or.inr ⟨b, a⟩
    · exact Or.inl ⟨b, a⟩
  · rcases h2 with ⟨a, b⟩ | ⟨a, b⟩
    · exact Or.inr ⟨b, a⟩
    · exact Or.inl ⟨b, a⟩
  · funext k'
    have gn : ∀ (S : Mem) (k : Nat) (v : Option Nat), gR (sR S 38 k v) c k' = gR S c k' := fun S k v => by
      show (if c = 38 ∧ k' = k then v else gR S c k') = _
      rw [if_neg (fun z => hc z.1)]
    rw [gn, gn, gn, gn]
theorem place_c {N : Nat → Nat → Int} {nW nP wo : Nat} {hm : Bool} {ws : List Nat} {K : Mem → Option (Int × Mem)} (hN : NR N nW nP) (hwo : wo < 64) : ∀ (r i fu : Nat) (S : Mem) (q q' t t' : Nat), i + r = (ws.take 6).length → r < fu → OC N nW nP S → TG nW S ws → HS S q q' t t' → VEC S q (Fq N (uW N (ws.take 6) wo hm) nW i) → ∃ (S' : Mem) (p p' o o' : Nat), g_X3_sum_L6 K (wo : Int) (if hm then 1 else 0) fu (i : Int) S = K S' ∧ KE S S' ∧ HS S' p p' o o' ∧ VEC S' p (Fq N (uW N (ws.take 6) wo hm) nW (ws.take 6).length) := by
  have h6 := len6 ws
  have hu : ∀ i w, uW N (ws.take 6) wo hm i w ≤ 12 := fun i w => uW_le hN
  intro r
  induction r with
  | zero =>
    intro i fu S q q' t t' hi hf hO hT hH hV
    obtain ⟨fu, rfl⟩ : ∃ k, fu = k + 1 := ⟨fu - 1, by omega⟩
    have hi : i = (ws.take 6).length := hi
    rw [g_X3_sum_L6.eq_2, size_c hT, if_pos (by omega)]
    rw [hi] at hV
    exact ⟨S, q, q', t, t', rfl, KE.rf S, hH, hV⟩
  | succ r ih =>
    intro i fu S q q' t t' hi hf hO hT hH hV
    obtain ⟨fu, rfl⟩ : ∃ k, fu = k + 1 := ⟨fu - 1, by omega⟩
    have hil : i < (ws.take 6).length := by omega
    obtain ⟨ty1, ty2, ty3, ty4, l1, l2, l3, l4, ne1, ne2, r1, r2, r3, r4, n1, n2, n3, n4⟩ := hH.ty
    obtain ⟨⟨g1, g2, g3, g4⟩, -⟩ := id hH
    obtain ⟨S1, a1, a2, a3, a4⟩ := fill_g 0 S ty2 l2 (by decide)
    have k1 : KE S S1 := ⟨fun c hc => a2 c (by omega), fun c _ => a3 c⟩
    have hH1 := hH.of (a3 38)
    have b5 : (144 : Nat) ^ i ≤ 62000000000 := Nat.le_trans (Nat.pow_le_pow_right (by decide) (show i ≤ 5 by omega)) (by decide)
    obtain ⟨S2, w1, w2, w3, w4, w5⟩ := word_c (hm := hm) (K := fun S9 => (g_X3_swap S9).bind fun S10 => g_X3_sum_L6 K (wo : Int) (if hm then 1 else 0) fu ((i + 1 : Nat) : Int) S10) hN (hO.e k1) (hT.e k1) hil hwo hH1 (fun a ha => by rw [a2 q ne1]; exact hV a ha) (144 ^ i) (fun a ha => Fq_le hN.1.1 hu ha) b5 nW 0 FU S1 (Nat.zero_add _) (Nat.lt_of_le_of_lt hN.1.1 (by unfold FU; decide)) (KE.rf S1) rfl (fun _ _ => rfl) (fun a ha => by rw [a4 a ha]; rfl)
    obtain ⟨S3, s1, s2, s3, s4⟩ := swap_c (hH1.of w3)
    have k3 := (k1.tr w2).tr s3
    obtain ⟨S4, p, p', o, o', z1, z2, z3, z4⟩ := ih (i + 1) fu S3 q' q t' t (by omega) (by omega) (hO.e k3) (hT.e k3) s2 (fun a ha => by rw [s4]; exact w5 a ha)
    rw [show ((0 : Nat) : Int) = 0 from rfl] at w1
    rw [g_X3_sum_L6.eq_2, size_c hT, if_neg (show ¬ (((ws.take 6).length : Nat) : Int) ≤ (i : Int) by omega), g2, bS, a1, bS, w32_a i (by omega), w1]
    try simp only []
    rw [s1, bS, z1]
    exact ⟨S4, p, p', o, o', rfl, k3.tr z2, z3, z4⟩
/-- the class's sum -/
theorem sum_v {N : Nat → Nat → Int} {nW nP wo : Nat} {hm : Bool} {ws : List Nat} {S : Mem} (hN : NR N nW nP) (hwo : wo < 64) (hO : OC N nW nP S) (hT : TG nW S ws) (hR : RH S) : ∃ S', g_X3_sum (wo : Int) (if hm then 1 else 0) S = some (((Fq N (uW N (ws.take 6) wo hm) nW (ws.take 6).length 1 + Fq N (uW N (ws.take 6) wo hm) nW (ws.take 6).length 2 : Nat) : Int), S') ∧ KE S S' ∧ RH S' := by
  have h6 := len6 ws
  have hu : ∀ i w, uW N (ws.take 6) wo hm i w ≤ 12 := fun i w => uW_le hN
  obtain ⟨q, q', t, t', hH⟩ := HS_of hR
  obtain ⟨S1, b1, b2, b3, b4, b5⟩ := begin_c hH
  obtain ⟨S2, p, p', o, o', z1, z2, z3, z4⟩ := place_c (hm := hm) (K := fun S11 => (gR S11 38 2).bind fun q12 => (ldd S11 2 q12 1).bind fun x13 => (gR S11 38 2).bind fun q14 => (ldd S11 2 q14 2).bind fun x15 => some (w64 (x13 + x15), S11)) hN hwo (ws.take 6).length 0 FU S1 q q' t t' (Nat.zero_add _) (Nat.lt_of_le_of_lt h6 (by unfold FU; decide)) (hO.e b2) (hT.e b2) (hH.of b3) b4
  obtain ⟨ty1, ty2, ty3, ty4, l1, l2, l3, l4, -⟩ := z3.ty
  obtain ⟨⟨g1, -⟩, -⟩ := id z3
  have c6 : (144 : Nat) ^ (ws.take 6).length ≤ 8916100448256 := Nat.le_trans (Nat.pow_le_pow_right (by decide) h6) (by decide)
  have f1 := Nat.le_trans (Fq_le (N := N) (i := (ws.take 6).length) (a := 1) hN.1.1 hu (by decide)) c6
  have f2 := Nat.le_trans (Fq_le (N := N) (i := (ws.take 6).length) (a := 2) hN.1.1 hu (by decide)) c6
  rw [show ((0 : Nat) : Int) = 0 from rfl] at z1
  unfold g_X3_sum
  rw [b1, bS, z1]
  try simp only []
  rw [g1, bS, show (1 : Int) = ((1 : Nat) : Int) from rfl, ldd_c ty1 l1 (by decide), bS, bS, show (2 : Int) = ((2 : Nat) : Int) from rfl, ldd_c ty1 l1 (by decide), bS, z4 1 (by decide), z4 2 (by decide), a64 (by omega)]
  have ke := b2.tr z2
  exact ⟨S2, rfl, ke, RH_of' z3 (by rw [ke.1 33 (by omega)]; exact hR.2.2)⟩
