/-! WHAT CAN BE SAID, class: prices and words as one number -/
def IsM (e : List Nat → Nat) (X : List Nat → Prop) (v : Int) : Prop := (v = -1 ∧ ∀ t, ¬ X t) ∨ ∃ t, X t ∧ v = ((e t : Nat) : Int) ∧ ∀ t', X t' → e t ≤ e t'
theorem IsM_same {e : List Nat → Nat} {X Z : List Nat → Prop} {v : Int} (h : IsM e X v) (hZ : ∀ t, Z t ↔ X t) : IsM e Z v := by
  rcases h with ⟨a, b⟩ | ⟨t, a, b, c⟩
  · exact Or.inl ⟨a, fun t q => b t ((hZ t).mp q)⟩
  · exact Or.inr ⟨t, (hZ t).mpr a, b, fun t' q => c t' ((hZ t').mp q)⟩
theorem IsM_i {e : List Nat → Nat} {X : List Nat → Prop} {v : Int} (h : IsM e X v) : v = -1 ∨ 0 ≤ v := by
  rcases h with ⟨a, -⟩ | ⟨t, -, b, -⟩
  · exact Or.inl a
  · exact Or.inr (by omega)
theorem first_v {a b : Int} : g_X6_firstOf a b = if a < 0 then b else if b < 0 then a else if b < a then b else a := by
  unfold g_X6_firstOf g_J9_min_f86c9 lcm
  (repeat' split) <;> first | rfl | omega
theorem IsM_u {e : List Nat → Nat} {X Y Z : List Nat → Prop} {v v' : Int} (hX : IsM e X v) (hY : IsM e Y v') (hZ : ∀ t, Z t ↔ X t ∨ Y t) : IsM e Z (g_X6_firstOf v v') := by
  rw [first_v]
  rcases hX with ⟨a, b⟩ | ⟨t, a, b, c⟩
  · rw [if_pos (by omega)]
    refine IsM_same hY (fun t => (hZ t).trans ⟨fun q => q.resolve_left (b t), Or.inr⟩)
  · rw [if_neg (by omega)]
    rcases hY with ⟨a', b'⟩ | ⟨t', a', b', c'⟩
    · rw [if_pos (by omega)]
      exact Or.inr ⟨t, (hZ t).mpr (Or.inl a), b, fun x q => c x (((hZ x).mp q).resolve_right (b' x))⟩
    · rw [if_neg (by omega)]
      by_cases d : v' < v
      · rw [if_pos d]
        refine Or.inr ⟨t', (hZ t').mpr (Or.inr a'), b', fun x q => ?_⟩
        rcases (hZ x).mp q with q | q
        · have := c x q
          omega
        · exact c' x q
      · rw [if_neg d]
        refine Or.inr ⟨t, (hZ t).mpr (Or.inl a), b, fun x q => ?_⟩
        rcases (hZ x).mp q with q | q
        · exact c x q
        · have := c' x q
          omega
theorem sen_a {se : Nat → Nat} {w : Nat} : ∀ t : List Nat, sen se (t ++ [w]) = sen se t ||| se w
  | [] => by show se w ||| 0 = 0 ||| se w; rw [Nat.or_zero, Nat.zero_or]
  | v :: t => by
    show se v ||| sen se (t ++ [w]) = se v ||| sen se t ||| se w
    rw [sen_a t, Nat.or_assoc]
theorem sen_lt {se : Nat → Nat} : ∀ t : List Nat, (∀ w ∈ t, se w < 64) → sen se t < 64
  | [], _ => by show 0 < 64; decide
  | v :: t, h => or_lt 6 (h v (List.mem_cons_self ..)) (sen_lt t (fun w hw => h w (List.mem_cons_of_mem _ hw)))
theorem pco_a {nW w : Nat} {so : Nat → Nat} {pr : Nat → Nat → Nat → Nat} : ∀ (t : List Nat) (a p c : Nat), chn nW so a t c → pco so pr a p (t ++ [w]) = pco so pr a p t + pr w c (p + t.length)
  | [], a, p, c, h => by
    have h : a = c := h
    subst h
    show pr w a p + 0 = 0 + pr w a (p + 0)
    rw [Nat.add_zero, Nat.zero_add, Nat.add_zero]
  | v :: t, a, p, c, ⟨_, _, h⟩ => by
    show pr v a p + pco so pr (so v) (p + 1) (t ++ [w]) = pr v a p + pco so pr (so v) (p + 1) t + pr w c (p + (t.length + 1))
    rw [pco_a t (so v) (p + 1) c h, show p + 1 + t.length = p + (t.length + 1) by omega, Nat.add_assoc]
theorem pco_le {nW : Nat} {so : Nat → Nat} {pr : Nat → Nat → Nat → Nat} (hp : ∀ w a p, w < nW → pr w a p ≤ 99) : ∀ (t : List Nat) (a p : Nat), (∀ w ∈ t, w < nW) → pco so pr a p t ≤ 99 * t.length
  | [], _, _, _ => Nat.le_refl _
  | v :: t, a, p, h => by
    have ih := pco_le (so := so) hp t (so v) (p + 1) (fun w hw => h w (List.mem_cons_of_mem _ hw))
    have h1 := hp v a p (h v (List.mem_cons_self ..))
    show pr v a p + pco so pr (so v) (p + 1) t ≤ 99 * (t.length + 1)
    omega
/-- price and words -/
def ec (so : Nat → Nat) (pr : Nat → Nat → Nat → Nat) (t : List Nat) : Nat := pco so pr 3 0 t * 268435456 + wds 0 t
def Xn (nW : Nat) (so se : Nat → Nat) (p a s : Nat) (t : List Nat) : Prop := t.length = p ∧ chn nW so 3 t a ∧ sen se t = s
def Zn (nW : Nat) (so se : Nat → Nat) (p w a s b x : Nat) (t : List Nat) : Prop := ∃ p' v c, t = p' ++ [v] ∧ p'.length = p ∧ chn nW so 3 p' c ∧ v < nW ∧ fol c (so v) = true ∧ so v = b ∧ sen se p' ||| se v = x ∧ (v < w ∨ (v = w ∧ (c < a ∨ (c = a ∧ sen se p' < s))))
theorem cand_v {P c W w : Nat} (hP : P ≤ 1000) (hc : c ≤ 99) (hW : W < 1048576) (hw : w < 16) : o_lor (o_lor (o_lshl (w64 ((o_lshr ((P * 268435456 + W : Nat) : Int) 28) + (c : Int))) 28) (o_lshl (o_land ((P * 268435456 + W : Nat) : Int) 16777215) 4)) (w : Int) = (((P + c) * 268435456 + (16 * W + w) : Nat) : Int) := by
  have e1 : o_lshr ((P * 268435456 + W : Nat) : Int) 28 = (P : Int) := by
    rw [show (28 : Int) = ((28 : Nat) : Int) from rfl, olshr (by decide) (by omega), show (2 : Nat) ^ 28 = 268435456 from rfl, show (P * 268435456 + W) / 268435456 = P by omega]
  have e2 : o_land ((P * 268435456 + W : Nat) : Int) 16777215 = (W : Int) := by
    rw [show (16777215 : Int) = ((2 ^ 24 - 1 : Nat) : Int) from rfl, oland (by clear e1; omega), Nat.and_two_pow_sub_one_eq_mod, show (P * 268435456 + W) % 2 ^ 24 = W by clear e1; omega]
  rw [e1, e2]
  clear e1 e2
  rw [a64 (by omega), show (28 : Int) = ((28 : Nat) : Int) from rfl, show (4 : Int) = ((4 : Nat) : Int) from rfl, olshl (by decide) (by omega), olshl (by decide) (by omega), olor (by omega) (by omega)]
  rw [show (P + c) * 2 ^ 28 ||| W * 2 ^ 4 = (P + c) * 268435456 + W * 16 by rw [Nat.mul_comm (P + c), ← Nat.two_pow_add_eq_or_of_lt (i := 28) (by omega)]; try omega]
  rw [olor (by omega) (by omega)]
  rw [show ((P + c) * 268435456 + W * 16) ||| w = (P + c) * 268435456 + (16 * W + w) by
    rw [show (P + c) * 268435456 + W * 16 = 2 ^ 4 * ((P + c) * 16777216 + W) by omega, ← Nat.two_pow_add_eq_or_of_lt (i := 4) hw]
    omega]
/-- what is worked out may change -/
def KY (S S' : Mem) : Prop := (∀ c, c ≠ 13 → c ≠ 17 → c ≠ 18 → c ≠ 34 → c ≠ 35 → c ≠ 36 → c ≠ 37 → gI S' c = gI S c) ∧ (∀ k, k ≠ 10 → gI S' 13 k = gI S 13 k) ∧ ∀ c, c ≠ 34 → gR S' c = gR S c
theorem KY.rf (S : Mem) : KY S S := ⟨fun _ _ _ _ _ _ _ _ => rfl, fun _ _ => rfl, fun _ _ => rfl⟩
theorem KY.tr {S S' S'' : Mem} (h : KY S S') (g : KY S' S'') : KY S S'' := ⟨fun c h1 h2 h3 h4 h5 h6 h7 => (g.1 c h1 h2 h3 h4 h5 h6 h7).trans (h.1 c h1 h2 h3 h4 h5 h6 h7), fun k hk => (g.2.1 k hk).trans (h.2.1 k hk), fun c hc => (g.2.2 c hc).trans (h.2.2 c hc)⟩
theorem OC.y {N : Nat → Nat → Int} {nW nP : Nat} {S S' : Mem} (h : OC N nW nP S) (k : KY S S') : OC N nW nP S' := OC_of h (fun c hc => k.1 c (by omega) (by omega) (by omega) (by omega) (by omega) (by omega) (by omega)) (k.2.2 2 (by decide)) (k.2.2 23 (by decide))
theorem LC.y {law : Option (List Lin)} {S S' : Mem} (h : LC law S) (k : KY S S') : LC law S' := LC_of h (k.2.1 4 (by decide)) (k.1 15 (by decide) (by decide) (by decide) (by decide) (by decide) (by decide) (by decide)) (k.1 16 (by decide) (by decide) (by decide) (by decide) (by decide) (by decide) (by decide)) (k.2.2 13 (by decide))
theorem KP.y {S S' : Mem} (h : KP S S') : KY S S' := ⟨fun c h1 h2 h3 _ _ _ _ => h.1 c h1 h2 h3, h.2.1, fun c _ => h.2.2 c⟩
def QL (q l : Nat) : Prop := (q = 36 ∧ l = 37) ∨ (q = 37 ∧ l = 36)
theorem QL.ty {q l : Nat} (h : QL q l) : tyc q = (2, 256) ∧ tyc l = (2, 256) ∧ q < 56 ∧ l < 56 ∧ q ≠ l ∧ (q = 36 ∨ q = 37) ∧ (l = 36 ∨ l = 37) := by
  rcases h with ⟨rfl, rfl⟩ | ⟨rfl, rfl⟩
  · exact ⟨rfl, rfl, by decide, by decide, by decide, Or.inl rfl, Or.inr rfl⟩
  · exact ⟨rfl, rfl, by decide, by decide, by decide, Or.inr rfl, Or.inl rfl⟩
/-- the rows of what was said so far, and of what is one word longer -/
def NWp (nW : Nat) (so se : Nat → Nat) (pr : Nat → Nat → Nat → Nat) (p : Nat) (S : Mem) (q : Nat) : Prop := ∀ a s, a < 4 → s < 64 → IsM (ec so pr) (Xn nW so se p a s) (gI S q (64 * a + s))
def LGp (nW : Nat) (so se : Nat → Nat) (pr : Nat → Nat → Nat → Nat) (p w a s : Nat) (S : Mem) (l : Nat) : Prop := ∀ b x, b < 4 → x < 64 → IsM (ec so pr) (Zn nW so se p w a s b x) (gI S l (64 * b + x))
theorem Zn_skip {nW p w a s b x : Nat} {so se : Nat → Nat} {t : List Nat} (h : ∀ t', ¬ (Xn nW so se p a s t' ∧ fol a (so w) = true ∧ so w = b ∧ s ||| se w = x)) : Zn nW so se p w a (s + 1) b x t ↔ Zn nW so se p w a s b x t := by
  constructor
  · rintro ⟨p', v, c, h1, h2, h3, h4, h5, h6, h7, h8⟩
    refine ⟨p', v, c, h1, h2, h3, h4, h5, h6, h7, ?_⟩
    rcases h8 with h8 | ⟨h8, h9⟩
    · exact Or.inl h8
    · refine Or.inr ⟨h8, ?_⟩
      rcases h9 with h9 | ⟨h9, h10⟩
      · exact Or.inl h9
      · by_cases e : sen se p' = s
        · subst h8
          subst h9
          exact absurd ⟨⟨h2, h3, e⟩, h5, h6, by rw [← e]; exact h7⟩ (h p')
        · exact Or.inr ⟨h9, by omega⟩
  · rintro ⟨p', v, c, h1, h2, h3, h4, h5, h6, h7, h8⟩
    exact ⟨p', v, c, h1, h2, h3, h4, h5, h6, h7, h8.imp id (fun q => ⟨q.1, q.2.imp id (fun z => ⟨z.1, by omega⟩)⟩)⟩
theorem Zn_new {nW p w a s : Nat} {so se : Nat → Nat} {t : List Nat} (hw : w < nW) (hf : fol a (so w) = true) : Zn nW so se p w a (s + 1) (so w) (s ||| se w) t ↔ (Zn nW so se p w a s (so w) (s ||| se w) t ∨ ∃ t', Xn nW so se p a s t' ∧ t = t' ++ [w]) := by
  constructor
  · rintro ⟨p', v, c, h1, h2, h3, h4, h5, h6, h7, h8⟩
    by_cases e : v = w ∧ c = a ∧ sen se p' = s
    · obtain ⟨rfl, rfl, e⟩ := e
      exact Or.inr ⟨p', ⟨h2, h3, e⟩, h1⟩
    · refine Or.inl ⟨p', v, c, h1, h2, h3, h4, h5, h6, h7, ?_⟩
      rcases h8 with h8 | ⟨h8, h9⟩
      · exact Or.inl h8
      · refine Or.inr ⟨h8, ?_⟩
        rcases h9 with h9 | ⟨h9, h10⟩
        · exact Or.inl h9
        · refine Or.inr ⟨h9, ?_⟩
          by_cases z : sen se p' = s
          · exact absurd ⟨h8, h9, z⟩ e
          · omega
  · rintro (⟨p', v, c, h1, h2, h3, h4, h5, h6, h7, h8⟩ | ⟨t', ⟨h1, h2, h3⟩, rfl⟩)
    · exact ⟨p', v, c, h1, h2, h3, h4, h5, h6, h7, h8.imp id (fun q => ⟨q.1, q.2.imp id (fun z => ⟨z.1, by omega⟩)⟩)⟩
    · exact ⟨t', w, a, rfl, h1, h2, hw, hf, rfl, by rw [h3], Or.inr ⟨rfl, Or.inr ⟨rfl, by omega⟩⟩⟩
theorem lex_k {P P' W W' c w K : Nat} (hW : W' < K) (hw : 16 * W + w < K) (h : P * K + W ≤ P' * K + W') : (P + c) * K + (16 * W + w) ≤ (P' + c) * K + (16 * W' + w) := by
  rcases Nat.lt_trichotomy P P' with e | e | e
  · have h1 : (P + c + 1) * K ≤ (P' + c) * K := Nat.mul_le_mul_right K (by omega)
    rw [Nat.add_mul (P + c) 1, Nat.one_mul] at h1
    omega
  · subst e
    have h1 : W ≤ W' := Nat.le_of_add_le_add_left h
    exact Nat.add_le_add_left (by omega) _
  · have h1 : (P' + 1) * K ≤ P * K := Nat.mul_le_mul_right K (by omega)
    rw [Nat.add_mul P' 1, Nat.one_mul] at h1
    omega
theorem lex_le {P P' W W' c w : Nat} (hw : w < 16) (hW : W < 1048576) (hW' : W' < 1048576) (h : P * 268435456 + W ≤ P' * 268435456 + W') : (P + c) * 268435456 + (16 * W + w) ≤ (P' + c) * 268435456 + (16 * W' + w) := lex_k (by omega) (by omega) h
theorem ext_m {nW p a w c s : Nat} {so se : Nat → Nat} {pr : Nat → Nat → Nat → Nat} (hW : nW ≤ 12) (hw16 : w < 16) (hp : p ≤ 5) (hpr : ∀ w a p, w < nW → pr w a p ≤ 99) (hc : pr w a p = c) {v : Int} (h : IsM (ec so pr) (Xn nW so se p a s) v) (h0 : 0 ≤ v) : ∃ P W : Nat, P ≤ 1000 ∧ W < 1048576 ∧ v = ((P * 268435456 + W : Nat) : Int) ∧ IsM (ec so pr) (fun t => ∃ t', Xn nW so se p a s t' ∧ t = t' ++ [w]) (((P + c) * 268435456 + (16 * W + w) : Nat) : Int) := by
  rcases h with ⟨h1, -⟩ | ⟨t, h1, h2, h3⟩
  · omega
  · have b1 : ∀ t', Xn nW so se p a s t' → pco so pr 3 0 t' ≤ 1000 ∧ wds 0 t' < 1048576 := fun t' q => by
      have hw' := chn_w t' 3 a q.2.1
      have := pco_le (so := so) hpr t' 3 0 hw'
      rw [q.1] at this
      exact ⟨by omega, pw16 hW hp q.1 hw'⟩
    obtain ⟨b2, b3⟩ := b1 t h1
    have ee : ∀ t', Xn nW so se p a s t' → ec so pr (t' ++ [w]) = (pco so pr 3 0 t' + c) * 268435456 + (16 * wds 0 t' + w) := fun t' q => by
      unfold ec
      rw [pco_a t' 3 0 a q.2.1, wds_a, Nat.zero_add, q.1, hc]
    refine ⟨pco so pr 3 0 t, wds 0 t, b2, b3, h2, Or.inr ⟨t ++ [w], ⟨t, h1, rfl⟩, by rw [ee t h1], ?_⟩⟩
    rintro x ⟨t', g1, rfl⟩
    rw [ee t h1, ee t' g1]
    have := h3 t' g1
    unfold ec at this
    exact lex_le hw16 b3 (b1 t' g1).2 this
theorem lnd_y {q l : Nat} (h : QL q l) : lnd 2 l = some 256 := by
  rcases h with ⟨-, rfl⟩ | ⟨-, rfl⟩ <;> rfl
theorem idx_v {a s : Nat} (ha : a < 4) (hs : s < 64) : w32 ((w32 ((a : Int) * 64)) + (s : Int)) = ((64 * a + s : Nat) : Int) := by
  rw [w32s (i := (a : Int) * 64) (by omega) (by omega), w32s (by omega) (by omega)]
  omega
/-- one word behind all of a sort -/
theorem len_l {N : Nat → Nat → Int} {nW nP p w a q l : Nat} {law : Option (List Lin)} {S : Mem} (hN : NR N nW nP) (hp : p ≤ 5) (hw : w < nW) (ha : a < 4) (hq : QL q l) (hf : fol a (soN N w) = true) (hB : NWp nW (soN N) (seN N) (prN law N) p S q) : ∀ (r s fu : Nat) (pc : Int) (T : Mem), s + r = 64 → r < fu → OC N nW nP T → LC law T → (pc = -1 ∨ pc = ((prN law N w a p : Nat) : Int)) → KY S T → gR T 34 = gR S 34 → gR S 34 3 = some q → gR S 34 4 = some l → gI T q = gI S q → (gI T 34 = gI S 34 ∧ gI T 35 = gI S 35) → LGp nW (soN N) (seN N) (prN law N) p w a s T l → ∃ T', g_X6_lengthen_L38 (a : Int) (w : Int) (p : Int) ((soN N w : Nat) : Int) ((seN N w : Nat) : Int) fu pc (s : Int) T = some T' ∧ KY S T' ∧ gR T' 34 = gR S 34 ∧ gI T' q = gI S q ∧ (gI T' 34 = gI S 34 ∧ gI T' 35 = gI S 35) ∧ LGp nW (soN N) (seN N) (prN law N) p w a 64 T' l := by
  obtain ⟨ty1, ty2, l1, l2, ne, hq1, hl1⟩ := hq.ty
  have nW12 := hN.1.1
  have so3 := (soN_i hN hw).2
  have s64 := (seN_i hN hw).2
  have hpr : ∀ w a p, w < nW → prN law N w a p ≤ 99 := fun w a p h => (prN_i hN h).2
  intro r
  induction r with
  | zero =>
    intro s fu pc T hs hf' hO hL hpc hK hR g3 g4 hTq h345 hG
    obtain ⟨fu, rfl⟩ : ∃ k, fu = k + 1 := ⟨fu - 1, by omega⟩
    have hs : s = 64 := hs
    subst hs
    rw [g_X6_lengthen_L38.eq_2, if_pos (by decide)]
    exact ⟨T, rfl, hK, hR, hTq, h345, hG⟩
  | succ r ih =>
    intro s fu pc T hs hf' hO hL hpc hK hR g3 g4 hTq h345 hG
    obtain ⟨fu, rfl⟩ : ∃ k, fu = k + 1 := ⟨fu - 1, by omega⟩
    have hs64 : s < 64 := by omega
    have ix : 64 * a + s < 256 := by omega
    have hv := hB a s ha hs64
    rw [g_X6_lengthen_L38.eq_2, if_neg (show ¬ (64 : Int) ≤ (s : Int) by omega), idx_v ha hs64, hR, g3, bS, ldd_c ty1 l1 ix, bS, hTq, w32_a s (by omega)]
    by_cases c0 : gI S q (64 * a + s) < 0
    · have cl : lcm (gI S q (64 * a + s)) 0 < 0 := by
        unfold lcm
        rw [if_neg (by omega), if_neg (by omega)]
        decide
      rw [if_pos cl]
      have em : ∀ t, ¬ Xn nW (soN N) (seN N) p a s t := by
        rcases hv with ⟨-, h⟩ | ⟨t, -, h, -⟩
        · exact h
        · omega
      exact ih (s + 1) fu pc T (by omega) (by omega) hO hL hpc hK hR g3 g4 hTq h345 (fun b x hb hx => IsM_same (hG b x hb hx) (fun t => Zn_skip (fun t' z => em t' z.1)))
    · have cl : ¬ lcm (gI S q (64 * a + s)) 0 < 0 := by
        unfold lcm
        split
        · decide
        · split
          · decide
          · omega
      rw [if_neg cl]
      obtain ⟨P, W, b1, b2, b3, b4⟩ := ext_m (w := w) (c := prN law N w a p) nW12 (by omega) hp hpr rfl hv (by omega)
      have xo : s ||| seN N w < 64 := or_lt 6 hs64 s64
      have i2 : 64 * soN N w + (s ||| seN N w) < 256 := by omega
      have p99 := hpr w a p hw
      have eo : o_or (s : Int) ((seN N w : Nat) : Int) = ((s ||| seN N w : Nat) : Int) := oor (by omega) (by omega)
      -- the rest, wherever the price comes from
      have rest : ∀ T : Mem, OC N nW nP T → LC law T → KY S T → gR T 34 = gR S 34 → gI T q = gI S q → (gI T 34 = gI S 34 ∧ gI T 35 = gI S 35) → LGp nW (soN N) (seN N) (prN law N) p w a s T l → ∃ T', g_X6_lengthen_J86 (g_X6_lengthen_L38 (a : Int) (w : Int) (p : Int) ((soN N w : Nat) : Int) ((seN N w : Nat) : Int) fu) (a : Int) (w : Int) (p : Int) ((soN N w : Nat) : Int) ((seN N w : Nat) : Int) (s : Int) (gI S q (64 * a + s)) ((prN law N w a p : Nat) : Int) T = some T' ∧ KY S T' ∧ gR T' 34 = gR S 34 ∧ gI T' q = gI S q ∧ (gI T' 34 = gI S 34 ∧ gI T' 35 = gI S 35) ∧ LGp nW (soN N) (seN N) (prN law N) p w a 64 T' l := by
        intro T hO hL hK hR hTq h345 hG
        unfold g_X6_lengthen_J86
        simp only [ap]
        rw [b3, cand_v b1 p99 b2 (by omega), eo, idx_v (by omega) xo, hR, g4, if_neg (show ¬ ((64 * soN N w + (s ||| seN N w) : Nat) : Int) < 0 by omega), bS, lnd_y hq, bS, if_neg (show ¬ (256 : Int) ≤ ((64 * soN N w + (s ||| seN N w) : Nat) : Int) by omega), bS, bS, ldd_c ty2 l2 i2, bS, std_c ty2 l2 i2, bS, w32_a s (by omega)]
        have ky : KY T (sI T l (64 * soN N w + (s ||| seN N w)) (g_X6_firstOf (gI T l (64 * soN N w + (s ||| seN N w))) (((P + prN law N w a p) * 268435456 + (16 * W + w) : Nat) : Int))) := ⟨fun c h1 h2 h3 h4 h5 h6 h7 => gI_ne (by omega), fun k _ => by rw [gI_ne (by omega)], fun c _ => rfl⟩
        refine ih (s + 1) fu _ _ (by omega) (by omega) (hO.y ky) (hL.y ky) (Or.inr rfl) (hK.tr ky) hR g3 g4 (by rw [gI_ne ne]; exact hTq) ⟨by rw [gI_ne (by omega)]; exact h345.1, by rw [gI_ne (by omega)]; exact h345.2⟩ (fun b x hb hx => ?_)
        by_cases e : b = soN N w ∧ x = (s ||| seN N w)
        · obtain ⟨rfl, rfl⟩ := e
          rw [gI_eq]
          exact IsM_u (hG _ _ hb hx) b4 (fun t => Zn_new hw hf)
        · rw [gI_ek (by omega)]
          exact IsM_same (hG b x hb hx) (fun t => Zn_skip (fun t' z => e ⟨z.2.2.1.symm, z.2.2.2.symm⟩))
      rcases hpc with hpc | hpc
      · obtain ⟨T1, u1, u2⟩ := price_c hN hO hL a p hw
        rw [if_neg (show ¬ 0 ≤ pc by omega), u1, bd2S]
        refine rest T1 (hO.y u2.y) (hL.y u2.y) (hK.tr u2.y) (by rw [u2.2.2, hR]) (by rw [u2.1 q (by omega) (by omega) (by omega)]; exact hTq) ⟨by rw [u2.1 34 (by decide) (by decide) (by decide)]; exact h345.1, by rw [u2.1 35 (by decide) (by decide) (by decide)]; exact h345.2⟩ (fun b x hb hx => ?_)
        rw [u2.1 l (by omega) (by omega) (by omega)]
        exact hG b x hb hx
      · rw [if_pos (show 0 ≤ pc by omega), hpc]
        exact rest T hO hL hK hR hTq h345 hG
