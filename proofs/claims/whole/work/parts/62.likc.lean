/-! THE LIKELIEST, class -/
/-- words behind the first place, by the last one's sort -/
def Xs (N : Nat → Nat → Int) (nW i a : Nat) (t : List Nat) : Prop := t.length = i ∧ chn nW (soN N) 3 t a
/-- so far gone through: words ahead of w, and w behind sorts ahead of a -/
def Zp (N : Nat → Nat → Int) (nW i w a s : Nat) (t : List Nat) : Prop := ∃ p v c, t = p ++ [v] ∧ p.length = i ∧ chn nW (soN N) 3 p c ∧ v < nW ∧ fol c (soN N v) = true ∧ soN N v = s ∧ (v < w ∨ (v = w ∧ c < a))
def BST (N : Nat → Nat → Int) (V : List Nat) (nW i : Nat) (S : Mem) (q t : Nat) : Prop := ∀ a, a < 4 → ∃ o : Nat, gI S q a = (o : Int) ∧ o ≤ 12 ^ i ∧ IsB (pW N V 0) (Xs N nW i a) o (gI S t a)
def BPT (N : Nat → Nat → Int) (V : List Nat) (nW i w a : Nat) (S : Mem) (q t : Nat) : Prop := ∀ s, s < 4 → ∃ o : Nat, gI S q s = (o : Int) ∧ o ≤ 12 ^ (i + 1) ∧ IsB (pW N V 0) (Zp N nW i w a s) o (gI S t s)
theorem IsB_W {pr : List Nat → Nat} {X : List Nat → Prop} {o : Nat} {W W' : Int} (h : IsB pr X o W) (e : o = 0 ∨ W' = W) : IsB pr X o W' := by
  rcases h with h | ⟨h0, t, h1, h2, h3, h4⟩
  · exact Or.inl h
  · rcases e with e | e
    · omega
    · exact Or.inr ⟨h0, t, h1, h2, by rw [e, h3], h4⟩
theorem chn_lt {nW : Nat} {so : Nat → Nat} (hs : ∀ w, w < nW → so w < 4) : ∀ (t : List Nat) (a b : Nat), a < 4 → chn nW so a t b → b < 4
  | [], a, b, ha, h => by have h : a = b := h; omega
  | v :: t, a, b, _, ⟨h1, _, h3⟩ => chn_lt hs t (so v) b (hs v h1) h3
theorem app_ex {t : List Nat} {i : Nat} (h : t.length = i + 1) : ∃ p v, t = p ++ [v] ∧ p.length = i := by
  have hne : t ≠ [] := fun e => by rw [e] at h; cases h
  refine ⟨t.dropLast, t.getLast hne, (List.dropLast_concat_getLast hne).symm, ?_⟩
  rw [List.length_dropLast]
  omega
theorem app_inj {p p' : List Nat} {v v' : Nat} (h : p ++ [v] = p' ++ [v']) : p = p' ∧ v = v' := by
  have := List.append_inj' h rfl
  exact ⟨this.1, by have := this.2; cases this; rfl⟩
theorem Zp_s {N : Nat → Nat → Int} {nW i w a s : Nat} {t : List Nat} (h : ¬ (soN N w = s ∧ fol a s = true)) : Zp N nW i w (a + 1) s t ↔ Zp N nW i w a s t := by
  constructor
  · rintro ⟨p, v, c, h1, h2, h3, h4, h5, h6, h7⟩
    refine ⟨p, v, c, h1, h2, h3, h4, h5, h6, ?_⟩
    rcases h7 with h7 | ⟨h7, h8⟩
    · exact Or.inl h7
    · by_cases e : c = a
      · subst e
        subst h7
        rw [h6] at h5
        exact absurd ⟨h6, h5⟩ h
      · exact Or.inr ⟨h7, by omega⟩
  · rintro ⟨p, v, c, h1, h2, h3, h4, h5, h6, h7⟩
    exact ⟨p, v, c, h1, h2, h3, h4, h5, h6, h7.imp id (fun q => ⟨q.1, by omega⟩)⟩
theorem Zp_n {N : Nat → Nat → Int} {nW i w a : Nat} {t : List Nat} (hw : w < nW) (hf : fol a (soN N w) = true) : Zp N nW i w (a + 1) (soN N w) t ↔ (Zp N nW i w a (soN N w) t ∨ ∃ s, Xs N nW i a s ∧ t = s ++ [w]) := by
  constructor
  · rintro ⟨p, v, c, h1, h2, h3, h4, h5, h6, h7⟩
    by_cases e : v = w ∧ c = a
    · obtain ⟨rfl, rfl⟩ := e
      exact Or.inr ⟨p, ⟨h2, h3⟩, h1⟩
    · refine Or.inl ⟨p, v, c, h1, h2, h3, h4, h5, h6, ?_⟩
      rcases h7 with h7 | ⟨h7, h8⟩
      · exact Or.inl h7
      · exact Or.inr ⟨h7, by
          by_cases q : c = a
          · exact absurd ⟨h7, q⟩ e
          · omega⟩
  · rintro (⟨p, v, c, h1, h2, h3, h4, h5, h6, h7⟩ | ⟨s, ⟨h1, h2⟩, rfl⟩)
    · exact ⟨p, v, c, h1, h2, h3, h4, h5, h6, h7.imp id (fun q => ⟨q.1, by omega⟩)⟩
    · exact ⟨s, w, a, rfl, h1, h2, hw, hf, rfl, Or.inr ⟨rfl, Nat.lt_succ_self a⟩⟩
theorem Zp_w {N : Nat → Nat → Int} {nW nP i w s : Nat} {t : List Nat} (hN : NR N nW nP) : Zp N nW i (w + 1) 0 s t ↔ Zp N nW i w 4 s t := by
  constructor
  · rintro ⟨p, v, c, h1, h2, h3, h4, h5, h6, h7⟩
    have hc := chn_lt (fun w hw => by have := (soN_i hN hw).2; omega) p 3 c (by decide) h3
    exact ⟨p, v, c, h1, h2, h3, h4, h5, h6, by omega⟩
  · rintro ⟨p, v, c, h1, h2, h3, h4, h5, h6, h7⟩
    exact ⟨p, v, c, h1, h2, h3, h4, h5, h6, by omega⟩
theorem Zp_e {N : Nat → Nat → Int} {nW i s : Nat} {t : List Nat} : Xs N nW (i + 1) s t ↔ Zp N nW i nW 0 s t := by
  constructor
  · rintro ⟨h1, h2⟩
    obtain ⟨p, v, rfl, h3⟩ := app_ex h1
    obtain ⟨c, g1, g2, g3, g4⟩ := (chn_a p 3).mp h2
    exact ⟨p, v, c, rfl, h3, g1, g2, g3, g4, Or.inl g2⟩
  · rintro ⟨p, v, c, rfl, h2, h3, h4, h5, h6, -⟩
    exact ⟨by rw [List.length_append, h2]; rfl, (chn_a p 3).mpr ⟨c, h3, h4, h5, h6⟩⟩
theorem pw16 {t : List Nat} {nW i : Nat} (hW : nW ≤ 12) (hi : i ≤ 5) (h : t.length = i) (hw : ∀ w ∈ t, w < nW) : wds 0 t < 1048576 := by
  have h1 := wds_lt t (fun w q => by have := hw w q; omega)
  rw [h] at h1
  exact Nat.lt_of_lt_of_le h1 (Nat.le_trans (Nat.pow_le_pow_right (by decide) hi) (by decide))
theorem sh16 {x w : Nat} (hx : x < 1048576) (hw : w < 16) : o_or (o_shl (x : Int) 4) (w : Int) = 16 * (x : Int) + (w : Int) := by
  rw [show (4 : Int) = ((4 : Nat) : Int) from rfl, oshl (by decide) (by omega), oor (by omega) (by omega), or16 hw]
  omega
/-- one word tried behind each sort -/
theorem try_c {N : Nat → Nat → Int} {nW nP i w q q' t t' : Nat} {V : List Nat} {S : Mem} (hN : NR N nW nP) (hi : i ≤ 5) (hw : w < nW) (hH : HS S q q' t t') (hB : BST N V nW i S q t) : ∀ (r a fu : Nat) (T : Mem), a + r = 4 → r < fu → KE S T → gR T 38 = gR S 38 → (∀ c, c ≠ q' → c ≠ t' → gI T c = gI S c) → BPT N V nW i w a T q' t' → ∃ T', g_X3_tryWord_L13 (w : Int) ((wtN N V i w : Nat) : Int) ((soN N w : Nat) : Int) fu (a : Int) T = some T' ∧ KE S T' ∧ gR T' 38 = gR S 38 ∧ (∀ c, c ≠ q' → c ≠ t' → gI T' c = gI S c) ∧ BPT N V nW i w 4 T' q' t' := by
  obtain ⟨ty1, ty2, ty3, ty4, l1, l2, l3, l4, ne1, ne2, r1, r2, r3, r4, n1, n2, n3, n4⟩ := hH.ty
  have nW12 := hN.1.1
  have so3 := (soN_i hN hw).2
  have s4 : soN N w < 4 := by omega
  intro r
  induction r with
  | zero =>
    intro a fu T ha hf hK hR hc hP
    obtain ⟨fu, rfl⟩ : ∃ k, fu = k + 1 := ⟨fu - 1, by omega⟩
    have ha : a = 4 := ha
    subst ha
    rw [g_X3_tryWord_L13.eq_2, if_pos (by decide)]
    exact ⟨T, rfl, hK, hR, hc, hP⟩
  | succ r ih =>
    intro a fu T ha hf hK hR hc hP
    obtain ⟨fu, rfl⟩ : ∃ k, fu = k + 1 := ⟨fu - 1, by omega⟩
    have ha4 : a < 4 := by omega
    rw [g_X3_tryWord_L13.eq_2, if_neg (show ¬ (3 : Int) < (a : Int) by omega), fol_c a ha4 _ so3, w32_a a (by omega)]
    cases hf' : fol a (soN N w) with
    | false =>
      rw [bF, i00]
      refine ih (a + 1) fu T (by omega) (by omega) hK hR hc (fun s hs => ?_)
      obtain ⟨o, o1, o2, o3⟩ := hP s hs
      exact ⟨o, o1, o2, IsB_same o3 (fun x => Zp_s (fun z => by rw [← z.1, hf'] at z; exact absurd z.2 (by decide)))⟩
    | true =>
      obtain ⟨⟨g1, g2, g3, g4⟩, -⟩ := hH.of hR
      obtain ⟨o, o1, o2, o3⟩ := hB a ha4
      obtain ⟨p, p1, p2, p3⟩ := hP (soN N w) s4
      have eq : gI T q a = (o : Int) := by rw [hc q ne1 n2]; exact o1
      have et : gI T t a = gI S t a := by rw [hc t (fun z => n3 z.symm) ne2]
      have wl : wtN N V i w ≤ 12 := wtN_le hN
      have b5 : (12 : Nat) ^ i ≤ 248832 := (p5 hi).2
      have ob : o * wtN N V i w ≤ 12 ^ (i + 1) := by rw [Nat.pow_succ]; exact Nat.mul_le_mul o2 wl
      have b6 : (12 : Nat) ^ (i + 1) ≤ 2985984 := by rw [Nat.pow_succ]; omega
      have em : w64 ((o : Int) * ((wtN N V i w : Nat) : Int)) = ((o * wtN N V i w : Nat) : Int) := m64' (by omega)
      -- the candidate
      have cand : IsB (pW N V 0) (fun x => ∃ s, Xs N nW i a s ∧ x = s ++ [w]) (o * wtN N V i w) (o_or (o_shl (gI S t a) 4) (w : Int)) := by
        have h1 := IsB_ext (pr' := pW N V 0) (Y := fun x => ∃ s, Xs N nW i a s ∧ x = s ++ [w]) (u := wtN N V i w) (w := w) o3 (fun _ => Iff.rfl) (fun s hs => by rw [pW_a, Nat.zero_add, hs.1])
        refine IsB_W h1 ?_
        rcases o3 with ⟨z, -⟩ | ⟨z, x, x1, x2, x3, -⟩
        · exact Or.inl (by rw [z, Nat.zero_mul])
        · refine Or.inr ?_
          rw [x3]
          exact sh16 (pw16 nW12 hi x1.1 (chn_w x 3 a x1.2)) (by omega)
      rw [bT, i10, g1, bS, ldd_c ty1 l1 ha4, bS, g3, bS, ldd_c ty3 l3 ha4, bS, g2, bS, ldd_c ty2 l2 s4, bS, g4, bS, ldd_c ty4 l4 s4, bS, eq, et, em, p1]
      clear em
      obtain ⟨v1, v2⟩ := isA_v (o := o * wtN N V i w) (o' := p) (W := o_or (o_shl (gI S t a) 4) (w : Int)) (W' := gI T t' (soN N w))
      by_cases cA : aheadP (o * wtN N V i w) (o_or (o_shl (gI S t a) 4) (w : Int)) p (gI T t' (soN N w))
      · rw [v1 cA, i10, bS, std_c ty2 l2 s4, bS, show gR (sI T q' (soN N w) ((o * wtN N V i w : Nat) : Int)) 38 5 = gR T 38 5 from rfl, g4, bS, std_c ty4 l4 s4, bS]
        refine ih (a + 1) fu _ (by omega) (by omega) ⟨fun c hc' => by rw [gI_ne (by omega), gI_ne (by omega)]; exact hK.1 c hc', hK.2⟩ hR (fun c h1 h2 => by rw [gI_ne h2, gI_ne h1]; exact hc c h1 h2) (fun s hs => ?_)
        by_cases e : s = soN N w
        · subst e
          refine ⟨o * wtN N V i w, by rw [gI_ne n4, gI_eq], ob, ?_⟩
          rw [gI_eq]
          exact IsB_new p3 cand (fun x => Zp_n hw hf') cA
        · obtain ⟨o', o1', o2', o3'⟩ := hP s hs
          refine ⟨o', by rw [gI_ne n4, gI_ek e]; exact o1', o2', ?_⟩
          rw [gI_ek e, gI_ne (fun z => n4 z.symm)]
          exact IsB_same o3' (fun x => Zp_s (fun z => e z.1.symm))
      · rw [v2 cA, i00]
        refine ih (a + 1) fu T (by omega) (by omega) hK hR hc (fun s hs => ?_)
        by_cases e : s = soN N w
        · subst e
          exact ⟨p, p1, p2, IsB_old p3 cand (fun x => Zp_n hw hf') cA⟩
        · obtain ⟨o', o1', o2', o3'⟩ := hP s hs
          exact ⟨o', o1', o2', IsB_same o3' (fun x => Zp_s (fun z => e z.1.symm))⟩
theorem lword_c {N : Nat → Nat → Int} {nW nP i q q' t t' : Nat} {ws : List Nat} {S : Mem} {K : Mem → Option (Int × Mem)} {k : Int} (hN : NR N nW nP) (hO : OC N nW nP S) (hT : TG nW S ws) (hi : i < (ws.take 6).length) (hH : HS S q q' t t') (hB : BST N (ws.take 6) nW i S q t) : ∀ (r w fu : Nat) (T : Mem), w + r = nW → r < fu → KE S T → gR T 38 = gR S 38 → (∀ c, c ≠ q' → c ≠ t' → gI T c = gI S c) → BPT N (ws.take 6) nW i w 0 T q' t' → ∃ T', g_X3_likeliest_L24 K k (i : Int) fu (w : Int) T = K T' ∧ KE S T' ∧ gR T' 38 = gR S 38 ∧ BPT N (ws.take 6) nW i nW 0 T' q' t' := by
  have nW12 := hN.1.1
  have h6 := len6 ws
  obtain ⟨ty1, ty2, ty3, ty4, l1, l2, l3, l4, ne1, ne2, r1, r2, r3, r4, n1, n2, n3, n4⟩ := hH.ty
  intro r
  induction r with
  | zero =>
    intro w fu T hw hf hK hR hc hP
    obtain ⟨fu, rfl⟩ : ∃ k, fu = k + 1 := ⟨fu - 1, by omega⟩
    have hw : w = nW := hw
    rw [g_X3_likeliest_L24.eq_2, (hO.e hK).2.1.1, if_pos (by omega)]
    rw [hw] at hP
    exact ⟨T, rfl, hK, hR, hP⟩
  | succ r ih =>
    intro w fu T hw hf hK hR hc hP
    obtain ⟨fu, rfl⟩ : ∃ k, fu = k + 1 := ⟨fu - 1, by omega⟩
    have hwW : w < nW := by omega
    have hO' := hO.e hK
    have v2 := val_o hN hO' (w := 2) (n := w) (by decide) hwW
    rw [show ((2 : Nat) : Int) = 2 from rfl, (soN_i hN hwW).1] at v2
    have hBT : BST N (ws.take 6) nW i T q t := fun a ha => by
      rw [hc q ne1 n2, hc t (fun z => n3 z.symm) ne2]
      exact hB a ha
    obtain ⟨T1, a1, a2, a3, a4, a5⟩ := try_c hN (show i ≤ 5 by omega) hwW (hH.of hR) hBT 4 0 FU T rfl (by unfold FU; decide) (KE.rf T) rfl (fun _ _ _ => rfl) hP
    obtain ⟨T2, b1, b2, b3, b4⟩ := ih (w + 1) fu T1 (by omega) (by omega) (hK.tr a2) (a3.trans hR) (fun c h1 h2 => (a4 c h1 h2).trans (hc c h1 h2)) (fun s hs => by
      obtain ⟨o, o1, o2, o3⟩ := a5 s hs
      exact ⟨o, o1, o2, IsB_same o3 (fun x => Zp_w hN)⟩)
    rw [show ((0 : Nat) : Int) = 0 from rfl] at a1
    rw [g_X3_likeliest_L24.eq_2, hO'.2.1.1, if_neg (show ¬ (nW : Int) ≤ (w : Int) by omega), wat_c (hT.e hK) hi, bS, odds_c hN hO' hwW, bS, w32_a w (by omega)]
    unfold g_X3_tryWord
    rw [v2, bS, a1, bS]
    exact ⟨T2, b1, b2, b3, b4⟩
theorem lplace_c {N : Nat → Nat → Int} {nW nP : Nat} {ws : List Nat} {K : Mem → Option (Int × Mem)} {k : Int} (hN : NR N nW nP) : ∀ (r i fu : Nat) (S : Mem) (q q' t t' : Nat), i + r = (ws.take 6).length → r < fu → OC N nW nP S → TG nW S ws → HS S q q' t t' → BST N (ws.take 6) nW i S q t → ∃ (S' : Mem) (p p' o o' : Nat), g_X3_likeliest_L6 K k fu (i : Int) S = K S' ∧ KE S S' ∧ HS S' p p' o o' ∧ BST N (ws.take 6) nW (ws.take 6).length S' p o := by
  have h6 := len6 ws
  intro r
  induction r with
  | zero =>
    intro i fu S q q' t t' hi hf hO hT hH hV
    obtain ⟨fu, rfl⟩ : ∃ k, fu = k + 1 := ⟨fu - 1, by omega⟩
    have hi : i = (ws.take 6).length := hi
    rw [g_X3_likeliest_L6.eq_2, size_c hT, if_pos (by omega)]
    rw [hi] at hV
    exact ⟨S, q, q', t, t', rfl, KE.rf S, hH, hV⟩
  | succ r ih =>
    intro i fu S q q' t t' hi hf hO hT hH hV
    obtain ⟨fu, rfl⟩ : ∃ k, fu = k + 1 := ⟨fu - 1, by omega⟩
    have hil : i < (ws.take 6).length := by omega
    obtain ⟨ty1, ty2, ty3, ty4, l1, l2, l3, l4, ne1, ne2, r1, r2, r3, r4, n1, n2, n3, n4⟩ := hH.ty
    obtain ⟨⟨g1, g2, g3, g4⟩, -⟩ := id hH
    obtain ⟨S1, a1, a2, a3, a4⟩ := fill_g 0 S ty2 l2 (by decide)
    have k1 : KE S S1 := ⟨fun c hc => a2 c (by omega), fun c _ => a3 c⟩
    have hH1 := hH.of (a3 38)
    have hB1 : BST N (ws.take 6) nW i S1 q t := fun a ha => by
      rw [a2 q ne1, a2 t (fun z => n3 z.symm)]
      exact hV a ha
    obtain ⟨S2, w1, w2, w3, w5⟩ := lword_c (k := k) (K := fun S7 => (g_X3_swap S7).bind fun S8 => g_X3_likeliest_L6 K k fu ((i + 1 : Nat) : Int) S8) hN (hO.e k1) (hT.e k1) hil hH1 hB1 nW 0 FU S1 (Nat.zero_add _) (Nat.lt_of_le_of_lt hN.1.1 (by unfold FU; decide)) (KE.rf S1) rfl (fun _ _ _ => rfl) (fun s hs => ⟨0, a4 s hs, Nat.zero_le _, Or.inl ⟨rfl, fun x hx => by
      obtain ⟨p, v, c, -, -, -, -, -, -, h7⟩ := hx
      rcases h7 with h7 | ⟨-, h7⟩
      · exact absurd h7 (Nat.not_lt_zero v)
      · exact absurd h7 (Nat.not_lt_zero c)⟩⟩)
    obtain ⟨S3, s1, s2, s3, s4⟩ := swap_c (hH1.of w3)
    have k3 := (k1.tr w2).tr s3
    obtain ⟨S4, p, p', o, o', z1, z2, z3, z4⟩ := ih (i + 1) fu S3 q' q t' t (by omega) (by omega) (hO.e k3) (hT.e k3) s2 (fun a ha => by
      obtain ⟨o, o1, o2, o3⟩ := w5 a ha
      rw [s4, s4]
      exact ⟨o, o1, o2, IsB_same o3 (fun x => Zp_e)⟩)
    rw [show ((0 : Nat) : Int) = 0 from rfl] at w1
    rw [g_X3_likeliest_L6.eq_2, size_c hT, if_neg (show ¬ (((ws.take 6).length : Nat) : Int) ≤ (i : Int) by omega), g2, bS, a1, bS, w32_a i (by omega), w1]
    try simp only []
    rw [s1, bS, z1]
    exact ⟨S4, p, p', o, o', rfl, k3.tr z2, z3, z4⟩
/-- all that are right, so many words long -/
def Rt (N : Nat → Nat → Int) (nW n : Nat) (t : List Nat) : Prop := t.length = n ∧ Vp nW (soN N) 3 t
theorem lik_c {N : Nat → Nat → Int} {nW nP k : Nat} {ws : List Nat} {S : Mem} (hN : NR N nW nP) (hO : OC N nW nP S) (hT : TG nW S ws) (hR : RH S) : ∃ (S' : Mem) (O : Nat) (W : Int), IsB (pW N (ws.take 6) 0) (Rt N nW (ws.take 6).length) O W ∧ KE S S' ∧ RH S' ∧ g_X3_likeliest (k : Int) S = if O = 0 then some (-2, S') else if k < (ws.take 6).length then some (o_and (o_shr W ((4 * ((ws.take 6).length - 1 - k) : Nat) : Int)) 15, S') else some (-2, S') := by
  have h6 := len6 ws
  obtain ⟨q, q', t, t', hH⟩ := HS_of hR
  obtain ⟨S1, b1, b2, b3, b4, b5⟩ := begin_c hH
  have hB : BST N (ws.take 6) nW 0 S1 q t := fun a ha => by
    refine ⟨if a = 3 then 1 else 0, b4 a ha, by show _ ≤ 1; split <;> omega, ?_⟩
    by_cases e : a = 3
    · subst e
      refine Or.inr ⟨by decide, [], ⟨rfl, rfl⟩, rfl, by rw [b5]; rfl, fun t' ht' => ?_⟩
      have : t' = [] := List.eq_nil_of_length_eq_zero ht'.1
      rw [this]
      exact ⟨Nat.le_refl _, fun _ => Nat.le_refl _⟩
    · refine Or.inl ⟨if_neg e, fun x hx => ?_⟩
      have : x = [] := List.eq_nil_of_length_eq_zero hx.1
      rw [this] at hx
      exact absurd hx.2.symm e
  obtain ⟨S2, p, p', o, o', z1, z2, z3, z4⟩ := lplace_c (k := (k : Int)) (K := fun S9 => (gR S9 38 2).bind fun q10 => (ldd S9 2 q10 2).bind fun x11 => (gR S9 38 4).bind fun q12 => (ldd S9 1 q12 2).bind fun x13 => (gR S9 38 2).bind fun q14 => (ldd S9 2 q14 1).bind fun x15 => (gR S9 38 4).bind fun q16 => (ldd S9 1 q16 1).bind fun x17 => if (g_X3_isAhead x11 x13 x15 x17) = 0 then g_X3_likeliest_J104 (k : Int) 1 S9 else g_X3_likeliest_J104 (k : Int) 2 S9) hN (ws.take 6).length 0 FU S1 q q' t t' (Nat.zero_add _) (Nat.lt_of_le_of_lt h6 (by unfold FU; decide)) (hO.e b2) (hT.e b2) (hH.of b3) hB
  obtain ⟨ty1, ty2, ty3, ty4, l1, l2, l3, l4, -⟩ := z3.ty
  obtain ⟨⟨g1, g2, g3, g4⟩, -⟩ := id z3
  have ke := b2.tr z2
  have hT2 := hT.e ke
  have rh := RH_of' z3 (by rw [ke.1 33 (by omega)]; exact hR.2.2)
  rw [show ((0 : Nat) : Int) = 0 from rfl] at z1
  unfold g_X3_likeliest
  rw [b1, bS, z1]
  try simp only []
  obtain ⟨o1, x1, x2, x3⟩ := z4 1 (by decide)
  obtain ⟨o2, y1, y2, y3⟩ := z4 2 (by decide)
  have hZ : ∀ x, Rt N nW (ws.take 6).length x ↔ Xs N nW (ws.take 6).length 1 x ∨ Xs N nW (ws.take 6).length 2 x := fun x => by
    constructor
    · rintro ⟨h1, h2⟩
      obtain ⟨b, h3, h4⟩ := (chn_v x 3).mp h2
      rcases h4 with rfl | rfl
      · exact Or.inl ⟨h1, h3⟩
      · exact Or.inr ⟨h1, h3⟩
    · rintro (⟨h1, h2⟩ | ⟨h1, h2⟩)
      · exact ⟨h1, (chn_v x 3).mpr ⟨1, h2, Or.inl rfl⟩⟩
      · exact ⟨h1, (chn_v x 3).mpr ⟨2, h2, Or.inr rfl⟩⟩
  have d1 : ldd S2 2 p 1 = some (gI S2 p 1) := ldd_c (k := 1) ty1 l1 (by decide)
  have d2 : ldd S2 2 p 2 = some (gI S2 p 2) := ldd_c (k := 2) ty1 l1 (by decide)
  have d3 : ldd S2 1 o 1 = some (gI S2 o 1) := ldd_c (k := 1) ty3 l3 (by decide)
  have d4 : ldd S2 1 o 2 = some (gI S2 o 2) := ldd_c (k := 2) ty3 l3 (by decide)
  -- the last step
  have fin : ∀ (s : Nat) (O : Nat), (s = 1 ∨ s = 2) → gI S2 p s = (O : Int) → g_X3_likeliest_J104 (k : Int) (s : Int) S2 = if O = 0 then some (-2, S2) else if k < (ws.take 6).length then some (o_and (o_shr (gI S2 o s) ((4 * ((ws.take 6).length - 1 - k) : Nat) : Int)) 15, S2) else some (-2, S2) := by
    intro s O hs hO'
    unfold g_X3_likeliest_J104
    rw [g1, bS, ldd_c ty1 l1 (show s < 4 by omega), bS, hO', lcm_p, size_c hT2]
    by_cases c : O = 0
    · rw [if_pos c, if_pos c, i00]
    · rw [if_neg c, if_neg c, i10]
      by_cases c2 : k < (ws.take 6).length
      · rw [if_pos (show (k : Int) < (((ws.take 6).length : Nat) : Int) by omega), if_pos c2, g3, bS, ldd_c ty3 l3 (show s < 4 by omega), bS, w_s1 _ (by omega)]
        congr 2
        congr 1
        congr 1
        rw [w32s (i := (((ws.take 6).length : Nat) : Int) - 1 - (k : Int)) (by omega) (by omega), w32s (by omega) (by omega)]
        omega
      · rw [if_neg (show ¬ (k : Int) < (((ws.take 6).length : Nat) : Int) by omega), if_neg c2]
  rw [g1, bS, d2, bS, g3, bS, d4, bS, bS, d1, bS, bS, d3, bS, y1, x1]
  obtain ⟨v1, v2⟩ := isA_v (o := o2) (o' := o1) (W := gI S2 o 2) (W' := gI S2 o 1)
  by_cases cA : aheadP o2 (gI S2 o 2) o1 (gI S2 o 1)
  · rw [v1 cA, i10]
    exact ⟨S2, o2, gI S2 o 2, IsB_new x3 y3 hZ cA, ke, rh, fin 2 o2 (Or.inr rfl) y1⟩
  · rw [v2 cA, i00]
    exact ⟨S2, o1, gI S2 o 1, IsB_old x3 y3 hZ cA, ke, rh, fin 1 o1 (Or.inl rfl) x1⟩
