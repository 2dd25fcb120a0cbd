/-! WORDS AS ONE NUMBER; THE BEST OF SOME TELEGRAMS -/
theorem wds_a : ∀ (t : List Nat) (x w : Nat), wds x (t ++ [w]) = 16 * wds x t + w
  | [], _, _ => rfl
  | v :: t, x, w => wds_a t (16 * x + v) w
theorem wds_x : ∀ (t : List Nat) (x : Nat), wds x t = x * 16 ^ t.length + wds 0 t
  | [], x => by show x = x * 1 + 0; omega
  | v :: t, x => by
    show wds (16 * x + v) t = x * 16 ^ (t.length + 1) + wds (16 * 0 + v) t
    rw [wds_x t (16 * x + v), wds_x t (16 * 0 + v), Nat.pow_succ, Nat.mul_zero, Nat.zero_add, Nat.add_mul, Nat.mul_comm 16 x, Nat.mul_assoc, Nat.mul_comm 16 (16 ^ t.length)]
    omega
theorem wds_lt : ∀ (t : List Nat), (∀ w ∈ t, w < 16) → wds 0 t < 16 ^ t.length
  | [], _ => by show 0 < 1; decide
  | v :: t, h => by
    have ih := wds_lt t (fun w hw => h w (List.mem_cons_of_mem _ hw))
    have hv := h v (List.mem_cons_self ..)
    show wds (16 * 0 + v) t < 16 ^ (t.length + 1)
    rw [wds_x t (16 * 0 + v), Nat.pow_succ, Nat.mul_zero, Nat.zero_add]
    have : v * 16 ^ t.length ≤ 15 * 16 ^ t.length := Nat.mul_le_mul_right _ (by omega)
    omega
theorem wds_pre : ∀ (p s : List Nat) (x : Nat), wds x (p ++ s) = wds (wds x p) s
  | [], _, _ => rfl
  | v :: p, s, x => wds_pre p s (16 * x + v)
/-- the first word that is less decides -/
theorem wds_less {p s s' : List Nat} {w w' : Nat} (hl : s.length = s'.length) (h : w < w') (hs : ∀ w ∈ s, w < 16) : wds 0 (p ++ w :: s) < wds 0 (p ++ w' :: s') := by
  rw [wds_pre, wds_pre]
  show wds (16 * wds 0 p + w) s < wds (16 * wds 0 p + w') s'
  rw [wds_x s, wds_x s', ← hl]
  have h1 := wds_lt s hs
  have h2 : (16 * wds 0 p + w + 1) * 16 ^ s.length ≤ (16 * wds 0 p + w') * 16 ^ s.length := Nat.mul_le_mul_right _ (by omega)
  rw [Nat.add_mul (16 * wds 0 p + w) 1, Nat.one_mul] at h2
  omega
/-- its k-th word -/
theorem wds_dig {t : List Nat} {k : Nat} (hk : k < t.length) (h : ∀ w ∈ t, w < 16) : wds 0 t / 16 ^ (t.length - 1 - k) % 16 = t.getD k 0 := by
  have e : t = t.take k ++ t.getD k 0 :: t.drop (k + 1) := by
    rw [← drop_s hk, List.take_append_drop]
  have hd : ∀ w ∈ t.drop (k + 1), w < 16 := fun w hw => h w (List.mem_of_mem_drop hw)
  have hl : (t.drop (k + 1)).length = t.length - 1 - k := by rw [List.length_drop]; omega
  have hg : t.getD k 0 < 16 := by
    rw [List.getD_eq_getElem?_getD, List.getElem?_eq_getElem hk]
    exact h _ (List.getElem_mem hk)
  have h1 := wds_lt _ hd
  have ew : wds 0 t = (16 * wds 0 (t.take k) + t.getD k 0) * 16 ^ (t.length - 1 - k) + wds 0 (t.drop (k + 1)) := by
    conv => lhs; rw [e]
    rw [wds_pre]
    show wds (16 * wds 0 (t.take k) + t.getD k 0) (t.drop (k + 1)) = _
    rw [wds_x, hl]
  rw [hl] at h1
  rw [ew, Nat.mul_comm, Nat.mul_add_div (Nat.lt_of_le_of_lt (Nat.zero_le _) h1), Nat.div_eq_of_lt h1, Nat.add_zero]
  omega
/-- words from behind one sort to another -/
def chn (nW : Nat) (so : Nat → Nat) : Nat → List Nat → Nat → Prop
  | a, [], b => a = b
  | a, w :: t, b => w < nW ∧ fol a (so w) = true ∧ chn nW so (so w) t b
theorem chn_a {nW : Nat} {so : Nat → Nat} {w b : Nat} : ∀ (t : List Nat) (a : Nat), chn nW so a (t ++ [w]) b ↔ ∃ c, chn nW so a t c ∧ w < nW ∧ fol c (so w) = true ∧ so w = b
  | [], a => ⟨fun h => ⟨a, rfl, h⟩, fun ⟨c, h1, h2⟩ => by have h1 : a = c := h1; subst h1; exact h2⟩
  | v :: t, a => by
    have ih := chn_a (nW := nW) (so := so) (w := w) (b := b) t (so v)
    constructor
    · rintro ⟨h1, h2, h3⟩
      obtain ⟨c, g1, g2⟩ := ih.mp h3
      exact ⟨c, ⟨h1, h2, g1⟩, g2⟩
    · rintro ⟨c, ⟨h1, h2, h3⟩, h4⟩
      exact ⟨h1, h2, ih.mpr ⟨c, h3, h4⟩⟩
theorem chn_v {nW : Nat} {so : Nat → Nat} : ∀ (t : List Nat) (a : Nat), Vp nW so a t ↔ ∃ b, chn nW so a t b ∧ (b = 1 ∨ b = 2)
  | [], a => ⟨fun h => ⟨a, rfl, h⟩, fun ⟨b, h1, h2⟩ => by have h1 : a = b := h1; subst h1; exact h2⟩
  | v :: t, a => by
    have ih := chn_v (nW := nW) (so := so) t (so v)
    constructor
    · rintro ⟨h1, h2, h3⟩
      obtain ⟨b, g1, g2⟩ := ih.mp h3
      exact ⟨b, ⟨h1, h2, g1⟩, g2⟩
    · rintro ⟨b, ⟨h1, h2, h3⟩, h4⟩
      exact ⟨h1, h2, ih.mpr ⟨b, h3, h4⟩⟩
theorem chn_w {nW : Nat} {so : Nat → Nat} : ∀ (t : List Nat) (a b : Nat), chn nW so a t b → ∀ w ∈ t, w < nW
  | [], _, _, _, w, hw => by cases hw
  | v :: t, a, b, ⟨h1, h2, h3⟩, w, hw => by
    rcases List.mem_cons.mp hw with rfl | hw
    · exact h1
    · exact chn_w t _ b h3 w hw
theorem Vp_w {nW : Nat} {so : Nat → Nat} {t : List Nat} {a : Nat} (h : Vp nW so a t) : ∀ w ∈ t, w < nW := by
  obtain ⟨b, h1, -⟩ := (chn_v t a).mp h
  exact chn_w t a b h1
/-- odds and words of the likeliest of some -/
def IsB (pr : List Nat → Nat) (X : List Nat → Prop) (o : Nat) (W : Int) : Prop := (o = 0 ∧ ∀ t, X t → pr t = 0) ∨ (0 < o ∧ ∃ t, X t ∧ pr t = o ∧ W = ((wds 0 t : Nat) : Int) ∧ ∀ t', X t' → pr t' ≤ o ∧ (pr t' = o → wds 0 t ≤ wds 0 t'))
def aheadP (o : Nat) (W : Int) (o' : Nat) (W' : Int) : Prop := o' < o ∨ (o = o' ∧ 0 < o ∧ W < W')
theorem isA_v {o o' : Nat} {W W' : Int} : (aheadP o W o' W' → g_X3_isAhead (o : Int) W (o' : Int) W' = 1) ∧ (¬ aheadP o W o' W' → g_X3_isAhead (o : Int) W (o' : Int) W' = 0) := by
  unfold g_X3_isAhead aheadP
  rw [lcm_n, lcm_p]
  by_cases c1 : o < o'
  · rw [if_pos c1]
    exact ⟨fun h => by rcases h with h | ⟨h, -⟩ <;> omega, fun _ => by rw [if_neg (by decide), if_neg (by decide)]⟩
  · rw [if_neg c1]
    by_cases c2 : o = o'
    · rw [if_pos c2, if_neg (show ¬ (0 : Int) < 0 by decide), i00]
      by_cases c3 : o = 0
      · rw [if_pos c3, if_pos (show (0 : Int) ≤ 0 by decide)]
        exact ⟨fun h => by rcases h with h | ⟨-, h, -⟩ <;> omega, fun _ => rfl⟩
      · rw [if_neg c3, if_neg (show ¬ (1 : Int) ≤ 0 by decide)]
        refine ⟨fun h => ?_, fun h => ?_⟩
        · rw [if_neg]
          rcases h with h | ⟨-, -, h⟩ <;> omega
        · rw [if_pos]
          by_cases c4 : W' ≤ W
          · exact c4
          · exact absurd (Or.inr ⟨c2, by omega, by omega⟩) h
    · rw [if_neg c2, if_pos (show (0 : Int) < 1 by decide)]
      exact ⟨fun _ => rfl, fun h => absurd (Or.inl (by omega)) h⟩
theorem IsB_new {pr : List Nat → Nat} {X Y Z : List Nat → Prop} {o o' : Nat} {W W' : Int} (hX : IsB pr X o W) (hY : IsB pr Y o' W') (hZ : ∀ t, Z t ↔ X t ∨ Y t) (h : aheadP o' W' o W) : IsB pr Z o' W' := by
  have pos : 0 < o' := by rcases h with h | ⟨-, h, -⟩ <;> omega
  rcases hY with ⟨y0, -⟩ | ⟨-, t, y1, y2, y3, y4⟩
  · omega
  · refine Or.inr ⟨pos, t, (hZ t).mpr (Or.inr y1), y2, y3, fun t' ht' => ?_⟩
    rcases (hZ t').mp ht' with q | q
    · rcases hX with ⟨x0, x1⟩ | ⟨x0, s, x1, x2, x3, x4⟩
      · have := x1 t' q
        omega
      · obtain ⟨u1, u2⟩ := x4 t' q
        rcases h with h | ⟨h, -, h2⟩
        · exact ⟨by omega, fun e => by omega⟩
        · refine ⟨by omega, fun e => ?_⟩
          have := u2 (by omega)
          omega
    · exact y4 t' q
theorem IsB_old {pr : List Nat → Nat} {X Y Z : List Nat → Prop} {o o' : Nat} {W W' : Int} (hX : IsB pr X o W) (hY : IsB pr Y o' W') (hZ : ∀ t, Z t ↔ X t ∨ Y t) (h : ¬ aheadP o' W' o W) : IsB pr Z o W := by
  have h1 : o' ≤ o := by
    by_cases c : o < o'
    · exact absurd (Or.inl c) h
    · omega
  rcases hX with ⟨x0, x1⟩ | ⟨x0, s, x1, x2, x3, x4⟩
  · refine Or.inl ⟨x0, fun t ht => ?_⟩
    rcases (hZ t).mp ht with q | q
    · exact x1 t q
    · rcases hY with ⟨y0, y1⟩ | ⟨y0, -⟩
      · exact y1 t q
      · omega
  · refine Or.inr ⟨x0, s, (hZ s).mpr (Or.inl x1), x2, x3, fun t' ht' => ?_⟩
    rcases (hZ t').mp ht' with q | q
    · exact x4 t' q
    · rcases hY with ⟨y0, y1⟩ | ⟨y0, t, y1, y2, y3, y4⟩
      · have := y1 t' q
        omega
      · obtain ⟨u1, u2⟩ := y4 t' q
        refine ⟨by omega, fun e => ?_⟩
        have e2 : pr t' = o' := by omega
        have := u2 e2
        by_cases c : W' < W
        · exact absurd (Or.inr ⟨by omega, y0, c⟩) h
        · omega
theorem IsB_same {pr : List Nat → Nat} {X Z : List Nat → Prop} {o : Nat} {W : Int} (hX : IsB pr X o W) (hZ : ∀ t, Z t ↔ X t) : IsB pr Z o W := by
  rcases hX with ⟨x0, x1⟩ | ⟨x0, s, x1, x2, x3, x4⟩
  · exact Or.inl ⟨x0, fun t ht => x1 t ((hZ t).mp ht)⟩
  · exact Or.inr ⟨x0, s, (hZ s).mpr x1, x2, x3, fun t ht => x4 t ((hZ t).mp ht)⟩
/-- one word more, alike for all -/
theorem IsB_ext {pr pr' : List Nat → Nat} {X Y : List Nat → Prop} {o u w : Nat} {W : Int} (hX : IsB pr X o W) (hY : ∀ t, Y t ↔ ∃ s, X s ∧ t = s ++ [w]) (hp : ∀ s, X s → pr' (s ++ [w]) = pr s * u) : IsB pr' Y (o * u) (16 * W + w) := by
  by_cases c : u = 0
  · refine Or.inl ⟨by rw [c, Nat.mul_zero], fun t ht => ?_⟩
    obtain ⟨s, h1, rfl⟩ := (hY t).mp ht
    rw [hp s h1, c, Nat.mul_zero]
  · rcases hX with ⟨x0, x1⟩ | ⟨x0, s, x1, x2, x3, x4⟩
    · refine Or.inl ⟨by rw [x0, Nat.zero_mul], fun t ht => ?_⟩
      obtain ⟨s, h1, rfl⟩ := (hY t).mp ht
      rw [hp s h1, x1 s h1, Nat.zero_mul]
    · refine Or.inr ⟨Nat.mul_pos x0 (Nat.pos_of_ne_zero c), s ++ [w], (hY _).mpr ⟨s, x1, rfl⟩, by rw [hp s x1, x2], by rw [wds_a, x3]; omega, fun t ht => ?_⟩
      obtain ⟨s', h1, rfl⟩ := (hY t).mp ht
      obtain ⟨u1, u2⟩ := x4 s' h1
      rw [hp s' h1]
      refine ⟨Nat.mul_le_mul_right _ u1, fun e => ?_⟩
      have := u2 (Nat.eq_of_mul_eq_mul_right (Nat.pos_of_ne_zero c) e)
      rw [wds_a, wds_a]
      omega
theorem or16 {x w : Nat} (hw : w < 16) : x * 2 ^ 4 ||| w = 16 * x + w := by
  rw [Nat.mul_comm x, ← Nat.two_pow_add_eq_or_of_lt (i := 4) hw]
/-- the odds of words from a place on -/
def pW (N : Nat → Nat → Int) (V : List Nat) : Nat → List Nat → Nat
  | _, [] => 1
  | i, w :: t => wtN N V i w * pW N V (i + 1) t
theorem pW_a {N : Nat → Nat → Int} {V : List Nat} {w : Nat} : ∀ (t : List Nat) (i : Nat), pW N V i (t ++ [w]) = pW N V i t * wtN N V (i + t.length) w
  | [], i => by show wtN N V i w * 1 = 1 * wtN N V i w; rw [Nat.mul_one, Nat.one_mul]
  | v :: t, i => by
    show wtN N V i v * pW N V (i + 1) (t ++ [w]) = wtN N V i v * pW N V (i + 1) t * wtN N V (i + (t.length + 1)) w
    rw [pW_a t (i + 1), Nat.mul_assoc, show i + 1 + t.length = i + (t.length + 1) by omega]
