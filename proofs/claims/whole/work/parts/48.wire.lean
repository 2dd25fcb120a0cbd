/-! OF A TELEGRAM: ITS PRICE, SENSE, WHETHER IT IS RIGHT -/
def ah (N : Nat → Nat → Int) (ws : List Nat) (k : Nat) : Nat := if k = 0 then 3 else soN N (ws.getD (k - 1) 0)
def pw (law : Option (List Lin)) (N : Nat → Nat → Int) (ws : List Nat) (k : Nat) : Nat := prN law N (ws.getD k 0) (ah N ws k) k
def sumT (f : Nat → Nat) : Nat → Nat
  | 0 => 0
  | n + 1 => sumT f n + f n
def orT (f : Nat → Nat) : Nat → Nat
  | 0 => 0
  | n + 1 => orT f n ||| f n
theorem sumT_le {f : Nat → Nat} {c : Nat} : ∀ n, (∀ k, k < n → f k ≤ c) → sumT f n ≤ c * n
  | 0, _ => Nat.le_refl _
  | n + 1, h => by
    have ih := sumT_le n (fun k hk => h k (by omega))
    have := h n (Nat.lt_succ_self n)
    show sumT f n + f n ≤ c * (n + 1)
    rw [Nat.mul_succ]
    omega
theorem orT_lt {f : Nat → Nat} : ∀ n, (∀ k, k < n → f k < 64) → orT f n < 64
  | 0, _ => by show 0 < 64; decide
  | n + 1, h => or_lt 6 (orT_lt n (fun k hk => h k (by omega))) (h n (Nat.lt_succ_self n))
/-- what reading a telegram's price and the like may change -/
def KU (S S' : Mem) : Prop := (∀ c, c ≠ 13 → c ≠ 17 → c ≠ 18 → c ≠ 32 → c ≠ 33 → gI S' c = gI S c) ∧ (∀ k, k ≠ 10 → gI S' 13 k = gI S 13 k) ∧ (∀ c, gR S' c = gR S c) ∧ gI S' 33 0 = gI S 33 0
theorem KU.rf (S : Mem) : KU S S := ⟨fun _ _ _ _ _ _ => rfl, fun _ _ => rfl, fun _ => rfl, rfl⟩
theorem KU.tr {S S' S'' : Mem} (h : KU S S') (g : KU S' S'') : KU S S'' := ⟨fun c h1 h2 h3 h4 h5 => (g.1 c h1 h2 h3 h4 h5).trans (h.1 c h1 h2 h3 h4 h5), fun k hk => (g.2.1 k hk).trans (h.2.1 k hk), fun c => (g.2.2.1 c).trans (h.2.2.1 c), g.2.2.2.trans h.2.2.2⟩
theorem KP.u {S S' : Mem} (h : KP S S') : KU S S' := ⟨fun c h1 h2 h3 _ _ => h.1 c h1 h2 h3, h.2.1, h.2.2, by rw [h.1 33 (by decide) (by decide) (by decide)]⟩
theorem OC.u {N : Nat → Nat → Int} {nW nP : Nat} {S S' : Mem} (h : OC N nW nP S) (k : KU S S') : OC N nW nP S' := OC_of h (fun c hc => k.1 c (by omega) (by omega) (by omega) (by omega) (by omega)) (k.2.2.1 2) (k.2.2.1 23)
theorem LC.u {law : Option (List Lin)} {S S' : Mem} (h : LC law S) (k : KU S S') : LC law S' := LC_of h (k.2.1 4 (by decide)) (k.1 15 (by decide) (by decide) (by decide) (by decide) (by decide)) (k.1 16 (by decide) (by decide) (by decide) (by decide) (by decide)) (k.2.2.1 13)
theorem TG.u {nW : Nat} {S S' : Mem} {ws : List Nat} (h : TG nW S ws) (k : KU S S') : TG nW S' ws := by
  unfold TG
  rw [k.1 30 (by decide) (by decide) (by decide) (by decide) (by decide), k.1 31 (by decide) (by decide) (by decide) (by decide) (by decide)]
  exact h
/-- the reference's: what a price, a telegram laid and run together may change -/
def KV (S S' : Mem) : Prop := ∀ c, c ≠ 75 → c ≠ 76 → c ≠ 78 → c ≠ 79 → gI S' c = gI S c
theorem KV.rf (S : Mem) : KV S S := fun _ _ _ _ _ => rfl
theorem KV.tr {S S' S'' : Mem} (h : KV S S') (g : KV S' S'') : KV S S'' := fun c h1 h2 h3 h4 => (g c h1 h2 h3 h4).trans (h c h1 h2 h3 h4)
theorem KQ.v {S S' : Mem} (h : KQ S S') : KV S S' := fun c h1 h2 _ _ => h c h1 h2
theorem OM.v {N : Nat → Nat → Int} {nW nP : Nat} {S S' : Mem} (h : OM N nW nP S) (k : KV S S') : OM N nW nP S' := OM_of h (fun c hc => k c (by omega) (by omega) (by omega) (by omega)) (by rw [k 56 (by decide) (by decide) (by decide) (by decide)]) (by rw [k 56 (by decide) (by decide) (by decide) (by decide)])
theorem LM.v {law : Option (List Lin)} {S S' : Mem} (h : LM law S) (k : KV S S') : LM law S' := LM_of h (fun c hc => k c (by omega) (by omega) (by omega) (by omega)) (by rw [k 56 (by decide) (by decide) (by decide) (by decide)])
theorem TW.v {nW : Nat} {S S' : Mem} {ws : List Nat} (h : TW nW S ws) (k : KV S S') : TW nW S' ws := by
  unfold TW
  rw [k 56 (by decide) (by decide) (by decide) (by decide), k 77 (by decide) (by decide) (by decide) (by decide)]
  exact h
theorem ah_s (N : Nat → Nat → Int) (ws : List Nat) (i : Nat) : ah N ws (i + 1) = soN N (ws.getD i 0) := by
  unfold ah
  rw [if_neg (by omega), Nat.add_sub_cancel]
theorem costs_l {N : Nat → Nat → Int} {nW nP : Nat} {law : Option (List Lin)} {ws : List Nat} (hN : NR N nW nP) : ∀ (m i fu : Nat) (S : Mem), OC N nW nP S → LC law S → TG nW S ws → i + m = ws.length → m < fu → (∀ k, k < i → gI S 32 k = ((pw law N ws k : Nat) : Int)) → ∃ S', g_X8_costs_L6 fu ((sumT (pw law N ws) i : Nat) : Int) ((ah N ws i : Nat) : Int) (i : Int) S = some (((sumT (pw law N ws) ws.length : Nat) : Int), S') ∧ KU S S' ∧ ∀ k, k < ws.length → gI S' 32 k = ((pw law N ws k : Nat) : Int) := by
  intro m
  induction m with
  | zero =>
    intro i fu S hO hL hT hi hf hp
    obtain ⟨fu, rfl⟩ : ∃ k, fu = k + 1 := ⟨fu - 1, by omega⟩
    have hi : i = ws.length := hi
    rw [g_X8_costs_L6.eq_2, hT.2.1, if_pos (by omega), hi]
    exact ⟨S, rfl, KU.rf S, fun k hk => hp k (by omega)⟩
  | succ m ih =>
    intro i fu S hO hL hT hi hf hp
    obtain ⟨fu, rfl⟩ : ∃ k, fu = k + 1 := ⟨fu - 1, by omega⟩
    have h12 := hT.1.1
    have hil : i < ws.length := by omega
    have hw := hT.1.2 i hil
    obtain ⟨S1, p1, p2⟩ := price_c (law := law) hN hO hL (ah N ws i) i hw
    have hO1 := hO.u p2.u
    have k31 : gI S1 31 = gI S 31 := p2.1 31 (by decide) (by decide) (by decide)
    have pr := (prN_i (law := law) (a := ah N ws i) (p := i) hN hw).2
    have e31 : gI S 31 i = ((ws.getD i 0 : Nat) : Int) := hT.2.2 i hil
    have v2 := val_o (S := sI S1 32 i ((pw law N ws i : Nat) : Int)) hN (OC_of hO1 (fun c hc => gI_ne (by omega)) rfl rfl) (w := 2) (n := ws.getD i 0) (by decide) hw
    rw [show ((2 : Nat) : Int) = 2 from rfl, (soN_i hN hw).1, ← ah_s] at v2
    have sl := sumT_le (f := pw law N ws) (c := 99) i (fun k hk => (prN_i hN (hT.1.2 k (by omega))).2)
    have eS : w32 (((sumT (pw law N ws) i : Nat) : Int) + ((pw law N ws i : Nat) : Int)) = ((sumT (pw law N ws) (i + 1) : Nat) : Int) := by
      have : pw law N ws i ≤ 99 := pr
      rw [w32s (by omega) (by omega)]
      show _ = ((sumT (pw law N ws) i + pw law N ws i : Nat) : Int)
      omega
    have n1 : ¬ (ws.length : Int) ≤ (i : Int) := by clear eS; omega
    have n2 : ¬ (12 : Int) ≤ (i : Int) := by clear eS; omega
    have n3 : i < 12 := by clear eS; omega
    rw [g_X8_costs_L6.eq_2, hT.2.1, if_neg n1, if_neg n2, ldk_c n3, bS, e31, p1, bd2S, stk_c n3, bS, ldk_c n3, bS, ldk_c n3, bS, gI_ne (c := 32) (c' := 31) (by decide), k31, e31]
    rw [show prN law N (ws.getD i 0) (ah N ws i) i = pw law N ws i from rfl, v2, bS, gI_eq, eS, w32_a i (by clear eS; omega)]
    clear eS
    have ku : KU S1 (sI S1 32 i ((pw law N ws i : Nat) : Int)) := ⟨fun c _ _ _ h4 _ => gI_ne h4, fun k _ => by rw [gI_ne (by decide)], fun c => rfl, by rw [gI_ne (by decide)]⟩
    have ku2 := p2.u.tr ku
    obtain ⟨S', a1, a2, a3⟩ := ih (i + 1) fu _ (hO.u ku2) (hL.u ku2) (hT.u ku2) (by omega) (by omega) (fun k hk => by
      rw [gI_sI]
      by_cases e : k = i
      · rw [if_pos ⟨rfl, e⟩, e]
      · rw [if_neg (fun z => e z.2), p2.1 32 (by decide) (by decide) (by decide)]
        exact hp k (by omega))
    exact ⟨S', a1, ku2.tr a2, a3⟩
theorem costs_c {N : Nat → Nat → Int} {nW nP : Nat} {law : Option (List Lin)} {ws : List Nat} {S : Mem} (hN : NR N nW nP) (hO : OC N nW nP S) (hL : LC law S) (hT : TG nW S ws) : ∃ S', g_X8_costs S = some (((sumT (pw law N ws) ws.length : Nat) : Int), S') ∧ KU S S' ∧ ∀ k, k < ws.length → gI S' 32 k = ((pw law N ws k : Nat) : Int) := costs_l hN ws.length 0 FU S hO hL hT (Nat.zero_add _) (by have := hT.1.1; unfold FU; omega) (fun k hk => absurd hk (Nat.not_lt_zero k))
theorem ahead_m {N : Nat → Nat → Int} {nW nP : Nat} {ws : List Nat} {S : Mem} (hN : NR N nW nP) (hO : OM N nW nP S) (hT : TW nW S ws) {k : Nat} (hk : k ≤ ws.length) : g_X10_aheadOf (k : Int) S = some ((ah N ws k : Nat) : Int) := by
  unfold g_X10_aheadOf
  cases k with
  | zero => rfl
  | succ k =>
    have h12 := hT.1.1
    have hw := hT.1.2 k hk
    have hw12 : ws.getD k 0 < 12 := by have := hN.1; omega
    rw [if_neg (by omega), w32_m k (by omega), ldk_c (show k < 12 by omega), bS, hT.2.2 k hk, ldk_c hw12, bS, ah_s, ← (soN_i hN hw).1, ← hO.2 2 (ws.getD k 0) (by decide) hw]
    rfl
theorem priceAt_m {N : Nat → Nat → Int} {nW nP : Nat} {law : Option (List Lin)} {ws : List Nat} {S : Mem} (hN : NR N nW nP) (hO : OM N nW nP S) (hL : LM law S) (hT : TW nW S ws) {k : Nat} (hk : k < ws.length) : ∃ S', g_X10_priceAt (k : Int) S = some (((pw law N ws k : Nat) : Int), S') ∧ KQ S S' := by
  have h12 := hT.1.1
  obtain ⟨S', a1, a2⟩ := price_m (law := law) hN hO hL (ah N ws k) k (hT.1.2 k hk)
  unfold g_X10_priceAt
  rw [ldk_c (show k < 12 by omega), bS, hT.2.2 k hk, ahead_m hN hO hT (by omega), bS, a1, bd2S]
  exact ⟨S', rfl, a2⟩
theorem priceAll_l {N : Nat → Nat → Int} {nW nP : Nat} {law : Option (List Lin)} {ws : List Nat} (hN : NR N nW nP) : ∀ (m i fu : Nat) (S : Mem), OM N nW nP S → LM law S → TW nW S ws → i + m = ws.length → m < fu → ∃ S', g_X10_priceAll_L4 fu ((sumT (pw law N ws) i : Nat) : Int) (i : Int) S = some (((sumT (pw law N ws) ws.length : Nat) : Int), S') ∧ KQ S S' := by
  intro m
  induction m with
  | zero =>
    intro i fu S hO hL hT hi hf
    obtain ⟨fu, rfl⟩ : ∃ k, fu = k + 1 := ⟨fu - 1, by omega⟩
    have hi : i = ws.length := hi
    rw [g_X10_priceAll_L4.eq_2, hT.2.1, if_pos (by omega), hi]
    exact ⟨S, rfl, KQ.rf S⟩
  | succ m ih =>
    intro i fu S hO hL hT hi hf
    obtain ⟨fu, rfl⟩ : ∃ k, fu = k + 1 := ⟨fu - 1, by omega⟩
    have h12 := hT.1.1
    obtain ⟨S1, p1, p2⟩ := priceAt_m (law := law) hN hO hL hT (k := i) (by omega)
    have sl := sumT_le (f := pw law N ws) (c := 99) i (fun k hk => (prN_i hN (hT.1.2 k (by omega))).2)
    have pr : pw law N ws i ≤ 99 := (prN_i (law := law) (a := ah N ws i) (p := i) hN (hT.1.2 i (by omega))).2
    have eS : w32 (((sumT (pw law N ws) i : Nat) : Int) + ((pw law N ws i : Nat) : Int)) = ((sumT (pw law N ws) (i + 1) : Nat) : Int) := by
      rw [w32s (by omega) (by omega)]
      show _ = ((sumT (pw law N ws) i + pw law N ws i : Nat) : Int)
      omega
    have n1 : ¬ (ws.length : Int) ≤ (i : Int) := by clear eS; omega
    rw [g_X10_priceAll_L4.eq_2, hT.2.1, if_neg n1, p1, bd2S, eS, w32_a i (by clear eS; omega)]
    clear eS
    obtain ⟨S', a1, a2⟩ := ih (i + 1) fu S1 (hO.v p2.v) (hL.v p2.v) (hT.v p2.v) (by omega) (by omega)
    exact ⟨S', a1, p2.tr a2⟩
theorem priceAll_m {N : Nat → Nat → Int} {nW nP : Nat} {law : Option (List Lin)} {ws : List Nat} {S : Mem} (hN : NR N nW nP) (hO : OM N nW nP S) (hL : LM law S) (hT : TW nW S ws) : ∃ S', g_X10_priceAll S = some (((sumT (pw law N ws) ws.length : Nat) : Int), S') ∧ KQ S S' := priceAll_l hN ws.length 0 FU S hO hL hT (Nat.zero_add _) (by have := hT.1.1; unfold FU; omega)
def sw (N : Nat → Nat → Int) (ws : List Nat) (k : Nat) : Nat := seN N (ws.getD k 0)
theorem sense_c {N : Nat → Nat → Int} {nW nP : Nat} {ws : List Nat} {S : Mem} (hN : NR N nW nP) (hO : OC N nW nP S) (hT : TG nW S ws) {n : Nat} (hn : n ≤ ws.length) : g_X8_senseOfFirst (n : Int) S = some ((orT (sw N ws) n : Nat) : Int) := by
  have h12 := hT.1.1
  have key : ∀ (m i fu : Nat), i + m = n → m < fu → g_X8_senseOfFirst_L4 (n : Int) S fu ((orT (sw N ws) i : Nat) : Int) (i : Int) = some ((orT (sw N ws) n : Nat) : Int) := by
    intro m
    induction m with
    | zero =>
      intro i fu hi hf
      obtain ⟨fu, rfl⟩ : ∃ k, fu = k + 1 := ⟨fu - 1, by omega⟩
      have hi : i = n := hi
      rw [g_X8_senseOfFirst_L4.eq_2, if_pos (by omega), hi]
    | succ m ih =>
      intro i fu hi hf
      obtain ⟨fu, rfl⟩ : ∃ k, fu = k + 1 := ⟨fu - 1, by omega⟩
      have hw := hT.1.2 i (by omega)
      have v1 := val_o hN hO (w := 1) (n := ws.getD i 0) (by decide) hw
      rw [show ((1 : Nat) : Int) = 1 from rfl, (seN_i hN hw).1] at v1
      have o1 := orT_lt (f := sw N ws) i (fun k hk => (seN_i hN (hT.1.2 k (by omega))).2)
      have o2 := (seN_i hN hw).2
      rw [g_X8_senseOfFirst_L4.eq_2, if_neg (by omega), if_neg (by omega), ldk_c (show i < 12 by omega), bS, hT.2.2 i (by omega), v1, bS, oor (by omega) (by omega), w32_a i (by omega)]
      exact ih (i + 1) fu (by omega) (by omega)
  exact key n 0 FU (Nat.zero_add _) (by unfold FU; omega)
theorem sense_m {N : Nat → Nat → Int} {nW nP : Nat} {ws : List Nat} {S : Mem} (hN : NR N nW nP) (hO : OM N nW nP S) (hT : TW nW S ws) : g_X10_senseAll S = some ((orT (sw N ws) ws.length : Nat) : Int) := by
  have h12 := hT.1.1
  have key : ∀ (m i fu : Nat), i + m = ws.length → m < fu → g_X10_senseAll_L4 S fu ((orT (sw N ws) i : Nat) : Int) (i : Int) = some ((orT (sw N ws) ws.length : Nat) : Int) := by
    intro m
    induction m with
    | zero =>
      intro i fu hi hf
      obtain ⟨fu, rfl⟩ : ∃ k, fu = k + 1 := ⟨fu - 1, by omega⟩
      have hi : i = ws.length := hi
      rw [g_X10_senseAll_L4.eq_2, hT.2.1, if_pos (by omega), hi]
    | succ m ih =>
      intro i fu hi hf
      obtain ⟨fu, rfl⟩ : ∃ k, fu = k + 1 := ⟨fu - 1, by omega⟩
      have hw := hT.1.2 i (by omega)
      have v1 : gI S 58 (ws.getD i 0) = ((seN N (ws.getD i 0) : Nat) : Int) := by rw [← (seN_i hN hw).1]; exact hO.2 1 (ws.getD i 0) (by decide) hw
      have o1 := orT_lt (f := sw N ws) i (fun k hk => (seN_i hN (hT.1.2 k (by omega))).2)
      have o2 := (seN_i hN hw).2
      have hw12 : ws.getD i 0 < 12 := by have := hN.1; omega
      rw [g_X10_senseAll_L4.eq_2, hT.2.1, if_neg (by omega), ldk_c (show i < 12 by omega), bS, hT.2.2 i (by omega), ldk_c hw12, bS, v1, oor (by omega) (by omega), w32_a i (by omega)]
      exact ih (i + 1) fu (by omega) (by omega)
  exact key ws.length 0 FU (Nat.zero_add _) (by unfold FU; omega)
theorem fol_c : ∀ a, a < 4 → ∀ s, s < 3 → g_X8_follows (a : Nat) (s : Nat) = if fol a s then 1 else 0 := by decide
theorem fol_m : ∀ a, a < 4 → ∀ s, s < 3 → g_X10_mayStand (s : Nat) (a : Nat) = if fol a s then 1 else 0 := by decide
theorem end_c : ∀ a, a < 4 → g_X8_mayEnd (a : Nat) = if a = 1 ∨ a = 2 then 1 else 0 := by decide
def wh (a : Nat) : Nat := if a = 1 ∨ a = 2 then 1 else 0
theorem wh_s : ∀ a, a < 4 → ∀ s, s < 3 → fol a s = true → wh s = if s = 1 then 1 else wh a := by decide
def rgt (so : Nat → Nat) : Nat → List Nat → Bool
  | a, [] => a == 1 || a == 2
  | a, w :: t => fol a (so w) && rgt so (so w) t
theorem drop_s {ws : List Nat} {i : Nat} (h : i < ws.length) : ws.drop i = ws.getD i 0 :: ws.drop (i + 1) := by
  rw [List.drop_eq_getElem_cons h, List.getD_eq_getElem?_getD, List.getElem?_eq_getElem h]
  rfl
theorem ah_lt {N : Nat → Nat → Int} {nW nP : Nat} {ws : List Nat} (hN : NR N nW nP) (h : ∀ k, k < ws.length → ws.getD k 0 < nW) {i : Nat} (hi : i ≤ ws.length) : ah N ws i < 4 := by
  cases i with
  | zero => show 3 < 4; decide
  | succ i => rw [ah_s]; have := (soN_i hN (h i hi)).2; omega
theorem right_c {N : Nat → Nat → Int} {nW nP : Nat} {ws : List Nat} {S : Mem} (hN : NR N nW nP) (hO : OC N nW nP S) (hT : TG nW S ws) : g_X8_isRight S = some (if rgt (soN N) 3 ws then 1 else 0) := by
  have h12 := hT.1.1
  have key : ∀ (m i fu : Nat), i + m = ws.length → m < fu → g_X8_isRight_L4 (fun y3 => chk ((g_X8_mayEnd y3) = 0 ∨ (g_X8_mayEnd y3) = 1) (some (g_X8_mayEnd y3))) S fu ((ah N ws i : Nat) : Int) (i : Int) = some (if rgt (soN N) (ah N ws i) (ws.drop i) then 1 else 0) := by
    intro m
    induction m with
    | zero =>
      intro i fu hi hf
      obtain ⟨fu, rfl⟩ : ∃ k, fu = k + 1 := ⟨fu - 1, by omega⟩
      have hi : i = ws.length := hi
      rw [g_X8_isRight_L4.eq_2, hT.2.1, if_pos (by omega), hi, List.drop_length, end_c _ (ah_lt hN hT.1.2 (Nat.le_refl _)), chk_b]
      unfold rgt
      by_cases c : ah N ws ws.length = 1 ∨ ah N ws ws.length = 2
      · rw [if_pos c]; rcases c with c | c <;> rw [c] <;> rfl
      · rw [if_neg c]
        simp only [not_or] at c
        simp [c]
    | succ m ih =>
      intro i fu hi hf
      obtain ⟨fu, rfl⟩ : ∃ k, fu = k + 1 := ⟨fu - 1, by omega⟩
      have hil : i < ws.length := by omega
      have hw := hT.1.2 i hil
      have v2 := val_o hN hO (w := 2) (n := ws.getD i 0) (by decide) hw
      rw [show ((2 : Nat) : Int) = 2 from rfl, (soN_i hN hw).1] at v2
      rw [g_X8_isRight_L4.eq_2, hT.2.1, if_neg (by omega), if_neg (by omega), ldk_c (show i < 12 by omega), bS, hT.2.2 i hil, v2, bS, fol_c _ (ah_lt hN hT.1.2 (by omega)) _ (soN_i hN hw).2, drop_s hil]
      unfold rgt
      cases hf' : fol (ah N ws i) (soN N (ws.getD i 0)) with
      | false => rfl
      | true =>
        rw [if_pos rfl, i10, w32_a i (by omega), ← ah_s, Bool.true_and]
        exact ih (i + 1) fu (by omega) (by omega)
  exact key ws.length 0 FU (Nat.zero_add _) (by unfold FU; omega)
theorem right_m {N : Nat → Nat → Int} {nW nP : Nat} {ws : List Nat} {S : Mem} (hN : NR N nW nP) (hO : OM N nW nP S) (hT : TW nW S ws) : g_X10_isRight S = some (if rgt (soN N) 3 ws then 1 else 0) := by
  have h12 := hT.1.1
  have key : ∀ (m i fu : Nat), i + m = ws.length → m < fu → g_X10_isRight_L4 S fu ((wh (ah N ws i) : Nat) : Int) (i : Int) = some (if rgt (soN N) (ah N ws i) (ws.drop i) then 1 else 0) := by
    intro m
    induction m with
    | zero =>
      intro i fu hi hf
      obtain ⟨fu, rfl⟩ : ∃ k, fu = k + 1 := ⟨fu - 1, by omega⟩
      have hi : i = ws.length := hi
      rw [g_X10_isRight_L4.eq_2, hT.2.1, if_pos (by omega), hi, List.drop_length]
      unfold rgt wh
      by_cases c : ah N ws ws.length = 1 ∨ ah N ws ws.length = 2
      · rw [if_pos c]; rcases c with c | c <;> rw [c] <;> rfl
      · rw [if_neg c]
        simp only [not_or] at c
        simp [c, chk]
    | succ m ih =>
      intro i fu hi hf
      obtain ⟨fu, rfl⟩ : ∃ k, fu = k + 1 := ⟨fu - 1, by omega⟩
      have hil : i < ws.length := by omega
      have hw := hT.1.2 i hil
      have hw12 : ws.getD i 0 < 12 := by have := hN.1; omega
      have v2 : gI S 59 (ws.getD i 0) = ((soN N (ws.getD i 0) : Nat) : Int) := by rw [← (soN_i hN hw).1]; exact hO.2 2 (ws.getD i 0) (by decide) hw
      have ha := ah_lt hN hT.1.2 (show i ≤ ws.length by omega)
      have hs := (soN_i hN hw).2
      rw [g_X10_isRight_L4.eq_2, hT.2.1, if_neg (by omega), ldk_c (show i < 12 by omega), bS, hT.2.2 i hil, ldk_c hw12, bS, v2, ahead_m hN hO hT (by omega), bS, fol_m _ ha _ hs, bS, ldk_c hw12, bS, v2, drop_s hil]
      unfold rgt
      cases hf' : fol (ah N ws i) (soN N (ws.getD i 0)) with
      | false => rfl
      | true =>
        have hh := wh_s _ ha _ hs hf'
        rw [← ah_s] at hh hs ⊢
        rw [if_pos rfl, i10, w32_a i (by omega), Bool.true_and]
        by_cases c : ah N ws (i + 1) = 1
        · rw [if_pos (by omega)]
          rw [if_pos c] at hh
          have := ih (i + 1) fu (by omega) (by omega)
          rw [hh] at this
          exact this
        · rw [if_neg (by omega)]
          rw [if_neg c] at hh
          rw [← hh]
          exact ih (i + 1) fu (by omega) (by omega)
  exact key ws.length 0 FU (Nat.zero_add _) (by unfold FU; omega)
