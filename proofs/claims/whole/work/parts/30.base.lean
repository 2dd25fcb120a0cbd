/-! THE PURE PART: what both sides hold, and the office -/
theorem bS {α β : Type} (a : α) (f : α → Option β) : (some a).bind f = f a := rfl
theorem w32s {i : Int} (h1 : -2147483648 ≤ i) (h2 : i ≤ 2147483647) : w32 i = i := w32_id ⟨h1, h2⟩
theorem w64s {i : Int} (h1 : -9223372036854775808 ≤ i) (h2 : i ≤ 9223372036854775807) : w64 i = i := w64_id ⟨h1, h2⟩
theorem gI_ne {S : Mem} {c k : Nat} {v : Int} {c' : Nat} (h : c' ≠ c) : gI (sI S c k v) c' = gI S c' := by
  funext k'
  rw [gI_sI, if_neg (fun q => h q.1)]
theorem gI_eq {S : Mem} {c k : Nat} {v : Int} : gI (sI S c k v) c k = v := by rw [gI_sI, if_pos ⟨rfl, rfl⟩]
theorem gI_ek {S : Mem} {c k k' : Nat} {v : Int} (h : k' ≠ k) : gI (sI S c k v) c k' = gI S c k' := by rw [gI_sI, if_neg (fun q => h q.2)]
theorem ldd_c {S : Mem} {t a N k : Nat} (ht : tyc a = (t, N)) (ha : a < 56) (h : k < N) : ldd S t a (k : Int) = some (gI S a k) := by
  unfold ldd
  rw [ht, if_pos ⟨rfl, ha, by omega, by show (k : Int) < (N : Int); omega⟩]
  rfl
theorem std_c {S : Mem} {t a N k : Nat} {v : Int} (ht : tyc a = (t, N)) (ha : a < 56) (h : k < N) : std S t a (k : Int) v = some (sI S a k v) := by
  unfold std
  rw [ht, if_pos ⟨rfl, ha, by omega, by show (k : Int) < (N : Int); omega⟩]
  rfl
theorem ldr_n {S : Mem} {a N k v : Nat} (h : k < N) (hg : gR S a k = some v) : ldr S a N (k : Int) = some v := by
  unfold ldr
  rw [if_pos ⟨by omega, by omega⟩]
  exact hg
theorem chk_t {α : Type} {c : Prop} [Decidable c] {x : Option α} (h : c) : chk c x = x := by unfold chk; rw [if_pos h]
/-- the class's tables of rows -/
def Shp (S : Mem) : Prop := (∀ w, w < 10 → gR S 2 w = some (3 + w)) ∧ ∀ q, q < 6 → gR S 23 q = some (24 + q)
theorem Shp_of {S S' : Mem} (h : Shp S) (e : gR S' 2 = gR S 2) (e' : gR S' 23 = gR S 23) : Shp S' := ⟨fun w hw => by rw [e]; exact h.1 w hw, fun q hq => by rw [e']; exact h.2 q hq⟩
def nu (S : Mem) (w i : Nat) : Int := gI S (3 + w) i
def mu (S : Mem) (w i : Nat) : Int := if w < 7 then gI S (57 + w) i else gI S 64 (w - 7)
def lim (nW nP w : Nat) : Nat := if w ≤ 4 then nW else if w ≤ 6 then nP else 1
def lo (w : Nat) : Int := ([1, 0, 0, 1, 0, 0, 0, 0, 0, 1] : List Int).getD w 0
def hi (nW : Nat) (w : Nat) : Int := if w = 4 then (nW : Int) - 1 else ([9, 63, 2, 9, 11, 999, 63, 1, 12, 20] : List Int).getD w 0
/-- words, people, the office's own numbers are alike -/
def RO (nW nP : Nat) (Sc Sm : Mem) : Prop := (nW ≤ 12 ∧ nP ≤ 6) ∧ (gI Sc 1 1 = nW ∧ gI Sc 1 2 = nP) ∧ (gI Sm 56 1 = nW ∧ gI Sm 56 7 = nP) ∧ (∀ w i, w < 10 → i < lim nW nP w → mu Sm w i = nu Sc w i ∧ lo w ≤ nu Sc w i ∧ nu Sc w i ≤ hi nW w) ∧ ∀ i, nP ≤ i → nu Sc 6 i = 0
theorem has_v {S : Mem} {nW nP : Nat} (hb : nW ≤ 12 ∧ nP ≤ 6) (hW : gI S 1 1 = nW) (hP : gI S 1 2 = nP) (n w : Int) : g_X5_has n w S = if 0 ≤ n ∧ 0 ≤ w ∧ w < 10 ∧ n < lim nW nP w.toNat then 1 else 0 := by
  unfold g_X5_has
  rw [hW, hP]
  obtain ⟨hb1, hb2⟩ := hb
  by_cases h : 0 ≤ n ∧ 0 ≤ w ∧ w < 10 ∧ n < lim nW nP w.toNat
  · rw [if_pos h]
    obtain ⟨h1, h2, h3, h4⟩ := h
    unfold lim at h4
    split at h4
    · (repeat' split) <;> first | rfl | omega
    · split at h4
      · (repeat' split) <;> first | rfl | omega
      · (repeat' split) <;> first | rfl | omega
  · rw [if_neg h]
    by_cases g : 0 ≤ n ∧ 0 ≤ w ∧ w < 10
    · have h4 : ¬ n < lim nW nP w.toNat := fun q => h ⟨g.1, g.2.1, g.2.2, q⟩
      obtain ⟨h1, h2, h3⟩ := g
      unfold lim at h4
      split at h4
      · (repeat' split) <;> first | rfl | omega
      · split at h4
        · (repeat' split) <;> first | rfl | omega
        · (repeat' split) <;> first | rfl | omega
    · (repeat' split) <;> first | rfl | omega
theorem has_n {S : Mem} {nW nP : Nat} (hb : nW ≤ 12 ∧ nP ≤ 6) (hW : gI S 1 1 = nW) (hP : gI S 1 2 = nP) {n w : Nat} (hw : w < 10) (hn : n < lim nW nP w) : g_X5_has (n : Int) (w : Int) S = 1 := by
  rw [has_v hb hW hP, if_pos ⟨by omega, by omega, by omega, by rw [Int.toNat_natCast]; omega⟩]
theorem lim_12 {nW nP w : Nat} (h : nW ≤ 12 ∧ nP ≤ 6) : lim nW nP w ≤ 12 := by
  unfold lim
  split
  · exact h.1
  · split <;> omega
theorem tyn3 : ∀ w, w < 10 → tyc (3 + w) = (1, 12) := by decide +kernel
theorem val_n {S : Mem} {nW nP : Nat} (hS : Shp S) (hb : nW ≤ 12 ∧ nP ≤ 6) (hW : gI S 1 1 = nW) (hP : gI S 1 2 = nP) {n w : Nat} (hw : w < 10) (hn : n < lim nW nP w) : g_X5_value (n : Int) (w : Int) S = some (nu S w n) := by
  unfold g_X5_value
  rw [has_n hb hW hP hw hn, if_neg (by decide), ldr_n hw (hS.1 w hw), bS, ldd_c (tyn3 w hw) (by omega) (Nat.lt_of_lt_of_le hn (lim_12 hb)), bS]
  rfl
theorem val_0 {S : Mem} {nW nP : Nat} (hb : nW ≤ 12 ∧ nP ≤ 6) (hW : gI S 1 1 = nW) (hP : gI S 1 2 = nP) {n w : Int} (h : ¬ (0 ≤ n ∧ 0 ≤ w ∧ w < 10 ∧ n < lim nW nP w.toNat)) : g_X5_value n w S = some 0 := by
  unfold g_X5_value
  rw [has_v hb hW hP, if_neg h, if_pos rfl]
/-- a number of the office becomes v -/
def setO (S : Mem) (n w : Nat) (v : Int) : Mem := sI (sI S (3 + w) n v) 1 3 (w32 (gI S 1 3 + if w ≤ 2 ∨ w = 7 then 1 else 0))
theorem set_n {S : Mem} {nW nP : Nat} (hS : Shp S) (hb : nW ≤ 12 ∧ nP ≤ 6) (hW : gI S 1 1 = nW) (hP : gI S 1 2 = nP) {n w : Nat} (v : Int) (hw : w < 10) (hn : n < lim nW nP w) : g_X5_set (n : Int) (w : Int) v S = some (setO S n w v) := by
  unfold g_X5_set setO
  have e : gI (sI S (3 + w) n v) 1 = gI S 1 := gI_ne (by omega)
  rw [has_n hb hW hP hw hn, if_neg (by decide), ldr_n hw (hS.1 w hw), bS, std_c (tyn3 w hw) (by omega) (Nat.lt_of_lt_of_le hn (lim_12 hb)), bS]
  simp only [ap, e]
  by_cases q : w ≤ 2
  · rw [if_pos (by omega), if_pos (Or.inl q)]
  · rw [if_neg (by omega)]
    by_cases q2 : w = 7
    · rw [if_pos (by omega), if_pos (Or.inr q2)]
    · rw [if_neg (by omega), if_neg (by omega)]
def setM (S : Mem) (n w : Nat) (v : Int) : Mem := if w < 7 then sI S (57 + w) n v else sI S 64 (w - 7) v
theorem c10 {P : Nat → Prop} (h0 : P 0) (h1 : P 1) (h2 : P 2) (h3 : P 3) (h4 : P 4) (h5 : P 5) (h6 : P 6) (h7 : P 7) (h8 : P 8) (h9 : P 9) : ∀ w, w < 10 → P w := by
  intro w hw
  match w, hw with
  | 0, _ => exact h0
  | 1, _ => exact h1
  | 2, _ => exact h2
  | 3, _ => exact h3
  | 4, _ => exact h4
  | 5, _ => exact h5
  | 6, _ => exact h6
  | 7, _ => exact h7
  | 8, _ => exact h8
  | 9, _ => exact h9
theorem lays_n (S : Mem) (nW nP : Nat) (hb : nW ≤ 12 ∧ nP ≤ 6) (n : Nat) (v : Int) : ∀ w : Nat, w < 10 → n < lim nW nP w → g_X10_lays (w : Int) (n : Int) v S = some (setM S n w v) := by
  apply c10 <;> intro hn <;> simp [lim] at hn <;> unfold g_X10_lays setM <;> simp [w32]
  all_goals first | exact stk_c (by omega) | exact stk_c (k := 0) (by decide) | exact stk_c (k := 1) (by decide) | exact stk_c (k := 2) (by decide)
theorem valAt_n (S : Mem) (nW nP : Nat) (hb : nW ≤ 12 ∧ nP ≤ 6) (n : Nat) : ∀ w : Nat, w < 10 → n < lim nW nP w → g_X10_valueAt (w : Int) (n : Int) S = some (mu S w n) := by
  apply c10 <;> intro hn <;> simp [lim] at hn <;> unfold g_X10_valueAt mu <;> simp [w32]
  all_goals first | exact ldk_c (by omega) | exact ldk_c (k := 0) (by decide) | exact ldk_c (k := 1) (by decide) | exact ldk_c (k := 2) (by decide)
