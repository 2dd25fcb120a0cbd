/-! FOR HOW MANY: from the reference's least prices -/
def LT (nW : Nat) (so se : Nat → Nat) (pr : Nat → Nat → Nat → Nat) (T : Mem) : Prop := ∀ s, s < 64 → ((∀ t, ¬ Bs nW so se 6 s t) ∧ gI T 83 s = 9999999) ∨ ∃ t, Bs nW so se 6 s t ∧ gI T 83 s = ((pco so pr 3 0 t : Nat) : Int) ∧ ∀ t', Bs nW so se 6 s t' → pco so pr 3 0 t ≤ pco so pr 3 0 t'
theorem isFor_c {law : Option (List Lin)} {N : Nat → Nat → Int} {nW nP s a : Nat} {S T : Mem} (hN : NR N nW nP) (hs : s < 64) (ha : a ≤ 999) (hB : IsM (encT (soN N) (prN law N)) (Bs nW (soN N) (seN N) 6 s) (gI S 35 s)) (hT : LT nW (soN N) (seN N) (prN law N) T) : g_X6_isFor (s : Int) (a : Int) S = some (if gI T 83 s ≤ (a : Int) then 1 else 0) := by
  have nW12 := hN.1.1
  unfold g_X6_isFor
  rw [if_neg (show ¬ (s : Int) < 0 by omega), if_neg (show ¬ (64 : Int) ≤ (s : Int) by omega), ldk_c hs, bS]
  rcases hB with ⟨e, z⟩ | ⟨t, z1, z2, z3⟩
  · have e2 : gI T 83 s = 9999999 := by
      rcases hT s hs with q | ⟨t, q, -⟩
      · exact q.2
      · exact absurd q (z t)
    rw [e, show lcm (-1) 0 = -1 by decide, if_pos (show (-1 : Int) < 0 by decide), e2, if_neg (show ¬ (9999999 : Int) ≤ (a : Int) by omega)]
  · have e2 : gI T 83 s = ((pco (soN N) (prN law N) 3 0 t : Nat) : Int) := by
      rcases hT s hs with q | ⟨u, q1, q2, q3⟩
      · exact absurd z1 (q.1 t)
      · have h1 := q3 t z1
        have h2 := (enc_k (so := soN N) (pr := prN law N) ⟨z1.1, w6 nW12 z1.1 (Vp_w z1.2.1)⟩ ⟨q1.1, w6 nW12 q1.1 (Vp_w q1.2.1)⟩ (z3 u q1)).1
        have l1 := z1.1
        have l2 := q1.1
        rw [q2]
        omega
    have pl := pco_le (so := soN N) (pr := prN law N) (fun w a p h => (prN_i hN h).2) t 3 0 (Vp_w z1.2.1)
    have l6 := z1.1
    have hP : pco (soN N) (prN law N) 3 0 t ≤ 594 := by omega
    rw [z2, lcm_p, if_neg (show ¬ (if encT (soN N) (prN law N) t = 0 then (0 : Int) else 1) < 0 by split <;> decide), bS, cl_p (E := encT (soN N) (prN law N) t) rfl hP l6 (w6 nW12 z1.1 (Vp_w z1.2.1)), e2]
    by_cases c : pco (soN N) (prN law N) 3 0 t ≤ a
    · rw [if_neg (show ¬ (a : Int) < ((pco (soN N) (prN law N) 3 0 t : Nat) : Int) by omega), if_pos (show ((pco (soN N) (prN law N) 3 0 t : Nat) : Int) ≤ (a : Int) by omega)]
    · rw [if_pos (show (a : Int) < ((pco (soN N) (prN law N) 3 0 t : Nat) : Int) by omega), if_neg (show ¬ ((pco (soN N) (prN law N) 3 0 t : Nat) : Int) ≤ (a : Int) by omega)]
def rlW (vc vm : Int) : Prop := (vc = -1 ∧ vm = -2) ∨ ∃ q : Nat, q < 64 ∧ vc = (q : Int) ∧ vm = (q : Int)
theorem wide_l {S T : Mem} {a : Nat} {a2 : Int} {K : Int → Mem → Option (Int × Mem)} (hI : ∀ s, s < 64 → g_X6_isFor ((s : Nat) : Int) (a : Int) S = some (if gI T 83 s ≤ (a : Int) then 1 else 0)) : ∀ (r x fu fm : Nat) (vc vm : Int), x + r = 64 → r < fu → r < fm → rlW vc vm → ∃ vc' vm', g_X6_widest_L8 (a : Int) fu vc (x : Int) S = some (vc', S) ∧ g_X10_allFor_L32 K (a : Int) a2 fm vm (x : Int) T = K vm' T ∧ rlW vc' vm' := by
  intro r
  induction r with
  | zero =>
    intro x fu fm vc vm hx hf hm hr
    obtain ⟨fu, rfl⟩ : ∃ k, fu = k + 1 := ⟨fu - 1, by omega⟩
    obtain ⟨fm, rfl⟩ : ∃ k, fm = k + 1 := ⟨fm - 1, by omega⟩
    have hx : x = 64 := hx
    subst hx
    rw [g_X6_widest_L8.eq_2, g_X10_allFor_L32.eq_2, if_pos (by decide), if_pos (by decide)]
    exact ⟨vc, vm, rfl, rfl, hr⟩
  | succ r ih =>
    intro x fu fm vc vm hx hf hm hr
    obtain ⟨fu, rfl⟩ : ∃ k, fu = k + 1 := ⟨fu - 1, by omega⟩
    obtain ⟨fm, rfl⟩ : ∃ k, fm = k + 1 := ⟨fm - 1, by omega⟩
    have hx64 : x < 64 := by omega
    have go : ∀ vc vm, rlW vc vm → ∃ vc' vm', g_X6_widest_L8 (a : Int) fu vc ((x + 1 : Nat) : Int) S = some (vc', S) ∧ g_X10_allFor_L32 K (a : Int) a2 fm vm ((x + 1 : Nat) : Int) T = K vm' T ∧ rlW vc' vm' := fun vc vm h => ih (x + 1) fu fm vc vm (by omega) (by omega) (by omega) h
    have n64 : ¬ (64 : Int) ≤ (x : Int) := by omega
    rw [g_X6_widest_L8.eq_2, g_X10_allFor_L32.eq_2, if_neg n64, if_neg n64, hI x hx64, bS, ldk_c hx64, bS, w32_a x (by omega)]
    by_cases c : gI T 83 x ≤ (a : Int)
    · rw [if_pos c, i10, if_neg (show ¬ (a : Int) < gI T 83 x by omega)]
      rcases hr with ⟨rfl, rfl⟩ | ⟨q, q1, rfl, rfl⟩
      · rw [if_pos (show (-1 : Int) < 0 by decide), if_pos (show (-2 : Int) < 0 by decide)]
        exact go _ _ (Or.inr ⟨x, hx64, rfl, rfl⟩)
      · obtain ⟨p1, p2, -, -⟩ := pcN_v x hx64
        obtain ⟨r1, r2, -, -⟩ := pcN_v q q1
        rw [if_neg (show ¬ (q : Int) < 0 by omega), if_neg (show ¬ (q : Int) < 0 by omega), p1, p2, r1, r2, bS, bS]
        by_cases d : ((pcN x : Nat) : Int) ≤ ((pcN q : Nat) : Int)
        · rw [if_pos d, if_pos d]
          exact go _ _ (Or.inr ⟨q, q1, rfl, rfl⟩)
        · rw [if_neg d, if_neg d]
          exact go _ _ (Or.inr ⟨x, hx64, rfl, rfl⟩)
    · rw [if_neg c, i00, if_pos (show (a : Int) < gI T 83 x by omega)]
      exact go _ _ hr
theorem with_l {S T : Mem} {a p : Nat} (hp : p < 6) (hpa : gI T 62 p = (a : Int)) (hI : ∀ s, s < 64 → g_X6_isFor ((s : Nat) : Int) (a : Int) S = some (if gI T 83 s ≤ (a : Int) then 1 else 0)) : ∀ (r x fu fm v : Nat), x + r = 64 → r < fu → r < fm → v < 64 → ∃ v' : Nat, v' < 64 ∧ g_X6_within_L8 (a : Int) fu (v : Int) (x : Int) S = some ((v' : Int), S) ∧ g_X10_tooDear_L18 (p : Int) fm (v : Int) (x : Int) T = some (o_and 63 (o_xor (v' : Int) (-1)), T) := by
  intro r
  induction r with
  | zero =>
    intro x fu fm v hx hf hm hr
    obtain ⟨fu, rfl⟩ : ∃ k, fu = k + 1 := ⟨fu - 1, by omega⟩
    obtain ⟨fm, rfl⟩ : ∃ k, fm = k + 1 := ⟨fm - 1, by omega⟩
    have hx : x = 64 := hx
    subst hx
    rw [g_X6_within_L8.eq_2, g_X10_tooDear_L18.eq_2, if_pos (by decide), if_pos (by decide)]
    exact ⟨v, hr, rfl, rfl⟩
  | succ r ih =>
    intro x fu fm v hx hf hm hr
    obtain ⟨fu, rfl⟩ : ∃ k, fu = k + 1 := ⟨fu - 1, by omega⟩
    obtain ⟨fm, rfl⟩ : ∃ k, fm = k + 1 := ⟨fm - 1, by omega⟩
    have hx64 : x < 64 := by omega
    have n64 : ¬ (64 : Int) ≤ (x : Int) := by omega
    have o0 : o_or (v : Int) 0 = (v : Int) := by
      rw [show (0 : Int) = ((0 : Nat) : Int) from rfl, oor (by omega) (by omega), Nat.or_zero]
    rw [g_X6_within_L8.eq_2, g_X10_tooDear_L18.eq_2, if_neg n64, if_neg n64, hI x hx64, bS, ldk_c hx64, bS, ldk_c hp, bS, hpa, w32_a x (by omega), o0, oor (a := v) (b := x) (by omega) (by omega)]
    by_cases c : gI T 83 x ≤ (a : Int)
    · rw [if_pos c, i10, if_neg (show ¬ (a : Int) < gI T 83 x by omega)]
      exact ih (x + 1) fu fm (v ||| x) (by omega) (by omega) (by omega) (or_lt 6 hr hx64)
    · rw [if_neg c, i00, if_pos (show (a : Int) < gI T 83 x by omega)]
      exact ih (x + 1) fu fm v (by omega) (by omega) (by omega) hr
