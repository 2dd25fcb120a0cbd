/-! ERRORS, reference: what is left from each place on -/
theorem gI_k {S : Mem} {c k c' j : Nat} {v : Int} (h : j ≠ k) : gI (sI S c k v) c' j = gI S c' j := by rw [gI_sI, if_neg (fun q => h q.2)]
def wtN (N : Nat → Nat → Int) (V : List Nat) (i w : Nat) : Nat := (if slN N w = V.getD i 0 then erN N else 0) + (if w = V.getD i 0 then 12 - erN N else 0)
theorem wtN_le {N : Nat → Nat → Int} {nW nP i w : Nat} {V : List Nat} (hN : NR N nW nP) : wtN N V i w ≤ 12 := by
  have := (erN_i hN).2
  unfold wtN
  split <;> split <;> omega
def wt1 (N : Nat → Nat → Int) (V : List Nat) (i w : Nat) : Nat := if wtN N V i w = 0 then 0 else 1
def biI : Option Nat → Int
  | none => -1
  | some b => b
def sBy (bo : Option Nat) (N : Nat → Nat → Int) (w sn : Nat) : Nat := match bo with
  | none => sn
  | some b => if (seN N w).testBit b then 1 else sn
def nxW (N : Nat → Nat → Int) (w wh : Nat) : Nat := if soN N w = 1 then 1 else wh
def eNd (bo : Option Nat) (k : Nat) : Nat := if k / 2 = 1 ∧ (bo = none ∨ k % 2 = 1) then 1 else 0
def nk (bo : Option Nat) (N : Nat → Nat → Int) (w k : Nat) : Nat := 2 * nxW N w (k / 2) + sBy bo N w (k % 2)
/-- sums over all that may follow, so many places left -/
def gS (bo : Option Nat) (N : Nat → Nat → Int) (f : Nat → Nat → Nat) (nW n : Nat) : Nat → Nat → Nat → Nat
  | 0, _, k => eNd bo k
  | m + 1, a, k => sumT (fun w => if fol a (soN N w) then f (n - (m + 1)) w * gS bo N f nW n m (soN N w) (nk bo N w k) else 0) nW
def maxT (f : Nat → Nat) : Nat → Nat
  | 0 => 0
  | n + 1 => max (maxT f n) (f n)
def gMx (bo : Option Nat) (N : Nat → Nat → Int) (f : Nat → Nat → Nat) (nW n : Nat) : Nat → Nat → Nat → Nat
  | 0, _, k => eNd bo k
  | m + 1, a, k => maxT (fun w => if fol a (soN N w) then f (n - (m + 1)) w * gMx bo N f nW n m (soN N w) (nk bo N w k) else 0) nW
theorem maxT_le {f : Nat → Nat} {c : Nat} : ∀ n, (∀ k, k < n → f k ≤ c) → maxT f n ≤ c
  | 0, _ => Nat.zero_le _
  | n + 1, h => by
    have ih := maxT_le n (fun k hk => h k (by omega))
    have := h n (Nat.lt_succ_self n)
    show max (maxT f n) (f n) ≤ c
    omega
theorem eNd_le (bo : Option Nat) (k : Nat) : eNd bo k ≤ 1 := by
  unfold eNd
  split <;> omega
theorem gS_le {bo : Option Nat} {N : Nat → Nat → Int} {f : Nat → Nat → Nat} {nW n : Nat} (hW : nW ≤ 12) (hf : ∀ i w, f i w ≤ 12) : ∀ m a k, gS bo N f nW n m a k ≤ 144 ^ m
  | 0, _, k => eNd_le bo k
  | m + 1, a, k => by
    show sumT _ nW ≤ 144 ^ (m + 1)
    have h := sumT_le (f := fun w => if fol a (soN N w) then f (n - (m + 1)) w * gS bo N f nW n m (soN N w) (nk bo N w k) else 0) (c := 12 * 144 ^ m) nW (fun w _ => by
      show (if fol a (soN N w) then f (n - (m + 1)) w * gS bo N f nW n m (soN N w) (nk bo N w k) else 0) ≤ 12 * 144 ^ m
      split
      · exact Nat.mul_le_mul (hf _ _) (gS_le hW hf m _ _)
      · exact Nat.zero_le _)
    refine Nat.le_trans h (Nat.le_trans (Nat.mul_le_mul_left _ hW) ?_)
    rw [Nat.pow_succ]
    omega
theorem gMx_le {bo : Option Nat} {N : Nat → Nat → Int} {f : Nat → Nat → Nat} {nW n : Nat} (hf : ∀ i w, f i w ≤ 12) : ∀ m a k, gMx bo N f nW n m a k ≤ 12 ^ m
  | 0, _, k => eNd_le bo k
  | m + 1, a, k => by
    show maxT _ nW ≤ 12 ^ (m + 1)
    refine maxT_le nW (fun w _ => ?_)
    show (if fol a (soN N w) then f (n - (m + 1)) w * gMx bo N f nW n m (soN N w) (nk bo N w k) else 0) ≤ 12 ^ (m + 1)
    rw [Nat.pow_succ]
    split
    · rw [Nat.mul_comm]; exact Nat.mul_le_mul (gMx_le hf m _ _) (hf _ _)
    · exact Nat.zero_le _
theorem errAt_v {p a wh sn : Nat} (hp : p ≤ 6) (ha : a < 4) (hw : wh < 2) (hs : sn < 2) : g_X10_errAt (p : Int) (a : Int) (wh : Int) (sn : Int) = ((16 * p + 4 * a + (2 * wh + sn) : Nat) : Int) := by
  unfold g_X10_errAt
  rw [w32s (i := (p : Int) * 4) (by omega) (by omega), w32s (i := (p : Int) * 4 + (a : Int)) (by omega) (by omega), w32s (i := ((p : Int) * 4 + (a : Int)) * 2) (by omega) (by omega), w32s (i := ((p : Int) * 4 + (a : Int)) * 2 + (wh : Int)) (by omega) (by omega), w32s (i := (((p : Int) * 4 + (a : Int)) * 2 + (wh : Int)) * 2) (by omega) (by omega), w32s (by omega) (by omega)]
  omega
theorem kd2 : ∀ k, k < 4 → w32 (Int.tdiv ((k : Nat) : Int) 2) = ((k / 2 : Nat) : Int) ∧ Int.tmod ((k : Nat) : Int) 2 = ((k % 2 : Nat) : Int) := by decide +kernel
theorem w_ee {e : Nat} (h : e ≤ 12) : w32 ((w32 ((e : Int) + 12)) - (e : Int)) = 12 := by
  rw [w32s (i := (e : Int) + 12) (by omega) (by omega), w32s (by omega) (by omega)]
  omega
theorem w_0e {e : Nat} (h : e ≤ 12) : w32 ((w32 (0 + 12)) - (e : Int)) = ((12 - e : Nat) : Int) := by
  rw [w32s (i := 0 + 12) (by omega) (by omega), w32s (by omega) (by omega)]
  omega
theorem wt_m {N : Nat → Nat → Int} {nW nP i w : Nat} {V : List Nat} {T : Mem} (hN : NR N nW nP) (hM : OM N nW nP T) (hw : w < nW) : g_X10_weightOf (w : Int) ((V.getD i 0 : Nat) : Int) T = some ((wtN N V i w : Nat) : Int) := by
  have w12 : w < 12 := by have := hN.1; omega
  obtain ⟨e1, e2⟩ := erN_i hN
  have m8 : gI T 64 1 = ((erN N : Nat) : Int) := by rw [← e1]; exact hM.2 8 0 (by decide) (show 0 < 1 by decide)
  have m4 : gI T 61 w = ((slN N w : Nat) : Int) := by rw [← (slN_i hN hw).1]; exact hM.2 4 _ (by decide) hw
  unfold g_X10_weightOf wtN
  rw [ldk_c w12, bS, m4, m8, w_ee e2, w_0e e2]
  by_cases c1 : slN N w = V.getD i 0
  · rw [if_pos (show ((slN N w : Nat) : Int) = ((V.getD i 0 : Nat) : Int) by omega), if_pos c1]
    by_cases c2 : w = V.getD i 0
    · rw [if_pos (show (w : Int) = ((V.getD i 0 : Nat) : Int) by omega), if_pos c2, show erN N + (12 - erN N) = 12 by omega]
      rfl
    · rw [if_neg (show ¬ (w : Int) = ((V.getD i 0 : Nat) : Int) by omega), if_neg c2]
      rfl
  · rw [if_neg (show ¬ ((slN N w : Nat) : Int) = ((V.getD i 0 : Nat) : Int) by omega), if_neg c1]
    by_cases c2 : w = V.getD i 0
    · rw [if_pos (show (w : Int) = ((V.getD i 0 : Nat) : Int) by omega), if_pos c2, Nat.zero_add]
    · rw [if_neg (show ¬ (w : Int) = ((V.getD i 0 : Nat) : Int) by omega), if_neg c2]
      rfl
theorem sBy_lt {bo : Option Nat} {N : Nat → Nat → Int} {w sn : Nat} (h : sn < 2) : sBy bo N w sn < 2 := by
  unfold sBy
  cases bo with
  | none => exact h
  | some b =>
    show (if (seN N w).testBit b then 1 else sn) < 2
    split <;> omega
theorem nxW_lt {N : Nat → Nat → Int} {w wh : Nat} (h : wh < 2) : nxW N w wh < 2 := by
  unfold nxW
  split <;> omega
theorem seen_m {N : Nat → Nat → Int} {nW nP w sn : Nat} {bo : Option Nat} {T : Mem} (hN : NR N nW nP) (hM : OM N nW nP T) (hw : w < nW) (hb : gI T 56 44 = biI bo) (hbo : ∀ b, bo = some b → b < 6) : g_X10_seenBy (w : Int) (sn : Int) T = some ((sBy bo N w sn : Nat) : Int) := by
  have w12 : w < 12 := by have := hN.1; omega
  have m1 : gI T 58 w = ((seN N w : Nat) : Int) := by rw [← (seN_i hN hw).1]; exact hM.2 1 _ (by decide) hw
  have s64 := (seN_i hN hw).2
  unfold g_X10_seenBy sBy
  rw [hb]
  cases bo with
  | none => rfl
  | some b =>
    have b6 := hbo b rfl
    show (if (b : Int) < 0 then some (sn : Int) else (ldk T 58 12 (w : Int)).bind fun x1 => if (o_and (o_shr x1 (b : Int)) 1) = 1 then some 1 else some (sn : Int)) = some (((if (seN N w).testBit b then 1 else sn) : Nat) : Int)
    rw [if_neg (by omega), ldk_c w12, bS, m1, bit_m (by omega) (by omega)]
    cases (seN N w).testBit b with
    | false => rfl
    | true => rfl
theorem next_m {N : Nat → Nat → Int} {nW nP w p k : Nat} {bo : Option Nat} {T : Mem} (hN : NR N nW nP) (hM : OM N nW nP T) (hw : w < nW) (hb : gI T 56 44 = biI bo) (hbo : ∀ b, bo = some b → b < 6) (hp : p < 6) (hk : k < 4) : g_X10_nextAt (p : Int) (w : Int) ((k / 2 : Nat) : Int) ((k % 2 : Nat) : Int) T = some ((16 * (p + 1) + 4 * soN N w + nk bo N w k : Nat) : Int) := by
  have w12 : w < 12 := by have := hN.1; omega
  have m2 : gI T 59 w = ((soN N w : Nat) : Int) := by rw [← (soN_i hN hw).1]; exact hM.2 2 _ (by decide) hw
  have so3 := (soN_i hN hw).2
  have sb := sBy_lt (bo := bo) (N := N) (w := w) (show k % 2 < 2 by omega)
  unfold g_X10_nextAt nk nxW
  rw [ldk_c w12, bS, bS, seen_m hN hM hw hb hbo, bS, bS, m2, w32_a p (by omega)]
  by_cases c : soN N w = 1
  · rw [if_pos (by omega), if_pos c, show (1 : Int) = ((1 : Nat) : Int) from rfl, errAt_v (by omega) (by omega) (by omega) sb]
  · rw [if_neg (by omega), if_neg c, errAt_v (by omega) (by omega) (by omega) sb]
theorem nk_lt {bo : Option Nat} {N : Nat → Nat → Int} {w k : Nat} (hk : k < 4) : nk bo N w k < 4 := by
  have a := sBy_lt (bo := bo) (N := N) (w := w) (show k % 2 < 2 by omega)
  have b := nxW_lt (N := N) (w := w) (show k / 2 < 2 by omega)
  unfold nk
  omega
/-- one cell of the table holds what it ought -/
def okC (bo : Option Nat) (N : Nat → Nat → Int) (V : List Nat) (nW p a k : Nat) (T : Mem) : Prop := gI T 84 (16 * p + 4 * a + k) = ((gS bo N (wt1 N V) nW V.length (V.length - p) a k : Nat) : Int) ∧ gI T 85 (16 * p + 4 * a + k) = ((gS bo N (wtN N V) nW V.length (V.length - p) a k : Nat) : Int) ∧ gI T 86 (16 * p + 4 * a + k) = ((gMx bo N (wtN N V) nW V.length (V.length - p) a k : Nat) : Int)
def KH (T T' : Mem) : Prop := (∀ c, c ≠ 56 → c ≠ 84 → c ≠ 85 → c ≠ 86 → gI T' c = gI T c) ∧ ∀ k, k ≠ 44 → gI T' 56 k = gI T 56 k
theorem KH.rf (T : Mem) : KH T T := ⟨fun _ _ _ _ _ => rfl, fun _ _ => rfl⟩
theorem KH.tr {S S' S'' : Mem} (h : KH S S') (g : KH S' S'') : KH S S'' := ⟨fun c h1 h2 h3 h4 => (g.1 c h1 h2 h3 h4).trans (h.1 c h1 h2 h3 h4), fun k hk => (g.2 k hk).trans (h.2 k hk)⟩
theorem OM.h {N : Nat → Nat → Int} {nW nP : Nat} {S S' : Mem} (h : OM N nW nP S) (k : KH S S') : OM N nW nP S' := OM_of h (fun c hc => k.1 c (by omega) (by omega) (by omega) (by omega)) (k.2 1 (by decide)) (k.2 7 (by decide))
theorem TW.h {nW : Nat} {S S' : Mem} {ws : List Nat} (h : TW nW S ws) (k : KH S S') : TW nW S' ws := by
  unfold TW
  rw [k.2 32 (by decide), k.1 77 (by decide) (by decide) (by decide) (by decide)]
  exact h
theorem KM_wh {S S1 S2 : Mem} (h : KW S S1) (g : KH S1 S2) : KM S S2 := by
  refine ⟨fun c hc => ?_, fun k hk => ?_⟩
  · simp only [List.mem_cons, List.not_mem_nil, or_false, not_or] at hc
    obtain ⟨a1, a2, a3, a4, a5, a6, a7, a8, a9, a10, a11, a12, a13, a14⟩ := hc
    rw [g.1 c a1 a11 a12 a13, h.1 c a1 a4]
  · simp only [List.mem_cons, List.not_mem_nil, or_false, not_or] at hk
    rw [g.2 k hk.2.2.2, h.2 k hk.1]
theorem lcm_le {a b : Nat} : (lcm (a : Int) (b : Int) ≤ 0) ↔ a ≤ b := by
  unfold lcm
  by_cases c : b < a
  · rw [if_pos (by omega)]
    omega
  · rw [if_neg (by omega)]
    split <;> omega
theorem m64' {a c : Nat} (h : a * c ≤ 1000000000000000) : w64 ((a : Int) * (c : Int)) = ((a * c : Nat) : Int) := by
  rw [show (a : Int) * (c : Int) = ((a * c : Nat) : Int) from (Int.natCast_mul a c).symm]
  generalize a * c = m at h ⊢
  exact w64s (by omega) (by omega)
theorem a64 {a c : Nat} (h : a + c ≤ 1000000000000000) : w64 ((a : Int) + (c : Int)) = ((a + c : Nat) : Int) := by
  rw [w64s (by omega) (by omega)]
  omega
/-- what one word gives at a place -/
def c1 (bo : Option Nat) (N : Nat → Nat → Int) (V : List Nat) (nW p m a k w : Nat) : Nat := if fol a (soN N w) then wt1 N V p w * gS bo N (wt1 N V) nW V.length m (soN N w) (nk bo N w k) else 0
def c2 (bo : Option Nat) (N : Nat → Nat → Int) (V : List Nat) (nW p m a k w : Nat) : Nat := if fol a (soN N w) then wtN N V p w * gS bo N (wtN N V) nW V.length m (soN N w) (nk bo N w k) else 0
def c3 (bo : Option Nat) (N : Nat → Nat → Int) (V : List Nat) (nW p m a k w : Nat) : Nat := if fol a (soN N w) then wtN N V p w * gMx bo N (wtN N V) nW V.length m (soN N w) (nk bo N w k) else 0
theorem wt1_le (N : Nat → Nat → Int) (V : List Nat) (i w : Nat) : wt1 N V i w ≤ 12 := by
  unfold wt1
  split <;> omega
theorem p5 {m : Nat} (h : m ≤ 5) : 144 ^ m ≤ 61917364224 ∧ 12 ^ m ≤ 248832 := ⟨Nat.le_trans (Nat.pow_le_pow_right (by decide) h) (by decide), Nat.le_trans (Nat.pow_le_pow_right (by decide) h) (by decide)⟩
theorem c12_le {N : Nat → Nat → Int} {nW nP p m a k w : Nat} {bo : Option Nat} {V : List Nat} (hN : NR N nW nP) (hm : m ≤ 5) : c1 bo N V nW p m a k w ≤ 743008370688 ∧ c2 bo N V nW p m a k w ≤ 743008370688 := by
  have hb := (p5 hm).1
  have g1 := gS_le (bo := bo) (N := N) (n := V.length) hN.1.1 (wt1_le N V) m (soN N w) (nk bo N w k)
  have g2 := gS_le (bo := bo) (N := N) (n := V.length) hN.1.1 (fun i w => wtN_le (i := i) (w := w) (V := V) hN) m (soN N w) (nk bo N w k)
  refine ⟨?_, ?_⟩
  · unfold c1
    split
    · exact Nat.le_trans (Nat.mul_le_mul (wt1_le N V p w) (Nat.le_trans g1 hb)) (by decide)
    · exact Nat.zero_le _
  · unfold c2
    split
    · exact Nat.le_trans (Nat.mul_le_mul (wtN_le hN) (Nat.le_trans g2 hb)) (by decide)
    · exact Nat.zero_le _
/-- numbers of the machine, as they are -/
theorem pl_num {K : Int → Int → Int → Option Mem} {s1 s2 s3 y1 y2 y3 u : Nat} (h1 : s1 + y1 ≤ 1000000000000000) (h2 : s2 + u * y2 ≤ 1000000000000000) (h3 : u * y3 ≤ 1000000000000000) : (if (lcm (w64 ((u : Int) * (y3 : Int))) (s3 : Int)) ≤ 0 then K (w64 ((s1 : Int) + (y1 : Int))) (w64 ((s2 : Int) + (w64 ((u : Int) * (y2 : Int))))) (s3 : Int) else K (w64 ((s1 : Int) + (y1 : Int))) (w64 ((s2 : Int) + (w64 ((u : Int) * (y2 : Int))))) (w64 ((u : Int) * (y3 : Int)))) = K ((s1 + y1 : Nat) : Int) ((s2 + u * y2 : Nat) : Int) ((max s3 (u * y3) : Nat) : Int) := by
  rw [m64' (a := u) (c := y2) (by omega), m64' (a := u) (c := y3) h3, a64 h1, a64 h2]
  generalize u * y3 = z
  by_cases c : z ≤ s3
  · rw [if_pos (lcm_le.mpr c), show max s3 z = s3 by omega]
  · rw [if_neg (fun q => c (lcm_le.mp q)), show max s3 z = z by omega]
theorem pl_step {N : Nat → Nat → Int} {nW nP p a k m w fu s1 s2 s3 : Nat} {bo : Option Nat} {V : List Nat} {T : Mem} {K : Int → Int → Int → Mem → Option Mem} (hN : NR N nW nP) (hM : OM N nW nP T) (h6 : V.length ≤ 6) (hT : TW nW T V) (hb : gI T 56 44 = biI bo) (hbo : ∀ b, bo = some b → b < 6) (hp : p < V.length) (hpm : V.length - (p + 1) = m) (ha : a < 4) (hk : k < 4) (hn : ∀ a' k', a' < 4 → k' < 4 → okC bo N V nW (p + 1) a' k' T) (hw : w < nW) (b1 : s1 ≤ 10000000000000) (b2 : s2 ≤ 10000000000000) : g_X10_findPlace_L12 K (p : Int) (a : Int) ((k / 2 : Nat) : Int) ((k % 2 : Nat) : Int) (fu + 1) (s1 : Int) (s2 : Int) (s3 : Int) (w : Int) T = g_X10_findPlace_L12 K (p : Int) (a : Int) ((k / 2 : Nat) : Int) ((k % 2 : Nat) : Int) fu ((s1 + c1 bo N V nW p m a k w : Nat) : Int) ((s2 + c2 bo N V nW p m a k w : Nat) : Int) ((max s3 (c3 bo N V nW p m a k w) : Nat) : Int) ((w + 1 : Nat) : Int) T := by
  have w12 : w < 12 := by have := hN.1.1; omega
  have p12 : p < 12 := by omega
  have hm5 : m ≤ 5 := by omega
  have m2 : gI T 59 w = ((soN N w : Nat) : Int) := by rw [← (soN_i hN hw).1]; exact hM.2 2 _ (by decide) hw
  have so3 := (soN_i hN hw).2
  rw [g_X10_findPlace_L12.eq_2, hM.1.1, if_neg (show ¬ (nW : Int) ≤ (w : Int) by omega), ldk_c p12, bS, hT.2.2 p hp, wt_m hN hM hw, bS, w32_a w (by omega)]
  by_cases c0 : wtN N V p w = 0
  · have e1 : c1 bo N V nW p m a k w = 0 := by
      unfold c1 wt1
      rw [if_pos c0, Nat.zero_mul]
      split <;> rfl
    have e2 : c2 bo N V nW p m a k w = 0 := by
      unfold c2
      rw [c0, Nat.zero_mul]
      split <;> rfl
    have e3 : c3 bo N V nW p m a k w = 0 := by
      unfold c3
      rw [c0, Nat.zero_mul]
      split <;> rfl
    rw [e1, e2, e3, if_pos (show ((wtN N V p w : Nat) : Int) = 0 by omega), show s1 + 0 = s1 from rfl, show s2 + 0 = s2 from rfl, show max s3 0 = s3 by omega]
  · rw [if_neg (show ¬ ((wtN N V p w : Nat) : Int) = 0 by omega), ldk_c w12, bS, m2, fol_m a ha _ so3]
    unfold c1 c2 c3
    cases hf : fol a (soN N w) with
    | false =>
      rw [bF, i00, if_neg (show ¬ (false = true) by decide), if_neg (show ¬ (false = true) by decide), if_neg (show ¬ (false = true) by decide), show s1 + 0 = s1 from rfl, show s2 + 0 = s2 from rfl, show max s3 0 = s3 by omega]
    | true =>
      have e1 : wt1 N V p w = 1 := if_neg c0
      have nkl := nk_lt (bo := bo) (N := N) (w := w) hk
      obtain ⟨o1, o2, o3⟩ := hn (soN N w) (nk bo N w k) (by omega) nkl
      rw [hpm] at o1 o2 o3
      have ix : 16 * (p + 1) + 4 * soN N w + nk bo N w k < 112 := by omega
      obtain ⟨q1, q2⟩ := p5 hm5
      have g1 := Nat.le_trans (gS_le (bo := bo) (N := N) (n := V.length) hN.1.1 (wt1_le N V) m (soN N w) (nk bo N w k)) q1
      have g2 := Nat.le_trans (gS_le (bo := bo) (N := N) (n := V.length) hN.1.1 (fun i w => wtN_le (i := i) (w := w) (V := V) hN) m (soN N w) (nk bo N w k)) q1
      have g3 := Nat.le_trans (gMx_le (bo := bo) (N := N) (nW := nW) (n := V.length) (fun i w => wtN_le (i := i) (w := w) (V := V) hN) m (soN N w) (nk bo N w k)) q2
      have wl := wtN_le (i := p) (w := w) (V := V) hN
      rw [bT, i10, if_pos (show true = true from rfl), if_pos (show true = true from rfl), if_pos (show true = true from rfl), e1, Nat.one_mul, next_m hN hM hw hb hbo (by omega) hk, bS, ldk_c ix, bS, ldk_c ix, bS]
      simp only [ap]
      rw [ldk_c ix, bS, bS, o1, o2, o3]
      clear o1 o2 o3 hn
      generalize gS bo N (wt1 N V) nW V.length m (soN N w) (nk bo N w k) = y1 at g1 ⊢
      generalize gS bo N (wtN N V) nW V.length m (soN N w) (nk bo N w k) = y2 at g2 ⊢
      generalize gMx bo N (wtN N V) nW V.length m (soN N w) (nk bo N w k) = y3 at g3 ⊢
      generalize wtN N V p w = u at wl ⊢
      have z2 : u * y2 ≤ 12 * 61917364224 := Nat.mul_le_mul wl g2
      have z3 : u * y3 ≤ 12 * 248832 := Nat.mul_le_mul wl g3
      exact pl_num (K := fun x y z => g_X10_findPlace_L12 K (p : Int) (a : Int) ((k / 2 : Nat) : Int) ((k % 2 : Nat) : Int) fu x y z ((w + 1 : Nat) : Int) T) (by omega) (by omega) (by omega)
theorem place_m {N : Nat → Nat → Int} {nW nP p a k m : Nat} {bo : Option Nat} {V : List Nat} {T : Mem} (hN : NR N nW nP) (hM : OM N nW nP T) (h6 : V.length ≤ 6) (hT : TW nW T V) (hb : gI T 56 44 = biI bo) (hbo : ∀ b, bo = some b → b < 6) (hp : p < V.length) (hpm : V.length - (p + 1) = m) (ha : a < 4) (hk : k < 4) (hn : ∀ a' k', a' < 4 → k' < 4 → okC bo N V nW (p + 1) a' k' T) : ∃ T', g_X10_findPlace (p : Int) (a : Int) ((k / 2 : Nat) : Int) ((k % 2 : Nat) : Int) T = some T' ∧ KH T T' ∧ okC bo N V nW p a k T' ∧ (∀ c j, j ≠ 16 * p + 4 * a + k → gI T' c j = gI T c j) ∧ gI T' 56 = gI T 56 := by
  have hW := hN.1.1
  have eP : V.length - p = m + 1 := by omega
  have eI : V.length - (m + 1) = p := by omega
  have key : ∀ (r w fu : Nat) (K : Int → Int → Int → Mem → Option Mem), w + r = nW → r < fu → g_X10_findPlace_L12 K (p : Int) (a : Int) ((k / 2 : Nat) : Int) ((k % 2 : Nat) : Int) fu ((sumT (c1 bo N V nW p m a k) w : Nat) : Int) ((sumT (c2 bo N V nW p m a k) w : Nat) : Int) ((maxT (c3 bo N V nW p m a k) w : Nat) : Int) (w : Int) T = K ((sumT (c1 bo N V nW p m a k) nW : Nat) : Int) ((sumT (c2 bo N V nW p m a k) nW : Nat) : Int) ((maxT (c3 bo N V nW p m a k) nW : Nat) : Int) T := by
    intro r
    induction r with
    | zero =>
      intro w fu K hw hf
      obtain ⟨fu, rfl⟩ : ∃ k, fu = k + 1 := ⟨fu - 1, by omega⟩
      have hw : w = nW := hw
      rw [g_X10_findPlace_L12.eq_2, hM.1.1, if_pos (by omega), hw]
    | succ r ih =>
      intro w fu K hw hf
      obtain ⟨fu, rfl⟩ : ∃ k, fu = k + 1 := ⟨fu - 1, by omega⟩
      have hwW : w < nW := by omega
      have m5 : m ≤ 5 := by omega
      have i1 := ih (w + 1) fu K (by omega) (by omega)
      have s1 := sumT_le (f := c1 bo N V nW p m a k) (c := 743008370688) w (fun w _ => (c12_le hN m5).1)
      have s2 := sumT_le (f := c2 bo N V nW p m a k) (c := 743008370688) w (fun w _ => (c12_le hN m5).2)
      rw [pl_step hN hM h6 hT hb hbo hp hpm ha hk hn hwW (by omega) (by omega)]
      exact i1
  have ek : 16 * p + 4 * a + (2 * (k / 2) + k % 2) = 16 * p + 4 * a + k := by omega
  have ix : 16 * p + 4 * a + k < 112 := by omega
  have ea : g_X10_errAt (p : Int) (a : Int) ((k / 2 : Nat) : Int) ((k % 2 : Nat) : Int) = ((16 * p + 4 * a + k : Nat) : Int) := by rw [errAt_v (by omega) ha (by omega) (by omega), ek]
  have hF : nW < FU := Nat.lt_of_le_of_lt hW (by unfold FU; decide)
  have k0 : ∀ K : Int → Int → Int → Mem → Option Mem, g_X10_findPlace_L12 K (p : Int) (a : Int) ((k / 2 : Nat) : Int) ((k % 2 : Nat) : Int) FU 0 0 0 0 T = K ((sumT (c1 bo N V nW p m a k) nW : Nat) : Int) ((sumT (c2 bo N V nW p m a k) nW : Nat) : Int) ((maxT (c3 bo N V nW p m a k) nW : Nat) : Int) T := by
    intro K
    have q := key nW 0 FU K (Nat.zero_add _) hF
    have z1 : ((sumT (c1 bo N V nW p m a k) 0 : Nat) : Int) = 0 := rfl
    have z2 : ((sumT (c2 bo N V nW p m a k) 0 : Nat) : Int) = 0 := rfl
    have z3 : ((maxT (c3 bo N V nW p m a k) 0 : Nat) : Int) = 0 := rfl
    rw [z1, z2, z3, show ((0 : Nat) : Int) = 0 from rfl] at q
    exact q
  unfold g_X10_findPlace
  rw [k0, ea, stk_c ix, bS, stk_c ix, bS, stk_c ix, bS]
  refine ⟨_, rfl, ⟨fun c h1 h2 h3 h4 => by rw [gI_ne h4, gI_ne h3, gI_ne h2], fun j _ => by rw [gI_ne (by decide), gI_ne (by decide), gI_ne (by decide)]⟩, ?_, fun c j hj => by rw [gI_k hj, gI_k hj, gI_k hj], by rw [gI_ne (by decide), gI_ne (by decide), gI_ne (by decide)]⟩
  unfold okC
  rw [eP]
  have u1 : gS bo N (wt1 N V) nW V.length (m + 1) a k = sumT (c1 bo N V nW (V.length - (m + 1)) m a k) nW := rfl
  have u2 : gS bo N (wtN N V) nW V.length (m + 1) a k = sumT (c2 bo N V nW (V.length - (m + 1)) m a k) nW := rfl
  have u3 : gMx bo N (wtN N V) nW V.length (m + 1) a k = maxT (c3 bo N V nW (V.length - (m + 1)) m a k) nW := rfl
  rw [u1, u2, u3, eI]
  exact ⟨by rw [gI_ne (by decide), gI_ne (by decide), gI_eq], by rw [gI_ne (by decide), gI_eq], gI_eq⟩
