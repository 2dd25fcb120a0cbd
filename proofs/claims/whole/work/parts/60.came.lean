/-! ERRORS: both ways give the same sums; CAME, MEANT, CERTAIN -/
theorem sumT_ext {f g : Nat → Nat} : ∀ n, (∀ i, i < n → f i = g i) → sumT f n = sumT g n
  | 0, _ => rfl
  | n + 1, h => by
    show sumT f n + f n = sumT g n + g n
    rw [sumT_ext n (fun i hi => h i (by omega)), h n (Nat.lt_succ_self n)]
theorem sumT_mul {f : Nat → Nat} {c : Nat} : ∀ n, sumT (fun i => f i * c) n = sumT f n * c
  | 0 => (Nat.zero_mul c).symm
  | n + 1 => by
    show sumT (fun i => f i * c) n + f n * c = (sumT f n + f n) * c
    rw [sumT_mul n, Nat.add_mul]
theorem sumT_z {f : Nat → Nat} : ∀ n, sumT f n = 0 ↔ ∀ i, i < n → f i = 0
  | 0 => ⟨fun _ i h => absurd h (Nat.not_lt_zero i), fun _ => rfl⟩
  | n + 1 => by
    have ih := sumT_z (f := f) n
    constructor
    · intro h i hi
      have h : sumT f n + f n = 0 := h
      by_cases e : i = n
      · rw [e]; omega
      · exact ih.mp (by omega) i (by omega)
    · intro h
      show sumT f n + f n = 0
      rw [ih.mpr (fun i hi => h i (by omega)), h n (Nat.lt_succ_self n)]
theorem one4e {so : Nat} {x : Nat → Nat} (h : so < 4) : sumT (fun s => if so = s then x s else 0) 4 = x so := by
  show 0 + (if so = 0 then x 0 else 0) + (if so = 1 then x 1 else 0) + (if so = 2 then x 2 else 0) + (if so = 3 then x 3 else 0) = x so
  match so, h with
  | 0, _ => simp
  | 1, _ => simp
  | 2, _ => simp
  | 3, _ => simp
/-- what may follow, the last place first -/
def Bk (N : Nat → Nat → Int) (u : Nat → Nat → Nat) (nW n : Nat) : Nat → Nat → Nat
  | 0, a => if a = 1 ∨ a = 2 then 1 else 0
  | m + 1, a => sumT (fun w => if fol a (soN N w) then u (n - (m + 1)) w * Bk N u nW n m (soN N w) else 0) nW
theorem dual_w {N : Nat → Nat → Int} {nW : Nat} {u F B : Nat → Nat} (hs : ∀ w, w < nW → soN N w < 4) : ∀ k, k ≤ nW → sumT (fun s => stepF N u F k s * B s) 4 = sumT (fun a => F a * sumT (fun w => if fol a (soN N w) then u w * B (soN N w) else 0) k) 4 := by
  intro k
  induction k with
  | zero => intro _; rw [sumT_ext 4 (f := fun s => stepF N u F 0 s * B s) (g := fun _ => 0) (fun s _ => Nat.zero_mul (B s)), sumT_ext 4 (f := fun a => F a * sumT (fun w => if fol a (soN N w) then u w * B (soN N w) else 0) 0) (g := fun _ => 0) (fun a _ => Nat.mul_zero (F a))]
  | succ k ih =>
    intro hk
    have e1 : ∀ s, stepF N u F (k + 1) s * B s = stepF N u F k s * B s + (if soN N k = s then u k * gin F s * B s else 0) := fun s => by
      show (stepF N u F k s + (if soN N k = s then u k * gin F s else 0)) * B s = _
      rw [Nat.add_mul]
      split
      · rfl
      · rw [Nat.zero_mul]
    have e2 : ∀ a, F a * sumT (fun w => if fol a (soN N w) then u w * B (soN N w) else 0) (k + 1) = F a * sumT (fun w => if fol a (soN N w) then u w * B (soN N w) else 0) k + (if fol a (soN N k) then F a else 0) * (u k * B (soN N k)) := fun a => by
      show F a * (sumT (fun w => if fol a (soN N w) then u w * B (soN N w) else 0) k + (if fol a (soN N k) then u k * B (soN N k) else 0)) = _
      rw [Nat.mul_add]
      split
      · rfl
      · rw [Nat.mul_zero, Nat.zero_mul]
    rw [sumT_ext 4 (fun s _ => e1 s), sumT_ext 4 (fun a _ => e2 a), sumT_add, sumT_add, ih (by omega), one4e (x := fun s => u k * gin F s * B s) (hs k (by omega)), sumT_mul]
    show _ + u k * gin F (soN N k) * B (soN N k) = _ + gin F (soN N k) * (u k * B (soN N k))
    rw [Nat.mul_comm (u k) (gin F (soN N k)), Nat.mul_assoc]
theorem tot_v {N : Nat → Nat → Int} {nW n : Nat} {u : Nat → Nat → Nat} (hs : ∀ w, w < nW → soN N w < 4) : Fq N u nW n 1 + Fq N u nW n 2 = Bk N u nW n n 3 := by
  have key : ∀ i, i ≤ n → sumT (fun a => Fq N u nW i a * Bk N u nW n (n - i) a) 4 = Bk N u nW n n 3 := by
    intro i
    induction i with
    | zero =>
      intro _
      show 0 + 0 * _ + 0 * _ + 0 * _ + 1 * Bk N u nW n (n - 0) 3 = _
      rw [Nat.zero_mul, Nat.zero_mul, Nat.zero_mul, Nat.one_mul, Nat.sub_zero]
      omega
    | succ i ih =>
      intro hi
      have d := dual_w (N := N) (u := u i) (F := Fq N u nW i) (B := Bk N u nW n (n - (i + 1))) hs nW (Nat.le_refl _)
      rw [← ih (by omega)]
      have e1 : n - i = (n - (i + 1)) + 1 := by omega
      have e2 : n - ((n - (i + 1)) + 1) = i := by omega
      have e3 : ∀ a, Bk N u nW n (n - i) a = sumT (fun w => if fol a (soN N w) then u i w * Bk N u nW n (n - (i + 1)) (soN N w) else 0) nW := fun a => by
        rw [e1]
        show sumT (fun w => if fol a (soN N w) then u (n - ((n - (i + 1)) + 1)) w * Bk N u nW n (n - (i + 1)) (soN N w) else 0) nW = _
        rw [e2]
      rw [sumT_ext 4 (f := fun a => Fq N u nW i a * Bk N u nW n (n - i) a) (fun a _ => by rw [e3 a])]
      exact d
  have h := key n (Nat.le_refl _)
  rw [Nat.sub_self] at h
  rw [← h]
  show _ = 0 + Fq N u nW n 0 * 0 + Fq N u nW n 1 * 1 + Fq N u nW n 2 * 1 + Fq N u nW n 3 * 0
  rw [Nat.mul_zero, Nat.mul_zero, Nat.mul_one, Nat.mul_one]
  omega
theorem Bk_ext {N : Nat → Nat → Int} {nW n : Nat} {u u' : Nat → Nat → Nat} (h : ∀ i w, w < nW → u i w = u' i w) : ∀ m a, Bk N u nW n m a = Bk N u' nW n m a
  | 0, _ => rfl
  | m + 1, a => sumT_ext nW (fun w hw => by
    show (if fol a (soN N w) then u (n - (m + 1)) w * Bk N u nW n m (soN N w) else 0) = (if fol a (soN N w) then u' (n - (m + 1)) w * Bk N u' nW n m (soN N w) else 0)
    rw [h _ w hw, Bk_ext h m])
theorem Bk_z {N : Nat → Nat → Int} {nW n : Nat} {u u' : Nat → Nat → Nat} (h : ∀ i w, w < nW → (u i w = 0 ↔ u' i w = 0)) : ∀ m a, Bk N u nW n m a = 0 ↔ Bk N u' nW n m a = 0
  | 0, _ => Iff.rfl
  | m + 1, a => by
    show sumT _ nW = 0 ↔ sumT _ nW = 0
    rw [sumT_z, sumT_z]
    have key : ∀ w, w < nW → ((if fol a (soN N w) then u (n - (m + 1)) w * Bk N u nW n m (soN N w) else 0) = 0 ↔ (if fol a (soN N w) then u' (n - (m + 1)) w * Bk N u' nW n m (soN N w) else 0) = 0) := fun w hw => by
      have ih := Bk_z (N := N) (n := n) h m (soN N w)
      have h1 := h (n - (m + 1)) w hw
      split
      · rw [Nat.mul_eq_zero, Nat.mul_eq_zero, h1, ih]
      · exact Iff.rfl
    exact ⟨fun q w hw => (key w hw).mp (q w hw), fun q w hw => (key w hw).mpr (q w hw)⟩
theorem nk_0 {N : Nat → Nat → Int} {bo : Option Nat} {a w sn : Nat} (ha : a < 4) (hs : soN N w < 3) (hn : sn < 2) (hf : fol a (soN N w) = true) : nk bo N w (2 * wh a + sn) = 2 * wh (soN N w) + sBy bo N w sn := by
  unfold nk nxW
  have h := wh_s a ha _ hs hf
  rw [show (2 * wh a + sn) / 2 = wh a by omega, show (2 * wh a + sn) % 2 = sn by omega, ← h]
theorem eNd_n (a : Nat) : eNd none (2 * wh a) = if a = 1 ∨ a = 2 then 1 else 0 := by
  unfold eNd wh
  by_cases c : a = 1 ∨ a = 2
  · rw [if_pos c, if_pos ⟨by decide, Or.inl rfl⟩]
  · rw [if_neg c, if_neg (fun q => absurd q.1 (by decide))]
theorem eNd_1 (a b : Nat) : eNd (some b) (2 * wh a + 1) = if a = 1 ∨ a = 2 then 1 else 0 := by
  unfold eNd wh
  by_cases c : a = 1 ∨ a = 2
  · rw [if_pos c, if_pos ⟨by decide, Or.inr (by decide)⟩]
  · rw [if_neg c, if_neg (fun q => absurd q.1 (by decide))]
theorem eNd_0 (a b : Nat) : eNd (some b) (2 * wh a) = 0 := by
  unfold eNd wh
  by_cases c : a = 1 ∨ a = 2
  · rw [if_pos c, if_neg (fun q => q.2.elim (fun z => by cases z) (fun z => absurd z (by decide)))]
  · rw [if_neg c, if_neg (fun q => absurd q.1 (by decide))]
theorem gS_n {N : Nat → Nat → Int} {nW nP n : Nat} {f : Nat → Nat → Nat} (hN : NR N nW nP) : ∀ m a, a < 4 → gS none N f nW n m a (2 * wh a) = Bk N f nW n m a
  | 0, a, _ => eNd_n a
  | m + 1, a, ha => sumT_ext nW (fun w hw => by
    have so3 := (soN_i hN hw).2
    show (if fol a (soN N w) then f (n - (m + 1)) w * gS none N f nW n m (soN N w) (nk none N w (2 * wh a)) else 0) = (if fol a (soN N w) then f (n - (m + 1)) w * Bk N f nW n m (soN N w) else 0)
    cases hf : fol a (soN N w) with
    | false => rfl
    | true =>
      have e := nk_0 (bo := none) (sn := 0) ha so3 (by decide) hf
      rw [show 2 * wh a + 0 = 2 * wh a from rfl, show sBy none N w 0 = 0 from rfl, Nat.add_zero] at e
      rw [e, gS_n hN m (soN N w) (by omega)])
theorem gS_1 {N : Nat → Nat → Int} {nW nP n b : Nat} {f : Nat → Nat → Nat} (hN : NR N nW nP) : ∀ m a, a < 4 → gS (some b) N f nW n m a (2 * wh a + 1) = Bk N f nW n m a
  | 0, a, _ => eNd_1 a b
  | m + 1, a, ha => sumT_ext nW (fun w hw => by
    have so3 := (soN_i hN hw).2
    show (if fol a (soN N w) then f (n - (m + 1)) w * gS (some b) N f nW n m (soN N w) (nk (some b) N w (2 * wh a + 1)) else 0) = (if fol a (soN N w) then f (n - (m + 1)) w * Bk N f nW n m (soN N w) else 0)
    cases hf : fol a (soN N w) with
    | false => rfl
    | true =>
      have e := nk_0 (bo := some b) (sn := 1) ha so3 (by decide) hf
      have e2 : sBy (some b) N w 1 = 1 := by
        show (if (seN N w).testBit b then 1 else 1) = 1
        split <;> rfl
      rw [e2] at e
      rw [e, gS_1 hN m (soN N w) (by omega)])
def exF (N : Nat → Nat → Int) (f : Nat → Nat → Nat) (b i w : Nat) : Nat := if (seN N w).testBit b then 0 else f i w
theorem gS_0 {N : Nat → Nat → Int} {nW nP n b : Nat} {f : Nat → Nat → Nat} (hN : NR N nW nP) : ∀ m a, a < 4 → gS (some b) N f nW n m a (2 * wh a) + Bk N (exF N f b) nW n m a = Bk N f nW n m a
  | 0, a, _ => by
    show eNd (some b) (2 * wh a) + (if a = 1 ∨ a = 2 then 1 else 0) = (if a = 1 ∨ a = 2 then 1 else 0)
    rw [eNd_0, Nat.zero_add]
  | m + 1, a, ha => by
    show sumT _ nW + sumT _ nW = sumT _ nW
    rw [← sumT_add]
    refine sumT_ext nW (fun w hw => ?_)
    have so3 := (soN_i hN hw).2
    show (if fol a (soN N w) then f (n - (m + 1)) w * gS (some b) N f nW n m (soN N w) (nk (some b) N w (2 * wh a)) else 0) + (if fol a (soN N w) then exF N f b (n - (m + 1)) w * Bk N (exF N f b) nW n m (soN N w) else 0) = (if fol a (soN N w) then f (n - (m + 1)) w * Bk N f nW n m (soN N w) else 0)
    cases hf : fol a (soN N w) with
    | false => rfl
    | true =>
      have e := nk_0 (bo := some b) (sn := 0) ha so3 (by decide) hf
      rw [show 2 * wh a + 0 = 2 * wh a from rfl] at e
      have ih := gS_0 (b := b) (n := n) (f := f) hN m (soN N w) (by omega)
      rw [if_pos rfl, if_pos rfl, if_pos rfl, e]
      unfold exF
      cases hb : (seN N w).testBit b with
      | false =>
        have e2 : sBy (some b) N w 0 = 0 := by
          show (if (seN N w).testBit b then 1 else 0) = 0
          rw [hb]
          rfl
        rw [e2, Nat.add_zero, if_neg (show ¬ (false = true) by decide), ← Nat.mul_add]
        rw [← ih]
        rfl
      | true =>
        have e2 : sBy (some b) N w 0 = 1 := by
          show (if (seN N w).testBit b then 1 else 0) = 1
          rw [hb]
          rfl
        rw [e2, if_pos (show true = true from rfl), Nat.zero_mul, Nat.add_zero, gS_1 hN m (soN N w) (by omega)]
theorem tb_and : ∀ s, s < 64 → ∀ b, b < 6 → ((s &&& (1 * 2 ^ b) = 0) ↔ s.testBit b = false) := by decide +kernel
theorem uW_0 {N : Nat → Nat → Int} {V : List Nat} {hm : Bool} : uW N V 0 hm = if hm then wt1 N V else wtN N V := by
  funext i w
  unfold uW
  rw [Nat.and_zero, if_pos rfl]
  cases hm <;> rfl
theorem uW_b {N : Nat → Nat → Int} {nW nP b i w : Nat} {V : List Nat} {hm : Bool} (hN : NR N nW nP) (hb : b < 6) (hw : w < nW) : uW N V (1 * 2 ^ b) hm i w = exF N (if hm then wt1 N V else wtN N V) b i w := by
  have t := tb_and (seN N w) (seN_i hN hw).2 b hb
  unfold uW exF
  cases hx : (seN N w).testBit b with
  | false =>
    rw [if_pos (t.mpr hx), if_neg (show ¬ (false = true) by decide)]
    cases hm <;> rfl
  | true =>
    rw [if_neg (fun q => by rw [t.mp q] at hx; cases hx), if_pos (show true = true from rfl)]
theorem Inv_RH {b nW nP nB : Nat} {law : Option (List Lin)} {Sc Sm Sc' : Mem} (h : Inv b nW nP nB law Sc Sm) (k : KE Sc Sc') (hn : RH Sc') : Inv b nW nP nB law Sc' Sm := by
  obtain ⟨g0, g1, g2, g3, g4, g5, g6, g7, g8, g9⟩ := h
  obtain ⟨k1, k2⟩ := k
  have e13 := k1 13 (by omega)
  have e53 := k1 53 (by omega)
  exact ⟨Shp_of g0 (k2 2 (by decide)) (k2 23 (by decide)), RO_of g1 (fun c h => k1 c (by omega)) (fun _ _ => rfl) rfl rfl, RC_of g2 (fun c h => k1 c (by omega)) (fun _ _ => rfl) rfl rfl, RT_of g3 (by rw [e13]) (k1 14 (by omega)) rfl rfl, RL_of g4 (by rw [e13]) (k1 15 (by omega)) (k1 16 (by omega)) (k2 13 (by decide)) rfl rfl rfl rfl rfl rfl, RS_of g5 (fun c h => k1 c (by omega)) (fun _ _ => rfl), RB_of g6 (by rw [e53]) (by rw [e53]) (k1 54 (by omega)) (k1 55 (by omega)) rfl rfl rfl rfl, RD_of g7 (fun c h => k1 c (by omega)) (fun _ _ => rfl) rfl rfl rfl, RY_of g8 (Nat.le_refl b) (fun c h => k1 c (by omega)) (k2 34 (by decide)), hn⟩
theorem Sim.hear {b b' nW nP nB : Nat} {law : Option (List Lin)} {Sc Sm S S' T : Mem} {r : Int} (h : Inv b nW nP nB law Sc Sm) (hc : KT Sc S) (he : KE S S') (hr : RH S') (hm : KM Sm T) (hb : b ≤ b') : Sim b' (some (r, S')) (some (r, T)) := ⟨r, S', T, rfl, rfl, nW, nP, nB, law, Inv_up (Inv_RH (Inv_keep h (KC_tu hc (KU.rf S)) hm) he hr) hb⟩
theorem RH_t {S S' : Mem} (h : RH S) (k : KT S S') : RH S' := RH_of h (k.2 38) (k.1 33 (by decide) (by decide))
theorem RH_inv {b nW nP nB : Nat} {law : Option (List Lin)} {S T : Mem} (h : Inv b nW nP nB law S T) : RH S := h.2.2.2.2.2.2.2.2.2
theorem m_came {b : Nat} {Sc Sm : Mem} (h : IV b Sc Sm) (x : Int) : Sim (b + 100) (g_X9_came x Sc) (g_X10_came x Sm) := by
  obtain ⟨nW, nP, nB, law, h⟩ := h
  have same : ∀ r, Sim (b + 100) (some (r, Sc)) (some (r, Sm)) := fun r => Sim.same ⟨nW, nP, nB, law, h⟩ (by omega)
  obtain ⟨hN, hO, hM, hL, hLm⟩ := ask_of h
  unfold g_X9_came g_X10_came
  rcases open_v h x with ⟨r, r0, r1, ⟨r2, r3⟩ | ⟨r2, r3, r4⟩⟩ | ⟨ws, S1, T1, s1, s2, s3, s4, s5, s6, s7, s8⟩
  · rw [r2, bS, i00, r1, bd2S, if_neg (show ¬ r = 0 by omega)]
    exact same _
  · rw [r2, bS, i10, r1, bd2S, if_neg (show ¬ r = 0 by omega), r4, bS, if_neg (show ¬ 0 ≤ r by omega)]
    exact same _
  · have h6 := len6 ws
    obtain ⟨T2, t1, t2, t3⟩ := lay6_m s6 s7 s8
    obtain ⟨T3, u1, u2, u3, u4⟩ := find_m (bo := none) hN (hM.w t2) h6 t3 (fun b h => by cases h)
    obtain ⟨S2, v1, v2, v3⟩ := sum_v (wo := 0) (hm := true) hN (by decide) (hO.t s2) s3 (RH_t (RH_inv h) s2)
    have c := (u4 0 3 0 (Nat.zero_le _) (by decide) (by decide)).1
    rw [Nat.sub_zero] at c
    rw [show ((0 : Nat) : Int) = 0 from rfl, bT, uW_0, if_pos rfl, tot_v (fun w hw => by have := (soN_i hN hw).2; omega), ← gS_n hN _ 3 (by decide)] at v1
    rw [show biI none = -1 from rfl] at u1
    rw [s4, bS, i10, s1, bd2S, i00, s5, bS, i0l, v1, bd2S, t1, bS, u1, bS, show g_X10_errAt 0 3 0 0 = ((12 : Nat) : Int) by decide +kernel, ldk_c (by decide), bS, show gI T3 84 12 = _ from c]
    exact Sim.hear h s2 v2 v3 (KM_wh t2 u2) (by omega)
/-- the reference's odds with a bit, or all -/
theorem ow_m {N : Nat → Nat → Int} {nW nP : Nat} {bo : Option Nat} {V : List Nat} {T : Mem} (hN : NR N nW nP) (hM : OM N nW nP T) (h6 : V.length ≤ 6) (hT : TW nW T V) (hbo : ∀ b, bo = some b → b < 6) : ∃ T', g_X10_oddsWith (biI bo) T = some (((gS bo N (wtN N V) nW V.length V.length 3 0 : Nat) : Int), T') ∧ KH T T' := by
  obtain ⟨T3, u1, u2, u3, u4⟩ := find_m hN hM h6 hT hbo
  have c := (u4 0 3 0 (Nat.zero_le _) (by decide) (by decide)).2.1
  rw [Nat.sub_zero] at c
  unfold g_X10_oddsWith
  rw [u1, bS, show g_X10_errAt 0 3 0 0 = ((12 : Nat) : Int) by decide +kernel, ldk_c (by decide), bS, show gI T3 85 12 = _ from c]
  exact ⟨T3, rfl, u2⟩
theorem Bk_le {N : Nat → Nat → Int} {nW nP n a : Nat} {f : Nat → Nat → Nat} (hN : NR N nW nP) (hf : ∀ i w, f i w ≤ 12) (h6 : n ≤ 6) (ha : a < 4) : Bk N f nW n n a ≤ 8916100448256 := by
  rw [← gS_n hN n a ha]
  exact Nat.le_trans (gS_le hN.1.1 hf n a _) (Nat.le_trans (Nat.pow_le_pow_right (by decide) h6) (by decide))
theorem m_meant {b : Nat} {Sc Sm : Mem} (h : IV b Sc Sm) (x y z : Int) : Sim (b + 100) (g_X9_meant x y z Sc) (g_X10_meant x y z Sm) := by
  obtain ⟨nW, nP, nB, law, h⟩ := h
  have same : ∀ r, Sim (b + 100) (some (r, Sc)) (some (r, Sm)) := fun r => Sim.same ⟨nW, nP, nB, law, h⟩ (by omega)
  obtain ⟨hN, hO, hM, hL, hLm⟩ := ask_of h
  unfold g_X9_meant g_X10_meant
  rw [btw, btw, inn, inn]
  by_cases c1 : 0 ≤ y ∧ y ≤ 5
  · by_cases c2 : 0 ≤ z ∧ z ≤ 1
    · rw [if_pos c1, if_pos c2, i10, i10, i10, i10]
      rcases open_v h x with ⟨r, r0, r1, ⟨r2, r3⟩ | ⟨r2, r3, r4⟩⟩ | ⟨ws, S1, T1, s1, s2, s3, s4, s5, s6, s7, s8⟩
      · rw [r2, bS, i00, r1, bd2S, if_neg (show ¬ r = 0 by omega)]
        exact same _
      · rw [r2, bS, i10, r1, bd2S, if_neg (show ¬ r = 0 by omega), r4, bS, if_neg (show ¬ 0 ≤ r by omega)]
        exact same _
      · obtain ⟨bt, rfl⟩ := nat_of c1.1
        have hb6 : bt < 6 := by omega
        have h6 := len6 ws
        obtain ⟨T2, t1, t2, t3⟩ := lay6_m s6 s7 s8
        obtain ⟨T3, u1, u2⟩ := ow_m (bo := some bt) hN (hM.w t2) h6 t3 (fun b h => by cases h; exact hb6)
        obtain ⟨T4, w1, w2⟩ := ow_m (bo := none) hN ((hM.w t2).h u2) h6 (t3.h u2) (fun b h => by cases h)
        obtain ⟨S2, v1, v2, v3⟩ := sum_v (wo := 0) (hm := false) hN (by decide) (hO.t s2) s3 (RH_t (RH_inv h) s2)
        have p2 : 1 * 2 ^ bt < 64 := by
          rw [Nat.one_mul]
          exact Nat.pow_lt_pow_right (by decide) hb6
        obtain ⟨S3, x1, x2, x3⟩ := sum_v (wo := 1 * 2 ^ bt) (hm := false) hN p2 ((hO.t s2).e v2) (s3.e v2) v3
        have hso : ∀ w, w < nW → soN (nu Sc) w < 4 := fun w hw => by have := (soN_i hN hw).2; omega
        have esh : o_shl 1 (bt : Int) = ((1 * 2 ^ bt : Nat) : Int) := by
          rw [show (1 : Int) = ((1 : Nat) : Int) from rfl, oshl (by omega) (by omega)]
        rw [show ((0 : Nat) : Int) = 0 from rfl, bF, uW_0, if_neg (show ¬ (false = true) by decide), tot_v hso] at v1
        rw [bF, tot_v hso, Bk_ext (fun i w hw => uW_b (hm := false) hN hb6 hw), if_neg (show ¬ (false = true) by decide)] at x1
        have e0 := gS_0 (b := bt) (n := (ws.take 6).length) (f := wtN (nu Sc) (ws.take 6)) hN (ws.take 6).length 3 (by decide)
        have en := gS_n (n := (ws.take 6).length) (f := wtN (nu Sc) (ws.take 6)) hN (ws.take 6).length 3 (by decide)
        rw [show 2 * wh 3 = 0 from rfl] at e0 en
        have bl := Bk_le (n := (ws.take 6).length) (a := 3) (f := wtN (nu Sc) (ws.take 6)) hN (fun i w => wtN_le hN) h6 (by decide)
        rw [en] at w1
        rw [show biI none = -1 from rfl] at w1
        rw [show biI (some bt) = (bt : Int) from rfl] at u1
        generalize Bk (nu Sc) (wtN (nu Sc) (ws.take 6)) nW (ws.take 6).length (ws.take 6).length 3 = A at *
        generalize Bk (nu Sc) (exF (nu Sc) (wtN (nu Sc) (ws.take 6)) bt) nW (ws.take 6).length (ws.take 6).length 3 = X at *
        generalize gS (some bt) (nu Sc) (wtN (nu Sc) (ws.take 6)) nW (ws.take 6).length (ws.take 6).length 3 0 = Y at *
        obtain ⟨r, l1, l2⟩ := low_v (x := Y) (y := A) (p := z) (by omega) (by omega) (by omega)
        have ew : w64 ((A : Int) - (X : Int)) = (Y : Int) := by
          rw [w64s (by omega) (by omega)]
          omega
        rw [s4, bS, i10, s1, bd2S, i00, s5, bS, i0l, v1, bd2S, esh, x1, bd2S, ew, l1, bS, t1, bS, u1, bd2S, w1, bd2S, l2, bS]
        exact Sim.hear h s2 (v2.tr x2) x3 (KM_wh t2 (u2.tr w2)) (by omega)
    · rw [if_pos c1, if_neg c2, i10, i10, i00, i00, shelf_v, bS]
      split <;> exact same _
  · rw [if_neg c1, i00, i00, shelf_v, bS]
    split <;> exact same _
theorem cert_l {N : Nat → Nat → Int} {nW nP : Nat} {ws : List Nat} (hN : NR N nW nP) (hA : Bk N (wtN N (ws.take 6)) nW (ws.take 6).length (ws.take 6).length 3 ≠ 0) : ∀ (r bt fu bits : Nat) (S T : Mem), bt + r = 6 → r < fu → bits < 64 → OC N nW nP S → TG nW S ws → RH S → OM N nW nP T → TW nW T (ws.take 6) → ∃ (v : Int) (S' T' : Mem), g_X3_sure_L17 fu (bits : Int) (bt : Int) S = some (v, S') ∧ g_X10_certain_L39 ((Bk N (wtN N (ws.take 6)) nW (ws.take 6).length (ws.take 6).length 3 : Nat) : Int) fu (bits : Int) (bt : Int) T = some (v, T') ∧ KE S S' ∧ RH S' ∧ KH T T' := by
  have h6 := len6 ws
  intro r
  induction r with
  | zero =>
    intro bt fu bits S T hb hf _ _ _ hR _ _
    obtain ⟨fu, rfl⟩ : ∃ k, fu = k + 1 := ⟨fu - 1, by omega⟩
    have hb : bt = 6 := hb
    rw [g_X3_sure_L17.eq_2, g_X10_certain_L39.eq_2, if_pos (show (6 : Int) ≤ (bt : Int) by omega), if_pos (show (6 : Int) ≤ (bt : Int) by omega)]
    exact ⟨_, S, T, rfl, rfl, KE.rf S, hR, KH.rf T⟩
  | succ r ih =>
    intro bt fu bits S T hb hf hbits hO hT hR hM hW
    obtain ⟨fu, rfl⟩ : ∃ k, fu = k + 1 := ⟨fu - 1, by omega⟩
    have hb6 : bt < 6 := by omega
    have p2 : 1 * 2 ^ bt < 64 := by
      rw [Nat.one_mul]
      exact Nat.pow_lt_pow_right (by decide) hb6
    have esh : o_shl 1 (bt : Int) = ((1 * 2 ^ bt : Nat) : Int) := by
      rw [show (1 : Int) = ((1 : Nat) : Int) from rfl, oshl (by omega) (by omega)]
    have hso : ∀ w, w < nW → soN N w < 4 := fun w hw => by have := (soN_i hN hw).2; omega
    obtain ⟨S1, x1, x2, x3⟩ := sum_v (wo := 1 * 2 ^ bt) (hm := true) hN p2 hO hT hR
    obtain ⟨T1, u1, u2⟩ := ow_m (bo := some bt) hN hM h6 hW (fun b h => by cases h; exact hb6)
    rw [bT, tot_v hso, Bk_ext (fun i w hw => uW_b (hm := true) hN hb6 hw), if_pos (show true = true from rfl)] at x1
    rw [show biI (some bt) = (bt : Int) from rfl] at u1
    have e0 := gS_0 (b := bt) (n := (ws.take 6).length) (f := wtN N (ws.take 6)) hN (ws.take 6).length 3 (by decide)
    rw [show 2 * wh 3 = 0 from rfl] at e0
    have ez := Bk_z (N := N) (nW := nW) (n := (ws.take 6).length) (u := exF N (wt1 N (ws.take 6)) bt) (u' := exF N (wtN N (ws.take 6)) bt) (fun i w _ => by
      unfold exF wt1
      split
      · exact Iff.rfl
      · split
        · next q => exact ⟨fun _ => q, fun _ => rfl⟩
        · next q => exact ⟨fun z => absurd z (by decide), fun z => absurd z q⟩) (ws.take 6).length 3
    generalize Bk N (exF N (wt1 N (ws.take 6)) bt) nW (ws.take 6).length (ws.take 6).length 3 = X1 at *
    generalize Bk N (exF N (wtN N (ws.take 6)) bt) nW (ws.take 6).length (ws.take 6).length 3 = X at *
    generalize gS (some bt) N (wtN N (ws.take 6)) nW (ws.take 6).length (ws.take 6).length 3 0 = Y at *
    generalize Bk N (wtN N (ws.take 6)) nW (ws.take 6).length (ws.take 6).length 3 = A at *
    have eo : o_or (bits : Int) ((1 * 2 ^ bt : Nat) : Int) = ((bits ||| 1 * 2 ^ bt : Nat) : Int) := oor (by omega) (by omega)
    have eo0 : o_or (bits : Int) 0 = (bits : Int) := by
      rw [show (0 : Int) = ((0 : Nat) : Int) from rfl, oor (by omega) (by decide), Nat.or_zero]
    have lt : bits ||| 1 * 2 ^ bt < 64 := or_lt 6 hbits p2
    rw [g_X3_sure_L17.eq_2, g_X10_certain_L39.eq_2, if_neg (show ¬ (6 : Int) ≤ (bt : Int) by omega), if_neg (show ¬ (6 : Int) ≤ (bt : Int) by omega), lcm_p, if_neg hA, if_neg (show ¬ (1 : Int) ≤ 0 by decide), esh, x1, bd2S, u1, bd2S, lcm_p, lcm_n, w32_a bt (by omega), eo, eo0]
    by_cases c : X = 0
    · rw [if_pos (ez.mpr c), i00, if_neg (show ¬ Y < A by omega), if_pos (show Y = A by omega), i00]
      obtain ⟨v, S', T', a1, a2, a3, a4, a5⟩ := ih (bt + 1) fu (bits ||| 1 * 2 ^ bt) S1 T1 (by omega) (by omega) lt (hO.e x2) (hT.e x2) x3 (hM.h u2) (hW.h u2)
      exact ⟨v, S', T', a1, a2, x2.tr a3, a4, u2.tr a5⟩
    · rw [if_neg (fun q => c (ez.mp q)), i10, if_pos (show Y < A by omega), if_neg (show ¬ (-1 : Int) = 0 by decide)]
      obtain ⟨v, S', T', a1, a2, a3, a4, a5⟩ := ih (bt + 1) fu bits S1 T1 (by omega) (by omega) hbits (hO.e x2) (hT.e x2) x3 (hM.h u2) (hW.h u2)
      exact ⟨v, S', T', a1, a2, x2.tr a3, a4, u2.tr a5⟩
theorem cert_0 {T : Mem} : ∀ (r bt fu : Nat) (bits : Int), bt + r = 6 → r < fu → g_X10_certain_L39 0 fu bits (bt : Int) T = some (bits, T) := by
  intro r
  induction r with
  | zero =>
    intro bt fu bits hb hf
    obtain ⟨fu, rfl⟩ : ∃ k, fu = k + 1 := ⟨fu - 1, by omega⟩
    rw [g_X10_certain_L39.eq_2, if_pos (by omega)]
  | succ r ih =>
    intro bt fu bits hb hf
    obtain ⟨fu, rfl⟩ : ∃ k, fu = k + 1 := ⟨fu - 1, by omega⟩
    rw [g_X10_certain_L39.eq_2, if_neg (show ¬ (6 : Int) ≤ (bt : Int) by omega), show lcm 0 0 = 0 from rfl, i0l, w32_a bt (by omega)]
    exact ih (bt + 1) fu bits (by omega) (by omega)
theorem m_certain {b : Nat} {Sc Sm : Mem} (h : IV b Sc Sm) (x : Int) : Sim (b + 100) (g_X9_certain x Sc) (g_X10_certain x Sm) := by
  obtain ⟨nW, nP, nB, law, h⟩ := h
  have same : ∀ r, Sim (b + 100) (some (r, Sc)) (some (r, Sm)) := fun r => Sim.same ⟨nW, nP, nB, law, h⟩ (by omega)
  obtain ⟨hN, hO, hM, hL, hLm⟩ := ask_of h
  unfold g_X9_certain g_X10_certain
  rcases open_v h x with ⟨r, r0, r1, ⟨r2, r3⟩ | ⟨r2, r3, r4⟩⟩ | ⟨ws, S1, T1, s1, s2, s3, s4, s5, s6, s7, s8⟩
  · rw [r2, bS, i00, r1, bd2S, if_neg (show ¬ r = 0 by omega), r3]
    exact same _
  · rw [r2, bS, i10, r1, bd2S, if_neg (show ¬ r = 0 by omega), r4, bS, if_neg (show ¬ 0 ≤ r by omega)]
    exact same _
  · have h6 := len6 ws
    obtain ⟨T2, t1, t2, t3⟩ := lay6_m s6 s7 s8
    obtain ⟨T3, u1, u2⟩ := ow_m (bo := none) hN (hM.w t2) h6 t3 (fun b h => by cases h)
    obtain ⟨S2, v1, v2, v3⟩ := sum_v (wo := 0) (hm := true) hN (by decide) (hO.t s2) s3 (RH_t (RH_inv h) s2)
    have hso : ∀ w, w < nW → soN (nu Sc) w < 4 := fun w hw => by have := (soN_i hN hw).2; omega
    rw [show ((0 : Nat) : Int) = 0 from rfl, bT, uW_0, if_pos rfl, tot_v hso] at v1
    have en := gS_n (n := (ws.take 6).length) (f := wtN (nu Sc) (ws.take 6)) hN (ws.take 6).length 3 (by decide)
    rw [show 2 * wh 3 = 0 from rfl] at en
    rw [en] at u1
    rw [show biI none = -1 from rfl] at u1
    have ez := Bk_z (N := nu Sc) (nW := nW) (n := (ws.take 6).length) (u := wt1 (nu Sc) (ws.take 6)) (u' := wtN (nu Sc) (ws.take 6)) (fun i w _ => by
      unfold wt1
      split
      · next q => exact ⟨fun _ => q, fun _ => rfl⟩
      · next q => exact ⟨fun z => absurd z (by decide), fun z => absurd z q⟩) (ws.take 6).length 3
    unfold g_X3_sure
    rw [s4, bS, i10, s1, bd2S, i00, s5, bS, i0l, v1, bd2S, t1, bS, u1, bd2S, lcm_p]
    by_cases c : Bk (nu Sc) (wtN (nu Sc) (ws.take 6)) nW (ws.take 6).length (ws.take 6).length 3 = 0
    · have k0 := cert_0 (T := T3) 6 0 FU 0 rfl (by unfold FU; decide)
      rw [show ((0 : Nat) : Int) = 0 from rfl] at k0
      rw [if_pos (ez.mpr c), i00, bd2S, c, show ((0 : Nat) : Int) = 0 from rfl, k0]
      exact Sim.hear h s2 v2 v3 (KM_wh t2 u2) (by omega)
    · obtain ⟨v, S3, T4, a1, a2, a3, a4, a5⟩ := cert_l hN c 6 0 FU 0 S2 T3 rfl (by unfold FU; decide) (by decide) ((hO.t s2).e v2) (s3.e v2) v3 ((hM.w t2).h u2) (t3.h u2)
      rw [show ((0 : Nat) : Int) = 0 from rfl] at a1 a2
      rw [if_neg (fun q => c (ez.mp q)), i10, a1, bd2S, a2]
      exact Sim.hear h s2 (v2.tr a3) a4 (KM_wh t2 (u2.tr a5)) (by omega)
