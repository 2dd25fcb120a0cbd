/-! THE LAW'S LOOP: both sides answer alike, call by call -/
def M00 : Mem := (fun _ _ => 0, fun _ _ => none)
def Mfin : Mem := m_X10_init (zM (m_X9_init (zM M00 0)) 56)
theorem lcm_0 (a : Int) : lcm a a = 0 := by
  unfold lcm
  rw [if_neg (show ¬ a > a by omega), if_pos rfl]
theorem IV_up {b b' : Nat} {Sc Sm : Mem} (h : IV b Sc Sm) (hb : b ≤ b') : IV b' Sc Sm := by
  obtain ⟨nW, nP, nB, law, h⟩ := h
  exact ⟨nW, nP, nB, law, Inv_up h hb⟩
theorem lc_0 {b L : Nat} {Sc Sm : Mem} {xs : Nat → Int} {rec : Int → Mem → Mem → Option Unit} {v x1 x2 x3 x4 x5 : Int} (h : IV b Sc Sm) (hb : b < 800000) (R : ∀ Sc' Sm', IV (b + 100) Sc' Sm' → rec (w32 (v + 6)) Sc' Sm' = some ()) (s1 : scr L xs (w32 (v + 1)) = some x1) (s2 : scr L xs (w32 (v + 2)) = some x2) (s3 : scr L xs (w32 (v + 3)) = some x3) (s4 : scr L xs (w32 (v + 4)) = some x4) (s5 : scr L xs (w32 (v + 5)) = some x5) (r2 : r32 x2) (r5 : r32 x5) : g_law_c0 L xs rec v Sc Sm = some () := by
  unfold g_law_c0
  have hb9 : b < 900000 := by omega
  obtain ⟨r, Sc', Sm', e1, e2, e3⟩ := m_word h hb9 x1 x2
  rw [s1, s2]
  repeat rw [bS]
  rw [e1, bd2S]
  repeat rw [bS]
  rw [e2, bd2S, if_pos rfl]
  exact R _ _ e3
theorem lc_1 {b L : Nat} {Sc Sm : Mem} {xs : Nat → Int} {rec : Int → Mem → Mem → Option Unit} {v x1 x2 x3 x4 x5 : Int} (h : IV b Sc Sm) (hb : b < 800000) (R : ∀ Sc' Sm', IV (b + 100) Sc' Sm' → rec (w32 (v + 6)) Sc' Sm' = some ()) (s1 : scr L xs (w32 (v + 1)) = some x1) (s2 : scr L xs (w32 (v + 2)) = some x2) (s3 : scr L xs (w32 (v + 3)) = some x3) (s4 : scr L xs (w32 (v + 4)) = some x4) (s5 : scr L xs (w32 (v + 5)) = some x5) (r2 : r32 x2) (r5 : r32 x5) : g_law_c1 L xs rec v Sc Sm = some () := by
  unfold g_law_c1
  obtain ⟨r, Sc', Sm', e1, e2, e3⟩ := m_words h hb x1 x2 x3 r2
  rw [s1, s2, s3]
  repeat rw [bS]
  rw [e1, bd2S]
  repeat rw [bS]
  rw [e2, bd2S, if_pos rfl]
  exact R _ _ e3
theorem lc_2 {b L : Nat} {Sc Sm : Mem} {xs : Nat → Int} {rec : Int → Mem → Mem → Option Unit} {v x1 x2 x3 x4 x5 : Int} (h : IV b Sc Sm) (hb : b < 800000) (R : ∀ Sc' Sm', IV (b + 100) Sc' Sm' → rec (w32 (v + 6)) Sc' Sm' = some ()) (s1 : scr L xs (w32 (v + 1)) = some x1) (s2 : scr L xs (w32 (v + 2)) = some x2) (s3 : scr L xs (w32 (v + 3)) = some x3) (s4 : scr L xs (w32 (v + 4)) = some x4) (s5 : scr L xs (w32 (v + 5)) = some x5) (r2 : r32 x2) (r5 : r32 x5) : g_law_c2 L xs rec v Sc Sm = some () := by
  unfold g_law_c2
  have hb9 : b < 900000 := by omega
  obtain ⟨r, Sc', Sm', e1, e2, e3⟩ := m_person h hb9 x1
  rw [s1]
  repeat rw [bS]
  rw [e1, bd2S]
  repeat rw [bS]
  rw [e2, bd2S, if_pos rfl]
  exact R _ _ e3
theorem lc_3 {b L : Nat} {Sc Sm : Mem} {xs : Nat → Int} {rec : Int → Mem → Mem → Option Unit} {v x1 x2 x3 x4 x5 : Int} (h : IV b Sc Sm) (hb : b < 800000) (R : ∀ Sc' Sm', IV (b + 100) Sc' Sm' → rec (w32 (v + 6)) Sc' Sm' = some ()) (s1 : scr L xs (w32 (v + 1)) = some x1) (s2 : scr L xs (w32 (v + 2)) = some x2) (s3 : scr L xs (w32 (v + 3)) = some x3) (s4 : scr L xs (w32 (v + 4)) = some x4) (s5 : scr L xs (w32 (v + 5)) = some x5) (r2 : r32 x2) (r5 : r32 x5) : g_law_c3 L xs rec v Sc Sm = some () := by
  unfold g_law_c3
  have hb9 : b < 900000 := by omega
  obtain ⟨r, Sc', Sm', e1, e2, e3⟩ := m_mend h hb9 x1 x2 x3
  rw [s1, s2, s3]
  repeat rw [bS]
  rw [e1, bd2S]
  repeat rw [bS]
  rw [e2, bd2S, if_pos rfl]
  exact R _ _ e3
theorem lc_4 {b L : Nat} {Sc Sm : Mem} {xs : Nat → Int} {rec : Int → Mem → Mem → Option Unit} {v x1 x2 x3 x4 x5 : Int} (h : IV b Sc Sm) (hb : b < 800000) (R : ∀ Sc' Sm', IV (b + 100) Sc' Sm' → rec (w32 (v + 6)) Sc' Sm' = some ()) (s1 : scr L xs (w32 (v + 1)) = some x1) (s2 : scr L xs (w32 (v + 2)) = some x2) (s3 : scr L xs (w32 (v + 3)) = some x3) (s4 : scr L xs (w32 (v + 4)) = some x4) (s5 : scr L xs (w32 (v + 5)) = some x5) (r2 : r32 x2) (r5 : r32 x5) : g_law_c4 L xs rec v Sc Sm = some () := by
  unfold g_law_c4
  obtain ⟨r, e1, e2⟩ := m_of h x1 x2
  rw [s1, s2]
  repeat rw [bS]
  rw [e1]
  repeat rw [bS]
  rw [e2, bS, if_pos rfl]
  exact R _ _ (IV_up h (Nat.le_add_right _ _))
theorem lc_5 {b L : Nat} {Sc Sm : Mem} {xs : Nat → Int} {rec : Int → Mem → Mem → Option Unit} {v x1 x2 x3 x4 x5 : Int} (h : IV b Sc Sm) (hb : b < 800000) (R : ∀ Sc' Sm', IV (b + 100) Sc' Sm' → rec (w32 (v + 6)) Sc' Sm' = some ()) (s1 : scr L xs (w32 (v + 1)) = some x1) (s2 : scr L xs (w32 (v + 2)) = some x2) (s3 : scr L xs (w32 (v + 3)) = some x3) (s4 : scr L xs (w32 (v + 4)) = some x4) (s5 : scr L xs (w32 (v + 5)) = some x5) (r2 : r32 x2) (r5 : r32 x5) : g_law_c5 L xs rec v Sc Sm = some () := by
  unfold g_law_c5
  have hb9 : b < 900000 := by omega
  obtain ⟨r, Sc', Sm', e1, e2, e3⟩ := m_feed h hb9 x1
  rw [s1]
  repeat rw [bS]
  rw [e1, bd2S]
  repeat rw [bS]
  rw [e2, bd2S, if_pos rfl]
  exact R _ _ e3
theorem lc_6 {b L : Nat} {Sc Sm : Mem} {xs : Nat → Int} {rec : Int → Mem → Mem → Option Unit} {v x1 x2 x3 x4 x5 : Int} (h : IV b Sc Sm) (hb : b < 800000) (R : ∀ Sc' Sm', IV (b + 100) Sc' Sm' → rec (w32 (v + 6)) Sc' Sm' = some ()) (s1 : scr L xs (w32 (v + 1)) = some x1) (s2 : scr L xs (w32 (v + 2)) = some x2) (s3 : scr L xs (w32 (v + 3)) = some x3) (s4 : scr L xs (w32 (v + 4)) = some x4) (s5 : scr L xs (w32 (v + 5)) = some x5) (r2 : r32 x2) (r5 : r32 x5) : g_law_c6 L xs rec v Sc Sm = some () := by
  unfold g_law_c6
  have hb9 : b < 900000 := by omega
  obtain ⟨r, Sc', Sm', e1, e2, e3⟩ := m_law h hb9
  rw [e1, bd2S]
  rw [e2, bd2S, if_pos rfl]
  exact R _ _ e3
theorem lc_7 {b L : Nat} {Sc Sm : Mem} {xs : Nat → Int} {rec : Int → Mem → Mem → Option Unit} {v x1 x2 x3 x4 x5 : Int} (h : IV b Sc Sm) (hb : b < 800000) (R : ∀ Sc' Sm', IV (b + 100) Sc' Sm' → rec (w32 (v + 6)) Sc' Sm' = some ()) (s1 : scr L xs (w32 (v + 1)) = some x1) (s2 : scr L xs (w32 (v + 2)) = some x2) (s3 : scr L xs (w32 (v + 3)) = some x3) (s4 : scr L xs (w32 (v + 4)) = some x4) (s5 : scr L xs (w32 (v + 5)) = some x5) (r2 : r32 x2) (r5 : r32 x5) : g_law_c7 L xs rec v Sc Sm = some () := by
  unfold g_law_c7
  obtain ⟨r, Sc', Sm', e1, e2, e3⟩ := m_price h x1 x2 r2
  rw [s1, s2]
  repeat rw [bS]
  rw [e1, bd2S]
  repeat rw [bS]
  rw [e2, bd2S, if_pos rfl]
  exact R _ _ e3
theorem lc_8 {b L : Nat} {Sc Sm : Mem} {xs : Nat → Int} {rec : Int → Mem → Mem → Option Unit} {v x1 x2 x3 x4 x5 : Int} (h : IV b Sc Sm) (hb : b < 800000) (R : ∀ Sc' Sm', IV (b + 100) Sc' Sm' → rec (w32 (v + 6)) Sc' Sm' = some ()) (s1 : scr L xs (w32 (v + 1)) = some x1) (s2 : scr L xs (w32 (v + 2)) = some x2) (s3 : scr L xs (w32 (v + 3)) = some x3) (s4 : scr L xs (w32 (v + 4)) = some x4) (s5 : scr L xs (w32 (v + 5)) = some x5) (r2 : r32 x2) (r5 : r32 x5) : g_law_c8 L xs rec v Sc Sm = some () := by
  unfold g_law_c8
  obtain ⟨r, Sc', Sm', e1, e2, e3⟩ := m_wire h x1 x2
  rw [s1, s2]
  repeat rw [bS]
  rw [e1, bd2S]
  repeat rw [bS]
  rw [e2, bd2S, if_pos rfl]
  exact R _ _ e3
theorem lc_9 {b L : Nat} {Sc Sm : Mem} {xs : Nat → Int} {rec : Int → Mem → Mem → Option Unit} {v x1 x2 x3 x4 x5 : Int} (h : IV b Sc Sm) (hb : b < 800000) (R : ∀ Sc' Sm', IV (b + 100) Sc' Sm' → rec (w32 (v + 6)) Sc' Sm' = some ()) (s1 : scr L xs (w32 (v + 1)) = some x1) (s2 : scr L xs (w32 (v + 2)) = some x2) (s3 : scr L xs (w32 (v + 3)) = some x3) (s4 : scr L xs (w32 (v + 4)) = some x4) (s5 : scr L xs (w32 (v + 5)) = some x5) (r2 : r32 x2) (r5 : r32 x5) : g_law_c9 L xs rec v Sc Sm = some () := by
  unfold g_law_c9
  obtain ⟨r, Sc', Sm', e1, e2, e3⟩ := m_say h x1 x2
  rw [s1, s2]
  repeat rw [bS]
  rw [e1, bd2S]
  repeat rw [bS]
  rw [e2, bd2S, if_pos rfl]
  exact R _ _ e3
theorem lc_10 {b L : Nat} {Sc Sm : Mem} {xs : Nat → Int} {rec : Int → Mem → Mem → Option Unit} {v x1 x2 x3 x4 x5 : Int} (h : IV b Sc Sm) (hb : b < 800000) (R : ∀ Sc' Sm', IV (b + 100) Sc' Sm' → rec (w32 (v + 6)) Sc' Sm' = some ()) (s1 : scr L xs (w32 (v + 1)) = some x1) (s2 : scr L xs (w32 (v + 2)) = some x2) (s3 : scr L xs (w32 (v + 3)) = some x3) (s4 : scr L xs (w32 (v + 4)) = some x4) (s5 : scr L xs (w32 (v + 5)) = some x5) (r2 : r32 x2) (r5 : r32 x5) : g_law_c10 L xs rec v Sc Sm = some () := by
  unfold g_law_c10
  obtain ⟨r, Sc', Sm', e1, e2, e3⟩ := m_allFor m_FL h x1 x2
  rw [s1, s2]
  repeat rw [bS]
  rw [e1, bd2S]
  repeat rw [bS]
  rw [e2, bd2S, if_pos rfl]
  exact R _ _ e3
theorem lc_11 {b L : Nat} {Sc Sm : Mem} {xs : Nat → Int} {rec : Int → Mem → Mem → Option Unit} {v x1 x2 x3 x4 x5 : Int} (h : IV b Sc Sm) (hb : b < 800000) (R : ∀ Sc' Sm', IV (b + 100) Sc' Sm' → rec (w32 (v + 6)) Sc' Sm' = some ()) (s1 : scr L xs (w32 (v + 1)) = some x1) (s2 : scr L xs (w32 (v + 2)) = some x2) (s3 : scr L xs (w32 (v + 3)) = some x3) (s4 : scr L xs (w32 (v + 4)) = some x4) (s5 : scr L xs (w32 (v + 5)) = some x5) (r2 : r32 x2) (r5 : r32 x5) : g_law_c11 L xs rec v Sc Sm = some () := by
  unfold g_law_c11
  obtain ⟨r, Sc', Sm', e1, e2, e3⟩ := m_tooDear m_FL h x1
  rw [s1]
  repeat rw [bS]
  rw [e1, bd2S]
  repeat rw [bS]
  rw [e2, bd2S, if_pos rfl]
  exact R _ _ e3
theorem lc_12 {b L : Nat} {Sc Sm : Mem} {xs : Nat → Int} {rec : Int → Mem → Mem → Option Unit} {v x1 x2 x3 x4 x5 : Int} (h : IV b Sc Sm) (hb : b < 800000) (R : ∀ Sc' Sm', IV (b + 100) Sc' Sm' → rec (w32 (v + 6)) Sc' Sm' = some ()) (s1 : scr L xs (w32 (v + 1)) = some x1) (s2 : scr L xs (w32 (v + 2)) = some x2) (s3 : scr L xs (w32 (v + 3)) = some x3) (s4 : scr L xs (w32 (v + 4)) = some x4) (s5 : scr L xs (w32 (v + 5)) = some x5) (r2 : r32 x2) (r5 : r32 x5) : g_law_c12 L xs rec v Sc Sm = some () := by
  unfold g_law_c12
  obtain ⟨r, e1, e2⟩ := m_year h x1 x2 x3
  rw [s1, s2, s3]
  repeat rw [bS]
  rw [e1]
  repeat rw [bS]
  rw [e2, bS, if_pos rfl]
  exact R _ _ (IV_up h (Nat.le_add_right _ _))
theorem lc_13 {b L : Nat} {Sc Sm : Mem} {xs : Nat → Int} {rec : Int → Mem → Mem → Option Unit} {v x1 x2 x3 x4 x5 : Int} (h : IV b Sc Sm) (hb : b < 800000) (R : ∀ Sc' Sm', IV (b + 100) Sc' Sm' → rec (w32 (v + 6)) Sc' Sm' = some ()) (s1 : scr L xs (w32 (v + 1)) = some x1) (s2 : scr L xs (w32 (v + 2)) = some x2) (s3 : scr L xs (w32 (v + 3)) = some x3) (s4 : scr L xs (w32 (v + 4)) = some x4) (s5 : scr L xs (w32 (v + 5)) = some x5) (r2 : r32 x2) (r5 : r32 x5) : g_law_c13 L xs rec v Sc Sm = some () := by
  unfold g_law_c13
  obtain ⟨r, Sc', Sm', e1, e2, e3⟩ := m_came h x1
  rw [s1]
  repeat rw [bS]
  rw [e1, bd2S]
  repeat rw [bS]
  rw [e2, bd2S, if_pos (lcm_0 r)]
  exact R _ _ e3
theorem lc_14 {b L : Nat} {Sc Sm : Mem} {xs : Nat → Int} {rec : Int → Mem → Mem → Option Unit} {v x1 x2 x3 x4 x5 : Int} (h : IV b Sc Sm) (hb : b < 800000) (R : ∀ Sc' Sm', IV (b + 100) Sc' Sm' → rec (w32 (v + 6)) Sc' Sm' = some ()) (s1 : scr L xs (w32 (v + 1)) = some x1) (s2 : scr L xs (w32 (v + 2)) = some x2) (s3 : scr L xs (w32 (v + 3)) = some x3) (s4 : scr L xs (w32 (v + 4)) = some x4) (s5 : scr L xs (w32 (v + 5)) = some x5) (r2 : r32 x2) (r5 : r32 x5) : g_law_c14 L xs rec v Sc Sm = some () := by
  unfold g_law_c14
  obtain ⟨r, Sc', Sm', e1, e2, e3⟩ := m_cameAs h x1 x2
  rw [s1, s2]
  repeat rw [bS]
  rw [e1, bd2S]
  repeat rw [bS]
  rw [e2, bd2S, if_pos rfl]
  exact R _ _ e3
theorem lc_15 {b L : Nat} {Sc Sm : Mem} {xs : Nat → Int} {rec : Int → Mem → Mem → Option Unit} {v x1 x2 x3 x4 x5 : Int} (h : IV b Sc Sm) (hb : b < 800000) (R : ∀ Sc' Sm', IV (b + 100) Sc' Sm' → rec (w32 (v + 6)) Sc' Sm' = some ()) (s1 : scr L xs (w32 (v + 1)) = some x1) (s2 : scr L xs (w32 (v + 2)) = some x2) (s3 : scr L xs (w32 (v + 3)) = some x3) (s4 : scr L xs (w32 (v + 4)) = some x4) (s5 : scr L xs (w32 (v + 5)) = some x5) (r2 : r32 x2) (r5 : r32 x5) : g_law_c15 L xs rec v Sc Sm = some () := by
  unfold g_law_c15
  obtain ⟨r, Sc', Sm', e1, e2, e3⟩ := m_meant h x1 x2 x3
  rw [s1, s2, s3]
  repeat rw [bS]
  rw [e1, bd2S]
  repeat rw [bS]
  rw [e2, bd2S, if_pos (lcm_0 r)]
  exact R _ _ e3
theorem lc_16 {b L : Nat} {Sc Sm : Mem} {xs : Nat → Int} {rec : Int → Mem → Mem → Option Unit} {v x1 x2 x3 x4 x5 : Int} (h : IV b Sc Sm) (hb : b < 800000) (R : ∀ Sc' Sm', IV (b + 100) Sc' Sm' → rec (w32 (v + 6)) Sc' Sm' = some ()) (s1 : scr L xs (w32 (v + 1)) = some x1) (s2 : scr L xs (w32 (v + 2)) = some x2) (s3 : scr L xs (w32 (v + 3)) = some x3) (s4 : scr L xs (w32 (v + 4)) = some x4) (s5 : scr L xs (w32 (v + 5)) = some x5) (r2 : r32 x2) (r5 : r32 x5) : g_law_c16 L xs rec v Sc Sm = some () := by
  unfold g_law_c16
  obtain ⟨r, Sc', Sm', e1, e2, e3⟩ := m_certain h x1
  rw [s1]
  repeat rw [bS]
  rw [e1, bd2S]
  repeat rw [bS]
  rw [e2, bd2S, if_pos rfl]
  exact R _ _ e3
theorem lc_17 {b L : Nat} {Sc Sm : Mem} {xs : Nat → Int} {rec : Int → Mem → Mem → Option Unit} {v x1 x2 x3 x4 x5 : Int} (h : IV b Sc Sm) (hb : b < 800000) (R : ∀ Sc' Sm', IV (b + 100) Sc' Sm' → rec (w32 (v + 6)) Sc' Sm' = some ()) (s1 : scr L xs (w32 (v + 1)) = some x1) (s2 : scr L xs (w32 (v + 2)) = some x2) (s3 : scr L xs (w32 (v + 3)) = some x3) (s4 : scr L xs (w32 (v + 4)) = some x4) (s5 : scr L xs (w32 (v + 5)) = some x5) (r2 : r32 x2) (r5 : r32 x5) : g_law_c17 L xs rec v Sc Sm = some () := by
  unfold g_law_c17
  obtain ⟨r, Sc', Sm', e1, e2, e3⟩ := m_safe h x1 x2
  rw [s1, s2]
  repeat rw [bS]
  rw [e1, bd2S]
  repeat rw [bS]
  rw [e2, bd2S, if_pos (lcm_0 r)]
  exact R _ _ e3
theorem lc_18 {b L : Nat} {Sc Sm : Mem} {xs : Nat → Int} {rec : Int → Mem → Mem → Option Unit} {v x1 x2 x3 x4 x5 : Int} (h : IV b Sc Sm) (hb : b < 800000) (R : ∀ Sc' Sm', IV (b + 100) Sc' Sm' → rec (w32 (v + 6)) Sc' Sm' = some ()) (s1 : scr L xs (w32 (v + 1)) = some x1) (s2 : scr L xs (w32 (v + 2)) = some x2) (s3 : scr L xs (w32 (v + 3)) = some x3) (s4 : scr L xs (w32 (v + 4)) = some x4) (s5 : scr L xs (w32 (v + 5)) = some x5) (r2 : r32 x2) (r5 : r32 x5) : g_law_c18 L xs rec v Sc Sm = some () := by
  unfold g_law_c18
  obtain ⟨r, Sc', Sm', e1, e2, e3⟩ := m_unsigned h x1 x2
  rw [s1, s2]
  repeat rw [bS]
  rw [e1, bd2S]
  repeat rw [bS]
  rw [e2, bd2S, if_pos rfl]
  exact R _ _ e3
theorem lc_19 {b L : Nat} {Sc Sm : Mem} {xs : Nat → Int} {rec : Int → Mem → Mem → Option Unit} {v x1 x2 x3 x4 x5 : Int} (h : IV b Sc Sm) (hb : b < 800000) (R : ∀ Sc' Sm', IV (b + 100) Sc' Sm' → rec (w32 (v + 6)) Sc' Sm' = some ()) (s1 : scr L xs (w32 (v + 1)) = some x1) (s2 : scr L xs (w32 (v + 2)) = some x2) (s3 : scr L xs (w32 (v + 3)) = some x3) (s4 : scr L xs (w32 (v + 4)) = some x4) (s5 : scr L xs (w32 (v + 5)) = some x5) (r2 : r32 x2) (r5 : r32 x5) : g_law_c19 L xs rec v Sc Sm = some () := by
  unfold g_law_c19
  obtain ⟨r, e1, e2⟩ := m_club h x1 x2 x3
  rw [s1, s2, s3]
  repeat rw [bS]
  rw [e1]
  repeat rw [bS]
  rw [e2, bS, if_pos rfl]
  exact R _ _ (IV_up h (Nat.le_add_right _ _))
theorem lc_20 {b L : Nat} {Sc Sm : Mem} {xs : Nat → Int} {rec : Int → Mem → Mem → Option Unit} {v x1 x2 x3 x4 x5 : Int} (h : IV b Sc Sm) (hb : b < 800000) (R : ∀ Sc' Sm', IV (b + 100) Sc' Sm' → rec (w32 (v + 6)) Sc' Sm' = some ()) (s1 : scr L xs (w32 (v + 1)) = some x1) (s2 : scr L xs (w32 (v + 2)) = some x2) (s3 : scr L xs (w32 (v + 3)) = some x3) (s4 : scr L xs (w32 (v + 4)) = some x4) (s5 : scr L xs (w32 (v + 5)) = some x5) (r2 : r32 x2) (r5 : r32 x5) : g_law_c20 L xs rec v Sc Sm = some () := by
  unfold g_law_c20
  obtain ⟨r, e1, e2⟩ := m_lacks h x1
  rw [s1]
  repeat rw [bS]
  rw [e1]
  repeat rw [bS]
  rw [e2, bS, if_pos rfl]
  exact R _ _ (IV_up h (Nat.le_add_right _ _))
theorem lc_21 {b L : Nat} {Sc Sm : Mem} {xs : Nat → Int} {rec : Int → Mem → Mem → Option Unit} {v x1 x2 x3 x4 x5 : Int} (h : IV b Sc Sm) (hb : b < 800000) (R : ∀ Sc' Sm', IV (b + 100) Sc' Sm' → rec (w32 (v + 6)) Sc' Sm' = some ()) (s1 : scr L xs (w32 (v + 1)) = some x1) (s2 : scr L xs (w32 (v + 2)) = some x2) (s3 : scr L xs (w32 (v + 3)) = some x3) (s4 : scr L xs (w32 (v + 4)) = some x4) (s5 : scr L xs (w32 (v + 5)) = some x5) (r2 : r32 x2) (r5 : r32 x5) : g_law_c21 L xs rec v Sc Sm = some () := by
  unfold g_law_c21
  obtain ⟨r, T, e1, e2, e3⟩ := m_drawn h x1 x2 x3 r2
  rw [s1, s2, s3]
  repeat rw [bS]
  rw [e1]
  repeat rw [bS]
  rw [e2, bd2S, if_pos rfl]
  exact R _ _ e3
theorem lc_22 {b L : Nat} {Sc Sm : Mem} {xs : Nat → Int} {rec : Int → Mem → Mem → Option Unit} {v x1 x2 x3 x4 x5 : Int} (h : IV b Sc Sm) (hb : b < 800000) (R : ∀ Sc' Sm', IV (b + 100) Sc' Sm' → rec (w32 (v + 6)) Sc' Sm' = some ()) (s1 : scr L xs (w32 (v + 1)) = some x1) (s2 : scr L xs (w32 (v + 2)) = some x2) (s3 : scr L xs (w32 (v + 3)) = some x3) (s4 : scr L xs (w32 (v + 4)) = some x4) (s5 : scr L xs (w32 (v + 5)) = some x5) (r2 : r32 x2) (r5 : r32 x5) : g_law_c22 L xs rec v Sc Sm = some () := by
  unfold g_law_c22
  have hb9 : b < 900000 := by omega
  obtain ⟨r, Sc', Sm', e1, e2, e3⟩ := m_send h hb9 x1 x2 r2
  rw [s1, s2]
  repeat rw [bS]
  rw [e1, bd2S]
  repeat rw [bS]
  rw [e2, bd2S, if_pos rfl]
  exact R _ _ e3
theorem lc_23 {b L : Nat} {Sc Sm : Mem} {xs : Nat → Int} {rec : Int → Mem → Mem → Option Unit} {v x1 x2 x3 x4 x5 : Int} (h : IV b Sc Sm) (hb : b < 800000) (R : ∀ Sc' Sm', IV (b + 100) Sc' Sm' → rec (w32 (v + 6)) Sc' Sm' = some ()) (s1 : scr L xs (w32 (v + 1)) = some x1) (s2 : scr L xs (w32 (v + 2)) = some x2) (s3 : scr L xs (w32 (v + 3)) = some x3) (s4 : scr L xs (w32 (v + 4)) = some x4) (s5 : scr L xs (w32 (v + 5)) = some x5) (r2 : r32 x2) (r5 : r32 x5) : g_law_c23 L xs rec v Sc Sm = some () := by
  unfold g_law_c23
  have hb9 : b < 900000 := by omega
  obtain ⟨r, Sc', Sm', e1, e2, e3⟩ := m_night h hb9
  rw [e1, bd2S]
  rw [e2, bd2S, if_pos rfl]
  exact R _ _ e3
theorem lc_24 {b L : Nat} {Sc Sm : Mem} {xs : Nat → Int} {rec : Int → Mem → Mem → Option Unit} {v x1 x2 x3 x4 x5 : Int} (h : IV b Sc Sm) (hb : b < 800000) (R : ∀ Sc' Sm', IV (b + 100) Sc' Sm' → rec (w32 (v + 6)) Sc' Sm' = some ()) (s1 : scr L xs (w32 (v + 1)) = some x1) (s2 : scr L xs (w32 (v + 2)) = some x2) (s3 : scr L xs (w32 (v + 3)) = some x3) (s4 : scr L xs (w32 (v + 4)) = some x4) (s5 : scr L xs (w32 (v + 5)) = some x5) (r2 : r32 x2) (r5 : r32 x5) : g_law_c24 L xs rec v Sc Sm = some () := by
  unfold g_law_c24
  obtain ⟨r, e1, e2⟩ := m_led h x1
  rw [s1]
  repeat rw [bS]
  rw [e1]
  repeat rw [bS]
  rw [e2, bS, if_pos rfl]
  exact R _ _ (IV_up h (Nat.le_add_right _ _))
theorem lc_25 {b L : Nat} {Sc Sm : Mem} {xs : Nat → Int} {rec : Int → Mem → Mem → Option Unit} {v x1 x2 x3 x4 x5 : Int} (h : IV b Sc Sm) (hb : b < 800000) (R : ∀ Sc' Sm', IV (b + 100) Sc' Sm' → rec (w32 (v + 6)) Sc' Sm' = some ()) (s1 : scr L xs (w32 (v + 1)) = some x1) (s2 : scr L xs (w32 (v + 2)) = some x2) (s3 : scr L xs (w32 (v + 3)) = some x3) (s4 : scr L xs (w32 (v + 4)) = some x4) (s5 : scr L xs (w32 (v + 5)) = some x5) (r2 : r32 x2) (r5 : r32 x5) : g_law_c25 L xs rec v Sc Sm = some () := by
  unfold g_law_c25
  have hb9 : b < 900000 := by omega
  obtain ⟨r, Sc', Sm', e1, e2, e3⟩ := m_image h hb9
  rw [e1, bd2S]
  rw [e2, bd2S, if_pos rfl]
  exact R _ _ e3
theorem lc_26 {b L : Nat} {Sc Sm : Mem} {xs : Nat → Int} {rec : Int → Mem → Mem → Option Unit} {v x1 x2 x3 x4 x5 : Int} (h : IV b Sc Sm) (hb : b < 800000) (R : ∀ Sc' Sm', IV (b + 100) Sc' Sm' → rec (w32 (v + 6)) Sc' Sm' = some ()) (s1 : scr L xs (w32 (v + 1)) = some x1) (s2 : scr L xs (w32 (v + 2)) = some x2) (s3 : scr L xs (w32 (v + 3)) = some x3) (s4 : scr L xs (w32 (v + 4)) = some x4) (s5 : scr L xs (w32 (v + 5)) = some x5) (r2 : r32 x2) (r5 : r32 x5) : g_law_c26 L xs rec v Sc Sm = some () := by
  unfold g_law_c26
  have hb9 : b < 900000 := by omega
  obtain ⟨r, Sc', Sm', e1, e2, e3⟩ := m_back h hb9
  rw [e1, bd2S]
  rw [e2, bd2S, if_pos rfl]
  exact R _ _ e3
theorem lc_27 {b L : Nat} {Sc Sm : Mem} {xs : Nat → Int} {rec : Int → Mem → Mem → Option Unit} {v x1 x2 x3 x4 x5 : Int} (h : IV b Sc Sm) (hb : b < 800000) (R : ∀ Sc' Sm', IV (b + 100) Sc' Sm' → rec (w32 (v + 6)) Sc' Sm' = some ()) (s1 : scr L xs (w32 (v + 1)) = some x1) (s2 : scr L xs (w32 (v + 2)) = some x2) (s3 : scr L xs (w32 (v + 3)) = some x3) (s4 : scr L xs (w32 (v + 4)) = some x4) (s5 : scr L xs (w32 (v + 5)) = some x5) (r2 : r32 x2) (r5 : r32 x5) : g_law_c27 L xs rec v Sc Sm = some () := by
  unfold g_law_c27
  have hb9 : b < 900000 := by omega
  obtain ⟨r, Sc', Sm', e1, e2, e3⟩ := m_undo h hb9
  rw [e1, bd2S]
  rw [e2, bd2S, if_pos rfl]
  exact R _ _ e3
theorem lc_28 {b L : Nat} {Sc Sm : Mem} {xs : Nat → Int} {rec : Int → Mem → Mem → Option Unit} {v x1 x2 x3 x4 x5 : Int} (h : IV b Sc Sm) (hb : b < 800000) (R : ∀ Sc' Sm', IV (b + 100) Sc' Sm' → rec (w32 (v + 6)) Sc' Sm' = some ()) (s1 : scr L xs (w32 (v + 1)) = some x1) (s2 : scr L xs (w32 (v + 2)) = some x2) (s3 : scr L xs (w32 (v + 3)) = some x3) (s4 : scr L xs (w32 (v + 4)) = some x4) (s5 : scr L xs (w32 (v + 5)) = some x5) (r2 : r32 x2) (r5 : r32 x5) : g_law_c28 L xs rec v Sc Sm = some () := by
  unfold g_law_c28
  have hb9 : b < 900000 := by omega
  obtain ⟨r, Sc', Sm', e1, e2, e3⟩ := m_redo h hb9
  rw [e1, bd2S]
  rw [e2, bd2S, if_pos rfl]
  exact R _ _ e3
theorem lc_29 {b L : Nat} {Sc Sm : Mem} {xs : Nat → Int} {rec : Int → Mem → Mem → Option Unit} {v x1 x2 x3 x4 x5 : Int} (h : IV b Sc Sm) (hb : b < 800000) (R : ∀ Sc' Sm', IV (b + 100) Sc' Sm' → rec (w32 (v + 6)) Sc' Sm' = some ()) (s1 : scr L xs (w32 (v + 1)) = some x1) (s2 : scr L xs (w32 (v + 2)) = some x2) (s3 : scr L xs (w32 (v + 3)) = some x3) (s4 : scr L xs (w32 (v + 4)) = some x4) (s5 : scr L xs (w32 (v + 5)) = some x5) (r2 : r32 x2) (r5 : r32 x5) : g_law_c29 L xs rec v Sc Sm = some () := by
  unfold g_law_c29
  have hb9 : b < 900000 := by omega
  obtain ⟨r, Sc', Sm', e1, e2, e3⟩ := m_body h hb9 x1
  rw [s1]
  repeat rw [bS]
  rw [e1, bd2S]
  repeat rw [bS]
  rw [e2, bd2S, if_pos rfl]
  exact R _ _ e3
theorem lc_30 {b L : Nat} {Sc Sm : Mem} {xs : Nat → Int} {rec : Int → Mem → Mem → Option Unit} {v x1 x2 x3 x4 x5 : Int} (h : IV b Sc Sm) (hb : b < 800000) (R : ∀ Sc' Sm', IV (b + 100) Sc' Sm' → rec (w32 (v + 6)) Sc' Sm' = some ()) (s1 : scr L xs (w32 (v + 1)) = some x1) (s2 : scr L xs (w32 (v + 2)) = some x2) (s3 : scr L xs (w32 (v + 3)) = some x3) (s4 : scr L xs (w32 (v + 4)) = some x4) (s5 : scr L xs (w32 (v + 5)) = some x5) (r2 : r32 x2) (r5 : r32 x5) : g_law_c30 L xs rec v Sc Sm = some () := by
  unfold g_law_c30
  obtain ⟨r, Sc', Sm', e1, e2, e3⟩ := m_act h x1 x2 x3
  rw [s1, s2, s3]
  repeat rw [bS]
  rw [e1, bd2S]
  repeat rw [bS]
  rw [e2, bd2S, if_pos rfl]
  exact R _ _ e3
theorem lc_31 {b L : Nat} {Sc Sm : Mem} {xs : Nat → Int} {rec : Int → Mem → Mem → Option Unit} {v x1 x2 x3 x4 x5 : Int} (h : IV b Sc Sm) (hb : b < 800000) (R : ∀ Sc' Sm', IV (b + 100) Sc' Sm' → rec (w32 (v + 6)) Sc' Sm' = some ()) (s1 : scr L xs (w32 (v + 1)) = some x1) (s2 : scr L xs (w32 (v + 2)) = some x2) (s3 : scr L xs (w32 (v + 3)) = some x3) (s4 : scr L xs (w32 (v + 4)) = some x4) (s5 : scr L xs (w32 (v + 5)) = some x5) (r2 : r32 x2) (r5 : r32 x5) : g_law_c31 L xs rec v Sc Sm = some () := by
  unfold g_law_c31
  obtain ⟨r, e1, e2⟩ := m_trace h x1
  rw [s1]
  repeat rw [bS]
  rw [e1]
  repeat rw [bS]
  rw [e2, bS, if_pos rfl]
  exact R _ _ (IV_up h (Nat.le_add_right _ _))
theorem lc_32 {b L : Nat} {Sc Sm : Mem} {xs : Nat → Int} {rec : Int → Mem → Mem → Option Unit} {v x1 x2 x3 x4 x5 : Int} (h : IV b Sc Sm) (hb : b < 800000) (R : ∀ Sc' Sm', IV (b + 100) Sc' Sm' → rec (w32 (v + 6)) Sc' Sm' = some ()) (s1 : scr L xs (w32 (v + 1)) = some x1) (s2 : scr L xs (w32 (v + 2)) = some x2) (s3 : scr L xs (w32 (v + 3)) = some x3) (s4 : scr L xs (w32 (v + 4)) = some x4) (s5 : scr L xs (w32 (v + 5)) = some x5) (r2 : r32 x2) (r5 : r32 x5) : g_law_c32 L xs rec v Sc Sm = some () := by
  unfold g_law_c32
  have hb9 : b < 900000 := by omega
  obtain ⟨r, Sc', Sm', e1, e2, e3⟩ := m_keep h hb9 x1 x2
  rw [s1, s2]
  repeat rw [bS]
  rw [e1, bd2S]
  repeat rw [bS]
  rw [e2, bd2S, if_pos rfl]
  exact R _ _ e3
theorem lc_33 {b L : Nat} {Sc Sm : Mem} {xs : Nat → Int} {rec : Int → Mem → Mem → Option Unit} {v x1 x2 x3 x4 x5 : Int} (h : IV b Sc Sm) (hb : b < 800000) (R : ∀ Sc' Sm', IV (b + 100) Sc' Sm' → rec (w32 (v + 6)) Sc' Sm' = some ()) (s1 : scr L xs (w32 (v + 1)) = some x1) (s2 : scr L xs (w32 (v + 2)) = some x2) (s3 : scr L xs (w32 (v + 3)) = some x3) (s4 : scr L xs (w32 (v + 4)) = some x4) (s5 : scr L xs (w32 (v + 5)) = some x5) (r2 : r32 x2) (r5 : r32 x5) : g_law_c33 L xs rec v Sc Sm = some () := by
  unfold g_law_c33
  have hb9 : b < 900000 := by omega
  obtain ⟨r, Sc', Sm', e1, e2, e3⟩ := m_row h hb9 x1 x2 x3
  rw [s1, s2, s3]
  repeat rw [bS]
  rw [e1, bd2S]
  repeat rw [bS]
  rw [e2, bd2S, if_pos rfl]
  exact R _ _ e3
theorem lc_34 {b L : Nat} {Sc Sm : Mem} {xs : Nat → Int} {rec : Int → Mem → Mem → Option Unit} {v x1 x2 x3 x4 x5 : Int} (h : IV b Sc Sm) (hb : b < 800000) (R : ∀ Sc' Sm', IV (b + 100) Sc' Sm' → rec (w32 (v + 6)) Sc' Sm' = some ()) (s1 : scr L xs (w32 (v + 1)) = some x1) (s2 : scr L xs (w32 (v + 2)) = some x2) (s3 : scr L xs (w32 (v + 3)) = some x3) (s4 : scr L xs (w32 (v + 4)) = some x4) (s5 : scr L xs (w32 (v + 5)) = some x5) (r2 : r32 x2) (r5 : r32 x5) : g_law_c34 L xs rec v Sc Sm = some () := by
  unfold g_law_c34
  have hb9 : b < 900000 := by omega
  obtain ⟨r, Sc', Sm', e1, e2, e3⟩ := m_put h hb9 x1 x2 (o_lor (o_lshl x3 32) (o_land x4 4294967295))
  rw [s1, s2, s3, s4]
  repeat rw [bS]
  rw [e1, bd2S]
  repeat rw [bS]
  rw [e2, bd2S, if_pos rfl]
  exact R _ _ e3
theorem lc_35 {b L : Nat} {Sc Sm : Mem} {xs : Nat → Int} {rec : Int → Mem → Mem → Option Unit} {v x1 x2 x3 x4 x5 : Int} (h : IV b Sc Sm) (hb : b < 800000) (R : ∀ Sc' Sm', IV (b + 100) Sc' Sm' → rec (w32 (v + 6)) Sc' Sm' = some ()) (s1 : scr L xs (w32 (v + 1)) = some x1) (s2 : scr L xs (w32 (v + 2)) = some x2) (s3 : scr L xs (w32 (v + 3)) = some x3) (s4 : scr L xs (w32 (v + 4)) = some x4) (s5 : scr L xs (w32 (v + 5)) = some x5) (r2 : r32 x2) (r5 : r32 x5) : g_law_c35 L xs rec v Sc Sm = some () := by
  unfold g_law_c35
  obtain ⟨r, e1, e2⟩ := m_element h x1 x2
  rw [s1, s2]
  repeat rw [bS]
  rw [e1]
  repeat rw [bS]
  rw [e2, bS, if_pos (lcm_0 r)]
  exact R _ _ (IV_up h (Nat.le_add_right _ _))
theorem lc_36 {b L : Nat} {Sc Sm : Mem} {xs : Nat → Int} {rec : Int → Mem → Mem → Option Unit} {v x1 x2 x3 x4 x5 : Int} (h : IV b Sc Sm) (hb : b < 800000) (R : ∀ Sc' Sm', IV (b + 100) Sc' Sm' → rec (w32 (v + 6)) Sc' Sm' = some ()) (s1 : scr L xs (w32 (v + 1)) = some x1) (s2 : scr L xs (w32 (v + 2)) = some x2) (s3 : scr L xs (w32 (v + 3)) = some x3) (s4 : scr L xs (w32 (v + 4)) = some x4) (s5 : scr L xs (w32 (v + 5)) = some x5) (r2 : r32 x2) (r5 : r32 x5) : g_law_c36 L xs rec v Sc Sm = some () := by
  unfold g_law_c36
  obtain ⟨r, Sc', Sm', e1, e2, e3⟩ := m_shift h x1 x2 x3 x4 x5 r5
  rw [s1, s2, s3, s4, s5]
  repeat rw [bS]
  rw [e1, bd2S]
  repeat rw [bS]
  rw [e2, bd2S, if_pos rfl]
  exact R _ _ e3
theorem lc_37 {b L : Nat} {Sc Sm : Mem} {xs : Nat → Int} {rec : Int → Mem → Mem → Option Unit} {v x1 x2 x3 x4 x5 : Int} (h : IV b Sc Sm) (hb : b < 800000) (R : ∀ Sc' Sm', IV (b + 100) Sc' Sm' → rec (w32 (v + 6)) Sc' Sm' = some ()) (s1 : scr L xs (w32 (v + 1)) = some x1) (s2 : scr L xs (w32 (v + 2)) = some x2) (s3 : scr L xs (w32 (v + 3)) = some x3) (s4 : scr L xs (w32 (v + 4)) = some x4) (s5 : scr L xs (w32 (v + 5)) = some x5) (r2 : r32 x2) (r5 : r32 x5) : g_law_c37 L xs rec v Sc Sm = some () := by
  unfold g_law_c37
  obtain ⟨r, e1, e2⟩ := m_taken h x1 x2
  rw [s1, s2]
  repeat rw [bS]
  rw [e1]
  repeat rw [bS]
  rw [e2, bS, if_pos rfl]
  exact R _ _ (IV_up h (Nat.le_add_right _ _))
theorem lc_38 {b L : Nat} {Sc Sm : Mem} {xs : Nat → Int} {rec : Int → Mem → Mem → Option Unit} {v x1 x2 x3 x4 x5 : Int} (h : IV b Sc Sm) (hb : b < 800000) (R : ∀ Sc' Sm', IV (b + 100) Sc' Sm' → rec (w32 (v + 6)) Sc' Sm' = some ()) (s1 : scr L xs (w32 (v + 1)) = some x1) (s2 : scr L xs (w32 (v + 2)) = some x2) (s3 : scr L xs (w32 (v + 3)) = some x3) (s4 : scr L xs (w32 (v + 4)) = some x4) (s5 : scr L xs (w32 (v + 5)) = some x5) (r2 : r32 x2) (r5 : r32 x5) : g_law_c38 L xs rec v Sc Sm = some () := by
  unfold g_law_c38
  have e1 := m_count h x1
  rw [s1]
  repeat rw [bS]
  rw [e1, if_pos rfl]
  exact R _ _ (IV_up h (Nat.le_add_right _ _))
theorem loop_l {L : Nat} {xs : Nat → Int} (hL : L ≤ 3072) (hx : ∀ i, r32 (xs i)) : ∀ (r k fu : Nat) (Sc Sm : Mem), r + k = 513 → r < fu → IV (100 * k) Sc Sm → g_law_L18 L xs fu ((6 * k : Nat) : Int) Sc Sm = some () := by
  have e6 : w32 ((L : Int) - 6) = (L : Int) - 6 := w32s (by omega) (by omega)
  intro r
  induction r with
  | zero =>
    intro k fu Sc Sm hk hf h
    obtain ⟨fu, rfl⟩ : ∃ j, fu = j + 1 := ⟨fu - 1, by omega⟩
    rw [g_law_L18, e6, if_pos (show (L : Int) - 6 < ((6 * k : Nat) : Int) by omega)]
  | succ r ih =>
    intro k fu Sc Sm hk hf h
    obtain ⟨fu, rfl⟩ : ∃ j, fu = j + 1 := ⟨fu - 1, by omega⟩
    by_cases c : (L : Int) - 6 < ((6 * k : Nat) : Int)
    · rw [g_law_L18, e6, if_pos c]
    · have hb : 100 * k < 800000 := by omega
      have s : ∀ j : Nat, j ≤ 5 → scr L xs (((6 * k : Nat) : Int) + (j : Int)) = some (xs (6 * k + j)) := fun j hj => by
        unfold scr
        rw [if_pos ⟨by omega, by omega⟩]
        rfl
      have w : ∀ j : Nat, j ≤ 6 → w32 (((6 * k : Nat) : Int) + (j : Int)) = ((6 * k : Nat) : Int) + (j : Int) := fun j hj => w32s (by omega) (by omega)
      have s0 : scr L xs ((6 * k : Nat) : Int) = some (xs (6 * k)) := by
        have := s 0 (by decide)
        rw [show ((0 : Nat) : Int) = 0 from rfl, Int.add_zero] at this
        exact this
      have s1 : scr L xs (w32 (((6 * k : Nat) : Int) + 1)) = some (xs (6 * k + 1)) := by rw [show (1 : Int) = ((1 : Nat) : Int) from rfl, w 1 (by decide)]; exact s 1 (by decide)
      have s2 : scr L xs (w32 (((6 * k : Nat) : Int) + 2)) = some (xs (6 * k + 2)) := by rw [show (2 : Int) = ((2 : Nat) : Int) from rfl, w 2 (by decide)]; exact s 2 (by decide)
      have s3 : scr L xs (w32 (((6 * k : Nat) : Int) + 3)) = some (xs (6 * k + 3)) := by rw [show (3 : Int) = ((3 : Nat) : Int) from rfl, w 3 (by decide)]; exact s 3 (by decide)
      have s4 : scr L xs (w32 (((6 * k : Nat) : Int) + 4)) = some (xs (6 * k + 4)) := by rw [show (4 : Int) = ((4 : Nat) : Int) from rfl, w 4 (by decide)]; exact s 4 (by decide)
      have s5 : scr L xs (w32 (((6 * k : Nat) : Int) + 5)) = some (xs (6 * k + 5)) := by rw [show (5 : Int) = ((5 : Nat) : Int) from rfl, w 5 (by decide)]; exact s 5 (by decide)
      have w6 : w32 (((6 * k : Nat) : Int) + 6) = ((6 * (k + 1) : Nat) : Int) := by
        rw [w32s (by omega) (by omega)]
        omega
      have R : ∀ Sc' Sm', IV (100 * k + 100) Sc' Sm' → g_law_L18 L xs fu (w32 (((6 * k : Nat) : Int) + 6)) Sc' Sm' = some () := fun Sc' Sm' g => by
        rw [w6]
        exact ih (k + 1) fu Sc' Sm' (by omega) (by omega) g
      rw [g_law_L18, e6, if_neg c, s0, bS]
      clear w w6 s e6
      by_cases q0 : o_and (xs (6 * k)) 63 = 0
      · rw [if_pos q0]
        exact lc_0 h hb R s1 s2 s3 s4 s5 (hx _) (hx _)
      rw [if_neg q0]
      by_cases q1 : o_and (xs (6 * k)) 63 = 1
      · rw [if_pos q1]
        exact lc_1 h hb R s1 s2 s3 s4 s5 (hx _) (hx _)
      rw [if_neg q1]
      by_cases q2 : o_and (xs (6 * k)) 63 = 2
      · rw [if_pos q2]
        exact lc_2 h hb R s1 s2 s3 s4 s5 (hx _) (hx _)
      rw [if_neg q2]
      by_cases q3 : o_and (xs (6 * k)) 63 = 3
      · rw [if_pos q3]
        exact lc_3 h hb R s1 s2 s3 s4 s5 (hx _) (hx _)
      rw [if_neg q3]
      by_cases q4 : o_and (xs (6 * k)) 63 = 4
      · rw [if_pos q4]
        exact lc_4 h hb R s1 s2 s3 s4 s5 (hx _) (hx _)
      rw [if_neg q4]
      by_cases q5 : o_and (xs (6 * k)) 63 = 5
      · rw [if_pos q5]
        exact lc_5 h hb R s1 s2 s3 s4 s5 (hx _) (hx _)
      rw [if_neg q5]
      by_cases q6 : o_and (xs (6 * k)) 63 = 6
      · rw [if_pos q6]
        exact lc_6 h hb R s1 s2 s3 s4 s5 (hx _) (hx _)
      rw [if_neg q6]
      by_cases q7 : o_and (xs (6 * k)) 63 = 7
      · rw [if_pos q7]
        exact lc_7 h hb R s1 s2 s3 s4 s5 (hx _) (hx _)
      rw [if_neg q7]
      by_cases q8 : o_and (xs (6 * k)) 63 = 8
      · rw [if_pos q8]
        exact lc_8 h hb R s1 s2 s3 s4 s5 (hx _) (hx _)
      rw [if_neg q8]
      by_cases q9 : o_and (xs (6 * k)) 63 = 9
      · rw [if_pos q9]
        exact lc_9 h hb R s1 s2 s3 s4 s5 (hx _) (hx _)
      rw [if_neg q9]
      by_cases q10 : o_and (xs (6 * k)) 63 = 10
      · rw [if_pos q10]
        exact lc_10 h hb R s1 s2 s3 s4 s5 (hx _) (hx _)
      rw [if_neg q10]
      by_cases q11 : o_and (xs (6 * k)) 63 = 11
      · rw [if_pos q11]
        exact lc_11 h hb R s1 s2 s3 s4 s5 (hx _) (hx _)
      rw [if_neg q11]
      by_cases q12 : o_and (xs (6 * k)) 63 = 12
      · rw [if_pos q12]
        exact lc_12 h hb R s1 s2 s3 s4 s5 (hx _) (hx _)
      rw [if_neg q12]
      by_cases q13 : o_and (xs (6 * k)) 63 = 13
      · rw [if_pos q13]
        exact lc_13 h hb R s1 s2 s3 s4 s5 (hx _) (hx _)
      rw [if_neg q13]
      by_cases q14 : o_and (xs (6 * k)) 63 = 14
      · rw [if_pos q14]
        exact lc_14 h hb R s1 s2 s3 s4 s5 (hx _) (hx _)
      rw [if_neg q14]
      by_cases q15 : o_and (xs (6 * k)) 63 = 15
      · rw [if_pos q15]
        exact lc_15 h hb R s1 s2 s3 s4 s5 (hx _) (hx _)
      rw [if_neg q15]
      by_cases q16 : o_and (xs (6 * k)) 63 = 16
      · rw [if_pos q16]
        exact lc_16 h hb R s1 s2 s3 s4 s5 (hx _) (hx _)
      rw [if_neg q16]
      by_cases q17 : o_and (xs (6 * k)) 63 = 17
      · rw [if_pos q17]
        exact lc_17 h hb R s1 s2 s3 s4 s5 (hx _) (hx _)
      rw [if_neg q17]
      by_cases q18 : o_and (xs (6 * k)) 63 = 18
      · rw [if_pos q18]
        exact lc_18 h hb R s1 s2 s3 s4 s5 (hx _) (hx _)
      rw [if_neg q18]
      by_cases q19 : o_and (xs (6 * k)) 63 = 19
      · rw [if_pos q19]
        exact lc_19 h hb R s1 s2 s3 s4 s5 (hx _) (hx _)
      rw [if_neg q19]
      by_cases q20 : o_and (xs (6 * k)) 63 = 20
      · rw [if_pos q20]
        exact lc_20 h hb R s1 s2 s3 s4 s5 (hx _) (hx _)
      rw [if_neg q20]
      by_cases q21 : o_and (xs (6 * k)) 63 = 21
      · rw [if_pos q21]
        exact lc_21 h hb R s1 s2 s3 s4 s5 (hx _) (hx _)
      rw [if_neg q21]
      by_cases q22 : o_and (xs (6 * k)) 63 = 22
      · rw [if_pos q22]
        exact lc_22 h hb R s1 s2 s3 s4 s5 (hx _) (hx _)
      rw [if_neg q22]
      by_cases q23 : o_and (xs (6 * k)) 63 = 23
      · rw [if_pos q23]
        exact lc_23 h hb R s1 s2 s3 s4 s5 (hx _) (hx _)
      rw [if_neg q23]
      by_cases q24 : o_and (xs (6 * k)) 63 = 24
      · rw [if_pos q24]
        exact lc_24 h hb R s1 s2 s3 s4 s5 (hx _) (hx _)
      rw [if_neg q24]
      by_cases q25 : o_and (xs (6 * k)) 63 = 25
      · rw [if_pos q25]
        exact lc_25 h hb R s1 s2 s3 s4 s5 (hx _) (hx _)
      rw [if_neg q25]
      by_cases q26 : o_and (xs (6 * k)) 63 = 26
      · rw [if_pos q26]
        exact lc_26 h hb R s1 s2 s3 s4 s5 (hx _) (hx _)
      rw [if_neg q26]
      by_cases q27 : o_and (xs (6 * k)) 63 = 27
      · rw [if_pos q27]
        exact lc_27 h hb R s1 s2 s3 s4 s5 (hx _) (hx _)
      rw [if_neg q27]
      by_cases q28 : o_and (xs (6 * k)) 63 = 28
      · rw [if_pos q28]
        exact lc_28 h hb R s1 s2 s3 s4 s5 (hx _) (hx _)
      rw [if_neg q28]
      by_cases q29 : o_and (xs (6 * k)) 63 = 29
      · rw [if_pos q29]
        exact lc_29 h hb R s1 s2 s3 s4 s5 (hx _) (hx _)
      rw [if_neg q29]
      by_cases q30 : o_and (xs (6 * k)) 63 = 30
      · rw [if_pos q30]
        exact lc_30 h hb R s1 s2 s3 s4 s5 (hx _) (hx _)
      rw [if_neg q30]
      by_cases q31 : o_and (xs (6 * k)) 63 = 31
      · rw [if_pos q31]
        exact lc_31 h hb R s1 s2 s3 s4 s5 (hx _) (hx _)
      rw [if_neg q31]
      by_cases q32 : o_and (xs (6 * k)) 63 = 32
      · rw [if_pos q32]
        exact lc_32 h hb R s1 s2 s3 s4 s5 (hx _) (hx _)
      rw [if_neg q32]
      by_cases q33 : o_and (xs (6 * k)) 63 = 33
      · rw [if_pos q33]
        exact lc_33 h hb R s1 s2 s3 s4 s5 (hx _) (hx _)
      rw [if_neg q33]
      by_cases q34 : o_and (xs (6 * k)) 63 = 34
      · rw [if_pos q34]
        exact lc_34 h hb R s1 s2 s3 s4 s5 (hx _) (hx _)
      rw [if_neg q34]
      by_cases q35 : o_and (xs (6 * k)) 63 = 35
      · rw [if_pos q35]
        exact lc_35 h hb R s1 s2 s3 s4 s5 (hx _) (hx _)
      rw [if_neg q35]
      by_cases q36 : o_and (xs (6 * k)) 63 = 36
      · rw [if_pos q36]
        exact lc_36 h hb R s1 s2 s3 s4 s5 (hx _) (hx _)
      rw [if_neg q36]
      by_cases q37 : o_and (xs (6 * k)) 63 = 37
      · rw [if_pos q37]
        exact lc_37 h hb R s1 s2 s3 s4 s5 (hx _) (hx _)
      rw [if_neg q37]
      by_cases q38 : o_and (xs (6 * k)) 63 = 38
      · rw [if_pos q38]
        exact lc_38 h hb R s1 s2 s3 s4 s5 (hx _) (hx _)
      rw [if_neg q38]
      exact R Sc Sm (IV_up h (Nat.le_add_right _ _))
