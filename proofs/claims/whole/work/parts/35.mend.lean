/-! A NUMBER MENDED, UNDONE, DONE AGAIN -/
theorem w32_a (k : Nat) (h : k ≤ 1000000) : w32 ((k : Int) + 1) = ((k + 1 : Nat) : Int) := by
  rw [w32s (by omega) (by omega)]
  omega
theorem w32_m (k : Nat) (h : k ≤ 1000000) : w32 (((k + 1 : Nat) : Int) - 1) = (k : Int) := by
  rw [w32s (by omega) (by omega)]
  omega
theorem w32_d (k j : Nat) (h : k ≤ 1000000) (g : j ≤ 1000000) : w32 ((k : Int) - (j : Int)) = (k : Int) - (j : Int) := w32s (by omega) (by omega)
theorem w32_da (k j : Nat) (h : k ≤ 1000000) (g : j ≤ 1000000) : w32 ((k : Int) - ((j + 1 : Nat) : Int) + 1) = (k : Int) - (j : Int) := by
  rw [w32s (by omega) (by omega)]
  omega
theorem w32_dm (k j : Nat) (h : k ≤ 1000000) (g : j ≤ 1000000) : w32 ((k : Int) - (j : Int) - 1) = (k : Int) - ((j + 1 : Nat) : Int) := by
  rw [w32s (by omega) (by omega)]
  omega
theorem gI_cpI (S : Mem) (a i b j n c k : Nat) : gI (cpI S a i b j n) c k = if c = b ∧ j ≤ k ∧ k < j + n then gI S a (i + (k - j)) else gI S c k := rfl
theorem gR_cpI (S : Mem) (a i b j n c : Nat) : gR (cpI S a i b j n) c = gR S c := rfl
theorem cpk_n {S : Mem} {a N b N' i j n : Nat} (h1 : i + n ≤ N) (h2 : j + n ≤ N') : cpk S a N (i : Int) b N' (j : Int) (n : Int) = some (cpI S a i b j n) := by
  unfold cpk
  rw [if_pos (by omega)]
  simp only [Int.toNat_natCast]
theorem setM_congr {X Y : Mem} {n w c : Nat} {v : Int} (h : gI X c = gI Y c) : gI (setM X n w v) c = gI (setM Y n w v) c := by
  unfold setM
  split <;> (funext k; rw [gI_sI, gI_sI, h])
theorem cpk_39 (S : Mem) (a : Nat) : cpk S a 40 1 a 40 0 39 = some (cpI S a 1 a 0 39) := cpk_n (i := 1) (j := 0) (n := 39) (by decide) (by decide)
def Rw (S S' : Mem) (q d e : Nat) (x : Int) : Prop := gI S' q e = x ∧ ∀ i, i < e → gI S' q i = gI S q (if d < 40 then i else i + 1)
theorem Inv_RC {b nW nP nB : Nat} {law : Option (List Lin)} {Sc Sm Sc' Sm' : Mem} (h : Inv b nW nP nB law Sc Sm) (hc : ∀ c, (c < 48 ∨ 52 < c) → gI Sc' c = gI Sc c) (hr : ∀ c, gR Sc' c = gR Sc c) (hm : ∀ c, (c < 56 ∨ (56 < c ∧ c < 65) ∨ 68 < c) → gI Sm' c = gI Sm c) (h56 : ∀ k, k ≠ 11 → k ≠ 12 → gI Sm' 56 k = gI Sm 56 k) (hn : RC nW nP Sc' Sm') : Inv b nW nP nB law Sc' Sm' := by
  obtain ⟨g0, g1, g2, g3, g4, g5, g6, g7, g8, g9⟩ := h
  refine ⟨Shp_of g0 (hr 2) (hr 23), RO_of g1 (fun c h => hc c (by omega)) (fun c h => hm c (by omega)) (h56 1 (by decide) (by decide)) (h56 7 (by decide) (by decide)), hn, RT_of g3 (by rw [hc 13 (by omega)]) (hc 14 (by omega)) (h56 18 (by decide) (by decide)) (hm 69 (by omega)), RL_of g4 (by rw [hc 13 (by omega)]) (hc 15 (by omega)) (hc 16 (by omega)) (hr 13) (h56 30 (by decide) (by decide)) (hm 70 (by omega)) (hm 71 (by omega)) (hm 72 (by omega)) (hm 73 (by omega)) (hm 74 (by omega)), RS_of g5 (fun c h => hc c (by omega)) (fun c h => hm c (by omega)), RB_of g6 (by rw [hc 53 (by omega)]) (by rw [hc 53 (by omega)]) (hc 54 (by omega)) (hc 55 (by omega)) (h56 52 (by decide) (by decide)) (h56 54 (by decide) (by decide)) (hm 91 (by omega)) (hm 92 (by omega)), RD_of g7 (fun c h => hc c (by omega)) (fun c h => hm c (by omega)) (h56 46 (by decide) (by decide)) (h56 47 (by decide) (by decide)) (h56 48 (by decide) (by decide)), RY_of g8 (Nat.le_refl b) (fun c h => hc c (by omega)) (hr 34), RH_of g9 (hr 38) (hc 33 (by omega))⟩
theorem noteJ {S : Mem} {e : Nat} (he : e < 40) (h5 : gI S 48 5 = e) (n w o v : Int) : g_X1_note_J20 n w o v S = some (sI (sI (sI (sI (sI (sI S 49 e n) 50 e w) 51 e o) 52 e v) 48 5 ((e : Int) + 1)) 48 6 ((e : Int) + 1)) := by
  unfold g_X1_note_J20
  rw [h5, stk_c he, bS, gI_ne (by decide), h5, stk_c he, bS, gI_ne (by decide), gI_ne (by decide), h5, stk_c he, bS, gI_ne (by decide), gI_ne (by decide), gI_ne (by decide), h5, stk_c he, bS]
  simp only [ap]
  rw [gI_eq, gI_ne (by decide), gI_ne (by decide), gI_ne (by decide), gI_ne (by decide), h5, w32s (by omega) (by omega)]
theorem note_c {S : Mem} {d : Nat} (hd : d ≤ 40) (h5 : gI S 48 5 = d) (n w o v : Int) : ∃ S', g_X1_note n w o v S = some S' ∧ (∀ c, (c < 48 ∨ 52 < c) → gI S' c = gI S c) ∧ (∀ c, gR S' c = gR S c) ∧ ∃ e : Nat, e < 40 ∧ e = (if d < 40 then d else 39) ∧ gI S' 48 5 = (e : Int) + 1 ∧ gI S' 48 6 = (e : Int) + 1 ∧ Rw S S' 49 d e n ∧ Rw S S' 50 d e w ∧ Rw S S' 51 d e o ∧ Rw S S' 52 d e v := by
  unfold g_X1_note g_X1_note_J16
  rw [h5, if_neg (show ¬ (d : Int) < 0 by omega)]
  by_cases c : d < 40
  · rw [if_pos (by omega), noteJ c h5]
    refine ⟨_, rfl, fun q hq => ?_, fun q => rfl, d, c, by rw [if_pos c], ?_, ?_, ?_, ?_, ?_, ?_⟩
    · rw [gI_ne (by omega), gI_ne (by omega), gI_ne (by omega), gI_ne (by omega), gI_ne (by omega), gI_ne (by omega)]
    · rw [gI_ek (by decide), gI_eq]
    · rw [gI_eq]
    all_goals
      refine ⟨by simp [gI_sI], fun i hi => ?_⟩
      simp [gI_sI, c]
      omega
  · rw [if_neg (by omega)]
    unfold g_X1_dropFirst
    rw [cpk_39, bS, cpk_39, bS, cpk_39, bS, cpk_39, bS]
    simp only [ap]
    rw [bS, noteJ (e := 39) (by decide) (show gI (sI _ 48 5 39) 48 5 = ((39 : Nat) : Int) from gI_eq)]
    refine ⟨_, rfl, fun q hq => ?_, fun q => rfl, 39, by decide, by rw [if_neg c], ?_, ?_, ?_, ?_, ?_, ?_⟩
    · funext k
      simp [gI_sI, gI_cpI]
      omega
    · rw [gI_ek (by decide), gI_eq]
    · rw [gI_eq]
    all_goals
      refine ⟨by simp [gI_sI], fun i hi => ?_⟩
      simp [gI_sI, gI_cpI, c, Nat.add_comm]
      omega

theorem chgL (K : Mem → Option (Int × Mem)) (w n v o : Int) : ∀ (m : Nat) (fu : Nat) (S : Mem), m ≤ 39 → m < fu → ∃ S', g_X10_changes_L34 K w n v o fu ((40 - m : Nat) : Int) S = K S' ∧ (∀ c, (c < 65 ∨ 68 < c) → gI S' c = gI S c) ∧ ∀ q, 65 ≤ q → q ≤ 68 → ∀ i, gI S' q i = gI S q (if 39 - m ≤ i ∧ i < 39 then i + 1 else i) := by
  intro m
  induction m with
  | zero =>
    intro fu S _ hf
    obtain ⟨fu, rfl⟩ : ∃ k, fu = k + 1 := ⟨fu - 1, by omega⟩
    unfold g_X10_changes_L34
    rw [if_pos (by decide)]
    exact ⟨S, rfl, fun _ _ => rfl, fun q _ _ i => by rw [if_neg (by omega)]⟩
  | succ m ih =>
    intro fu S hm hf
    obtain ⟨fu, rfl⟩ : ∃ k, fu = k + 1 := ⟨fu - 1, by omega⟩
    unfold g_X10_changes_L34
    have e1 : w32 (((40 - (m + 1) : Nat) : Int) - 1) = ((39 - (m + 1) : Nat) : Int) := by rw [w32s (by omega) (by omega)]; omega
    have e2 : w32 (((40 - (m + 1) : Nat) : Int) + 1) = ((40 - m : Nat) : Int) := by rw [w32s (by omega) (by omega)]; omega
    have k1 : 40 - (m + 1) < 40 := by omega
    have k2 : 39 - (m + 1) < 40 := by omega
    rw [if_neg (by omega), e1, e2, ldk_c k1, bS, stk_c k2, bS, ldk_c k1, bS, stk_c k2, bS, ldk_c k1, bS, stk_c k2, bS, ldk_c k1, bS, stk_c k2, bS]
    obtain ⟨S', h1, h2, h3⟩ := ih fu _ (by omega) (by omega)
    refine ⟨S', h1, fun c hc => ?_, fun q ha hb i => ?_⟩
    · rw [h2 c hc, gI_ne (by omega), gI_ne (by omega), gI_ne (by omega), gI_ne (by omega)]
    · rw [h3 q ha hb]
      have key : ∀ x, gI (sI (sI (sI (sI S 65 (39 - (m + 1)) (gI S 65 (40 - (m + 1)))) 66 (39 - (m + 1)) (gI S 66 (40 - (m + 1)))) 67 (39 - (m + 1)) (gI S 67 (40 - (m + 1)))) 68 (39 - (m + 1)) (gI S 68 (40 - (m + 1)))) q x = if x = 39 - (m + 1) then gI S q (40 - (m + 1)) else gI S q x := fun x => by
        have hq : q = 65 ∨ q = 66 ∨ q = 67 ∨ q = 68 := by omega
        rcases hq with rfl | rfl | rfl | rfl <;> simp [gI_sI]
      refine Eq.trans (key _) ?_
      by_cases z : i = 39 - (m + 1)
      · rw [if_neg (show ¬ (39 - m ≤ i ∧ i < 39) by omega), if_pos z, if_pos (by omega), show 40 - (m + 1) = i + 1 by omega]
      · by_cases y : 39 - m ≤ i ∧ i < 39
        · rw [if_pos y, if_neg (by omega), if_pos (by omega)]
        · rw [if_neg y, if_neg z, if_neg (by omega)]
theorem chgJ {S : Mem} {nW nP e : Nat} (hb : nW ≤ 12 ∧ nP ≤ 6) (he : e < 40) (h5 : gI S 56 11 = e) (w n : Nat) (v o : Int) (hw : w < 10) (hn : n < lim nW nP w) : g_X10_changes_J121 w n v o S = some (o, setM (sI (sI (sI (sI (sI S 65 e w) 66 e n) 67 e o) 68 e v) 56 11 ((e : Int) + 1)) n w v) := by
  unfold g_X10_changes_J121
  rw [h5, stk_c he, bS, gI_ne (by decide), h5, stk_c he, bS, gI_ne (by decide), gI_ne (by decide), h5, stk_c he, bS, gI_ne (by decide), gI_ne (by decide), gI_ne (by decide), h5, stk_c he, bS]
  simp only [ap]
  rw [gI_ne (by decide), gI_ne (by decide), gI_ne (by decide), gI_ne (by decide), h5, w32s (by omega) (by omega), lays_n _ nW nP hb n v w hw hn, bS]
/-- the reference notes a change, and then the number becomes the new one -/
theorem chg_m {S : Mem} {nW nP d : Nat} (hb : nW ≤ 12 ∧ nP ≤ 6) (hd : d ≤ 40) (h5 : gI S 56 11 = d) (w n : Nat) (v : Int) (hw : w < 10) (hn : n < lim nW nP w) (hv : mu S w n ≠ v) : ∃ S', g_X10_changes w n v S = some (mu S w n, setM S' n w v) ∧ (∀ c, (c < 56 ∨ (56 < c ∧ c < 65) ∨ 68 < c) → gI S' c = gI S c) ∧ (∀ k, k ≠ 11 → k ≠ 12 → gI S' 56 k = gI S 56 k) ∧ ∃ e : Nat, e < 40 ∧ e = (if d < 40 then d else 39) ∧ gI S' 56 11 = (e : Int) + 1 ∧ gI S' 56 12 = 0 ∧ Rw S S' 65 d e w ∧ Rw S S' 66 d e n ∧ Rw S S' 67 d e (mu S w n) ∧ Rw S S' 68 d e v := by
  unfold g_X10_changes
  rw [valAt_n S nW nP hb n w hw hn, bS, if_neg hv]
  simp only [ap]
  rw [gI_ek (by decide), h5]
  by_cases c : d < 40
  · rw [if_neg (by omega), chgJ hb c (by rw [gI_ek (by decide), h5]) w n v _ hw hn]
    refine ⟨_, rfl, fun q hq => ?_, fun k h1 h2 => ?_, d, c, by rw [if_pos c], ?_, ?_, ?_, ?_, ?_, ?_⟩
    · rw [gI_ne (by omega), gI_ne (by omega), gI_ne (by omega), gI_ne (by omega), gI_ne (by omega), gI_ne (by omega)]
    · rw [gI_ek h1, gI_ne (by omega), gI_ne (by omega), gI_ne (by omega), gI_ne (by omega), gI_ek h2]
    · rw [gI_eq]
    · rw [gI_ek (by decide), gI_ne (by decide), gI_ne (by decide), gI_ne (by decide), gI_ne (by decide), gI_eq]
    all_goals
      refine ⟨by simp [gI_sI], fun i hi => ?_⟩
      simp [gI_sI, c]
      omega
  · rw [if_pos (by omega)]
    obtain ⟨S1, k1, k2, k3⟩ := chgL (fun S17 => ap (sI S17 56 11 (w32 ((gI S17 56 11) - 1))) fun S18 => g_X10_changes_J121 w n v (mu S w n) S18) w n v (mu S w n) 39 FU (sI S 56 12 0) (by decide) (by unfold FU; decide)
    rw [show (((40 - 39 : Nat) : Nat) : Int) = 1 from rfl] at k1
    rw [k1]
    simp only [ap]
    have d40 : d = 40 := by omega
    have e11 : gI S1 56 11 = 40 := by rw [k2 56 (by omega), gI_ek (by decide), h5, d40]; rfl
    rw [e11, w32s (by decide) (by decide), chgJ hb (e := 39) (by decide) (show gI (sI _ 56 11 (40 - 1)) 56 11 = ((39 : Nat) : Int) from gI_eq) w n v _ hw hn]
    refine ⟨_, rfl, fun q hq => ?_, fun k h1 h2 => ?_, 39, by decide, by rw [if_neg c], ?_, ?_, ?_, ?_, ?_, ?_⟩
    · rw [gI_ne (by omega), gI_ne (by omega), gI_ne (by omega), gI_ne (by omega), gI_ne (by omega), gI_ne (by omega), k2 q (by omega), gI_ne (by omega)]
    · rw [gI_ek h1, gI_ne (by omega), gI_ne (by omega), gI_ne (by omega), gI_ne (by omega), gI_ek h1, k2 56 (by omega), gI_ek h2]
    · rw [gI_eq]
    · rw [gI_ek (by decide), gI_ne (by decide), gI_ne (by decide), gI_ne (by decide), gI_ne (by decide), gI_ek (by decide), k2 56 (by omega), gI_eq]
    all_goals
      refine ⟨by simp [gI_sI], fun i hi => ?_⟩
      have z : i ≠ 39 := by omega
      simp [gI_sI, c, z]
      rw [k3 _ (by decide) (by decide), if_pos (by omega), gI_ne (by decide)]
